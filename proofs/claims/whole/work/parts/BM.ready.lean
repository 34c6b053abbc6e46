/-! orders: ready to run -/
theorem zTi_tCl {cf vf : Nat → Int} {T s e3 : Nat} {c : zCl} (h : tCl true cf vf T s e3 c) : zTi cf vf T s e3 c := by
  obtain ⟨h1, h2, h3, e1, e2, h4, h5, h6, h7, h8, h9⟩ := h
  exact ⟨h1, h2, e1, e2, h4, h5, h6, h7, h8, h9⟩
theorem zCi_cCl {σ : st_S} {i len : Nat} {c : zCl} (hi : i < 12) (h : cCl σ true i len c) : ∃ b, zCi σ i len c b := by
  obtain ⟨a1, a2, a3, a4, a, b, e, b1, b2, b3, b4, b5, b6, b7, b8, b9, b10⟩ := h
  exact ⟨b, hi, a1, a3, b2, a, e, b1, b3, b4, b6, b7, b8, b9, b10⟩
theorem cCl_b {σ : st_S} {i len : Nat} {c : zCl} (h : cCl σ true i len c) : (0 ≤ c.1 ∧ c.1 < 3) ∧ (1 ≤ c.2.2.2 ∧ c.2.2.2 ≤ 20) ∧ (c.1 < 2 → ∀ W : Nat → Int, (∀ i, wr (W i) = W i) → ∀ x, c.2.1 W = some x → wr x = x) := by
  obtain ⟨a1, a2, a3, a4, a, b, e, b1, b2, b3, b4, b5, b6, b7, b8, b9, b10⟩ := h
  exact ⟨a2, a4, fun c2 W hW x hx => (((b7 c2).2 W hW [] (by decide)).1 x hx).1⟩
theorem zDr_read {τ : st_S} {len : Nat} (k1 : gK τ 53 = 16) (k2 : gK τ 14 = 25) (k3 : gK τ 55 = 0) (k4 : gL τ 55 = 64) (k5 : gL τ 15 = 400) (h6 : gI τ 14 6 = (len : Int)) (hd : len ≤ 400) (ck : cdK true τ 0 len) : zDr τ len := ⟨⟨k1, k2, k3, k4⟩, h6, by rw [k5]; exact hd, hd, fun i hi => (ck i (Nat.zero_le _) hi).1⟩
/-- the reference's kept numbers, orders laid -/
def kOr (K cf vf : Nat → Int) (T : Nat) (i : Nat) : Int := if i = 265 then (T : Int) else if 2666 ≤ i ∧ i < 2666 + T then cf (i - 2666) else if 5466 ≤ i ∧ i < 5466 + T then vf (i - 5466) else K i
theorem kOr_n {K cf vf : Nat → Int} {T i : Nat} (h1 : i ≠ 265) (h2 : ¬ (2666 ≤ i ∧ i < 2666 + T)) (h3 : ¬ (5466 ≤ i ∧ i < 5466 + T)) : kOr K cf vf T i = K i := by unfold kOr; rw [if_neg h1, if_neg h2, if_neg h3]
theorem kOr_c {K cf vf : Nat → Int} {T i : Nat} (hT : T ≤ 400) (h : i < T) : kOr K cf vf T (2666 + i) = cf i ∧ kOr K cf vf T (5466 + i) = vf i := by
  refine ⟨?_, ?_⟩
  · unfold kOr; rw [if_neg (by omega), if_pos (by omega), show 2666 + i - 2666 = i by omega]
  · unfold kOr; rw [if_neg (by omega), if_neg (by omega), if_pos (by omega), show 5466 + i - 5466 = i by omega]
/-- lays 6 gives them -/
theorem kOr_lays {τ : st_S} {K cf vf : Nat → Int} {T : Nat} (hT : T ≤ 400) (h1 : gI τ 2 (259 + 6) = (T : Int)) (h2 : ∀ k, k < T → gI τ 2 (266 + 400 * 6 + k) = cf k ∧ gI τ 2 (3066 + 400 * 6 + k) = vf k) (h3 : ∀ i, i ≠ 259 + 6 → ¬ (266 + 400 * 6 ≤ i ∧ i < 266 + 400 * 6 + T) → ¬ (3066 + 400 * 6 ≤ i ∧ i < 3066 + 400 * 6 + T) → gI τ 2 i = K i) : gI τ 2 = kOr K cf vf T := by
  funext i
  unfold kOr
  by_cases c1 : i = 265
  · rw [if_pos c1, c1]; exact h1
  · rw [if_neg c1]
    by_cases c2 : 2666 ≤ i ∧ i < 2666 + T
    · rw [if_pos c2]
      have := (h2 (i - 2666) (by omega)).1
      rw [show 266 + 400 * 6 + (i - 2666) = i by omega] at this
      exact this
    · rw [if_neg c2]
      by_cases c3 : 5466 ≤ i ∧ i < 5466 + T
      · rw [if_pos c3]
        have := (h2 (i - 5466) (by omega)).2
        rw [show 3066 + 400 * 6 + (i - 5466) = i by omega] at this
        exact this
      · rw [if_neg c3]; exact h3 i c1 (by omega) (by omega)
/-- the reference's store as it will be when the run begins, as far as it counts -/
def uOr (σ : st_S) (K0 : Nat → Int) : st_S := (fun c j => if c = 2 then K0 j else if c = 0 ∧ j = 13 then 0 else if c = 0 ∧ (j = 14 ∨ j = 41) then -1 else gI σ c j, σ.2)
theorem gI_uOr (σ : st_S) (K0 : Nat → Int) (c j : Nat) : gI (uOr σ K0) c j = if c = 2 then K0 j else if c = 0 ∧ j = 13 then 0 else if c = 0 ∧ (j = 14 ∨ j = 41) then -1 else gI σ c j := rfl
theorem uOr_2 (σ : st_S) (K0 : Nat → Int) : gI (uOr σ K0) 2 = K0 := funext fun j => by rw [gI_uOr, if_pos rfl]
theorem uOr_o {σ : st_S} {K0 : Nat → Int} {c j : Nat} (h : c ≠ 2) (h2 : ¬ (c = 0 ∧ (j = 13 ∨ j = 14 ∨ j = 41))) : gI (uOr σ K0) c j = gI σ c j := by rw [gI_uOr, if_neg h, if_neg (by omega), if_neg (by omega)]
/-- the run's outcome, for both -/
theorem o_ready {B T len : Nat} {S0 σm τ : st_S} {l : List zCl} {tp : Nat → Int} {n0 : Nat} (hE : tkE tp n0 T) (hz : zCo B S0 (uOr σm (kOr (gI σm 2) (cdT tp n0) (vlT tp n0) T))) (hk : zK1 S0) (z32 : zcn (gI σm 2 32)) (z30 : zcn (gI σm 2 30)) (hB : B + 240 < 2000000000) (e : pTx true (cdT tp n0) (vlT tp n0) T 12 0 0 = .inr l) (l12 : l.length ≤ 12) (hcl : ∀ j, j < l.length → cCl τ true j len (l.getD j zC0)) :
    ∃ (n m : Nat) (M : zM) (o : Nat ⊕ (Nat × zAs)) (ts : Nat → Nat), ts 0 = 0 ∧ gI σm 0 28 = (m : Int) ∧ m ≤ 16 ∧ dC B S0 (kOr (gI σm 2) (cdT tp n0) (vlT tp n0) T) (gI σm 13) (m : Int) n M ∧ (∀ w, o = .inr w → w.1 ≤ 240) ∧ (∀ k, o = .inl k → k < 12) ∧
    (∀ (σ : st_S) (Q : Int → st_S → Prop), dC B σ (kOr (gI σm 2) (cdT tp n0) (vlT tp n0) T) (gI σm 13) (m : Int) n M → zDr σ len → gI σ 14 7 = (l.length : Int) → (∀ i, i < l.length → ∃ b, zCi σ i len (l.getD i zC0) b) → (∀ k, o = .inl k → ∀ (v : Int) τ, zOc σ τ → Q v (sI τ 52 0 (k : Int))) → (∀ w, o = .inr w → ∀ τ, zOc σ τ → sC' τ w.2 n (B + w.1) M → Q (w.1 : Int) τ) → ∃ f, L_X7_run_9 Q f 0 0 σ) ∧
    (∀ (σ : st_S) (Q : Int → st_S → Prop) (l1 : Int), gI σ 2 = kOr (gI σm 2) (cdT tp n0) (vlT tp n0) T → gI σ 13 = gI σm 13 → gI σ 0 28 = (m : Int) → gI σ 0 42 = 0 → gI σ 0 43 = 2400 → (∀ k, o = .inl k → ∀ υ, zOn σ υ → ∃ m134 : Nat, L_X11_orders_134 Q m134 l1 (k : Int) 0 υ) → (∀ w, o = .inr w → ∀ υ, zOn σ υ → sM' υ w.2 w.1 → wp_X11_good (w.1 : Int) υ (fun r79 s80 => Q r79 s80)) → ∃ f, L_X11_orders_112 Q f l1 ((2400 + T : Nat) : Int) 0 σ) := by
  have hT4 : T ≤ 400 := by have := hE.2.1; have := hE.2.2.1; omega
  generalize eK : kOr (gI σm 2) (cdT tp n0) (vlT tp n0) T = K0 at hz
  have k30 : ∀ i, i < 265 → K0 i = gI σm 2 i := fun i hi => by rw [← eK]; exact kOr_n (by omega) (by omega) (by omega)
  obtain ⟨n, M, m, d, ko, m28, m16⟩ := dC_start hz hk (by rw [uOr_2, k30 32 (by decide)]; exact z32)
  rw [uOr_2] at d ko
  have e13 : gI (uOr σm K0) 13 = gI σm 13 := funext fun j => uOr_o (by decide) (by omega)
  have e28 : gI (uOr σm K0) 0 28 = gI σm 0 28 := uOr_o (by decide) (by omega)
  rw [e13] at d
  rw [e28] at m28
  obtain ⟨ts, t0, tl, tj⟩ := t_text (ord := true) (cf_T hE) hT4 (vl_b tp n0) 12 0 0 l (Nat.zero_le _) (by decide) e
  have hA : aOk (K0, gI σm 13, m) n B M K0 := ⟨ko, by show zcn (K0 30); rw [k30 30 (by decide)]; exact z30, d.2.1.2.1.2.2, m16, fun _ _ => rfl⟩
  obtain ⟨o, a1, a2, c1, m1⟩ := o_run (len := len) (l := l) (ts := ts) (K0 := K0) hT4 (fun i hi => by rw [← eK]; exact kOr_c hT4 hi) l12 tl (fun j hj => by obtain ⟨e3, x1, x2⟩ := tj j hj; exact ⟨e3, x1, zTi_tCl x2⟩) (fun j hj => cCl_b (hcl j hj)) l.length 0 (K0, gI σm 13, m) 0 B (by omega) hA (by omega) (by omega)
  refine ⟨n, m, M, o, ts, t0, m28, m16, d, fun w ew => by have := (a1 w ew).2; omega, a2, fun σ Q hs hD h7 hC h0 h1 => ⟨_, c1 σ Q hs hD h7 hC h0 (fun w ew τ z S => ?_)⟩, fun σ Q l1 g2 g13 g28 g42 g43 h0 h1 => ⟨_, m1 σ Q l1 ⟨g2, g13, g28, g42⟩ (by rw [t0]; exact g43) h0 (fun w ew υ z S => ?_)⟩⟩
  · rw [Nat.zero_add]; exact h1 w ew τ z S
  · rw [Nat.zero_add] at S ⊢; exact h1 w ew υ z S
