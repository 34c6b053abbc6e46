/-! orders: ready to run -/
theorem zTi_tCl {cf vf : Nat → Int} {T s e3 : Nat} {c : zCl} (h : tCl true cf vf T s e3 c) : zTi cf vf T s e3 c := by
  obtain ⟨h1, h2, h3, e1, e2, h4, h5, h6, h7, h8, h9⟩ := h
  exact ⟨h1, h2, e1, e2, h4, h5, h6, h7, h8, h9⟩
theorem zCi_cCl {σ : st_S} {i len : Nat} {c : zCl} (hi : i < 12) (h : cCl σ true i len c) : ∃ b, zCi σ i len c b := by
  obtain ⟨a1, a2, a3, a4, a, b, e, b1, b2, b3, b4, b5, b6, b7, b8, b9, b10⟩ := h
  exact ⟨b, hi, a1, a3, b2, a, e, b1, b3, b4, b6, b7, b8, b9, b10⟩
theorem cCl_b {σ : st_S} {i len : Nat} {c : zCl} (h : cCl σ true i len c) : (0 ≤ c.1 ∧ c.1 < 3) ∧ (1 ≤ c.2.2.2 ∧ c.2.2.2 ≤ 20) ∧ (c.1 < 2 → ∀ W : Nat → Int, (∀ i, wr (W i) = W i) → ∀ x, c.2.1 W = some x → wr x = x) := by
  obtain ⟨a1, a2, a3, a4, a, b, e, b1, b2, b3, b4, b5, b6, b7, b8, b9, b10⟩ := h
  exact ⟨a2, a4, fun c2 W hW x hx => (((b7 c2).2 W hW [] (by decide)).1 x hx).1⟩
theorem zDr_read {τ : st_S} {len : Nat} (k1 : gK τ 53 = 16) (k2 : gK τ 14 = 25) (k3 : gK τ 55 = 0) (k4 : gL τ 55 = 64) (k5 : gL τ 15 = 400) (h6 : gI τ 14 6 = (len : Int)) (hd : len ≤ 400) (ck : cdK true τ 0 len) : zDr τ len := ⟨⟨k1, k2, k3, k4⟩, h6, by rw [k5]; exact hd, hd, fun i hi => (ck i (Nat.zero_le _) hi).1⟩
/-- the reference's kept numbers, orders laid -/
def kOr (K cf vf : Nat → Int) (T : Nat) (i : Nat) : Int := if i = 265 then (T : Int) else if 2666 ≤ i ∧ i < 2666 + T then cf (i - 2666) else if 5466 ≤ i ∧ i < 5466 + T then vf (i - 5466) else K i
theorem kOr_n {K cf vf : Nat → Int} {T i : Nat} (h1 : i ≠ 265) (h2 : ¬ (2666 ≤ i ∧ i < 2666 + T)) (h3 : ¬ (5466 ≤ i ∧ i < 5466 + T)) : kOr K cf vf T i = K i := by unfold kOr; rw [if_neg h1, if_neg h2, if_neg h3]
theorem kOr_c {K cf vf : Nat → Int} {T i : Nat} (hT : T ≤ 400) (h : i < T) : kOr K cf vf T (2666 + i) = cf i ∧ kOr K cf vf T (5466 + i) = vf i := by
  refine ⟨?_, ?_⟩
  · unfold kOr; rw [if_neg (by omega), if_pos (by omega), show 2666 + i - 2666 = i by omega]
  · unfold kOr; rw [if_neg (by omega), if_neg (by omega), if_pos (by omega), show 5466 + i - 5466 = i by omega]
/-- lays 6 gives them -/
theorem kOr_lays {τ : st_S} {K cf vf : Nat → Int} {T : Nat} (hT : T ≤ 400) (h1 : gI τ 2 (259 + 6) = (T : Int)) (h2 : ∀ k, k < T → gI τ 2 (266 + 400 * 6 + k) = cf k ∧ gI τ 2 (3066 + 400 * 6 + k) = vf k) (h3 : ∀ i, i ≠ 259 + 6 → ¬ (266 + 400 * 6 ≤ i ∧ i < 266 + 400 * 6 + T) → ¬ (3066 + 400 * 6 ≤ i ∧ i < 3066 + 400 * 6 + T) → gI τ 2 i = K i) : gI τ 2 = kOr K cf vf T := by
  funext i
  unfold kOr
  by_cases c1 : i = 265
  · rw [if_pos c1, c1]; exact h1
  · rw [if_neg c1]
    by_cases c2 : 2666 ≤ i ∧ i < 2666 + T
    · rw [if_pos c2]
      have := (h2 (i - 2666) (by omega)).1
      rw [show 266 + 400 * 6 + (i - 2666) = i by omega] at this
      exact this
    · rw [if_neg c2]
      by_cases c3 : 5466 ≤ i ∧ i < 5466 + T
      · rw [if_pos c3]
        have := (h2 (i - 5466) (by omega)).2
        rw [show 3066 + 400 * 6 + (i - 5466) = i by omega] at this
        exact this
      · rw [if_neg c3]; exact h3 i c1 (by omega) (by omega)
/-- the reference's store as it will be when the run begins, as far as it counts -/
def uOr (σ : st_S) (K0 : Nat → Int) : st_S := (fun c j => if c = 2 then K0 j else if c = 0 ∧ j = 13 then 0 else if c = 0 ∧ (j = 14 ∨ j = 41) then -1 else gI σ c j, σ.2)
theorem gI_uOr (σ : st_S) (K0 : Nat → Int) (c j : Nat) : gI (uOr σ K0) c j = if c = 2 then K0 j else if c = 0 ∧ j = 13 then 0 else if c = 0 ∧ (j = 14 ∨ j = 41) then -1 else gI σ c j := rfl
theorem uOr_2 (σ : st_S) (K0 : Nat → Int) : gI (uOr σ K0) 2 = K0 := funext fun j => by rw [gI_uOr, if_pos rfl]
theorem uOr_o {σ : st_S} {K0 : Nat → Int} {c j : Nat} (h : c ≠ 2) (h2 : ¬ (c = 0 ∧ (j = 13 ∨ j = 14 ∨ j = 41))) : gI (uOr σ K0) c j = gI σ c j := by rw [gI_uOr, if_neg h, if_neg (by omega), if_neg (by omega)]
/-- the run's outcome, for both -/
theorem o_ready {B T len : Nat} {S0 σm τ : st_S} {l : List zCl} {tp : Nat → Int} {n0 : Nat} (hE : tkE tp n0 T) (hz : zCo B S0 (uOr σm (kOr (gI σm 2) (cdT tp n0) (vlT tp n0) T))) (hk : zK1 S0) (z32 : zcn (gI σm 2 32)) (z30 : zcn (gI σm 2 30)) (hB : B + 240 < 2000000000) (e : pTx true (cdT tp n0) (vlT tp n0) T 12 0 0 = .inr l) (l12 : l.length ≤ 12) (hcl : ∀ j, j < l.length → cCl τ true j len (l.getD j zC0)) :
    ∃ (n m : Nat) (M : zM) (o : Nat ⊕ (Nat × zAs)) (ts : Nat → Nat), ts 0 = 0 ∧ gI σm 0 28 = (m : Int) ∧ m ≤ 16 ∧ dC B S0 (kOr (gI σm 2) (cdT tp n0) (vlT tp n0) T) (gI σm 13) (m : Int) n M ∧ (∀ w, o = .inr w → w.1 ≤ 240) ∧ (∀ k, o = .inl k → k < 12) ∧
    (∀ (σ : st_S) (Q : Int → st_S → Prop), dC B σ (kOr (gI σm 2) (cdT tp n0) (vlT tp n0) T) (gI σm 13) (m : Int) n M → zDr σ len → gI σ 14 7 = (l.length : Int) → (∀ i, i < l.length → ∃ b, zCi σ i len (l.getD i zC0) b) → (∀ k, o = .inl k → ∀ (v : Int) τ, zOc σ τ → Q v (sI τ 52 0 (k : Int))) → (∀ w, o = .inr w → ∀ τ, zOc σ τ → sC' τ w.2 n (B + w.1) M → Q (w.1 : Int) τ) → ∃ f, L_X7_run_9 Q f 0 0 σ) ∧
    (∀ (σ : st_S) (Q : Int → st_S → Prop) (l1 : Int), gI σ 2 = kOr (gI σm 2) (cdT tp n0) (vlT tp n0) T → gI σ 13 = gI σm 13 → gI σ 0 28 = (m : Int) → gI σ 0 42 = 0 → gI σ 0 43 = 2400 → (∀ k, o = .inl k → ∀ υ, zOn σ υ → ∃ m134 : Nat, L_X11_orders_134 Q m134 l1 (k : Int) 0 υ) → (∀ w, o = .inr w → ∀ υ, zOn σ υ → sM' υ w.2 w.1 → wp_X11_good (w.1 : Int) υ (fun r79 s80 => Q r79 s80)) → ∃ f, L_X11_orders_112 Q f l1 ((2400 + T : Nat) : Int) 0 σ) := by
  have hT4 : T ≤ 400 := by have := hE.2.1; have := hE.2.2.1; omega
  generalize eK : kOr (gI σm 2) (cdT tp n0) (vlT tp n0) T = K0 at hz
  have k30 : ∀ i, i < 265 → K0 i = gI σm 2 i := fun i hi => by rw [← eK]; exact kOr_n (by omega) (by omega) (by omega)
  obtain ⟨n, M, m, d, ko, m28, m16⟩ := dC_start hz hk (by rw [uOr_2, k30 32 (by decide)]; exact z32)
  rw [uOr_2] at d ko
  have e13 : gI (uOr σm K0) 13 = gI σm 13 := funext fun j => uOr_o (by decide) (by omega)
  have e28 : gI (uOr σm K0) 0 28 = gI σm 0 28 := uOr_o (by decide) (by omega)
  rw [e13] at d
  rw [e28] at m28
  obtain ⟨ts, t0, tl, tj⟩ := t_text (ord := true) (cf_T hE) hT4 (vl_b tp n0) 12 0 0 l (Nat.zero_le _) (by decide) e
  have hA : aOk (K0, gI σm 13, m) n B M K0 := ⟨ko, by show zcn (K0 30); rw [k30 30 (by decide)]; exact z30, d.2.1.2.1.2.2, m16, fun _ _ => rfl⟩
  obtain ⟨o, a1, a2, c1, m1⟩ := o_run (len := len) (l := l) (ts := ts) (K0 := K0) hT4 (fun i hi => by rw [← eK]; exact kOr_c hT4 hi) l12 tl (fun j hj => by obtain ⟨e3, x1, x2⟩ := tj j hj; exact ⟨e3, x1, zTi_tCl x2⟩) (fun j hj => cCl_b (hcl j hj)) l.length 0 (K0, gI σm 13, m) 0 B (by omega) hA (by omega) (by omega)
  refine ⟨n, m, M, o, ts, t0, m28, m16, d, fun w ew => by have := (a1 w ew).2; omega, a2, fun σ Q hs hD h7 hC h0 h1 => ⟨_, c1 σ Q hs hD h7 hC h0 (fun w ew τ z S => ?_)⟩, fun σ Q l1 g2 g13 g28 g42 g43 h0 h1 => ⟨_, m1 σ Q l1 ⟨g2, g13, g28, g42⟩ (by rw [t0]; exact g43) h0 (fun w ew υ z S => ?_)⟩⟩
  · rw [Nat.zero_add]; exact h1 w ew τ z S
  · rw [Nat.zero_add] at S ⊢; exact h1 w ew υ z S
/-! orders: laid back -/
set_option maxHeartbeats 1000000 in
theorem w_copyFrom6 {t a : Nat} {σ : st_S} {Q : st_S → Prop} (ht : gK σ t = 17) (ha : gK σ a = 17) (hsep : t + 9 < a ∨ a + 9 < t) (hl : ∀ i c, i < 6 → gR σ (a + 9) i = some c → gK σ c = 25) (hQ : ∀ τ, cpT σ τ t a → Q τ) : wp_X1_copyFrom t a σ Q := by
  refine ⟨ha, ht, ?_⟩
  intro s0 e0 s1 e1 s2 e2 s3 e3 s4 e4 s5 e5 s6 e6 s7 e7 s8 e8
  have g0 : ∀ c j, c ≠ t → gI s0 c j = gI σ c j := fun c j h => by rw [e0, gI_sI, if_neg (fun z => h z.1)]
  have g8 : ∀ c j, c < t ∨ t + 8 < c → gI s8 c j = gI σ c j := fun c j h => by
    rw [e8, sC_ne (by omega), e7, sC_ne (by omega), e6, sC_ne (by omega), e5, sC_ne (by omega), e4, sC_ne (by omega), e3, sC_ne (by omega), e2, sC_ne (by omega), e1, sC_ne (by omega), g0 c j (by omega)]
  have gt : ∀ j, gI s8 t j = if j = 0 then gI σ a 0 else gI σ t j := fun j => by
    rw [e8, sC_ne (by omega), e7, sC_ne (by omega), e6, sC_ne (by omega), e5, sC_ne (by omega), e4, sC_ne (by omega), e3, sC_ne (by omega), e2, sC_ne (by omega), e1, sC_ne (by omega), e0, gI_sI]
    by_cases h : j = 0
    · rw [if_pos ⟨rfl, h⟩, if_pos h]
    · rw [if_neg (fun z => h z.2), if_neg h]
  have c1 : ∀ p, p < 10 → gI s8 (t + 1) p = gI σ (a + 1) p := fun p hp => by
    rw [e8, sC_ne (by omega), e7, sC_ne (by omega), e6, sC_ne (by omega), e5, sC_ne (by omega), e4, sC_ne (by omega), e3, sC_ne (by omega), e2, sC_ne (by omega), e1, sC_cp (by show p < 10; omega), g0 _ _ (by omega)]
  have c2 : ∀ p, p < 10 → gI s8 (t + 2) p = gI σ (a + 2) p := fun p hp => by
    rw [e8, sC_ne (by omega), e7, sC_ne (by omega), e6, sC_ne (by omega), e5, sC_ne (by omega), e4, sC_ne (by omega), e3, sC_ne (by omega), e2, sC_cp (by show p < 10; omega), e1, sC_ne (by omega), g0 _ _ (by omega)]
  have c3 : ∀ p, p < 10 → gI s8 (t + 3) p = gI σ (a + 3) p := fun p hp => by
    rw [e8, sC_ne (by omega), e7, sC_ne (by omega), e6, sC_ne (by omega), e5, sC_ne (by omega), e4, sC_ne (by omega), e3, sC_cp (by show p < 10; omega), e2, sC_ne (by omega), e1, sC_ne (by omega), g0 _ _ (by omega)]
  have c4 : ∀ p, p < 10 → gI s8 (t + 4) p = gI σ (a + 4) p := fun p hp => by
    rw [e8, sC_ne (by omega), e7, sC_ne (by omega), e6, sC_ne (by omega), e5, sC_ne (by omega), e4, sC_cp (by show p < 10; omega), e3, sC_ne (by omega), e2, sC_ne (by omega), e1, sC_ne (by omega), g0 _ _ (by omega)]
  have c5 : ∀ p, p < 10 → gI s8 (t + 5) p = gI σ (a + 5) p := fun p hp => by
    rw [e8, sC_ne (by omega), e7, sC_ne (by omega), e6, sC_ne (by omega), e5, sC_cp (by show p < 10; omega), e4, sC_ne (by omega), e3, sC_ne (by omega), e2, sC_ne (by omega), e1, sC_ne (by omega), g0 _ _ (by omega)]
  have c6 : ∀ p, p < 10 → gI s8 (t + 6) p = gI σ (a + 6) p := fun p hp => by
    rw [e8, sC_ne (by omega), e7, sC_ne (by omega), e6, sC_cp (by show p < 10; omega), e5, sC_ne (by omega), e4, sC_ne (by omega), e3, sC_ne (by omega), e2, sC_ne (by omega), e1, sC_ne (by omega), g0 _ _ (by omega)]
  have c7 : ∀ p, p < 100 → gI s8 (t + 7) p = gI σ (a + 7) p := fun p hp => by
    rw [e8, sC_ne (by omega), e7, sC_cp (by show p < 100; omega), e6, sC_ne (by omega), e5, sC_ne (by omega), e4, sC_ne (by omega), e3, sC_ne (by omega), e2, sC_ne (by omega), e1, sC_ne (by omega), g0 _ _ (by omega)]
  have c8 : ∀ p, p < 3 → gI s8 (t + 8) p = gI σ (a + 8) p := fun p hp => by
    rw [e8, sC_cp (by show p < 3; omega), e7, sC_ne (by omega), e6, sC_ne (by omega), e5, sC_ne (by omega), e4, sC_ne (by omega), e3, sC_ne (by omega), e2, sC_ne (by omega), e1, sC_ne (by omega), g0 _ _ (by omega)]
  have x8 : s8.2 = σ.2 := by rw [e8, e7, e6, e5, e4, e3, e2, e1, e0]; rfl
  clear e8 e7 e6 e5 e4 e3 e2 e1 e0 g0
  have key : ∀ k i : Nat, i + k = 6 → ∀ τ, τ.1 = s8.1 → τ.2.2 = σ.2.2 → (∀ c j, c ≠ t + 9 → gR τ c j = gR σ c j) → (∀ j, gR τ (t + 9) j = if j < i then gR σ (a + 9) j else gR σ (t + 9) j) → L_X1_copyFrom_129 Q (k + 1) t a (i : Int) τ := by
    intro k
    induction k with
    | zero =>
      intro i hi τ t1 t2 t3 t4
      have eI : ∀ c j, gI τ c j = gI s8 c j := fun c j => by unfold gI; rw [t1]
      have eKt : gK τ t = 16 + 1 := by unfold gK; rw [t2]; exact ht
      have eKa : gK τ a = 16 + 1 := by unfold gK; rw [t2]; exact ha
      refine ⟨fun _ => ⟨eKa, eKt, ?_⟩, fun z => absurd (show (6 : Int) ≤ (i : Int) by omega) z⟩
      intro u0 h0 u1 h1 u2 h2 u3 h3 u4 h4
      have ga : ∀ j, gI s8 a j = gI σ a j := fun j => g8 a j (by omega)
      have a1 : gI u0 a 11 = gI σ a 11 := by rw [h0, gI_sI, if_neg (by omega), eI, ga]
      have a2 : gI u1 a 12 = gI σ a 12 := by rw [h1, gI_sI, if_neg (by omega), h0, gI_sI, if_neg (by omega), eI, ga]
      have a3 : gI u2 a 13 = gI σ a 13 := by rw [h2, gI_sI, if_neg (by omega), h1, gI_sI, if_neg (by omega), h0, gI_sI, if_neg (by omega), eI, ga]
      have a4 : gI u3 a 14 = gI σ a 14 := by rw [h3, gI_sI, if_neg (by omega), h2, gI_sI, if_neg (by omega), h1, gI_sI, if_neg (by omega), h0, gI_sI, if_neg (by omega), eI, ga]
      rw [a1] at h1
      rw [a2] at h2
      rw [a3] at h3
      rw [a4] at h4
      rw [eI, ga] at h0
      have gu : ∀ c j, ¬ (c = t ∧ 10 ≤ j ∧ j ≤ 14) → gI u4 c j = gI s8 c j := fun c j h => by
        rw [h4, gI_sI, if_neg (by omega), h3, gI_sI, if_neg (by omega), h2, gI_sI, if_neg (by omega), h1, gI_sI, if_neg (by omega), h0, gI_sI, if_neg (by omega), eI]
      refine hQ u4 ⟨?_, ?_, ?_, ?_, ⟨?_, ?_⟩, ?_, ?_, ?_⟩
      · rw [h4, h3, h2, h1, h0]; exact t2
      · intro c j hc
        rw [h4, h3, h2, h1, h0]; exact t3 c j hc
      · intro j
        rw [h4, h3, h2, h1, h0]
        have := t4 j
        rw [show i = 6 by omega] at this
        exact this
      · intro c j hc
        rw [gu c j (by omega)]; exact g8 c j hc
      · rw [gu t 0 (by omega), gt 0, if_pos rfl]
      · intro j j1 j2
        have : j = 10 ∨ j = 11 ∨ j = 12 ∨ j = 13 ∨ j = 14 := by omega
        rcases this with e | e | e | e | e <;> subst e
        · rw [h4, gI_sI, if_neg (by omega), h3, gI_sI, if_neg (by omega), h2, gI_sI, if_neg (by omega), h1, gI_sI, if_neg (by omega), h0, gI_sI, if_pos ⟨rfl, rfl⟩]
        · rw [h4, gI_sI, if_neg (by omega), h3, gI_sI, if_neg (by omega), h2, gI_sI, if_neg (by omega), h1, gI_sI, if_pos ⟨rfl, rfl⟩]
        · rw [h4, gI_sI, if_neg (by omega), h3, gI_sI, if_neg (by omega), h2, gI_sI, if_pos ⟨rfl, rfl⟩]
        · rw [h4, gI_sI, if_neg (by omega), h3, gI_sI, if_pos ⟨rfl, rfl⟩]
        · rw [h4, gI_sI, if_pos ⟨rfl, rfl⟩]
      · intro d p d1 d2 hp
        rw [gu _ _ (by omega)]
        have : d = 1 ∨ d = 2 ∨ d = 3 ∨ d = 4 ∨ d = 5 ∨ d = 6 := by omega
        rcases this with e | e | e | e | e | e <;> subst e
        · exact c1 p hp
        · exact c2 p hp
        · exact c3 p hp
        · exact c4 p hp
        · exact c5 p hp
        · exact c6 p hp
      · intro p hp; rw [gu _ _ (by omega)]; exact c7 p hp
      · intro p hp; rw [gu _ _ (by omega)]; exact c8 p hp
    | succ k ih =>
      intro i hi τ t1 t2 t3 t4
      have eKt : gK τ t = 16 + 1 := by unfold gK; rw [t2]; exact ht
      have eKa : gK τ a = 16 + 1 := by unfold gK; rw [t2]; exact ha
      have ra : ∀ j, gR τ (a + 9) j = gR σ (a + 9) j := fun j => t3 _ _ (by omega)
      refine ⟨fun z => absurd z (by omega), fun _ => ⟨eKt, eKa, ixn (by omega), ixn (by omega), fun c hc => ?_, ?_⟩⟩
      · rw [ra] at hc
        unfold gK; rw [t2]
        exact hl i c (by omega) (by rw [Int.toNat_natCast] at hc; exact hc)
      · intro s es x ex
        rw [wks (by omega)] at ex
        subst ex
        rw [Int.toNat_natCast] at es
        refine ih (i + 1) (by omega) s ?_ ?_ ?_ ?_
        · rw [es]; exact t1
        · rw [es]; exact t2
        · intro c j hc
          rw [es, gR_sR, if_neg (fun z => hc z.1)]
          exact t3 c j hc
        · intro j
          rw [es, gR_sR]
          by_cases e : j = i
          · rw [if_pos ⟨rfl, e⟩, if_pos (by omega), ra, e]
          · rw [if_neg (fun z => e z.2), t4 j]
            by_cases y : j < i
            · rw [if_pos y, if_pos (by omega)]
            · rw [if_neg y, if_neg (by omega)]
  exact ⟨7, key 6 0 (by omega) s8 rfl (by rw [x8]) (fun c j _ => by unfold gR; rw [x8]) (fun j => by rw [if_neg (by omega)]; unfold gR; rw [x8])⟩
theorem zLe_eq {B n : Nat} {f g f' g' : Nat → Int} (hn : n ≤ 10) (h : zLe B f g n) (hf : ∀ j, j < 35 → f' j = f j) (hg : ∀ j, j < 35 → g' j = g j) : zLe B f' g' n := by
  obtain ⟨a1, a2, a3, a4, a5, a6⟩ := h
  refine ⟨by rw [hf 0 (by decide), hg 34 (by decide)]; exact a1, by rw [hf 1 (by decide), hg 33 (by decide)]; exact a2, by rw [hf 2 (by decide), hg 30 (by decide)]; exact a3, by rw [hf 3 (by decide), hg 31 (by decide)]; exact a4, by rw [hf 4 (by decide), hg 32 (by decide)]; exact a5, fun p hp => ⟨by rw [hf (5 + p) (by omega), hg (20 + p) (by omega)]; exact (a6 p hp).1, by rw [hf (15 + p) (by omega), hg p (by omega)]; exact (a6 p hp).2.1, fun w => ?_⟩⟩
  rw [hg p (by omega)] at w
  rw [hf (25 + p) (by omega), hg (10 + p) (by omega)]
  exact (a6 p hp).2.2 w
theorem zLg_eq {B : Nat} {σ τ : st_S} {t : Nat} {L L' : Nat → Int} {k : Int} {n : Nat} (hn : n ≤ 10) (h : zLg B σ t L k n) (g0 : gI τ t 0 = gI σ t 0) (g1 : gI τ t 1 = gI σ t 1) (g2 : ∀ j, j < 560 → gI τ (t + 1) j = gI σ (t + 1) j) (g3 : ∀ j, j < 560 → L' j = L j) : zLg B τ t L' k n := by
  obtain ⟨m, o, h1, h2, h3, h4, h5, h6⟩ := h
  refine ⟨m, o, by rw [g0]; exact h1, h2, h3, by rw [g1]; exact h4, h5, fun i hi => zLe_eq hn (h6 i hi) (fun j hj => ?_) (fun j hj => g3 _ (by omega))⟩
  have r : (o + i) % 16 < 16 := Nat.mod_lt _ (by decide)
  exact g2 _ (by omega)
theorem zCR_bk {B : Nat} {σ τ : st_S} {t : Nat} {K : Nat → Int} (h : zCR B σ t K) (g1 : τ.2.2 = σ.2.2) (g3 : ∀ j, gR τ (t + 9) j = gR σ (t + 9) j) (g5 : gI τ t 0 = gI σ t 0) (g6 : ∀ j, 10 ≤ j → j ≤ 14 → gI τ t j = gI σ t j) (g7 : ∀ d p, 1 ≤ d → d ≤ 6 → p < 10 → gI τ (t + d) p = gI σ (t + d) p) (g8 : ∀ p, p < 100 → gI τ (t + 7) p = gI σ (t + 7) p) (g9 : ∀ p, p < 3 → gI τ (t + 8) p = gI σ (t + 8) p) (g4 : ∀ d j, 65 ≤ d → gI τ d j = gI σ d j) : zCR B τ t K := by
  obtain ⟨n, c1, c2, c3, c4, c5, c6, c7, c8, c9, ca, m, b1, b2, b3, b4, b5, b6, b7, b8⟩ := h
  have hn := c1.2.2
  have eK : ∀ c, gK τ c = gK σ c := fun c => by unfold gK; rw [g1]
  have eL : ∀ c, gL τ c = gL σ c := fun c => by unfold gL; rw [g1]
  refine ⟨n, ⟨by rw [g5]; exact c1.1, c1.2⟩, fun p hp => by rw [g7 1 p (by omega) (by omega) (by omega)]; exact c2 p hp, fun p hp => by rw [g7 2 p (by omega) (by omega) (by omega)]; exact c3 p hp, fun p hp => by rw [g7 3 p (by omega) (by omega) (by omega)]; exact c4 p hp, fun p hp => by rw [g7 4 p (by omega) (by omega) (by omega)]; exact c5 p hp, fun p hp => by rw [g7 5 p (by omega) (by omega) (by omega)]; exact c6 p hp, fun p hp => by rw [g7 6 p (by omega) (by omega) (by omega)]; exact c7 p hp, fun p hp => by rw [g8 p hp]; exact c8 p hp, ?_, ?_, m, by rw [g6 10 (by omega) (by omega)]; exact b1, b2, b3, by rw [g6 11 (by omega) (by omega)]; exact b4, b5, b6, fun i c hc => ?_, fun i hi => ?_⟩
  · unfold zC9
    rw [g9 0 (by omega), g9 1 (by omega), g9 2 (by omega)]
    exact c9
  · unfold zCa
    rw [g6 12 (by omega) (by omega), g6 13 (by omega) (by omega), g6 14 (by omega) (by omega)]
    exact ca
  · rw [g3] at hc
    rw [eK]
    exact b7 i c hc
  · obtain ⟨c, M, q1, q2, q3⟩ := b8 i hi
    have q4 := b7 i c q1
    exact ⟨c, M, by rw [g3]; exact q1, cTx_of q2 (fun d j a1 a2 => g4 d j (by omega)) (fun d _ _ => eL d), q3⟩
theorem zCo_mono {B B' : Nat} {σc σm : st_S} (h : zCo B σc σm) (hb : B ≤ B') : zCo B' σc σm := by
  obtain ⟨h1, ⟨n, h2, h2'⟩, h3, h4⟩ := h
  exact ⟨zCR_mono h1 hb, ⟨n, h2, zLg_mono h2' hb⟩, zImg_mono h3 hb, h4⟩
/-- both have laid back what was kept -/
theorem zCo_bk {B : Nat} {σc σm τc τm : st_S} (h : zCo B σc σm) (hk : τc.2.2 = σc.2.2) (hR : ∀ c j, c ≠ 56 → c ≠ 10 → gR τc c j = gR σc c j) (g5 : gI τc 25 0 = gI σc 25 0) (g6 : ∀ j, 10 ≤ j → j ≤ 14 → gI τc 25 j = gI σc 25 j) (g7 : ∀ d p, 1 ≤ d → d ≤ 6 → p < 10 → gI τc (25 + d) p = gI σc (25 + d) p) (g8 : ∀ p, p < 100 → gI τc (25 + 7) p = gI σc (25 + 7) p) (g9 : ∀ p, p < 3 → gI τc (25 + 8) p = gI σc (25 + 8) p) (g4 : ∀ d j, 65 ≤ d → gI τc d j = gI σc d j) (l0 : gI τc 39 0 = gI σc 39 0) (l1 : gI τc 39 1 = gI σc 39 1) (l2 : ∀ j, j < 560 → gI τc 40 j = gI σc 40 j) (hs : ∀ c j, (c = 13 ∨ c = 23 ∨ (c = 12 ∧ (j = 1 ∨ j = 3)) ∨ (c = 0 ∧ (j = 12 ∨ j = 13))) → gI τc c j = gI σc c j) (hM : ∀ c j, lsM c j → ¬ (c = 0 ∧ j = 41) → ¬ (c = 13 ∧ 560 ≤ j) → gI τm c j = gI σm c j) (h41 : gI τc 52 0 = gI τm 0 41) : zCo B τc τm := by
  obtain ⟨h1, h2, h3, h4, h5, h6⟩ := h
  have e2 : gI τm 2 = gI σm 2 := funext fun i => hM 2 i (by unfold lsM; omega) (by omega) (by omega)
  have hn : ∃ np : Nat, gI σm 2 256 = (np : Int) ∧ np ≤ 10 := by obtain ⟨np, q1, -⟩ := h1; exact ⟨np, q1.2.1, q1.2.2⟩
  refine ⟨?_, ?_, ?_, ?_, ?_, ?_⟩
  · rw [e2]
    exact zCR_bk h1 hk (fun j => hR 34 j (by decide) (by decide)) g5 g6 g7 g8 g9 g4
  · obtain ⟨n, a1, a2⟩ := h2
    obtain ⟨np, n1, n2⟩ := hn
    refine ⟨n, by rw [e2]; exact a1, ?_⟩
    rw [hM 0 28 (by unfold lsM; omega) (by omega) (by omega)]
    exact zLg_eq (by omega) a2 l0 l1 l2 (fun j hj => hM 13 j (by unfold lsM; omega) (by omega) (by omega))
  · exact zImg_of h3 hk (fun c j q => hR c j (by omega) (by omega)) (fun c q j => g4 c j q) (fun c j q => hM c j (by unfold lsM; omega) (by omega) (by omega))
  · obtain ⟨n, a1, a2, a3, a4⟩ := h4
    refine ⟨n, ?_, ?_, a3, ?_⟩
    · rw [hs 12 1 (by omega)]; exact a1
    · rw [hM 0 13 (by unfold lsM; omega) (by omega) (by omega)]; exact a2
    · intro i hi
      rw [hs 13 i (by omega), hM 7 i (by unfold lsM; omega) (by omega) (by omega)]
      exact a4 i hi
  · intro i hi
    rw [hM 6 i (by unfold lsM; omega) (by omega) (by omega)]
    exact h5 i hi
  · obtain ⟨⟨n, a1, a2, a3, a4⟩, b1, b2, b3⟩ := h6
    refine ⟨⟨n, ?_, ?_, a3, ?_⟩, ?_, ?_, h41⟩
    · rw [hs 0 12 (by omega)]; exact a1
    · rw [hM 0 50 (by unfold lsM; omega) (by omega) (by omega)]; exact a2
    · intro k hk
      rw [hs 23 k (by omega), hM 25 k (by unfold lsM; omega) (by omega) (by omega)]
      exact a4 k hk
    · rw [hs 0 13 (by omega), hM 0 6 (by unfold lsM; omega) (by omega) (by omega)]; exact b1
    · rw [hs 12 3 (by omega), hM 0 14 (by unfold lsM; omega) (by omega) (by omega)]; exact b2
