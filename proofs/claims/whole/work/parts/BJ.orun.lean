/-! orders: all clauses, by both -/
theorem o_times {n T s e3 len tm : Nat} {M : zM} {c : zCl} {cf vf K0 : Nat → Int} (hv : 0 ≤ c.1 ∧ c.1 < 3) (hT4 : T ≤ 400) (hcell : ∀ i, i < T → K0 (2666 + i) = cf i ∧ K0 (5466 + i) = vf i) (hti : zTi cf vf T s e3 c) (hWr : c.1 < 2 → ∀ W : Nat → Int, (∀ i, wr (W i) = W i) → ∀ x, c.2.1 W = some x → wr x = x) (htm : c.2.2.2 = (tm : Int)) (ht20 : tm ≤ 20) :
    ∀ (d time : Nat) (q : zAs) (dn B : Nat), time + d = tm → aOk q n B M K0 → B + d < 2000000000 → dn + d < 50000 →
    ∃ o : Option (Nat × zAs), (∀ w, o = some w → aOk w.2 n (B + w.1) M K0 ∧ w.1 ≤ d) ∧
    (∀ (σ : st_S) (Q : Int → st_S → Prop) (k9 : Int → Int → st_S → Prop) (i b : Nat), sC' σ q n B M → zDr σ len → zCi σ i len c b → (o = none → ∀ (k : Int) τ, zOc σ τ → Q k (sI τ 52 0 (i : Int))) → (∀ w, o = some w → ∀ τ, zOc σ τ → sC' τ w.2 n (B + w.1) M → k9 ((dn + w.1 : Nat) : Int) ((i + 1 : Nat) : Int) τ) → L_X7_run_28 Q k9 (d + 1) (dn : Int) (i : Int) (b : Int) (time : Int) σ) ∧
    (∀ (σ : st_S) (Q : Int → st_S → Prop) (l3 : Int), sM' σ q dn → gI σ 0 43 = ((2400 + s : Nat) : Int) → (o = none → ∀ υ, zOm σ υ → Q 0 υ) → (∀ w, o = some w → ∀ υ, zOm σ υ → sM' υ w.2 (dn + w.1) → Q 1 (sI υ 0 43 l3)) → L_X11_runs_19 Q (d + 1) ((2400 + T : Nat) : Int) c.2.2.2 l3 (time : Int) σ) := by
  intro d
  induction d with
  | zero =>
    intro time q dn B ht hA hB hd
    refine ⟨some (0, q), fun w e => by cases Option.some.inj e; exact ⟨hA, Nat.le_refl _⟩, fun σ Q k9 i b hs hD hC h0 h1 => ?_, fun σ Q l3 hs h43 h0 h1 => ?_⟩
    · refine ⟨ixn hC.1, fun _ => ?_, fun w => absurd (by rw [Int.toNat_natCast, hC.2.2.1, htm]; omega) w⟩
      intro y ey
      have := hC.1
      rw [wks (by omega)] at ey
      subst ey
      exact h1 (0, q) rfl σ zOc_rfl hs
    · refine ⟨fun _ => ?_, fun w => absurd (by rw [htm]; omega) w⟩
      intro s38 e38
      subst e38
      exact h1 (0, q) rfl σ zOm_rfl hs
  | succ d ih =>
    intro time q dn B ht hA hB hd
    obtain ⟨o1, a1, c1, m1⟩ := o_step (len := len) (dn := dn) hA (by omega) (by omega) hv hT4 hcell hti (fun c2 x hx => hWr c2 _ (oW_c hA.1 hA.2.1 hA.2.2.1 (by omega) (by omega)) x hx)
    cases eo : o1 with
    | none =>
      refine ⟨none, fun w e => absurd e (by simp), fun σ Q k9 i b hs hD hC h0 h1 => ?_, fun σ Q l3 hs h43 h0 h1 => ?_⟩
      · exact c1 σ Q k9 i b time (d + 1) hs hD hC (by rw [htm]; omega) (by omega) (fun _ τ z => h0 rfl _ τ z) (fun w e => by rw [eo] at e; exact absurd e (by simp))
      · exact m1 σ Q l3 time (d + 1) hs h43 (by rw [htm]; omega) (by omega) (fun _ υ z => h0 rfl υ z) (fun w e => by rw [eo] at e; exact absurd e (by simp))
    | some w1 =>
      have b1 : b2 w1.1 ≤ 1 := by unfold b2; split <;> decide
      obtain ⟨o2, a2, c2, m2⟩ := ih (time + 1) w1.2 (dn + b2 w1.1) (B + b2 w1.1) (by omega) (a1 w1 eo) (by omega) (by omega)
      refine ⟨o2.map (fun w => (b2 w1.1 + w.1, w.2)), fun w e => ?_, fun σ Q k9 i b hs hD hC h0 h1 => ?_, fun σ Q l3 hs h43 h0 h1 => ?_⟩
      · rw [Option.map_eq_some_iff] at e
        obtain ⟨w', e1, e2⟩ := e
        subst e2
        obtain ⟨y1, y2⟩ := a2 w' e1
        refine ⟨?_, by show b2 w1.1 + w'.1 ≤ d + 1; omega⟩
        show aOk w'.2 n (B + (b2 w1.1 + w'.1)) M K0
        rw [← Nat.add_assoc]
        exact y1
      · refine c1 σ Q k9 i b time (d + 1) hs hD hC (by rw [htm]; omega) (by omega) (fun e => by rw [eo] at e; exact absurd e (by simp)) (fun w e τ z S1 => ?_)
        cases Option.some.inj (eo.symm.trans e)
        refine c2 τ Q k9 i b S1 (zDr_of hD z) (zCi_of hC z) (fun e2 k χ y => h0 (by rw [e2]; rfl) k χ (zOc_tr z y)) (fun w' e2 χ y S2 => ?_)
        have := h1 (b2 w1.1 + w'.1, w'.2) (by rw [e2]; rfl) χ (zOc_tr z y) (by show sC' χ w'.2 n (B + (b2 w1.1 + w'.1)) M; rw [← Nat.add_assoc]; exact S2)
        rw [show dn + (b2 w1.1 + w'.1) = dn + b2 w1.1 + w'.1 by omega] at this
        exact this
      · refine m1 σ Q l3 time (d + 1) hs h43 (by rw [htm]; omega) (by omega) (fun e => by rw [eo] at e; exact absurd e (by simp)) (fun w e υ z S1 => ?_)
        cases Option.some.inj (eo.symm.trans e)
        refine m2 υ Q l3 S1 (by rw [z.2 _ _ (by omega) (by decide) (by decide) (by omega)]; exact h43) (fun e2 χ y => h0 (by rw [e2]; rfl) χ (zOm_tr z y)) (fun w' e2 χ y S2 => ?_)
        refine h1 (b2 w1.1 + w'.1, w'.2) (by rw [e2]; rfl) χ (zOm_tr z y) ?_
        show sM' χ w'.2 (dn + (b2 w1.1 + w'.1))
        rw [← Nat.add_assoc]
        exact S2
def oAd (k : Nat) (o : Nat ⊕ (Nat × zAs)) : Nat ⊕ (Nat × zAs) := match o with
  | .inl k' => .inl k'
  | .inr w => .inr (k + w.1, w.2)
def zOn (σ τ : st_S) : Prop := τ.2 = σ.2 ∧ ∀ c j, ¬ (c = 0 ∧ (j = 8 ∨ (22 ≤ j ∧ j ≤ 24) ∨ j = 28 ∨ (42 ≤ j ∧ j ≤ 48))) → c ≠ 12 → c ≠ 13 → ¬ (c = 2 ∧ j < 34) → gI τ c j = gI σ c j
theorem zOn_rfl {σ : st_S} : zOn σ σ := ⟨rfl, fun _ _ _ _ _ _ => rfl⟩
theorem zOn_tr {σ τ υ : st_S} (h : zOn σ τ) (g : zOn τ υ) : zOn σ υ := ⟨g.1.trans h.1, fun c j a b d e => (g.2 c j a b d e).trans (h.2 c j a b d e)⟩
theorem zOn_m {σ τ : st_S} (h : zOm σ τ) : zOn σ τ := ⟨h.1, fun c j a b d e => h.2 c j (by omega) b d e⟩
set_option maxHeartbeats 400000 in
theorem o_run {n T len : Nat} {M : zM} {l : List zCl} {cf vf K0 : Nat → Int} {ts : Nat → Nat} (hT4 : T ≤ 400) (hcell : ∀ i, i < T → K0 (2666 + i) = cf i ∧ K0 (5466 + i) = vf i) (l12 : l.length ≤ 12) (htl : T + 1 = ts l.length)
    (htx : ∀ j, j < l.length → ∃ e3, ts (j + 1) = e3 + 1 ∧ zTi cf vf T (ts j) e3 (l.getD j zC0)) (hcl : ∀ j, j < l.length → (0 ≤ (l.getD j zC0).1 ∧ (l.getD j zC0).1 < 3) ∧ (1 ≤ (l.getD j zC0).2.2.2 ∧ (l.getD j zC0).2.2.2 ≤ 20) ∧ ((l.getD j zC0).1 < 2 → ∀ W : Nat → Int, (∀ i, wr (W i) = W i) → ∀ x, (l.getD j zC0).2.1 W = some x → wr x = x)) :
    ∀ (r j : Nat) (q : zAs) (dn B : Nat), j + r = l.length → aOk q n B M K0 → B + 20 * r < 2000000000 → dn + 20 * r < 50000 →
    ∃ o : Nat ⊕ (Nat × zAs), (∀ w, o = .inr w → aOk w.2 n (B + w.1) M K0 ∧ w.1 ≤ 20 * r) ∧ (∀ k, o = .inl k → k < 12) ∧
    (∀ (σ : st_S) (Q : Int → st_S → Prop), sC' σ q n B M → zDr σ len → gI σ 14 7 = (l.length : Int) → (∀ i, i < l.length → ∃ b, zCi σ i len (l.getD i zC0) b) → (∀ k, o = .inl k → ∀ (v : Int) τ, zOc σ τ → Q v (sI τ 52 0 (k : Int))) → (∀ w, o = .inr w → ∀ τ, zOc σ τ → sC' τ w.2 n (B + w.1) M → Q ((dn + w.1 : Nat) : Int) τ) → L_X7_run_9 Q (r + 1) (dn : Int) (j : Int) σ) ∧
    (∀ (σ : st_S) (Q : Int → st_S → Prop) (l1 : Int), sM' σ q dn → gI σ 0 43 = ((2400 + ts j : Nat) : Int) → (∀ k, o = .inl k → ∀ υ, zOn σ υ → ∃ m134 : Nat, L_X11_orders_134 Q m134 l1 (k : Int) 0 υ) → (∀ w, o = .inr w → ∀ υ, zOn σ υ → sM' υ w.2 (dn + w.1) → wp_X11_good ((dn + w.1 : Nat) : Int) υ (fun r79 s80 => Q r79 s80)) → L_X11_orders_112 Q (r + 1) l1 ((2400 + T : Nat) : Int) (j : Int) σ) := by
  intro r
  induction r with
  | zero =>
    intro j q dn B hj hA hB hd
    have ej : j = l.length := by omega
    refine ⟨.inr (0, q), fun w e => by cases Sum.inr.inj e; exact ⟨hA, Nat.le_refl _⟩, fun k e => absurd e (by simp), fun σ Q hs hD h7 hC h0 h1 => ?_, fun σ Q l1 hs h43 h0 h1 => ?_⟩
    · exact ⟨fun _ => h1 (0, q) rfl σ zOc_rfl hs, fun w => absurd (by rw [h7]; omega) w⟩
    · have e43 : gI σ 0 43 = ((2400 + (T + 1) : Nat) : Int) := by rw [h43, ej, ← htl]
      refine ⟨fun _ => ?_, fun w => absurd (by rw [e43]; omega) w⟩
      have := h1 (0, q) rfl σ zOn_rfl hs
      rw [hs.2.2.2]
      exact this
  | succ r ih =>
    intro j q dn B hj hA hB hd
    have jl : j < l.length := by omega
    obtain ⟨e3, et, hti⟩ := htx j jl
    obtain ⟨cv, ct, cw⟩ := hcl j jl
    generalize ec : l.getD j zC0 = c at hti cv ct cw
    obtain ⟨tm, etm⟩ : ∃ tm : Nat, c.2.2.2 = (tm : Int) := ⟨c.2.2.2.toNat, by omega⟩
    obtain ⟨o1, a1, c1, m1⟩ := o_times (len := len) (tm := tm) cv hT4 hcell hti cw etm (by omega) tm 0 q dn B (by omega) hA (by omega) (by omega)
    -- the reference's walk ahead
    have ahead : ∀ (σ : st_S) (Q : Int → st_S → Prop), sM' σ q dn → gI σ 0 43 = ((2400 + ts j : Nat) : Int) → (∀ s63, zOm σ s63 → sM' s63 q dn → ∃ m19 : Nat, L_X11_runs_19 Q m19 ((2400 + T : Nat) : Int) c.2.2.2 ((2400 + ts (j + 1) : Nat) : Int) 0 s63) → wp_X11_runs ((2400 + T : Nat) : Int) σ Q := by
      intro σ Q hs h43 h
      obtain ⟨ts1, ts2, e1, e2, te1, te2, te3, te4, te5, te6⟩ := hti
      have hWc := oW_c (dn := dn) hA.1 hA.2.1 hA.2.2.1 (by omega) (by omega)
      refine m_along (K := q.1) (dn := dn) (W := oW q.1 n dn) (v := c.1) (tm := c.2.2.2) (D := c.2.1) (te := c.2.2.1) (e1 := e1) (e2 := e2) (e3 := e3) hA.1 hs.1 hT4 (fun i hi => ?_) rfl hWc (Or.inl rfl) hs.2.2.2 h43 ts1 ts2 cv te1 te2 te3 te4 te5 te6 (fun τ z g45 g44 g22 gl => ?_)
      · have := hcell i hi
        rw [hs.1, hA.2.2.2.2 _ (by omega), hA.2.2.2.2 _ (by omega)]
        exact this
      · intro x65 ex65 x67 ex67
        rw [g44] at ex65
        rw [g22, ← et] at ex67
        subst ex65
        subst ex67
        exact h τ (zOm_G z) ⟨by rw [← hs.1]; exact funext fun j => z.2 2 j (by omega) (by decide), by rw [← hs.2.1]; exact funext fun j => z.2 13 j (by omega) (by decide), by rw [z.2 _ _ (by omega) (by decide)]; exact hs.2.2.1, by rw [z.2 _ _ (by omega) (by decide)]; exact hs.2.2.2⟩
    have tsT : ts j < T := hti.1
    cases eo : o1 with
    | none =>
      refine ⟨.inl j, fun w e => absurd e (by simp), fun k e => by cases Sum.inl.inj e; omega, fun σ Q hs hD h7 hC h0 h1 => ?_, fun σ Q l1 hs h43 h0 h1 => ?_⟩
      · obtain ⟨b, hb⟩ := hC j jl
        rw [ec] at hb
        refine ⟨fun w => absurd w (by rw [h7]; omega), fun _ => ⟨ixn (by omega), ?_⟩⟩
        intro x86 e86
        rw [Int.toNat_natCast, hb.2.2.2.1] at e86
        subst e86
        exact ⟨tm + 1, c1 σ Q (L_X7_run_9 Q (r + 1)) j b hs hD hb (fun _ k τ z => h0 j rfl k τ z) (fun w e => by rw [eo] at e; exact absurd e (by simp))⟩
      · refine ⟨fun w => absurd w (by rw [h43]; omega), fun _ => ahead σ _ hs h43 (fun s63 z sm => ⟨tm + 1, m1 s63 _ _ sm (by rw [z.2 _ _ (by omega) (by decide) (by decide) (by omega)]; exact h43) (fun _ υ y => ⟨fun _ => h0 j rfl υ (zOn_m (zOm_tr z y)), fun w => absurd rfl w⟩) (fun w e => by rw [eo] at e; exact absurd e (by simp))⟩)⟩
    | some w1 =>
      obtain ⟨y1, y2⟩ := a1 w1 eo
      obtain ⟨o2, a2, k2, c2, m2⟩ := ih (j + 1) w1.2 (dn + w1.1) (B + w1.1) (by omega) y1 (by omega) (by omega)
      refine ⟨oAd w1.1 o2, fun w e => ?_, fun k e => ?_, fun σ Q hs hD h7 hC h0 h1 => ?_, fun σ Q l1 hs h43 h0 h1 => ?_⟩
      · cases e2 : o2 with
        | inl k => rw [e2] at e; exact absurd e (by simp [oAd])
        | inr w' =>
          rw [e2] at e
          have e' : (Sum.inr (w1.1 + w'.1, w'.2) : Nat ⊕ (Nat × zAs)) = .inr w := e
          cases Sum.inr.inj e'
          obtain ⟨z1, z2⟩ := a2 w' e2
          refine ⟨?_, by show w1.1 + w'.1 ≤ 20 * (r + 1); omega⟩
          show aOk w'.2 n (B + (w1.1 + w'.1)) M K0
          rw [← Nat.add_assoc]
          exact z1
      · cases e2 : o2 with
        | inl k' => rw [e2] at e; have e' : (Sum.inl k' : Nat ⊕ (Nat × zAs)) = .inl k := e; have ek := Sum.inl.inj e'; rw [← ek]; exact k2 k' e2
        | inr w' => rw [e2] at e; exact absurd e (by simp [oAd])
      · obtain ⟨b, hb⟩ := hC j jl
        rw [ec] at hb
        refine ⟨fun w => absurd w (by rw [h7]; omega), fun _ => ⟨ixn (by omega), ?_⟩⟩
        intro x86 e86
        rw [Int.toNat_natCast, hb.2.2.2.1] at e86
        subst e86
        refine ⟨tm + 1, c1 σ Q (L_X7_run_9 Q (r + 1)) j b hs hD hb (fun e => by rw [eo] at e; exact absurd e (by simp)) (fun w e τ z S1 => ?_)⟩
        cases Option.some.inj (eo.symm.trans e)
        refine c2 τ Q S1 (zDr_of hD z) (by rw [z.2 _ _ (by omega) (by omega) (by omega) (by omega) (by omega)]; exact h7) (fun i hi => ?_) (fun k e2 v χ y => h0 k (by rw [e2]; rfl) v χ (zOc_tr z y)) (fun w' e2 χ y S2 => ?_)
        · obtain ⟨b', hb'⟩ := hC i hi
          exact ⟨b', zCi_of hb' z⟩
        · have := h1 (w1.1 + w'.1, w'.2) (by rw [e2]; rfl) χ (zOc_tr z y) (by show sC' χ w'.2 n (B + (w1.1 + w'.1)) M; rw [← Nat.add_assoc]; exact S2)
          rw [show dn + (w1.1 + w'.1) = dn + w1.1 + w'.1 by omega] at this
          exact this
      · refine ⟨fun w => absurd w (by rw [h43]; omega), fun _ => ahead σ _ hs h43 (fun s63 z sm => ⟨tm + 1, m1 s63 _ _ sm (by rw [z.2 _ _ (by omega) (by decide) (by decide) (by omega)]; exact h43) (fun e => by rw [eo] at e; exact absurd e (by simp)) (fun w e υ y S1 => ⟨fun w => absurd w (by decide), fun _ => ?_⟩)⟩)⟩
        cases Option.some.inj (eo.symm.trans e)
        intro x ex
        rw [wks (by omega)] at ex
        subst ex
        have zn : zOn σ (sI υ 0 43 ((2400 + ts (j + 1) : Nat) : Int)) := zOn_tr (zOn_m (zOm_tr z y)) ⟨rfl, fun c' j' a1 _ _ _ => by rw [gI_sI, if_neg (by omega)]⟩
        refine m2 _ Q l1 ⟨S1.1, S1.2.1, by rw [gI_sI, if_neg (by omega)]; exact S1.2.2.1, by rw [gI_sI, if_neg (by omega)]; exact S1.2.2.2⟩ (by rw [gI_sI, if_pos ⟨rfl, rfl⟩]) (fun k e2 χ y2 => h0 k (by rw [e2]; rfl) χ (zOn_tr zn y2)) (fun w' e2 χ y2 S2 => ?_)
        have := h1 (w1.1 + w'.1, w'.2) (by rw [e2]; rfl) χ (zOn_tr zn y2) (by show sM' χ w'.2 (dn + (w1.1 + w'.1)); rw [← Nat.add_assoc]; exact S2)
        rw [show dn + (w1.1 + w'.1) = dn + w1.1 + w'.1 by omega] at this
        exact this
