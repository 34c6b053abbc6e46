/-! orders: the reference goes along a clause -/
def zGa (σ τ : st_S) : Prop := τ.2 = σ.2 ∧ ∀ c j, ¬ (c = 0 ∧ (j = 8 ∨ (22 ≤ j ∧ j ≤ 24) ∨ (44 ≤ j ∧ j ≤ 48))) → c ≠ 12 → gI τ c j = gI σ c j
theorem zGa_tr {σ τ υ : st_S} (h : zGa σ τ) (g : zGa τ υ) : zGa σ υ := ⟨g.1.trans h.1, fun c j a b => (g.2 c j a b).trans (h.2 c j a b)⟩
def zGb (σ τ : st_S) : Prop := τ.2 = σ.2 ∧ ∀ c j, ¬ (c = 0 ∧ (j = 22 ∨ j = 24 ∨ (44 ≤ j ∧ j ≤ 48))) → gI τ c j = gI σ c j
theorem zGb_rfl {σ : st_S} : zGb σ σ := ⟨rfl, fun _ _ _ => rfl⟩
theorem zGb_tr {σ τ υ : st_S} (h : zGb σ τ) (g : zGb τ υ) : zGb σ υ := ⟨g.1.trans h.1, fun c j a => (g.2 c j a).trans (h.2 c j a)⟩
theorem zGb_E {σ τ : st_S} (h : zE σ τ) : zGb σ τ := ⟨h.1, fun c j a => h.2 c j (by omega)⟩
theorem zGb_s {σ : st_S} {j : Nat} {v : Int} (hj : j = 22 ∨ j = 24 ∨ (44 ≤ j ∧ j ≤ 48)) : zGb σ (sI σ 0 j v) := ⟨rfl, fun c' j' a => by rw [gI_sI, if_neg (by omega)]⟩
theorem zGa_b {σ τ : st_S} (h : zGb σ τ) : zGa σ τ := ⟨h.1, fun c j a _ => h.2 c j (by omega)⟩
theorem mEn_b {ord : Bool} {σ τ : st_S} {base size : Nat} {cf vf W : Nat → Int} (h : mEn ord σ base size cf vf W) (g : zGb σ τ) : mEn ord τ base size cf vf W := by
  obtain ⟨h1, h2, h3, h4, h5, h6⟩ := h
  refine ⟨by rw [g.2 _ _ (by omega)]; exact h1, h2, fun i hi => by rw [g.2 _ _ (by omega), g.2 _ _ (by omega)]; exact h3 i hi, h4, fun e => ?_, fun e => ?_⟩
  · obtain ⟨a, b⟩ := h5 e
    exact ⟨by rw [g.2 _ _ (by omega)]; exact a, fun i hi => by rw [g.2 _ _ (by omega)]; exact b i hi⟩
  · obtain ⟨a, b, n, n1, n2, n3⟩ := h6 e
    refine ⟨by rw [g.2 _ _ (by omega)]; exact a, fun i hi => by rw [g.2 _ _ (by omega)]; exact b i hi, n, n1, by rw [g.2 _ _ (by omega)]; exact n2, fun p hp => ?_⟩
    rw [g.2 _ _ (by omega), g.2 _ _ (by omega)]
    exact n3 p hp
theorem h256 {K : Nat → Int} {n : Nat} {M : zM} (h : kOk K n M) : K 256 = (n : Int) := h.1.choose_spec.1.1.2.1
/-- what a live walk leaves of a clause -/
def gaL (τ : st_S) (W : Nat → Int) (v : Int) (D : zDn) (te : Option zDn) : Prop :=
  ((v < 2 → (D W = none → gI τ 0 46 = 0) ∧ ∀ x, D W = some x → gI τ 0 46 = 1 ∧ gI τ 0 48 = x) ∧ (¬ v < 2 → gI τ 0 46 = 1)) ∧
  (te = none → gI τ 0 47 = 1) ∧ ∀ Dt, te = some Dt → (Dt W = some 1 → gI τ 0 47 = 1) ∧ (¬ Dt W = some 1 → gI τ 0 47 = 0)
set_option maxHeartbeats 1000000 in
theorem m_along {σ : st_S} {K cf vf W : Nat → Int} {n T s e1 e2 e3 dn : Nat} {M : zM} {v tm lv : Int} {D : zDn} {te : Option zDn} {Q : st_S → Prop} (hK : kOk K n M) (eK : gI σ 2 = K) (hT4 : T ≤ 400) (hcell : ∀ i, i < T → gI σ 2 (2666 + i) = cf i ∧ gI σ 2 (5466 + i) = vf i) (eW : W = oW K n dn) (hW : ∀ i, wr (W i) = W i) (hl : lv = 0 ∨ lv = 1) (h42 : gI σ 0 42 = (dn : Int)) (h43 : gI σ 0 43 = ((2400 + s : Nat) : Int))
    (hs : s < T) (hcf : cf s = v + 26) (hv : 0 ≤ v ∧ v < 3) (he : e1 ≤ T ∧ e2 ≤ T ∧ e3 ≤ T) (hsum : v < 2 → tDen (wp_X11_sumOf 60) true cf vf T (s + 1) e1 D) (hns : ¬ v < 2 → e1 = s + 1)
    (htm : (tcf cf T e1 = 29 ∧ true = true ∧ e1 + 1 < T ∧ vf (e1 + 1) = tm ∧ e2 = e1 + 2) ∨ (¬ tcf cf T e1 = 29 ∧ e2 = e1 ∧ tm = 1)) (hn1 : te = none → ¬ tcf cf T e2 = 6 ∧ e3 = e2) (hn2 : ∀ Dt, te = some Dt → tcf cf T e2 = 6 ∧ tDen (wp_X11_testOf 60) true cf vf T (e2 + 1) e3 Dt ∧ ∀ W v, Dt W = some v → v = 0 ∨ v = 1)
    (hQ : ∀ τ, zGa σ τ → gI τ 0 45 = v + 26 → gI τ 0 44 = tm → gI τ 0 22 = ((2400 + (e3 + 1) : Nat) : Int) → (lv = 1 → gaL τ W v D te) → Q τ) : wp_X11_goesAlong ((2400 + T : Nat) : Int) lv σ Q := by
  have kb := kOk_b hK
  have n10 := kOk_n hK
  intro s1 q1 s2 q2 s3 q3 s4 q4 s5 q5 s6 q6 s7 q7 s8 q8
  have K2 : ∀ j, gI s8 2 j = K j := fun j => by
    rw [q8, gI_sI, if_neg (by omega), q7, gI_sI, if_neg (by omega), q6, gI_sI, if_neg (by omega), q5, gI_sI, if_neg (by omega), q4, gI_sI, if_neg (by omega), q3, gI_sI, if_neg (by omega), q2, gI_sI, if_neg (by omega), q1, gI_sI, if_neg (by omega), eK]
  have z8 : zGa σ s8 := ⟨by rw [q8, q7, q6, q5, q4, q3, q2, q1]; rfl, fun c j a b => by rw [q8, gI_sI, if_neg (by omega), q7, gI_sI, if_neg (by omega), q6, gI_sI, if_neg (by omega), q5, gI_sI, if_neg (by omega), q4, gI_sI, if_neg (by omega), q3, gI_sI, if_neg (by omega), q2, gI_sI, if_neg (by omega), q1, gI_sI, if_neg (by omega)]⟩
  have k2s : ∀ (x : st_S) (j : Nat), (∀ c' j', c' = 2 → gI x c' j' = gI σ c' j') → gI x 2 j = K j := fun x j hx => by rw [hx 2 j rfl, eK]
  have a0 : gI s8 12 0 = K 33 := by rw [q8, q7, q6, q5, q4, q3]; simp only [gI_sI, Nat.reduceAdd, Nat.reduceMul, Nat.reduceEqDiff, false_and, true_and, and_false, and_true, reduceIte, Int.toNat_natCast]; rw [q2, q1]; simp only [gI_sI, Nat.reduceAdd, Nat.reduceMul, Nat.reduceEqDiff, false_and, true_and, and_false, and_true, reduceIte, Int.toNat_natCast]; rw [eK]
  have a1 : gI s8 12 1 = K 30 := by rw [q8, q7, q6, q5, q4]; simp only [gI_sI, Nat.reduceAdd, Nat.reduceMul, Nat.reduceEqDiff, false_and, true_and, and_false, and_true, reduceIte, Int.toNat_natCast]; rw [q3, q2, q1]; simp only [gI_sI, Nat.reduceAdd, Nat.reduceMul, Nat.reduceEqDiff, false_and, true_and, and_false, and_true, reduceIte, Int.toNat_natCast]; rw [eK]
  have a2 : gI s8 12 2 = K 31 := by rw [q8, q7, q6, q5]; simp only [gI_sI, Nat.reduceAdd, Nat.reduceMul, Nat.reduceEqDiff, false_and, true_and, and_false, and_true, reduceIte, Int.toNat_natCast]; rw [q4, q3, q2, q1]; simp only [gI_sI, Nat.reduceAdd, Nat.reduceMul, Nat.reduceEqDiff, false_and, true_and, and_false, and_true, reduceIte, Int.toNat_natCast]; rw [eK]
  have a3 : gI s8 12 3 = (dn : Int) := by rw [q8, q7, q6]; simp only [gI_sI, Nat.reduceAdd, Nat.reduceMul, Nat.reduceEqDiff, false_and, true_and, and_false, and_true, reduceIte, Int.toNat_natCast]; rw [q5, q4, q3, q2, q1]; simp only [gI_sI, Nat.reduceAdd, Nat.reduceMul, Nat.reduceEqDiff, false_and, true_and, and_false, and_true, reduceIte, Int.toNat_natCast]; exact h42
  have a4 : gI s8 12 4 = K 32 := by rw [q8, q7]; simp only [gI_sI, Nat.reduceAdd, Nat.reduceMul, Nat.reduceEqDiff, false_and, true_and, and_false, and_true, reduceIte, Int.toNat_natCast]; rw [q6, q5, q4, q3, q2, q1]; simp only [gI_sI, Nat.reduceAdd, Nat.reduceMul, Nat.reduceEqDiff, false_and, true_and, and_false, and_true, reduceIte, Int.toNat_natCast]; rw [eK]
  have f8 : gI s8 0 8 = 19 := by rw [q8, q7, q6, q5, q4, q3, q2, q1]; simp only [gI_sI, Nat.reduceAdd, Nat.reduceMul, Nat.reduceEqDiff, false_and, true_and, and_false, and_true, reduceIte, Int.toNat_natCast]
  have f23 : gI s8 0 23 = ((2400 + T : Nat) : Int) := by rw [q8, q7, q6, q5, q4, q3, q2]; simp only [gI_sI, Nat.reduceAdd, Nat.reduceMul, Nat.reduceEqDiff, false_and, true_and, and_false, and_true, reduceIte, Int.toNat_natCast]
  have f22 : gI s8 0 22 = ((2400 + s : Nat) : Int) := by rw [q8]; simp only [gI_sI, Nat.reduceAdd, Nat.reduceMul, Nat.reduceEqDiff, false_and, true_and, and_false, and_true, reduceIte, Int.toNat_natCast]; rw [q7, q6, q5, q4, q3, q2, q1]; simp only [gI_sI, Nat.reduceAdd, Nat.reduceMul, Nat.reduceEqDiff, false_and, true_and, and_false, and_true, reduceIte, Int.toNat_natCast]; exact h43
  have en : mEn true s8 2400 T cf vf W := by
    refine ⟨f23, by omega, fun i hi => ?_, hW, fun e => absurd e (by decide), fun _ => ⟨f8, fun i hi => ?_, n, n10, ?_, fun p hp => ⟨fun pn => ?_, fun pn => ?_⟩⟩⟩
    · have := hcell i hi
      rw [eK] at this
      rw [K2, K2, show 266 + 2400 + i = 2666 + i by omega, show 3066 + 2400 + i = 5466 + i by omega]
      exact this
    · rw [eW]
      rcases (by omega : i = 0 ∨ i = 1 ∨ i = 2 ∨ i = 3 ∨ i = 4) with w | w | w | w | w <;> subst w
      · exact a0
      · exact a1
      · exact a2
      · exact a3
      · exact a4
    · rw [K2]; exact h256 hK
    · have b := kb.2.2.2 p pn
      rw [K2, K2, eW]
      refine ⟨?_, b.1, b.2, ?_⟩
      · show oW K n dn (5 + p) = _
        unfold oW
        rw [if_neg (by omega), if_neg (by omega), if_neg (by omega), if_neg (by omega), if_neg (by omega), if_pos (by omega), show 5 + p - 5 = p by omega, if_pos pn]
        rfl
      · show oW K n dn (15 + p) = _
        unfold oW
        rw [if_neg (by omega), if_neg (by omega), if_neg (by omega), if_neg (by omega), if_neg (by omega), if_neg (by omega), if_pos (by omega), show 15 + p - 15 = p by omega, if_pos pn]
    · rw [eW]
      refine ⟨?_, ?_⟩
      · show oW K n dn (5 + p) = _
        unfold oW
        rw [if_neg (by omega), if_neg (by omega), if_neg (by omega), if_neg (by omega), if_neg (by omega), if_pos (by omega), show 5 + p - 5 = p by omega, if_neg pn]
      · show oW K n dn (15 + p) = _
        unfold oW
        rw [if_neg (by omega), if_neg (by omega), if_neg (by omega), if_neg (by omega), if_neg (by omega), if_neg (by omega), if_pos (by omega), show 15 + p - 15 = p by omega, if_neg pn]
  -- the test
  have tst : ∀ τ, zGb s8 τ → gI τ 0 22 = ((2400 + e2 : Nat) : Int) → gI τ 0 45 = v + 26 → gI τ 0 44 = tm → (lv = 1 → (v < 2 → (D W = none → gI τ 0 46 = 0) ∧ ∀ x, D W = some x → gI τ 0 46 = 1 ∧ gI τ 0 48 = x) ∧ (¬ v < 2 → gI τ 0 46 = 1)) → B_X11_goesAlong_187 Q lv τ := by
    intro τ z g22 g45 g44 g46
    intro s9 q9
    have z9 : zGb s8 s9 := zGb_tr z (by rw [q9]; exact zGb_s (by omega))
    have g9 : gI s9 0 24 = 0 := by rw [q9]; simp only [gI_sI, Nat.reduceAdd, Nat.reduceMul, Nat.reduceEqDiff, false_and, true_and, and_false, and_true, reduceIte, Int.toNat_natCast]
    have o9 : ∀ j, j ≠ 24 → gI s9 0 j = gI τ 0 j := fun j hj => by rw [q9, gI_sI, if_neg (by omega)]
    -- the end
    have fin : ∀ (υ : st_S) (w : Int), zE s9 υ → gI υ 0 22 = ((2400 + e3 : Nat) : Int) → (w = 0 ∨ w = 1) → (gI υ 0 24 = 0 ∨ gI υ 0 24 = 1) → (lv = 1 → (te = none → w = 1 ∧ gI υ 0 24 = 0) ∧ ∀ Dt, te = some Dt → (Dt W = some 1 → w = 1 ∧ gI υ 0 24 = 0) ∧ (¬ Dt W = some 1 → w = 0 ∨ gI υ 0 24 = 1)) → B_X11_goesAlong_215 Q w υ := by
      intro υ w zu g2 w01 b24 hw
      refine ⟨w01, ?_⟩
      intro s10 q10
      have o10 : ∀ j, j ≠ 47 → gI s10 0 j = gI υ 0 j := fun j hj => by rw [q10, gI_sI, if_neg (by omega)]
      have g47 : gI s10 0 47 = w := by rw [q10]; simp only [gI_sI, Nat.reduceAdd, Nat.reduceMul, Nat.reduceEqDiff, false_and, true_and, and_false, and_true, reduceIte, Int.toNat_natCast]
      have out : ∀ x : Int, (x = 0 ∨ x = 1) → (x = 1 ↔ (w = 1 ∧ gI υ 0 24 = 0)) → B_X11_goesAlong_238 Q x s10 := by
        intro x x01 hx
        refine ⟨x01, ?_⟩
        intro s11 q11 y ey s12 q12
        have e22 : gI s11 0 22 = ((2400 + e3 : Nat) : Int) := by rw [q11, gI_sI, if_neg (by omega), o10 _ (by decide)]; exact g2
        rw [e22, wks (by omega)] at ey
        have o12 : ∀ j, j ≠ 22 → j ≠ 47 → gI s12 0 j = gI υ 0 j := fun j h1 h2 => by rw [q12, gI_sI, if_neg (by omega), q11, gI_sI, if_neg (by omega)]; exact o10 j h2
        have ou : ∀ j, j ≠ 22 → j ≠ 24 → j ≠ 47 → gI s12 0 j = gI τ 0 j := fun j h1 h2 h3 => by rw [o12 j h1 h3, zu.2 0 j (by omega), o9 j h2]
        have x47 : gI s12 0 47 = x := by rw [q12, gI_sI, if_neg (by omega), q11]; simp only [gI_sI, Nat.reduceAdd, Nat.reduceMul, Nat.reduceEqDiff, false_and, true_and, and_false, and_true, reduceIte, Int.toNat_natCast]
        refine hQ s12 (zGa_tr z8 (zGa_b (zGb_tr z9 (zGb_tr (zGb_E zu) (by rw [q12, q11, q10]; exact zGb_tr (zGb_s (by omega)) (zGb_tr (zGb_s (by omega)) (zGb_s (by omega)))))))) (by rw [ou _ (by decide) (by decide) (by decide)]; exact g45) (by rw [ou _ (by decide) (by decide) (by decide)]; exact g44) (by rw [q12, ey]; simp only [gI_sI, Nat.reduceAdd, Nat.reduceMul, Nat.reduceEqDiff, false_and, true_and, and_false, and_true, reduceIte, Int.toNat_natCast]; omega) (fun l1 => ⟨?_, ?_, ?_⟩)
        · have := g46 l1
          rw [ou 46 (by decide) (by decide) (by decide), ou 48 (by decide) (by decide) (by decide)]
          exact this
        · intro e
          rw [x47]
          exact hx.mpr ((hw l1).1 e)
        · intro Dt e
          rw [x47]
          refine ⟨fun c => hx.mpr (((hw l1).2 Dt e).1 c), fun c => ?_⟩
          have q := ((hw l1).2 Dt e).2 c
          rcases x01 with e0 | e0
          · exact e0
          · have := hx.mp e0; omega
      rw [g47]
      refine ⟨fun w0 => out 0 (Or.inl rfl) ⟨fun q => absurd q (by decide), fun q => by omega⟩, fun w0 => ⟨fun b => out 0 (Or.inl rfl) ⟨fun q => absurd q (by decide), fun q => ?_⟩, fun b => out 1 (Or.inr rfl) ⟨fun _ => ⟨by omega, ?_⟩, fun _ => rfl⟩⟩⟩
      · rw [o10 _ (by decide)] at b; omega
      · rw [o10 _ (by decide)] at b; exact b
    have g22' : gI s9 0 22 = ((2400 + e2 : Nat) : Int) := by rw [o9 _ (by decide)]; exact g22
    refine m_passes (mEn_b en z9) (by omega) g22' (fun c6 => ⟨fun w => absurd w (by decide), fun _ => ?_⟩) (fun c6 => ⟨fun _ => ?_, fun w => absurd rfl w⟩)
    · cases ete : te with
      | none => exact absurd c6 (hn1 ete).1
      | some Dt =>
        obtain ⟨_, td, bt⟩ := hn2 Dt ete
        refine td _ 2400 W lv _ (mEn_of (mEn_b en z9) zE_22) (by simp only [gI_sI, Nat.reduceAdd, Nat.reduceMul, Nat.reduceEqDiff, false_and, true_and, and_false, and_true, reduceIte, Int.toNat_natCast]) (by simp only [gI_sI, Nat.reduceAdd, Nat.reduceMul, Nat.reduceEqDiff, false_and, true_and, and_false, and_true, reduceIte, Int.toNat_natCast]; exact Or.inl g9) hl (fun r υ hz => ?_)
        have zu : zE s9 υ := zE_tr zE_22 hz.1
        have b24 : gI υ 0 24 = 0 ∨ gI υ 0 24 = 1 := zR_24 hz (by simp only [gI_sI, Nat.reduceAdd, Nat.reduceMul, Nat.reduceEqDiff, false_and, true_and, and_false, and_true, reduceIte, Int.toNat_natCast]; exact Or.inl g9) hl
        have live : lv = 1 → (∀ x, Dt W = some x → r = x ∧ gI υ 0 24 = 0) ∧ (Dt W = none → gI υ 0 24 = 1) := fun l1 => hz.2.2.1 (by omega) (by simp only [gI_sI, Nat.reduceAdd, Nat.reduceMul, Nat.reduceEqDiff, false_and, true_and, and_false, and_true, reduceIte, Int.toNat_natCast]; exact g9)
        refine ⟨fun r0 => fin υ 0 zu hz.2.1 (Or.inl rfl) b24 (fun l1 => ⟨fun e => absurd (ete.symm.trans e) (by simp), fun Dt' e => ?_⟩), fun r0 => fin υ 1 zu hz.2.1 (Or.inr rfl) b24 (fun l1 => ⟨fun e => absurd (ete.symm.trans e) (by simp), fun Dt' e => ?_⟩)⟩
        · cases Option.some.inj (ete.symm.trans e)
          exact ⟨fun c => by have := ((live l1).1 1 c).1; omega, fun _ => Or.inl rfl⟩
        · cases Option.some.inj (ete.symm.trans e)
          refine ⟨fun c => ⟨rfl, ((live l1).1 1 c).2⟩, fun c => Or.inr ?_⟩
          cases ed : Dt W with
          | none => exact (live l1).2 ed
          | some x =>
            have := ((live l1).1 x ed).1
            rcases bt W x ed with q | q
            · omega
            · rw [ed, q] at c; exact absurd rfl c
    · cases ete : te with
      | none =>
        have e32 := (hn1 ete).2
        exact fin s9 1 zE_rfl (by rw [e32]; exact g22') (Or.inr rfl) (Or.inl g9) (fun l1 => ⟨fun _ => ⟨rfl, g9⟩, fun Dt e => absurd (ete.symm.trans e) (by simp)⟩)
      | some Dt => exact absurd (hn2 Dt ete).1 c6
  -- the times
  have tms : ∀ (τ : st_S) (r : Int), zGb s8 τ → gI τ 0 22 = ((2400 + e1 : Nat) : Int) → gI τ 0 45 = v + 26 → (gI τ 0 24 = 0 ∨ gI τ 0 24 = 1) → (lv = 1 → (v < 2 → (D W = none → gI τ 0 24 = 1) ∧ ∀ x, D W = some x → r = x ∧ gI τ 0 24 = 0) ∧ (¬ v < 2 → gI τ 0 24 = 0)) → B_X11_goesAlong_127 Q lv r τ := by
    intro τ r z g22 g45 b24 hr
    intro s13 q13
    have g24 : gI s13 0 24 = gI τ 0 24 := by rw [q13, gI_sI, if_neg (by omega)]
    have at143 : ∀ x : Int, (x = 0 ∨ x = 1) → (x = 1 ↔ gI τ 0 24 = 0) → B_X11_goesAlong_143 Q lv x s13 := by
      intro x x01 hx
      refine ⟨x01, ?_⟩
      intro s14 q14 s15 q15
      have z15 : zGb s8 s15 := zGb_tr z (by rw [q15, q14, q13]; exact zGb_tr (zGb_s (by omega)) (zGb_tr (zGb_s (by omega)) (zGb_s (by omega))))
      have o15 : ∀ j, j ≠ 44 → j ≠ 46 → j ≠ 48 → gI s15 0 j = gI τ 0 j := fun j h1 h2 h3 => by rw [q15, gI_sI, if_neg (by omega), q14, gI_sI, if_neg (by omega), q13, gI_sI, if_neg (by omega)]
      have g46 : gI s15 0 46 = x := by rw [q15, q14]; simp only [gI_sI, Nat.reduceAdd, Nat.reduceMul, Nat.reduceEqDiff, false_and, true_and, and_false, and_true, reduceIte, Int.toNat_natCast]
      have g48 : gI s15 0 48 = r := by rw [q15, q14, q13]; simp only [gI_sI, Nat.reduceAdd, Nat.reduceMul, Nat.reduceEqDiff, false_and, true_and, and_false, and_true, reduceIte, Int.toNat_natCast]
      have g44 : gI s15 0 44 = 1 := by rw [q15]; simp only [gI_sI, Nat.reduceAdd, Nat.reduceMul, Nat.reduceEqDiff, false_and, true_and, and_false, and_true, reduceIte, Int.toNat_natCast]
      have g22b : gI s15 0 22 = ((2400 + e1 : Nat) : Int) := by rw [o15 _ (by decide) (by decide) (by decide)]; exact g22
      have g45b : gI s15 0 45 = v + 26 := by rw [o15 _ (by decide) (by decide) (by decide)]; exact g45
      have sm : lv = 1 → (v < 2 → (D W = none → x = 0) ∧ ∀ y, D W = some y → x = 1 ∧ r = y) ∧ (¬ v < 2 → x = 1) := by
        intro l1
        obtain ⟨h1, h2⟩ := hr l1
        refine ⟨fun hv2 => ⟨fun e => ?_, fun y e => ?_⟩, fun hv2 => hx.mpr (h2 hv2)⟩
        · have := (h1 hv2).1 e
          rcases x01 with q | q
          · exact q
          · have := hx.mp q; omega
        · have := (h1 hv2).2 y e
          exact ⟨hx.mpr this.2, this.1⟩
      refine m_passes (mEn_b en z15) (by omega) g22b (fun c29 => ⟨fun w => absurd w (by decide), fun _ => ?_⟩) (fun c29 => ⟨fun _ => ?_, fun w => absurd rfl w⟩)
      · rcases htm with ⟨_, _, t1, t2, t3⟩ | ⟨t1, _, _⟩
        · have e22 : gI (sI s15 0 22 ((2400 + (e1 + 1) : Nat) : Int)) 0 22 = ((2400 + (e1 + 1) : Nat) : Int) := by simp only [gI_sI, Nat.reduceAdd, Nat.reduceMul, Nat.reduceEqDiff, false_and, true_and, and_false, and_true, reduceIte, Int.toNat_natCast]
          rw [e22, show (3066 + ((2400 + (e1 + 1) : Nat) : Int)) = ((5466 + (e1 + 1) : Nat) : Int) by omega, wr_n (by omega), Int.toNat_natCast]
          refine ⟨ixn (by omega), ?_⟩
          intro s16 q16 y ey s17 q17
          have kv : gI (sI s15 0 22 ((2400 + (e1 + 1) : Nat) : Int)) 2 (5466 + (e1 + 1)) = tm := by
            rw [gI_sI, if_neg (by omega), z15.2 _ _ (by omega), K2, ← t2, ← (hcell (e1 + 1) t1).2, eK]
          rw [kv] at q16
          have e16 : gI s16 0 22 = ((2400 + (e1 + 1) : Nat) : Int) := by rw [q16, gI_sI, if_neg (by omega)]; exact e22
          rw [e16, wks (by omega)] at ey
          have o17 : ∀ j, j ≠ 22 → j ≠ 44 → gI s17 0 j = gI s15 0 j := fun j h1 h2 => by rw [q17, gI_sI, if_neg (by omega), q16, gI_sI, if_neg (by omega), gI_sI, if_neg (by omega)]
          have z17 : zGb s15 s17 := by
            rw [q17, q16]
            exact zGb_tr (zGb_s (j := 22) (by omega)) (zGb_tr (zGb_s (j := 44) (by omega)) (zGb_s (j := 22) (by omega)))
          refine tst s17 (zGb_tr z15 z17) (by rw [q17, ey, t3]; simp only [gI_sI, Nat.reduceAdd, Nat.reduceMul, Nat.reduceEqDiff, false_and, true_and, and_false, and_true, reduceIte, Int.toNat_natCast]; omega) (by rw [o17 _ (by decide) (by decide)]; exact g45b) (by rw [q17, gI_sI, if_neg (by omega), q16]; simp only [gI_sI, Nat.reduceAdd, Nat.reduceMul, Nat.reduceEqDiff, false_and, true_and, and_false, and_true, reduceIte, Int.toNat_natCast]) (fun l1 => ?_)
          rw [o17 46 (by decide) (by decide), o17 48 (by decide) (by decide), g46, g48]
          exact sm l1
        · exact absurd c29 t1
      · rcases htm with ⟨t1, _⟩ | ⟨_, t2, t3⟩
        · exact absurd t1 c29
        · refine tst s15 z15 (by rw [t2]; exact g22b) g45b (by rw [t3]; exact g44) (fun l1 => ?_)
          rw [g46, g48]
          exact sm l1
    rw [g24]
    exact ⟨fun c => at143 0 (Or.inl rfl) ⟨fun q => absurd q (by decide), fun q => absurd q c⟩, fun c => at143 1 (Or.inr rfl) ⟨fun _ => c, fun _ => rfl⟩⟩
  refine m_codeAt en (by omega) f22 ?_
  have etc : tcf cf T s = v + 26 := by unfold tcf; rw [if_pos hs]; exact hcf
  rw [etc]
  intro t1 p1 y ey t2 p2 t3 p3
  have e22 : gI t1 0 22 = ((2400 + s : Nat) : Int) := by rw [p1, gI_sI, if_neg (by omega)]; exact f22
  rw [e22, wks (by omega)] at ey
  have zt : zGb s8 t3 := by rw [p3, p2, p1]; exact zGb_tr (zGb_s (by omega)) (zGb_tr (zGb_s (by omega)) (zGb_s (by omega)))
  have g45 : gI t3 0 45 = v + 26 := by rw [p3, p2, p1]; simp only [gI_sI, Nat.reduceAdd, Nat.reduceMul, Nat.reduceEqDiff, false_and, true_and, and_false, and_true, reduceIte, Int.toNat_natCast]
  have g24 : gI t3 0 24 = 0 := by rw [p3]; simp only [gI_sI, Nat.reduceAdd, Nat.reduceMul, Nat.reduceEqDiff, false_and, true_and, and_false, and_true, reduceIte, Int.toNat_natCast]
  have g22 : gI t3 0 22 = ((2400 + (s + 1) : Nat) : Int) := by rw [p3, p2, ey]; simp only [gI_sI, Nat.reduceAdd, Nat.reduceMul, Nat.reduceEqDiff, false_and, true_and, and_false, and_true, reduceIte, Int.toNat_natCast]; omega
  rw [g45]
  refine ⟨fun c => ?_, fun c => ?_⟩
  · have v2 : v < 2 := by omega
    refine hsum v2 t3 2400 W lv _ (mEn_b en zt) g22 (Or.inl g24) hl (fun r τ hz => ?_)
    refine tms τ r (zGb_tr zt (zGb_E hz.1)) hz.2.1 (by rw [hz.1.2 _ _ (by omega)]; exact g45) (zR_24 hz (Or.inl g24) hl) (fun l1 => ⟨fun _ => ?_, fun q => absurd v2 q⟩)
    have q := hz.2.2.1 (by omega) g24
    exact ⟨q.2, q.1⟩
  · have v2 : ¬ v < 2 := by omega
    refine tms t3 0 zt (by rw [hns v2]; exact g22) g45 (Or.inl g24) (fun l1 => ⟨fun q => absurd q v2, fun _ => g24⟩)
