/-! row -/
def jnS (σ : st_S) (n : Nat) (a1 a2 a3 : Int) : st_S := sI (sI (sI (sI (sI (sI (sI σ 26 n a1) 27 n a2) 28 n a3) 29 n 0) 30 n 0) 31 n 0) 25 0 ((n + 1 : Nat) : Int)
def adS (σ : st_S) (n : Nat) (a1 a2 a3 : Int) : st_S := sI (sI (sI (sI (sI (sI σ 2 (34 + 2 * n) a1) 2 (35 + 2 * n) a2) 2 n 0) 2 (10 + n) (-1)) 2 (20 + n) a3) 2 256 ((n + 1 : Nat) : Int)
theorem jn_o (σ : st_S) (n : Nat) (a1 a2 a3 : Int) (c j : Nat) (h : c < 25 ∨ 31 < c) : gI (jnS σ n a1 a2 a3) c j = gI σ c j := by
  unfold jnS
  rw [gI_sI, if_neg (by omega), gI_sI, if_neg (by omega), gI_sI, if_neg (by omega), gI_sI, if_neg (by omega), gI_sI, if_neg (by omega), gI_sI, if_neg (by omega), gI_sI, if_neg (by omega)]
theorem ad_o (σ : st_S) (n : Nat) (a1 a2 a3 : Int) (c j : Nat) (h : c ≠ 2) : gI (adS σ n a1 a2 a3) c j = gI σ c j := by
  unfold adS
  rw [gI_sI, if_neg (by omega), gI_sI, if_neg (by omega), gI_sI, if_neg (by omega), gI_sI, if_neg (by omega), gI_sI, if_neg (by omega), gI_sI, if_neg (by omega)]
set_option maxHeartbeats 400000 in
theorem zCR_join {B : Nat} {σc σm : st_S} {n : Nat} {a1 a2 a3 : Int} (h : zCR B σc 25 (gI σm 2)) (hn : n < 10) (hs : gI σc 25 0 = (n : Int)) (hb : (0 ≤ a1 ∧ a1 ≤ 30) ∧ (0 ≤ a2 ∧ a2 ≤ 3) ∧ (0 ≤ a3 ∧ a3 ≤ 2)) : zCR B (jnS σc n a1 a2 a3) 25 (gI (adS σm n a1 a2 a3) 2) := by
  obtain ⟨n', c1, c2, c3, c4, c5, c6, c7, c8, c9, ca, cb⟩ := h
  obtain ⟨c11, c12, c13⟩ := c1
  have en : n' = n := by omega
  subst en
  unfold jnS adS
  refine ⟨n' + 1, ⟨rfl, rfl, by omega⟩, ?_, ?_, ?_, ?_, ?_, ?_, ?_, ?_, ?_, ?_⟩
  · intro p hp
    have o := c2 p
    simp only [gI_sI, Nat.reduceAdd, Nat.reduceMul, Nat.reduceEqDiff, false_and, true_and, and_false, and_true, reduceIte, Int.toNat_natCast] at o ⊢
    omega
  · intro p hp
    have o := c3 p
    simp only [gI_sI, Nat.reduceAdd, Nat.reduceMul, Nat.reduceEqDiff, false_and, true_and, and_false, and_true, reduceIte, Int.toNat_natCast] at o ⊢
    omega
  · intro p hp
    have o := c4 p
    simp only [gI_sI, Nat.reduceAdd, Nat.reduceMul, Nat.reduceEqDiff, false_and, true_and, and_false, and_true, reduceIte, Int.toNat_natCast] at o ⊢
    omega
  · intro p hp
    have o := c5 p
    simp only [gI_sI, Nat.reduceAdd, Nat.reduceMul, Nat.reduceEqDiff, false_and, true_and, and_false, and_true, reduceIte, Int.toNat_natCast] at o ⊢
    omega
  · intro p hp
    have o := c6 p
    simp only [gI_sI, Nat.reduceAdd, Nat.reduceMul, Nat.reduceEqDiff, false_and, true_and, and_false, and_true, reduceIte, Int.toNat_natCast] at o ⊢
    omega
  · intro p hp
    obtain ⟨f, f1, f2, f3⟩ := c7 p hp
    refine ⟨f, f1, fun hpn => ?_, fun q hq => ?_⟩
    · simp only [gI_sI, Nat.reduceAdd, Nat.reduceMul, Nat.reduceEqDiff, false_and, true_and, and_false, and_true, reduceIte, Int.toNat_natCast] at f2 ⊢
      by_cases e : p = n'
      · have f0 : f = 0 := by
          apply Nat.eq_of_testBit_eq
          intro i
          rw [Nat.zero_testBit]
          by_cases hi : i < 10
          · have := (f3 i hi).2.2
            cases hb : f.testBit i
            · rfl
            · have := this hb; omega
          · exact tb_big f1 (by omega)
        omega
      · have := f2 (by omega)
        omega
    · have o := f3 q hq
      simp only [gI_sI, Nat.reduceAdd, Nat.reduceMul, Nat.reduceEqDiff, false_and, true_and, and_false, and_true, reduceIte, Int.toNat_natCast] at o ⊢
      refine ⟨?_, ?_, fun z => ?_⟩
      · omega
      · omega
      · have := o.2.2 z
        omega
  · exact zC8_of c8 (fun p => rfl) (fun i h1 h2 => by simp only [gI_sI, Int.toNat_natCast]; repeat rw [if_neg (by omega)])
  · exact zC9_of c9 (fun p => rfl) (fun i h1 => by simp only [gI_sI, Int.toNat_natCast]; repeat rw [if_neg (by omega)])
  · exact zCa_of ca (fun j => by by_cases hj : j < 12; exact Or.inr (Or.inl hj); exact Or.inl (by simp only [gI_sI, Int.toNat_natCast]; repeat rw [if_neg (by omega)])) (fun i h1 h2 => by simp only [gI_sI, Int.toNat_natCast]; repeat rw [if_neg (by omega)])
  · have hf : -1 ≤ gI σm 2 258 ∧ gI σm 2 258 < gI σm 2 257 ∧ gI σc 25 11 = gI σm 2 258 := by
      obtain ⟨m, b1, b2, b3, b4, b5, b6, -⟩ := cb
      omega
    refine zCb_of cb rfl ⟨?_, ?_, ?_⟩ (fun j => rfl) (fun d hd j => by simp only [gI_sI, Int.toNat_natCast]; repeat rw [if_neg (by omega)]) rfl (fun i hi => by simp only [gI_sI, Int.toNat_natCast]; repeat rw [if_neg (by omega)])
    · simp only [gI_sI, Nat.reduceAdd, Nat.reduceMul, Nat.reduceEqDiff, false_and, true_and, and_false, and_true, reduceIte, Int.toNat_natCast]; omega
    · simp only [gI_sI, Nat.reduceAdd, Nat.reduceMul, Nat.reduceEqDiff, false_and, true_and, and_false, and_true, reduceIte, Int.toNat_natCast]; omega
    · simp only [gI_sI, Nat.reduceAdd, Nat.reduceMul, Nat.reduceEqDiff, false_and, true_and, and_false, and_true, reduceIte, Int.toNat_natCast]; omega
/-- what a row's bytes may be -/
def okB (a1 a2 a3 : Int) : Prop := (0 ≤ a1 ∧ a1 ≤ 30) ∧ (0 ≤ a2 ∧ a2 ≤ 3) ∧ (0 ≤ a3 ∧ a3 ≤ 2)
noncomputable def okD (a1 a2 a3 : Int) : Bool := @decide (okB a1 a2 a3) (Classical.propDecidable _)
theorem okD_t {a1 a2 a3 : Int} : okD a1 a2 a3 = true ↔ okB a1 a2 a3 := by unfold okD; exact @decide_eq_true_iff _ (Classical.propDecidable _)
/-- the class's stores and how many came, threes by threes -/
noncomputable def jrR (T : Nat → Int) (σ : st_S) : Nat → st_S × Nat
  | 0 => (σ, 0)
  | t + 1 => if okD (T (3 * t)) (T (3 * t + 1)) (T (3 * t + 2)) = true ∧ gI (jrR T σ t).1 25 0 < 10 then (jnS (jrR T σ t).1 (gI (jrR T σ t).1 25 0).toNat (T (3 * t)) (T (3 * t + 1)) (T (3 * t + 2)), (jrR T σ t).2 + 1) else jrR T σ t
/-- the reference's; s: the salt that it began with -/
noncomputable def mrR (T : Nat → Int) (s : Int) (σ : st_S) : Nat → st_S × Nat
  | 0 => (sI σ 0 6 s, 0)
  | t + 1 => if okD (T (3 * t)) (T (3 * t + 1)) (T (3 * t + 2)) = true ∧ gI (mrR T s σ t).1 2 256 < 10 then (sI (adS (mrR T s σ t).1 (gI (mrR T s σ t).1 2 256).toNat (T (3 * t)) (T (3 * t + 1)) (T (3 * t + 2))) 0 6 (s + ((t + 1 - ((mrR T s σ t).2 + 1) : Nat) : Int)), (mrR T s σ t).2 + 1) else (sI (mrR T s σ t).1 0 6 (s + ((t + 1 - (mrR T s σ t).2 : Nat) : Int)), (mrR T s σ t).2)
theorem jr_o (T : Nat → Int) (σ : st_S) (t : Nat) : (jrR T σ t).1.2 = σ.2 ∧ (∀ c j, c < 25 ∨ 31 < c → gI (jrR T σ t).1 c j = gI σ c j) ∧ (jrR T σ t).2 ≤ t := by
  induction t with
  | zero => exact ⟨rfl, fun _ _ _ => rfl, Nat.le_refl _⟩
  | succ t ih =>
    unfold jrR
    split
    · exact ⟨ih.1, fun c j h => (jn_o _ _ _ _ _ c j h).trans (ih.2.1 c j h), Nat.succ_le_succ ih.2.2⟩
    · exact ⟨ih.1, ih.2.1, Nat.le_succ_of_le ih.2.2⟩
theorem mr_o (T : Nat → Int) (s : Int) (σ : st_S) (t : Nat) : (mrR T s σ t).1.2 = σ.2 ∧ (∀ c j, c ≠ 2 → ¬ (c = 0 ∧ j = 6) → gI (mrR T s σ t).1 c j = gI σ c j) ∧ (mrR T s σ t).2 ≤ t ∧ gI (mrR T s σ t).1 0 6 = s + ((t - (mrR T s σ t).2 : Nat) : Int) := by
  induction t with
  | zero =>
    refine ⟨rfl, fun c j h1 h2 => ?_, Nat.le_refl _, ?_⟩
    · show gI (sI σ 0 6 s) c j = _
      rw [gI_sI, if_neg h2]
    · show s = s + 0
      omega
  | succ t ih =>
    unfold mrR
    split
    · refine ⟨ih.1, fun c j h1 h2 => ?_, Nat.succ_le_succ ih.2.2.1, rfl⟩
      show gI (sI (adS _ _ _ _ _) 0 6 _) c j = _
      rw [gI_sI, if_neg h2, ad_o _ _ _ _ _ c j h1]
      exact ih.2.1 c j h1 h2
    · refine ⟨ih.1, fun c j h1 h2 => ?_, Nat.le_succ_of_le ih.2.2.1, rfl⟩
      show gI (sI _ 0 6 _) c j = _
      rw [gI_sI, if_neg h2]
      exact ih.2.1 c j h1 h2
theorem okD_s {a1 a2 a3 : Int} (h1 : 0 ≤ a1 ∧ a1 < 256) (h2 : 0 ≤ a2 ∧ a2 < 256) (h3 : 0 ≤ a3 ∧ a3 < 256) : okD (sby a1) (sby a2) (sby a3) = okD a1 a2 a3 := by
  have : okB (sby a1) (sby a2) (sby a3) ↔ okB a1 a2 a3 := by
    unfold okB sby
    split <;> split <;> split <;> omega
  rw [Bool.eq_iff_iff, okD_t, okD_t, this]
/-- both go alike -/
theorem jm_r {B : Nat} {T T' : Nat → Int} {s : Int} {σc σm : st_S} (h : zCR B σc 25 (gI σm 2)) {N : Nat} (hT : ∀ i, i < 3 * N → 0 ≤ T i ∧ T i < 256 ∧ T' i = sby (T i)) (t : Nat) (ht : t ≤ N) : zCR B (jrR T σc t).1 25 (gI (mrR T' s σm t).1 2) ∧ (jrR T σc t).2 = (mrR T' s σm t).2 := by
  induction t with
  | zero => exact ⟨h, rfl⟩
  | succ t ih =>
    obtain ⟨ih1, ih2⟩ := ih (by omega)
    have ih1' := ih1
    obtain ⟨n, ⟨c11, c12, c13⟩, -⟩ := ih1
    have t0 := hT (3 * t) (by omega)
    have t1 := hT (3 * t + 1) (by omega)
    have t2 := hT (3 * t + 2) (by omega)
    unfold jrR mrR
    rw [c11, c12, t0.2.2, t1.2.2, t2.2.2, okD_s ⟨t0.1, t0.2.1⟩ ⟨t1.1, t1.2.1⟩ ⟨t2.1, t2.2.1⟩]
    by_cases hq : okD (T (3 * t)) (T (3 * t + 1)) (T (3 * t + 2)) = true ∧ (n : Int) < 10
    · rw [if_pos hq, if_pos hq, Int.toNat_natCast]
      have ok := okD_t.mp hq.1
      have s0 : sby (T (3 * t)) = T (3 * t) := by unfold sby; rw [if_pos (by unfold okB at ok; omega)]
      have s1 : sby (T (3 * t + 1)) = T (3 * t + 1) := by unfold sby; rw [if_pos (by unfold okB at ok; omega)]
      have s2 : sby (T (3 * t + 2)) = T (3 * t + 2) := by unfold sby; rw [if_pos (by unfold okB at ok; omega)]
      rw [s0, s1, s2]
      exact ⟨zCR_join ih1' (by omega) c11 ok, by show _ + 1 = _ + 1; rw [ih2]⟩
    · rw [if_neg hq, if_neg hq]
      exact ⟨ih1', ih2⟩
theorem w_rowL {T : Nat → Int} {len : Nat} {σ : st_S} {Q : Int → st_S → Prop} (hl : len ≤ 400) (hT : ∀ i, i < len → gI σ 13 i = T i) (hz : ∀ t, t ≤ len / 3 → ∃ n : Nat, gI (jrR T σ t).1 25 0 = (n : Int) ∧ n ≤ 10)
    (hQ : wp_X4_clear (sI (jrR T σ (len / 3)).1 0 13 (((len + 2) / 3 - (jrR T σ (len / 3)).2 : Nat) : Int)) (fun s => wp_X10_accept ((jrR T σ (len / 3)).2 : Int) s (fun r s => Q r s))) : ∃ m, L_X10_row_34 Q m (len : Int) 0 0 0 σ := by
  have last : ∀ m : Nat, len ≤ 3 * (len / 3) → L_X10_row_34 Q (m + 1) (len : Int) ((jrR T σ (len / 3)).2 : Int) ((len / 3 - (jrR T σ (len / 3)).2 : Nat) : Int) ((3 * (len / 3) : Nat) : Int) (jrR T σ (len / 3)).1 := by
    intro m hm
    refine ⟨fun _ => ?_, fun q => absurd (by omega) q⟩
    intro s es
    subst es
    rw [show (len + 2) / 3 = len / 3 by omega] at hQ
    exact hQ
  have key : ∀ m t : Nat, t + m = len / 3 → L_X10_row_34 Q (m + 2) (len : Int) ((jrR T σ t).2 : Int) ((t - (jrR T σ t).2 : Nat) : Int) ((3 * t : Nat) : Int) (jrR T σ t).1 := by
    intro m
    induction m with
    | zero =>
      intro t ht
      have et : t = len / 3 := by omega
      subst et
      by_cases hm : len ≤ 3 * (len / 3)
      · exact last 1 hm
      · refine ⟨fun q => absurd q (by omega), fun _ => ⟨fun _ => ?_, fun q => ?_⟩⟩
        · intro x ex y ey
          have jl := (jr_o T σ (len / 3)).2.2
          rw [show (((len / 3 - (jrR T σ (len / 3)).2 : Nat) : Int) + 1) = ((len / 3 + 1 - (jrR T σ (len / 3)).2 : Nat) : Int) by omega, wr_n (by omega)] at ex
          rw [wka (3 * (len / 3)) 3 (by omega) 3 rfl] at ey
          subst ex
          subst ey
          refine ⟨fun _ => ?_, fun q => absurd (by omega) q⟩
          intro s es
          subst es
          rw [show (len + 2) / 3 = len / 3 + 1 by omega] at hQ
          exact hQ
        · rw [wka (3 * (len / 3)) 2 (by omega) 2 rfl] at q
          exact absurd (by omega) q
    | succ m ih =>
      intro t ht
      obtain ⟨n, hn1, hn2⟩ := hz t (by omega)
      have jo := jr_o T σ t
      have ih2 := ih (t + 1) (by omega)
      have g0 : gI (jrR T σ t).1 13 (3 * t) = T (3 * t) := by rw [jo.2.1 _ _ (by omega)]; exact hT _ (by omega)
      have g1 : gI (jrR T σ t).1 13 (3 * t + 1) = T (3 * t + 1) := by rw [jo.2.1 _ _ (by omega)]; exact hT _ (by omega)
      have g2 : gI (jrR T σ t).1 13 (3 * t + 2) = T (3 * t + 2) := by rw [jo.2.1 _ _ (by omega)]; exact hT _ (by omega)
      have no : ¬ (okD (T (3 * t)) (T (3 * t + 1)) (T (3 * t + 2)) = true ∧ gI (jrR T σ t).1 25 0 < 10) → B_X10_row_95 Q (L_X10_row_34 Q (m + 2)) (len : Int) ((jrR T σ t).2 : Int) ((t - (jrR T σ t).2 : Nat) : Int) ((3 * t : Nat) : Int) (jrR T σ t).1 := by
        intro hq x ex y ey
        rw [show (((t - (jrR T σ t).2 : Nat) : Int) + 1) = ((t + 1 - (jrR T σ t).2 : Nat) : Int) by omega, wr_n (by omega)] at ex
        rw [wka (3 * t) 3 (by omega) 3 rfl] at ey
        subst ex
        subst ey
        have e : jrR T σ (t + 1) = jrR T σ t := by rw [jrR, if_neg hq]
        rw [e] at ih2
        exact ih2
      have yes : okD (T (3 * t)) (T (3 * t + 1)) (T (3 * t + 2)) = true ∧ gI (jrR T σ t).1 25 0 < 10 → ∀ x42 : Int, x42 = wr (((jrR T σ t).2 : Int) + 1) → B_X10_row_98 Q (L_X10_row_34 Q (m + 2)) (len : Int) x42 ((t - (jrR T σ t).2 : Nat) : Int) ((3 * t : Nat) : Int) (jnS (jrR T σ t).1 n (T (3 * t)) (T (3 * t + 1)) (T (3 * t + 2))) := by
        intro hq x ex y ey
        rw [wks (by omega)] at ex
        rw [wka (3 * t) 3 (by omega) 3 rfl] at ey
        subst ex
        subst ey
        have e : jrR T σ (t + 1) = (jnS (jrR T σ t).1 n (T (3 * t)) (T (3 * t + 1)) (T (3 * t + 2)), (jrR T σ t).2 + 1) := by rw [jrR, if_pos hq, hn1, Int.toNat_natCast]
        rw [e] at ih2
        rw [show t - (jrR T σ t).2 = t + 1 - ((jrR T σ t).2 + 1) by omega]
        exact ih2
      refine ⟨fun q => absurd q (by omega), fun _ => ⟨fun q => ?_, fun _ => ?_⟩⟩
      · rw [wka (3 * t) 2 (by omega) 2 rfl] at q
        exact absurd q (by omega)
      · rw [wka (3 * t) 1 (by omega) 1 rfl, wka (3 * t) 2 (by omega) 2 rfl]
        refine ⟨ixn (by omega), ixn (by omega), ixn (by omega), ?_⟩
        rw [Int.toNat_natCast, Int.toNat_natCast, Int.toNat_natCast, g0, g1, g2]
        refine ⟨fun q => ⟨fun _ => no (by omega), fun z => absurd rfl z⟩, fun q => w_canBe (fun hb => ⟨fun _ => w_join (n := n) (by omega) hn1 ⟨fun z => absurd z (by decide), fun _ => yes ⟨okD_t.mpr hb, by omega⟩⟩, fun z => absurd z (by decide)⟩) (fun hb => ⟨fun z => absurd rfl z, fun _ => ⟨fun _ => no (fun z => hb (okD_t.mp z.1)), fun z => absurd rfl z⟩⟩)⟩
  exact ⟨len / 3 + 2, by have := key (len / 3) 0 (by omega); exact this⟩
theorem m_rowL {T : Nat → Int} {len : Nat} {s : Int} {σ : st_S} {Q : Int → st_S → Prop} (hs : s = 0 ∨ s = 1) (hl : len ≤ 400) (hT : ∀ i, i < len → gI σ 7 i = T i) (hz : ∀ t, t ≤ len / 3 → ∃ n : Nat, gI (mrR T s σ t).1 2 256 = (n : Int) ∧ n ≤ 10)
    (hQ : wp_X11_settled ((mrR T s σ (len / 3)).2 : Int) (mrR T s σ (len / 3)).1 (fun r s => Q r s)) : ∃ m, L_X11_row_40 Q m (len : Int) 0 0 (sI σ 0 6 s) := by
  have key : ∀ m t : Nat, t + m = len / 3 → L_X11_row_40 Q (m + 1) (len : Int) ((mrR T s σ t).2 : Int) ((3 * t : Nat) : Int) (mrR T s σ t).1 := by
    intro m
    induction m with
    | zero =>
      intro t ht
      have et : t = len / 3 := by omega
      subst et
      refine ⟨fun _ => hQ, fun q => ?_⟩
      rw [wka (3 * (len / 3)) 3 (by omega) 3 rfl] at q
      exact absurd (by omega) q
    | succ m ih =>
      intro t ht
      obtain ⟨n, hn1, hn2⟩ := hz t (by omega)
      have jo := mr_o T s σ t
      have ih2 := ih (t + 1) (by omega)
      have g0 : gI (mrR T s σ t).1 7 (3 * t) = T (3 * t) := by rw [jo.2.1 _ _ (by omega) (by omega)]; exact hT _ (by omega)
      have g1 : gI (mrR T s σ t).1 7 (3 * t + 1) = T (3 * t + 1) := by rw [jo.2.1 _ _ (by omega) (by omega)]; exact hT _ (by omega)
      have g2 : gI (mrR T s σ t).1 7 (3 * t + 2) = T (3 * t + 2) := by rw [jo.2.1 _ _ (by omega) (by omega)]; exact hT _ (by omega)
      have jl := jo.2.2.1
      have js := jo.2.2.2
      have no : ¬ (okD (T (3 * t)) (T (3 * t + 1)) (T (3 * t + 2)) = true ∧ gI (mrR T s σ t).1 2 256 < 10) → B_X11_row_96 Q (L_X11_row_40 Q (m + 1)) (len : Int) ((mrR T s σ t).2 : Int) ((3 * t : Nat) : Int) (mrR T s σ t).1 := by
        intro hq
        refine ⟨fun _ => ⟨fun _ => ?_, fun z => absurd rfl z⟩, fun z => absurd rfl z⟩
        intro x ex
        rw [Int.add_zero, wr_n (by omega)] at ex
        subst ex
        refine ⟨fun _ => ?_, fun z => absurd rfl z⟩
        intro x ex
        rw [js, show s + ((t - (mrR T s σ t).2 : Nat) : Int) + 1 = s + ((t + 1 - (mrR T s σ t).2 : Nat) : Int) by omega, wr_id (by omega) (by omega)] at ex
        subst ex
        intro s' es y ey
        subst es
        rw [wka (3 * t) 3 (by omega) 3 rfl] at ey
        subst ey
        have e : mrR T s σ (t + 1) = (sI (mrR T s σ t).1 0 6 (s + ((t + 1 - (mrR T s σ t).2 : Nat) : Int)), (mrR T s σ t).2) := by rw [mrR, if_neg hq]
        rw [e] at ih2
        exact ih2
      have yes : okD (T (3 * t)) (T (3 * t + 1)) (T (3 * t + 2)) = true ∧ gI (mrR T s σ t).1 2 256 < 10 → B_X11_row_97 Q (L_X11_row_40 Q (m + 1)) (len : Int) ((mrR T s σ t).2 : Int) ((3 * t : Nat) : Int) 1 (mrR T s σ t).1 := by
        intro hq
        refine ⟨fun z => absurd z (by decide), fun _ => ?_⟩
        rw [wka (3 * t) 1 (by omega) 1 rfl, wka (3 * t) 2 (by omega) 2 rfl]
        refine ⟨ixn (by omega), ixn (by omega), ixn (by omega), ?_⟩
        rw [Int.toNat_natCast, Int.toNat_natCast, Int.toNat_natCast, g0, g1, g2]
        refine m_adds (n := n) (by omega) hn1 ?_
        refine ⟨fun z => absurd z (by decide), fun _ => ?_⟩
        intro x ex
        rw [wks (by omega)] at ex
        subst ex
        refine ⟨fun z => absurd z (by decide), fun _ => ?_⟩
        intro x ex
        have e6 : gI (adS (mrR T s σ t).1 n (T (3 * t)) (T (3 * t + 1)) (T (3 * t + 2))) 0 6 = s + ((t - (mrR T s σ t).2 : Nat) : Int) := by rw [ad_o _ _ _ _ _ _ _ (by omega)]; exact js
        replace ex : x = s + ((t - (mrR T s σ t).2 : Nat) : Int) := by
          rw [ex]
          show wr (gI (adS (mrR T s σ t).1 n (T (3 * t)) (T (3 * t + 1)) (T (3 * t + 2))) 0 6 + 0) = _
          rw [e6, Int.add_zero, wr_id (by omega) (by omega)]
        subst ex
        intro s' es y ey
        subst es
        rw [wka (3 * t) 3 (by omega) 3 rfl] at ey
        subst ey
        have e : mrR T s σ (t + 1) = (sI (adS (mrR T s σ t).1 n (T (3 * t)) (T (3 * t + 1)) (T (3 * t + 2))) 0 6 (s + ((t + 1 - ((mrR T s σ t).2 + 1) : Nat) : Int)), (mrR T s σ t).2 + 1) := by rw [mrR, if_pos hq, hn1, Int.toNat_natCast]
        rw [e, show t + 1 - ((mrR T s σ t).2 + 1) = t - (mrR T s σ t).2 by omega] at ih2
        exact ih2
      refine ⟨fun q => ?_, fun _ => ?_⟩
      · rw [wka (3 * t) 3 (by omega) 3 rfl] at q
        exact absurd q (by omega)
      · rw [wka (3 * t) 1 (by omega) 1 rfl, wka (3 * t) 2 (by omega) 2 rfl]
        refine ⟨ixn (by omega), ixn (by omega), ?_⟩
        rw [Int.toNat_natCast, Int.toNat_natCast, Int.toNat_natCast, g0, g1]
        refine m_canBe (fun hb => ⟨fun z => absurd z (by decide), fun _ => ⟨ixn (by omega), ?_⟩⟩) (fun hb => ⟨fun _ => no (fun z => hb ⟨(okD_t.mp z.1).1, (okD_t.mp z.1).2.1⟩), fun z => absurd rfl z⟩)
        rw [g2]
        refine m_lies (fun hb2 => ⟨fun z => absurd z (by decide), fun _ => ⟨fun q => no (fun z => absurd z.2 (by show ¬ gI (mrR T s σ t).1 2 256 < 10; have : (10 : Int) ≤ gI (mrR T s σ t).1 2 256 := q; omega)), fun q => yes ⟨okD_t.mpr ⟨hb.1, hb.2, hb2⟩, ?_⟩⟩⟩) (fun hb2 => ⟨fun _ => no (fun z => hb2 (okD_t.mp z.1).2.2), fun z => absurd rfl z⟩)
        have q' : ¬ (10 : Int) ≤ gI (mrR T s σ t).1 2 256 := q
        omega
  exact ⟨len / 3 + 1, by have := key (len / 3) 0 (by omega); exact this⟩
theorem rem3 : ∀ k : Nat, k < 401 → o_rem (k : Int) 3 = ((k % 3 : Nat) : Int) := by decide +kernel
set_option maxHeartbeats 400000 in
theorem st_row {B : Nat} {σc σm : st_S} (h : zInv B σc σm) : wp_X10_row σc (fun r τ => wp_X11_row σm (fun r2 υ => r = r2 ∧ zInv B τ υ)) := by
  have h0 := h
  obtain ⟨⟨hcr, hlog, himg, ⟨len, t1, t2, t3, t4⟩, hwd, hsc⟩, hst, hrr⟩ := h
  intro x ex
  rw [t1] at ex
  subst ex
  refine ⟨fun hne => ?_, fun he => ?_⟩
  · intro s es
    subst es
    have hz0 : zCR B (sI σc 12 1 0) 25 (gI (sI σm 0 13 0) 2) := zCR_of hcr (fun d j a b => by simp only [gI_sI, Int.toNat_natCast]; repeat rw [if_neg (by omega)]) (fun _ => rfl) (fun d j a _ q b c => ⟨by simp only [gI_sI, Int.toNat_natCast]; repeat rw [if_neg (by omega)], rfl⟩) (fun c a b => b) (fun i => rfl)
    have jm := fun (s : Int) (t : Nat) (ht : t ≤ len / 3) => jm_r (T := gI σc 13) (T' := gI σm 7) (s := s) hz0 (N := len / 3) (fun i hi => t4 i (by omega)) t ht
    refine w_rowL (T := gI σc 13) t3 (fun i hi => rfl) (fun t ht => ?_) ?_
    · obtain ⟨n, ⟨c11, c12, c13⟩, -⟩ := (jm 0 t ht).1
      exact ⟨n, c11, c13⟩
    · refine w_clear (w_accept ?_)
      intro x ex
      rw [t2] at ex
      subst ex
      intro s es
      subst es
      have fin : ∀ sa : Int, (sa = 0 ∧ len % 3 = 0) ∨ (sa = 1 ∧ ¬ len % 3 = 0) → B_X11_row_35 (fun r2 υ => (((jrR (gI σc 13) (sI σc 12 1 0) (len / 3)).2 : Nat) : Int) = r2 ∧ zInv B (sI (sI (sI (sI (jrR (gI σc 13) (sI σc 12 1 0) (len / 3)).1 0 13 (((len + 2) / 3 - (jrR (gI σc 13) (sI σc 12 1 0) (len / 3)).2 : Nat) : Int)) 39 0 0) 39 1 0) 0 14 0) υ) (len : Int) 0 sa (sI σm 0 13 0) := by
        intro sa hsa
        intro s es
        subst es
        refine m_rowL (T := gI σm 7) (by omega) t3 (fun i hi => rfl) (fun t ht => ?_) ?_
        · obtain ⟨n, ⟨c11, c12, c13⟩, -⟩ := (jm sa t ht).1
          exact ⟨n, c12, c13⟩
        · obtain ⟨jm1, jm2⟩ := jm sa (len / 3) (Nat.le_refl _)
          have jo := jr_o (gI σc 13) (sI σc 12 1 0) (len / 3)
          have mo := mr_o (gI σm 7) sa (sI σm 0 13 0) (len / 3)
          generalize jrR (gI σc 13) (sI σc 12 1 0) (len / 3) = J at jm1 jm2 jo ⊢
          generalize mrR (gI σm 7) sa (sI σm 0 13 0) (len / 3) = M at jm1 jm2 mo ⊢
          obtain ⟨jo1, jo2, jo3⟩ := jo
          obtain ⟨mo1, mo2, mo3, mo4⟩ := mo
          refine m_settled ⟨by rw [jm2], ?_⟩
          have jR : ∀ c j, gR J.1 c j = gR σc c j := fun c j => by unfold gR; rw [jo1]; rfl
          have j22 : J.1.2.2 = σc.2.2 := by rw [jo1]; rfl
          have jI : ∀ c j, c < 25 ∨ 31 < c → ¬ (c = 12 ∧ j = 1) → gI J.1 c j = gI σc c j := fun c j h1 h2 => by rw [jo2 c j h1, gI_sI, if_neg h2]
          have mI : ∀ c j, c ≠ 2 → ¬ (c = 0 ∧ (j = 6 ∨ j = 13)) → gI M.1 c j = gI σm c j := fun c j h1 h2 => by rw [mo2 c j h1 (by omega), gI_sI, if_neg (by omega)]
          refine inv_ok ⟨?_, ?_, ?_, ?_, ?_, ?_⟩ ?_ ?_
          · refine zCR_of jm1 (fun d j a b => by simp only [gI_sI, Int.toNat_natCast]; repeat rw [if_neg (by omega)]) (fun _ => rfl) (fun d j a _ q b c => ⟨by simp only [gI_sI, Int.toNat_natCast]; repeat rw [if_neg (by omega)], rfl⟩) (fun c a b => b) (fun i => rfl)
          · obtain ⟨n, ⟨c11, c12, c13⟩, -⟩ := jm1
            exact zLog_nil (n := n) c12 rfl rfl rfl
          · exact zImg_of himg j22 (fun c j _ => jR c j) (fun c hc j => by rw [gI_sI, if_neg (by omega), gI_sI, if_neg (by omega), gI_sI, if_neg (by omega)]; exact jI _ _ (by omega) (by omega)) (fun c j hc => by rw [gI_sI, if_neg (by omega)]; exact mI _ _ (by omega) (by omega))
          · refine ⟨0, ?_, ?_, by omega, fun i hi => absurd hi (by omega)⟩
            · rw [gI_sI, if_neg (by omega), gI_sI, if_neg (by omega), gI_sI, if_neg (by omega), jo2 _ _ (by omega)]
              rfl
            · rw [gI_sI, if_neg (by omega), mo2 _ _ (by omega) (by omega)]
              rfl
          · exact zWd_of hwd (fun j => by rw [gI_sI, if_neg (by omega)]; exact mI _ _ (by omega) (by omega))
          · obtain ⟨⟨n, a1, a2, a3, a4⟩, b1, b2, b3⟩ := hsc
            refine ⟨⟨n, ?_, ?_, a3, fun k hk => ?_⟩, ?_, ?_, ?_⟩
            · rw [gI_sI, if_neg (by omega), gI_sI, if_neg (by omega), gI_sI, if_neg (by omega), jI _ _ (by omega) (by omega)]; exact a1
            · rw [gI_sI, if_neg (by omega), mI _ _ (by omega) (by omega)]; exact a2
            · rw [gI_sI, if_neg (by omega), gI_sI, if_neg (by omega), gI_sI, if_neg (by omega), jI _ _ (by omega) (by omega), gI_sI, if_neg (by omega), mI _ _ (by omega) (by omega)]; exact a4 k hk
            · rw [gI_sI, if_neg (by omega), gI_sI, if_neg (by omega), gI_sI, if_pos ⟨rfl, rfl⟩, gI_sI, if_neg (by omega), mo4]
              omega
            · rw [gI_sI, if_neg (by omega), gI_sI, if_neg (by omega), gI_sI, if_neg (by omega), jI _ _ (by omega) (by omega), gI_sI, if_neg (by omega), mI _ _ (by omega) (by omega)]; exact b2
            · rw [gI_sI, if_neg (by omega), gI_sI, if_neg (by omega), gI_sI, if_neg (by omega), jI _ _ (by omega) (by omega), gI_sI, if_neg (by omega), mI _ _ (by omega) (by omega)]; exact b3
          · intro k hk
            rw [gI_sI, if_neg (by omega), gI_sI, if_neg (by omega), gI_sI, if_neg (by omega), jI _ _ (by omega) (by omega), gI_sI, if_neg (by omega), mI _ _ (by omega) (by omega)]
            exact hst.2 k hk
          · show (gR J.1 56 8 = _ ∧ gR J.1 56 9 = _) ∨ (gR J.1 56 8 = _ ∧ gR J.1 56 9 = _)
            rw [jR, jR]
            exact hrr
      refine ⟨fun _ => ?_, fun z => absurd z hne⟩
      rw [rem3 len (by omega)]
      exact ⟨fun z => fin 1 (Or.inr ⟨rfl, by omega⟩), fun z => fin 0 (Or.inl ⟨rfl, by omega⟩)⟩
  · refine w_refuse 6 (by decide) rfl ?_
    intro x ex
    rw [t2] at ex
    subst ex
    intro s es
    subst es
    refine ⟨fun z => absurd he z, fun _ => m_refuses 6 (by decide) rfl ⟨rfl, ?_⟩⟩
    have e : sI σm 0 13 0 = σm := by
      refine Prod.ext (funext fun c' => funext fun j' => ?_) rfl
      show gI (sI σm 0 13 0) c' j' = gI σm c' j'
      rw [gI_sI]
      split
      · rename_i e; rw [e.1, e.2, t2, he]
      · rfl
    rw [e]
    exact inv_no (by decide) h0
