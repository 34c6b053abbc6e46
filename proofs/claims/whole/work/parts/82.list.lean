/-! the class's crews of a night are the reference's -/
theorem hdA_ge {M : zM} {K : Nat → Int} {hsh used p k : Nat} : K (20 + p) ≤ hdA M K hsh used p k := hdA_mono (M := M) (K := K) (hsh := hsh) (used := used) (p := p) (Nat.zero_le k)
theorem ws_eq {σ : st_S} {K : Nat → Int} {n away hsh night used R H : Nat} {M : zM} (hx : cxC σ K n M) (hH : hOk H (hdV M K n hsh used) n) (hR1 : R < 1024) (hR : ∀ p, p < n → R.testBit p = (decide (¬ K p = 3) && !(used ||| away).testBit p)) (p : Nat) :
    wTO (ndn (R &&& bsN (fnB M K night 0) n) H) (ndn (R &&& bsN (fnB M K night 1) n &&& H) (H >>> 10)) p = wMV M K n away hsh night used p := by
  have hn := hx.1.2.2
  have f0 := bsN_lt (fnB M K night 0) n hn
  have f1 := bsN_lt (fnB M K night 1) n hn
  have b1 : R &&& bsN (fnB M K night 0) n < 2 ^ 31 := and_lt (by omega)
  have b2 : R &&& bsN (fnB M K night 1) n &&& H < 2 ^ 31 := and_lt (and_lt (by omega))
  by_cases hp : p < n
  · have hr := hdV_r (hsh := hsh) (used := used) hx hp
    have ge : hdV M K n hsh used p < 2 → K (20 + p) ≤ hdV M K n hsh used p := by
      have := hdA_ge (M := M) (K := K) (hsh := hsh) (used := used) (p := p) (k := n)
      unfold hdV
      split <;> omega
    have h2 := hH.2 p (by omega)
    have tA : (ndn (R &&& bsN (fnB M K night 0) n) H).testBit p = true ↔ ((¬ K p = 3 ∧ (used ||| away).testBit p = false) ∧ (((¬ K p = 3 ∧ K (20 + p) ≤ 0) ∧ comV M K p ≤ (night : Int)) ∧ brV M K p night 0 = 0)) ∧ ¬ 1 ≤ hdV M K n hsh used p := by
      rw [ndn_bit b1, Nat.testBit_and, hR p hp, bsN_tb, h2.1]
      unfold fnB
      simp only [hp, true_and, decide_true, Bool.true_and, Bool.and_eq_true, decide_eq_true_eq, Bool.not_eq_true', decide_eq_false_iff_not]
      exact Iff.rfl
    have tO : (ndn (R &&& bsN (fnB M K night 1) n &&& H) (H >>> 10)).testBit p = true ↔ (((¬ K p = 3 ∧ (used ||| away).testBit p = false) ∧ (((¬ K p = 3 ∧ K (20 + p) ≤ 1) ∧ comV M K p ≤ (night : Int)) ∧ brV M K p night 1 = 0)) ∧ 1 ≤ hdV M K n hsh used p) ∧ ¬ 2 ≤ hdV M K n hsh used p := by
      rw [ndn_bit b2, Nat.testBit_and, Nat.testBit_and, hR p hp, bsN_tb, h2.1, Nat.testBit_shiftRight, Nat.add_comm 10 p, h2.2]
      unfold fnB
      simp only [hp, true_and, decide_true, Bool.true_and, Bool.and_eq_true, decide_eq_true_eq, Bool.not_eq_true', decide_eq_false_iff_not]
      exact Iff.rfl
    unfold wTO wMV
    have c3 : hdV M K n hsh used p = 0 ∨ hdV M K n hsh used p = 1 ∨ hdV M K n hsh used p = 2 := by omega
    rcases c3 with e | e | e
    · rw [e] at tA tO ge ⊢
      rw [if_neg (show ¬ (ndn (R &&& bsN (fnB M K night 1) n &&& H) (H >>> 10)).testBit p = true from fun w => by have := (tO.mp w).1.2; omega)]
      by_cases hA : (ndn (R &&& bsN (fnB M K night 0) n) H).testBit p = true
      · rw [if_pos hA]
        have q := tA.mp hA
        rw [if_pos ⟨hp, q.1.1.2, q.1.2.1.2, q.1.1.1, by omega, q.1.2.2⟩]
        rfl
      · rw [if_neg hA, if_neg (fun w => hA (tA.mpr ⟨⟨⟨w.2.2.2.1, w.2.1⟩, ⟨⟨w.2.2.2.1, by omega⟩, w.2.2.1⟩, w.2.2.2.2.2⟩, by omega⟩))]
    · rw [e] at tA tO ge ⊢
      rw [if_neg (show ¬ (ndn (R &&& bsN (fnB M K night 0) n) H).testBit p = true from fun w => by have := (tA.mp w).2; omega)]
      by_cases hO : (ndn (R &&& bsN (fnB M K night 1) n &&& H) (H >>> 10)).testBit p = true
      · rw [if_pos hO]
        have q := tO.mp hO
        rw [if_pos ⟨hp, q.1.1.1.2, q.1.1.2.1.2, q.1.1.1.1, by omega, q.1.1.2.2⟩]
        rfl
      · rw [if_neg hO, if_neg (fun w => hO (tO.mpr ⟨⟨⟨⟨w.2.2.2.1, w.2.1⟩, ⟨⟨w.2.2.2.1, by omega⟩, w.2.2.1⟩, w.2.2.2.2.2⟩, by omega⟩, by omega⟩))]
    · rw [e] at tA tO ⊢
      rw [if_neg (show ¬ (ndn (R &&& bsN (fnB M K night 0) n) H).testBit p = true from fun w => by have := (tA.mp w).2; omega), if_neg (show ¬ (ndn (R &&& bsN (fnB M K night 1) n &&& H) (H >>> 10)).testBit p = true from fun w => by have := (tO.mp w).2; omega), if_neg (fun w => by have := w.2.2.2.2.1; omega)]
  · unfold wTO wMV
    rw [if_neg (show ¬ (ndn (R &&& bsN (fnB M K night 0) n) H).testBit p = true by rw [ndn_bit b1, Nat.testBit_and, bsN_tb, decide_eq_false hp]; simp), if_neg (show ¬ (ndn (R &&& bsN (fnB M K night 1) n &&& H) (H >>> 10)).testBit p = true by rw [ndn_bit b2, Nat.testBit_and, Nat.testBit_and, bsN_tb, decide_eq_false hp]; simp), if_neg (fun w => hp w.1)]
/-- scratch of a listing -/
def zQ (night : Nat) (σ τ : st_S) : Prop := τ.2 = σ.2 ∧ ∀ c j, ¬ (c = 42 ∧ 13 ≤ j ∧ j ≤ 16) → ¬ (c = 51 ∧ 210 * night ≤ j) → gI τ c j = gI σ c j
theorem zQ_rfl {night : Nat} {σ : st_S} : zQ night σ σ := ⟨rfl, fun _ _ _ _ => rfl⟩
theorem zQ_tr {night : Nat} {σ τ υ : st_S} (h : zQ night σ τ) (g : zQ night τ υ) : zQ night σ υ := ⟨g.1.trans h.1, fun c j a b => (g.2 c j a b).trans (h.2 c j a b)⟩
theorem zQ_P {night : Nat} {σ τ : st_S} (h : zQ night σ τ) : zP σ τ := ⟨h.1, fun c j a b => h.2 c j (by omega) (by omega)⟩
theorem ppC_of {σ τ : st_S} {K : Nat → Int} {n : Nat} {M : zM} (h : ppC σ K n M) (hg : τ.2 = σ.2) (hI : ∀ c j, ¬ (42 ≤ c ∧ c ≤ 51) ∧ c ≤ 55 ∨ 65 ≤ c ∨ (c = 42 ∧ j ≤ 1) ∨ (43 ≤ c ∧ c ≤ 50 ∧ c ≠ 44) → gI τ c j = gI σ c j) : ppC τ K n M := by
  refine ⟨?_, ppA_of h.2.1 (fun c j q => hI _ _ (by omega)), ppN_of h.2.2 (fun c j q => hI _ _ (by omega))⟩
  obtain ⟨h1, h2, h3, h4, h5, h6, h7, h8, h9, hf, hj⟩ := h.1
  refine ⟨zC1_of h1 (hI _ _ (by omega)) rfl, zC2_of h2 (fun p _ => hI _ _ (by omega)) (fun _ _ _ => rfl), zC3_of h3 (fun p _ => hI _ _ (by omega)) (fun _ _ _ => rfl), zC4_of h4 (fun p _ => hI _ _ (by omega)) (fun _ _ _ => rfl), zC5_of h5 (fun p _ => hI _ _ (by omega)) (fun _ _ => rfl), zC6_of h6 (fun p _ => hI _ _ (by omega)) (fun _ _ => rfl) (fun _ _ _ => rfl), zC7_of h7 (fun p _ => hI _ _ (by omega)) (fun _ _ _ => rfl), zC8_of h8 (fun p => hI _ _ (by omega)) (fun _ _ _ => rfl), zC9_of h9 (fun p => hI _ _ (by omega)) (fun _ _ => rfl), fMc_ab hf hg (fun c j hc => hI _ _ (by omega)), zJk_of hj hg⟩
theorem ppC_Q {night : Nat} {σ τ : st_S} {K : Nat → Int} {n : Nat} {M : zM} (h : ppC σ K n M) (g : zQ night σ τ) : ppC τ K n M := ppC_of h g.1 (fun c j q => g.2 c j (by omega) (by omega))
/-- the rest: those who have not been there, without the away ones and who have lit it -/
def rsOk (R : Nat) (K : Nat → Int) (n away used : Nat) : Prop := R < 1024 ∧ ∀ p, p < n → R.testBit p = (decide (¬ K p = 3) && !(used ||| away).testBit p)
theorem w_list {σ : st_S} {K : Nat → Int} {n away hsh night used R H : Nat} {M : zM} {Q : Int → st_S → Prop} (h : ppC σ K n M) (hH : hOk H (hdV M K n hsh used) n) (hR : rsOk R K n away used) (hnil : n ≤ night → crL M K n away hsh night used = [])
    (hQ : ∀ τ, zQ night σ τ → (∀ i, i < (crL M K n away hsh night used).length → gI τ 51 (210 * night + i) = (((crL M K n away hsh night used).getD i 0 : Nat) : Int)) → Q ((crL M K n away hsh night used).length : Int) τ) : wp_X5_list (night : Int) (R : Int) (H : Int) σ Q := by
  have hx := h.1
  have hn := hx.1.2.2
  have e0 : gI σ 25 0 = (n : Int) := hx.1.1
  have hH1 := hH.1
  refine ⟨fun z => absurd z (by omega), fun _ => ⟨fun z => ?_, fun z => ?_⟩⟩
  · have hN : night < n := by omega
    obtain ⟨n1, n2, n3, n4⟩ := h.2.2 night hN
    have f0 := bsN_lt (fnB M K night 0) n hn
    have f1 := bsN_lt (fnB M K night 1) n hn
    have hR1 := hR.1
    refine ⟨ixn (by omega), ?_⟩
    intro s1 e1
    refine ⟨ixn (by omega), ?_⟩
    intro s2 e2
    refine ⟨ixn (by omega), ?_⟩
    have a1 : R &&& bsN (fnB M K night 0) n < 2 ^ 31 := and_lt (by omega)
    have a2 : R &&& bsN (fnB M K night 1) n < 2 ^ 31 := and_lt (by omega)
    have s10 : H >>> 10 ≤ H := by rw [Nat.shiftRight_eq_div_pow]; exact Nat.div_le_self _ _
    have es : o_shr (H : Int) 10 = ((H >>> 10 : Nat) : Int) := n_shr (a := H) (k := 10) (by omega) (by decide)
    rw [Int.toNat_natCast, n3, n_and (by omega) (by omega), n_andn a1 (by omega)] at e1
    rw [Int.toNat_natCast, show gI s1 50 night = gI σ 50 night by rw [e1, gI_sI, if_neg (by omega)], n4, n_and (by omega) (by omega), n_and a2 (by omega), es, n_andn (and_lt a2) (by omega)] at e2
    have o2 : ∀ c j, ¬ (c = 42 ∧ 13 ≤ j ∧ j ≤ 16) → gI s2 c j = gI σ c j := fun c j q => by rw [e2, gI_sI, if_neg (by omega), e1, gI_sI, if_neg (by omega)]
    have t2 : s2.2 = σ.2 := by rw [e2, e1]; rfl
    have gA : gI s2 42 15 = ((ndn (R &&& bsN (fnB M K night 0) n) H : Nat) : Int) := by rw [e2, gI_sI, if_neg (by omega), e1, gI_sI, if_pos ⟨rfl, rfl⟩]
    have gO : gI s2 42 16 = ((ndn (R &&& bsN (fnB M K night 1) n &&& H) (H >>> 10) : Nat) : Int) := by rw [e2, gI_sI, if_pos ⟨rfl, rfl⟩]
    rw [Int.toNat_natCast, o2 _ _ (by omega), n1]
    clear e2 e1
    have lA : ndn (R &&& bsN (fnB M K night 0) n) H < 1024 := Nat.lt_of_le_of_lt (ndn_le _ _) (Nat.lt_of_le_of_lt Nat.and_le_left hR1)
    have lO : ndn (R &&& bsN (fnB M K night 1) n &&& H) (H >>> 10) < 1024 := Nat.lt_of_le_of_lt (ndn_le _ _) (Nat.lt_of_le_of_lt Nat.and_le_left (Nat.lt_of_le_of_lt Nat.and_le_left hR1))
    have ew : wTO (ndn (R &&& bsN (fnB M K night 0) n) H) (ndn (R &&& bsN (fnB M K night 1) n &&& H) (H >>> 10)) = wMV M K n away hsh night used := funext fun p => ws_eq hx hH hR1 hR.2 p
    have el : pkL (wTO (ndn (R &&& bsN (fnB M K night 0) n) H) (ndn (R &&& bsN (fnB M K night 1) n &&& H) (H >>> 10))) n (ndV K night) = crL M K n away hsh night used := by
      rw [ew]
      unfold crL
      exact (pk_top hn (fun p hp => by unfold wMV; rw [if_neg (fun w => by have := w.1; omega)])).symm
    refine w_fillP lA lO hn (by rw [o2 _ _ (by omega)]; exact e0) gA gO (by omega) (ndV_v K night) (fun τ t1 t3 t4 => ?_)
    rw [el] at t4 ⊢
    exact hQ τ ⟨t1.trans t2, fun c j q1 q2 => by rw [t3 c j (by omega) (by omega), o2 c j q1]⟩ t4
  · have en := hnil (by omega)
    rw [en] at hQ
    exact hQ σ zQ_rfl (fun i hi => absurd hi (by simp))
theorem w_crewAt {night i : Nat} {σ : st_S} {Q : Int → st_S → Prop} (hN : night ≤ 9) (hi : i < 210) (hQ : Q (gI σ 51 (210 * night + i)) σ) : wp_X5_crewAt (night : Int) (i : Int) σ Q := by
  intro x ex
  rw [show ((night : Int) * 210 + (i : Int)) = ((210 * night + i : Nat) : Int) by omega, wr_n (by omega)] at ex
  subst ex
  refine ⟨fun z => absurd z (by omega), fun _ => ⟨fun z => absurd z (by omega), fun _ => ⟨ixn (by omega), ?_⟩⟩⟩
  rw [Int.toNat_natCast]
  exact hQ
/-- heard more by the first k of a crew -/
def adA (M : zM) (K : Nat → Int) (hsh C q : Nat) : Nat → Int
  | 0 => 0
  | k + 1 => adA M K hsh C q k + (if hsh.testBit q = false ∧ C.testBit k = true ∧ hsh.testBit k = false then spV M K k q else 0)
theorem hdA_or {M : zM} {K : Nat → Int} {hsh used C q k : Nat} (hd : ∀ p, p < k → used.testBit p = true → C.testBit p = false) : hdA M K hsh (used ||| C) q k = hdA M K hsh used q k + adA M K hsh C q k := by
  induction k with
  | zero => exact (Int.add_zero _).symm
  | succ k ih =>
    show hdA M K hsh (used ||| C) q k + (if hsh.testBit q = false ∧ (used ||| C).testBit k = true ∧ hsh.testBit k = false then spV M K k q else 0) = hdA M K hsh used q k + (if hsh.testBit q = false ∧ used.testBit k = true ∧ hsh.testBit k = false then spV M K k q else 0) + (adA M K hsh C q k + (if hsh.testBit q = false ∧ C.testBit k = true ∧ hsh.testBit k = false then spV M K k q else 0))
    rw [ih (fun p hp => hd p (by omega)), Nat.testBit_or]
    cases hu : used.testBit k with
    | true =>
      rw [hd k (by omega) hu]
      simp only [Bool.true_or, true_and, Bool.false_eq_true, false_and, and_false, if_false]
      omega
    | false =>
      simp only [Bool.false_or, Bool.false_eq_true, false_and, and_false, if_false]
      omega
theorem hdV_1 {M : zM} {K : Nat → Int} {n hsh used p : Nat} : (1 ≤ hdV M K n hsh used p ↔ 1 ≤ hdA M K hsh used p n) ∧ (2 ≤ hdV M K n hsh used p ↔ 2 ≤ hdA M K hsh used p n) := by
  unfold hdV
  split <;> constructor <;> constructor <;> omega
set_option maxHeartbeats 1000000 in
theorem w_spoiled {σ : st_S} {K : Nat → Int} {n hsh used C H : Nat} {M : zM} {Q : Int → st_S → Prop} (h : ppC σ K n M) (hH : hOk H (hdV M K n hsh used) n) (hC : C < 1024) (hh : hsh < 1024) (hd : ∀ p, p < n → used.testBit p = true → C.testBit p = false)
    (hQ : ∀ H' : Nat, hOk H' (hdV M K n hsh (used ||| C)) n → Q (H' : Int) σ) : wp_X5_spoiled (H : Int) (C : Int) (hsh : Int) σ Q := by
  have hx := h.1
  have hn := hx.1.2.2
  have e0 : gI σ 25 0 = (n : Int) := hx.1.1
  have hH1 := hH.1
  intro a ea b eb c ec
  rw [show (1023 : Int) = ((1023 : Nat) : Int) from rfl, n_and (by omega) (by decide)] at ea
  have es : o_shr (H : Int) 10 = ((H >>> 10 : Nat) : Int) := n_shr (a := H) (k := 10) (by omega) (by decide)
  rw [es] at eb
  rw [n_andn (by omega) (by omega)] at ec
  subst ea
  subst eb
  subst ec
  have tl : ndn C hsh < 1024 := Nat.lt_of_le_of_lt (ndn_le _ _) hC
  have tt : ∀ p, (ndn C hsh).testBit p = (C.testBit p && !hsh.testBit p) := fun p => ndn_bit (by omega)
  have s10 : H >>> 10 < 1024 := by rw [Nat.shiftRight_eq_div_pow]; exact Nat.div_lt_of_lt_mul (by omega)
  have a10 : H &&& 1023 < 1024 := Nat.lt_of_le_of_lt Nat.and_le_right (by decide)
  have key : ∀ m k : Nat, k + m = n → ∀ S A : Nat, S < 1024 → A < 1024 → (∀ q, q < 10 → S.testBit q = decide (q < n ∧ 1 ≤ hdA M K hsh used q n + adA M K hsh C q k) ∧ A.testBit q = decide (q < n ∧ 2 ≤ hdA M K hsh used q n + adA M K hsh C q k)) → L_X5_spoiled_23 Q (m + 1) (hsh : Int) (S : Int) (A : Int) (ndn C hsh : Int) (k : Int) σ := by
    intro m
    induction m with
    | zero =>
      intro k hk S A hS hA hb
      have ek : k = n := by omega
      subst ek
      refine ⟨fun _ => ?_, fun z => absurd (by omega) z⟩
      have sl : A <<< 10 < 2 ^ 31 := by rw [Nat.shiftLeft_eq]; omega
      rw [show (10 : Int) = ((10 : Nat) : Int) from rfl, n_shl (by decide) (by omega), n_or sl (by omega)]
      refine hQ _ ⟨?_, fun p hp => ?_⟩
      · exact Nat.or_lt_two_pow (n := 20) (by rw [Nat.shiftLeft_eq]; omega) (by omega)
      · have := hb p hp
        rw [Nat.testBit_or, Nat.testBit_or, Nat.testBit_shiftLeft, Nat.testBit_shiftLeft, this.1, Nat.add_sub_cancel, this.2, tb_big hS (show 10 ≤ p + 10 by omega), decide_eq_false (show ¬ p ≥ 10 by omega), decide_eq_true (show p + 10 ≥ 10 by omega), Bool.false_and, Bool.false_or, Bool.true_and, Bool.or_false]
        have e1 := (hdV_1 (M := M) (K := K) (n := k) (hsh := hsh) (used := used ||| C) (p := p))
        rw [hdA_or hd] at e1
        simp only [e1.1, e1.2, and_self]
    | succ m ih =>
      intro k hk S A hS hA hb
      have nn : ∀ q, 0 ≤ hdA M K hsh used q n + adA M K hsh C q k ∨ ¬ q < n := by
        intro q
        by_cases hq : q < n
        · left
          have o4 := (hx.2.2.2.1 q hq).2
          have g1 := hdA_ge (M := M) (K := K) (hsh := hsh) (used := used) (p := q) (k := n)
          have g2 : ∀ k, 0 ≤ adA M K hsh C q k := by
            intro k
            induction k with
            | zero => exact Int.le_refl 0
            | succ k ihk =>
              have := spV_r M K k q
              show 0 ≤ adA M K hsh C q k + _
              split <;> omega
          have := g2 k
          omega
        · exact Or.inr hq
      have nxt : ∀ S' A' : Nat, S' < 1024 → A' < 1024 → (∀ q, q < 10 → S'.testBit q = decide (q < n ∧ 1 ≤ hdA M K hsh used q n + adA M K hsh C q (k + 1)) ∧ A'.testBit q = decide (q < n ∧ 2 ≤ hdA M K hsh used q n + adA M K hsh C q (k + 1))) → B_X5_spoiled_88 Q (L_X5_spoiled_23 Q (m + 1)) (hsh : Int) (S' : Int) (A' : Int) (ndn C hsh : Int) (k : Int) σ := by
        intro S' A' h1 h2 h3 x ex
        rw [wks (by omega)] at ex
        subst ex
        exact ih (k + 1) (by omega) S' A' h1 h2 h3
      refine ⟨fun z => absurd z (by omega), fun _ => ?_⟩
      refine (fun w => ⟨w.2, w.1⟩) (w_bit tl (by omega) (fun hbt => ⟨ixn (by omega), ixn (by omega), ?_⟩) (fun hbt => nxt S A hS hA ?_))
      · intro q hq
        have ead : adA M K hsh C q (k + 1) = adA M K hsh C q k := by
          show adA M K hsh C q k + (if hsh.testBit q = false ∧ C.testBit k = true ∧ hsh.testBit k = false then spV M K k q else 0) = _
          rw [if_neg (fun w => by rw [tt, w.2.1, w.2.2] at hbt; exact absurd hbt (by decide)), Int.add_zero]
        rw [ead]
        exact hb q hq
      · rw [tt] at hbt
        have hC1 : C.testBit k = true ∧ hsh.testBit k = false := by
          cases h1 : C.testBit k <;> cases h2 : hsh.testBit k <;> rw [h1, h2] at hbt <;> first | exact absurd hbt (by decide) | exact ⟨rfl, rfl⟩
        obtain ⟨g43, g45, g46⟩ := h.2.1.2.2 k (by omega)
        have l1 := bsN_lt (spB M K k 1) n hn
        have l2 := bsN_lt (spB M K k 2) n hn
        have sa : S &&& bsN (spB M K k 1) n < 1024 := Nat.lt_of_le_of_lt Nat.and_le_left hS
        have so : bsN (spB M K k 2) n ||| S &&& bsN (spB M K k 1) n < 1024 := Nat.or_lt_two_pow (n := 10) l2 sa
        intro y ey
        rw [Int.toNat_natCast, g45, g46, n_and (by omega) (by omega), n_or (by omega) (by omega), n_andn (by omega) (by omega), n_or (by omega) (by have := ndn_le (bsN (spB M K k 2) n ||| S &&& bsN (spB M K k 1) n) hsh; omega)] at ey
        subst ey
        refine ⟨ixn (by omega), ?_⟩
        intro y ey
        rw [Int.toNat_natCast, g45, n_andn (by omega) (by omega), n_or (by omega) (by have := ndn_le (bsN (spB M K k 1) n) hsh; omega)] at ey
        subst ey
        refine nxt _ _ ?_ ?_ (fun q hq => ?_)
        · exact Nat.or_lt_two_pow (n := 10) hS (by have := ndn_le (bsN (spB M K k 1) n) hsh; omega)
        · exact Nat.or_lt_two_pow (n := 10) hA (by have := ndn_le (bsN (spB M K k 2) n ||| S &&& bsN (spB M K k 1) n) hsh; omega)
        · have ead : adA M K hsh C q (k + 1) = adA M K hsh C q k + (if hsh.testBit q = false ∧ C.testBit k = true ∧ hsh.testBit k = false then spV M K k q else 0) := rfl
          rw [Nat.testBit_or, Nat.testBit_or, ndn_bit (by omega), ndn_bit (by omega), Nat.testBit_or, Nat.testBit_and, (hb q hq).1, (hb q hq).2, bsN_tb, bsN_tb, ead]
          have nq := nn q
          have sr := spV_r M K k q
          unfold spB
          by_cases hq2 : q < n
          · cases hhq : hsh.testBit q with
            | true =>
              rw [if_neg (fun w => absurd w.1 (by decide)), Int.add_zero]
              simp
            | false =>
              rw [if_pos ⟨rfl, hC1.1, hC1.2⟩, ← Int.add_assoc]
              generalize hdA M K hsh used q n + adA M K hsh C q k = v at nq
              generalize spV M K k q = w at sr
              simp only [hq2, true_and, decide_true, Bool.true_and, Bool.not_false, Bool.and_true]
              refine ⟨?_, ?_⟩
              · rw [Bool.eq_iff_iff]
                simp only [Bool.or_eq_true, decide_eq_true_eq]
                omega
              · rw [Bool.eq_iff_iff]
                simp only [Bool.or_eq_true, Bool.and_eq_true, decide_eq_true_eq]
                omega
          · simp [hq2]
  refine ⟨n + 1, key n 0 (by omega) _ _ a10 s10 (fun q hq => ?_)⟩
  have e1 := (hdV_1 (M := M) (K := K) (n := n) (hsh := hsh) (used := used) (p := q))
  have h2 := hH.2 q hq
  rw [show adA M K hsh C q 0 = 0 from rfl, Int.add_zero, Nat.testBit_and, Nat.testBit_shiftRight, Nat.add_comm 10 q, h2.1, h2.2, show (1023 : Nat) = 2 ^ 10 - 1 from rfl, Nat.testBit_two_pow_sub_one, decide_eq_true hq, Bool.and_true]
  simp only [e1.1, e1.2, and_self]
