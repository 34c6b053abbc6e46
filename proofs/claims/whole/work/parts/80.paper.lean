/-! the class's paper: small methods -/
theorem bs_y {f : Nat → Bool} {p : Nat} (hp : p < 10) (h : f p = true) : o_or (bsN f p : Int) (o_shl 1 (p : Int)) = ((bsN f (p + 1) : Nat) : Int) := by
  rw [or_new (bsN_lt f p (by omega)) hp]
  show _ = ((bsN f p ||| (if f p then 2 ^ p else 0) : Nat) : Int)
  rw [h, if_pos rfl]
theorem bs_n {f : Nat → Bool} {p : Nat} (h : f p = false) : bsN f (p + 1) = bsN f p := by
  show bsN f p ||| (if f p then 2 ^ p else 0) = _
  rw [h, if_neg (by decide), Nat.or_zero]
theorem bs_0 {f : Nat → Bool} {p : Nat} (hp : p < 10) (h : f p = false) : o_or (bsN f p : Int) 0 = ((bsN f (p + 1) : Nat) : Int) := by
  have n0 := n_or (a := bsN f p) (b := 0) (by have := bsN_lt f p (by omega); omega) (by decide)
  rw [bs_n h]
  rw [Nat.or_zero] at n0
  exact n0
/-- scratch of the paper -/
def zP (σ τ : st_S) : Prop := τ.2 = σ.2 ∧ ∀ c j, ¬ (36 ≤ c ∧ c ≤ 38) → ¬ (42 ≤ c ∧ c ≤ 51) → gI τ c j = gI σ c j
theorem zP_rfl {σ : st_S} : zP σ σ := ⟨rfl, fun _ _ _ _ => rfl⟩
theorem zP_tr {σ τ υ : st_S} (h : zP σ τ) (g : zP τ υ) : zP σ υ := ⟨g.1.trans h.1, fun c j a b => (g.2 c j a b).trans (h.2 c j a b)⟩
theorem zP_J {σ τ : st_S} (h : zJ σ τ) : zP σ τ := ⟨h.1, fun c j a _ => h.2 c j (by omega) (by omega) (by omega)⟩
theorem zP_sI {σ : st_S} {c j : Nat} {v : Int} (h : 42 ≤ c ∧ c ≤ 51) : zP σ (sI σ c j v) := ⟨rfl, fun c' j' a b => by rw [gI_sI, if_neg (by omega)]⟩
theorem cxC_P {σ τ : st_S} {K : Nat → Int} {n : Nat} {M : zM} (h : cxC σ K n M) (g : zP σ τ) : cxC τ K n M := by
  obtain ⟨h1, h2, h3, h4, h5, h6, h7, h8, h9, hf, hj⟩ := h
  refine ⟨zC1_of h1 (g.2 _ _ (by omega) (by omega)) rfl, zC2_of h2 (fun p _ => g.2 _ _ (by omega) (by omega)) (fun _ _ _ => rfl), zC3_of h3 (fun p _ => g.2 _ _ (by omega) (by omega)) (fun _ _ _ => rfl), zC4_of h4 (fun p _ => g.2 _ _ (by omega) (by omega)) (fun _ _ _ => rfl), zC5_of h5 (fun p _ => g.2 _ _ (by omega) (by omega)) (fun _ _ => rfl), zC6_of h6 (fun p _ => g.2 _ _ (by omega) (by omega)) (fun _ _ => rfl) (fun _ _ _ => rfl), zC7_of h7 (fun p _ => g.2 _ _ (by omega) (by omega)) (fun _ _ _ => rfl), zC8_of h8 (fun p => g.2 _ _ (by omega) (by omega)) (fun _ _ _ => rfl), zC9_of h9 (fun p => g.2 _ _ (by omega) (by omega)) (fun _ _ => rfl), fMc_ab hf g.1 (fun c j hc => g.2 _ _ (by omega) (by omega)), zJk_of hj g.1⟩
theorem w_nightOf {σ : st_S} {K : Nat → Int} {n p : Nat} {M : zM} {Q : Int → st_S → Prop} (h : cxC σ K n M) (hp : p < n) (hQ : ∀ τ, zJ σ τ → Q (comV M K p) τ) : wp_X5_nightOf (p : Int) σ Q := by
  have hn := h.1.2.2
  have h5 := h.2.2.2.2.1 p hp
  have h6 := h.2.2.2.2.2.1 p hp
  have h9 := h.2.2.2.2.2.2.2.2.1
  unfold zC9 at h9
  refine ⟨ixn (by omega), ?_⟩
  rw [Int.toNat_natCast, show gI σ 29 p = K p from h5.1, show gI σ 33 0 = K 33 from h9.1.1]
  refine ⟨fun z => w_takes h hp (fun τ hτ => ?_), fun z => ⟨ixn (by omega), ?_⟩, fun z => ?_, fun z => ?_⟩
  · have q := hQ τ hτ
    unfold comV at q
    rw [if_neg (by omega), if_neg (by omega), if_pos z] at q
    exact q
  · have q := hQ σ zJ_rfl
    unfold comV at q
    rw [if_neg (by omega), if_pos z] at q
    rw [show gI σ 30 p = K (10 + p) from h6 z]
    exact q
  · have q := hQ σ zJ_rfl
    unfold comV at q
    rw [if_pos z] at q
    exact q
  · have q := hQ σ zJ_rfl
    unfold comV at q
    rw [if_neg (by omega), if_neg (by omega), if_neg (by omega)] at q
    exact q
/-- whom p spoils by as much as v -/
def spB (M : zM) (K : Nat → Int) (p : Nat) (v : Int) (q : Nat) : Bool := decide (v ≤ spV M K p q)
def fA (p : Nat) (σ τ : st_S) : Prop := τ.2 = σ.2 ∧ ∀ c j, ¬ (36 ≤ c ∧ c ≤ 38) → ¬ ((c = 45 ∨ c = 46) ∧ j = p) → gI τ c j = gI σ c j
theorem fA_P {p : Nat} {σ τ : st_S} (h : fA p σ τ) : zP σ τ := ⟨h.1, fun c j a b => h.2 c j a (by omega)⟩
theorem fA_tr {p : Nat} {σ τ υ : st_S} (h : fA p σ τ) (g : fA p τ υ) : fA p σ υ := ⟨g.1.trans h.1, fun c j a b => (g.2 c j a b).trans (h.2 c j a b)⟩
theorem fA_J {p : Nat} {σ τ : st_S} (h : zJ σ τ) : fA p σ τ := ⟨h.1, fun c j a _ => h.2 c j (by omega) (by omega) (by omega)⟩
theorem fA_sI {p c : Nat} {σ : st_S} {v : Int} (h : c = 45 ∨ c = 46) : fA p σ (sI σ c p v) := ⟨rfl, fun c' j' a b => by rw [gI_sI, if_neg (by omega)]⟩
set_option maxHeartbeats 400000 in
theorem w_askSpoils {σ : st_S} {K : Nat → Int} {n p : Nat} {M : zM} {Q : st_S → Prop} (h : cxC σ K n M) (hp : p < n) (hQ : ∀ τ, fA p σ τ → gI τ 45 p = (bsN (spB M K p 1) n : Int) → gI τ 46 p = (bsN (spB M K p 2) n : Int) → Q τ) : wp_X5_askSpoils (p : Int) σ Q := by
  have hn := h.1.2.2
  refine ⟨ixn (by omega), ?_⟩
  intro s0 e0
  refine ⟨ixn (by omega), ?_⟩
  intro s1 e1
  rw [Int.toNat_natCast] at e0 e1
  have f1 : fA p σ s1 := by rw [e1, e0]; exact fA_tr (fA_sI (Or.inl rfl)) (fA_sI (Or.inr rfl))
  have v1 : gI s1 45 p = 0 ∧ gI s1 46 p = 0 := by rw [e1, e0, gI_sI, gI_sI, gI_sI]; exact ⟨by rw [if_neg (by omega), if_pos ⟨rfl, rfl⟩], by rw [if_pos ⟨rfl, rfl⟩]⟩
  clear e1 e0
  have key : ∀ m q : Nat, q + m = n → ∀ τ, fA p σ τ → gI τ 45 p = (bsN (spB M K p 1) q : Int) → gI τ 46 p = (bsN (spB M K p 2) q : Int) → L_X5_askSpoils_16 Q (m + 1) (p : Int) (q : Int) τ := by
    intro m
    induction m with
    | zero =>
      intro q hq τ a1 a2 a3
      have ct := cxC_P h (fA_P a1)
      have e0 : gI τ 25 0 = (n : Int) := ct.1.1
      have eq : q = n := by omega
      subst eq
      exact ⟨fun _ => hQ τ a1 a2 a3, fun z => absurd (by omega) z⟩
    | succ m ih =>
      intro q hq τ a1 a2 a3
      have ct := cxC_P h (fA_P a1)
      have e0 : gI τ 25 0 = (n : Int) := ct.1.1
      obtain ⟨f, g1, g2, g3⟩ := ct.2.2.2.2.2.2.1 p (by omega)
      have g3q := (g3 q (by omega)).1
      have nxt : ∀ υ, fA p σ υ → gI υ 45 p = (bsN (spB M K p 1) (q + 1) : Int) → gI υ 46 p = (bsN (spB M K p 2) (q + 1) : Int) → B_X5_askSpoils_93 Q (L_X5_askSpoils_16 Q (m + 1)) (p : Int) (q : Int) υ := by
        intro υ b1 b2 b3 x ex
        rw [wks (by omega)] at ex
        subst ex
        exact ih (q + 1) (by omega) υ b1 b2 b3
      have h91 : ∀ (v0 : Int) υ, fA p σ υ → gI υ 45 p = (bsN (spB M K p 1) (q + 1) : Int) → gI υ 46 p = (bsN (spB M K p 2) q : Int) → o_or (bsN (spB M K p 2) q : Int) v0 = ((bsN (spB M K p 2) (q + 1) : Nat) : Int) → B_X5_askSpoils_91 Q (L_X5_askSpoils_16 Q (m + 1)) (p : Int) (q : Int) v0 (gI υ 46 p) (p : Int) υ := by
        intro v0 υ b1 b2 b3 b4
        unfold B_X5_askSpoils_91
        rw [wr_n (by omega)]
        refine ⟨ixn (by omega), ?_⟩
        intro s es
        rw [Int.toNat_natCast, b3, b4] at es
        subst es
        exact nxt _ (fA_tr b1 (fA_sI (Or.inr rfl))) (by rw [gI_sI, if_neg (by omega)]; exact b2) (by rw [gI_sI, if_pos ⟨rfl, rfl⟩])
      have h70 : ∀ (r v0 : Int) υ, r = spV M K p q → fA p σ υ → gI υ 45 p = (bsN (spB M K p 1) q : Int) → gI υ 46 p = (bsN (spB M K p 2) q : Int) → o_or (bsN (spB M K p 1) q : Int) v0 = ((bsN (spB M K p 1) (q + 1) : Nat) : Int) → B_X5_askSpoils_70 Q (L_X5_askSpoils_16 Q (m + 1)) (p : Int) (q : Int) r v0 (gI υ 45 p) (p : Int) υ := by
        intro r v0 υ er b1 b2 b3 b4
        unfold B_X5_askSpoils_70
        rw [wr_n (by omega)]
        refine ⟨ixn (by omega), ?_⟩
        intro s es
        rw [Int.toNat_natCast, b2, b4] at es
        subst es
        have c1 : fA p σ (sI υ 45 p ((bsN (spB M K p 1) (q + 1) : Nat) : Int)) := fA_tr b1 (fA_sI (Or.inl rfl))
        have c2 : gI (sI υ 45 p ((bsN (spB M K p 1) (q + 1) : Nat) : Int)) 45 p = ((bsN (spB M K p 1) (q + 1) : Nat) : Int) := by rw [gI_sI, if_pos ⟨rfl, rfl⟩]
        have c3 : gI (sI υ 45 p ((bsN (spB M K p 1) (q + 1) : Nat) : Int)) 46 p = (bsN (spB M K p 2) q : Int) := by rw [gI_sI, if_neg (by omega)]; exact b3
        refine ⟨ixn (by omega), fun z => ?_, fun z => ?_⟩
        · exact h91 0 _ c1 c2 c3 (bs_0 (by omega) (by unfold spB; exact decide_eq_false (by omega)))
        · exact h91 _ _ c1 c2 c3 (bs_y (by omega) (by unfold spB; exact decide_eq_true (by omega)))
      refine ⟨fun z => absurd z (by omega), fun _ => w_talks (by omega) (by omega) g1 (g2 hp) ?_⟩
      cases hb : f.testBit q with
      | true =>
        rw [if_pos rfl]
        rw [hb, if_pos rfl] at g3q
        have es : spV M K p q = spoV M K p q := by unfold spV; rw [if_pos g3q]
        refine ⟨fun _ => w_spoils ct hp (by omega) (fun υ hυ => ?_), fun z => absurd z (by decide)⟩
        have b1 : fA p σ υ := fA_tr a1 (fA_J hυ)
        have b2 : gI υ 45 p = (bsN (spB M K p 1) q : Int) := by rw [hυ.2 _ _ (by decide) (by decide) (by decide)]; exact a2
        have b3 : gI υ 46 p = (bsN (spB M K p 2) q : Int) := by rw [hυ.2 _ _ (by decide) (by decide) (by decide)]; exact a3
        refine ⟨ixn (by omega), fun z => ?_, fun z => ?_⟩
        · exact h70 _ 0 υ es.symm b1 b2 b3 (bs_0 (by omega) (by unfold spB; exact decide_eq_false (by omega)))
        · exact h70 _ _ υ es.symm b1 b2 b3 (bs_y (by omega) (by unfold spB; exact decide_eq_true (by omega)))
      | false =>
        rw [if_neg (by decide)]
        rw [hb, if_neg (by decide)] at g3q
        have es : spV M K p q = 0 := by unfold spV; rw [if_neg (by omega)]
        refine ⟨fun z => absurd rfl z, fun _ => nxt τ a1 ?_ ?_⟩
        · rw [bs_n (by unfold spB; exact decide_eq_false (by omega))]; exact a2
        · rw [bs_n (by unfold spB; exact decide_eq_false (by omega))]; exact a3
  exact ⟨n + 1, key n 0 (by omega) s1 f1 v1.1 v1.2⟩
def cmB (M : zM) (K : Nat → Int) (night p : Nat) : Bool := decide (comV M K p ≤ (night : Int))
theorem w_comeBy {σ : st_S} {K : Nat → Int} {n night : Nat} {M : zM} {Q : Int → st_S → Prop} (hn : n ≤ 10) (e0 : gI σ 25 0 = (n : Int)) (hc : ∀ p, p < n → gI σ 43 p = comV M K p) (hQ : Q (bsN (cmB M K night) n : Int) σ) : wp_X5_comeBy (night : Int) σ Q := by
  have key : ∀ m p : Nat, p + m = n → L_X5_comeBy_4 Q (m + 1) (night : Int) (bsN (cmB M K night) p : Int) (p : Int) σ := by
    intro m
    induction m with
    | zero =>
      intro p hp
      have ep : p = n := by omega
      subst ep
      exact ⟨fun _ => hQ, fun z => absurd (by omega) z⟩
    | succ m ih =>
      intro p hp
      have nxt : ∀ v0 : Int, o_or (bsN (cmB M K night) p : Int) v0 = ((bsN (cmB M K night) (p + 1) : Nat) : Int) → B_X5_comeBy_33 Q (L_X5_comeBy_4 Q (m + 1)) (night : Int) (p : Int) v0 (bsN (cmB M K night) p : Int) σ := by
        intro v0 hv x ex y ey
        rw [hv] at ex
        rw [wks (by omega)] at ey
        subst ex
        subst ey
        exact ih (p + 1) (by omega)
      refine ⟨fun z => absurd z (by omega), fun _ => ⟨ixn (by omega), ?_⟩⟩
      rw [Int.toNat_natCast, hc p (by omega)]
      exact ⟨fun z => nxt 0 (bs_0 (by omega) (by unfold cmB; exact decide_eq_false (by omega))), fun z => nxt _ (bs_y (by omega) (by unfold cmB; exact decide_eq_true (by omega)))⟩
  exact ⟨n + 1, key n 0 (by omega)⟩
/-- who is free, having heard h, of A -/
def frB (M : zM) (K : Nat → Int) (night h : Nat) (fog : Int) (A p : Nat) : Bool := A.testBit p && decide (comV M K p ≤ (night : Int)) && decide (barV M K p (h : Int) (K 33 + (night : Int)) fog = 0)
theorem w_freeOn {σ : st_S} {K : Nat → Int} {n night h A : Nat} {M : zM} {fog : Int} {Q : Int → st_S → Prop} (hx : cxC σ K n M) (hN : night ≤ 100) (hh : h ≤ 2) (hf : fog = 0 ∨ fog = 1) (hA : A < 1024) (hc : ∀ p, p < n → gI σ 43 p = comV M K p) (hQ : ∀ τ, zJ σ τ → Q (bsN (frB M K night h fog A) n : Int) τ) : wp_X5_freeOn (night : Int) fog (h : Int) (A : Int) σ Q := by
  have hn := hx.1.2.2
  have h9 := hx.2.2.2.2.2.2.2.2.1
  unfold zC9 at h9
  have h933 := h9.1.2
  intro x ex
  rw [show gI σ 33 0 = K 33 from h9.1.1, wr_id (by omega) (by omega)] at ex
  subst ex
  have key : ∀ m p : Nat, p + m = n → ∀ τ, zJ σ τ → L_X5_freeOn_19 Q (m + 1) (night : Int) fog (h : Int) (A : Int) (K 33 + (night : Int)) (bsN (frB M K night h fog A) p : Int) (p : Int) τ := by
    intro m
    induction m with
    | zero =>
      intro p hp τ hτ
      have e0 : gI τ 25 0 = (n : Int) := (cxC_of hx hτ).1.1
      have ep : p = n := by omega
      subst ep
      exact ⟨fun _ => hQ τ hτ, fun z => absurd (by omega) z⟩
    | succ m ih =>
      intro p hp τ hτ
      have ct := cxC_of hx hτ
      have e0 : gI τ 25 0 = (n : Int) := ct.1.1
      have nxt : ∀ (v : Int) υ, zJ σ υ → v = ((bsN (frB M K night h fog A) (p + 1) : Nat) : Int) → B_X5_freeOn_77 Q (L_X5_freeOn_19 Q (m + 1)) (night : Int) fog (h : Int) (A : Int) (K 33 + (night : Int)) v (p : Int) υ := by
        intro v υ hυ hv y ey
        rw [wks (by omega)] at ey
        subst ey
        subst hv
        exact ih (p + 1) (by omega) υ hυ
      refine ⟨fun z => absurd z (by omega), fun _ => ?_⟩
      refine (fun w => ⟨w.2, w.1⟩) (w_bit hA (by omega) (fun hb => ⟨ixn (by omega), ?_⟩) (fun hb => nxt _ τ hτ ?_))
      · rw [bs_n (by unfold frB; rw [hb]; rfl)]
      · rw [Int.toNat_natCast, hτ.2 _ _ (by decide) (by decide) (by decide), hc p (by omega)]
        refine ⟨fun z => nxt _ τ hτ ?_, fun z => w_bars ct (by omega) (by unfold i32; omega) (by unfold i32; omega) (by unfold i32; omega) (fun υ hυ => ⟨fun y => nxt _ υ (zJ_tr hτ hυ) ?_, fun y => ?_⟩)⟩
        · rw [bs_n (by unfold frB; rw [decide_eq_false (show ¬ comV M K p ≤ (night : Int) by omega)]; simp)]
        · rw [bs_n (by unfold frB; rw [decide_eq_false y]; simp)]
        · intro v ev
          refine nxt v υ (zJ_tr hτ hυ) ?_
          rw [ev]
          exact bs_y (by omega) (by unfold frB; rw [hb, decide_eq_true (show comV M K p ≤ (night : Int) by omega), decide_eq_true y]; rfl)
  exact ⟨n + 1, key n 0 (by omega) σ zJ_rfl⟩
