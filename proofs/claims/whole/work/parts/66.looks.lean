/-! on paper: when one comes, how one spoils another, what one has heard then -/
def comV (M : zM) (K : Nat → Int) (p : Nat) : Int := if K p = 2 then 0 else if K p = 1 then wr (K (10 + p) - K 33) else if K p = 0 then takV M K p else 1000000
def spV (M : zM) (K : Nat → Int) (p q : Nat) : Int := if K (54 + 10 * p + q) = 1 then spoV M K p q else 0
theorem spV_r (M : zM) (K : Nat → Int) (p q : Nat) : 0 ≤ spV M K p q ∧ spV M K p q ≤ 2 := by
  have := spo_r M K p q
  unfold spV
  split <;> omega
/-- heard by p behind the first k of those who have lit it, hushed ones aside -/
def hdA (M : zM) (K : Nat → Int) (hsh used p : Nat) : Nat → Int
  | 0 => K (20 + p)
  | q + 1 => hdA M K hsh used p q + (if hsh.testBit p = false ∧ used.testBit q = true ∧ hsh.testBit q = false then spV M K q p else 0)
def hdV (M : zM) (K : Nat → Int) (n hsh used p : Nat) : Int := if 2 ≤ hdA M K hsh used p n then 2 else hdA M K hsh used p n
theorem hdA_mono {M : zM} {K : Nat → Int} {hsh used p k m : Nat} (h : k ≤ m) : hdA M K hsh used p k ≤ hdA M K hsh used p m := by
  induction m with
  | zero => rw [show k = 0 by omega]; exact Int.le_refl _
  | succ m ih =>
    by_cases e : k = m + 1
    · rw [e]; exact Int.le_refl _
    · have i := ih (by omega)
      have s := spV_r M K m p
      show _ ≤ hdA M K hsh used p m + _
      split <;> omega
theorem hdA_h {M : zM} {K : Nat → Int} {hsh used p k : Nat} (h : hsh.testBit p = true) : hdA M K hsh used p k = K (20 + p) := by
  induction k with
  | zero => rfl
  | succ k ih =>
    show hdA M K hsh used p k + (if hsh.testBit p = false ∧ used.testBit k = true ∧ hsh.testBit k = false then spV M K k p else 0) = _
    rw [ih, if_neg (fun z => by rw [h] at z; exact absurd z.1 (by decide)), Int.add_zero]
/-- what looks has laid out -/
def lkM (σ : st_S) (n : Nat) (M : zM) : Prop := (∀ p, p < n → gI σ 15 p = comV M (gI σ 2) p) ∧ ∀ p q, p < n → q < n → gI σ 16 (10 * p + q) = spV M (gI σ 2) p q
theorem m_heardBy {σ : st_S} {n p used hsh : Nat} {M : zM} {Q : Int → st_S → Prop} (hx : cxM σ n M) (hl : lkM σ n M) (hp : p < n) (hu : used < 1024) (hh : hsh < 1024) (gh : gI σ 0 35 = (hsh : Int)) (hQ : Q (hdV M (gI σ 2) n hsh used p) σ) : wp_X11_heardBy (p : Int) (used : Int) σ Q := by
  obtain ⟨⟨σc, hc⟩, -⟩ := hx
  have hn := hc.1.2.2
  have h256 := hc.1.2.1
  have o4 := (hc.2.2.2.1 p hp).2
  unfold wp_X11_heardBy
  rw [wk20 (by omega)]
  refine ⟨ixn (by omega), ?_⟩
  intro x ex
  rw [Int.toNat_natCast] at ex
  subst ex
  have fin : ∀ k : Nat, k ≤ n → (2 ≤ hdA M (gI σ 2) hsh used p k ∨ k = n ∨ hsh.testBit p = true) → B_X11_heardBy_80 Q (hdA M (gI σ 2) hsh used p k) σ := by
    intro k hk hcase
    refine lesser_v ?_
    have e : (if hdA M (gI σ 2) hsh used p k ≤ 2 then hdA M (gI σ 2) hsh used p k else 2) = hdV M (gI σ 2) n hsh used p := by
      unfold hdV
      rcases hcase with h | h | h
      · have := hdA_mono (M := M) (K := gI σ 2) (hsh := hsh) (used := used) (p := p) hk
        split <;> split <;> omega
      · subst h
        split <;> split <;> omega
      · rw [hdA_h h, hdA_h h]
        split <;> split <;> omega
    rw [e]
    exact hQ
  have key : ∀ m k : Nat, k + m = n → 0 ≤ hdA M (gI σ 2) hsh used p k ∧ hdA M (gI σ 2) hsh used p k ≤ 4 → L_X11_heardBy_13 Q (m + 1) (p : Int) (used : Int) (hdA M (gI σ 2) hsh used p k) (k : Int) σ := by
    intro m
    induction m with
    | zero =>
      intro k hk hr
      exact ⟨fun _ => fin k (by omega) (Or.inr (Or.inl (by omega))), fun z => absurd (show gI σ 2 256 ≤ (k : Int) by omega) z⟩
    | succ m ih =>
      intro k hk hr
      have sr := spV_r M (gI σ 2) k p
      have es : hdA M (gI σ 2) hsh used p (k + 1) = hdA M (gI σ 2) hsh used p k + (if hsh.testBit p = false ∧ used.testBit k = true ∧ hsh.testBit k = false then spV M (gI σ 2) k p else 0) := rfl
      refine ⟨fun z => absurd z (by show ¬ gI σ 2 256 ≤ (k : Int); omega), fun _ => ⟨fun z => fin k (by omega) (Or.inl z), fun z => ?_⟩⟩
      rw [gh]
      refine m_isIn hh (by omega) (fun hb => ⟨fun _ => fin k (by omega) (Or.inr (Or.inr hb)), fun y => absurd y (by decide)⟩) (fun hb => ⟨fun y => absurd rfl y, fun _ => ?_⟩)
      have same : ¬ (used.testBit k = true ∧ hsh.testBit k = false) → B_X11_heardBy_74 Q (L_X11_heardBy_13 Q (m + 1)) (p : Int) (used : Int) (hdA M (gI σ 2) hsh used p k) (k : Int) σ := by
        intro hno
        intro y ey
        rw [wks (by omega)] at ey
        subst ey
        rw [if_neg (fun w => hno w.2), Int.add_zero] at es
        have := ih (k + 1) (by omega) (by rw [es]; exact hr)
        rw [es] at this
        exact this
      refine m_isIn hu (by omega) (fun hb2 => ⟨fun y => absurd y (by decide), fun _ => ?_⟩) (fun hb2 => ⟨fun _ => same (fun w => by rw [hb2] at w; exact absurd w.1 (by decide)), fun y => absurd rfl y⟩)
      rw [gh]
      refine m_isIn hh (by omega) (fun hb3 => ⟨fun _ => same (fun w => by rw [hb3] at w; exact absurd w.2 (by decide)), fun y => absurd y (by decide)⟩) (fun hb3 => ⟨fun y => absurd rfl y, fun _ => ?_⟩)
      rw [show (10 * (k : Int) + (p : Int)) = ((10 * k + p : Nat) : Int) by omega, wr_n (by omega)]
      refine ⟨ixn (by omega), ?_⟩
      intro y ey
      rw [Int.toNat_natCast, hl.2 k p (by omega) hp] at ey
      rw [if_pos ⟨hb, hb2, hb3⟩] at es
      rw [← es, wr_id (by omega) (by omega)] at ey
      subst ey
      intro u eu
      rw [wks (by omega)] at eu
      subst eu
      refine ih (k + 1) (by omega) (by omega)
  exact ⟨n + 1, key n 0 (by omega) ⟨o4.1, by show gI σ 2 (20 + p) ≤ 4; omega⟩⟩
