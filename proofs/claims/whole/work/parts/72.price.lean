/-! the price of a crew, in both -/
def prS (c : Nat → Nat) (S : Nat) : Nat → Nat
  | 0 => 0
  | p + 1 => prS c S p + (if S.testBit p then c p else 0)
theorem prS_le {c : Nat → Nat} {S : Nat} (hc : ∀ p, c p ≤ 9999) (n : Nat) : prS c S n ≤ 9999 * n := by
  induction n with
  | zero => exact Nat.le_refl 0
  | succ n ih =>
    show prS c S n + (if S.testBit n then c n else 0) ≤ _
    have := hc n
    split <;> omega
theorem prS_t {c : Nat → Nat} {S p : Nat} (h : S.testBit p = true) : prS c S (p + 1) = prS c S p + c p := by
  show prS c S p + (if S.testBit p then c p else 0) = _
  rw [h, if_pos rfl]
theorem prS_f {c : Nat → Nat} {S p : Nat} (h : S.testBit p = false) : prS c S (p + 1) = prS c S p := by
  show prS c S p + (if S.testBit p then c p else 0) = _
  rw [h, if_neg (by decide), Nat.add_zero]
theorem m_priceOf {c : Nat → Nat} {S : Nat} {σ : st_S} {Q : Int → st_S → Prop} (hc : ∀ p, c p ≤ 9999) (hS : S < 1024) (hg : ∀ p, p < 10 → gI σ 22 p = (c p : Int)) (hQ : Q (prS c S 10 : Int) σ) : wp_X11_priceOf (S : Int) σ Q := by
  have key : ∀ f p : Nat, p + f = 10 → L_X11_priceOf_4 Q (f + 1) (S : Int) (prS c S p : Int) (p : Int) σ := by
    intro f
    induction f with
    | zero =>
      intro p hp
      obtain rfl : p = 10 := by omega
      exact ⟨fun _ => hQ, fun z => absurd (by omega) z⟩
    | succ f ih =>
      intro p hp
      have b := prS_le (S := S) hc p
      have cp := hc p
      refine ⟨fun z => absurd z (by omega), fun _ => m_isIn hS (by omega) (fun hb => ⟨fun z => absurd z (by decide), fun _ => ⟨ixn (by omega), ?_⟩⟩) (fun hb => ⟨fun _ => ?_, fun z => absurd rfl z⟩)⟩
      · intro x9 e9 x10 e10
        rw [wks (by omega)] at e10
        rw [Int.toNat_natCast, hg p (by omega), wkn (by omega), ← prS_t hb] at e9
        subst e9 e10
        exact ih (p + 1) (by omega)
      · intro x9 e9 x10 e10
        rw [wks (by omega)] at e10
        rw [Int.add_zero, wr_n (by omega), ← prS_f hb] at e9
        subst e9 e10
        exact ih (p + 1) (by omega)
  exact ⟨11, key 10 0 rfl⟩
theorem w_priceOf {c : Nat → Nat} {S n : Nat} {σ : st_S} {Q : Int → st_S → Prop} (hc : ∀ p, c p ≤ 9999) (hS : S < 1024) (hn : n ≤ 10) (e0 : gI σ 25 0 = (n : Int)) (hg : ∀ p, p < n → S.testBit p = true → gI σ 44 p = (c p : Int)) (hQ : Q (prS c S n : Int) σ) : wp_X5_priceOf (S : Int) σ Q := by
  have key : ∀ f p : Nat, p + f = n → L_X5_priceOf_4 Q (f + 1) (S : Int) (prS c S p : Int) (p : Int) σ := by
    intro f
    induction f with
    | zero =>
      intro p hp
      obtain rfl : p = n := by omega
      exact ⟨fun _ => hQ, fun z => absurd (by rw [e0]; exact Int.le_refl _) z⟩
    | succ f ih =>
      intro p hp
      have b := prS_le (S := S) hc p
      have cp := hc p
      have hbit := bitI hS (show p < 10 by omega)
      refine ⟨fun z => absurd z (by rw [e0]; omega), fun _ => ⟨fun z => ?_, fun z => ⟨ixn (by omega), ?_⟩⟩⟩
      · have hb : S.testBit p = false := by
          cases h : S.testBit p
          · rfl
          · rw [h, if_pos rfl] at hbit; rw [hbit] at z; exact absurd z (by decide)
        intro x e
        rw [wks (by omega)] at e
        subst e
        rw [← prS_f hb]
        exact ih (p + 1) (by omega)
      · have hb : S.testBit p = true := by
          cases h : S.testBit p
          · rw [h, if_neg (by decide)] at hbit; exact absurd hbit z
          · rfl
        intro x12 e12 x e
        rw [wks (by omega)] at e
        rw [Int.toNat_natCast, hg p (by omega) hb, wkn (by omega), ← prS_t hb] at e12
        subst e e12
        exact ih (p + 1) (by omega)
  exact ⟨n + 1, key n 0 (by omega)⟩
