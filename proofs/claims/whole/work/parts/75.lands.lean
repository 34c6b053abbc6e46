/-! the lands of a crew, in both -/
def ldS (g : Nat → Nat) (S : Nat) : Nat → Nat
  | 0 => 0
  | p + 1 => ldS g S p ||| (if S.testBit p then 2 ^ g p else 0)
theorem ldS_t {g : Nat → Nat} {S p : Nat} (h : S.testBit p = true) : ldS g S (p + 1) = ldS g S p ||| 2 ^ g p := by
  show ldS g S p ||| (if S.testBit p then 2 ^ g p else 0) = _
  rw [h, if_pos rfl]
theorem ldS_f {g : Nat → Nat} {S p : Nat} (h : S.testBit p = false) : ldS g S (p + 1) = ldS g S p := by
  show ldS g S p ||| (if S.testBit p then 2 ^ g p else 0) = _
  rw [h, if_neg (by decide), Nat.or_zero]
theorem ldS_lt {g : Nat → Nat} {S : Nat} (hg : ∀ p, g p < 4) (n : Nat) : ldS g S n < 16 := by
  induction n with
  | zero => show (0 : Nat) < 16; omega
  | succ n ih =>
    refine Nat.or_lt_two_pow (n := 4) ih ?_
    split
    · exact Nat.pow_lt_pow_right (by decide) (hg n)
    · decide
theorem or_land {C q : Nat} (hC : C < 16) (hq : q < 4) : o_or (C : Int) (o_shl 1 (q : Int)) = ((C ||| 2 ^ q : Nat) : Int) := or_new (by omega) (by omega)
theorem m_landsOf {g : Nat → Nat} {S n : Nat} {σ : st_S} {Q : Int → st_S → Prop} (hg : ∀ p, g p < 4) (hS : S < 1024) (hn : n ≤ 10) (e0 : gI σ 2 256 = (n : Int)) (hl : ∀ p, p < n → gI σ 2 (35 + 2 * p) = (g p : Int)) (hQ : Q (ldS g S n : Int) σ) : wp_X11_landsOf (S : Int) σ Q := by
  have key : ∀ f p : Nat, p + f = n → L_X11_landsOf_4 Q (f + 1) (S : Int) (ldS g S p : Int) (p : Int) σ := by
    intro f
    induction f with
    | zero =>
      intro p hp
      obtain rfl : p = n := by omega
      exact ⟨fun _ => hQ, fun z => absurd (by show gI σ 2 256 ≤ _; rw [e0]; exact Int.le_refl _) z⟩
    | succ f ih =>
      intro p hp
      have b := ldS_lt (S := S) hg p
      have gp := hg p
      refine ⟨fun z => absurd z (by show ¬ gI σ 2 256 ≤ _; rw [e0]; omega), fun _ => m_isIn hS (by omega) (fun hb => ⟨fun z => absurd z (by decide), fun _ => m_landOf (by omega) ?_⟩) (fun hb => ⟨fun _ => ?_, fun z => absurd rfl z⟩)⟩
      · intro x9 e9 x10 e10
        rw [wks (by omega)] at e10
        rw [hl p (by omega), or_land b gp, ← ldS_t hb] at e9
        subst e9 e10
        exact ih (p + 1) (by omega)
      · intro x9 e9 x10 e10
        rw [wks (by omega)] at e10
        have e9' : x9 = ((ldS g S (p + 1) : Nat) : Int) := by
          rw [e9, ldS_f hb]
          have := n_or (a := ldS g S p) (b := 0) (by omega) (by omega)
          rw [Nat.or_zero] at this
          exact this
        subst e9' e10
        exact ih (p + 1) (by omega)
  exact ⟨n + 1, key n 0 (by omega)⟩
theorem w_landsOf {g : Nat → Nat} {S n : Nat} {σ : st_S} {Q : Int → st_S → Prop} (hg : ∀ p, g p < 4) (hS : S < 1024) (hn : n ≤ 10) (e0 : gI σ 25 0 = (n : Int)) (hl : ∀ p, p < n → gI σ 27 p = (g p : Int)) (hQ : Q (ldS g S n : Int) σ) : wp_X5_landsOf (S : Int) σ Q := by
  have key : ∀ f p : Nat, p + f = n → L_X5_landsOf_4 Q (f + 1) (S : Int) (ldS g S p : Int) (p : Int) σ := by
    intro f
    induction f with
    | zero =>
      intro p hp
      obtain rfl : p = n := by omega
      exact ⟨fun _ => hQ, fun z => absurd (by rw [e0]; exact Int.le_refl _) z⟩
    | succ f ih =>
      intro p hp
      have b := ldS_lt (S := S) hg p
      have gp := hg p
      have hbit := bitI hS (show p < 10 by omega)
      refine ⟨fun z => absurd z (by rw [e0]; omega), fun _ => ⟨fun z => ?_, fun z => ⟨ixn (by omega), ?_⟩⟩⟩
      · have hb : S.testBit p = false := by
          cases h : S.testBit p
          · rfl
          · rw [h, if_pos rfl] at hbit; rw [hbit] at z; exact absurd z (by decide)
        intro x e
        rw [wks (by omega)] at e
        subst e
        rw [← ldS_f hb]
        exact ih (p + 1) (by omega)
      · have hb : S.testBit p = true := by
          cases h : S.testBit p
          · rw [h, if_neg (by decide)] at hbit; exact absurd hbit z
          · rfl
        intro x12 e12 x e
        rw [wks (by omega)] at e
        rw [Int.toNat_natCast, hl p (by omega), or_land b gp, ← ldS_t hb] at e12
        subst e e12
        exact ih (p + 1) (by omega)
  exact ⟨n + 1, key n 0 (by omega)⟩
