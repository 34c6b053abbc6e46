/-! crews: sets of people by bits, of just the worth that is wanted -/
def smW (w : Nat → Nat) (S : Nat) : Nat → Nat
  | 0 => 0
  | p + 1 => smW w S p + (if S.testBit p then w p else 0)
/-- in the order of their bits: sets of those below b, each of some worth, of worth x together -/
def pkL (w : Nat → Nat) : Nat → Nat → List Nat
  | 0, _ => []
  | b + 1, x => pkL w b x ++ (if w b = 0 ∨ x < w b then [] else if w b = x then [2 ^ b] else (pkL w b (x - w b)).map (fun X => X + 2 ^ b))
theorem smW_congr {w : Nat → Nat} {S T k : Nat} (h : ∀ p, p < k → S.testBit p = T.testBit p) : smW w S k = smW w T k := by
  induction k with
  | zero => rfl
  | succ k ih =>
    show smW w S k + _ = smW w T k + _
    rw [ih (fun p hp => h p (by omega)), h k (by omega)]
theorem smW_0 {w : Nat → Nat} {k : Nat} : smW w 0 k = 0 := by
  induction k with
  | zero => rfl
  | succ k ih =>
    show smW w 0 k + (if (0 : Nat).testBit k then w k else 0) = 0
    rw [ih, Nat.zero_testBit, if_neg (by decide)]
theorem tb_add {X b : Nat} (h : X < 2 ^ b) (p : Nat) : (X + 2 ^ b).testBit p = (X.testBit p || decide (b = p)) := by
  rw [← Nat.or_two_pow_eq_add_of_lt h, Nat.testBit_or, Nat.testBit_two_pow]
theorem pk_s {w : Nat → Nat} {b x : Nat} : pkL w (b + 1) x = pkL w b x ++ (if w b = 0 ∨ x < w b then [] else if w b = x then [2 ^ b] else (pkL w b (x - w b)).map (fun X => X + 2 ^ b)) := rfl
theorem smW_pos {w : Nat → Nat} {X b : Nat} (h : ∀ p, p < b → X.testBit p = true → 0 < w p) (h0 : smW w X b = 0) : ∀ p, p < b → X.testBit p = false := by
  induction b with
  | zero => exact fun p hp => absurd hp (by omega)
  | succ b ih =>
    have e : smW w X (b + 1) = smW w X b + (if X.testBit b then w b else 0) := rfl
    rw [e] at h0
    intro p hp
    by_cases q : p = b
    · subst q
      cases hb : X.testBit p with
      | false => rfl
      | true =>
        rw [hb, if_pos rfl] at h0
        have := h p (by omega) hb
        omega
    · exact ih (fun p hp => h p (by omega)) (by omega) p (by omega)
theorem lt_split {X b : Nat} (h : X < 2 ^ (b + 1)) : (X < 2 ^ b ∧ X.testBit b = false) ∨ ∃ Y, Y < 2 ^ b ∧ X = Y + 2 ^ b := by
  by_cases q : X < 2 ^ b
  · exact Or.inl ⟨q, Nat.testBit_lt_two_pow q⟩
  · exact Or.inr ⟨X - 2 ^ b, by rw [Nat.pow_succ] at h; omega, by omega⟩
/-- crews and only crews -/
theorem pk_mem {w : Nat → Nat} {b : Nat} : ∀ {x X : Nat}, 1 ≤ x → (X ∈ pkL w b x ↔ X < 2 ^ b ∧ (∀ p, p < b → X.testBit p = true → 0 < w p) ∧ smW w X b = x) := by
  induction b with
  | zero =>
    intro x X hx
    refine ⟨fun h => absurd h (by show ¬ X ∈ ([] : List Nat); simp), fun h => ?_⟩
    have : smW w X 0 = 0 := rfl
    omega
  | succ b ih =>
    intro x X hx
    have es : smW w X (b + 1) = smW w X b + (if X.testBit b then w b else 0) := rfl
    have p2 : 2 ^ (b + 1) = 2 ^ b + 2 ^ b := by rw [Nat.pow_succ]; omega
    have pp := Nat.two_pow_pos b
    rw [pk_s, List.mem_append, ih hx, es]
    have addY : ∀ Y, Y < 2 ^ b → X = Y + 2 ^ b → X.testBit b = true ∧ (∀ p, p < b → X.testBit p = Y.testBit p) ∧ smW w X b = smW w Y b := by
      intro Y hY e
      have t : ∀ p, p < b → X.testBit p = Y.testBit p := fun p hp => by rw [e, tb_add hY]; simp; omega
      exact ⟨by rw [e, tb_add hY]; simp, t, smW_congr t⟩
    constructor
    · rintro (⟨h1, h2, h3⟩ | h)
      · have hb := Nat.testBit_lt_two_pow h1
        rw [hb]
        refine ⟨by omega, fun p hp hq => ?_, by rw [if_neg (by decide)]; omega⟩
        by_cases e : p = b
        · subst e; rw [hb] at hq; exact absurd hq (by decide)
        · exact h2 p (by omega) hq
      · by_cases c1 : w b = 0 ∨ x < w b
        · rw [if_pos c1] at h; exact absurd h (by simp)
        · rw [if_neg c1] at h
          by_cases c2 : w b = x
          · rw [if_pos c2, List.mem_singleton] at h
            obtain ⟨a1, a2, a3⟩ := addY 0 (Nat.two_pow_pos b) (by omega)
            rw [a1, if_pos rfl, a3, smW_0]
            refine ⟨by omega, fun p hp hq => ?_, by omega⟩
            by_cases e : p = b
            · subst e; omega
            · rw [a2 p (by omega), Nat.zero_testBit] at hq; exact absurd hq (by decide)
          · rw [if_neg c2, List.mem_map] at h
            obtain ⟨Y, hY, eY⟩ := h
            rw [ih (by omega)] at hY
            obtain ⟨a1, a2, a3⟩ := addY Y hY.1 eY.symm
            rw [a1, if_pos rfl, a3, hY.2.2]
            refine ⟨by omega, fun p hp hq => ?_, by omega⟩
            by_cases e : p = b
            · subst e; omega
            · rw [a2 p (by omega)] at hq; exact hY.2.1 p (by omega) hq
    · rintro ⟨h1, h2, h3⟩
      rcases lt_split h1 with ⟨q1, q2⟩ | ⟨Y, q1, q2⟩
      · rw [q2, if_neg (by decide)] at h3
        exact Or.inl ⟨q1, fun p hp => h2 p (by omega), by omega⟩
      · right
        obtain ⟨a1, a2, a3⟩ := addY Y q1 q2
        rw [a1, if_pos rfl, a3] at h3
        have wb := h2 b (by omega) a1
        rw [if_neg (by omega)]
        by_cases c2 : w b = x
        · rw [if_pos c2, List.mem_singleton]
          have z := smW_pos (w := w) (X := Y) (b := b) (fun p hp hq => h2 p (by omega) (by rw [a2 p hp]; exact hq)) (by omega)
          have : Y = 0 := by
            apply Nat.eq_of_testBit_eq
            intro i
            rw [Nat.zero_testBit]
            by_cases hi : i < b
            · exact z i hi
            · exact Nat.testBit_lt_two_pow (Nat.lt_of_lt_of_le q1 (Nat.pow_le_pow_right (by decide) (by omega)))
          omega
        · rw [if_neg c2, List.mem_map]
          exact ⟨Y, (ih (by omega)).mpr ⟨q1, fun p hp hq => h2 p (by omega) (by rw [a2 p hp]; exact hq), by omega⟩, q2.symm⟩
theorem pk_lts {w : Nat → Nat} {b x X : Nat} (hx : 1 ≤ x) (h : X ∈ pkL w b x) : X < 2 ^ b := ((pk_mem hx).mp h).1
/-- by their bits -/
theorem pk_sort {w : Nat → Nat} {b : Nat} : ∀ {x : Nat}, 1 ≤ x → List.Pairwise (· < ·) (pkL w b x) := by
  induction b with
  | zero => intro x hx; exact List.Pairwise.nil
  | succ b ih =>
    intro x hx
    rw [pk_s, List.pairwise_append]
    refine ⟨ih hx, ?_, fun X hX Y hY => ?_⟩
    · split
      · exact List.Pairwise.nil
      · split
        · exact List.pairwise_singleton _ _
        · rw [List.pairwise_map]
          exact (ih (by omega)).imp (fun h => by omega)
    · have hX2 := pk_lts hx hX
      split at hY
      · exact absurd hY (by simp)
      · split at hY
        · rw [List.mem_singleton] at hY; omega
        · rw [List.mem_map] at hY
          obtain ⟨Z, -, hZ⟩ := hY
          omega
/-- how many there are: a of worth 2, o of worth 1 -/
def nCr (a o x : Nat) : Nat := match x with
  | 0 => 1
  | 1 => o
  | 2 => o * (o - 1) / 2 + a
  | 3 => o * (o - 1) * (o - 2) / 6 + a * o
  | _ => o * (o - 1) * (o - 2) * (o - 3) / 24 + a * (o * (o - 1) / 2) + a * (a - 1) / 2
def ctW (w : Nat → Nat) (v : Nat) : Nat → Nat
  | 0 => 0
  | p + 1 => ctW w v p + (if w p = v then 1 else 0)
theorem nCr_1 : ∀ a, a < 11 → ∀ o, o < 11 → ∀ x, x < 4 → nCr a (o + 1) (x + 1) = nCr a o (x + 1) + nCr a o x := by decide +kernel
theorem nCr_2 : ∀ a, a < 11 → ∀ o, o < 11 → ∀ x, x < 3 → nCr (a + 1) o (x + 2) = nCr a o (x + 2) + nCr a o x := by decide +kernel
theorem nCr_21 : ∀ a, a < 11 → ∀ o, o < 11 → nCr (a + 1) o 1 = nCr a o 1 := by decide +kernel
theorem nCr_b : ∀ a, a < 11 → ∀ o, o < 11 - a → ∀ x, x < 5 → nCr a o x ≤ 210 := by decide +kernel
theorem ctW_le {w : Nat → Nat} {b : Nat} : ctW w 2 b + ctW w 1 b ≤ b := by
  induction b with
  | zero => exact Nat.le_refl 0
  | succ b ih =>
    show ctW w 2 b + (if w b = 2 then 1 else 0) + (ctW w 1 b + (if w b = 1 then 1 else 0)) ≤ b + 1
    split <;> split <;> omega
theorem pk_len {w : Nat → Nat} (hw : ∀ p, w p ≤ 2) {b : Nat} (hb : b ≤ 10) : ∀ {x : Nat}, 1 ≤ x → x ≤ 4 → (pkL w b x).length = nCr (ctW w 2 b) (ctW w 1 b) x := by
  induction b with
  | zero =>
    intro x h1 h2
    match x, h1, h2 with
    | 1, _, _ => show 0 = nCr 0 0 1; decide
    | 2, _, _ => show 0 = nCr 0 0 2; decide
    | 3, _, _ => show 0 = nCr 0 0 3; decide
    | 4, _, _ => show 0 = nCr 0 0 4; decide
  | succ b ih =>
    intro x h1 h2
    have ih' := fun {x : Nat} => ih (by omega) (x := x)
    have cl := ctW_le (w := w) (b := b)
    rw [pk_s, List.length_append, ih' h1 h2]
    show _ = nCr (ctW w 2 b + (if w b = 2 then 1 else 0)) (ctW w 1 b + (if w b = 1 then 1 else 0)) x
    have hwb := hw b
    have : w b = 0 ∨ w b = 1 ∨ w b = 2 := by omega
    rcases this with e | e | e
    · rw [if_pos (Or.inl e), if_neg (by omega), if_neg (by omega)]; rfl
    · rw [if_neg (show ¬ (w b = 0 ∨ x < w b) by omega), if_neg (show ¬ w b = 2 by omega), if_pos (show w b = 1 from e)]
      obtain ⟨y, rfl⟩ : ∃ y, x = y + 1 := ⟨x - 1, by omega⟩
      rw [Nat.add_zero, nCr_1 _ (by omega) _ (by omega) y (by omega)]
      by_cases c : w b = y + 1
      · rw [if_pos c, show y = 0 by omega]; rfl
      · rw [if_neg c, List.length_map, e, ih' (by omega) (by omega), Nat.add_sub_cancel]; rfl
    · by_cases c1 : x < 2
      · have : x = 1 := by omega
        subst this
        rw [if_pos (show w b = 0 ∨ 1 < w b by omega), if_pos (show w b = 2 from e), if_neg (show ¬ w b = 1 by omega), Nat.add_zero, nCr_21 _ (by omega) _ (by omega)]; rfl
      · rw [if_neg (show ¬ (w b = 0 ∨ x < w b) by omega), if_pos (show w b = 2 from e), if_neg (show ¬ w b = 1 by omega)]
        obtain ⟨y, rfl⟩ : ∃ y, x = y + 2 := ⟨x - 2, by omega⟩
        rw [Nat.add_zero, nCr_2 _ (by omega) _ (by omega) y (by omega)]
        by_cases c : w b = y + 2
        · rw [if_pos c, show y = 0 by omega]; rfl
        · rw [if_neg c, List.length_map, e, ih' (by omega) (by omega), Nat.add_sub_cancel]; rfl
theorem pk_210 {w : Nat → Nat} (hw : ∀ p, w p ≤ 2) {b x : Nat} (hb : b ≤ 10) (h1 : 1 ≤ x) (h2 : x ≤ 4) : (pkL w b x).length ≤ 210 := by
  rw [pk_len hw hb h1 h2]
  have cl := ctW_le (w := w) (b := b)
  exact nCr_b _ (by omega) _ (by omega) _ (by omega)
