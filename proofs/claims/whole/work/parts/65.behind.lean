/-! the reference's crews -/
theorem lesser_v {a b : Int} {σ : st_S} {Q : Int → st_S → Prop} (hQ : Q (if b ≤ a then b else a) σ) : wp_X11_lesser a b σ Q := by
  refine ⟨fun h => ?_, fun h => ?_⟩
  · rw [if_pos h] at hQ; exact hQ
  · rw [if_neg h] at hQ; exact hQ
theorem smW_le {w : Nat → Nat} (hw : ∀ p, w p ≤ 2) {S k : Nat} : smW w S k ≤ 2 * k := by
  induction k with
  | zero => exact Nat.le_refl 0
  | succ k ih =>
    have := hw k
    show smW w S k + (if S.testBit k then w k else 0) ≤ 2 * (k + 1)
    split <;> omega
/-- the least worth so far: what it tells -/
def lsQ (w : Nat → Nat) (S k : Nat) (l : Int) : Prop := (l = 1000000 ∧ smW w S k = 0) ∨ l = 1 ∨ (l = 2 ∧ smW w S k % 2 = 0)
theorem m_isCrew {w : Nat → Nat} {S x : Nat} {σ : st_S} {Q : Int → st_S → Prop} (hw : ∀ p, w p ≤ 2) (hS : S < 1024) (hx : x = 2 ∨ x = 4) (hg : ∀ p, p < 10 → gI σ 18 p = (w p : Int)) (h1 : S ∈ pkL w 10 x → Q 1 σ) (h0 : ¬ S ∈ pkL w 10 x → Q 0 σ) : wp_X11_isCrew (S : Int) (x : Int) σ Q := by
  have mem := pk_mem (w := w) (b := 10) (x := x) (X := S) (by omega)
  have key : ∀ k p : Nat, p + k = 10 → (∀ q, q < p → S.testBit q = true → 0 < w q) → ∀ l, lsQ w S p l → L_X11_isCrew_9 Q (k + 1) (S : Int) (x : Int) (smW w S p : Int) l (p : Int) σ := by
    intro k
    induction k with
    | zero =>
      intro p hp hm l hl
      have ep : p = 10 := by omega
      subst ep
      have sl := smW_le hw (S := S) (k := 10)
      have no : ¬ smW w S 10 = x → B_X11_isCrew_87 Q σ := fun z => ⟨Or.inl rfl, h0 (fun y => z (mem.mp y).2.2)⟩
      have hl3 : l = 1000000 ∨ l = 1 ∨ l = 2 := by rcases hl with h | h | h <;> omega
      refine ⟨fun _ => ⟨fun z => no (by omega), fun z => ?_⟩, fun z => absurd (show (10 : Int) ≤ ((10 : Nat) : Int) by decide) z⟩
      rw [wr_id (by omega) (by omega)]
      refine ⟨fun y => no ?_, fun y => ⟨Or.inr rfl, h1 (mem.mpr ⟨hS, fun q hq hb => hm q hq hb, ?_⟩)⟩⟩
      · rcases hl with h | h | h <;> omega
      · rcases hl with h | h | h <;> omega
    | succ k ih =>
      intro p hp hm l hl
      have sl := smW_le hw (S := S) (k := p)
      have wp2 := hw p
      have es : smW w S (p + 1) = smW w S p + (if S.testBit p then w p else 0) := rfl
      have hl3 : l = 1000000 ∨ l = 1 ∨ l = 2 := by rcases hl with h | h | h <;> omega
      refine ⟨fun z => absurd z (by omega), fun _ => m_isIn hS (by omega) (fun hb => ⟨fun _ => ⟨ixn (by omega), fun z => ⟨ixn (by omega), ?_⟩, fun z => ?_⟩, fun z => absurd z (by decide)⟩) (fun hb => ⟨fun z => absurd rfl z, fun _ => ?_⟩)⟩
      · rw [Int.toNat_natCast, hg p (by omega)] at z ⊢
        rw [hb, if_pos rfl] at es
        intro y ey
        rw [show (smW w S p : Int) + (w p : Int) = ((smW w S (p + 1) : Nat) : Int) by rw [es]; omega, wr_n (by omega)] at ey
        subst ey
        refine ⟨ixn (by omega), lesser_v ?_⟩
        intro u eu
        rw [wks (by omega)] at eu
        subst eu
        refine ih (p + 1) (by omega) (fun q hq hbq => ?_) _ ?_
        · by_cases e : q = p
          · subst e; omega
          · exact hm q (by omega) hbq
        · unfold lsQ
          rw [es]
          by_cases w1 : w p = 1
          · right; left
            rw [w1]
            rcases hl3 with h | h | h <;> rw [h] <;> decide
          · have w2 : w p = 2 := by omega
            rw [w2]
            rcases hl with h | h | h
            · right; right
              rw [h.1]
              exact ⟨by decide, by omega⟩
            · right; left
              rw [h]
              decide
            · right; right
              rw [h.1]
              exact ⟨by decide, by omega⟩
      · rw [Int.toNat_natCast, hg p (by omega)] at z
        refine h0 (fun y => ?_)
        have := (mem.mp y).2.1 p (by omega) hb
        omega
      · rw [hb, if_neg (by decide), Nat.add_zero] at es
        intro u eu
        rw [wks (by omega)] at eu
        subst eu
        have nx := ih (p + 1) (by omega) (fun q hq hbq => by
          by_cases e : q = p
          · subst e; rw [hb] at hbq; exact absurd hbq (by decide)
          · exact hm q (by omega) hbq) l (by unfold lsQ; rw [es]; exact hl)
        rw [es] at nx
        exact nx
  exact ⟨11, key 10 0 (by omega) (fun q hq => absurd hq (by omega)) 1000000 (Or.inl ⟨rfl, rfl⟩)⟩
/-- bits of those of whom f holds -/
def bsN (f : Nat → Bool) : Nat → Nat
  | 0 => 0
  | p + 1 => bsN f p ||| (if f p then 2 ^ p else 0)
theorem bsN_tb (f : Nat → Bool) (n i : Nat) : (bsN f n).testBit i = (decide (i < n) && f i) := by
  induction n with
  | zero => show (0 : Nat).testBit i = _; rw [Nat.zero_testBit]; simp
  | succ n ih =>
    show (bsN f n ||| (if f n then 2 ^ n else 0)).testBit i = _
    rw [Nat.testBit_or, ih]
    by_cases e : i = n
    · subst e
      cases hf : f i
      · simp
      · simp [Nat.testBit_two_pow]
    · cases hf : f n
      · rw [if_neg (by decide), Nat.zero_testBit, Bool.or_false]
        by_cases y : i < n
        · simp [y, show i < n + 1 by omega]
        · simp [y, show ¬ i < n + 1 by omega]
      · rw [if_pos rfl, Nat.testBit_two_pow]
        by_cases y : i < n
        · simp [y, show i < n + 1 by omega, show ¬ n = i by omega]
        · simp [y, show ¬ i < n + 1 by omega, show ¬ n = i by omega]
theorem bsN_lt (f : Nat → Bool) (n : Nat) (hn : n ≤ 10) : bsN f n < 1024 := by
  refine Nat.lt_pow_two_of_testBit (n := 10) _ (fun i hi => ?_)
  rw [bsN_tb]
  simp; omega
theorem m_crewBehind {w : Nat → Nat} {S x : Nat} {σ : st_S} {Q : Int → st_S → Prop} (hw : ∀ p, w p ≤ 2) (hS : S < 1024) (hx : x = 2 ∨ x = 4) (hg : ∀ p, p < 10 → gI σ 18 p = (w p : Int)) (h1 : ∀ X, X ∈ pkL w 10 x → S < X → (∀ Y, Y ∈ pkL w 10 x → S < Y → X ≤ Y) → Q (X : Int) σ) (h0 : (∀ Y, Y ∈ pkL w 10 x → ¬ S < Y) → Q (-1) σ) : wp_X11_crewBehind (S : Int) (x : Int) σ Q := by
  have mem := fun X => pk_mem (w := w) (b := 10) (x := x) (X := X) (by omega)
  have mlt := bsN_lt (fun p => decide (0 < w p)) 10 (Nat.le_refl _)
  have mtb := bsN_tb (fun p => decide (0 < w p)) 10
  have sub : ∀ X, X ∈ pkL w 10 x → ndn X (bsN (fun p => decide (0 < w p)) 10) = 0 ∧ X ≤ bsN (fun p => decide (0 < w p)) 10 := by
    intro X hX
    have hm := (mem X).mp hX
    have hb : ∀ i, X.testBit i = true → (bsN (fun p => decide (0 < w p)) 10).testBit i = true := by
      intro i hi
      rw [mtb]
      have hi10 : i < 10 := by
        refine Classical.byContradiction (fun z => ?_)
        rw [tb_big hm.1 (by omega)] at hi
        exact absurd hi (by decide)
      have := hm.2.1 i hi10 hi
      simp [hi10, this]
    refine ⟨?_, ?_⟩
    · apply Nat.eq_of_testBit_eq
      intro i
      rw [ndn_bit (by have := hm.1; omega), Nat.zero_testBit]
      cases hh : X.testBit i
      · rfl
      · rw [hb i hh]; rfl
    · have e : X &&& bsN (fun p => decide (0 < w p)) 10 = X := by
        apply Nat.eq_of_testBit_eq
        intro i
        rw [Nat.testBit_and]
        cases hh : X.testBit i
        · rfl
        · rw [hb i hh]; rfl
      rw [← e]
      exact Nat.and_le_right
  generalize hmay : bsN (fun p => decide (0 < w p)) 10 = my at mlt sub
  have key2 : ∀ k c : Nat, c + k = my + 1 → (∀ Y, Y ∈ pkL w 10 x → S < Y → c ≤ Y) → S < c → L_X11_crewBehind_44 Q (k + 1) (x : Int) (my : Int) (c : Int) σ := by
    intro k
    induction k with
    | zero =>
      intro c hc hY hSc
      refine ⟨fun _ => h0 (fun Y hYm hSY => ?_), fun z => absurd (by omega) z⟩
      have a1 := hY Y hYm hSY
      have a2 := (sub Y hYm).2
      omega
    | succ k ih =>
      intro c hc hY hSc
      have nxt : ¬ c ∈ pkL w 10 x → B_X11_crewBehind_72 Q (L_X11_crewBehind_44 Q (k + 1)) (x : Int) (my : Int) (c : Int) σ := by
        intro hn
        intro y ey
        rw [wks (by omega)] at ey
        subst ey
        refine ih (c + 1) (by omega) (fun Y hYm hSY => ?_) (by omega)
        have a1 := hY Y hYm hSY
        by_cases e : Y = c
        · subst e; exact absurd hYm hn
        · omega
      refine ⟨fun z => absurd z (by omega), fun _ => ?_⟩
      rw [n_andn (by omega) (by omega)]
      exact ⟨fun z => nxt (fun y => z (by rw [(sub c y).1]; rfl)), fun z => m_isCrew hw (by omega) hx hg (fun hm => ⟨fun y => absurd y (by decide), fun _ => h1 c hm hSc hY⟩) (fun hm => ⟨fun _ => nxt hm, fun y => absurd rfl y⟩)⟩
  have key1 : ∀ k p : Nat, p + k = 10 → L_X11_crewBehind_5 Q (k + 1) (S : Int) (x : Int) (bsN (fun p => decide (0 < w p)) p : Int) (p : Int) σ := by
    intro k
    induction k with
    | zero =>
      intro p hp
      have ep : p = 10 := by omega
      subst ep
      refine ⟨fun _ => ?_, fun z => absurd (show (10 : Int) ≤ ((10 : Nat) : Int) by decide) z⟩
      intro y ey
      rw [wks (by omega)] at ey
      subst ey
      rw [hmay]
      by_cases q : S + 1 ≤ my + 1
      · exact ⟨my + 1 - (S + 1) + 1, key2 (my + 1 - (S + 1)) (S + 1) (by omega) (fun Y _ hSY => by omega) (by omega)⟩
      · refine ⟨1, ⟨fun _ => h0 (fun Y hYm hSY => ?_), fun z => absurd (by omega) z⟩⟩
        have := (sub Y hYm).2
        omega
    | succ k ih =>
      intro p hp
      have bl := bsN_lt (fun p => decide (0 < w p)) p (by omega)
      have eb : bsN (fun p => decide (0 < w p)) (p + 1) = bsN (fun p => decide (0 < w p)) p ||| (if decide (0 < w p) = true then 2 ^ p else 0) := rfl
      have nxt : ∀ v0 : Int, o_or (bsN (fun p => decide (0 < w p)) p : Int) v0 = ((bsN (fun p => decide (0 < w p)) (p + 1) : Nat) : Int) → B_X11_crewBehind_31 Q (L_X11_crewBehind_5 Q (k + 1)) (S : Int) (x : Int) (p : Int) v0 (bsN (fun p => decide (0 < w p)) p : Int) σ := by
        intro v0 hv
        intro y ey
        rw [hv] at ey
        subst ey
        intro u eu
        rw [wks (by omega)] at eu
        subst eu
        exact ih (p + 1) (by omega)
      refine ⟨fun z => absurd z (by omega), fun _ => ⟨ixn (by omega), fun z => nxt 0 ?_, fun z => nxt _ ?_⟩⟩
      · rw [Int.toNat_natCast, hg p (by omega)] at z
        have n0 := n_or (a := bsN (fun p => decide (0 < w p)) p) (b := 0) (by omega) (by decide)
        rw [eb, if_neg (by simp; omega)]
        exact n0
      · rw [Int.toNat_natCast, hg p (by omega)] at z
        rw [or_new bl (by omega), eb, if_pos (by simp; omega)]
  exact ⟨11, key1 10 0 (by omega)⟩
