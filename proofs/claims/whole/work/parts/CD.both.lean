/-! the start: both stores -/
def sC0 : st_S := tS 65 ((0, 16 + 10) :: kC0) lC0 rC0 iC0
def sM0 : st_S := tS 26 ((0, 16 + 11) :: kA0) lA0 rA0 iA0
def sF0 : st_S := tS 91 (((0, 16 + 11) :: kA0).map shK ++ (0, 16 + 10) :: kC0) (lA0.map shK ++ lC0) (rA0.map shR ++ rC0) (iA0.map shI ++ iC0)
theorem sv_C0 {E : ev_E} (hm : eM E = 1) : Sv E sC0 := sv_tS hm (by decide +kernel) (by decide +kernel) (by decide +kernel) (by decide +kernel)
theorem sv_M0 {E : ev_E} (hm : eM E = 2) : Sv E sM0 := sv_tS hm (by decide +kernel) (by decide +kernel) (by decide +kernel) (by decide +kernel)
def eE0 (b : Nat) (D : va_G) (C : Nat → ClassId) (K V : Nat → Nat) : ev_E := (D, C, fun c => b + c, b, fun q => b ≤ q, 0, K, V)
def eEC (b : Nat) (D : va_G) (C : Nat → ClassId) (K V : Nat → Nat) : ev_E := (D, C, fun c => if c < 65 then b + c else b + 26 + c, b + 26, fun q => (b ≤ q ∧ q < b + 65) ∨ b + 91 ≤ q, 1, K, V)
def eEM (b : Nat) (D : va_G) (C : Nat → ClassId) (K V : Nat → Nat) : ev_E := (D, C, fun c => if c < 26 then b + 65 + c else b + 1000000000 + c, 0, fun q => (b + 65 ≤ q ∧ q < b + 91) ∨ b + 1000000000 ≤ q, 2, K, V)
section BOTH
variable {b : Nat} {D : va_G} {C : Nat → ClassId} {K V : Nat → Nat}
theorem eok_0 : Eok (eE0 b D C K V) := ⟨fun c c' h => by
  replace h : b + c = b + c' := h
  omega, fun c => Nat.le_add_right b c⟩
theorem eok_C : Eok (eEC b D C K V) := ⟨fun c c' h => by
  replace h : (if c < 65 then b + c else b + 26 + c) = (if c' < 65 then b + c' else b + 26 + c') := h
  split at h <;> split at h <;> omega, fun c => by
  show (b ≤ (if c < 65 then b + c else b + 26 + c) ∧ (if c < 65 then b + c else b + 26 + c) < b + 65) ∨ b + 91 ≤ (if c < 65 then b + c else b + 26 + c)
  split <;> omega⟩
theorem eok_M : Eok (eEM b D C K V) := ⟨fun c c' h => by
  replace h : (if c < 26 then b + 65 + c else b + 1000000000 + c) = (if c' < 26 then b + 65 + c' else b + 1000000000 + c') := h
  split at h <;> split at h <;> omega, fun c => by
  show (b + 65 ≤ (if c < 26 then b + 65 + c else b + 1000000000 + c) ∧ (if c < 26 then b + 65 + c else b + 1000000000 + c) < b + 91) ∨ b + 1000000000 ≤ (if c < 26 then b + 65 + c else b + 1000000000 + c)
  split <;> omega⟩
theorem apart1 {c : Nat} (h : c < 26) : ¬ eF (eEC b D C K V) (ea (eEM b D C K V) c) := by
  show ¬ ((b ≤ (if c < 26 then b + 65 + c else b + 1000000000 + c) ∧ (if c < 26 then b + 65 + c else b + 1000000000 + c) < b + 65) ∨ b + 91 ≤ (if c < 26 then b + 65 + c else b + 1000000000 + c))
  rw [if_pos h]
  omega
theorem apart2 {c : Nat} (h : c < 1000000) : ¬ eF (eEM b D C K V) (ea (eEC b D C K V) c) := by
  show ¬ ((b + 65 ≤ (if c < 65 then b + c else b + 26 + c) ∧ (if c < 65 then b + c else b + 26 + c) < b + 91) ∨ b + 1000000000 ≤ (if c < 65 then b + c else b + 26 + c))
  split <;> omega
theorem inC {q : Nat} (h : eF (eEC b D C K V) q) : eF (eE0 b D C K V) q := by
  replace h : (b ≤ q ∧ q < b + 65) ∨ b + 91 ≤ q := h
  show b ≤ q
  omega
theorem inM {q : Nat} (h : eF (eEM b D C K V) q) : eF (eE0 b D C K V) q := by
  replace h : (b + 65 ≤ q ∧ q < b + 91) ∨ b + 1000000000 ≤ q := h
  show b ≤ q
  omega
theorem mk_0 {n : Nat} : MkE (eE0 b D C K V) n := ⟨fun q hq => by
  replace hq : b + n ≤ q := hq
  show b ≤ q
  omega, fun c _ => rfl, fun q hq => ⟨q - b, by
  replace hq : b ≤ q := hq
  show q = b + (q - b)
  omega⟩⟩
theorem mk_C : MkE (eEC b D C K V) 65 := ⟨fun q hq => by
  replace hq : b + 26 + 65 ≤ q := hq
  show (b ≤ q ∧ q < b + 65) ∨ b + 91 ≤ q
  omega, fun c hc => by
  show (if c < 65 then b + c else b + 26 + c) = b + 26 + c
  rw [if_neg (by omega)], fun q hq => by
  replace hq : (b ≤ q ∧ q < b + 65) ∨ b + 91 ≤ q := hq
  by_cases z : q < b + 65
  · refine ⟨q - b, ?_⟩
    show q = (if q - b < 65 then b + (q - b) else b + 26 + (q - b))
    rw [if_pos (by omega)]
    omega
  · refine ⟨q - b - 26, ?_⟩
    show q = (if q - b - 26 < 65 then b + (q - b - 26) else b + 26 + (q - b - 26))
    rw [if_neg (by omega)]
    omega⟩
theorem rep_C {H : Heap} (h : Rep (eE0 b D C K V) sF0 H) : Rep (eEC b D C K V) sC0 H := by
  obtain ⟨h1, h2, h3⟩ := h
  have h3' : H.size = b + 91 := h3
  refine ⟨fun k q hq => ?_, sv_C0 rfl, by show H.size = b + 26 + 65; omega⟩
  have hk : k < 65 := by
    have := (List.getElem?_eq_some_iff.mp hq).1
    rw [wsE_len] at this
    exact this
  rw [wsE_at _ (show k < gN sC0 from hk)] at hq
  cases hq
  have g := h1 k _ (wsE_at _ (show k < gN sF0 by show k < 91; omega))
  have e1 : ea (eEC b D C K V) k = ea (eE0 b D C K V) k := if_pos hk
  have e2 : ent (eEC b D C K V) sC0 k = ent (eE0 b D C K V) sF0 k := by
    refine ent_cg2 rfl (lkK_sk (f := shK) (fun e _ => ?_)).symm (lkK_sk (f := shK) (fun e _ => ?_)).symm (fun j => (lkI_sk (f := shI) (fun e _ => ?_)).symm) (fun j => ?_)
    · show e.1 + 65 ≠ k; omega
    · show e.1 + 65 ≠ k; omega
    · show e.1 + 65 ≠ k; omega
    · have er : gR sF0 k j = gR sC0 k j := lkR_sk (f := shR) (fun e _ => by show e.1 + 65 ≠ k; omega)
      rw [er]
      cases hr : gR sC0 k j with
      | none => rfl
      | some r =>
        have r65 : r < 65 := lkR_p (p := fun r => r < 65) (R := rC0) (by decide +kernel) hr
        show some (if r < 65 then b + r else b + 26 + r) = some (b + r)
        rw [if_pos r65]
  rw [e1, e2]
  exact g
theorem rep_M {H : Heap} (h : Rep (eE0 b D C K V) sF0 H) : RepM (eEM b D C K V) sM0 H := by
  obtain ⟨h1, h2, h3⟩ := h
  have h3' : H.size = b + 91 := h3
  refine ⟨b + 65, fun k q hq => ?_, sv_M0 rfl, by show H.size = b + 65 + 26; omega⟩
  have hk : k < 26 := by
    have := (List.getElem?_eq_some_iff.mp hq).1
    rw [wsE_len] at this
    exact this
  rw [wsE_at _ (show k < gN sM0 from hk)] at hq
  cases hq
  have g := h1 (65 + k) _ (wsE_at _ (show 65 + k < gN sF0 by show 65 + k < 91; omega))
  have e1 : ea (eoS (eEM b D C K V) (b + 65)) k = ea (eE0 b D C K V) (65 + k) := by
    show (if k < 26 then b + 65 + k else b + 1000000000 + k) = b + (65 + k)
    rw [if_pos hk]
    omega
  have e2 : ent (eoS (eEM b D C K V) (b + 65)) sM0 k = ent (eE0 b D C K V) sF0 (65 + k) := by
    refine ent_cg2 rfl (lkK_sh (m := 65) (by decide +kernel)).symm (lkK_sh (m := 65) (by decide +kernel)).symm (fun j => (lkI_sh (m := 65) (by decide +kernel)).symm) (fun j => ?_)
    have er : gR sF0 (65 + k) j = (gR sM0 k j).map (· + 65) := lkR_sh (m := 65) (by decide +kernel)
    rw [er]
    cases hr : gR sM0 k j with
    | none => rfl
    | some r =>
      have r26 : r < 26 := lkR_p (p := fun r => r < 26) (R := rA0) (by decide +kernel) hr
      show some (if r < 26 then b + 65 + r else b + 1000000000 + r) = some (b + (r + 65))
      rw [if_pos r26, show b + 65 + r = b + (r + 65) by omega]
  rw [e1, e2]
  exact g
end BOTH
/-- both begin alike -/
theorem zI_0 : zInv 0 sC0 sM0 := by
  have m2 : ∀ j, gI sM0 2 j = if j = 258 then -1 else if j = 254 then 3 else 0 := fun j => by
    show (if 2 = 2 ∧ j = 258 then (-1 : Int) else if 2 = 2 ∧ j = 254 then 3 else lkI iA2 2 j) = _
    rw [lkI_0 (by decide +kernel)]
    simp only [true_and]
  have no : ∀ {p : Nat} {P : Prop}, p < 0 → P := fun h => absurd h (Nat.not_lt_zero _)
  refine ⟨⟨⟨0, ⟨by decide +kernel, by decide +kernel, by decide⟩, fun p h => no h, fun p h => no h, fun p h => no h, fun p h => no h, fun p h => no h, fun p hp => ⟨0, by decide, fun h => no h, fun q hq => ⟨?_, ?_, fun h => ?_⟩⟩, fun d hd => ⟨?_, Or.inl ?_⟩, by unfold zC9; decide +kernel, by unfold zCa; decide +kernel, 0, by decide +kernel, by decide +kernel, by decide, by decide +kernel, by decide +kernel, by decide +kernel, fun i c h => ?_, fun i h => no h⟩, zLog_nil (n := 0) (by decide +kernel) (by decide +kernel) (by decide +kernel) (by decide +kernel), ⟨Or.inl ⟨by decide +kernel, by decide +kernel⟩, Or.inl ⟨by decide +kernel, by decide +kernel⟩, fun c h => ?_⟩, ⟨0, by decide +kernel, by decide +kernel, by decide, fun i h => no h⟩, by unfold zWd; decide +kernel, ⟨⟨0, by decide +kernel, by decide +kernel, by decide, fun k h => no h⟩, by decide +kernel, by decide +kernel, by decide +kernel⟩⟩, ⟨by decide +kernel, by decide +kernel⟩, Or.inl ⟨by decide +kernel, by decide +kernel⟩⟩
  · rw [m2, if_neg (by omega), if_neg (by omega), Nat.zero_testBit]
    rfl
  · rw [m2, m2, if_neg (by omega), if_neg (by omega), if_neg (by omega), if_neg (by omega)]
  · rw [Nat.zero_testBit] at h
    cases h
  · rw [m2, if_neg (by omega), if_neg (by omega)]
    exact lkI_0 (by decide +kernel)
  · rw [m2, if_neg (by omega), if_neg (by omega)]
  · have e : gR sC0 34 i = none := lkR_0 (by decide +kernel)
    exact absurd (e.symm.trans h) (by simp)
  · have e : gR sC0 11 0 = none := by decide +kernel
    exact absurd (e.symm.trans h) (by simp)
