/-! the class's solve works code out -/
theorem p_cmp_v {a b : Int} (ha : wl a = a) (hb : wl b = b) : p_cmp a b = if b < a then 1 else if a = b then 0 else -1 := by
  unfold p_cmp lg_cmp
  have e1 : (jI a > jI b) ↔ b < a := by
    show jI b < jI a ↔ _
    rw [jI_lt, ha, hb]
  have e2 : (jI a = jI b) ↔ a = b := by rw [jI_eq, ha, hb]
  by_cases h1 : b < a
  · rw [if_pos (e1.mpr h1), if_pos h1]; rfl
  · rw [if_neg (fun z => h1 (e1.mp z)), if_neg h1]
    by_cases h2 : a = b
    · rw [if_pos (e2.mpr h2), if_pos h2]; rfl
    · rw [if_neg (fun z => h2 (e2.mp z)), if_neg h2]; rfl
theorem wl_s {x : Int} (h1 : -4611686018427387905 < x) (h2 : x < 4611686018427387905) : wl x = x := wl_id (by omega) (by omega)
theorem p_lt {a b : Int} (ha : wl a = a) (hb : wl b = b) : p_cmp a b < 0 ↔ a < b := by rw [p_cmp_v ha hb]; split <;> (try split) <;> omega
theorem p_le {a b : Int} (ha : wl a = a) (hb : wl b = b) : p_cmp a b ≤ 0 ↔ a ≤ b := by rw [p_cmp_v ha hb]; split <;> (try split) <;> omega
theorem p_ge {a b : Int} (ha : wl a = a) (hb : wl b = b) : 0 ≤ p_cmp a b ↔ b ≤ a := by rw [p_cmp_v ha hb]; split <;> (try split) <;> omega
theorem p_gt {a b : Int} (ha : wl a = a) (hb : wl b = b) : 0 < p_cmp a b ↔ b < a := by rw [p_cmp_v ha hb]; split <;> (try split) <;> omega
theorem p_eq {a b : Int} (ha : wl a = a) (hb : wl b = b) : p_cmp a b = 0 ↔ a = b := by rw [p_cmp_v ha hb]; split <;> (try split) <;> omega
/-- numbers of 32 bits -/
def i32 (x : Int) : Prop := -2147483648 ≤ x ∧ x ≤ 2147483647
theorem i32_iff {x : Int} : wr x = x ↔ i32 x := ⟨fun h => by have := wr_bounds x; rw [h] at this; exact this, fun h => wr_id h.1 h.2⟩
theorem i32_wl {a : Int} (ha : i32 a) : wl a = a := wl_s (by unfold i32 at ha; omega) (by unfold i32 at ha; omega)
theorem jI_div {a b : Int} (ha : i32 a) (hb : i32 b) : jI a / jI b = jI (a.tdiv b) := by
  rw [← Int64.toInt_inj, Int64.toInt_div, jI_toInt, jI_toInt, jI_toInt, i32_wl ha, i32_wl hb, wl_bmod]
theorem tdiv_b {a b : Int} (ha : i32 a) : -2147483649 < a.tdiv b ∧ a.tdiv b < 2147483649 := by
  have h := Int.natAbs_tdiv a b
  have h2 : (a.tdiv b).natAbs ≤ a.natAbs := by rw [h]; exact Nat.div_le_self _ _
  unfold i32 at ha
  omega
theorem p_div_v {a b : Int} (ha : i32 a) (hb : i32 b) : p_div a b = a.tdiv b := by
  unfold p_div
  rw [jI_div ha hb, jI_toInt]
  have := tdiv_b (b := b) ha
  exact wl_s (by omega) (by omega)
theorem tmod_b {a b : Int} (ha : i32 a) : -2147483649 < a.tmod b ∧ a.tmod b < 2147483649 := by
  have h2 : (a.tmod b).natAbs ≤ a.natAbs := by rw [Int.natAbs_tmod]; exact Nat.mod_le _ _
  unfold i32 at ha
  omega
theorem p_rem_v {a b : Int} (ha : i32 a) (hb : i32 b) : p_rem a b = a.tmod b := by
  unfold p_rem
  rw [jI_div ha hb, ← jI_mul, ← jI_sub, jI_toInt, show a - a.tdiv b * b = a.tmod b from by rw [Int.tmod_def, Int.mul_comm]]
  have := tmod_b (b := b) ha
  exact wl_s (by omega) (by omega)
theorem l2i_v {r : Int} (h : i32 r) : o_l2i r = r := by
  unfold o_l2i
  unfold i32 at h
  rw [Int64.toInt_toInt32, jI_toInt, wl_s (by omega) (by omega), wr_bmod, wr_id h.1 h.2]
theorem mul_b {a b : Int} (ha : i32 a) (hb : i32 b) : -4611686018427387905 < a * b ∧ a * b < 4611686018427387905 := by
  unfold i32 at ha hb
  have h1 : (a * b).natAbs = a.natAbs * b.natAbs := Int.natAbs_mul a b
  have h2 : a.natAbs * b.natAbs ≤ 2147483648 * 2147483648 := Nat.mul_le_mul (by omega) (by omega)
  omega
/-- what join makes, before it is held to be bounded -/
def jnv (op a b : Int) : Int := if op = 2 then a + b else if op = 3 then a - b else if op = 4 then a * b else if op = 5 then (if b = 0 then 1000000001 else a.tdiv b) else if op = 6 then (if b = 0 then 1000000001 else a.tmod b) else if op = 7 then (if a < b then 1 else 0) else if op = 8 then (if b < a then 1 else 0) else (if a = b then 1 else 0)
theorem jnv_x (op a b : Int) : xop op a b = if jnv op a b < -1000000000 ∨ 1000000000 < jnv op a b then none else some (jnv op a b) := by
  unfold xop jnv
  split
  · rfl
  · split
    · rfl
    · split
      · rfl
      · split
        · split
          · rw [if_pos (by omega)]; rfl
          · rfl
        · split
          · split
            · rw [if_pos (by omega)]; rfl
            · rfl
          · split
            · rfl
            · split
              · rfl
              · rfl
theorem jnv_b {op a b : Int} (ha : i32 a) (hb : i32 b) : wl (jnv op a b) = jnv op a b := by
  have m := mul_b ha hb
  have d := tdiv_b (b := b) ha
  have r := tmod_b (b := b) ha
  have h : -4611686018427387905 < jnv op a b ∧ jnv op a b < 4611686018427387905 := by
    unfold jnv
    unfold i32 at ha hb
    split
    · omega
    · split
      · omega
      · split
        · exact m
        · split
          · split <;> omega
          · split
            · split <;> omega
            · split
              · split <;> omega
              · split <;> split <;> omega
  exact wl_s h.1 h.2
theorem w_xjoin {op a b : Int} {σ : st_S} {Q : Int → st_S → Prop} (ha : i32 a) (hb : i32 b) (hQ : Q (jnv op a b) σ) : wp_X0_join op a b σ Q := by
  have wa : wl a = a := wl_s (by unfold i32 at ha; omega) (by unfold i32 at ha; omega)
  have wb : wl b = b := wl_s (by unfold i32 at hb; omega) (by unfold i32 at hb; omega)
  have w0 : wl 0 = 0 := by decide
  have m := mul_b ha hb
  refine ⟨fun e => ?_, fun e => ?_, fun e => ?_, fun e => ?_, fun e => ?_, fun e => ?_, fun e => ?_, fun e => ?_⟩
  · subst e
    rw [wl_s (by unfold i32 at ha hb; clear wa wb w0; omega) (by unfold i32 at ha hb; clear wa wb w0; omega)]; exact hQ
  · subst e
    rw [wl_s (by unfold i32 at ha hb; clear wa wb w0; omega) (by unfold i32 at ha hb; clear wa wb w0; omega)]; exact hQ
  · subst e
    rw [wl_s m.1 m.2]; exact hQ
  · subst e
    rw [p_eq wb w0, p_div_v ha hb]
    unfold jnv at hQ
    refine ⟨fun z => ⟨z, ?_⟩, fun z => ?_⟩
    · simp only [show ¬ (5 : Int) = 2 by decide, show ¬ (5 : Int) = 3 by decide, show ¬ (5 : Int) = 4 by decide, if_false, if_true] at hQ
      rw [if_neg z] at hQ; exact hQ
    · simp only [show ¬ (5 : Int) = 2 by decide, show ¬ (5 : Int) = 3 by decide, show ¬ (5 : Int) = 4 by decide, if_false, if_true] at hQ
      rw [if_pos z] at hQ; exact hQ
  · subst e
    rw [p_eq wb w0, p_rem_v ha hb]
    unfold jnv at hQ
    refine ⟨fun z => ⟨z, ?_⟩, fun z => ?_⟩
    · simp only [show ¬ (6 : Int) = 2 by decide, show ¬ (6 : Int) = 3 by decide, show ¬ (6 : Int) = 4 by decide, show ¬ (6 : Int) = 5 by decide, if_false, if_true] at hQ
      rw [if_neg z] at hQ; exact hQ
    · simp only [show ¬ (6 : Int) = 2 by decide, show ¬ (6 : Int) = 3 by decide, show ¬ (6 : Int) = 4 by decide, show ¬ (6 : Int) = 5 by decide, if_false, if_true] at hQ
      rw [if_pos z] at hQ; exact hQ
  · subst e
    rw [p_ge wa wb]
    replace hQ : Q (if a < b then 1 else 0) σ := hQ
    refine ⟨fun z => ?_, fun z => ?_⟩
    · rw [if_neg (by clear wa wb w0; omega)] at hQ; exact hQ
    · rw [if_pos (by clear wa wb w0; omega)] at hQ; exact hQ
  · subst e
    rw [p_le wa wb]
    replace hQ : Q (if b < a then 1 else 0) σ := hQ
    refine ⟨fun z => ?_, fun z => ?_⟩
    · rw [if_neg (by clear wa wb w0; omega)] at hQ; exact hQ
    · rw [if_pos (by clear wa wb w0; omega)] at hQ; exact hQ
  · rw [p_eq wa wb]
    have e2 : jnv op a b = if a = b then 1 else 0 := by
      clear wa wb w0
      unfold jnv
      rw [if_neg (by omega), if_neg (by omega), if_neg (by omega), if_neg (by omega), if_neg (by omega), if_neg (by omega), if_neg (by omega)]
    rw [e2] at hQ
    refine ⟨fun z => ?_, fun z => ?_⟩
    · rw [if_neg z] at hQ; exact hQ
    · rw [if_pos z] at hQ; exact hQ
/-- the pile f holds s, its top first -/
def zPm (f : Nat → Int) : List Int → Prop
  | [] => True
  | a :: s => f s.length = a ∧ zPm f s
theorem zPm_of {f g : Nat → Int} {s : List Int} (h : zPm f s) (e : ∀ j, j < s.length → g j = f j) : zPm g s := by
  induction s with
  | nil => trivial
  | cons a s ih => exact ⟨by rw [e _ (Nat.lt_succ_self _)]; exact h.1, ih h.2 (fun j hj => e j (Nat.lt_succ_of_lt hj))⟩
/-- where the abacus t may write -/
def zAb (t : Nat) (σ τ : st_S) : Prop := τ.2 = σ.2 ∧ ∀ c j, c ≠ t + 2 → ¬ (c = t ∧ j = 1) → gI τ c j = gI σ c j
theorem zAb_tr {t : Nat} {σ τ υ : st_S} (h : zAb t σ τ) (g : zAb t τ υ) : zAb t σ υ := ⟨g.1.trans h.1, fun c j h1 h2 => (g.2 c j h1 h2).trans (h.2 c j h1 h2)⟩
theorem zAb_rfl {t : Nat} {σ : st_S} : zAb t σ σ := ⟨rfl, fun _ _ _ _ => rfl⟩
theorem zAb_pile {t : Nat} {σ : st_S} {j : Nat} {v : Int} : zAb t σ (sI σ (t + 2) j v) := ⟨rfl, fun c' j' h1 _ => by rw [gI_sI, if_neg (fun z => h1 z.1)]⟩
/-- what stands fixed while text c is worked out on abacus t -/
def zAc (σ : st_S) (t c len : Nat) (W : Nat → Int) : Prop := gK σ t = 16 ∧ gK σ c = 25 ∧ gK σ (t + 2) = 0 ∧ gL σ (t + 2) = 64 ∧ gI σ c 6 = (len : Int) ∧ len ≤ gL σ (c + 1) ∧ len ≤ 400 ∧ (∀ i, i < len → cO σ (c + 1) i ≤ 12) ∧ (∀ i, i < len → cO σ (c + 1) i = 1 → cD σ (c + 1) i < 25 → gI σ (t + 1) (cD σ (c + 1) i).toNat = W (cD σ (c + 1) i).toNat) ∧ (∀ i, i32 (W i)) ∧ c ≠ t + 2 ∧ c + 1 ≠ t + 2 ∧ c ≠ t ∧ c + 1 ≠ t
theorem zAc_ag {σ τ : st_S} {t c len : Nat} {W : Nat → Int} (h : zAc σ t c len W) (g : zAb t σ τ) : zAc τ t c len W := by
  obtain ⟨h1, h2, h3, h4, h5, h6, h7, h8, h9, ha, hb, hc, hd, he⟩ := h
  have eK : ∀ c, gK τ c = gK σ c := fun c => by unfold gK; rw [g.1]
  have eL : ∀ c, gL τ c = gL σ c := fun c => by unfold gL; rw [g.1]
  refine ⟨by rw [eK]; exact h1, by rw [eK]; exact h2, by rw [eK]; exact h3, by rw [eL]; exact h4, ?_, by rw [eL]; exact h6, h7, ?_, ?_, ha, hb, hc, hd, he⟩
  · rw [g.2 c 6 hb (fun z => hd z.1)]; exact h5
  · rw [cO_eq (σ := σ) (fun j => g.2 (c + 1) j hc (fun z => he z.1))]; exact h8
  · rw [cO_eq (σ := σ) (fun j => g.2 (c + 1) j hc (fun z => he z.1)), cD_eq (σ := σ) (fun j => g.2 (c + 1) j hc (fun z => he z.1))]
    intro i hi h1 h2
    rw [g.2 (t + 1) _ (by omega) (by omega)]; exact h9 i hi h1 h2
theorem cD_r (σ : st_S) (c i : Nat) : ∃ k : Nat, cD σ c i = (k : Int) ∧ k < 65536 := by
  unfold cD
  generalize gI σ c i = x
  have e : o_and x 65535 = wr x % 65536 := by
    rw [← iI_toInt x]
    show ((iI x).toBitVec &&& (iI 65535).toBitVec).toInt = (iI x).toBitVec.toInt % 65536
    generalize (iI x).toBitVec = y
    have e : (y &&& (iI 65535).toBitVec).toNat = y.toNat % 65536 := by
      rw [BitVec.toNat_and, show (iI 65535).toBitVec.toNat = 2 ^ 16 - 1 from rfl]
      exact Nat.and_two_pow_sub_one_eq_mod y.toNat 16
    rw [BitVec.toInt_eq_toNat_cond, e, BitVec.toInt_eq_toNat_cond]
    have := y.isLt
    split <;> split <;> omega
  rw [e]
  generalize wr x = z
  exact ⟨(z % 65536).toNat, by omega, by omega⟩
theorem wkp {a : Nat} (b : Nat) (h : b ≤ a) (h2 : a < 100000) (x : Int) (hx : x = (b : Int)) : wr ((a : Int) - x) = ((a - b : Nat) : Int) := by
  rw [hx, show (a : Int) - (b : Int) = ((a - b : Nat) : Int) by omega, wr_n (by omega)]
/-- a step, its operator and operand given -/
def xsb (oc : Int) (od : Nat) (W : Nat → Int) (i : Nat) (s : List Int) : Option (Nat × List Int) :=
  if oc = 0 then (if 64 ≤ s.length then none else some (i + 1, (od : Int) :: s))
  else if oc = 1 then (if 64 ≤ s.length then none else if 25 ≤ (od : Int) then none else some (i + 1, W od :: s))
  else if oc = 10 then (match s with | a :: s => some (i + 1, wr (1 - a) :: s) | [] => none)
  else if oc = 11 ∨ oc = 12 then (match s with | a :: s => if (a = 1 ↔ oc = 11) then some (max (i + 1) od, a :: s) else some (i + 1, s) | [] => none)
  else (match s with | b :: a :: s => (xop oc a b).map (fun v => (i + 1, v :: s)) | _ => none)
section XB
variable {oc : Int} {od i : Nat} {W : Nat → Int} {s r u : List Int} {a b : Int}
theorem xb_st {o d : Nat → Int} (h1 : o i = oc) (h2 : d i = (od : Int)) : xst o d W (i, s) = xsb oc od W i s := by
  unfold xst xsb
  simp only [h1, h2, Int.toNat_natCast]
  rfl
theorem xb_0 (h : oc = 0) : xsb oc od W i s = if 64 ≤ s.length then none else some (i + 1, (od : Int) :: s) := by unfold xsb; rw [if_pos h]
theorem xb_1 (h : oc = 1) : xsb oc od W i s = if 64 ≤ s.length then none else if 25 ≤ (od : Int) then none else some (i + 1, W od :: s) := by unfold xsb; rw [if_neg (by omega), if_pos h]
theorem xb_not (h : oc = 10) : xsb oc od W i (a :: r) = some (i + 1, wr (1 - a) :: r) := by unfold xsb; rw [if_neg (by omega), if_neg (by omega), if_pos h]
theorem xb_or (h : oc = 11 ∨ oc = 12) : xsb oc od W i (a :: r) = if (a = 1 ↔ oc = 11) then some (max (i + 1) od, a :: r) else some (i + 1, r) := by unfold xsb; rw [if_neg (by omega), if_neg (by omega), if_neg (by omega), if_pos h]
theorem xb_op (h0 : ¬ oc = 0) (h1 : ¬ oc = 1) (h2 : ¬ oc = 10) (h3 : ¬ (oc = 11 ∨ oc = 12)) : xsb oc od W i (b :: a :: u) = (xop oc a b).map (fun v => (i + 1, v :: u)) := by unfold xsb; rw [if_neg h0, if_neg h1, if_neg h2, if_neg h3]
theorem xb_nil (h0 : ¬ oc = 0) (h1 : ¬ oc = 1) : xsb oc od W i [] = none := by
  unfold xsb
  rw [if_neg h0, if_neg h1]
  split
  · rfl
  · split <;> rfl
theorem xb_one (h0 : ¬ oc = 0) (h1 : ¬ oc = 1) (h2 : ¬ oc = 10) (h3 : ¬ (oc = 11 ∨ oc = 12)) : xsb oc od W i [a] = none := by unfold xsb; rw [if_neg h0, if_neg h1, if_neg h2, if_neg h3]
end XB
/-- a step of the loop -/
theorem w_sstep {t c len to i f : Nat} {W : Nat → Int} {nx : Int} {s : List Int} {τ : st_S} {Q : Int → st_S → Prop} (hA : zAc τ t c len W) (hi : i < to) (hto : to ≤ len) (hnx : nx ≤ (i : Int)) (hpm : zPm (gI τ (t + 2)) s) (hsl : s.length ≤ 64) (hcn : ∀ x, x ∈ s → i32 x)
    (hk : ∀ s' υ (nx' : Int), xst (cO τ (c + 1)) (cD τ (c + 1)) W (i, s) = some (max (i + 1) nx'.toNat, s') → nx' < 65536 → zAb t τ υ → zPm (gI υ (t + 2)) s' → s'.length ≤ 64 → (∀ x, x ∈ s' → i32 x) → L_X0_solve_9 Q f t c (to : Int) (s'.length : Int) nx' ((i + 1 : Nat) : Int) υ)
    (h0 : xst (cO τ (c + 1)) (cD τ (c + 1)) W (i, s) = none → Q 0 τ) : L_X0_solve_9 Q (f + 1) t c (to : Int) (s.length : Int) nx (i : Int) τ := by
  obtain ⟨k1, k2, k3, k4, k5, k6, k7, k8, k9, ka, kb, kc, kd, ke⟩ := hA
  obtain ⟨od, od1, od2⟩ := cD_r τ (c + 1) i
  have o12 := k8 i (by omega)
  refine ⟨fun q => absurd q (by omega), fun _ => ⟨k2, fun q => absurd q (by omega), fun _ => ⟨fun _ => ⟨⟨by omega, by omega⟩, ?_⟩, fun q => absurd hnx q⟩⟩⟩
  intro oc eoc
  replace eoc : oc = cO τ (c + 1) i := eoc
  refine ⟨⟨by omega, by omega⟩, ?_⟩
  intro ov eov
  replace eov : ov = (od : Int) := eov.trans od1
  have step : ∀ (s' : List Int) (υ : st_S), xst (cO τ (c + 1)) (cD τ (c + 1)) W (i, s) = some (i + 1, s') → zAb t τ υ → zPm (gI υ (t + 2)) s' → s'.length ≤ 64 → (∀ x, x ∈ s' → i32 x) → B_X0_solve_308 Q (L_X0_solve_9 Q f) t c (to : Int) (s'.length : Int) nx (i : Int) υ := by
    intro s' υ e1 e2 e3 e4 e5
    intro x ex
    rw [wks (by omega)] at ex
    subst ex
    exact hk s' υ nx (by rw [e1, Nat.max_eq_left (by omega)]) (by omega) e2 e3 e4 e5
  have x0 : xst (cO τ (c + 1)) (cD τ (c + 1)) W (i, s) = xsb oc od W i s := xb_st eoc.symm od1
  have h69 : oc = 0 ∨ oc = 1 → B_X0_solve_69 Q (L_X0_solve_9 Q f) t c (to : Int) (s.length : Int) nx (i : Int) oc ov τ := by
    intro hoc
    refine ⟨fun q => ?_, fun q => ?_⟩
    · refine h0 ?_
      rw [x0]
      rcases hoc with e | e
      · rw [xb_0 e, if_pos (by omega)]
      · rw [xb_1 e, if_pos (by omega)]
    · have push : ∀ v : Int, i32 v → xst (cO τ (c + 1)) (cD τ (c + 1)) W (i, s) = some (i + 1, v :: s) → B_X0_solve_114 Q (L_X0_solve_9 Q f) t c (to : Int) (s.length : Int) nx (i : Int) v (s.length : Int) (t + 2) τ := by
        intro v hv e
        rw [show B_X0_solve_114 Q (L_X0_solve_9 Q f) t c (to : Int) (s.length : Int) nx (i : Int) v (s.length : Int) (t + 2) τ = (gK τ (t + 2) = 0 ∧ ix (wr (s.length : Int)) (gL τ (t + 2)) ∧ ∀ s63 : st_S, s63 = sI τ (t + 2) (Int.toNat (wr (s.length : Int))) v → ∀ x64 : Int, x64 = wr ((s.length : Int) + 1) → B_X0_solve_308 Q (L_X0_solve_9 Q f) t c (to : Int) x64 nx (i : Int) s63) from rfl]
        rw [wr_n (by omega), wks (by omega), Int.toNat_natCast]
        refine ⟨k3, ⟨by omega, by omega⟩, ?_⟩
        intro s63 e63 x64 e64
        subst e63
        subst e64
        refine step (v :: s) _ e zAb_pile ⟨?_, ?_⟩ (by show s.length + 1 ≤ 64; omega) (fun x hx => ?_)
        · rw [gI_sI, if_pos ⟨rfl, rfl⟩]
        · exact zPm_of hpm (fun j hj => by rw [gI_sI, if_neg (by omega)])
        · rcases List.mem_cons.mp hx with e | e
          · rw [e]; exact hv
          · exact hcn x e
      have h91 : (oc = 1 → od < 25) → B_X0_solve_91 Q (L_X0_solve_9 Q f) t c (to : Int) (s.length : Int) nx (i : Int) oc ov τ := by
        intro h25
        refine ⟨k1, fun z => ?_, fun z => ?_⟩
        · have e1 : oc = 1 := by omega
          have := h25 e1
          refine ⟨⟨by omega, by omega⟩, ?_⟩
          have kw := k9 i (by omega) (eoc.symm.trans e1) (by rw [od1]; omega)
          rw [od1, Int.toNat_natCast] at kw
          rw [eov, Int.toNat_natCast, kw]
          refine push _ (ka od) ?_
          rw [x0, xb_1 e1, if_neg (by omega), if_neg (by omega)]
        · rw [eov]
          refine push _ (by unfold i32; omega) ?_
          rw [x0, xb_0 z, if_neg (by omega)]
      refine ⟨fun z => h91 (fun e => absurd e z), fun z => ⟨fun y => h91 (fun _ => by omega), fun y => h0 ?_⟩⟩
      rw [x0, xb_1 z, if_neg (by omega), if_pos (by omega)]
  have h135 : ∀ v0 : Int, ¬ oc = 0 → ¬ oc = 1 → (v0 = 1 ∧ 10 ≤ oc ∨ v0 = 2 ∧ ¬ 10 ≤ oc) → B_X0_solve_135 Q (L_X0_solve_9 Q f) t c (to : Int) (s.length : Int) nx (i : Int) oc ov v0 (s.length : Int) τ := by
    intro v0 n0 n1 hv0
    unfold B_X0_solve_135
    rw [wr_n (n := s.length) (by omega)]
    refine ⟨fun q => ?_, fun q => h0 ?_⟩
    · match s, hpm, hsl, hcn, x0, step, hk, h0, q with
      | [], _, _, _, _, _, _, _, q => exact absurd q (by show ¬ v0 ≤ ((0 : Nat) : Int); omega)
      | a :: r, hpm, hsl, hcn, x0, step, hk, h0, q =>
        have hl : (a :: r).length = r.length + 1 := rfl
        rw [hl, wkp 1 (by omega) (by omega) 1 rfl, Nat.add_sub_cancel]
        have ia : i32 a := hcn a List.mem_cons_self
        have ir : ∀ x, x ∈ r → i32 x := fun x hx => hcn x (List.mem_cons_of_mem _ hx)
        refine ⟨k1, ⟨by omega, by omega⟩, ?_⟩
        intro x81 e81
        rw [Int.toNat_natCast, hpm.1] at e81
        subst e81
        refine ⟨fun ne10 => ?_, fun e10 => ?_⟩
        · have h188 : oc = 11 ∨ oc = 12 → B_X0_solve_188 Q (L_X0_solve_9 Q f) t c (to : Int) ((r.length + 1 : Nat) : Int) nx (i : Int) oc ov x81 τ := by
            intro ho
            rw [xb_or ho] at x0
            have h219 : ∀ v : Int, (v = 1 ∧ (x81 = 1 ↔ oc = 11)) ∨ (v = 0 ∧ ¬ (x81 = 1 ↔ oc = 11)) → B_X0_solve_219 Q (L_X0_solve_9 Q f) t c (to : Int) ((r.length + 1 : Nat) : Int) nx (i : Int) ov v τ := by
              intro v hv
              rcases hv with ⟨rfl, hv⟩ | ⟨rfl, hv⟩
              · refine ⟨fun z => absurd z (by decide), fun _ => ⟨fun z => absurd z (by decide), fun _ => ?_⟩⟩
                intro x ex
                rw [Int.sub_zero, wr_n (by omega)] at ex
                subst ex
                intro y ey
                rw [wks (by omega)] at ey
                subst ey
                have := hk (x81 :: r) τ ov (by rw [x0, if_pos hv, eov, Int.toNat_natCast]) (by omega) zAb_rfl hpm hsl hcn
                exact this
              · refine ⟨fun _ => ⟨fun _ => ?_, fun z => absurd rfl z⟩, fun z => absurd rfl z⟩
                intro x ex
                rw [wkp 1 (by omega) (by omega) 1 rfl, Nat.add_sub_cancel] at ex
                subst ex
                exact step r τ (by rw [x0, if_neg hv]) zAb_rfl hpm.2 (by omega) ir
            have w1 : wr 1 = 1 := by decide
            have w0 : wr 0 = 0 := by decide
            refine ⟨fun z => ⟨fun y => ?_, fun y => ?_⟩, fun z => ⟨fun y => ?_, fun y => ?_⟩⟩
            · unfold B_X0_solve_211
              rw [w0]
              exact ⟨fun z => absurd rfl z, fun _ => h219 1 (Or.inl ⟨rfl, ⟨fun a => absurd a z, fun a => absurd a y⟩⟩)⟩
            · unfold B_X0_solve_211
              rw [w0]
              exact ⟨fun _ => h219 0 (Or.inr ⟨rfl, fun a => z (a.mpr y)⟩), fun z => absurd z (by decide)⟩
            · unfold B_X0_solve_211
              rw [w1]
              exact ⟨fun _ => h219 0 (Or.inr ⟨rfl, fun a => y (a.mp z)⟩), fun z => absurd z (by decide)⟩
            · unfold B_X0_solve_211
              rw [w1]
              exact ⟨fun z => absurd rfl z, fun _ => h219 1 (Or.inl ⟨rfl, ⟨fun _ => y, fun _ => z⟩⟩)⟩
          refine ⟨fun e => h188 (Or.inl e), fun ne11 => ⟨fun ne12 => ?_, fun e => h188 (Or.inr e)⟩⟩
          match r, hpm, hsl, ir, x0, h0, q with
          | [], _, _, _, _, _, q => exact absurd q (by show ¬ v0 ≤ ((1 : Nat) : Int); omega)
          | b :: u, hpm, hsl, ir, x0, h0, q =>
            have hl2 : (b :: u).length = u.length + 1 := rfl
            have hl3 : (x81 :: b :: u).length = u.length + 2 := rfl
            have ib : i32 b := ir b List.mem_cons_self
            have iu : ∀ x, x ∈ u → i32 x := fun x hx => ir x (List.mem_cons_of_mem _ hx)
            rw [hl2, wkp 2 (by omega) (by omega) 2 rfl, show u.length + 1 + 1 - 2 = u.length by omega]
            refine ⟨⟨by omega, by omega⟩, ?_⟩
            rw [Int.toNat_natCast, hpm.2.1]
            refine w_xjoin ib ia ?_
            have jb := jnv_b (op := oc) ib ia
            have x0' : xst (cO τ (c + 1)) (cD τ (c + 1)) W (i, x81 :: b :: u) = (xop oc b x81).map (fun v => (i + 1, v :: u)) := by rw [x0, xb_op n0 n1 ne10 (by omega)]
            rw [jnv_x] at x0'
            have wA : wl (-1000000000) = -1000000000 := by decide
            have wB : wl 1000000000 = 1000000000 := by decide
            rw [p_lt jb wA, p_le jb wB]
            clear jb wA wB
            refine ⟨fun z => h0 ?_, fun z => ⟨fun y => ?_, fun y => h0 ?_⟩⟩
            · rw [x0', if_pos (Or.inl z)]; rfl
            · rw [if_neg (by omega)] at x0'
              intro x86 e86
              rw [show (((u.length + 1 + 1 : Nat) : Int) + (-1)) = ((u.length + 1 : Nat) : Int) by omega, wr_n (by omega)] at e86
              subst e86
              rw [wkp 1 (by omega) (by omega) 1 rfl, Nat.add_sub_cancel]
              refine ⟨k1, ⟨by omega, by omega⟩, ?_⟩
              intro s89 e89
              subst e89
              rw [Int.toNat_natCast, l2i_v (by unfold i32; omega)]
              refine step (jnv oc b x81 :: u) _ (by rw [x0']; rfl) zAb_pile ⟨?_, ?_⟩ (by show u.length + 1 ≤ 64; omega) (fun x hx => ?_)
              · rw [gI_sI, if_pos ⟨rfl, rfl⟩]
              · exact zPm_of hpm.2.2 (fun j hj => by rw [gI_sI, if_neg (by omega)])
              · rcases List.mem_cons.mp hx with e | e
                · rw [e]; unfold i32; omega
                · exact iu x e
            · rw [x0', if_pos (Or.inr (by omega))]; rfl
        · rw [xb_not e10] at x0
          intro x94 e94
          subst e94
          refine ⟨⟨by omega, by omega⟩, ?_⟩
          intro s96 e96
          subst e96
          rw [Int.toNat_natCast]
          refine step (wr (1 - x81) :: r) _ x0 zAb_pile ⟨?_, ?_⟩ (by show r.length + 1 ≤ 64; omega) (fun x hx => ?_)
          · rw [gI_sI, if_pos ⟨rfl, rfl⟩]
          · exact zPm_of hpm.2 (fun j hj => by rw [gI_sI, if_neg (by omega)])
          · rcases List.mem_cons.mp hx with e | e
            · rw [e]; exact wr_bounds _
            · exact ir x e
    · match s, x0, q with
      | [], x0, _ => rw [x0, xb_nil n0 n1]
      | [a], x0, q =>
        have : ¬ v0 ≤ ((1 : Nat) : Int) := q
        rw [x0, xb_one n0 n1 (by omega) (by omega)]
      | a :: b :: r, _, q => exact absurd (show v0 ≤ (((a :: b :: r).length : Nat) : Int) by show v0 ≤ ((r.length + 2 : Nat) : Int); omega) q
  refine ⟨fun e => h69 (Or.inl e), fun ne => ⟨fun ne1 => ⟨fun h => h135 1 ne ne1 (Or.inl ⟨rfl, h⟩), fun h => h135 2 ne ne1 (Or.inr ⟨rfl, h⟩)⟩, fun e => h69 (Or.inr e)⟩⟩
theorem xst_lt {oc od W : Nat → Int} {i k : Nat} {s s' : List Int} (h : xst oc od W (i, s) = some (k, s')) : i < k := by
  unfold xst at h
  simp only at h
  split at h
  · split at h
    · exact absurd h (by simp)
    · injection h with h; injection h with h1 h2; omega
  · split at h
    · split at h
      · exact absurd h (by simp)
      · split at h
        · exact absurd h (by simp)
        · injection h with h; injection h with h1 h2; omega
    · split at h
      · split at h
        · injection h with h; injection h with h1 h2; omega
        · exact absurd h (by simp)
      · split at h
        · split at h
          · split at h
            · injection h with h; injection h with h1 h2; omega
            · injection h with h; injection h with h1 h2; omega
          · exact absurd h (by simp)
        · match s, h with
          | [], h => exact absurd h (by simp)
          | [x], h => exact absurd h (by simp)
          | b :: a :: u, h =>
            simp only at h
            cases hx : xop (oc i) a b with
            | none => rw [hx] at h; exact absurd h (by simp)
            | some v => rw [hx] at h; simp only [Option.map] at h; injection h with h; injection h with h1 h2; omega
theorem xn_le {oc od W : Nat → Int} {n : Nat} : ∀ {i k : Nat} {s s' : List Int}, xn oc od W n (i, s) = some (k, s') → i ≤ k := by
  induction n with
  | zero => intro i k s s' h; injection h with h; injection h with h1 h2; omega
  | succ n ih =>
    intro i k s s' h
    unfold xn at h
    cases hx : xst oc od W (i, s) with
    | none => rw [hx] at h; exact absurd h (by simp)
    | some q =>
      rw [hx] at h
      have h1 := xst_lt (k := q.1) (s' := q.2) hx
      have h2 := ih (i := q.1) (s := q.2) h
      omega
/-- the loop from (i, s): what is reached, and with what the loop ends there -/
theorem w_srun {t c len to : Nat} {W : Nat → Int} {Q : Int → st_S → Prop} {oc od : Nat → Int} {E : Nat → List Int → st_S → Prop} (hto : to ≤ len) {n : Nat} : ∀ {i k : Nat} {s s' : List Int} {τ : st_S}, zAc τ t c len W → cO τ (c + 1) = oc → cD τ (c + 1) = od → xn oc od W n (i, s) = some (k, s') → k ≤ to → zPm (gI τ (t + 2)) s → s.length ≤ 64 → (∀ x, x ∈ s → i32 x) →
    (∀ υ (f : Nat) (nx : Int), zAb t τ υ → zPm (gI υ (t + 2)) s' → s'.length ≤ 64 → (∀ x, x ∈ s' → i32 x) → nx ≤ (k : Int) → to < f + k → L_X0_solve_9 Q f t c (to : Int) (s'.length : Int) nx (k : Int) υ) →
    ∀ (f : Nat) (nx : Int), nx ≤ (i : Int) → to < f + i → L_X0_solve_9 Q f t c (to : Int) (s.length : Int) nx (i : Int) τ := by
  have skip : ∀ (d : Nat) {i : Nat} {h : Nat} {τ : st_S}, zAc τ t c len W → i + d ≤ to → (∀ f, to < f + (i + d) → L_X0_solve_9 Q f t c (to : Int) (h : Int) ((i + d : Nat) : Int) ((i + d : Nat) : Int) τ) → ∀ f, to < f + i → L_X0_solve_9 Q f t c (to : Int) (h : Int) ((i + d : Nat) : Int) (i : Int) τ := by
    intro d
    induction d with
    | zero => intro i h τ hA hd hk f hf; exact hk f hf
    | succ d ih =>
      intro i h τ hA hd hk f hf
      obtain ⟨f, rfl⟩ : ∃ g, f = g + 1 := ⟨f - 1, by omega⟩
      have hA' := hA
      obtain ⟨k1, k2, k3, k4, k5, k6, k7, k8, k9, ka, kb, kc, kd, ke⟩ := hA
      refine ⟨fun q => absurd q (by omega), fun _ => ⟨k2, fun q => absurd q (by omega), fun _ => ⟨fun q => absurd q (by omega), fun _ => ?_⟩⟩⟩
      intro x ex
      rw [wks (by omega)] at ex
      subst ex
      have e : i + (d + 1) = i + 1 + d := by omega
      rw [e] at hk ⊢
      exact ih hA' (by omega) hk f (by omega)
  induction n with
  | zero =>
    intro i k s s' τ hA ho hd hx hk hpm hsl hcn hE f nx hnx hf
    injection hx with hx
    injection hx with h1 h2
    subst h1
    subst h2
    exact hE τ f nx zAb_rfl hpm hsl hcn hnx hf
  | succ n ih =>
    intro i k s s' τ hA ho hd hx hk hpm hsl hcn hE f nx hnx hf
    unfold xn at hx
    cases hy : xst oc od W (i, s) with
    | none => rw [hy] at hx; exact absurd hx (by simp)
    | some q =>
      rw [hy] at hx
      have h1 := xst_lt (k := q.1) (s' := q.2) hy
      have h2 : q.1 ≤ k := xn_le (i := q.1) (s := q.2) hx
      obtain ⟨f, rfl⟩ : ∃ g, f = g + 1 := ⟨f - 1, by omega⟩
      have hA' := hA
      have hA2 := hA
      obtain ⟨k1, k2, k3, k4, k5, k6, k7, k8, k9, ka, kb, kc, kd, ke⟩ := hA
      refine w_sstep hA' (by omega) hto hnx hpm hsl hcn (fun s1 υ nx' e hnb hab hp hl hc => ?_) (fun e => ?_)
      · rw [ho, hd, hy] at e
        injection e with e
        obtain ⟨q1, q2⟩ := q
        injection e with e1 e2
        subst e2
        have go : ∀ (f : Nat) (nx : Int), nx ≤ (q1 : Int) → to < f + q1 → L_X0_solve_9 Q f t c (to : Int) (q2.length : Int) nx (q1 : Int) υ := by
          refine ih (zAc_ag hA2 hab) ?_ ?_ hx hk hp hl hc (fun υ' f nx h1 h2 h3 h4 h5 h6 => hE υ' f nx (zAb_tr hab h1) h2 h3 h4 h5 h6)
          · rw [cO_eq (σ := τ) (fun j => hab.2 (c + 1) j kc (fun z => ke z.1))]; exact ho
          · rw [cD_eq (σ := τ) (fun j => hab.2 (c + 1) j kc (fun z => ke z.1))]; exact hd
        by_cases hj : nx' ≤ ((i + 1 : Nat) : Int)
        · have : q1 = i + 1 := by rw [e1]; omega
          subst this
          exact go f nx' hj (by omega)
        · have e3 : nx' = ((i + 1 + (q1 - (i + 1)) : Nat) : Int) := by omega
          have e4 : q1 = i + 1 + (q1 - (i + 1)) := by omega
          rw [e3]
          refine skip (q1 - (i + 1)) (zAc_ag hA2 hab) (by omega) (fun f hf => ?_) f (by omega)
          rw [← e4]
          exact go f (q1 : Int) (Int.le_refl _) (by omega)
      · rw [ho, hd, hy] at e
        exact absurd e (by simp)
/-- solve -/
theorem w_solve {t c len a b : Nat} {W : Nat → Int} {D : (Nat → Int) → Option Int} {m : Nat} {σ : st_S} {Q : Int → st_S → Prop} (hA : zAc σ t c len W) (hb : b ≤ len) (hm : m ≤ 64) (hD : xDen (cO σ (c + 1)) (cD σ (c + 1)) a b m D)
    (h1 : ∀ v τ, D W = some v → zAb t σ τ → gI τ t 1 = v → Q 1 τ) (h0 : D W = none → ∀ τ, zAb t σ τ → Q 0 τ) : wp_X0_solve t c (a : Int) (b : Int) σ Q := by
  obtain ⟨hab, hD⟩ := hD
  have hA' := hA
  obtain ⟨k1, k2, k3, k4, k5, k6, k7, k8, k9, ka, kb, kc, kd, ke⟩ := hA
  obtain ⟨d1, d2⟩ := hD W (fun i => i32_iff.mpr (ka i)) [] (by show 0 + m ≤ 64; omega)
  refine ⟨b - a + 2, ?_⟩
  cases hv : D W with
  | none =>
    obtain ⟨n, i, s', e1, e2, e3⟩ := d2 hv
    refine w_srun (E := fun _ _ _ => True) hb hA' rfl rfl e1 (by omega) trivial (by decide) (fun x hx => absurd hx (by simp)) (fun υ f nx h1 h2 h3 h4 h5 h6 => ?_) (b - a + 2) (a : Int) (Int.le_refl _) (by omega)
    obtain ⟨f, rfl⟩ : ∃ g, f = g + 1 := ⟨f - 1, by omega⟩
    have eo : cO υ (c + 1) = cO σ (c + 1) := cO_eq (fun j => h1.2 (c + 1) j kc (fun z => ke z.1))
    have ed : cD υ (c + 1) = cD σ (c + 1) := cD_eq (fun j => h1.2 (c + 1) j kc (fun z => ke z.1))
    refine w_sstep (zAc_ag hA' h1) e2 hb h5 h2 h3 h4 (fun s1 υ' nx' e => ?_) (fun _ => h0 hv υ h1)
    rw [eo, ed, e3] at e
    exact absurd e (by simp)
  | some v =>
    obtain ⟨hwv, n, e1⟩ := d1 v hv
    refine w_srun (E := fun _ _ _ => True) hb hA' rfl rfl e1 (Nat.le_refl _) trivial (by decide) (fun x hx => absurd hx (by simp)) (fun υ f nx h1' h2 h3 h4 h5 h6 => ?_) (b - a + 2) (a : Int) (Int.le_refl _) (by omega)
    obtain ⟨f, rfl⟩ : ∃ g, f = g + 1 := ⟨f - 1, by omega⟩
    have hk1 : gK υ t = 16 := (zAc_ag hA' h1').1
    refine ⟨fun _ => ?_, fun z => absurd (Int.le_refl _) z⟩
    show B_X0_solve_314 Q t ((1 : Nat) : Int) υ
    refine ⟨fun z => absurd z (by decide), fun _ => ?_⟩
    rw [show wr (((1 : Nat) : Int) - 1) = 0 from by decide]
    refine ⟨hk1, ⟨by decide, by decide⟩, hk1, ?_⟩
    intro s es
    subst es
    refine h1 v _ hv ⟨h1'.1, fun c' j' q1 q2 => by rw [gI_sI, if_neg q2]; exact h1'.2 c' j' q1 q2⟩ ?_
    rw [gI_sI, if_pos ⟨rfl, rfl⟩]
    exact h2.1
