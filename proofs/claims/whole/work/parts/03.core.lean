/-! numbers: an int on the machine's stack is the class mod 2^32 of an integer -/
def iI (x : Int) : Int32 := Int32.ofInt x
def jI (x : Int) : Int64 := Int64.ofInt x
def wr (x : Int) : Int := (x + 2147483648) % 4294967296 - 2147483648
def wl (x : Int) : Int := (x + 9223372036854775808) % 18446744073709551616 - 9223372036854775808
theorem wr_bmod (x : Int) : x.bmod (2 ^ 32) = wr x := by
  unfold wr
  rw [Int.bmod_def]
  have h : (((2 ^ 32 : Nat) : Int)) = 4294967296 := by decide
  rw [h]
  split <;> omega
theorem wl_bmod (x : Int) : x.bmod (2 ^ 64) = wl x := by
  unfold wl
  rw [Int.bmod_def]
  have h : (((2 ^ 64 : Nat) : Int)) = 18446744073709551616 := by decide
  rw [h]
  split <;> omega
theorem iI_toInt (x : Int) : (iI x).toInt = wr x := by
  unfold iI
  rw [Int32.toInt_ofInt]
  exact wr_bmod x
theorem jI_toInt (x : Int) : (jI x).toInt = wl x := by
  unfold jI
  rw [Int64.toInt_ofInt]
  exact wl_bmod x
theorem iI_of (x : Int32) : iI x.toInt = x := Int32.ofInt_toInt x
theorem jI_of (x : Int64) : jI x.toInt = x := Int64.ofInt_toInt x
theorem iI_eq {a b : Int} : iI a = iI b ↔ wr a = wr b := by
  rw [← Int32.toInt_inj, iI_toInt, iI_toInt]
theorem jI_eq {a b : Int} : jI a = jI b ↔ wl a = wl b := by
  rw [← Int64.toInt_inj, jI_toInt, jI_toInt]
theorem wr_wr (x : Int) : wr (wr x) = wr x := by unfold wr; omega
theorem wl_wl (x : Int) : wl (wl x) = wl x := by unfold wl; omega
theorem wr_id {x : Int} (h1 : -2147483648 ≤ x) (h2 : x ≤ 2147483647) : wr x = x := by unfold wr; omega
theorem wl_id {x : Int} (h1 : -9223372036854775808 ≤ x) (h2 : x ≤ 9223372036854775807) : wl x = x := by unfold wl; omega
theorem wr_bounds (x : Int) : -2147483648 ≤ wr x ∧ wr x ≤ 2147483647 := by unfold wr; omega
theorem iI_wr (x : Int) : iI (wr x) = iI x := iI_eq.mpr (wr_wr x)
theorem iI_zero (a : Int) : iI a = 0 ↔ wr a = 0 := by
  have h : (0 : Int32) = iI 0 := by decide
  have h0 : wr 0 = 0 := by decide
  rw [h, iI_eq, h0]
theorem jI_zero (a : Int) : jI a = 0 ↔ wl a = 0 := by
  have h : (0 : Int64) = jI 0 := by decide
  have h0 : wl 0 = 0 := by decide
  rw [h, jI_eq, h0]
theorem iI_le (a b : Int) : iI a ≤ iI b ↔ wr a ≤ wr b := by rw [Int32.le_iff_toInt_le, iI_toInt, iI_toInt]
theorem iI_lt (a b : Int) : iI a < iI b ↔ wr a < wr b := by rw [Int32.lt_iff_toInt_lt, iI_toInt, iI_toInt]
theorem jI_le (a b : Int) : jI a ≤ jI b ↔ wl a ≤ wl b := by rw [Int64.le_iff_toInt_le, jI_toInt, jI_toInt]
theorem jI_lt (a b : Int) : jI a < jI b ↔ wl a < wl b := by rw [Int64.lt_iff_toInt_lt, jI_toInt, jI_toInt]
theorem iI_add (a b : Int) : iI (a + b) = iI a + iI b := Int32.ofInt_add a b
theorem iI_sub (a b : Int) : iI (a - b) = iI a - iI b := Int32.ofInt_sub a b
theorem iI_mul (a b : Int) : iI (a * b) = iI a * iI b := Int32.ofInt_mul a b
theorem iI_neg (a : Int) : iI (-a) = - iI a := Int32.ofInt_neg a
theorem jI_add (a b : Int) : jI (a + b) = jI a + jI b := Int64.ofInt_add a b
theorem jI_sub (a b : Int) : jI (a - b) = jI a - jI b := Int64.ofInt_sub a b
theorem jI_mul (a b : Int) : jI (a * b) = jI a * jI b := Int64.ofInt_mul a b
/-! the operators that are no ring's, over integers -/
def o_and (a b : Int) : Int := (iI a &&& iI b).toInt
def o_or (a b : Int) : Int := (iI a ||| iI b).toInt
def o_xor (a b : Int) : Int := (iI a ^^^ iI b).toInt
def o_shl (a b : Int) : Int := (iI a <<< (iI b &&& 31)).toInt
def o_shr (a b : Int) : Int := (iI a >>> (iI b &&& 31)).toInt
def o_ushr (a b : Int) : Int := (((iI a).toUInt32 >>> ((iI b).toUInt32 &&& Int32.toUInt32 31)).toInt32).toInt
def o_div (a b : Int) : Int := (iI a / iI b).toInt
def o_rem (a b : Int) : Int := (iI a - iI a / iI b * iI b).toInt
def o_i2b (a : Int) : Int := ((iI a).toInt8.toInt32).toInt
def o_i2c (a : Int) : Int := (((iI a).toUInt32 % 65536).toInt32).toInt
def o_nz (a : Int) : Int := (vp_nar .boolean (iI a)).toInt
def p_div (a b : Int) : Int := (jI a / jI b).toInt
def p_rem (a b : Int) : Int := (jI a - jI a / jI b * jI b).toInt
def p_cmp (a b : Int) : Int := (lg_cmp (jI a) (jI b)).toInt
def o_l2i (a : Int) : Int := ((jI a).toInt32).toInt
def o_nb (a : Int) : Int := (vp_nar .byte (iI a)).toInt
def o_max (a b : Int) : Int := if a < b then b else a
def o_min (a b : Int) : Int := if b < a then b else a
/-- an index within n -/
def ix (i : Int) (n : Nat) : Prop := 0 ≤ i ∧ i < n
theorem ix_in {i i' : Int} {n : Nat} (e : wr i = i') (h : ix i' n) : vp_in (iI i) n := by
  rw [vp_in_iff, iI_toInt, e]
  exact h
theorem ix_nat (i : Int) : (iI i).toNatClampNeg = (wr i).toNat := by
  rw [← iI_toInt]
  rfl
theorem cn_i (x : Int32) : wr x.toInt = x.toInt := by
  have h := iI_toInt x.toInt
  rw [iI_of] at h
  exact h.symm
theorem cn_l (x : Int64) : wl x.toInt = x.toInt := by
  have h := jI_toInt x.toInt
  rw [jI_of] at h
  exact h.symm
theorem cn_wl {x : Int} (h : wr x = x) : wl x = x := by
  have := wr_bounds x
  rw [h] at this
  exact wl_id (by omega) (by omega)
theorem cn_and (a b : Int) : wr (o_and a b) = o_and a b := cn_i _
theorem cn_or (a b : Int) : wr (o_or a b) = o_or a b := cn_i _
theorem cn_xor (a b : Int) : wr (o_xor a b) = o_xor a b := cn_i _
theorem cn_shl (a b : Int) : wr (o_shl a b) = o_shl a b := cn_i _
theorem cn_shr (a b : Int) : wr (o_shr a b) = o_shr a b := cn_i _
theorem cn_ushr (a b : Int) : wr (o_ushr a b) = o_ushr a b := cn_i _
theorem cn_div (a b : Int) : wr (o_div a b) = o_div a b := cn_i _
theorem cn_rem (a b : Int) : wr (o_rem a b) = o_rem a b := cn_i _
theorem cn_i2b (a : Int) : wr (o_i2b a) = o_i2b a := cn_i _
theorem cn_i2c (a : Int) : wr (o_i2c a) = o_i2c a := cn_i _
theorem cn_l2i (a : Int) : wr (o_l2i a) = o_l2i a := cn_i _
theorem cn_cmp (a b : Int) : wr (p_cmp a b) = p_cmp a b := cn_i _
theorem cl_div (a b : Int) : wl (p_div a b) = p_div a b := cn_l _
theorem cl_rem (a b : Int) : wl (p_rem a b) = p_rem a b := cn_l _
theorem cl_wr (a : Int) : wl (wr a) = wr a := cn_wl (wr_wr a)
theorem wlit (x : Int) (h : -2147483648 ≤ x ∧ x ≤ 2147483647) : wr x = x := wr_id h.1 h.2
theorem llit (x : Int) (h : -9223372036854775808 ≤ x ∧ x ≤ 9223372036854775807) : wl x = x := wl_id h.1 h.2
/-! the store: cells have numbers (in the order in which they were made); a cell has integers and references at places, a kind, a length -/
abbrev st_S : Type := (Nat → Nat → Int) × (Nat → Nat → Option Nat) × (Nat → Nat) × (Nat → Nat) × Nat
def gI (σ : st_S) (c j : Nat) : Int := σ.1 c j
def gR (σ : st_S) (c j : Nat) : Option Nat := σ.2.1 c j
def gK (σ : st_S) (c : Nat) : Nat := σ.2.2.1 c
def gL (σ : st_S) (c : Nat) : Nat := σ.2.2.2.1 c
def gN (σ : st_S) : Nat := σ.2.2.2.2
def sI (σ : st_S) (c j : Nat) (v : Int) : st_S := (fun c' j' => if c' = c ∧ j' = j then v else σ.1 c' j', σ.2)
def sR (σ : st_S) (c j : Nat) (v : Option Nat) : st_S := (σ.1, (fun c' j' => if c' = c ∧ j' = j then v else σ.2.1 c' j'), σ.2.2)
/-- a cell's integers anew -/
def sF (σ : st_S) (c : Nat) (f : Nat → Int) : st_S := (fun c' j' => if c' = c then f j' else σ.1 c' j', σ.2)
/-- a new cell -/
def sA (σ : st_S) (k len : Nat) : st_S := (fun c' j' => if c' = gN σ then 0 else σ.1 c' j', (fun c' j' => if c' = gN σ then none else σ.2.1 c' j'), (fun c' => if c' = gN σ then k else σ.2.2.1 c'), (fun c' => if c' = gN σ then len else σ.2.2.2.1 c'), gN σ + 1)
/-- an object is finished: its kind is another -/
def sK (σ : st_S) (c k : Nat) : st_S := (σ.1, σ.2.1, (fun c' => if c' = c then k else σ.2.2.1 c'), σ.2.2.2)
theorem gI_sI (σ : st_S) (c j : Nat) (v : Int) (c' j' : Nat) : gI (sI σ c j v) c' j' = if c' = c ∧ j' = j then v else gI σ c' j' := rfl
theorem gI_sF (σ : st_S) (c : Nat) (f : Nat → Int) (c' j' : Nat) : gI (sF σ c f) c' j' = if c' = c then f j' else gI σ c' j' := rfl
theorem gR_sI (σ : st_S) (c j : Nat) (v : Int) (c' j' : Nat) : gR (sI σ c j v) c' j' = gR σ c' j' := rfl
theorem gK_sI (σ : st_S) (c j : Nat) (v : Int) (c' : Nat) : gK (sI σ c j v) c' = gK σ c' := rfl
theorem gL_sI (σ : st_S) (c j : Nat) (v : Int) (c' : Nat) : gL (sI σ c j v) c' = gL σ c' := rfl
theorem gN_sI (σ : st_S) (c j : Nat) (v : Int) : gN (sI σ c j v) = gN σ := rfl
theorem gI_sR (σ : st_S) (c j : Nat) (v : Option Nat) (c' j' : Nat) : gI (sR σ c j v) c' j' = gI σ c' j' := rfl
theorem gR_sR (σ : st_S) (c j : Nat) (v : Option Nat) (c' j' : Nat) : gR (sR σ c j v) c' j' = if c' = c ∧ j' = j then v else gR σ c' j' := rfl
theorem gK_sR (σ : st_S) (c j : Nat) (v : Option Nat) (c' : Nat) : gK (sR σ c j v) c' = gK σ c' := rfl
theorem gL_sR (σ : st_S) (c j : Nat) (v : Option Nat) (c' : Nat) : gL (sR σ c j v) c' = gL σ c' := rfl
theorem gN_sR (σ : st_S) (c j : Nat) (v : Option Nat) : gN (sR σ c j v) = gN σ := rfl
theorem gR_sF (σ : st_S) (c : Nat) (f : Nat → Int) (c' j' : Nat) : gR (sF σ c f) c' j' = gR σ c' j' := rfl
theorem gK_sF (σ : st_S) (c : Nat) (f : Nat → Int) (c' : Nat) : gK (sF σ c f) c' = gK σ c' := rfl
theorem gL_sF (σ : st_S) (c : Nat) (f : Nat → Int) (c' : Nat) : gL (sF σ c f) c' = gL σ c' := rfl
theorem gN_sF (σ : st_S) (c : Nat) (f : Nat → Int) : gN (sF σ c f) = gN σ := rfl
/-! what stands fixed of the object graph: kinds: 0 int[], 1 long[], 2 byte[], 3 boolean[], 4 Text[], 5 Coast[], 16 + k a finished object of class k, 32 + k one in the making, 99 none -/
def ftT : List (List Nat) := [[3, 0, 3], [0, 3, 3, 3, 3, 3, 3, 3, 3, 3, 0, 0, 0, 0, 0], [3, 3, 3], [3, 3], [0, 0, 3], [0, 0, 3, 3, 3, 3, 3, 3, 3, 3, 3, 3, 3, 0, 0, 0, 0], [3, 0, 3, 0, 2, 0, 0, 0, 0, 0], [0, 3, 3, 3], [0, 3, 3, 3, 3, 3, 3, 3, 3, 3, 0, 0, 0, 0, 2, 2, 2], [3, 3, 3, 3, 3, 3, 0, 0], [3, 3, 3, 3, 3, 3, 3, 3, 3, 3, 3, 3, 0, 0, 0, 3], [0, 3, 3, 3, 3, 3, 0, 3, 0, 0, 2, 3, 3, 0, 0, 3, 3, 3, 0, 0, 0, 0, 0, 0, 2, 3, 3, 3, 0, 3, 3, 3, 3, 3, 0, 0, 3, 3, 3, 3, 3, 0, 0, 0, 0, 0, 2, 2, 1, 3, 0, 0]]
def ft (k j : Nat) : Nat := (ftT.getD k []).getD j 0
def nf (k : Nat) : Nat := (ftT.getD k []).length
/-- where a finished object's fixed reference at place j goes: (1, d): d cells behind it; (2, c): cell c -/
def srT : List (List (Nat × Nat)) := [[(1, 1), (0, 0), (1, 2)], [(0, 0), (1, 1), (1, 2), (1, 3), (1, 4), (1, 5), (1, 6), (1, 7), (1, 8), (1, 9), (0, 0), (0, 0), (0, 0), (0, 0), (0, 0)], [(2, 25), (2, 35), (2, 39)], [(2, 25), (2, 36)], [(0, 0), (0, 0), (1, 1)], [(0, 0), (0, 0), (2, 25), (2, 35), (2, 43), (2, 44), (2, 45), (2, 46), (2, 47), (2, 48), (2, 49), (2, 50), (2, 51), (0, 0), (0, 0), (0, 0), (0, 0)], [(2, 13), (0, 0), (2, 14), (0, 0), (0, 0), (0, 0), (0, 0), (0, 0), (0, 0), (0, 0)], [(0, 0), (2, 25), (2, 41), (2, 53)], [(0, 0), (2, 42), (2, 57), (2, 58), (2, 59), (2, 60), (2, 61), (2, 62), (0, 0), (0, 0), (0, 0), (0, 0), (0, 0), (0, 0), (0, 0), (0, 0), (0, 0)], [(1, 1), (1, 2), (1, 3), (1, 4), (1, 5), (1, 6), (0, 0), (0, 0)], [(2, 25), (2, 1), (2, 11), (2, 12), (2, 35), (2, 39), (2, 21), (2, 41), (2, 52), (2, 42), (2, 56), (2, 23), (0, 0), (0, 0), (0, 0), (2, 24)], [(0, 0), (1, 1), (1, 2), (1, 3), (1, 4), (1, 5), (0, 0), (1, 6), (0, 0), (0, 0), (0, 0), (1, 7), (1, 8), (0, 0), (0, 0), (1, 9), (1, 10), (1, 11), (0, 0), (0, 0), (0, 0), (0, 0), (0, 0), (0, 0), (0, 0), (1, 12), (1, 13), (1, 14), (0, 0), (1, 15), (1, 16), (1, 17), (1, 18), (1, 19), (0, 0), (0, 0), (1, 20), (1, 21), (1, 22), (1, 23), (1, 24), (0, 0), (0, 0), (0, 0), (0, 0), (0, 0), (0, 0), (0, 0), (0, 0), (1, 25), (0, 0), (0, 0)]]
def srf (k c j : Nat) : Option Nat := match (srT.getD k []).getD j (0, 0) with
  | (1, d) => some (c + d)
  | (2, d) => some d
  | _ => none
/-- kinds and lengths of the cells behind an object of a class -/
def sbT : List (List (Nat × Option Nat)) := [[(16, none), (0, some 25), (0, some 64)], [(17, none), (0, some 10), (0, some 10), (0, some 10), (0, some 10), (0, some 10), (0, some 10), (0, some 100), (0, some 3), (4, some 6)], [], [], [(20, none), (0, some 560)], [], [], [], [], [(25, none), (0, none), (0, none), (0, none), (0, none), (0, none), (0, none)], [], []]
def sbf (k j : Nat) : Option (Nat × Option Nat) := (sbT.getD k [])[j]?
/-- the fixed cells of a mode (1: the class's, 2: the reference's, else none): kind, length -/
def skT : Nat → List (Nat × Nat)
  | 1 => [(26, 0), (17, 0), (0, 10), (0, 10), (0, 10), (0, 10), (0, 10), (0, 10), (0, 100), (0, 3), (4, 6), (5, 2), (22, 0), (0, 400), (25, 0), (0, 400), (0, 12), (0, 12), (0, 12), (0, 12), (0, 12), (20, 0), (0, 560), (0, 60), (0, 7), (17, 0), (0, 10), (0, 10), (0, 10), (0, 10), (0, 10), (0, 10), (0, 100), (0, 3), (4, 6), (19, 0), (16, 0), (0, 25), (0, 64), (20, 0), (0, 560), (18, 0), (21, 0), (0, 10), (0, 10), (0, 10), (0, 10), (0, 10), (0, 10), (0, 10), (0, 10), (0, 2100), (23, 0), (16, 0), (0, 25), (0, 64), (24, 0), (0, 1024), (0, 1024), (0, 5120), (0, 10), (0, 10), (0, 10), (1, 1024), (1, 1024)]
  | 2 => [(27, 0), (0, 7), (0, 5866), (0, 11732), (3, 2), (0, 34), (2, 153), (2, 400), (0, 5), (0, 401), (0, 401), (0, 401), (0, 10), (0, 560), (0, 560), (0, 10), (0, 100), (2, 330), (0, 10), (2, 11264), (0, 11264), (1, 11264), (0, 10), (3, 11264), (2, 180224), (0, 60)]
  | _ => []
/-- the world's numbers: classes' and fields' numbers, array classes, addresses of cells, how much the heap has beside them, which addresses are its own, the mode, addresses of the text constants and of their bytes -/
abbrev ev_E : Type := va_G × (Nat → ClassId) × (Nat → Nat) × Nat × (Nat → Prop) × Nat × (Nat → Nat) × (Nat → Nat)
def eD (E : ev_E) : va_G := E.1
def eC (E : ev_E) : Nat → ClassId := E.2.1
def ea (E : ev_E) : Nat → Nat := E.2.2.1
def eo (E : ev_E) : Nat := E.2.2.2.1
def eF (E : ev_E) : Nat → Prop := E.2.2.2.2.1
def eM (E : ev_E) : Nat := E.2.2.2.2.2.1
def eK (E : ev_E) : Nat → Nat := E.2.2.2.2.2.2.1
def eV (E : ev_E) : Nat → Nat := E.2.2.2.2.2.2.2
def vI (x : Int) : Value := .int (iI x)
def vL (x : Int) : Value := .long (jI x)
def vR (E : ev_E) (c : Nat) : Value := .ref (ea E c)
def vO (E : ev_E) (o : Option Nat) : Value := va_rf (o.map (ea E))
def vS (E : ev_E) (k : Nat) : Value := .ref (eK E k)
def fld (E : ev_E) (σ : st_S) (c k j : Nat) : Value := match ft k j with
  | 0 => vI (gI σ c j)
  | 1 => vL (gI σ c j)
  | 2 => vI (gI σ c j)
  | _ => vO E (gR σ c j)
def ent (E : ev_E) (σ : st_S) (c : Nat) : va_E := match gK σ c with
  | 0 => .inl (eC E 0, gL σ c, .inl (fun j => iI (gI σ c j)))
  | 1 => .inl (eC E 1, gL σ c, .inr (.inl (fun j => jI (gI σ c j))))
  | 2 => .inl (eC E 2, gL σ c, .inl (fun j => iI (gI σ c j)))
  | 3 => .inl (eC E 3, gL σ c, .inl (fun j => iI (gI σ c j)))
  | 4 => .inl (eC E 4, gL σ c, .inr (.inr (.inr (.inr (fun j => (gR σ c j).map (ea E))))))
  | 5 => .inl (eC E 5, gL σ c, .inr (.inr (.inr (.inr (fun j => (gR σ c j).map (ea E))))))
  | k => .inr (k % 16, (List.range (nf (k % 16))).map (fld E σ c (k % 16)))
def wsE (E : ev_E) (σ : st_S) : va_W := (List.range (gN σ)).map (fun c => (ea E c, ent E σ c))
def eT (E : ev_E) : List (ClassId × FieldType) := [(eC E 0, .int), (eC E 1, .long), (eC E 2, .byte), (eC E 3, .boolean), (eC E 4, .object RX9), (eC E 5, .object RX1)]
/-- places of longs -/
def nl (σ : st_S) (c j : Nat) : Prop := gK σ c = 1 ∨ ((gK σ c = 27 ∨ gK σ c = 43) ∧ j = 48)
def Cn (σ : st_S) : Prop := (∀ c j, wl (gI σ c j) = gI σ c j) ∧ ∀ c j, nl σ c j ∨ wr (gI σ c j) = gI σ c j
/-- what stands fixed -/
def Sv (E : ev_E) (σ : st_S) : Prop := Cn σ ∧ (∀ c, gN σ ≤ c → gK σ c = 99) ∧ (∀ c q, (skT (eM E))[c]? = some q → gK σ c = q.1 ∧ gL σ c = q.2) ∧
  (∀ c k j c', k < 12 → gK σ c = 16 + k → srf k c j = some c' → gR σ c j = some c') ∧ ∀ c k j q, k < 12 → gK σ c = 16 + k → sbf k j = some q → gK σ (c + j) = q.1 ∧ ∀ L, q.2 = some L → gL σ (c + j) = L
def Rep (E : ev_E) (σ : st_S) (H : Heap) : Prop := va_P (eD E) clss (wsE E σ) H ∧ Sv E σ ∧ H.size = eo E + gN σ
theorem wsE_at (E : ev_E) {σ : st_S} {c : Nat} (h : c < gN σ) : (wsE E σ)[c]? = some (ea E c, ent E σ c) := by
  simp [wsE, h]
theorem wsE_len (E : ev_E) (σ : st_S) : (wsE E σ).length = gN σ := by simp [wsE]
theorem sv_lt {E : ev_E} {σ : st_S} (h : Sv E σ) {c k : Nat} (hk : gK σ c = k) (h9 : k ≠ 99) : c < gN σ := by
  rcases Nat.lt_or_ge c (gN σ) with q | q
  · exact q
  · exact absurd ((h.2.1 c q).symm.trans hk).symm h9
/-- a store in one cell -/
theorem wsE_put {E : ev_E} {σ σ' : st_S} {c : Nat} (hc : c < gN σ) (hn : gN σ' = gN σ) (h : ∀ c', c' ≠ c → ent E σ' c' = ent E σ c') : wsE E σ' = (wsE E σ).set c (ea E c, ent E σ' c) := by
  apply List.ext_getElem?
  intro i
  rcases Nat.lt_or_ge i (gN σ) with q | q
  · rw [wsE_at E (by rw [hn]; exact q), List.getElem?_set]
    by_cases e : c = i
    · subst e
      simp [wsE_len, hc]
    · rw [if_neg e, wsE_at E q, h i (fun e' => e e'.symm)]
  · rw [List.getElem?_eq_none (by rw [wsE_len, hn]; exact q), List.getElem?_eq_none (by rw [List.length_set, wsE_len]; exact q)]
theorem wsE_new {E : ev_E} {σ σ' : st_S} (hn : gN σ' = gN σ + 1) (h : ∀ c', c' < gN σ → ent E σ' c' = ent E σ c') : wsE E σ' = wsE E σ ++ [(ea E (gN σ), ent E σ' (gN σ))] := by
  unfold wsE
  rw [hn, List.range_succ, List.map_append]
  congr 1
  apply List.map_congr_left
  intro c hc
  rw [h c (List.mem_range.mp hc)]
def Eok (E : ev_E) : Prop := (∀ c c', ea E c = ea E c' → c = c') ∧ ∀ c, eF E (ea E c)
theorem wsE_D {E : ev_E} (hE : Eok E) (σ : st_S) : va_D (eF E) (wsE E σ) := by
  have key : ∀ (k : Nat) (q : Nat × va_E), (wsE E σ)[k]? = some q → q.1 = ea E k := by
    intro k q hq
    have hk : k < gN σ := by
      have := (List.getElem?_eq_some_iff.mp hq).1
      rwa [wsE_len] at this
    rw [wsE_at E hk] at hq
    cases hq
    rfl
  refine ⟨fun i j p q hp hq e => ?_, fun k q hq => ?_⟩
  · rw [key i p hp, key j q hq] at e
    exact hE.1 _ _ e
  · rw [key k q hq]
    exact hE.2 k
theorem sv_same {E : ev_E} {σ σ' : st_S} (h : Sv E σ) (hC : Cn σ') (hk : ∀ c, gK σ' c = gK σ c) (hl : ∀ c, gL σ' c = gL σ c) (hn : gN σ' = gN σ) (hr : ∀ c k j c', k < 12 → gK σ c = 16 + k → srf k c j = some c' → gR σ' c j = gR σ c j) : Sv E σ' := by
  refine ⟨hC, fun c hc => by rw [hk]; exact h.2.1 c (by rw [← hn]; exact hc), fun c q hq => by rw [hk, hl]; exact h.2.2.1 c q hq, fun c k j c' h0 h1 h2 => ?_, fun c k j q h0 h1 h2 => ?_⟩
  · rw [hk] at h1
    rw [hr c k j c' h0 h1 h2]
    exact h.2.2.2.1 c k j c' h0 h1 h2
  · rw [hk] at h1
    rw [hk, hl]
    exact h.2.2.2.2 c k j q h0 h1 h2
theorem cn_sI {σ : st_S} (h : Cn σ) (c j : Nat) {v : Int} (h1 : wl v = v) (h2 : nl σ c j ∨ wr v = v) : Cn (sI σ c j v) := by
  refine ⟨fun c' j' => ?_, fun c' j' => ?_⟩
  · rw [gI_sI]
    split
    · exact h1
    · exact h.1 c' j'
  · rw [gI_sI]
    split
    · rename_i q
      obtain ⟨rfl, rfl⟩ := q
      exact h2
    · exact h.2 c' j'
theorem cn_sF {σ : st_S} (h : Cn σ) (c : Nat) {f : Nat → Int} (h1 : ∀ j, wl (f j) = f j) (h2 : ∀ j, nl σ c j ∨ wr (f j) = f j) : Cn (sF σ c f) := by
  refine ⟨fun c' j' => ?_, fun c' j' => ?_⟩
  · rw [gI_sF]
    split
    · exact h1 j'
    · exact h.1 c' j'
  · rw [gI_sF]
    split
    · rename_i q
      subst q
      exact h2 j'
    · exact h.2 c' j'
theorem sv_cn {E : ev_E} {σ : st_S} (h : Sv E σ) {c j k : Nat} (hk : gK σ c = k) (h1 : k ≠ 1) (h2 : (k = 27 ∨ k = 43) → j ≠ 48) : wr (gI σ c j) = gI σ c j := by
  rcases h.1.2 c j with (q | ⟨q, q'⟩) | q
  · exact absurd (hk.symm.trans q) h1
  · rw [hk] at q
    exact absurd q' (h2 q)
  · exact q
theorem sv_k {E : ev_E} {σ : st_S} {m c kd len : Nat} (hv : Sv E σ) (hm : eM E = m) (hq : (skT m)[c]? = some (kd, len)) : gK σ c = kd := (hv.2.2.1 c (kd, len) (by rw [hm]; exact hq)).1
theorem sv_kl {E : ev_E} {σ : st_S} {m c kd len : Nat} (hv : Sv E σ) (hm : eM E = m) (hq : (skT m)[c]? = some (kd, len)) : gK σ c = kd ∧ gL σ c = len := hv.2.2.1 c (kd, len) (by rw [hm]; exact hq)
theorem sv_b {E : ev_E} {σ : st_S} {c k j kd len : Nat} (hv : Sv E σ) (h : gK σ c = 16 + k) (hk : k < 12) (hq : sbf k j = some (kd, some len)) : gK σ (c + j) = kd ∧ gL σ (c + j) = len := ⟨(hv.2.2.2.2 c k j _ hk h hq).1, (hv.2.2.2.2 c k j _ hk h hq).2 len rfl⟩
theorem sv_bn {E : ev_E} {σ : st_S} {c k j kd : Nat} (hv : Sv E σ) (h : gK σ c = 16 + k) (hk : k < 12) (hq : sbf k j = some (kd, none)) : gK σ (c + j) = kd ∧ gL σ (c + j) = gL σ (c + j) := ⟨(hv.2.2.2.2 c k j _ hk h hq).1, rfl⟩
theorem ent_k0 {E : ev_E} {σ : st_S} {c : Nat} (h : gK σ c = 0) : ent E σ c = .inl (eC E 0, gL σ c, .inl (fun j => iI (gI σ c j))) := by unfold ent; rw [h]; rfl
theorem ent_k1 {E : ev_E} {σ : st_S} {c : Nat} (h : gK σ c = 1) : ent E σ c = .inl (eC E 1, gL σ c, .inr (.inl (fun j => jI (gI σ c j)))) := by unfold ent; rw [h]; rfl
theorem ent_k2 {E : ev_E} {σ : st_S} {c : Nat} (h : gK σ c = 2) : ent E σ c = .inl (eC E 2, gL σ c, .inl (fun j => iI (gI σ c j))) := by unfold ent; rw [h]; rfl
theorem ent_k3 {E : ev_E} {σ : st_S} {c : Nat} (h : gK σ c = 3) : ent E σ c = .inl (eC E 3, gL σ c, .inl (fun j => iI (gI σ c j))) := by unfold ent; rw [h]; rfl
theorem ent_k4 {E : ev_E} {σ : st_S} {c : Nat} (h : gK σ c = 4) : ent E σ c = .inl (eC E 4, gL σ c, .inr (.inr (.inr (.inr (fun j => (gR σ c j).map (ea E)))))) := by unfold ent; rw [h]; rfl
theorem ent_k5 {E : ev_E} {σ : st_S} {c : Nat} (h : gK σ c = 5) : ent E σ c = .inl (eC E 5, gL σ c, .inr (.inr (.inr (.inr (fun j => (gR σ c j).map (ea E)))))) := by unfold ent; rw [h]; rfl
/-- an object of class k, finished or in the making -/
def isO (σ : st_S) (c k : Nat) : Prop := gK σ c = 16 + k ∨ gK σ c = 32 + k
theorem ent_o {E : ev_E} {σ : st_S} {c k : Nat} (hk : k < 16) (h : isO σ c k) : ent E σ c = .inr (k, (List.range (nf k)).map (fld E σ c k)) := by
  have key : ∀ n : Nat, 6 ≤ n → gK σ c = n → ent E σ c = .inr (n % 16, (List.range (nf (n % 16))).map (fld E σ c (n % 16))) := by
    intro n h6 hn
    unfold ent
    rw [hn]
    match n, h6 with
    | 0, h6 => omega
    | 1, h6 => omega
    | 2, h6 => omega
    | 3, h6 => omega
    | 4, h6 => omega
    | 5, h6 => omega
    | n + 6, _ => rfl
  rcases h with h | h
  · rw [key _ (by omega) h, show (16 + k) % 16 = k by omega]
  · rw [key _ (by omega) h, show (32 + k) % 16 = k by omega]
/-! the judgement: the machine at a place of a method, over a store -/
abbrev jj_X : Type := Program × Launch × Env × Room × State × MethodId × Array Value × List Frame × Method × Code
def xR (X : jj_X) : Room := X.2.2.2.1
def xS (X : jj_X) : State := X.2.2.2.2.1
def xM (X : jj_X) : MethodId := X.2.2.2.2.2.1
def xA (X : jj_X) : Array Value := X.2.2.2.2.2.2.1
def xB (X : jj_X) : List Frame := X.2.2.2.2.2.2.2.1
def xT (X : jj_X) : Method := X.2.2.2.2.2.2.2.2.1
def xC (X : jj_X) : Code := X.2.2.2.2.2.2.2.2.2
abbrev jW (X : jj_X) (H : Heap) (locs : List Loc) (cells slots : Nat) (Q : State → Prop) (g : JFrame) : Prop := W X.1 X.2.1 X.2.2.1 (xR X) (xS X) (xM X) (xA X) (xB X) (xT X) (xC X) H locs cells slots Q g
def J (X : jj_X) (E : ev_E) (nL n0 cells slots : Nat) (Q : State → Prop) (σ : st_S) (pc : Nat) (lv : List (Nat × Value)) (st : List Value) : Prop :=
  ∀ (H : Heap) (locs : List Loc) (ls : Array Slot), lv_has ls nL lv → Rep E σ H → va_S (eF E) (xS X).heap H locs → gN σ = n0 + cells → jW X H locs cells slots Q (F0 (xM X) pc ls st)
/-- the texts' constants -/
def sLen : List Nat := [30, 52, 15, 36, 5, 2, 3, 2, 3, 3, 2, 3]
def sByt : List (List Int32) := [[116, 97, 107, 101, 115, 32, 99, 111, 115, 116, 115, 32, 108, 111, 100, 103, 101, 115, 32, 115, 112, 111, 105, 108, 115, 32, 98, 97, 114, 115], [112, 101, 114, 115, 111, 110, 32, 114, 111, 97, 100, 32, 108, 97, 110, 100, 32, 104, 101, 97, 114, 100, 32, 111, 116, 104, 101, 114, 32, 116, 104, 101, 105, 114, 115, 32, 102, 97, 114, 32, 100, 97, 121, 32, 102, 111, 103, 32, 109, 111, 111, 100], [115, 101, 110, 100, 32, 108, 105, 103, 104, 116, 32, 100, 97, 114, 107], [100, 97, 121, 32, 108, 105, 116, 32, 110, 105, 103, 104, 116, 115, 32, 100, 111, 110, 101, 32, 115, 112, 101, 110, 116, 32, 119, 111, 114, 116, 104, 32, 104, 101, 114, 101], [116, 105, 109, 101, 115], [105, 102], [110, 111, 116], [111, 114], [97, 110, 100], [60, 62, 61], [43, 45], [42, 47, 37]]
def sNum : Nat := 12
def sOwn : List (String × Nat × String) := [("LitStrangers$Reader", 66, "takes costs lodges spoils bars"), ("LitStrangers$Reader", 147, "person road land heard other theirs far day fog mood"), ("LitStrangers$Reader", 64, "send light dark"), ("LitStrangers$Reader", 145, "day lit nights done spent worth here"), ("LitStrangers$Reader", 88, "times"), ("LitStrangers$Reader", 96, "if"), ("LitStrangers$Reader", 125, "not"), ("LitStrangers$Reader", 152, "or"), ("LitStrangers$Reader", 154, "and"), ("LitStrangers$Reader", 134, "<>="), ("LitStrangers$Reader", 156, "+-"), ("LitStrangers$Reader", 158, "*/%")]
/-- words of the tables that a callee must be handed one by one -/
def nestW : List Cond := [.methodLinkNest RX10 22 ⟨RX6, "<init>", "()V"⟩ RX10, .methodLinkNest RX10 29 ⟨RX4, "<init>", "()V"⟩ RX10, .methodLinkNest RX3 11 ⟨RX0, "<init>", "()V"⟩ RX10, .methodLinkNest RX7 17 ⟨RX0, "<init>", "()V"⟩ RX10]
def Exw (U : State) : Prop := va_AO RX9 U ∧ va_AO RX1 U ∧ va_Nw (.castable "[I" "java/lang/Cloneable") U ∧ ∀ a i x h, Cond.methodLinkNest a i x h ∈ nestW → va_Nw (.methodLinkNest a i x h) U
def Str (E : ev_E) (U : State) : Prop := vk_S sNum sLen sByt (eK E) (eV E) (eF E) U U.heap ∧ (∀ k q, sOwn[k]? = some q → vk_R q.1 q.2.1 q.2.2 (eK E k) U) ∧ va_Z "java/lang/String" "COMPACT_STRINGS" "Z" (.int 1) (eF E) U U.heap ∧ va_Zq "jdk/internal/util/Preconditions" "SIOOBE_FORMATTER" "Ljava/util/function/BiFunction;" (eF E) U U.heap ∧ Exw U
/-- a method's own facts: its code, its class, the tables' words, the classes' numbers, the heap's size at its entry, its height -/
def Cx (X : jj_X) (E : ev_E) (cc : ByteArray) (nL n0 h : Nat) (own : String) : Prop :=
  X.1.tables.exec = Jvm.exec ∧ (xC X).code = cc ∧ (xC X).maxLocals = nL ∧ (xS X).vm.findClass own = some (xM X).cls ∧ (∀ w ∈ Tb, w.before (xA X) (xS X) = true) ∧ (xT X).locks = false ∧ va_K (eD E) clss (eT E) (xS X) ∧
  (xS X).heap.size = eo E + n0 ∧ Eok E ∧ 2 * h ≤ (xR X).frames ∧ 64 * h ≤ (xR X).locals ∧ Str E (xS X)
section JJ
variable {X : jj_X} {E : ev_E} {cc : ByteArray} {nL n0 h cells slots pc : Nat} {own : String} {Q : State → Prop} {σ : st_S} {lv lv' : List (Nat × Value)} {st : List Value}
theorem cx_x (hc : Cx X E cc nL n0 h own) : X.1.tables.exec = Jvm.exec := hc.1
theorem cx_b (hc : Cx X E cc nL n0 h own) : (xC X).code = cc := hc.2.1
theorem cx_l (hc : Cx X E cc nL n0 h own) : (xC X).maxLocals = nL := hc.2.2.1
theorem cx_o (hc : Cx X E cc nL n0 h own) : (xS X).vm.findClass own = some (xM X).cls := hc.2.2.2.1
theorem cx_t (hc : Cx X E cc nL n0 h own) : ∀ w ∈ Tb, w.before (xA X) (xS X) = true := hc.2.2.2.2.1
theorem cx_lk (hc : Cx X E cc nL n0 h own) : (xT X).locks = false := hc.2.2.2.2.2.1
theorem cx_K (hc : Cx X E cc nL n0 h own) : va_K (eD E) clss (eT E) (xS X) := hc.2.2.2.2.2.2.1
theorem cx_z (hc : Cx X E cc nL n0 h own) : (xS X).heap.size = eo E + n0 := hc.2.2.2.2.2.2.2.1
theorem cx_E (hc : Cx X E cc nL n0 h own) : Eok E := hc.2.2.2.2.2.2.2.2.1
theorem cx_f (hc : Cx X E cc nL n0 h own) : 2 * h ≤ (xR X).frames := hc.2.2.2.2.2.2.2.2.2.1
theorem cx_w (hc : Cx X E cc nL n0 h own) : 64 * h ≤ (xR X).locals := hc.2.2.2.2.2.2.2.2.2.2.1
theorem cx_s (hc : Cx X E cc nL n0 h own) : Str E (xS X) := hc.2.2.2.2.2.2.2.2.2.2.2
theorem j_sub (ks : List Nat) (hp : lv_pick lv ks = lv') (k : J X E nL n0 cells slots Q σ pc lv' st) : J X E nL n0 cells slots Q σ pc lv st := fun H locs ls hl => k H locs ls (lv_sub hl ks hp)
theorem j_nm {x : Int} (k : ∀ y : Int, y = x → J X E nL n0 cells slots Q σ pc lv (vI y :: st)) : J X E nL n0 cells slots Q σ pc lv (vI x :: st) := k x rfl
theorem j_nml {x : Int} (k : ∀ y : Int, y = x → J X E nL n0 cells slots Q σ pc lv (vL y :: st)) : J X E nL n0 cells slots Q σ pc lv (vL x :: st) := k x rfl
theorem j_nmo {x : Option Nat} (k : ∀ y : Option Nat, y = x → J X E nL n0 cells slots Q σ pc lv (vO E y :: st)) : J X E nL n0 cells slots Q σ pc lv (vO E x :: st) := k x rfl
theorem j_nms (k : ∀ τ : st_S, τ = σ → J X E nL n0 cells slots Q τ pc lv st) : J X E nL n0 cells slots Q σ pc lv st := k σ rfl
theorem j_some {x : Option Nat} {c : Nat} (h : x = some c) (k : J X E nL n0 cells slots Q σ pc lv (vR E c :: st)) : J X E nL n0 cells slots Q σ pc lv (vO E x :: st) := by subst h; exact k
-- constants
theorem j_iconst (hc : Cx X E cc nL n0 h own) {n : Int} (hd : decode cc pc = .ok (.iconst n, 1)) (k : J X E nL n0 cells slots Q σ (pc + 1) lv (vI n :: st)) : J X E nL n0 cells slots Q σ pc lv st :=
  fun H locs ls hl hR hS hn => lv_iconst (cx_x hc) (cx_b hc) hd rfl (k H locs ls hl hR hS hn)
theorem j_bipush (hc : Cx X E cc nL n0 h own) {n : Int} (hd : decode cc pc = .ok (.bipush n, 2)) (hv : (Int8.ofInt n).toInt32 = iI n) (k : J X E nL n0 cells slots Q σ (pc + 2) lv (vI n :: st)) : J X E nL n0 cells slots Q σ pc lv st :=
  fun H locs ls hl hR hS hn => lv_bipush (cx_x hc) (cx_b hc) hd hv (k H locs ls hl hR hS hn)
theorem j_sipush (hc : Cx X E cc nL n0 h own) {n : Int} (hd : decode cc pc = .ok (.sipush n, 3)) (hv : (Int16.ofInt n).toInt32 = iI n) (k : J X E nL n0 cells slots Q σ (pc + 3) lv (vI n :: st)) : J X E nL n0 cells slots Q σ pc lv st :=
  fun H locs ls hl hR hS hn => lv_sipush (cx_x hc) (cx_b hc) hd hv (k H locs ls hl hR hS hn)
theorem j_lconst (hc : Cx X E cc nL n0 h own) {n : Fin 2} {x : Int} (hd : decode cc pc = .ok (.lconst n, 1)) (hv : Int64.ofNat (n : Nat) = jI x) (k : J X E nL n0 cells slots Q σ (pc + 1) lv (vL x :: st)) : J X E nL n0 cells slots Q σ pc lv st :=
  fun H locs ls hl hR hS hn => lv_lconst (cx_x hc) (cx_b hc) hd hv (k H locs ls hl hR hS hn)
theorem j_ldc (hc : Cx X E cc nL n0 h own) {i : Nat} {x : Int} {v : Int32} (hv : v = iI x) (hm : Cond.constant own i v ∈ Tb) (hd : decode cc pc = .ok (.ldc i, 2)) (k : J X E nL n0 cells slots Q σ (pc + 2) lv (vI x :: st)) : J X E nL n0 cells slots Q σ pc lv st :=
  fun H locs ls hl hR hS hn => lv_ldc (cx_x hc) (cx_b hc) (cx_o hc) (cx_t hc _ hm) hd (by subst hv; exact k H locs ls hl hR hS hn)
theorem j_ldcw (hc : Cx X E cc nL n0 h own) {i : Nat} {x : Int} {v : Int32} (hv : v = iI x) (hm : Cond.constant own i v ∈ Tb) (hd : decode cc pc = .ok (.ldc_w i, 3)) (k : J X E nL n0 cells slots Q σ (pc + 3) lv (vI x :: st)) : J X E nL n0 cells slots Q σ pc lv st :=
  fun H locs ls hl hR hS hn => lv_ldcw (cx_x hc) (cx_b hc) (cx_o hc) (cx_t hc _ hm) hd (by subst hv; exact k H locs ls hl hR hS hn)
theorem j_ldc2 (hc : Cx X E cc nL n0 h own) {i : Nat} {x : Int} {v : Int64} (hv : v = jI x) (hm : Cond.constantLong own i v ∈ Tb) (hd : decode cc pc = .ok (.ldc2_w i, 3)) (k : J X E nL n0 cells slots Q σ (pc + 3) lv (vL x :: st)) : J X E nL n0 cells slots Q σ pc lv st :=
  fun H locs ls hl hR hS hn => lv_ldc2 (cx_x hc) (cx_b hc) (cx_o hc) (cx_t hc _ hm) hd (by subst hv; exact k H locs ls hl hR hS hn)
-- locals
theorem j_iload_n (hc : Cx X E cc nL n0 h own) {k : Fin 4} {i : Nat} {x : Int} (q : Nat) (hd : decode cc pc = .ok (.iload_n k, 1)) (hi : (k : Nat) = i) (hq : lv[q]? = some (i, vI x)) (kk : J X E nL n0 cells slots Q σ (pc + 1) lv (vI x :: st)) : J X E nL n0 cells slots Q σ pc lv st :=
  fun H locs ls hl hR hS hn => lv_iload_n (cx_x hc) (cx_b hc) hd hi (lv_at hl q hq) (kk H locs ls hl hR hS hn)
theorem j_iload (hc : Cx X E cc nL n0 h own) {i : Nat} {x : Int} (q : Nat) (hd : decode cc pc = .ok (.iload i, 2)) (hq : lv[q]? = some (i, vI x)) (kk : J X E nL n0 cells slots Q σ (pc + 2) lv (vI x :: st)) : J X E nL n0 cells slots Q σ pc lv st :=
  fun H locs ls hl hR hS hn => lv_iload (cx_x hc) (cx_b hc) hd (lv_at hl q hq) (kk H locs ls hl hR hS hn)
theorem j_lload_n (hc : Cx X E cc nL n0 h own) {k : Fin 4} {i : Nat} {x : Int} (q : Nat) (hd : decode cc pc = .ok (.lload_n k, 1)) (hi : (k : Nat) = i) (hq : lv[q]? = some (i, vL x)) (kk : J X E nL n0 cells slots Q σ (pc + 1) lv (vL x :: st)) : J X E nL n0 cells slots Q σ pc lv st :=
  fun H locs ls hl hR hS hn => lv_lload_n (cx_x hc) (cx_b hc) hd hi (lv_at hl q hq) (kk H locs ls hl hR hS hn)
theorem j_lload (hc : Cx X E cc nL n0 h own) {i : Nat} {x : Int} (q : Nat) (hd : decode cc pc = .ok (.lload i, 2)) (hq : lv[q]? = some (i, vL x)) (kk : J X E nL n0 cells slots Q σ (pc + 2) lv (vL x :: st)) : J X E nL n0 cells slots Q σ pc lv st :=
  fun H locs ls hl hR hS hn => lv_lload (cx_x hc) (cx_b hc) hd (lv_at hl q hq) (kk H locs ls hl hR hS hn)
theorem j_aload_n (hc : Cx X E cc nL n0 h own) {k : Fin 4} {i a : Nat} (q : Nat) (hd : decode cc pc = .ok (.aload_n k, 1)) (hi : (k : Nat) = i) (hq : lv[q]? = some (i, .ref a)) (kk : J X E nL n0 cells slots Q σ (pc + 1) lv (.ref a :: st)) : J X E nL n0 cells slots Q σ pc lv st :=
  fun H locs ls hl hR hS hn => lv_aload_n (cx_x hc) (cx_b hc) hd hi (lv_at hl q hq) (kk H locs ls hl hR hS hn)
theorem j_aload_nR (hc : Cx X E cc nL n0 h own) {k : Fin 4} {i a : Nat} (q : Nat) (hd : decode cc pc = .ok (.aload_n k, 1)) (hi : (k : Nat) = i) (hq : lv[q]? = some (i, vR E a)) (kk : J X E nL n0 cells slots Q σ (pc + 1) lv (vR E a :: st)) : J X E nL n0 cells slots Q σ pc lv st := j_aload_n hc q hd hi hq kk
theorem j_aload_nS (hc : Cx X E cc nL n0 h own) {k : Fin 4} {i a : Nat} (q : Nat) (hd : decode cc pc = .ok (.aload_n k, 1)) (hi : (k : Nat) = i) (hq : lv[q]? = some (i, vS E a)) (kk : J X E nL n0 cells slots Q σ (pc + 1) lv (vS E a :: st)) : J X E nL n0 cells slots Q σ pc lv st := j_aload_n hc q hd hi hq kk
theorem j_aload_nV (hc : Cx X E cc nL n0 h own) {k : Fin 4} {i a : Nat} (q : Nat) (hd : decode cc pc = .ok (.aload_n k, 1)) (hi : (k : Nat) = i) (hq : lv[q]? = some (i, .ref a)) (kk : J X E nL n0 cells slots Q σ (pc + 1) lv (.ref a :: st)) : J X E nL n0 cells slots Q σ pc lv st := j_aload_n hc q hd hi hq kk
theorem j_aload (hc : Cx X E cc nL n0 h own) {i a : Nat} (q : Nat) (hd : decode cc pc = .ok (.aload i, 2)) (hq : lv[q]? = some (i, .ref a)) (kk : J X E nL n0 cells slots Q σ (pc + 2) lv (.ref a :: st)) : J X E nL n0 cells slots Q σ pc lv st :=
  fun H locs ls hl hR hS hn => lv_aload (cx_x hc) (cx_b hc) hd (lv_at hl q hq) (kk H locs ls hl hR hS hn)
theorem j_aloadR (hc : Cx X E cc nL n0 h own) {i a : Nat} (q : Nat) (hd : decode cc pc = .ok (.aload i, 2)) (hq : lv[q]? = some (i, vR E a)) (kk : J X E nL n0 cells slots Q σ (pc + 2) lv (vR E a :: st)) : J X E nL n0 cells slots Q σ pc lv st := j_aload hc q hd hq kk
theorem j_istore_n (hc : Cx X E cc nL n0 h own) {k : Fin 4} {i : Nat} {x : Int} (hd : decode cc pc = .ok (.istore_n k, 1)) (hi : (k : Nat) = i) (hnl : i < nL) (hl' : (i, vI x) :: lv.filter (fun q => !(q.1 == i) && !(q.1 + 1 == i && q.2.category == 2)) = lv') (kk : J X E nL n0 cells slots Q σ (pc + 1) lv' st) : J X E nL n0 cells slots Q σ pc lv (vI x :: st) :=
  fun H locs ls hl hR hS hn => lv_istore_n (cx_x hc) (cx_b hc) hd hi hl hnl hl' (fun ls' hl2 => kk H locs ls' hl2 hR hS hn)
theorem j_istore (hc : Cx X E cc nL n0 h own) {i : Nat} {x : Int} (hd : decode cc pc = .ok (.istore i, 2)) (hnl : i < nL) (hl' : (i, vI x) :: lv.filter (fun q => !(q.1 == i) && !(q.1 + 1 == i && q.2.category == 2)) = lv') (kk : J X E nL n0 cells slots Q σ (pc + 2) lv' st) : J X E nL n0 cells slots Q σ pc lv (vI x :: st) :=
  fun H locs ls hl hR hS hn => lv_istore (cx_x hc) (cx_b hc) hd hl hnl hl' (fun ls' hl2 => kk H locs ls' hl2 hR hS hn)
theorem j_lstore_n (hc : Cx X E cc nL n0 h own) {k : Fin 4} {i : Nat} {x : Int} (hd : decode cc pc = .ok (.lstore_n k, 1)) (hi : (k : Nat) = i) (hnl : i + 1 < nL) (hl' : (i, vL x) :: lv.filter (fun q => !(q.1 == i) && (!(q.1 == i + 1) && !(q.1 + 1 == i && q.2.category == 2))) = lv') (kk : J X E nL n0 cells slots Q σ (pc + 1) lv' st) : J X E nL n0 cells slots Q σ pc lv (vL x :: st) :=
  fun H locs ls hl hR hS hn => lv_lstore_n (cx_x hc) (cx_b hc) hd hi hl hnl hl' (fun ls' hl2 => kk H locs ls' hl2 hR hS hn)
theorem j_lstore (hc : Cx X E cc nL n0 h own) {i : Nat} {x : Int} (hd : decode cc pc = .ok (.lstore i, 2)) (hnl : i + 1 < nL) (hl' : (i, vL x) :: lv.filter (fun q => !(q.1 == i) && (!(q.1 == i + 1) && !(q.1 + 1 == i && q.2.category == 2))) = lv') (kk : J X E nL n0 cells slots Q σ (pc + 2) lv' st) : J X E nL n0 cells slots Q σ pc lv (vL x :: st) :=
  fun H locs ls hl hR hS hn => lv_lstore (cx_x hc) (cx_b hc) hd hl hnl hl' (fun ls' hl2 => kk H locs ls' hl2 hR hS hn)
theorem j_astore_n (hc : Cx X E cc nL n0 h own) {k : Fin 4} {i a : Nat} (hd : decode cc pc = .ok (.astore_n k, 1)) (hi : (k : Nat) = i) (hnl : i < nL) (hl' : (i, Value.ref a) :: lv.filter (fun q => !(q.1 == i) && !(q.1 + 1 == i && q.2.category == 2)) = lv') (kk : J X E nL n0 cells slots Q σ (pc + 1) lv' st) : J X E nL n0 cells slots Q σ pc lv (.ref a :: st) :=
  fun H locs ls hl hR hS hn => lv_astore_n (cx_x hc) (cx_b hc) hd hi hl hnl hl' (fun ls' hl2 => kk H locs ls' hl2 hR hS hn)
theorem j_astore_nR (hc : Cx X E cc nL n0 h own) {k : Fin 4} {i a : Nat} (hd : decode cc pc = .ok (.astore_n k, 1)) (hi : (k : Nat) = i) (hnl : i < nL) (hl' : (i, vR E a) :: lv.filter (fun q => !(q.1 == i) && !(q.1 + 1 == i && q.2.category == 2)) = lv') (kk : J X E nL n0 cells slots Q σ (pc + 1) lv' st) : J X E nL n0 cells slots Q σ pc lv (vR E a :: st) := j_astore_n hc hd hi hnl hl' kk
theorem j_astore (hc : Cx X E cc nL n0 h own) {i a : Nat} (hd : decode cc pc = .ok (.astore i, 2)) (hnl : i < nL) (hl' : (i, Value.ref a) :: lv.filter (fun q => !(q.1 == i) && !(q.1 + 1 == i && q.2.category == 2)) = lv') (kk : J X E nL n0 cells slots Q σ (pc + 2) lv' st) : J X E nL n0 cells slots Q σ pc lv (.ref a :: st) :=
  fun H locs ls hl hR hS hn => lv_astore (cx_x hc) (cx_b hc) hd hl hnl hl' (fun ls' hl2 => kk H locs ls' hl2 hR hS hn)
theorem j_astoreR (hc : Cx X E cc nL n0 h own) {i a : Nat} (hd : decode cc pc = .ok (.astore i, 2)) (hnl : i < nL) (hl' : (i, vR E a) :: lv.filter (fun q => !(q.1 == i) && !(q.1 + 1 == i && q.2.category == 2)) = lv') (kk : J X E nL n0 cells slots Q σ (pc + 2) lv' st) : J X E nL n0 cells slots Q σ pc lv (vR E a :: st) := j_astore hc hd hnl hl' kk
theorem j_iinc (hc : Cx X E cc nL n0 h own) {i : Nat} {n x y : Int} (q : Nat) (hd : decode cc pc = .ok (.iinc i n, 3)) (hq : lv[q]? = some (i, vI x)) (hnl : i < nL) (hy : y = wr (x + n)) (hl' : (i, vI y) :: lv.filter (fun q => !(q.1 == i) && !(q.1 + 1 == i && q.2.category == 2)) = lv') (kk : J X E nL n0 cells slots Q σ (pc + 3) lv' st) : J X E nL n0 cells slots Q σ pc lv st :=
  fun H locs ls hl hR hS hn => lv_iinc (v := iI y) (cx_x hc) (cx_b hc) hd hl hq (by rw [hy, iI_wr, iI_add]; rfl) hnl hl' (fun ls' hl2 => kk H locs ls' hl2 hR hS hn)
theorem vI_wr (x : Int) : vI (wr x) = vI x := by unfold vI; rw [iI_wr]
theorem jI_wl (x : Int) : jI (wl x) = jI x := jI_eq.mpr (wl_wl x)
theorem vL_wl (x : Int) : vL (wl x) = vL x := by unfold vL; rw [jI_wl]
/-- a number on top is named by its class mod 2^32 -/
theorem j_w {x : Int} (k : ∀ y : Int, y = wr x → wr y = y → J X E nL n0 cells slots Q σ pc lv (vI y :: st)) : J X E nL n0 cells slots Q σ pc lv (vI x :: st) := by
  have := k (wr x) rfl (wr_wr x)
  rwa [vI_wr] at this
theorem j_wl {x : Int} (k : ∀ y : Int, y = wl x → wl y = y → J X E nL n0 cells slots Q σ pc lv (vL y :: st)) : J X E nL n0 cells slots Q σ pc lv (vL x :: st) := by
  have := k (wl x) rfl (wl_wl x)
  rwa [vL_wl] at this
/-- one that is its own class -/
theorem j_c {x : Int} (hx : wr x = x) (k : ∀ y : Int, y = x → wr y = y → J X E nL n0 cells slots Q σ pc lv (vI y :: st)) : J X E nL n0 cells slots Q σ pc lv (vI x :: st) := k x rfl hx
theorem j_cl {x : Int} (hx : wl x = x) (k : ∀ y : Int, y = x → wl y = y → J X E nL n0 cells slots Q σ pc lv (vL y :: st)) : J X E nL n0 cells slots Q σ pc lv (vL x :: st) := k x rfl hx
theorem j_iadd (hc : Cx X E cc nL n0 h own) {a b : Int} (hd : decode cc pc = .ok (.iadd, 1)) (k : J X E nL n0 cells slots Q σ (pc + 1) lv (vI (a + b) :: st)) : J X E nL n0 cells slots Q σ pc lv (vI b :: vI a :: st) :=
  fun H locs ls hl hR hS hn => lv_iadd (cx_x hc) (cx_b hc) hd (by rw [← iI_add]; exact k H locs ls hl hR hS hn)
theorem j_isub (hc : Cx X E cc nL n0 h own) {a b : Int} (hd : decode cc pc = .ok (.isub, 1)) (k : J X E nL n0 cells slots Q σ (pc + 1) lv (vI (a - b) :: st)) : J X E nL n0 cells slots Q σ pc lv (vI b :: vI a :: st) :=
  fun H locs ls hl hR hS hn => lv_isub (cx_x hc) (cx_b hc) hd (by rw [← iI_sub]; exact k H locs ls hl hR hS hn)
theorem j_imul (hc : Cx X E cc nL n0 h own) {a b : Int} (hd : decode cc pc = .ok (.imul, 1)) (k : J X E nL n0 cells slots Q σ (pc + 1) lv (vI (a * b) :: st)) : J X E nL n0 cells slots Q σ pc lv (vI b :: vI a :: st) :=
  fun H locs ls hl hR hS hn => lv_imul (cx_x hc) (cx_b hc) hd (by rw [← iI_mul]; exact k H locs ls hl hR hS hn)
theorem j_ineg (hc : Cx X E cc nL n0 h own) {a : Int} (hd : decode cc pc = .ok (.ineg, 1)) (k : J X E nL n0 cells slots Q σ (pc + 1) lv (vI (-a) :: st)) : J X E nL n0 cells slots Q σ pc lv (vI a :: st) :=
  fun H locs ls hl hR hS hn => lv_ineg (cx_x hc) (cx_b hc) hd (by rw [← iI_neg]; exact k H locs ls hl hR hS hn)
theorem j_ladd (hc : Cx X E cc nL n0 h own) {a b : Int} (hd : decode cc pc = .ok (.ladd, 1)) (k : J X E nL n0 cells slots Q σ (pc + 1) lv (vL (a + b) :: st)) : J X E nL n0 cells slots Q σ pc lv (vL b :: vL a :: st) :=
  fun H locs ls hl hR hS hn => lv_ladd (cx_x hc) (cx_b hc) hd (by rw [← jI_add]; exact k H locs ls hl hR hS hn)
theorem j_lsub (hc : Cx X E cc nL n0 h own) {a b : Int} (hd : decode cc pc = .ok (.lsub, 1)) (k : J X E nL n0 cells slots Q σ (pc + 1) lv (vL (a - b) :: st)) : J X E nL n0 cells slots Q σ pc lv (vL b :: vL a :: st) :=
  fun H locs ls hl hR hS hn => lv_lsub (cx_x hc) (cx_b hc) hd (by rw [← jI_sub]; exact k H locs ls hl hR hS hn)
theorem j_lmul (hc : Cx X E cc nL n0 h own) {a b : Int} (hd : decode cc pc = .ok (.lmul, 1)) (k : J X E nL n0 cells slots Q σ (pc + 1) lv (vL (a * b) :: st)) : J X E nL n0 cells slots Q σ pc lv (vL b :: vL a :: st) :=
  fun H locs ls hl hR hS hn => lv_lmul (cx_x hc) (cx_b hc) hd (by rw [← jI_mul]; exact k H locs ls hl hR hS hn)
theorem j_iand (hc : Cx X E cc nL n0 h own) {a b : Int} (hd : decode cc pc = .ok (.iand, 1)) (k : J X E nL n0 cells slots Q σ (pc + 1) lv (vI (o_and a b) :: st)) : J X E nL n0 cells slots Q σ pc lv (vI b :: vI a :: st) :=
  fun H locs ls hl hR hS hn => lv_iand (cx_x hc) (cx_b hc) hd (by unfold o_and vI at k; rw [iI_of] at k; exact k H locs ls hl hR hS hn)
theorem j_ior (hc : Cx X E cc nL n0 h own) {a b : Int} (hd : decode cc pc = .ok (.ior, 1)) (k : J X E nL n0 cells slots Q σ (pc + 1) lv (vI (o_or a b) :: st)) : J X E nL n0 cells slots Q σ pc lv (vI b :: vI a :: st) :=
  fun H locs ls hl hR hS hn => lv_ior (cx_x hc) (cx_b hc) hd (by unfold o_or vI at k; rw [iI_of] at k; exact k H locs ls hl hR hS hn)
theorem j_ixor (hc : Cx X E cc nL n0 h own) {a b : Int} (hd : decode cc pc = .ok (.ixor, 1)) (k : J X E nL n0 cells slots Q σ (pc + 1) lv (vI (o_xor a b) :: st)) : J X E nL n0 cells slots Q σ pc lv (vI b :: vI a :: st) :=
  fun H locs ls hl hR hS hn => lv_ixor (cx_x hc) (cx_b hc) hd (by unfold o_xor vI at k; rw [iI_of] at k; exact k H locs ls hl hR hS hn)
theorem j_ishl (hc : Cx X E cc nL n0 h own) {a b : Int} (hd : decode cc pc = .ok (.ishl, 1)) (k : J X E nL n0 cells slots Q σ (pc + 1) lv (vI (o_shl a b) :: st)) : J X E nL n0 cells slots Q σ pc lv (vI b :: vI a :: st) :=
  fun H locs ls hl hR hS hn => lv_ishl (cx_x hc) (cx_b hc) hd (by unfold o_shl vI at k; rw [iI_of] at k; exact k H locs ls hl hR hS hn)
theorem j_ishr (hc : Cx X E cc nL n0 h own) {a b : Int} (hd : decode cc pc = .ok (.ishr, 1)) (k : J X E nL n0 cells slots Q σ (pc + 1) lv (vI (o_shr a b) :: st)) : J X E nL n0 cells slots Q σ pc lv (vI b :: vI a :: st) :=
  fun H locs ls hl hR hS hn => lv_ishr (cx_x hc) (cx_b hc) hd (by unfold o_shr vI at k; rw [iI_of] at k; exact k H locs ls hl hR hS hn)
theorem j_iushr (hc : Cx X E cc nL n0 h own) {a b : Int} (hd : decode cc pc = .ok (.iushr, 1)) (k : J X E nL n0 cells slots Q σ (pc + 1) lv (vI (o_ushr a b) :: st)) : J X E nL n0 cells slots Q σ pc lv (vI b :: vI a :: st) :=
  fun H locs ls hl hR hS hn => lv_iushr (cx_x hc) (cx_b hc) hd rfl (by unfold o_ushr vI at k; rw [iI_of] at k; exact k H locs ls hl hR hS hn)
theorem j_idiv (hc : Cx X E cc nL n0 h own) {a b : Int} (hd : decode cc pc = .ok (.idiv, 1)) (hb : ¬ wr b = 0) (k : J X E nL n0 cells slots Q σ (pc + 1) lv (vI (o_div a b) :: st)) : J X E nL n0 cells slots Q σ pc lv (vI b :: vI a :: st) :=
  fun H locs ls hl hR hS hn => lv_idiv (cx_x hc) (cx_b hc) hd (fun e => hb ((iI_zero b).mp e)) (by unfold o_div vI at k; rw [iI_of] at k; exact k H locs ls hl hR hS hn)
theorem j_irem (hc : Cx X E cc nL n0 h own) {a b : Int} (hd : decode cc pc = .ok (.irem, 1)) (hb : ¬ wr b = 0) (k : J X E nL n0 cells slots Q σ (pc + 1) lv (vI (o_rem a b) :: st)) : J X E nL n0 cells slots Q σ pc lv (vI b :: vI a :: st) :=
  fun H locs ls hl hR hS hn => lv_irem (cx_x hc) (cx_b hc) hd (fun e => hb ((iI_zero b).mp e)) (by unfold o_rem vI at k; rw [iI_of] at k; exact k H locs ls hl hR hS hn)
theorem j_ldiv (hc : Cx X E cc nL n0 h own) {a b : Int} (hd : decode cc pc = .ok (.ldiv, 1)) (hb : ¬ wl b = 0) (k : J X E nL n0 cells slots Q σ (pc + 1) lv (vL (p_div a b) :: st)) : J X E nL n0 cells slots Q σ pc lv (vL b :: vL a :: st) :=
  fun H locs ls hl hR hS hn => lv_ldiv (cx_x hc) (cx_b hc) hd (fun e => hb ((jI_zero b).mp e)) (by unfold p_div vL at k; rw [jI_of] at k; exact k H locs ls hl hR hS hn)
theorem j_lrem (hc : Cx X E cc nL n0 h own) {a b : Int} (hd : decode cc pc = .ok (.lrem, 1)) (hb : ¬ wl b = 0) (k : J X E nL n0 cells slots Q σ (pc + 1) lv (vL (p_rem a b) :: st)) : J X E nL n0 cells slots Q σ pc lv (vL b :: vL a :: st) :=
  fun H locs ls hl hR hS hn => lv_lrem (cx_x hc) (cx_b hc) hd (fun e => hb ((jI_zero b).mp e)) (by unfold p_rem vL at k; rw [jI_of] at k; exact k H locs ls hl hR hS hn)
theorem j_lcmp (hc : Cx X E cc nL n0 h own) {a b : Int} (hd : decode cc pc = .ok (.lcmp, 1)) (k : J X E nL n0 cells slots Q σ (pc + 1) lv (vI (p_cmp a b) :: st)) : J X E nL n0 cells slots Q σ pc lv (vL b :: vL a :: st) :=
  fun H locs ls hl hR hS hn => W.lcmp (cx_x hc) (cx_b hc) hd (by unfold p_cmp vI at k; rw [iI_of] at k; exact k H locs ls hl hR hS hn)
theorem j_i2b (hc : Cx X E cc nL n0 h own) {a : Int} (hd : decode cc pc = .ok (.i2b, 1)) (k : J X E nL n0 cells slots Q σ (pc + 1) lv (vI (o_i2b a) :: st)) : J X E nL n0 cells slots Q σ pc lv (vI a :: st) :=
  fun H locs ls hl hR hS hn => lv_i2b (cx_x hc) (cx_b hc) hd rfl (by unfold o_i2b vI at k; rw [iI_of] at k; exact k H locs ls hl hR hS hn)
theorem j_i2c (hc : Cx X E cc nL n0 h own) {a : Int} (hd : decode cc pc = .ok (.i2c, 1)) (k : J X E nL n0 cells slots Q σ (pc + 1) lv (vI (o_i2c a) :: st)) : J X E nL n0 cells slots Q σ pc lv (vI a :: st) :=
  fun H locs ls hl hR hS hn => lv_i2c (cx_x hc) (cx_b hc) hd rfl (by unfold o_i2c vI at k; rw [iI_of] at k; exact k H locs ls hl hR hS hn)
theorem j_l2i (hc : Cx X E cc nL n0 h own) {a : Int} (hd : decode cc pc = .ok (.l2i, 1)) (k : J X E nL n0 cells slots Q σ (pc + 1) lv (vI (o_l2i a) :: st)) : J X E nL n0 cells slots Q σ pc lv (vL a :: st) :=
  fun H locs ls hl hR hS hn => lv_l2i (cx_x hc) (cx_b hc) hd rfl (by unfold o_l2i vI at k; rw [iI_of] at k; exact k H locs ls hl hR hS hn)
theorem i2l_w (a : Int) : (iI a).toInt64 = jI (wr a) := by
  rw [← Int64.toInt_inj, Int32.toInt_toInt64, iI_toInt, jI_toInt, wl_id]
  · have := wr_bounds a; omega
  · have := wr_bounds a; omega
theorem j_i2l (hc : Cx X E cc nL n0 h own) {a a' : Int} (ha : wr a = a') (hd : decode cc pc = .ok (.i2l, 1)) (k : J X E nL n0 cells slots Q σ (pc + 1) lv (vL a' :: st)) : J X E nL n0 cells slots Q σ pc lv (vI a :: st) := by
  subst ha
  exact fun H locs ls hl hR hS hn => lv_i2l (cx_x hc) (cx_b hc) hd (i2l_w a) (k H locs ls hl hR hS hn)
theorem j_dup (hc : Cx X E cc nL n0 h own) {v : Value} (hd : decode cc pc = .ok (.dup, 1)) (hv : v.category = 1) (k : J X E nL n0 cells slots Q σ (pc + 1) lv (v :: v :: st)) : J X E nL n0 cells slots Q σ pc lv (v :: st) :=
  fun H locs ls hl hR hS hn => lv_dup (cx_x hc) (cx_b hc) hd hv (k H locs ls hl hR hS hn)
theorem j_dup2 (hc : Cx X E cc nL n0 h own) {v w : Value} (hd : decode cc pc = .ok (.dup2, 1)) (hv : v.category = 1) (hw : w.category = 1) (k : J X E nL n0 cells slots Q σ (pc + 1) lv (v :: w :: v :: w :: st)) : J X E nL n0 cells slots Q σ pc lv (v :: w :: st) :=
  fun H locs ls hl hR hS hn => lv_dup2_11 (cx_x hc) (cx_b hc) hd hv hw (k H locs ls hl hR hS hn)
theorem j_dup_x1 (hc : Cx X E cc nL n0 h own) {v w : Value} (hd : decode cc pc = .ok (.dup_x1, 1)) (hv : v.category = 1) (hw : w.category = 1) (k : J X E nL n0 cells slots Q σ (pc + 1) lv (v :: w :: v :: st)) : J X E nL n0 cells slots Q σ pc lv (v :: w :: st) :=
  fun H locs ls hl hR hS hn => lv_dup_x1 (cx_x hc) (cx_b hc) hd hv hw (k H locs ls hl hR hS hn)
theorem j_pop (hc : Cx X E cc nL n0 h own) {v : Value} (hd : decode cc pc = .ok (.pop, 1)) (hv : v.category = 1) (k : J X E nL n0 cells slots Q σ (pc + 1) lv st) : J X E nL n0 cells slots Q σ pc lv (v :: st) :=
  fun H locs ls hl hR hS hn => lv_pop (cx_x hc) (cx_b hc) hd hv (k H locs ls hl hR hS hn)
theorem j_null (hc : Cx X E cc nL n0 h own) (hd : decode cc pc = .ok (.aconst_null, 1)) (k : J X E nL n0 cells slots Q σ (pc + 1) lv (vO E none :: st)) : J X E nL n0 cells slots Q σ pc lv st :=
  fun H locs ls hl hR hS hn => lv_null (cx_x hc) (cx_b hc) hd (k H locs ls hl hR hS hn)
theorem j_goto (hc : Cx X E cc nL n0 h own) {off : Int} {tgt : Nat} (hd : decode cc pc = .ok (.goto off, 3)) (ht : (pc : Int) + off = (tgt : Int)) (k : J X E nL n0 cells slots Q σ tgt lv st) : J X E nL n0 cells slots Q σ pc lv st :=
  fun H locs ls hl hR hS hn => lv_goto (cx_x hc) (cx_b hc) hd ht (k H locs ls hl hR hS hn)
theorem iI_lt0 (a : Int) : iI a < 0 ↔ wr a < 0 := by
  have h : (0 : Int32) = iI 0 := by decide
  have h0 : wr 0 = 0 := by decide
  rw [h, iI_lt, h0]
theorem iI_le0 (a : Int) : iI a ≤ 0 ↔ wr a ≤ 0 := by
  have h : (0 : Int32) = iI 0 := by decide
  have h0 : wr 0 = 0 := by decide
  rw [h, iI_le, h0]
theorem iI_gt0 (a : Int) : 0 < iI a ↔ 0 < wr a := by
  have h : (0 : Int32) = iI 0 := by decide
  have h0 : wr 0 = 0 := by decide
  rw [h, iI_lt, h0]
theorem iI_ge0 (a : Int) : 0 ≤ iI a ↔ 0 ≤ wr a := by
  have h : (0 : Int32) = iI 0 := by decide
  have h0 : wr 0 = 0 := by decide
  rw [h, iI_le, h0]
theorem j_if_eq (hc : Cx X E cc nL n0 h own) {a a' : Int} (ha : wr a = a') {off : Int} {tgt : Nat} (hd : decode cc pc = .ok (.ifCond .eq off, 3)) (ht : (pc : Int) + off = (tgt : Int)) (kt : a' = 0 → J X E nL n0 cells slots Q σ tgt lv st) (kf : ¬ a' = 0 → J X E nL n0 cells slots Q σ (pc + 3) lv st) : J X E nL n0 cells slots Q σ pc lv (vI a :: st) := by
  subst ha
  exact fun H locs ls hl hR hS hn => lv_if_eq (cx_x hc) (cx_b hc) hd ht (fun e => kt ((iI_zero a).mp e) H locs ls hl hR hS hn) (fun e => kf (fun q => e ((iI_zero a).mpr q)) H locs ls hl hR hS hn)
theorem j_ic_eq (hc : Cx X E cc nL n0 h own) {a b a' b' : Int} (ha : wr a = a') (hb : wr b = b') {off : Int} {tgt : Nat} (hd : decode cc pc = .ok (.if_icmp .eq off, 3)) (ht : (pc : Int) + off = (tgt : Int)) (kt : a' = b' → J X E nL n0 cells slots Q σ tgt lv st) (kf : ¬ a' = b' → J X E nL n0 cells slots Q σ (pc + 3) lv st) : J X E nL n0 cells slots Q σ pc lv (vI b :: vI a :: st) := by
  subst ha hb
  exact fun H locs ls hl hR hS hn => lv_icmp_eq (cx_x hc) (cx_b hc) hd ht (fun e => kt ((iI_eq (a := a) (b := b)).mp e) H locs ls hl hR hS hn) (fun e => kf (fun q => e ((iI_eq (a := a) (b := b)).mpr q)) H locs ls hl hR hS hn)
theorem j_if_lt (hc : Cx X E cc nL n0 h own) {a a' : Int} (ha : wr a = a') {off : Int} {tgt : Nat} (hd : decode cc pc = .ok (.ifCond .lt off, 3)) (ht : (pc : Int) + off = (tgt : Int)) (kt : a' < 0 → J X E nL n0 cells slots Q σ tgt lv st) (kf : ¬ a' < 0 → J X E nL n0 cells slots Q σ (pc + 3) lv st) : J X E nL n0 cells slots Q σ pc lv (vI a :: st) := by
  subst ha
  exact fun H locs ls hl hR hS hn => lv_if_lt (cx_x hc) (cx_b hc) hd ht (fun e => kt ((iI_lt0 a).mp e) H locs ls hl hR hS hn) (fun e => kf (fun q => e ((iI_lt0 a).mpr q)) H locs ls hl hR hS hn)
theorem j_ic_lt (hc : Cx X E cc nL n0 h own) {a b a' b' : Int} (ha : wr a = a') (hb : wr b = b') {off : Int} {tgt : Nat} (hd : decode cc pc = .ok (.if_icmp .lt off, 3)) (ht : (pc : Int) + off = (tgt : Int)) (kt : a' < b' → J X E nL n0 cells slots Q σ tgt lv st) (kf : ¬ a' < b' → J X E nL n0 cells slots Q σ (pc + 3) lv st) : J X E nL n0 cells slots Q σ pc lv (vI b :: vI a :: st) := by
  subst ha hb
  exact fun H locs ls hl hR hS hn => lv_icmp_lt (cx_x hc) (cx_b hc) hd ht (fun e => kt ((iI_lt a b).mp e) H locs ls hl hR hS hn) (fun e => kf (fun q => e ((iI_lt a b).mpr q)) H locs ls hl hR hS hn)
theorem j_if_ge (hc : Cx X E cc nL n0 h own) {a a' : Int} (ha : wr a = a') {off : Int} {tgt : Nat} (hd : decode cc pc = .ok (.ifCond .ge off, 3)) (ht : (pc : Int) + off = (tgt : Int)) (kt : 0 ≤ a' → J X E nL n0 cells slots Q σ tgt lv st) (kf : ¬ 0 ≤ a' → J X E nL n0 cells slots Q σ (pc + 3) lv st) : J X E nL n0 cells slots Q σ pc lv (vI a :: st) := by
  subst ha
  exact fun H locs ls hl hR hS hn => lv_if_ge (cx_x hc) (cx_b hc) hd ht (fun e => kt ((iI_ge0 a).mp e) H locs ls hl hR hS hn) (fun e => kf (fun q => e ((iI_ge0 a).mpr q)) H locs ls hl hR hS hn)
theorem j_ic_ge (hc : Cx X E cc nL n0 h own) {a b a' b' : Int} (ha : wr a = a') (hb : wr b = b') {off : Int} {tgt : Nat} (hd : decode cc pc = .ok (.if_icmp .ge off, 3)) (ht : (pc : Int) + off = (tgt : Int)) (kt : b' ≤ a' → J X E nL n0 cells slots Q σ tgt lv st) (kf : ¬ b' ≤ a' → J X E nL n0 cells slots Q σ (pc + 3) lv st) : J X E nL n0 cells slots Q σ pc lv (vI b :: vI a :: st) := by
  subst ha hb
  exact fun H locs ls hl hR hS hn => lv_icmp_ge (cx_x hc) (cx_b hc) hd ht (fun e => kt ((iI_le b a).mp e) H locs ls hl hR hS hn) (fun e => kf (fun q => e ((iI_le b a).mpr q)) H locs ls hl hR hS hn)
theorem j_if_gt (hc : Cx X E cc nL n0 h own) {a a' : Int} (ha : wr a = a') {off : Int} {tgt : Nat} (hd : decode cc pc = .ok (.ifCond .gt off, 3)) (ht : (pc : Int) + off = (tgt : Int)) (kt : 0 < a' → J X E nL n0 cells slots Q σ tgt lv st) (kf : ¬ 0 < a' → J X E nL n0 cells slots Q σ (pc + 3) lv st) : J X E nL n0 cells slots Q σ pc lv (vI a :: st) := by
  subst ha
  exact fun H locs ls hl hR hS hn => lv_if_gt (cx_x hc) (cx_b hc) hd ht (fun e => kt ((iI_gt0 a).mp e) H locs ls hl hR hS hn) (fun e => kf (fun q => e ((iI_gt0 a).mpr q)) H locs ls hl hR hS hn)
theorem j_ic_gt (hc : Cx X E cc nL n0 h own) {a b a' b' : Int} (ha : wr a = a') (hb : wr b = b') {off : Int} {tgt : Nat} (hd : decode cc pc = .ok (.if_icmp .gt off, 3)) (ht : (pc : Int) + off = (tgt : Int)) (kt : b' < a' → J X E nL n0 cells slots Q σ tgt lv st) (kf : ¬ b' < a' → J X E nL n0 cells slots Q σ (pc + 3) lv st) : J X E nL n0 cells slots Q σ pc lv (vI b :: vI a :: st) := by
  subst ha hb
  exact fun H locs ls hl hR hS hn => lv_icmp_gt (cx_x hc) (cx_b hc) hd ht (fun e => kt ((iI_lt b a).mp e) H locs ls hl hR hS hn) (fun e => kf (fun q => e ((iI_lt b a).mpr q)) H locs ls hl hR hS hn)
theorem j_if_le (hc : Cx X E cc nL n0 h own) {a a' : Int} (ha : wr a = a') {off : Int} {tgt : Nat} (hd : decode cc pc = .ok (.ifCond .le off, 3)) (ht : (pc : Int) + off = (tgt : Int)) (kt : a' ≤ 0 → J X E nL n0 cells slots Q σ tgt lv st) (kf : ¬ a' ≤ 0 → J X E nL n0 cells slots Q σ (pc + 3) lv st) : J X E nL n0 cells slots Q σ pc lv (vI a :: st) := by
  subst ha
  exact fun H locs ls hl hR hS hn => lv_if_le (cx_x hc) (cx_b hc) hd ht (fun e => kt ((iI_le0 a).mp e) H locs ls hl hR hS hn) (fun e => kf (fun q => e ((iI_le0 a).mpr q)) H locs ls hl hR hS hn)
theorem j_ic_le (hc : Cx X E cc nL n0 h own) {a b a' b' : Int} (ha : wr a = a') (hb : wr b = b') {off : Int} {tgt : Nat} (hd : decode cc pc = .ok (.if_icmp .le off, 3)) (ht : (pc : Int) + off = (tgt : Int)) (kt : a' ≤ b' → J X E nL n0 cells slots Q σ tgt lv st) (kf : ¬ a' ≤ b' → J X E nL n0 cells slots Q σ (pc + 3) lv st) : J X E nL n0 cells slots Q σ pc lv (vI b :: vI a :: st) := by
  subst ha hb
  exact fun H locs ls hl hR hS hn => lv_icmp_le (cx_x hc) (cx_b hc) hd ht (fun e => kt ((iI_le a b).mp e) H locs ls hl hR hS hn) (fun e => kf (fun q => e ((iI_le a b).mpr q)) H locs ls hl hR hS hn)
theorem j_if_ne (hc : Cx X E cc nL n0 h own) {a a' : Int} (ha : wr a = a') {off : Int} {tgt : Nat} (hd : decode cc pc = .ok (.ifCond .ne off, 3)) (ht : (pc : Int) + off = (tgt : Int)) (kt : ¬ a' = 0 → J X E nL n0 cells slots Q σ tgt lv st) (kf : a' = 0 → J X E nL n0 cells slots Q σ (pc + 3) lv st) : J X E nL n0 cells slots Q σ pc lv (vI a :: st) := by
  subst ha
  exact fun H locs ls hl hR hS hn => lv_if_ne (cx_x hc) (cx_b hc) hd ht (fun e => kt (fun q => e ((iI_zero a).mpr q)) H locs ls hl hR hS hn) (fun e => kf ((iI_zero a).mp e) H locs ls hl hR hS hn)
theorem j_ic_ne (hc : Cx X E cc nL n0 h own) {a b a' b' : Int} (ha : wr a = a') (hb : wr b = b') {off : Int} {tgt : Nat} (hd : decode cc pc = .ok (.if_icmp .ne off, 3)) (ht : (pc : Int) + off = (tgt : Int)) (kt : ¬ a' = b' → J X E nL n0 cells slots Q σ tgt lv st) (kf : a' = b' → J X E nL n0 cells slots Q σ (pc + 3) lv st) : J X E nL n0 cells slots Q σ pc lv (vI b :: vI a :: st) := by
  subst ha hb
  exact fun H locs ls hl hR hS hn => lv_icmp_ne (cx_x hc) (cx_b hc) hd ht (fun e => kt (fun q => e ((iI_eq (a := a) (b := b)).mpr q)) H locs ls hl hR hS hn) (fun e => kf ((iI_eq (a := a) (b := b)).mp e) H locs ls hl hR hS hn)
theorem j_ifnull (hc : Cx X E cc nL n0 h own) {o : Option Nat} {off : Int} {tgt : Nat} (hd : decode cc pc = .ok (.ifnull off, 3)) (ht : (pc : Int) + off = (tgt : Int)) (kt : o = none → J X E nL n0 cells slots Q σ tgt lv st) (kf : ∀ t : Nat, o = some t → J X E nL n0 cells slots Q σ (pc + 3) lv st) : J X E nL n0 cells slots Q σ pc lv (vO E o :: st) := by
  intro H locs ls hl hR hS hn
  cases o with
  | none => exact lv_ifnullN (cx_x hc) (cx_b hc) hd ht (kt rfl H locs ls hl hR hS hn)
  | some t => exact lv_ifnull (cx_x hc) (cx_b hc) hd (kf t rfl H locs ls hl hR hS hn)
theorem j_ifnonnull (hc : Cx X E cc nL n0 h own) {o : Option Nat} {off : Int} {tgt : Nat} (hd : decode cc pc = .ok (.ifnonnull off, 3)) (ht : (pc : Int) + off = (tgt : Int)) (kt : ∀ t : Nat, o = some t → J X E nL n0 cells slots Q σ tgt lv st) (kf : o = none → J X E nL n0 cells slots Q σ (pc + 3) lv st) : J X E nL n0 cells slots Q σ pc lv (vO E o :: st) := by
  intro H locs ls hl hR hS hn
  cases o with
  | none => exact lv_ifnonnullN (cx_x hc) (cx_b hc) hd (kf rfl H locs ls hl hR hS hn)
  | some t => exact lv_ifnonnull (cx_x hc) (cx_b hc) hd ht (kt t rfl H locs ls hl hR hS hn)
theorem j_aload_nO (hc : Cx X E cc nL n0 h own) {k : Fin 4} {i : Nat} {o : Option Nat} (q : Nat) (hd : decode cc pc = .ok (.aload_n k, 1)) (hi : (k : Nat) = i) (hq : lv[q]? = some (i, vO E o)) (kk : J X E nL n0 cells slots Q σ (pc + 1) lv (vO E o :: st)) : J X E nL n0 cells slots Q σ pc lv st := by
  intro H locs ls hl hR hS hn
  cases o with
  | none => exact lv_aload_nN (cx_x hc) (cx_b hc) hd hi (lv_at hl q hq) (kk H locs ls hl hR hS hn)
  | some t => exact lv_aload_n (cx_x hc) (cx_b hc) hd hi (lv_at hl q hq) (kk H locs ls hl hR hS hn)
theorem j_aloadO (hc : Cx X E cc nL n0 h own) {i : Nat} {o : Option Nat} (q : Nat) (hd : decode cc pc = .ok (.aload i, 2)) (hq : lv[q]? = some (i, vO E o)) (kk : J X E nL n0 cells slots Q σ (pc + 2) lv (vO E o :: st)) : J X E nL n0 cells slots Q σ pc lv st := by
  intro H locs ls hl hR hS hn
  cases o with
  | none => exact lv_aloadN (cx_x hc) (cx_b hc) hd (lv_at hl q hq) (kk H locs ls hl hR hS hn)
  | some t => exact lv_aload (cx_x hc) (cx_b hc) hd (lv_at hl q hq) (kk H locs ls hl hR hS hn)
theorem j_astore_nO (hc : Cx X E cc nL n0 h own) {k : Fin 4} {i : Nat} {o : Option Nat} (hd : decode cc pc = .ok (.astore_n k, 1)) (hi : (k : Nat) = i) (hnl : i < nL) (hl' : (i, vO E o) :: lv.filter (fun q => !(q.1 == i) && !(q.1 + 1 == i && q.2.category == 2)) = lv') (kk : J X E nL n0 cells slots Q σ (pc + 1) lv' st) : J X E nL n0 cells slots Q σ pc lv (vO E o :: st) := by
  intro H locs ls hl hR hS hn
  cases o with
  | none => exact lv_astore_nN (cx_x hc) (cx_b hc) hd hi hl hnl hl' (fun ls' hl2 => kk H locs ls' hl2 hR hS hn)
  | some t => exact lv_astore_n (cx_x hc) (cx_b hc) hd hi hl hnl hl' (fun ls' hl2 => kk H locs ls' hl2 hR hS hn)
theorem j_astoreO (hc : Cx X E cc nL n0 h own) {i : Nat} {o : Option Nat} (hd : decode cc pc = .ok (.astore i, 2)) (hnl : i < nL) (hl' : (i, vO E o) :: lv.filter (fun q => !(q.1 == i) && !(q.1 + 1 == i && q.2.category == 2)) = lv') (kk : J X E nL n0 cells slots Q σ (pc + 2) lv' st) : J X E nL n0 cells slots Q σ pc lv (vO E o :: st) := by
  intro H locs ls hl hR hS hn
  cases o with
  | none => exact lv_astoreN (cx_x hc) (cx_b hc) hd hl hnl hl' (fun ls' hl2 => kk H locs ls' hl2 hR hS hn)
  | some t => exact lv_astore (cx_x hc) (cx_b hc) hd hl hnl hl' (fun ls' hl2 => kk H locs ls' hl2 hR hS hn)
theorem j_ts (hc : Cx X E cc nL n0 h own) {dflt lo hi off : Int} {offs : Array Int} {len tgt : Nat} {a a' : Int} (ha : wr a = a') (hd : decode cc pc = .ok (.tableswitch dflt lo hi offs, len)) (v : Int) (hv : a' = v) (h1 : lo ≤ v) (h2 : v ≤ hi) (ho : offs[(v - lo).toNat]? = some off) (ht : (pc : Int) + off = (tgt : Int)) (k : J X E nL n0 cells slots Q σ tgt lv st) : J X E nL n0 cells slots Q σ pc lv (vI a :: st) := by
  subst hv
  subst ha
  exact fun H locs ls hl hR hS hn => lv_tableIn (cx_x hc) (cx_b hc) hd (by rw [iI_toInt]; omega) (by rw [iI_toInt]; omega) (by rw [iI_toInt]; exact ho) ht (k H locs ls hl hR hS hn)
theorem j_td (hc : Cx X E cc nL n0 h own) {dflt lo hi : Int} {offs : Array Int} {len tgt : Nat} {a a' : Int} (ha : wr a = a') (hd : decode cc pc = .ok (.tableswitch dflt lo hi offs, len)) (hv : a' < lo ∨ hi < a') (ht : (pc : Int) + dflt = (tgt : Int)) (k : J X E nL n0 cells slots Q σ tgt lv st) : J X E nL n0 cells slots Q σ pc lv (vI a :: st) := by
  subst ha
  exact fun H locs ls hl hR hS hn => lv_tableOut (cx_x hc) (cx_b hc) hd (by rw [iI_toInt]; exact hv) ht (k H locs ls hl hR hS hn)
end JJ
