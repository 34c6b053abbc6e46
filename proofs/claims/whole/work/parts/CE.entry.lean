/-! the law's entry: the texts, the classes' numbers -/
theorem and63 (x : Int) : ∃ k : Nat, o_and x 63 = (k : Int) ∧ k < 64 := by
  have h63 : (iI (63 : Int)).toBitVec = BitVec.ofNat 32 63 := rfl
  have hlt : ((iI x).toBitVec &&& BitVec.ofNat 32 63).toNat < 64 := by
    rw [BitVec.toNat_and]
    exact Nat.lt_of_le_of_lt Nat.and_le_right (by decide)
  refine ⟨((iI x).toBitVec &&& BitVec.ofNat 32 63).toNat, ?_, hlt⟩
  show ((iI x).toBitVec &&& (iI 63).toBitVec).toInt = _
  rw [h63, BitVec.toInt_eq_toNat_of_lt (by omega)]
def fl0 : List Cond := flatC (Jvm.Cond.and given_1 narrow_1)
def sPos : List Nat := [52, 150, 33, 106, 267, 286, 87, 211, 223, 96, 237, 251]
def sOrd : List Nat := [1, 5, 0, 4, 10, 11, 2, 6, 7, 3, 8, 9]
def sIdx : List Nat := [66, 147, 64, 145, 88, 96, 125, 152, 154, 134, 156, 158]
def sTm (i : Nat) : Term := .string "LitStrangers$Reader" (sIdx.getD i 0)
theorem fl_ex : ∀ i : Nat, i < 12 → fl0[sPos.getD i 0]? = some (Cond.exactly (sTm i) "java/lang/String") := by decide +kernel
theorem fl_co : ∀ i : Nat, i < 12 → fl0[sPos.getD i 0 + 1]? = some (Cond.eq (.field (sTm i) "java/lang/String" "coder" "B") (.int 0)) := by decide +kernel
theorem fl_ar : ∀ i : Nat, i < 12 → fl0[sPos.getD i 0 + 2]? = some (Cond.arrayOf (.field (sTm i) "java/lang/String" "value" "[B") .byte) := by decide +kernel
theorem fl_le : ∀ i : Nat, i < 12 → fl0[sPos.getD i 0 + 3]? = some (Cond.eq (.length (.field (sTm i) "java/lang/String" "value" "[B")) (.int (Int32.ofNat (sLen.getD i 0)))) := by decide +kernel
theorem fl_el : ∀ i : Nat, i < 12 → ∀ j : Nat, j < sLen.getD i 0 → fl0[sPos.getD i 0 + 4 + j]? = some (Cond.eq (.elem (.field (sTm i) "java/lang/String" "value" "[B") (.int (Int32.ofNat j))) (.int ((sByt.getD i []).getD j 0))) := by decide +kernel
theorem fl_ne : ∀ i : Nat, i < 12 → ∀ j : Nat, j < 12 → sOrd.getD i 0 < sOrd.getD j 0 → fl0[sPos.getD j 0 + 4 + sLen.getD j 0 + sOrd.getD i 0]? = some (Cond.not (Cond.eq (sTm i) (sTm j))) := by decide +kernel
theorem so_ne : ∀ i : Nat, i < 12 → ∀ j : Nat, j < 12 → i ≠ j → sOrd.getD i 0 < sOrd.getD j 0 ∨ sOrd.getD j 0 < sOrd.getD i 0 := by decide +kernel
theorem sl_lt : ∀ i : Nat, i < 12 → sLen.getD i 0 < 2 ^ 31 := by decide +kernel
theorem so_rf : ∀ k : Nat, k < 12 → ∀ q, sOwn[k]? = some q → Cond.stringRef q.1 q.2.1 q.2.2 ∈ lw_tbl ∧ Term.string q.1 q.2.1 = sTm k := by
  have h : ∀ k : Nat, k < 12 → Cond.stringRef (sOwn.getD k ("", 0, "")).1 (sOwn.getD k ("", 0, "")).2.1 (sOwn.getD k ("", 0, "")).2.2 ∈ lw_tbl ∧ Term.string (sOwn.getD k ("", 0, "")).1 (sOwn.getD k ("", 0, "")).2.1 = sTm k := by decide +kernel
  intro k hk q hq
  have := h k hk
  rw [List.getD_eq_getElem?_getD, hq] at this
  exact this
theorem cl_it : ∀ k : Nat, k < 12 → Cond.instantiable (clC k) (nf k) ∈ Tb := by decide +kernel
theorem nest_in : ∀ w ∈ nestW, w ∈ lw_tbl := by decide +kernel
theorem ao_9 : Cond.arrayOver (.object RX9) ∈ lw_tbl := by decide +kernel
theorem ao_1 : Cond.arrayOver (.object RX1) ∈ lw_tbl := by decide +kernel
theorem ca_in : Cond.castable "[I" "java/lang/Cloneable" ∈ lw_tbl := by decide +kernel
theorem ls_in : Cond.laysStatic "java/lang/String" "COMPACT_STRINGS" "Z" ∈ lw_tbl ∧ Cond.initialized "java/lang/String" ∈ lw_tbl ∧ Cond.laysStatic "jdk/internal/util/Preconditions" "SIOOBE_FORMATTER" "Ljava/util/function/BiFunction;" ∈ lw_tbl ∧ Cond.initialized "jdk/internal/util/Preconditions" ∈ lw_tbl := by decide +kernel
theorem fl_cs : fl0[4]? = some (Cond.eq (.static "java/lang/String" "COMPACT_STRINGS" "Z") (.int 1)) := by decide +kernel
theorem fl_sf : fl0[5]? = some (Cond.isRef (.static "jdk/internal/util/Preconditions" "SIOOBE_FORMATTER" "Ljava/util/function/BiFunction;")) := by decide +kernel
section ENT
variable {s : State} {args : Array Value}
/-- the texts -/
theorem en_str (hg : (Jvm.Cond.and given_1 narrow_1).before args s = true) (hts : ∀ w ∈ lw_tbl, w.before args s = true) : ∃ K V : Nat → Nat, ∀ (D : va_G) (C : Nat → ClassId), Str (eE0 s.heap.size D C K V) s := by
  have hs : ∀ (k : Nat) (c : Cond), fl0[k]? = some c → c.before args s = true := fun k c h => flat_of_before _ hg c (List.mem_of_getElem? h)
  have hA : ∀ a : Nat, a < s.heap.size → ¬ (fun q : Nat => s.heap.size ≤ q) a := fun a h => Nat.not_le.mpr h
  obtain ⟨K, V, h1, h2⟩ := vk_Sof (N := 12) (tm := sTm) (len := sLen) (byt := sByt) (A := fun q : Nat => s.heap.size ≤ q) sl_lt (fun i hi => hs _ _ (fl_ex i hi)) (fun i hi => hs _ _ (fl_co i hi)) (fun i hi => hs _ _ (fl_ar i hi)) (fun i hi => hs _ _ (fl_le i hi)) (fun i hi j hj => hs _ _ (fl_el i hi j hj)) (fun i j hi hj hij => by
    rcases so_ne i hi j hj hij with z | z
    · exact Or.inl (hs _ _ (fl_ne i hi j hj z))
    · exact Or.inr (hs _ _ (fl_ne j hj i hi z))) hA
  refine ⟨K, V, fun D C => ⟨h1, fun k q hq => ?_, ?_, ?_, ?_⟩⟩
  · have hk : k < 12 := (List.getElem?_eq_some_iff.mp hq).1
    obtain ⟨a1, a2⟩ := so_rf k hk q hq
    exact vk_R.of (hts _ a1) (by rw [a2]; exact h2 k hk)
  · exact va_Zof (hts _ ls_in.1) (hts _ ls_in.2.1) (va_eqt (hs _ _ fl_cs)) hA
  · exact va_Zqof (hts _ ls_in.2.2.1) (hts _ ls_in.2.2.2) (hs _ _ fl_sf) hA
  · exact ⟨va_AO.of (hts _ ao_9), va_AO.of (hts _ ao_1), va_Nw.of rfl (hts _ ca_in), fun a i x h hw => va_Nw.of rfl (hts _ (nest_in _ hw))⟩
theorem en_arr {ty : FieldType} (h : (Cond.arrayClass ty).before args s = true) : ∃ cA : ClassId, ArrOfT s cA ty ∧ s.vm.findClass ("[" ++ ty.toString) = some cA := by
  obtain ⟨cA, kA, comp, h1, h2, h3⟩ := Cond.arrayClass_spec h
  exact ⟨cA, fun n z => ⟨fun k h => (by cases h), kA, h2, comp, h3⟩, h1⟩
theorem en_obj {C : String} (h : (Cond.arrayOver (.object C)).before args s = true) : ∃ cA : ClassId, ArrOfT s cA (.object C) ∧ va_RA s cA (.object C) := by
  obtain ⟨comp, cA, kA, h1, -, h2, h3, h4⟩ := Cond.arrayOver_spec h
  exact ⟨cA, fun n z => ⟨fun k h => (by cases h), kA, h2, comp, h3⟩, kA, comp, h2, h3, h1, h4⟩
/-- the classes' numbers -/
theorem en_cls (hts : ∀ w ∈ lw_tbl, w.before args s = true) : ∃ (D : va_G) (C : Nat → ClassId), va_K D clss [(C 0, .int), (C 1, .long), (C 2, .byte), (C 3, .boolean), (C 4, .object RX9), (C 5, .object RX1)] s := by
  have hTb : ∀ w ∈ Tb, w.before args s = true := fun w hw => hts w (List.mem_filter.mp hw).1
  have h0 : ∀ k : Nat, ∃ q : ClassId × (Nat → Nat), k < 12 → u_Kn s (clC k) (clT k) (nf k) q.1 q.2 := by
    intro k
    by_cases hk : k < 12
    · obtain ⟨cC, iS, h⟩ := u_known hTb (cl_in k hk) (hTb _ (cl_it k hk))
      exact ⟨(cC, iS), fun _ => h⟩
    · exact ⟨(0, fun _ => 0), fun h => absurd h hk⟩
  obtain ⟨f, hf⟩ := Classical.axiomOfChoice h0
  obtain ⟨c0, a0, b0⟩ := en_arr (hTb _ nk_0.2.2)
  obtain ⟨c1, a1, b1⟩ := en_arr (hTb _ nk_1.2.2)
  obtain ⟨c2, a2, b2⟩ := en_arr (hTb _ nk_2.2.2)
  obtain ⟨c3, a3, b3⟩ := en_arr (hTb _ nk_3.2.2)
  obtain ⟨c4, a4, b4⟩ := en_obj (hts _ ao_9)
  obtain ⟨c5, a5, b5⟩ := en_obj (hts _ ao_1)
  refine ⟨(fun k => (f k).1, fun k => (f k).2), fun k => if k = 0 then c0 else if k = 1 then c1 else if k = 2 then c2 else if k = 3 then c3 else if k = 4 then c4 else c5, fun k q hq => ?_, fun k q hq => ?_⟩
  · have hk : k < 12 := (List.getElem?_eq_some_iff.mp hq).1
    rw [cl_at k hk] at hq
    cases hq
    exact hf k hk
  · match k, hq with
    | 0, hq => cases hq; exact ⟨a0, b0⟩
    | 1, hq => cases hq; exact ⟨a1, b1⟩
    | 2, hq => cases hq; exact ⟨a2, b2⟩
    | 3, hq => cases hq; exact ⟨a3, b3⟩
    | 4, hq => cases hq; exact ⟨a4, b4⟩
    | 5, hq => cases hq; exact ⟨a5, b5⟩
    | n + 6, hq => simp at hq
end ENT
