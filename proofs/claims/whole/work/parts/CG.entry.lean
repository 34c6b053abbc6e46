/-! the law from its entry -/
set_option maxRecDepth 100000 in
theorem tb_1331 : lw_tbl[1331]? = some (Cond.code yX11_init cX11_init 1 none) := rfl
theorem il_RL_12 : IL RL 12 yX11_init cX11_init 1 0 := ⟨Or.inl (tb_mem 1329 (by decide +kernel) (by decide +kernel)), tb_mem 131 (by decide +kernel) (by decide +kernel), tb_mem 1331 tb_1331 (by decide +kernel), tb_mem 1330 (by decide +kernel) (by decide +kernel), rfl, by decide +kernel⟩
theorem il_RL_9 : IL RL 9 yX10_init cX10_init 6 0 := ⟨Or.inl (tb_mem 143 (by decide +kernel) (by decide +kernel)), tb_mem 120 (by decide +kernel) (by decide +kernel), tb_mem 145 (by decide +kernel) (by decide +kernel), tb_mem 144 (by decide +kernel) (by decide +kernel), rfl, by decide +kernel⟩
theorem nw_RL_10 : NL RL 10 11 := ⟨by decide, tb_mem 1327 (by decide +kernel) (by decide +kernel), tb_mem 1328 (by decide +kernel) (by decide +kernel), tb_mem 131 (by decide +kernel) (by decide +kernel)⟩
theorem nw_RL_7 : NL RL 7 10 := ⟨by decide, tb_mem 141 (by decide +kernel) (by decide +kernel), tb_mem 142 (by decide +kernel) (by decide +kernel), tb_mem 120 (by decide +kernel) (by decide +kernel)⟩
theorem st_nil {b : Nat} {D : va_G} {C : Nat → ClassId} {K V : Nat → Nat} {H : Heap} (h : H.size = b) : Rep (eE0 b D C K V) (tS 0 [] [] [] []) H := ⟨fun k q hq => by
  have := (List.getElem?_eq_some_iff.mp hq).1
  rw [wsE_len] at this
  exact absurd this (Nat.not_lt_zero _), sv_tS (m := 0) rfl (fun e he => by cases he) (fun e he => by cases he) (fun c hc => absurd hc (Nat.not_lt_zero _)) (fun c hc => absurd hc (Nat.not_lt_zero _)), h⟩
set_option maxRecDepth 20000 in
set_option maxHeartbeats 4000000 in
theorem law_start {X : jj_X} {D : va_G} {C : Nat → ClassId} {K V : Nat → Nat} {b L : Nat} {xs : Nat → Int32} {Q : State → Prop} (hx : X.1.tables.exec = Jvm.exec) (hb : (xC X).code = code) (hml : (xC X).maxLocals = 4) (hown : (xS X).vm.findClass RL = some (xM X).cls) (hTb : ∀ w ∈ Tb, w.before (xA X) (xS X) = true) (hlocks : (xT X).locks = false) (hK : va_K D clss [(C 0, .int), (C 1, .long), (C 2, .byte), (C 3, .boolean), (C 4, .object RX9), (C 5, .object RX1)] (xS X)) (hStr : Str (eE0 (xS X).heap.size D C K V) (xS X)) (hX : va_X b L xs (xS X) (xS X).heap) (hbl : b < (xS X).heap.size) (hLL : L ≤ 3072) (hrm : 2048 ≤ (xR X).frames ∧ 84000 ≤ (xR X).locals ∧ 600000 ≤ (xR X).cells ∧ 7302250 ≤ (xR X).slots) (hE : ∀ (H : Heap) (locs : List Loc) (ls : Array Slot), va_S (fun q => (xS X).heap.size ≤ q) (xS X).heap H locs → jW X H locs 600000 7302250 Q (F0 (xM X) 1098 ls [vI 1])) : J X (eE0 (xS X).heap.size D C K V) 4 0 0 0 Q (tS 0 [] [] [] []) 0 [(0, .ref b)] [] := by
  generalize eb : (xS X).heap.size = bs at hStr hE hbl ⊢
  have hc : Cx X (eE0 bs D C K V) code 4 0 20 RL := ⟨hx, hb, hml, hown, hTb, hlocks, hK, eb, eok_0, by omega, by omega, hStr⟩
  have hbA : ¬ eF (eE0 bs D C K V) b := Nat.not_le.mpr hbl
  have hLc : Lc X code 4 RL := ⟨hx, hb, hml, hown, hTb⟩
  have hLw : Lw X (eE0 bs D C K V) (eEC bs D C K V) (eEM bs D C K V) := ⟨hStr, hK, ⟨rfl, rfl, rfl, rfl⟩, ⟨rfl, rfl, rfl, rfl⟩, eok_C, eok_M, fun q h => inC h, fun q h => inM h, ⟨fun c h => apart1 h, fun c h => apart2 h⟩, rfl, rfl, by omega, by omega⟩
  refine j_newN (N := 16) hc (mk_0.at hc) nw_RL_7 rfl ⟨by omega, by omega⟩ dL_law_0 (fun t τ et eτ => ?_)
  replace et : t = 0 := et
  rw [sA_tS (by decide +kernel)] at eτ
  subst et eτ
  refine j_dup hc dL_law_3 rfl ?_
  refine j_ini (As := []) (Qp := fun σ => σ = tS 65 kC0 lC0 rC0 iC0) hc il_RL_9 (fun _ => c_X10_init eok_0 rfl mk_0 (i_C rfl)) rfl (by decide) (by decide) ⟨by omega, by omega⟩ (Nat.le_of_ble_eq_true rfl) rfl dL_law_4 (fun τ hτ => ?_)
  subst hτ
  refine j_fin (t := 0) (k := 10) (m := 0) (by decide) rfl rfl (ch_F (by decide +kernel)) (fun τ eτ => ?_)
  replace eτ : τ = tS 65 ((0, 16 + 10) :: kC0) lC0 rC0 iC0 := eτ
  subst eτ
  refine j_astore_nR hc dL_law_7 rfl (by decide) rfl ?_
  refine j_newN (N := 52) hc (mk_0.at hc) nw_RL_10 rfl ⟨by omega, by omega⟩ dL_law_8 (fun t τ et eτ => ?_)
  replace et : t = 65 := et
  rw [sA_tS (by decide +kernel)] at eτ
  subst et eτ
  refine j_dup hc dL_law_11 rfl ?_
  refine j_ini (As := []) (Qp := fun σ => σ = tS 91 (kA0.map shK ++ (0, 16 + 10) :: kC0) (lA0.map shK ++ lC0) (rA0.map shR ++ rC0) (iA0.map shI ++ iC0)) hc il_RL_12 (fun _ => c_X11_init eok_0 mk_0 (i_M rfl)) rfl (by decide) (by decide) ⟨by omega, by omega⟩ (Nat.le_of_ble_eq_true rfl) rfl dL_law_12 (fun τ hτ => ?_)
  subst hτ
  refine j_fin (t := 65) (k := 11) (m := 0) (by decide) rfl rfl (ch_F (by decide +kernel)) (fun τ eτ => ?_)
  replace eτ : τ = sF0 := eτ
  subst eτ
  refine j_astore_nR hc dL_law_15 rfl (by decide) rfl ?_
  refine j_sub (lv' := [(0, .ref b), (1, vR (eE0 bs D C K V) 0), (2, vR (eE0 bs D C K V) 65)]) [2, 1, 0] rfl ?_
  intro H locs ls hl hR hS hn
  have go : JP X (eF (eE0 bs D C K V)) (PL (eEC bs D C K V) (eEM bs D C K V) (65 + 2 * 0) sC0 sM0) 4 (91 + 2 * 0) (300000 + 78 * 0) Q 16 [(0, .ref b), (1, vR (eEC bs D C K V) 0), (2, vR (eEM bs D C K V) 0)] [] := by
    refine p_iconst hLc dL_law_16 ?_
    refine p_istore_n hLc dL_law_17 rfl (by decide) rfl ?_
    refine p_sub [1, 2, 3, 0] rfl ?_
    exact law_loop hLc hLw hX (by rw [eb]; exact hbl) hbA hLL ⟨hrm.2.2.1, hrm.2.2.2⟩ mk_C (fun H locs ls hS => hE H locs ls hS) (L + 1) 0 sC0 sM0 (by omega) (by omega) zI_0
  exact W.widen (k := 91 + 2 * 0) (n := 300000 + 78 * 0) (by omega) (by omega) (go H locs ls hl ⟨rep_C hR, rep_M hR, Nat.le_refl 26, Nat.le_refl 65, by decide⟩ hS)
