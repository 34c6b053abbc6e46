theorem nk_0 : j_newK 0 .int := ⟨by decide, rfl, tb_mem 250 (by decide +kernel) (by decide +kernel)⟩
theorem nk_1 : j_newK 1 .long := ⟨by decide, rfl, tb_mem 553 (by decide +kernel) (by decide +kernel)⟩
theorem nk_2 : j_newK 2 .byte := ⟨by decide, rfl, tb_mem 910 (by decide +kernel) (by decide +kernel)⟩
theorem nk_3 : j_newK 3 .boolean := ⟨by decide, rfl, tb_mem 1491 (by decide +kernel) (by decide +kernel)⟩
theorem ml_RX9_37 : ML RX9 37 yJ7_copyOf_59c91 cJ7_copyOf_59c91 3 (some (.array .int)) 2 := ⟨tb_mem 896 (by decide +kernel) (by decide +kernel), tb_mem 138 (by decide +kernel) (by decide +kernel), tb_mem 898 (by decide +kernel) (by decide +kernel), by decide +kernel⟩
theorem mv_J7_copyOf_59c91 : Cond.static yJ7_copyOf_59c91 ∈ Tb := tb_mem 897 (by decide +kernel) (by decide +kernel)
theorem mc_RJ7_150 : MC RJ7 150 := ⟨tb_mem 907 (by decide +kernel) (by decide +kernel), tb_mem 909 (by decide +kernel) (by decide +kernel), tb_mem 908 (by decide +kernel) (by decide +kernel), tb_mem 139 (by decide +kernel) (by decide +kernel)⟩
theorem fl_RX9_15 : FL RX9 15 9 1 := ⟨by decide, by decide, tb_mem 266 (by decide +kernel) (by decide +kernel)⟩
theorem fl_RX9_18 : FL RX9 18 9 2 := ⟨by decide, by decide, tb_mem 270 (by decide +kernel) (by decide +kernel)⟩
theorem fl_RX9_21 : FL RX9 21 9 3 := ⟨by decide, by decide, tb_mem 274 (by decide +kernel) (by decide +kernel)⟩
theorem fl_RX9_24 : FL RX9 24 9 4 := ⟨by decide, by decide, tb_mem 278 (by decide +kernel) (by decide +kernel)⟩
theorem fl_RX9_27 : FL RX9 27 9 5 := ⟨by decide, by decide, tb_mem 282 (by decide +kernel) (by decide +kernel)⟩
theorem fl_RX9_34 : FL RX9 34 9 7 := ⟨by decide, by decide, tb_mem 289 (by decide +kernel) (by decide +kernel)⟩
theorem fl_RX10_175 : FL RX10 175 1 9 := ⟨by decide, by decide, tb_mem 198 (by decide +kernel) (by decide +kernel)⟩
theorem mm_RJ7_304 : MM RJ7 304 Lib.Math.min.name Lib.Math.min.code := ⟨tb_mem 906 (by decide +kernel) (by decide +kernel), tb_mem 701 (by decide +kernel) (by decide +kernel), tb_mem 132 (by decide +kernel) (by decide +kernel), tb_mem 702 (by decide +kernel) (by decide +kernel)⟩
theorem an_RX1_36 : AL9 RX1 36 4 9 := ⟨by decide, tb_mem 155 (by decide +kernel) (by decide +kernel)⟩
theorem ca_RJ7_317 : Cond.classLink RJ7 317 "[I" ∈ Tb := tb_mem 905 (by decide +kernel) (by decide +kernel)
theorem cl_RJ7_316 : CL9 RJ7 316 := ⟨tb_mem 899 (by decide +kernel) (by decide +kernel), tb_mem 900 (by decide +kernel) (by decide +kernel), tb_mem 901 (by decide +kernel) (by decide +kernel), tb_mem 902 (by decide +kernel) (by decide +kernel), tb_mem 903 (by decide +kernel) (by decide +kernel)⟩
theorem il_RX3_11 : IL RX3 11 yX0_init cX0_init 1 0 := ⟨Or.inr ⟨RX10, by decide +kernel⟩, tb_mem 126 (by decide +kernel) (by decide +kernel), tb_mem 371 (by decide +kernel) (by decide +kernel), tb_mem 370 (by decide +kernel) (by decide +kernel), rfl, by decide +kernel⟩
theorem il_RX6_17 : IL RX6 17 yX9_init cX9_init 1 0 := ⟨Or.inl (tb_mem 260 (by decide +kernel) (by decide +kernel)), tb_mem 123 (by decide +kernel) (by decide +kernel), tb_mem 262 (by decide +kernel) (by decide +kernel), tb_mem 261 (by decide +kernel) (by decide +kernel), rfl, by decide +kernel⟩
theorem il_RX7_17 : IL RX7 17 yX0_init cX0_init 1 0 := ⟨Or.inr ⟨RX10, by decide +kernel⟩, tb_mem 126 (by decide +kernel) (by decide +kernel), tb_mem 371 (by decide +kernel) (by decide +kernel), tb_mem 370 (by decide +kernel) (by decide +kernel), rfl, by decide +kernel⟩
theorem il_RX10_11 : IL RX10 11 yX1_init cX1_init 1 0 := ⟨Or.inl (tb_mem 151 (by decide +kernel) (by decide +kernel)), tb_mem 121 (by decide +kernel) (by decide +kernel), tb_mem 153 (by decide +kernel) (by decide +kernel), tb_mem 152 (by decide +kernel) (by decide +kernel), rfl, by decide +kernel⟩
theorem il_RX10_185 : IL RX10 185 yX9_init_ cX9_init_ 2 1 := ⟨Or.inl (tb_mem 893 (by decide +kernel) (by decide +kernel)), tb_mem 123 (by decide +kernel) (by decide +kernel), tb_mem 895 (by decide +kernel) (by decide +kernel), tb_mem 894 (by decide +kernel) (by decide +kernel), rfl, by decide +kernel⟩
theorem nw_RX3_9 : NL RX3 9 0 := ⟨by decide, tb_mem 367 (by decide +kernel) (by decide +kernel), tb_mem 368 (by decide +kernel) (by decide +kernel), tb_mem 126 (by decide +kernel) (by decide +kernel)⟩
theorem nw_RX6_15 : NL RX6 15 9 := ⟨by decide, tb_mem 258 (by decide +kernel) (by decide +kernel), tb_mem 259 (by decide +kernel) (by decide +kernel), tb_mem 123 (by decide +kernel) (by decide +kernel)⟩
theorem nw_RX7_15 : NL RX7 15 0 := ⟨by decide, tb_mem 478 (by decide +kernel) (by decide +kernel), tb_mem 368 (by decide +kernel) (by decide +kernel), tb_mem 126 (by decide +kernel) (by decide +kernel)⟩
theorem nw_RX10_179 : NL RX10 179 9 := ⟨by decide, tb_mem 892 (by decide +kernel) (by decide +kernel), tb_mem 259 (by decide +kernel) (by decide +kernel), tb_mem 123 (by decide +kernel) (by decide +kernel)⟩
theorem nw_RX10_9 : NL RX10 9 1 := ⟨by decide, tb_mem 149 (by decide +kernel) (by decide +kernel), tb_mem 150 (by decide +kernel) (by decide +kernel), tb_mem 121 (by decide +kernel) (by decide +kernel)⟩
theorem ol_RX0_1 : OL RX0 1 := ⟨tb_mem 372 (by decide +kernel) (by decide +kernel), tb_mem 147 (by decide +kernel) (by decide +kernel), tb_mem 148 (by decide +kernel) (by decide +kernel)⟩
theorem ol_RX1_3 : OL RX1 3 := ⟨tb_mem 154 (by decide +kernel) (by decide +kernel), tb_mem 147 (by decide +kernel) (by decide +kernel), tb_mem 148 (by decide +kernel) (by decide +kernel)⟩
theorem ol_RX2_3 : OL RX2 3 := ⟨tb_mem 399 (by decide +kernel) (by decide +kernel), tb_mem 147 (by decide +kernel) (by decide +kernel), tb_mem 148 (by decide +kernel) (by decide +kernel)⟩
theorem ol_RX3_3 : OL RX3 3 := ⟨tb_mem 366 (by decide +kernel) (by decide +kernel), tb_mem 147 (by decide +kernel) (by decide +kernel), tb_mem 148 (by decide +kernel) (by decide +kernel)⟩
theorem ol_RX4_3 : OL RX4 3 := ⟨tb_mem 349 (by decide +kernel) (by decide +kernel), tb_mem 147 (by decide +kernel) (by decide +kernel), tb_mem 148 (by decide +kernel) (by decide +kernel)⟩
theorem ol_RX5_3 : OL RX5 3 := ⟨tb_mem 415 (by decide +kernel) (by decide +kernel), tb_mem 147 (by decide +kernel) (by decide +kernel), tb_mem 148 (by decide +kernel) (by decide +kernel)⟩
theorem ol_RX6_3 : OL RX6 3 := ⟨tb_mem 257 (by decide +kernel) (by decide +kernel), tb_mem 147 (by decide +kernel) (by decide +kernel), tb_mem 148 (by decide +kernel) (by decide +kernel)⟩
theorem ol_RX7_3 : OL RX7 3 := ⟨tb_mem 477 (by decide +kernel) (by decide +kernel), tb_mem 147 (by decide +kernel) (by decide +kernel), tb_mem 148 (by decide +kernel) (by decide +kernel)⟩
theorem ol_RX8_3 : OL RX8 3 := ⟨tb_mem 499 (by decide +kernel) (by decide +kernel), tb_mem 147 (by decide +kernel) (by decide +kernel), tb_mem 148 (by decide +kernel) (by decide +kernel)⟩
theorem ol_RX9_3 : OL RX9 3 := ⟨tb_mem 263 (by decide +kernel) (by decide +kernel), tb_mem 147 (by decide +kernel) (by decide +kernel), tb_mem 148 (by decide +kernel) (by decide +kernel)⟩
-- java/util/Arrays.copyOf([II)[I
theorem dJ7_copyOf_59c91_0 : decode cJ7_copyOf_59c91 0 = .ok (.iload_n 1, 1) := by decide +kernel
theorem dJ7_copyOf_59c91_1 : decode cJ7_copyOf_59c91 1 = .ok (.aload_n 0, 1) := by decide +kernel
theorem dJ7_copyOf_59c91_2 : decode cJ7_copyOf_59c91 2 = .ok (.arraylength, 1) := by decide +kernel
theorem dJ7_copyOf_59c91_3 : decode cJ7_copyOf_59c91 3 = .ok (.if_icmp .ne 11, 3) := by decide +kernel
theorem dJ7_copyOf_59c91_6 : decode cJ7_copyOf_59c91 6 = .ok (.aload_n 0, 1) := by decide +kernel
theorem dJ7_copyOf_59c91_7 : decode cJ7_copyOf_59c91 7 = .ok (.invokevirtual 316, 3) := by decide +kernel
theorem dJ7_copyOf_59c91_10 : decode cJ7_copyOf_59c91 10 = .ok (.checkcast 317, 3) := by decide +kernel
theorem dJ7_copyOf_59c91_13 : decode cJ7_copyOf_59c91 13 = .ok (.areturn, 1) := by decide +kernel
theorem dJ7_copyOf_59c91_14 : decode cJ7_copyOf_59c91 14 = .ok (.iload_n 1, 1) := by decide +kernel
theorem dJ7_copyOf_59c91_15 : decode cJ7_copyOf_59c91 15 = .ok (.newarray .int, 2) := by decide +kernel
theorem dJ7_copyOf_59c91_17 : decode cJ7_copyOf_59c91 17 = .ok (.astore_n 2, 1) := by decide +kernel
theorem dJ7_copyOf_59c91_18 : decode cJ7_copyOf_59c91 18 = .ok (.aload_n 0, 1) := by decide +kernel
theorem dJ7_copyOf_59c91_19 : decode cJ7_copyOf_59c91 19 = .ok (.iconst 0, 1) := by decide +kernel
theorem dJ7_copyOf_59c91_20 : decode cJ7_copyOf_59c91 20 = .ok (.aload_n 2, 1) := by decide +kernel
theorem dJ7_copyOf_59c91_21 : decode cJ7_copyOf_59c91 21 = .ok (.iconst 0, 1) := by decide +kernel
theorem dJ7_copyOf_59c91_22 : decode cJ7_copyOf_59c91 22 = .ok (.aload_n 0, 1) := by decide +kernel
theorem dJ7_copyOf_59c91_23 : decode cJ7_copyOf_59c91 23 = .ok (.arraylength, 1) := by decide +kernel
theorem dJ7_copyOf_59c91_24 : decode cJ7_copyOf_59c91 24 = .ok (.iload_n 1, 1) := by decide +kernel
theorem dJ7_copyOf_59c91_25 : decode cJ7_copyOf_59c91 25 = .ok (.invokestatic 304, 3) := by decide +kernel
theorem dJ7_copyOf_59c91_28 : decode cJ7_copyOf_59c91 28 = .ok (.invokestatic 150, 3) := by decide +kernel
theorem dJ7_copyOf_59c91_31 : decode cJ7_copyOf_59c91 31 = .ok (.aload_n 2, 1) := by decide +kernel
theorem dJ7_copyOf_59c91_32 : decode cJ7_copyOf_59c91 32 = .ok (.areturn, 1) := by decide +kernel
def wp_J7_copyOf_59c91 (a1 : Nat) (a2 : Int) (σ : st_S) (Q : Nat → st_S → Prop) : Prop := gK σ a1 = 0 ∧ (¬ a2 = wr ((gL σ a1) : Int) → (0 ≤ a2 ∧ a2 ≤ 1000000) ∧ ∀ (t16 : Nat) (s17 : st_S), t16 = gN σ → s17 = sA σ 0 (Int.toNat a2) → gK s17 a1 = 0 ∧ cpOk 0 0 (o_min (wr ((gL s17 a1) : Int)) a2) (gL s17 a1) (gL s17 t16) ∧ ∀ s21 : st_S, s21 = sC s17 a1 0 t16 0 (o_min (wr ((gL s17 a1) : Int)) a2) → Q t16 s21) ∧ (a2 = wr ((gL σ a1) : Int) → gK σ a1 = 0 ∧ (gL σ a1) ≤ 1000000 ∧ ∀ (t23 : Nat) (s24 : st_S), t23 = gN σ → s24 = sF (sA σ 0 (gL σ a1)) (gN σ) (gI σ a1) → gK s24 t23 = 0 ∧ Q t23 s24)
set_option maxRecDepth 20000 in
theorem c_J7_copyOf_59c91 {l : Launch} {E : ev_E} (hE : Eok E) {σ : st_S} (hM : MkE E (gN σ)) {a1 : Nat} {a2 : Int} (ca2 : wr a2 = a2) {Q : Nat → st_S → Prop} (h : wp_J7_copyOf_59c91 a1 a2 σ Q) : cM l yJ7_copyOf_59c91 cJ7_copyOf_59c91 3 (some (.array .int)) E 1 1 (Int.toNat a2) [vR E a1, vI a2] σ (qR E (gN σ + 1) Q) := by
  refine cM_of (lv := [(0, vR E a1), (1, vI a2)]) (by decide) hE (Nat.le_of_ble_eq_true rfl) rfl ?_
  intro X hX hc hcl hsl hr hnm _
  subst hX
  have hh : 1 ≤ 1 := Nat.le_refl _
  have hh1 : 1 ≤ 1 := by omega
  replace h : gK σ a1 = 0 ∧ (¬ a2 = wr ((gL σ a1) : Int) → (0 ≤ a2 ∧ a2 ≤ 1000000) ∧ ∀ (t16 : Nat) (s17 : st_S), t16 = gN σ → s17 = sA σ 0 (Int.toNat a2) → gK s17 a1 = 0 ∧ cpOk 0 0 (o_min (wr ((gL s17 a1) : Int)) a2) (gL s17 a1) (gL s17 t16) ∧ ∀ s21 : st_S, s21 = sC s17 a1 0 t16 0 (o_min (wr ((gL s17 a1) : Int)) a2) → Q t16 s21) ∧ (a2 = wr ((gL σ a1) : Int) → gK σ a1 = 0 ∧ (gL σ a1) ≤ 1000000 ∧ ∀ (t23 : Nat) (s24 : st_S), t23 = gN σ → s24 = sF (sA σ 0 (gL σ a1)) (gN σ) (gI σ a1) → gK s24 t23 = 0 ∧ Q t23 s24) := h
  refine j_iload_n hc 1 dJ7_copyOf_59c91_0 rfl rfl ?_
  refine j_aload_nR hc 0 dJ7_copyOf_59c91_1 rfl rfl ?_
  obtain ⟨f15, h⟩ := h
  refine j_alen hc 0 (by decide) (fun _ => ⟨f15, rfl⟩) dJ7_copyOf_59c91_2 ?_
  refine j_ic_ne hc ca2 rfl (tgt := 14) dJ7_copyOf_59c91_3 (by decide) (fun q28 => ?_) (fun q28 => ?_)
  · replace h := h.1 q28
    refine j_iload_n hc 1 dJ7_copyOf_59c91_14 rfl rfl ?_
    obtain ⟨b18, h⟩ := h
    refine j_newa (N := (Int.toNat a2)) hc (hM.at hc) nk_0 (by rw [ca2]; omega) (by omega) (by constructor <;> omega) dJ7_copyOf_59c91_15 (fun t16 s17 et16 es17 => ?_)
    replace h := h t16 s17 et16 es17
    refine j_astore_nR (lv' := [(2, vR E t16), (0, vR E a1), (1, vI a2)]) hc dJ7_copyOf_59c91_17 rfl (by decide) rfl ?_
    refine j_aload_nR hc 1 dJ7_copyOf_59c91_18 rfl rfl ?_
    refine j_iconst hc dJ7_copyOf_59c91_19 ?_
    refine j_aload_nR hc 0 dJ7_copyOf_59c91_20 rfl rfl ?_
    refine j_iconst hc dJ7_copyOf_59c91_21 ?_
    refine j_aload_nR hc 1 dJ7_copyOf_59c91_22 rfl rfl ?_
    obtain ⟨f19, h⟩ := h
    refine j_alen hc 0 (by decide) (fun _ => ⟨f19, rfl⟩) dJ7_copyOf_59c91_23 ?_
    refine j_iload_n hc 2 dJ7_copyOf_59c91_24 rfl rfl ?_
    refine j_mmin hc mm_RJ7_304 hh1 rfl ca2 (Nat.le_of_ble_eq_true rfl) (by constructor <;> omega) dJ7_copyOf_59c91_25 (fun cn20 => ?_)
    obtain ⟨b22, h⟩ := h
    refine j_copy hc mc_RJ7_150 hh1 (fun _ => ⟨f19, rfl⟩) (fun _ => ⟨(kNew et16 es17), rfl⟩) (wlit 0 (by decide)) (wlit 0 (by decide)) cn20 b22 (Nat.le_of_ble_eq_true rfl) dJ7_copyOf_59c91_28 (fun s21 es21 => ?_)
    replace h := h s21 es21
    refine j_aload_nR hc 0 dJ7_copyOf_59c91_31 rfl rfl ?_
    refine j_wide (slots' := (Int.toNat a2)) (by omega) ?_
    exact j_aret hc hr (Or.inr ⟨_, rfl⟩) h dJ7_copyOf_59c91_32
  · replace h := h.2 q28
    refine j_aload_nR hc 0 dJ7_copyOf_59c91_6 rfl rfl ?_
    obtain ⟨f26, b25, h⟩ := h
    have hl2 : (gL σ a1) ≤ (Int.toNat a2) := by have := wr_id (x := ((gL σ a1) : Int)) (by omega) (by omega); omega
    refine j_clone (N := (gL σ a1)) hc (hM.at hc) cl_RJ7_316 hh1 (fun _ => ⟨f26, rfl⟩) (by constructor <;> omega) (Nat.le_of_ble_eq_true rfl) dJ7_copyOf_59c91_7 (fun t23 s24 et23 es24 => ?_)
    replace h := h t23 s24 et23 es24
    obtain ⟨f27, h⟩ := h
    refine j_cast (N := gL s24 t23) hc ca_RJ7_317 (fun _ => ⟨f27, rfl⟩) dJ7_copyOf_59c91_10 ?_
    refine j_wide (slots' := (Int.toNat a2)) (by omega) ?_
    exact j_aret hc hr (Or.inr ⟨_, rfl⟩) h dJ7_copyOf_59c91_13
-- LitStrangers$Abacus.<init>()V
theorem dX0_init_0 : decode cX0_init 0 = .ok (.aload_n 0, 1) := by decide +kernel
theorem dX0_init_1 : decode cX0_init 1 = .ok (.invokespecial 1, 3) := by decide +kernel
theorem dX0_init_4 : decode cX0_init 4 = .ok (.aload_n 0, 1) := by decide +kernel
theorem dX0_init_5 : decode cX0_init 5 = .ok (.bipush 25, 2) := by decide +kernel
theorem dX0_init_7 : decode cX0_init 7 = .ok (.newarray .int, 2) := by decide +kernel
theorem dX0_init_9 : decode cX0_init 9 = .ok (.putfield 9, 3) := by decide +kernel
theorem dX0_init_12 : decode cX0_init 12 = .ok (.aload_n 0, 1) := by decide +kernel
theorem dX0_init_13 : decode cX0_init 13 = .ok (.bipush 64, 2) := by decide +kernel
theorem dX0_init_15 : decode cX0_init 15 = .ok (.newarray .int, 2) := by decide +kernel
theorem dX0_init_17 : decode cX0_init 17 = .ok (.putfield 13, 3) := by decide +kernel
theorem dX0_init_20 : decode cX0_init 20 = .ok (.return_, 1) := by decide +kernel
def wp_X0_init (t : Nat) (σ : st_S) (Q : st_S → Prop) : Prop := ∀ (t11 : Nat) (s12 : st_S), t11 = gN σ → s12 = sA σ 0 25 → gK s12 t = 32 + 0 ∧ ∀ s14 : st_S, s14 = sR s12 t 0 (some t11) → ∀ (t15 : Nat) (s16 : st_S), t15 = gN s14 → s16 = sA s14 0 64 → gK s16 t = 32 + 0 ∧ ∀ s18 : st_S, s18 = sR s16 t 2 (some t15) → Q s18
set_option maxRecDepth 20000 in
theorem c_X0_init {l : Launch} {E : ev_E} (hE : Eok E) {σ : st_S} (hM : MkE E (gN σ)) {t : Nat} {Q : st_S → Prop} (h : wp_X0_init t σ Q) : cM l yX0_init cX0_init 1 none E 1 2 89 [vR E t] σ (qV E (gN σ + 2) Q) := by
  refine cM_of (lv := [(0, vR E t)]) (by decide) hE (Nat.le_of_ble_eq_true rfl) rfl ?_
  intro X hX hc hcl hsl hr hnm _
  subst hX
  have hh : 1 ≤ 1 := Nat.le_refl _
  have hh1 : 1 ≤ 1 := by omega
  replace h : ∀ (t11 : Nat) (s12 : st_S), t11 = gN σ → s12 = sA σ 0 25 → gK s12 t = 32 + 0 ∧ ∀ s14 : st_S, s14 = sR s12 t 0 (some t11) → ∀ (t15 : Nat) (s16 : st_S), t15 = gN s14 → s16 = sA s14 0 64 → gK s16 t = 32 + 0 ∧ ∀ s18 : st_S, s18 = sR s16 t 2 (some t15) → Q s18 := h
  refine j_aload_nR hc 0 dX0_init_0 rfl rfl ?_
  refine j_obj hc ol_RX0_1 hh1 (Nat.le_of_ble_eq_true rfl) dX0_init_1 ?_
  refine j_aload_nR hc 0 dX0_init_4 rfl rfl ?_
  refine j_bipush hc dX0_init_5 (by decide) ?_
  refine j_newa (N := 25) hc (hM.at hc) nk_0 (by decide) (by decide) (by constructor <;> omega) dX0_init_7 (fun t11 s12 et11 es12 => ?_)
  replace h := h t11 s12 et11 es12
  obtain ⟨f13, h⟩ := h
  refine j_putR hc fl_RX0_9 rfl (Or.inr ⟨rfl, hnm, rfl⟩) (fun _ => Or.inr f13) (fun _ => Or.inl f13) dX0_init_9 (fun s14 es14 => ?_)
  replace h := h s14 es14
  refine j_aload_nR hc 0 dX0_init_12 rfl rfl ?_
  refine j_bipush hc dX0_init_13 (by decide) ?_
  refine j_newa (N := 64) hc (hM.at hc) nk_0 (by decide) (by decide) (by constructor <;> omega) dX0_init_15 (fun t15 s16 et15 es16 => ?_)
  replace h := h t15 s16 et15 es16
  obtain ⟨f17, h⟩ := h
  refine j_putR hc fl_RX0_13 rfl (Or.inr ⟨rfl, hnm, rfl⟩) (fun _ => Or.inr f17) (fun _ => Or.inl f17) dX0_init_17 (fun s18 es18 => ?_)
  replace h := h s18 es18
  refine j_wide (slots' := 89) (by omega) ?_
  exact j_vret hc hr h dX0_init_20
-- LitStrangers$Coast.<init>()V
theorem dX1_init_0 : decode cX1_init 0 = .ok (.aload_n 0, 1) := by decide +kernel
theorem dX1_init_1 : decode cX1_init 1 = .ok (.invokespecial 3, 3) := by decide +kernel
theorem dX1_init_4 : decode cX1_init 4 = .ok (.aload_n 0, 1) := by decide +kernel
theorem dX1_init_5 : decode cX1_init 5 = .ok (.bipush 10, 2) := by decide +kernel
theorem dX1_init_7 : decode cX1_init 7 = .ok (.newarray .int, 2) := by decide +kernel
theorem dX1_init_9 : decode cX1_init 9 = .ok (.putfield 9, 3) := by decide +kernel
theorem dX1_init_12 : decode cX1_init 12 = .ok (.aload_n 0, 1) := by decide +kernel
theorem dX1_init_13 : decode cX1_init 13 = .ok (.bipush 10, 2) := by decide +kernel
theorem dX1_init_15 : decode cX1_init 15 = .ok (.newarray .int, 2) := by decide +kernel
theorem dX1_init_17 : decode cX1_init 17 = .ok (.putfield 15, 3) := by decide +kernel
theorem dX1_init_20 : decode cX1_init 20 = .ok (.aload_n 0, 1) := by decide +kernel
theorem dX1_init_21 : decode cX1_init 21 = .ok (.bipush 10, 2) := by decide +kernel
theorem dX1_init_23 : decode cX1_init 23 = .ok (.newarray .int, 2) := by decide +kernel
theorem dX1_init_25 : decode cX1_init 25 = .ok (.putfield 18, 3) := by decide +kernel
theorem dX1_init_28 : decode cX1_init 28 = .ok (.aload_n 0, 1) := by decide +kernel
theorem dX1_init_29 : decode cX1_init 29 = .ok (.bipush 10, 2) := by decide +kernel
theorem dX1_init_31 : decode cX1_init 31 = .ok (.newarray .int, 2) := by decide +kernel
theorem dX1_init_33 : decode cX1_init 33 = .ok (.putfield 21, 3) := by decide +kernel
theorem dX1_init_36 : decode cX1_init 36 = .ok (.aload_n 0, 1) := by decide +kernel
theorem dX1_init_37 : decode cX1_init 37 = .ok (.bipush 10, 2) := by decide +kernel
theorem dX1_init_39 : decode cX1_init 39 = .ok (.newarray .int, 2) := by decide +kernel
theorem dX1_init_41 : decode cX1_init 41 = .ok (.putfield 24, 3) := by decide +kernel
theorem dX1_init_44 : decode cX1_init 44 = .ok (.aload_n 0, 1) := by decide +kernel
theorem dX1_init_45 : decode cX1_init 45 = .ok (.bipush 10, 2) := by decide +kernel
theorem dX1_init_47 : decode cX1_init 47 = .ok (.newarray .int, 2) := by decide +kernel
theorem dX1_init_49 : decode cX1_init 49 = .ok (.putfield 27, 3) := by decide +kernel
theorem dX1_init_52 : decode cX1_init 52 = .ok (.aload_n 0, 1) := by decide +kernel
theorem dX1_init_53 : decode cX1_init 53 = .ok (.bipush 100, 2) := by decide +kernel
theorem dX1_init_55 : decode cX1_init 55 = .ok (.newarray .int, 2) := by decide +kernel
theorem dX1_init_57 : decode cX1_init 57 = .ok (.putfield 30, 3) := by decide +kernel
theorem dX1_init_60 : decode cX1_init 60 = .ok (.aload_n 0, 1) := by decide +kernel
theorem dX1_init_61 : decode cX1_init 61 = .ok (.iconst 3, 1) := by decide +kernel
theorem dX1_init_62 : decode cX1_init 62 = .ok (.newarray .int, 2) := by decide +kernel
theorem dX1_init_64 : decode cX1_init 64 = .ok (.putfield 33, 3) := by decide +kernel
theorem dX1_init_67 : decode cX1_init 67 = .ok (.aload_n 0, 1) := by decide +kernel
theorem dX1_init_68 : decode cX1_init 68 = .ok (.bipush 6, 2) := by decide +kernel
theorem dX1_init_70 : decode cX1_init 70 = .ok (.anewarray 36, 3) := by decide +kernel
theorem dX1_init_73 : decode cX1_init 73 = .ok (.putfield 38, 3) := by decide +kernel
theorem dX1_init_76 : decode cX1_init 76 = .ok (.aload_n 0, 1) := by decide +kernel
theorem dX1_init_77 : decode cX1_init 77 = .ok (.iconst (-1), 1) := by decide +kernel
theorem dX1_init_78 : decode cX1_init 78 = .ok (.putfield 42, 3) := by decide +kernel
theorem dX1_init_81 : decode cX1_init 81 = .ok (.aload_n 0, 1) := by decide +kernel
theorem dX1_init_82 : decode cX1_init 82 = .ok (.getfield 33, 3) := by decide +kernel
theorem dX1_init_85 : decode cX1_init 85 = .ok (.iconst 1, 1) := by decide +kernel
theorem dX1_init_86 : decode cX1_init 86 = .ok (.iconst 3, 1) := by decide +kernel
theorem dX1_init_87 : decode cX1_init 87 = .ok (.iastore, 1) := by decide +kernel
theorem dX1_init_88 : decode cX1_init 88 = .ok (.return_, 1) := by decide +kernel
def wp_X1_init (t : Nat) (σ : st_S) (Q : st_S → Prop) : Prop := ∀ (t53 : Nat) (s54 : st_S), t53 = gN σ → s54 = sA σ 0 10 → gK s54 t = 32 + 1 ∧ ∀ s56 : st_S, s56 = sR s54 t 1 (some t53) → ∀ (t57 : Nat) (s58 : st_S), t57 = gN s56 → s58 = sA s56 0 10 → gK s58 t = 32 + 1 ∧ ∀ s60 : st_S, s60 = sR s58 t 2 (some t57) → ∀ (t61 : Nat) (s62 : st_S), t61 = gN s60 → s62 = sA s60 0 10 → gK s62 t = 32 + 1 ∧ ∀ s64 : st_S, s64 = sR s62 t 3 (some t61) → ∀ (t65 : Nat) (s66 : st_S), t65 = gN s64 → s66 = sA s64 0 10 → gK s66 t = 32 + 1 ∧ ∀ s68 : st_S, s68 = sR s66 t 4 (some t65) → ∀ (t69 : Nat) (s70 : st_S), t69 = gN s68 → s70 = sA s68 0 10 → gK s70 t = 32 + 1 ∧ ∀ s72 : st_S, s72 = sR s70 t 5 (some t69) → ∀ (t73 : Nat) (s74 : st_S), t73 = gN s72 → s74 = sA s72 0 10 → gK s74 t = 32 + 1 ∧ ∀ s76 : st_S, s76 = sR s74 t 6 (some t73) → ∀ (t77 : Nat) (s78 : st_S), t77 = gN s76 → s78 = sA s76 0 100 → gK s78 t = 32 + 1 ∧ ∀ s80 : st_S, s80 = sR s78 t 7 (some t77) → ∀ (t81 : Nat) (s82 : st_S), t81 = gN s80 → s82 = sA s80 0 3 → gK s82 t = 32 + 1 ∧ ∀ s84 : st_S, s84 = sR s82 t 8 (some t81) → ∀ (t85 : Nat) (s86 : st_S), t85 = gN s84 → s86 = sA s84 4 6 → gK s86 t = 32 + 1 ∧ ∀ s88 : st_S, s88 = sR s86 t 9 (some t85) → ∀ s89 : st_S, s89 = sI s88 t 11 (-1) → ∃ t90 : Nat, gR s89 t 8 = some t90 ∧ gK s89 t90 = 0 ∧ ix 1 (gL s89 t90) ∧ ∀ s93 : st_S, s93 = sI s89 t90 1 3 → Q s93
set_option maxRecDepth 20000 in
theorem c_X1_init {l : Launch} {E : ev_E} (hE : Eok E) {σ : st_S} (hM : MkE E (gN σ)) {t : Nat} {Q : st_S → Prop} (h : wp_X1_init t σ Q) : cM l yX1_init cX1_init 1 none E 1 9 169 [vR E t] σ (qV E (gN σ + 9) Q) := by
  refine cM_of (lv := [(0, vR E t)]) (by decide) hE (Nat.le_of_ble_eq_true rfl) rfl ?_
  intro X hX hc hcl hsl hr hnm _
  subst hX
  have hh : 1 ≤ 1 := Nat.le_refl _
  have hh1 : 1 ≤ 1 := by omega
  replace h : ∀ (t53 : Nat) (s54 : st_S), t53 = gN σ → s54 = sA σ 0 10 → gK s54 t = 32 + 1 ∧ ∀ s56 : st_S, s56 = sR s54 t 1 (some t53) → ∀ (t57 : Nat) (s58 : st_S), t57 = gN s56 → s58 = sA s56 0 10 → gK s58 t = 32 + 1 ∧ ∀ s60 : st_S, s60 = sR s58 t 2 (some t57) → ∀ (t61 : Nat) (s62 : st_S), t61 = gN s60 → s62 = sA s60 0 10 → gK s62 t = 32 + 1 ∧ ∀ s64 : st_S, s64 = sR s62 t 3 (some t61) → ∀ (t65 : Nat) (s66 : st_S), t65 = gN s64 → s66 = sA s64 0 10 → gK s66 t = 32 + 1 ∧ ∀ s68 : st_S, s68 = sR s66 t 4 (some t65) → ∀ (t69 : Nat) (s70 : st_S), t69 = gN s68 → s70 = sA s68 0 10 → gK s70 t = 32 + 1 ∧ ∀ s72 : st_S, s72 = sR s70 t 5 (some t69) → ∀ (t73 : Nat) (s74 : st_S), t73 = gN s72 → s74 = sA s72 0 10 → gK s74 t = 32 + 1 ∧ ∀ s76 : st_S, s76 = sR s74 t 6 (some t73) → ∀ (t77 : Nat) (s78 : st_S), t77 = gN s76 → s78 = sA s76 0 100 → gK s78 t = 32 + 1 ∧ ∀ s80 : st_S, s80 = sR s78 t 7 (some t77) → ∀ (t81 : Nat) (s82 : st_S), t81 = gN s80 → s82 = sA s80 0 3 → gK s82 t = 32 + 1 ∧ ∀ s84 : st_S, s84 = sR s82 t 8 (some t81) → ∀ (t85 : Nat) (s86 : st_S), t85 = gN s84 → s86 = sA s84 4 6 → gK s86 t = 32 + 1 ∧ ∀ s88 : st_S, s88 = sR s86 t 9 (some t85) → ∀ s89 : st_S, s89 = sI s88 t 11 (-1) → ∃ t90 : Nat, gR s89 t 8 = some t90 ∧ gK s89 t90 = 0 ∧ ix 1 (gL s89 t90) ∧ ∀ s93 : st_S, s93 = sI s89 t90 1 3 → Q s93 := h
  refine j_aload_nR hc 0 dX1_init_0 rfl rfl ?_
  refine j_obj hc ol_RX1_3 hh1 (Nat.le_of_ble_eq_true rfl) dX1_init_1 ?_
  refine j_aload_nR hc 0 dX1_init_4 rfl rfl ?_
  refine j_bipush hc dX1_init_5 (by decide) ?_
  refine j_newa (N := 10) hc (hM.at hc) nk_0 (by decide) (by decide) (by constructor <;> omega) dX1_init_7 (fun t53 s54 et53 es54 => ?_)
  replace h := h t53 s54 et53 es54
  obtain ⟨f55, h⟩ := h
  refine j_putR hc fl_RX1_9 rfl (Or.inr ⟨rfl, hnm, rfl⟩) (fun _ => Or.inr f55) (fun _ => Or.inl f55) dX1_init_9 (fun s56 es56 => ?_)
  replace h := h s56 es56
  refine j_aload_nR hc 0 dX1_init_12 rfl rfl ?_
  refine j_bipush hc dX1_init_13 (by decide) ?_
  refine j_newa (N := 10) hc (hM.at hc) nk_0 (by decide) (by decide) (by constructor <;> omega) dX1_init_15 (fun t57 s58 et57 es58 => ?_)
  replace h := h t57 s58 et57 es58
  obtain ⟨f59, h⟩ := h
  refine j_putR hc fl_RX1_15 rfl (Or.inr ⟨rfl, hnm, rfl⟩) (fun _ => Or.inr f59) (fun _ => Or.inl f59) dX1_init_17 (fun s60 es60 => ?_)
  replace h := h s60 es60
  refine j_aload_nR hc 0 dX1_init_20 rfl rfl ?_
  refine j_bipush hc dX1_init_21 (by decide) ?_
  refine j_newa (N := 10) hc (hM.at hc) nk_0 (by decide) (by decide) (by constructor <;> omega) dX1_init_23 (fun t61 s62 et61 es62 => ?_)
  replace h := h t61 s62 et61 es62
  obtain ⟨f63, h⟩ := h
  refine j_putR hc fl_RX1_18 rfl (Or.inr ⟨rfl, hnm, rfl⟩) (fun _ => Or.inr f63) (fun _ => Or.inl f63) dX1_init_25 (fun s64 es64 => ?_)
  replace h := h s64 es64
  refine j_aload_nR hc 0 dX1_init_28 rfl rfl ?_
  refine j_bipush hc dX1_init_29 (by decide) ?_
  refine j_newa (N := 10) hc (hM.at hc) nk_0 (by decide) (by decide) (by constructor <;> omega) dX1_init_31 (fun t65 s66 et65 es66 => ?_)
  replace h := h t65 s66 et65 es66
  obtain ⟨f67, h⟩ := h
  refine j_putR hc fl_RX1_21 rfl (Or.inr ⟨rfl, hnm, rfl⟩) (fun _ => Or.inr f67) (fun _ => Or.inl f67) dX1_init_33 (fun s68 es68 => ?_)
  replace h := h s68 es68
  refine j_aload_nR hc 0 dX1_init_36 rfl rfl ?_
  refine j_bipush hc dX1_init_37 (by decide) ?_
  refine j_newa (N := 10) hc (hM.at hc) nk_0 (by decide) (by decide) (by constructor <;> omega) dX1_init_39 (fun t69 s70 et69 es70 => ?_)
  replace h := h t69 s70 et69 es70
  obtain ⟨f71, h⟩ := h
  refine j_putR hc fl_RX1_24 rfl (Or.inr ⟨rfl, hnm, rfl⟩) (fun _ => Or.inr f71) (fun _ => Or.inl f71) dX1_init_41 (fun s72 es72 => ?_)
  replace h := h s72 es72
  refine j_aload_nR hc 0 dX1_init_44 rfl rfl ?_
  refine j_bipush hc dX1_init_45 (by decide) ?_
  refine j_newa (N := 10) hc (hM.at hc) nk_0 (by decide) (by decide) (by constructor <;> omega) dX1_init_47 (fun t73 s74 et73 es74 => ?_)
  replace h := h t73 s74 et73 es74
  obtain ⟨f75, h⟩ := h
  refine j_putR hc fl_RX1_27 rfl (Or.inr ⟨rfl, hnm, rfl⟩) (fun _ => Or.inr f75) (fun _ => Or.inl f75) dX1_init_49 (fun s76 es76 => ?_)
  replace h := h s76 es76
  refine j_aload_nR hc 0 dX1_init_52 rfl rfl ?_
  refine j_bipush hc dX1_init_53 (by decide) ?_
  refine j_newa (N := 100) hc (hM.at hc) nk_0 (by decide) (by decide) (by constructor <;> omega) dX1_init_55 (fun t77 s78 et77 es78 => ?_)
  replace h := h t77 s78 et77 es78
  obtain ⟨f79, h⟩ := h
  refine j_putR hc fl_RX1_30 rfl (Or.inr ⟨rfl, hnm, rfl⟩) (fun _ => Or.inr f79) (fun _ => Or.inl f79) dX1_init_57 (fun s80 es80 => ?_)
  replace h := h s80 es80
  refine j_aload_nR hc 0 dX1_init_60 rfl rfl ?_
  refine j_iconst hc dX1_init_61 ?_
  refine j_newa (N := 3) hc (hM.at hc) nk_0 (by decide) (by decide) (by constructor <;> omega) dX1_init_62 (fun t81 s82 et81 es82 => ?_)
  replace h := h t81 s82 et81 es82
  obtain ⟨f83, h⟩ := h
  refine j_putR hc fl_RX1_33 rfl (Or.inr ⟨rfl, hnm, rfl⟩) (fun _ => Or.inr f83) (fun _ => Or.inl f83) dX1_init_64 (fun s84 es84 => ?_)
  replace h := h s84 es84
  refine j_aload_nR hc 0 dX1_init_67 rfl rfl ?_
  refine j_bipush hc dX1_init_68 (by decide) ?_
  refine j_anew (N := 6) hc (hM.at hc) an_RX1_36 (by decide) (by decide) (by constructor <;> omega) dX1_init_70 (fun t85 s86 et85 es86 => ?_)
  replace h := h t85 s86 et85 es86
  obtain ⟨f87, h⟩ := h
  refine j_putR hc fl_RX1_38 rfl (Or.inr ⟨rfl, hnm, rfl⟩) (fun _ => Or.inr f87) (fun _ => Or.inl f87) dX1_init_73 (fun s88 es88 => ?_)
  replace h := h s88 es88
  refine j_aload_nR hc 0 dX1_init_76 rfl rfl ?_
  refine j_iconst hc dX1_init_77 ?_
  refine j_putI hc fl_RX1_42 rfl rfl (fun _ => Or.inr (kI (Or.inr ⟨_, _, _, es88⟩) f87)) (wlit (-1) (by decide)) dX1_init_78 (fun s89 es89 => ?_)
  replace h := h s89 es89
  refine j_aload_nR hc 0 dX1_init_81 rfl rfl ?_
  refine j_getO hc fl_RX1_33 rfl (fun _ => Or.inr (kI (Or.inl ⟨_, _, _, es89⟩) (kI (Or.inr ⟨_, _, _, es88⟩) f87))) dX1_init_82 ?_
  obtain ⟨t90, et90, h⟩ := h
  refine j_some et90 ?_
  refine j_iconst hc dX1_init_85 ?_
  refine j_iconst hc dX1_init_86 ?_
  obtain ⟨f91, h⟩ := h
  obtain ⟨b92, h⟩ := h
  refine j_iast (jn := 1) hc (fun _ => ⟨f91, rfl⟩) (wlit 1 (by decide)) b92 rfl (wlit 3 (by decide)) dX1_init_87 (fun s93 es93 => ?_)
  replace h := h s93 es93
  refine j_wide (slots' := 169) (by omega) ?_
  exact j_vret hc hr h dX1_init_88
-- LitStrangers$Deeds.<init>(LLitStrangers$Coast;LLitStrangers$Judge;LLitStrangers$Log;)V
theorem dX2_init_0 : decode cX2_init 0 = .ok (.aload_n 0, 1) := by decide +kernel
theorem dX2_init_1 : decode cX2_init 1 = .ok (.invokespecial 3, 3) := by decide +kernel
theorem dX2_init_4 : decode cX2_init 4 = .ok (.aload_n 0, 1) := by decide +kernel
theorem dX2_init_5 : decode cX2_init 5 = .ok (.aload_n 1, 1) := by decide +kernel
theorem dX2_init_6 : decode cX2_init 6 = .ok (.putfield 9, 3) := by decide +kernel
theorem dX2_init_9 : decode cX2_init 9 = .ok (.aload_n 0, 1) := by decide +kernel
theorem dX2_init_10 : decode cX2_init 10 = .ok (.aload_n 2, 1) := by decide +kernel
theorem dX2_init_11 : decode cX2_init 11 = .ok (.putfield 15, 3) := by decide +kernel
theorem dX2_init_14 : decode cX2_init 14 = .ok (.aload_n 0, 1) := by decide +kernel
theorem dX2_init_15 : decode cX2_init 15 = .ok (.aload_n 3, 1) := by decide +kernel
theorem dX2_init_16 : decode cX2_init 16 = .ok (.putfield 19, 3) := by decide +kernel
theorem dX2_init_19 : decode cX2_init 19 = .ok (.return_, 1) := by decide +kernel
def wp_X2_init (t : Nat) (a1 : Nat) (a2 : Nat) (a3 : Nat) (σ : st_S) (Q : st_S → Prop) : Prop := gK σ t = 32 + 2 ∧ ∀ s8 : st_S, s8 = sR σ t 0 (some a1) → ∀ s9 : st_S, s9 = sR s8 t 1 (some a2) → ∀ s10 : st_S, s10 = sR s9 t 2 (some a3) → Q s10
set_option maxRecDepth 20000 in
theorem c_X2_init {l : Launch} {E : ev_E} (hE : Eok E) {σ : st_S} (hM : MkE E (gN σ)) {t : Nat} {a1 : Nat} {a2 : Nat} {a3 : Nat} {Q : st_S → Prop} (h : wp_X2_init t a1 a2 a3 σ Q) : cM l yX2_init cX2_init 4 none E 1 0 0 [vR E t, vR E a1, vR E a2, vR E a3] σ (qV E (gN σ + 0) Q) := by
  refine cM_of (lv := [(0, vR E t), (1, vR E a1), (2, vR E a2), (3, vR E a3)]) (by decide) hE (Nat.le_of_ble_eq_true rfl) rfl ?_
  intro X hX hc hcl hsl hr hnm _
  subst hX
  have hh : 1 ≤ 1 := Nat.le_refl _
  have hh1 : 1 ≤ 1 := by omega
  replace h : gK σ t = 32 + 2 ∧ ∀ s8 : st_S, s8 = sR σ t 0 (some a1) → ∀ s9 : st_S, s9 = sR s8 t 1 (some a2) → ∀ s10 : st_S, s10 = sR s9 t 2 (some a3) → Q s10 := h
  refine j_aload_nR hc 0 dX2_init_0 rfl rfl ?_
  refine j_obj hc ol_RX2_3 hh1 (Nat.le_of_ble_eq_true rfl) dX2_init_1 ?_
  refine j_aload_nR hc 0 dX2_init_4 rfl rfl ?_
  refine j_aload_nR hc 1 dX2_init_5 rfl rfl ?_
  obtain ⟨f7, h⟩ := h
  refine j_putR hc fl_RX2_9 rfl (Or.inr ⟨rfl, hnm, rfl⟩) (fun _ => Or.inr f7) (fun _ => Or.inl f7) dX2_init_6 (fun s8 es8 => ?_)
  replace h := h s8 es8
  refine j_aload_nR hc 0 dX2_init_9 rfl rfl ?_
  refine j_aload_nR hc 2 dX2_init_10 rfl rfl ?_
  refine j_putR hc fl_RX2_15 rfl (Or.inr ⟨rfl, hnm, rfl⟩) (fun _ => Or.inr (kI (Or.inr ⟨_, _, _, es8⟩) f7)) (fun _ => Or.inl (kI (Or.inr ⟨_, _, _, es8⟩) f7)) dX2_init_11 (fun s9 es9 => ?_)
  replace h := h s9 es9
  refine j_aload_nR hc 0 dX2_init_14 rfl rfl ?_
  refine j_aload_nR hc 3 dX2_init_15 rfl rfl ?_
  refine j_putR hc fl_RX2_19 rfl (Or.inr ⟨rfl, hnm, rfl⟩) (fun _ => Or.inr (kI (Or.inr ⟨_, _, _, es9⟩) (kI (Or.inr ⟨_, _, _, es8⟩) f7))) (fun _ => Or.inl (kI (Or.inr ⟨_, _, _, es9⟩) (kI (Or.inr ⟨_, _, _, es8⟩) f7))) dX2_init_16 (fun s10 es10 => ?_)
  replace h := h s10 es10
  refine j_wide (slots' := 0) (by omega) ?_
  exact j_vret hc hr h dX2_init_19
-- LitStrangers$Judge.<init>(LLitStrangers$Coast;)V
theorem dX3_init_0 : decode cX3_init 0 = .ok (.aload_n 0, 1) := by decide +kernel
theorem dX3_init_1 : decode cX3_init 1 = .ok (.invokespecial 3, 3) := by decide +kernel
theorem dX3_init_4 : decode cX3_init 4 = .ok (.aload_n 0, 1) := by decide +kernel
theorem dX3_init_5 : decode cX3_init 5 = .ok (.new 9, 3) := by decide +kernel
theorem dX3_init_8 : decode cX3_init 8 = .ok (.dup, 1) := by decide +kernel
theorem dX3_init_9 : decode cX3_init 9 = .ok (.invokespecial 11, 3) := by decide +kernel
theorem dX3_init_12 : decode cX3_init 12 = .ok (.putfield 12, 3) := by decide +kernel
theorem dX3_init_15 : decode cX3_init 15 = .ok (.aload_n 0, 1) := by decide +kernel
theorem dX3_init_16 : decode cX3_init 16 = .ok (.aload_n 1, 1) := by decide +kernel
theorem dX3_init_17 : decode cX3_init 17 = .ok (.putfield 18, 3) := by decide +kernel
theorem dX3_init_20 : decode cX3_init 20 = .ok (.return_, 1) := by decide +kernel
def wp_X3_init (t : Nat) (a1 : Nat) (σ : st_S) (Q : st_S → Prop) : Prop := ∀ (t10 : Nat) (s11 : st_S), t10 = gN σ → s11 = sA σ (32 + 0) 0 → wp_X0_init t10 s11 (fun s12 => Fin1 s12 t10 0 ∧ skNo 0 t10 ∧ ∀ s13 : st_S, s13 = sK s12 t10 (16 + 0) → gK s13 t = 32 + 3 ∧ ∀ s16 : st_S, s16 = sR s13 t 1 (some t10) → ∀ s17 : st_S, s17 = sR s16 t 0 (some a1) → Q s17)
set_option maxRecDepth 20000 in
theorem c_X3_init {l : Launch} {E : ev_E} (hE : Eok E) (hm : eM E = 0) {σ : st_S} (hM : MkE E (gN σ)) {t : Nat} {a1 : Nat} {Q : st_S → Prop} (h : wp_X3_init t a1 σ Q) : cM l yX3_init cX3_init 2 none E 2 3 92 [vR E t, vR E a1] σ (qV E (gN σ + 3) Q) := by
  refine cM_of (lv := [(0, vR E t), (1, vR E a1)]) (by decide) hE (Nat.le_of_ble_eq_true rfl) rfl ?_
  intro X hX hc hcl hsl hr hnm _
  subst hX
  have hh : 2 ≤ 2 := Nat.le_refl _
  have hh1 : 1 ≤ 2 := by omega
  replace h : ∀ (t10 : Nat) (s11 : st_S), t10 = gN σ → s11 = sA σ (32 + 0) 0 → wp_X0_init t10 s11 (fun s12 => Fin1 s12 t10 0 ∧ skNo 0 t10 ∧ ∀ s13 : st_S, s13 = sK s12 t10 (16 + 0) → gK s13 t = 32 + 3 ∧ ∀ s16 : st_S, s16 = sR s13 t 1 (some t10) → ∀ s17 : st_S, s17 = sR s16 t 0 (some a1) → Q s17) := h
  refine j_aload_nR hc 0 dX3_init_0 rfl rfl ?_
  refine j_obj hc ol_RX3_3 hh1 (Nat.le_of_ble_eq_true rfl) dX3_init_1 ?_
  refine j_aload_nR hc 0 dX3_init_4 rfl rfl ?_
  refine j_newN (N := 3) hc (hM.at hc) nw_RX3_9 rfl (by constructor <;> omega) dX3_init_5 (fun t10 s11 et10 es11 => ?_)
  replace h := h t10 s11 et10 es11
  refine j_dup hc dX3_init_8 rfl ?_
  refine j_ini (mc := 2) (ms := 89) (As := []) hc il_RX3_11 (fun hn0 => c_X0_init (cx_E hc) (hM.up hn0) h) rfl (by omega) (by decide) (by constructor <;> omega) (Nat.le_of_ble_eq_true rfl) rfl dX3_init_9 (fun s12 h => ?_)
  refine j_fin (by decide) hm h.2.1 h.1 (fun s13 es13 => ?_)
  replace h := h.2.2 s13 es13
  obtain ⟨f15, h⟩ := h
  refine j_putR hc fl_RX3_12 rfl (Or.inr ⟨rfl, hnm, rfl⟩) (fun _ => Or.inr f15) (fun _ => Or.inl f15) dX3_init_12 (fun s16 es16 => ?_)
  replace h := h s16 es16
  refine j_aload_nR hc 0 dX3_init_15 rfl rfl ?_
  refine j_aload_nR hc 1 dX3_init_16 rfl rfl ?_
  refine j_putR hc fl_RX3_18 rfl (Or.inr ⟨rfl, hnm, rfl⟩) (fun _ => Or.inr (kI (Or.inr ⟨_, _, _, es16⟩) f15)) (fun _ => Or.inl (kI (Or.inr ⟨_, _, _, es16⟩) f15)) dX3_init_17 (fun s17 es17 => ?_)
  replace h := h s17 es17
  refine j_wide (slots' := 92) (by omega) ?_
  exact j_vret hc hr h dX3_init_20
-- LitStrangers$Log.<init>()V
theorem dX4_init_0 : decode cX4_init 0 = .ok (.aload_n 0, 1) := by decide +kernel
theorem dX4_init_1 : decode cX4_init 1 = .ok (.invokespecial 3, 3) := by decide +kernel
theorem dX4_init_4 : decode cX4_init 4 = .ok (.aload_n 0, 1) := by decide +kernel
theorem dX4_init_5 : decode cX4_init 5 = .ok (.sipush 560, 3) := by decide +kernel
theorem dX4_init_8 : decode cX4_init 8 = .ok (.newarray .int, 2) := by decide +kernel
theorem dX4_init_10 : decode cX4_init 10 = .ok (.putfield 11, 3) := by decide +kernel
theorem dX4_init_13 : decode cX4_init 13 = .ok (.return_, 1) := by decide +kernel
def wp_X4_init (t : Nat) (σ : st_S) (Q : st_S → Prop) : Prop := ∀ (t6 : Nat) (s7 : st_S), t6 = gN σ → s7 = sA σ 0 560 → gK s7 t = 32 + 4 ∧ ∀ s9 : st_S, s9 = sR s7 t 2 (some t6) → Q s9
set_option maxRecDepth 20000 in
theorem c_X4_init {l : Launch} {E : ev_E} (hE : Eok E) {σ : st_S} (hM : MkE E (gN σ)) {t : Nat} {Q : st_S → Prop} (h : wp_X4_init t σ Q) : cM l yX4_init cX4_init 1 none E 1 1 560 [vR E t] σ (qV E (gN σ + 1) Q) := by
  refine cM_of (lv := [(0, vR E t)]) (by decide) hE (Nat.le_of_ble_eq_true rfl) rfl ?_
  intro X hX hc hcl hsl hr hnm _
  subst hX
  have hh : 1 ≤ 1 := Nat.le_refl _
  have hh1 : 1 ≤ 1 := by omega
  replace h : ∀ (t6 : Nat) (s7 : st_S), t6 = gN σ → s7 = sA σ 0 560 → gK s7 t = 32 + 4 ∧ ∀ s9 : st_S, s9 = sR s7 t 2 (some t6) → Q s9 := h
  refine j_aload_nR hc 0 dX4_init_0 rfl rfl ?_
  refine j_obj hc ol_RX4_3 hh1 (Nat.le_of_ble_eq_true rfl) dX4_init_1 ?_
  refine j_aload_nR hc 0 dX4_init_4 rfl rfl ?_
  refine j_sipush hc dX4_init_5 (by decide) ?_
  refine j_newa (N := 560) hc (hM.at hc) nk_0 (by decide) (by decide) (by constructor <;> omega) dX4_init_8 (fun t6 s7 et6 es7 => ?_)
  replace h := h t6 s7 et6 es7
  obtain ⟨f8, h⟩ := h
  refine j_putR hc fl_RX4_11 rfl (Or.inr ⟨rfl, hnm, rfl⟩) (fun _ => Or.inr f8) (fun _ => Or.inl f8) dX4_init_10 (fun s9 es9 => ?_)
  replace h := h s9 es9
  refine j_wide (slots' := 560) (by omega) ?_
  exact j_vret hc hr h dX4_init_13
-- LitStrangers$Paper.<init>(LLitStrangers$Coast;LLitStrangers$Judge;)V
theorem dX5_init_0 : decode cX5_init 0 = .ok (.aload_n 0, 1) := by decide +kernel
theorem dX5_init_1 : decode cX5_init 1 = .ok (.invokespecial 3, 3) := by decide +kernel
theorem dX5_init_4 : decode cX5_init 4 = .ok (.aload_n 0, 1) := by decide +kernel
theorem dX5_init_5 : decode cX5_init 5 = .ok (.bipush 10, 2) := by decide +kernel
theorem dX5_init_7 : decode cX5_init 7 = .ok (.newarray .int, 2) := by decide +kernel
theorem dX5_init_9 : decode cX5_init 9 = .ok (.putfield 9, 3) := by decide +kernel
theorem dX5_init_12 : decode cX5_init 12 = .ok (.aload_n 0, 1) := by decide +kernel
theorem dX5_init_13 : decode cX5_init 13 = .ok (.bipush 10, 2) := by decide +kernel
theorem dX5_init_15 : decode cX5_init 15 = .ok (.newarray .int, 2) := by decide +kernel
theorem dX5_init_17 : decode cX5_init 17 = .ok (.putfield 15, 3) := by decide +kernel
theorem dX5_init_20 : decode cX5_init 20 = .ok (.aload_n 0, 1) := by decide +kernel
theorem dX5_init_21 : decode cX5_init 21 = .ok (.bipush 10, 2) := by decide +kernel
theorem dX5_init_23 : decode cX5_init 23 = .ok (.newarray .int, 2) := by decide +kernel
theorem dX5_init_25 : decode cX5_init 25 = .ok (.putfield 18, 3) := by decide +kernel
theorem dX5_init_28 : decode cX5_init 28 = .ok (.aload_n 0, 1) := by decide +kernel
theorem dX5_init_29 : decode cX5_init 29 = .ok (.bipush 10, 2) := by decide +kernel
theorem dX5_init_31 : decode cX5_init 31 = .ok (.newarray .int, 2) := by decide +kernel
theorem dX5_init_33 : decode cX5_init 33 = .ok (.putfield 21, 3) := by decide +kernel
theorem dX5_init_36 : decode cX5_init 36 = .ok (.aload_n 0, 1) := by decide +kernel
theorem dX5_init_37 : decode cX5_init 37 = .ok (.bipush 10, 2) := by decide +kernel
theorem dX5_init_39 : decode cX5_init 39 = .ok (.newarray .int, 2) := by decide +kernel
theorem dX5_init_41 : decode cX5_init 41 = .ok (.putfield 24, 3) := by decide +kernel
theorem dX5_init_44 : decode cX5_init 44 = .ok (.aload_n 0, 1) := by decide +kernel
theorem dX5_init_45 : decode cX5_init 45 = .ok (.bipush 10, 2) := by decide +kernel
theorem dX5_init_47 : decode cX5_init 47 = .ok (.newarray .int, 2) := by decide +kernel
theorem dX5_init_49 : decode cX5_init 49 = .ok (.putfield 27, 3) := by decide +kernel
theorem dX5_init_52 : decode cX5_init 52 = .ok (.aload_n 0, 1) := by decide +kernel
theorem dX5_init_53 : decode cX5_init 53 = .ok (.bipush 10, 2) := by decide +kernel
theorem dX5_init_55 : decode cX5_init 55 = .ok (.newarray .int, 2) := by decide +kernel
theorem dX5_init_57 : decode cX5_init 57 = .ok (.putfield 30, 3) := by decide +kernel
theorem dX5_init_60 : decode cX5_init 60 = .ok (.aload_n 0, 1) := by decide +kernel
theorem dX5_init_61 : decode cX5_init 61 = .ok (.bipush 10, 2) := by decide +kernel
theorem dX5_init_63 : decode cX5_init 63 = .ok (.newarray .int, 2) := by decide +kernel
theorem dX5_init_65 : decode cX5_init 65 = .ok (.putfield 33, 3) := by decide +kernel
theorem dX5_init_68 : decode cX5_init 68 = .ok (.aload_n 0, 1) := by decide +kernel
theorem dX5_init_69 : decode cX5_init 69 = .ok (.sipush 2100, 3) := by decide +kernel
theorem dX5_init_72 : decode cX5_init 72 = .ok (.newarray .int, 2) := by decide +kernel
theorem dX5_init_74 : decode cX5_init 74 = .ok (.putfield 36, 3) := by decide +kernel
theorem dX5_init_77 : decode cX5_init 77 = .ok (.aload_n 0, 1) := by decide +kernel
theorem dX5_init_78 : decode cX5_init 78 = .ok (.aload_n 1, 1) := by decide +kernel
theorem dX5_init_79 : decode cX5_init 79 = .ok (.putfield 39, 3) := by decide +kernel
theorem dX5_init_82 : decode cX5_init 82 = .ok (.aload_n 0, 1) := by decide +kernel
theorem dX5_init_83 : decode cX5_init 83 = .ok (.aload_n 2, 1) := by decide +kernel
theorem dX5_init_84 : decode cX5_init 84 = .ok (.putfield 43, 3) := by decide +kernel
theorem dX5_init_87 : decode cX5_init 87 = .ok (.return_, 1) := by decide +kernel
def wp_X5_init (t : Nat) (a1 : Nat) (a2 : Nat) (σ : st_S) (Q : st_S → Prop) : Prop := ∀ (t50 : Nat) (s51 : st_S), t50 = gN σ → s51 = sA σ 0 10 → gK s51 t = 32 + 5 ∧ ∀ s53 : st_S, s53 = sR s51 t 4 (some t50) → ∀ (t54 : Nat) (s55 : st_S), t54 = gN s53 → s55 = sA s53 0 10 → gK s55 t = 32 + 5 ∧ ∀ s57 : st_S, s57 = sR s55 t 5 (some t54) → ∀ (t58 : Nat) (s59 : st_S), t58 = gN s57 → s59 = sA s57 0 10 → gK s59 t = 32 + 5 ∧ ∀ s61 : st_S, s61 = sR s59 t 6 (some t58) → ∀ (t62 : Nat) (s63 : st_S), t62 = gN s61 → s63 = sA s61 0 10 → gK s63 t = 32 + 5 ∧ ∀ s65 : st_S, s65 = sR s63 t 7 (some t62) → ∀ (t66 : Nat) (s67 : st_S), t66 = gN s65 → s67 = sA s65 0 10 → gK s67 t = 32 + 5 ∧ ∀ s69 : st_S, s69 = sR s67 t 8 (some t66) → ∀ (t70 : Nat) (s71 : st_S), t70 = gN s69 → s71 = sA s69 0 10 → gK s71 t = 32 + 5 ∧ ∀ s73 : st_S, s73 = sR s71 t 9 (some t70) → ∀ (t74 : Nat) (s75 : st_S), t74 = gN s73 → s75 = sA s73 0 10 → gK s75 t = 32 + 5 ∧ ∀ s77 : st_S, s77 = sR s75 t 10 (some t74) → ∀ (t78 : Nat) (s79 : st_S), t78 = gN s77 → s79 = sA s77 0 10 → gK s79 t = 32 + 5 ∧ ∀ s81 : st_S, s81 = sR s79 t 11 (some t78) → ∀ (t82 : Nat) (s83 : st_S), t82 = gN s81 → s83 = sA s81 0 2100 → gK s83 t = 32 + 5 ∧ ∀ s85 : st_S, s85 = sR s83 t 12 (some t82) → ∀ s86 : st_S, s86 = sR s85 t 2 (some a1) → ∀ s87 : st_S, s87 = sR s86 t 3 (some a2) → Q s87
set_option maxRecDepth 20000 in
theorem c_X5_init {l : Launch} {E : ev_E} (hE : Eok E) {σ : st_S} (hM : MkE E (gN σ)) {t : Nat} {a1 : Nat} {a2 : Nat} {Q : st_S → Prop} (h : wp_X5_init t a1 a2 σ Q) : cM l yX5_init cX5_init 3 none E 1 9 2180 [vR E t, vR E a1, vR E a2] σ (qV E (gN σ + 9) Q) := by
  refine cM_of (lv := [(0, vR E t), (1, vR E a1), (2, vR E a2)]) (by decide) hE (Nat.le_of_ble_eq_true rfl) rfl ?_
  intro X hX hc hcl hsl hr hnm _
  subst hX
  have hh : 1 ≤ 1 := Nat.le_refl _
  have hh1 : 1 ≤ 1 := by omega
  replace h : ∀ (t50 : Nat) (s51 : st_S), t50 = gN σ → s51 = sA σ 0 10 → gK s51 t = 32 + 5 ∧ ∀ s53 : st_S, s53 = sR s51 t 4 (some t50) → ∀ (t54 : Nat) (s55 : st_S), t54 = gN s53 → s55 = sA s53 0 10 → gK s55 t = 32 + 5 ∧ ∀ s57 : st_S, s57 = sR s55 t 5 (some t54) → ∀ (t58 : Nat) (s59 : st_S), t58 = gN s57 → s59 = sA s57 0 10 → gK s59 t = 32 + 5 ∧ ∀ s61 : st_S, s61 = sR s59 t 6 (some t58) → ∀ (t62 : Nat) (s63 : st_S), t62 = gN s61 → s63 = sA s61 0 10 → gK s63 t = 32 + 5 ∧ ∀ s65 : st_S, s65 = sR s63 t 7 (some t62) → ∀ (t66 : Nat) (s67 : st_S), t66 = gN s65 → s67 = sA s65 0 10 → gK s67 t = 32 + 5 ∧ ∀ s69 : st_S, s69 = sR s67 t 8 (some t66) → ∀ (t70 : Nat) (s71 : st_S), t70 = gN s69 → s71 = sA s69 0 10 → gK s71 t = 32 + 5 ∧ ∀ s73 : st_S, s73 = sR s71 t 9 (some t70) → ∀ (t74 : Nat) (s75 : st_S), t74 = gN s73 → s75 = sA s73 0 10 → gK s75 t = 32 + 5 ∧ ∀ s77 : st_S, s77 = sR s75 t 10 (some t74) → ∀ (t78 : Nat) (s79 : st_S), t78 = gN s77 → s79 = sA s77 0 10 → gK s79 t = 32 + 5 ∧ ∀ s81 : st_S, s81 = sR s79 t 11 (some t78) → ∀ (t82 : Nat) (s83 : st_S), t82 = gN s81 → s83 = sA s81 0 2100 → gK s83 t = 32 + 5 ∧ ∀ s85 : st_S, s85 = sR s83 t 12 (some t82) → ∀ s86 : st_S, s86 = sR s85 t 2 (some a1) → ∀ s87 : st_S, s87 = sR s86 t 3 (some a2) → Q s87 := h
  refine j_aload_nR hc 0 dX5_init_0 rfl rfl ?_
  refine j_obj hc ol_RX5_3 hh1 (Nat.le_of_ble_eq_true rfl) dX5_init_1 ?_
  refine j_aload_nR hc 0 dX5_init_4 rfl rfl ?_
  refine j_bipush hc dX5_init_5 (by decide) ?_
  refine j_newa (N := 10) hc (hM.at hc) nk_0 (by decide) (by decide) (by constructor <;> omega) dX5_init_7 (fun t50 s51 et50 es51 => ?_)
  replace h := h t50 s51 et50 es51
  obtain ⟨f52, h⟩ := h
  refine j_putR hc fl_RX5_9 rfl (Or.inr ⟨rfl, hnm, rfl⟩) (fun _ => Or.inr f52) (fun _ => Or.inl f52) dX5_init_9 (fun s53 es53 => ?_)
  replace h := h s53 es53
  refine j_aload_nR hc 0 dX5_init_12 rfl rfl ?_
  refine j_bipush hc dX5_init_13 (by decide) ?_
  refine j_newa (N := 10) hc (hM.at hc) nk_0 (by decide) (by decide) (by constructor <;> omega) dX5_init_15 (fun t54 s55 et54 es55 => ?_)
  replace h := h t54 s55 et54 es55
  obtain ⟨f56, h⟩ := h
  refine j_putR hc fl_RX5_15 rfl (Or.inr ⟨rfl, hnm, rfl⟩) (fun _ => Or.inr f56) (fun _ => Or.inl f56) dX5_init_17 (fun s57 es57 => ?_)
  replace h := h s57 es57
  refine j_aload_nR hc 0 dX5_init_20 rfl rfl ?_
  refine j_bipush hc dX5_init_21 (by decide) ?_
  refine j_newa (N := 10) hc (hM.at hc) nk_0 (by decide) (by decide) (by constructor <;> omega) dX5_init_23 (fun t58 s59 et58 es59 => ?_)
  replace h := h t58 s59 et58 es59
  obtain ⟨f60, h⟩ := h
  refine j_putR hc fl_RX5_18 rfl (Or.inr ⟨rfl, hnm, rfl⟩) (fun _ => Or.inr f60) (fun _ => Or.inl f60) dX5_init_25 (fun s61 es61 => ?_)
  replace h := h s61 es61
  refine j_aload_nR hc 0 dX5_init_28 rfl rfl ?_
  refine j_bipush hc dX5_init_29 (by decide) ?_
  refine j_newa (N := 10) hc (hM.at hc) nk_0 (by decide) (by decide) (by constructor <;> omega) dX5_init_31 (fun t62 s63 et62 es63 => ?_)
  replace h := h t62 s63 et62 es63
  obtain ⟨f64, h⟩ := h
  refine j_putR hc fl_RX5_21 rfl (Or.inr ⟨rfl, hnm, rfl⟩) (fun _ => Or.inr f64) (fun _ => Or.inl f64) dX5_init_33 (fun s65 es65 => ?_)
  replace h := h s65 es65
  refine j_aload_nR hc 0 dX5_init_36 rfl rfl ?_
  refine j_bipush hc dX5_init_37 (by decide) ?_
  refine j_newa (N := 10) hc (hM.at hc) nk_0 (by decide) (by decide) (by constructor <;> omega) dX5_init_39 (fun t66 s67 et66 es67 => ?_)
  replace h := h t66 s67 et66 es67
  obtain ⟨f68, h⟩ := h
  refine j_putR hc fl_RX5_24 rfl (Or.inr ⟨rfl, hnm, rfl⟩) (fun _ => Or.inr f68) (fun _ => Or.inl f68) dX5_init_41 (fun s69 es69 => ?_)
  replace h := h s69 es69
  refine j_aload_nR hc 0 dX5_init_44 rfl rfl ?_
  refine j_bipush hc dX5_init_45 (by decide) ?_
  refine j_newa (N := 10) hc (hM.at hc) nk_0 (by decide) (by decide) (by constructor <;> omega) dX5_init_47 (fun t70 s71 et70 es71 => ?_)
  replace h := h t70 s71 et70 es71
  obtain ⟨f72, h⟩ := h
  refine j_putR hc fl_RX5_27 rfl (Or.inr ⟨rfl, hnm, rfl⟩) (fun _ => Or.inr f72) (fun _ => Or.inl f72) dX5_init_49 (fun s73 es73 => ?_)
  replace h := h s73 es73
  refine j_aload_nR hc 0 dX5_init_52 rfl rfl ?_
  refine j_bipush hc dX5_init_53 (by decide) ?_
  refine j_newa (N := 10) hc (hM.at hc) nk_0 (by decide) (by decide) (by constructor <;> omega) dX5_init_55 (fun t74 s75 et74 es75 => ?_)
  replace h := h t74 s75 et74 es75
  obtain ⟨f76, h⟩ := h
  refine j_putR hc fl_RX5_30 rfl (Or.inr ⟨rfl, hnm, rfl⟩) (fun _ => Or.inr f76) (fun _ => Or.inl f76) dX5_init_57 (fun s77 es77 => ?_)
  replace h := h s77 es77
  refine j_aload_nR hc 0 dX5_init_60 rfl rfl ?_
  refine j_bipush hc dX5_init_61 (by decide) ?_
  refine j_newa (N := 10) hc (hM.at hc) nk_0 (by decide) (by decide) (by constructor <;> omega) dX5_init_63 (fun t78 s79 et78 es79 => ?_)
  replace h := h t78 s79 et78 es79
  obtain ⟨f80, h⟩ := h
  refine j_putR hc fl_RX5_33 rfl (Or.inr ⟨rfl, hnm, rfl⟩) (fun _ => Or.inr f80) (fun _ => Or.inl f80) dX5_init_65 (fun s81 es81 => ?_)
  replace h := h s81 es81
  refine j_aload_nR hc 0 dX5_init_68 rfl rfl ?_
  refine j_sipush hc dX5_init_69 (by decide) ?_
  refine j_newa (N := 2100) hc (hM.at hc) nk_0 (by decide) (by decide) (by constructor <;> omega) dX5_init_72 (fun t82 s83 et82 es83 => ?_)
  replace h := h t82 s83 et82 es83
  obtain ⟨f84, h⟩ := h
  refine j_putR hc fl_RX5_36 rfl (Or.inr ⟨rfl, hnm, rfl⟩) (fun _ => Or.inr f84) (fun _ => Or.inl f84) dX5_init_74 (fun s85 es85 => ?_)
  replace h := h s85 es85
  refine j_aload_nR hc 0 dX5_init_77 rfl rfl ?_
  refine j_aload_nR hc 1 dX5_init_78 rfl rfl ?_
  refine j_putR hc fl_RX5_39 rfl (Or.inr ⟨rfl, hnm, rfl⟩) (fun _ => Or.inr (kI (Or.inr ⟨_, _, _, es85⟩) f84)) (fun _ => Or.inl (kI (Or.inr ⟨_, _, _, es85⟩) f84)) dX5_init_79 (fun s86 es86 => ?_)
  replace h := h s86 es86
  refine j_aload_nR hc 0 dX5_init_82 rfl rfl ?_
  refine j_aload_nR hc 2 dX5_init_83 rfl rfl ?_
  refine j_putR hc fl_RX5_43 rfl (Or.inr ⟨rfl, hnm, rfl⟩) (fun _ => Or.inr (kI (Or.inr ⟨_, _, _, es86⟩) (kI (Or.inr ⟨_, _, _, es85⟩) f84))) (fun _ => Or.inl (kI (Or.inr ⟨_, _, _, es86⟩) (kI (Or.inr ⟨_, _, _, es85⟩) f84))) dX5_init_84 (fun s87 es87 => ?_)
  replace h := h s87 es87
  refine j_wide (slots' := 2180) (by omega) ?_
  exact j_vret hc hr h dX5_init_87
-- LitStrangers$Runner.<init>(LLitStrangers$Coast;LLitStrangers$Deeds;)V
theorem dX7_init_0 : decode cX7_init 0 = .ok (.aload_n 0, 1) := by decide +kernel
theorem dX7_init_1 : decode cX7_init 1 = .ok (.invokespecial 3, 3) := by decide +kernel
theorem dX7_init_4 : decode cX7_init 4 = .ok (.aload_n 0, 1) := by decide +kernel
theorem dX7_init_5 : decode cX7_init 5 = .ok (.iconst (-1), 1) := by decide +kernel
theorem dX7_init_6 : decode cX7_init 6 = .ok (.putfield 9, 3) := by decide +kernel
theorem dX7_init_9 : decode cX7_init 9 = .ok (.aload_n 0, 1) := by decide +kernel
theorem dX7_init_10 : decode cX7_init 10 = .ok (.new 15, 3) := by decide +kernel
theorem dX7_init_13 : decode cX7_init 13 = .ok (.dup, 1) := by decide +kernel
theorem dX7_init_14 : decode cX7_init 14 = .ok (.invokespecial 17, 3) := by decide +kernel
theorem dX7_init_17 : decode cX7_init 17 = .ok (.putfield 18, 3) := by decide +kernel
theorem dX7_init_20 : decode cX7_init 20 = .ok (.aload_n 0, 1) := by decide +kernel
theorem dX7_init_21 : decode cX7_init 21 = .ok (.aload_n 1, 1) := by decide +kernel
theorem dX7_init_22 : decode cX7_init 22 = .ok (.putfield 22, 3) := by decide +kernel
theorem dX7_init_25 : decode cX7_init 25 = .ok (.aload_n 0, 1) := by decide +kernel
theorem dX7_init_26 : decode cX7_init 26 = .ok (.aload_n 2, 1) := by decide +kernel
theorem dX7_init_27 : decode cX7_init 27 = .ok (.putfield 26, 3) := by decide +kernel
theorem dX7_init_30 : decode cX7_init 30 = .ok (.return_, 1) := by decide +kernel
def wp_X7_init (t : Nat) (a1 : Nat) (a2 : Nat) (σ : st_S) (Q : st_S → Prop) : Prop := gK σ t = 32 + 7 ∧ ∀ s15 : st_S, s15 = sI σ t 0 (-1) → ∀ (t16 : Nat) (s17 : st_S), t16 = gN s15 → s17 = sA s15 (32 + 0) 0 → wp_X0_init t16 s17 (fun s18 => Fin1 s18 t16 0 ∧ skNo 0 t16 ∧ ∀ s19 : st_S, s19 = sK s18 t16 (16 + 0) → gK s19 t = 32 + 7 ∧ ∀ s22 : st_S, s22 = sR s19 t 3 (some t16) → ∀ s23 : st_S, s23 = sR s22 t 1 (some a1) → ∀ s24 : st_S, s24 = sR s23 t 2 (some a2) → Q s24)
set_option maxRecDepth 20000 in
theorem c_X7_init {l : Launch} {E : ev_E} (hE : Eok E) (hm : eM E = 0) {σ : st_S} (hM : MkE E (gN σ)) {t : Nat} {a1 : Nat} {a2 : Nat} {Q : st_S → Prop} (h : wp_X7_init t a1 a2 σ Q) : cM l yX7_init cX7_init 3 none E 2 3 92 [vR E t, vR E a1, vR E a2] σ (qV E (gN σ + 3) Q) := by
  refine cM_of (lv := [(0, vR E t), (1, vR E a1), (2, vR E a2)]) (by decide) hE (Nat.le_of_ble_eq_true rfl) rfl ?_
  intro X hX hc hcl hsl hr hnm _
  subst hX
  have hh : 2 ≤ 2 := Nat.le_refl _
  have hh1 : 1 ≤ 2 := by omega
  replace h : gK σ t = 32 + 7 ∧ ∀ s15 : st_S, s15 = sI σ t 0 (-1) → ∀ (t16 : Nat) (s17 : st_S), t16 = gN s15 → s17 = sA s15 (32 + 0) 0 → wp_X0_init t16 s17 (fun s18 => Fin1 s18 t16 0 ∧ skNo 0 t16 ∧ ∀ s19 : st_S, s19 = sK s18 t16 (16 + 0) → gK s19 t = 32 + 7 ∧ ∀ s22 : st_S, s22 = sR s19 t 3 (some t16) → ∀ s23 : st_S, s23 = sR s22 t 1 (some a1) → ∀ s24 : st_S, s24 = sR s23 t 2 (some a2) → Q s24) := h
  refine j_aload_nR hc 0 dX7_init_0 rfl rfl ?_
  refine j_obj hc ol_RX7_3 hh1 (Nat.le_of_ble_eq_true rfl) dX7_init_1 ?_
  refine j_aload_nR hc 0 dX7_init_4 rfl rfl ?_
  refine j_iconst hc dX7_init_5 ?_
  obtain ⟨f14, h⟩ := h
  refine j_putI hc fl_RX7_9 rfl rfl (fun _ => Or.inr f14) (wlit (-1) (by decide)) dX7_init_6 (fun s15 es15 => ?_)
  replace h := h s15 es15
  refine j_aload_nR hc 0 dX7_init_9 rfl rfl ?_
  refine j_newN (N := 3) hc (hM.at hc) nw_RX7_15 rfl (by constructor <;> omega) dX7_init_10 (fun t16 s17 et16 es17 => ?_)
  replace h := h t16 s17 et16 es17
  refine j_dup hc dX7_init_13 rfl ?_
  refine j_ini (mc := 2) (ms := 89) (As := []) hc il_RX7_17 (fun hn0 => c_X0_init (cx_E hc) (hM.up hn0) h) rfl (by omega) (by decide) (by constructor <;> omega) (Nat.le_of_ble_eq_true rfl) rfl dX7_init_14 (fun s18 h => ?_)
  refine j_fin (by decide) hm h.2.1 h.1 (fun s19 es19 => ?_)
  replace h := h.2.2 s19 es19
  obtain ⟨f21, h⟩ := h
  refine j_putR hc fl_RX7_18 rfl (Or.inr ⟨rfl, hnm, rfl⟩) (fun _ => Or.inr f21) (fun _ => Or.inl f21) dX7_init_17 (fun s22 es22 => ?_)
  replace h := h s22 es22
  refine j_aload_nR hc 0 dX7_init_20 rfl rfl ?_
  refine j_aload_nR hc 1 dX7_init_21 rfl rfl ?_
  refine j_putR hc fl_RX7_22 rfl (Or.inr ⟨rfl, hnm, rfl⟩) (fun _ => Or.inr (kI (Or.inr ⟨_, _, _, es22⟩) f21)) (fun _ => Or.inl (kI (Or.inr ⟨_, _, _, es22⟩) f21)) dX7_init_22 (fun s23 es23 => ?_)
  replace h := h s23 es23
  refine j_aload_nR hc 0 dX7_init_25 rfl rfl ?_
  refine j_aload_nR hc 2 dX7_init_26 rfl rfl ?_
  refine j_putR hc fl_RX7_26 rfl (Or.inr ⟨rfl, hnm, rfl⟩) (fun _ => Or.inr (kI (Or.inr ⟨_, _, _, es23⟩) (kI (Or.inr ⟨_, _, _, es22⟩) f21))) (fun _ => Or.inl (kI (Or.inr ⟨_, _, _, es23⟩) (kI (Or.inr ⟨_, _, _, es22⟩) f21))) dX7_init_27 (fun s24 es24 => ?_)
  replace h := h s24 es24
  refine j_wide (slots' := 92) (by omega) ?_
  exact j_vret hc hr h dX7_init_30
-- LitStrangers$Search.<init>(LLitStrangers$Paper;)V
theorem dX8_init_0 : decode cX8_init 0 = .ok (.aload_n 0, 1) := by decide +kernel
theorem dX8_init_1 : decode cX8_init 1 = .ok (.invokespecial 3, 3) := by decide +kernel
theorem dX8_init_4 : decode cX8_init 4 = .ok (.aload_n 0, 1) := by decide +kernel
theorem dX8_init_5 : decode cX8_init 5 = .ok (.sipush 1024, 3) := by decide +kernel
theorem dX8_init_8 : decode cX8_init 8 = .ok (.newarray .int, 2) := by decide +kernel
theorem dX8_init_10 : decode cX8_init 10 = .ok (.putfield 9, 3) := by decide +kernel
theorem dX8_init_13 : decode cX8_init 13 = .ok (.aload_n 0, 1) := by decide +kernel
theorem dX8_init_14 : decode cX8_init 14 = .ok (.sipush 1024, 3) := by decide +kernel
theorem dX8_init_17 : decode cX8_init 17 = .ok (.newarray .int, 2) := by decide +kernel
theorem dX8_init_19 : decode cX8_init 19 = .ok (.putfield 15, 3) := by decide +kernel
theorem dX8_init_22 : decode cX8_init 22 = .ok (.aload_n 0, 1) := by decide +kernel
theorem dX8_init_23 : decode cX8_init 23 = .ok (.sipush 5120, 3) := by decide +kernel
theorem dX8_init_26 : decode cX8_init 26 = .ok (.newarray .int, 2) := by decide +kernel
theorem dX8_init_28 : decode cX8_init 28 = .ok (.putfield 18, 3) := by decide +kernel
theorem dX8_init_31 : decode cX8_init 31 = .ok (.aload_n 0, 1) := by decide +kernel
theorem dX8_init_32 : decode cX8_init 32 = .ok (.bipush 10, 2) := by decide +kernel
theorem dX8_init_34 : decode cX8_init 34 = .ok (.newarray .int, 2) := by decide +kernel
theorem dX8_init_36 : decode cX8_init 36 = .ok (.putfield 21, 3) := by decide +kernel
theorem dX8_init_39 : decode cX8_init 39 = .ok (.aload_n 0, 1) := by decide +kernel
theorem dX8_init_40 : decode cX8_init 40 = .ok (.bipush 10, 2) := by decide +kernel
theorem dX8_init_42 : decode cX8_init 42 = .ok (.newarray .int, 2) := by decide +kernel
theorem dX8_init_44 : decode cX8_init 44 = .ok (.putfield 24, 3) := by decide +kernel
theorem dX8_init_47 : decode cX8_init 47 = .ok (.aload_n 0, 1) := by decide +kernel
theorem dX8_init_48 : decode cX8_init 48 = .ok (.bipush 10, 2) := by decide +kernel
theorem dX8_init_50 : decode cX8_init 50 = .ok (.newarray .int, 2) := by decide +kernel
theorem dX8_init_52 : decode cX8_init 52 = .ok (.putfield 27, 3) := by decide +kernel
theorem dX8_init_55 : decode cX8_init 55 = .ok (.aload_n 0, 1) := by decide +kernel
theorem dX8_init_56 : decode cX8_init 56 = .ok (.sipush 1024, 3) := by decide +kernel
theorem dX8_init_59 : decode cX8_init 59 = .ok (.newarray .long, 2) := by decide +kernel
theorem dX8_init_61 : decode cX8_init 61 = .ok (.putfield 30, 3) := by decide +kernel
theorem dX8_init_64 : decode cX8_init 64 = .ok (.aload_n 0, 1) := by decide +kernel
theorem dX8_init_65 : decode cX8_init 65 = .ok (.sipush 1024, 3) := by decide +kernel
theorem dX8_init_68 : decode cX8_init 68 = .ok (.newarray .long, 2) := by decide +kernel
theorem dX8_init_70 : decode cX8_init 70 = .ok (.putfield 34, 3) := by decide +kernel
theorem dX8_init_73 : decode cX8_init 73 = .ok (.aload_n 0, 1) := by decide +kernel
theorem dX8_init_74 : decode cX8_init 74 = .ok (.aload_n 1, 1) := by decide +kernel
theorem dX8_init_75 : decode cX8_init 75 = .ok (.putfield 37, 3) := by decide +kernel
theorem dX8_init_78 : decode cX8_init 78 = .ok (.return_, 1) := by decide +kernel
def wp_X8_init (t : Nat) (a1 : Nat) (σ : st_S) (Q : st_S → Prop) : Prop := ∀ (t43 : Nat) (s44 : st_S), t43 = gN σ → s44 = sA σ 0 1024 → gK s44 t = 32 + 8 ∧ ∀ s46 : st_S, s46 = sR s44 t 2 (some t43) → ∀ (t47 : Nat) (s48 : st_S), t47 = gN s46 → s48 = sA s46 0 1024 → gK s48 t = 32 + 8 ∧ ∀ s50 : st_S, s50 = sR s48 t 3 (some t47) → ∀ (t51 : Nat) (s52 : st_S), t51 = gN s50 → s52 = sA s50 0 5120 → gK s52 t = 32 + 8 ∧ ∀ s54 : st_S, s54 = sR s52 t 4 (some t51) → ∀ (t55 : Nat) (s56 : st_S), t55 = gN s54 → s56 = sA s54 0 10 → gK s56 t = 32 + 8 ∧ ∀ s58 : st_S, s58 = sR s56 t 5 (some t55) → ∀ (t59 : Nat) (s60 : st_S), t59 = gN s58 → s60 = sA s58 0 10 → gK s60 t = 32 + 8 ∧ ∀ s62 : st_S, s62 = sR s60 t 6 (some t59) → ∀ (t63 : Nat) (s64 : st_S), t63 = gN s62 → s64 = sA s62 0 10 → gK s64 t = 32 + 8 ∧ ∀ s66 : st_S, s66 = sR s64 t 7 (some t63) → ∀ (t67 : Nat) (s68 : st_S), t67 = gN s66 → s68 = sA s66 1 1024 → gK s68 t = 32 + 8 ∧ ∀ s70 : st_S, s70 = sR s68 t 8 (some t67) → ∀ (t71 : Nat) (s72 : st_S), t71 = gN s70 → s72 = sA s70 1 1024 → gK s72 t = 32 + 8 ∧ ∀ s74 : st_S, s74 = sR s72 t 9 (some t71) → ∀ s75 : st_S, s75 = sR s74 t 1 (some a1) → Q s75
set_option maxRecDepth 20000 in
theorem c_X8_init {l : Launch} {E : ev_E} (hE : Eok E) {σ : st_S} (hM : MkE E (gN σ)) {t : Nat} {a1 : Nat} {Q : st_S → Prop} (h : wp_X8_init t a1 σ Q) : cM l yX8_init cX8_init 2 none E 1 8 9246 [vR E t, vR E a1] σ (qV E (gN σ + 8) Q) := by
  refine cM_of (lv := [(0, vR E t), (1, vR E a1)]) (by decide) hE (Nat.le_of_ble_eq_true rfl) rfl ?_
  intro X hX hc hcl hsl hr hnm _
  subst hX
  have hh : 1 ≤ 1 := Nat.le_refl _
  have hh1 : 1 ≤ 1 := by omega
  replace h : ∀ (t43 : Nat) (s44 : st_S), t43 = gN σ → s44 = sA σ 0 1024 → gK s44 t = 32 + 8 ∧ ∀ s46 : st_S, s46 = sR s44 t 2 (some t43) → ∀ (t47 : Nat) (s48 : st_S), t47 = gN s46 → s48 = sA s46 0 1024 → gK s48 t = 32 + 8 ∧ ∀ s50 : st_S, s50 = sR s48 t 3 (some t47) → ∀ (t51 : Nat) (s52 : st_S), t51 = gN s50 → s52 = sA s50 0 5120 → gK s52 t = 32 + 8 ∧ ∀ s54 : st_S, s54 = sR s52 t 4 (some t51) → ∀ (t55 : Nat) (s56 : st_S), t55 = gN s54 → s56 = sA s54 0 10 → gK s56 t = 32 + 8 ∧ ∀ s58 : st_S, s58 = sR s56 t 5 (some t55) → ∀ (t59 : Nat) (s60 : st_S), t59 = gN s58 → s60 = sA s58 0 10 → gK s60 t = 32 + 8 ∧ ∀ s62 : st_S, s62 = sR s60 t 6 (some t59) → ∀ (t63 : Nat) (s64 : st_S), t63 = gN s62 → s64 = sA s62 0 10 → gK s64 t = 32 + 8 ∧ ∀ s66 : st_S, s66 = sR s64 t 7 (some t63) → ∀ (t67 : Nat) (s68 : st_S), t67 = gN s66 → s68 = sA s66 1 1024 → gK s68 t = 32 + 8 ∧ ∀ s70 : st_S, s70 = sR s68 t 8 (some t67) → ∀ (t71 : Nat) (s72 : st_S), t71 = gN s70 → s72 = sA s70 1 1024 → gK s72 t = 32 + 8 ∧ ∀ s74 : st_S, s74 = sR s72 t 9 (some t71) → ∀ s75 : st_S, s75 = sR s74 t 1 (some a1) → Q s75 := h
  refine j_aload_nR hc 0 dX8_init_0 rfl rfl ?_
  refine j_obj hc ol_RX8_3 hh1 (Nat.le_of_ble_eq_true rfl) dX8_init_1 ?_
  refine j_aload_nR hc 0 dX8_init_4 rfl rfl ?_
  refine j_sipush hc dX8_init_5 (by decide) ?_
  refine j_newa (N := 1024) hc (hM.at hc) nk_0 (by decide) (by decide) (by constructor <;> omega) dX8_init_8 (fun t43 s44 et43 es44 => ?_)
  replace h := h t43 s44 et43 es44
  obtain ⟨f45, h⟩ := h
  refine j_putR hc fl_RX8_9 rfl (Or.inr ⟨rfl, hnm, rfl⟩) (fun _ => Or.inr f45) (fun _ => Or.inl f45) dX8_init_10 (fun s46 es46 => ?_)
  replace h := h s46 es46
  refine j_aload_nR hc 0 dX8_init_13 rfl rfl ?_
  refine j_sipush hc dX8_init_14 (by decide) ?_
  refine j_newa (N := 1024) hc (hM.at hc) nk_0 (by decide) (by decide) (by constructor <;> omega) dX8_init_17 (fun t47 s48 et47 es48 => ?_)
  replace h := h t47 s48 et47 es48
  obtain ⟨f49, h⟩ := h
  refine j_putR hc fl_RX8_15 rfl (Or.inr ⟨rfl, hnm, rfl⟩) (fun _ => Or.inr f49) (fun _ => Or.inl f49) dX8_init_19 (fun s50 es50 => ?_)
  replace h := h s50 es50
  refine j_aload_nR hc 0 dX8_init_22 rfl rfl ?_
  refine j_sipush hc dX8_init_23 (by decide) ?_
  refine j_newa (N := 5120) hc (hM.at hc) nk_0 (by decide) (by decide) (by constructor <;> omega) dX8_init_26 (fun t51 s52 et51 es52 => ?_)
  replace h := h t51 s52 et51 es52
  obtain ⟨f53, h⟩ := h
  refine j_putR hc fl_RX8_18 rfl (Or.inr ⟨rfl, hnm, rfl⟩) (fun _ => Or.inr f53) (fun _ => Or.inl f53) dX8_init_28 (fun s54 es54 => ?_)
  replace h := h s54 es54
  refine j_aload_nR hc 0 dX8_init_31 rfl rfl ?_
  refine j_bipush hc dX8_init_32 (by decide) ?_
  refine j_newa (N := 10) hc (hM.at hc) nk_0 (by decide) (by decide) (by constructor <;> omega) dX8_init_34 (fun t55 s56 et55 es56 => ?_)
  replace h := h t55 s56 et55 es56
  obtain ⟨f57, h⟩ := h
  refine j_putR hc fl_RX8_21 rfl (Or.inr ⟨rfl, hnm, rfl⟩) (fun _ => Or.inr f57) (fun _ => Or.inl f57) dX8_init_36 (fun s58 es58 => ?_)
  replace h := h s58 es58
  refine j_aload_nR hc 0 dX8_init_39 rfl rfl ?_
  refine j_bipush hc dX8_init_40 (by decide) ?_
  refine j_newa (N := 10) hc (hM.at hc) nk_0 (by decide) (by decide) (by constructor <;> omega) dX8_init_42 (fun t59 s60 et59 es60 => ?_)
  replace h := h t59 s60 et59 es60
  obtain ⟨f61, h⟩ := h
  refine j_putR hc fl_RX8_24 rfl (Or.inr ⟨rfl, hnm, rfl⟩) (fun _ => Or.inr f61) (fun _ => Or.inl f61) dX8_init_44 (fun s62 es62 => ?_)
  replace h := h s62 es62
  refine j_aload_nR hc 0 dX8_init_47 rfl rfl ?_
  refine j_bipush hc dX8_init_48 (by decide) ?_
  refine j_newa (N := 10) hc (hM.at hc) nk_0 (by decide) (by decide) (by constructor <;> omega) dX8_init_50 (fun t63 s64 et63 es64 => ?_)
  replace h := h t63 s64 et63 es64
  obtain ⟨f65, h⟩ := h
  refine j_putR hc fl_RX8_27 rfl (Or.inr ⟨rfl, hnm, rfl⟩) (fun _ => Or.inr f65) (fun _ => Or.inl f65) dX8_init_52 (fun s66 es66 => ?_)
  replace h := h s66 es66
  refine j_aload_nR hc 0 dX8_init_55 rfl rfl ?_
  refine j_sipush hc dX8_init_56 (by decide) ?_
  refine j_newa (N := 1024) hc (hM.at hc) nk_1 (by decide) (by decide) (by constructor <;> omega) dX8_init_59 (fun t67 s68 et67 es68 => ?_)
  replace h := h t67 s68 et67 es68
  obtain ⟨f69, h⟩ := h
  refine j_putR hc fl_RX8_30 rfl (Or.inl rfl) (fun _ => Or.inr f69) (fun _ => Or.inl f69) dX8_init_61 (fun s70 es70 => ?_)
  replace h := h s70 es70
  refine j_aload_nR hc 0 dX8_init_64 rfl rfl ?_
  refine j_sipush hc dX8_init_65 (by decide) ?_
  refine j_newa (N := 1024) hc (hM.at hc) nk_1 (by decide) (by decide) (by constructor <;> omega) dX8_init_68 (fun t71 s72 et71 es72 => ?_)
  replace h := h t71 s72 et71 es72
  obtain ⟨f73, h⟩ := h
  refine j_putR hc fl_RX8_34 rfl (Or.inl rfl) (fun _ => Or.inr f73) (fun _ => Or.inl f73) dX8_init_70 (fun s74 es74 => ?_)
  replace h := h s74 es74
  refine j_aload_nR hc 0 dX8_init_73 rfl rfl ?_
  refine j_aload_nR hc 1 dX8_init_74 rfl rfl ?_
  refine j_putR hc fl_RX8_37 rfl (Or.inr ⟨rfl, hnm, rfl⟩) (fun _ => Or.inr (kI (Or.inr ⟨_, _, _, es74⟩) f73)) (fun _ => Or.inl (kI (Or.inr ⟨_, _, _, es74⟩) f73)) dX8_init_75 (fun s75 es75 => ?_)
  replace h := h s75 es75
  refine j_wide (slots' := 9246) (by omega) ?_
  exact j_vret hc hr h dX8_init_78
-- LitStrangers$Text.<init>()V
theorem dX9_init_0 : decode cX9_init 0 = .ok (.aload_n 0, 1) := by decide +kernel
theorem dX9_init_1 : decode cX9_init 1 = .ok (.invokespecial 3, 3) := by decide +kernel
theorem dX9_init_4 : decode cX9_init 4 = .ok (.aload_n 0, 1) := by decide +kernel
theorem dX9_init_5 : decode cX9_init 5 = .ok (.sipush 400, 3) := by decide +kernel
theorem dX9_init_8 : decode cX9_init 8 = .ok (.newarray .int, 2) := by decide +kernel
theorem dX9_init_10 : decode cX9_init 10 = .ok (.putfield 9, 3) := by decide +kernel
theorem dX9_init_13 : decode cX9_init 13 = .ok (.aload_n 0, 1) := by decide +kernel
theorem dX9_init_14 : decode cX9_init 14 = .ok (.bipush 12, 2) := by decide +kernel
theorem dX9_init_16 : decode cX9_init 16 = .ok (.newarray .int, 2) := by decide +kernel
theorem dX9_init_18 : decode cX9_init 18 = .ok (.putfield 15, 3) := by decide +kernel
theorem dX9_init_21 : decode cX9_init 21 = .ok (.aload_n 0, 1) := by decide +kernel
theorem dX9_init_22 : decode cX9_init 22 = .ok (.bipush 12, 2) := by decide +kernel
theorem dX9_init_24 : decode cX9_init 24 = .ok (.newarray .int, 2) := by decide +kernel
theorem dX9_init_26 : decode cX9_init 26 = .ok (.putfield 18, 3) := by decide +kernel
theorem dX9_init_29 : decode cX9_init 29 = .ok (.aload_n 0, 1) := by decide +kernel
theorem dX9_init_30 : decode cX9_init 30 = .ok (.bipush 12, 2) := by decide +kernel
theorem dX9_init_32 : decode cX9_init 32 = .ok (.newarray .int, 2) := by decide +kernel
theorem dX9_init_34 : decode cX9_init 34 = .ok (.putfield 21, 3) := by decide +kernel
theorem dX9_init_37 : decode cX9_init 37 = .ok (.aload_n 0, 1) := by decide +kernel
theorem dX9_init_38 : decode cX9_init 38 = .ok (.bipush 12, 2) := by decide +kernel
theorem dX9_init_40 : decode cX9_init 40 = .ok (.newarray .int, 2) := by decide +kernel
theorem dX9_init_42 : decode cX9_init 42 = .ok (.putfield 24, 3) := by decide +kernel
theorem dX9_init_45 : decode cX9_init 45 = .ok (.aload_n 0, 1) := by decide +kernel
theorem dX9_init_46 : decode cX9_init 46 = .ok (.bipush 12, 2) := by decide +kernel
theorem dX9_init_48 : decode cX9_init 48 = .ok (.newarray .int, 2) := by decide +kernel
theorem dX9_init_50 : decode cX9_init 50 = .ok (.putfield 27, 3) := by decide +kernel
theorem dX9_init_53 : decode cX9_init 53 = .ok (.return_, 1) := by decide +kernel
def wp_X9_init (t : Nat) (σ : st_S) (Q : st_S → Prop) : Prop := ∀ (t31 : Nat) (s32 : st_S), t31 = gN σ → s32 = sA σ 0 400 → gK s32 t = 32 + 9 ∧ ∀ s34 : st_S, s34 = sR s32 t 0 (some t31) → ∀ (t35 : Nat) (s36 : st_S), t35 = gN s34 → s36 = sA s34 0 12 → gK s36 t = 32 + 9 ∧ ∀ s38 : st_S, s38 = sR s36 t 1 (some t35) → ∀ (t39 : Nat) (s40 : st_S), t39 = gN s38 → s40 = sA s38 0 12 → gK s40 t = 32 + 9 ∧ ∀ s42 : st_S, s42 = sR s40 t 2 (some t39) → ∀ (t43 : Nat) (s44 : st_S), t43 = gN s42 → s44 = sA s42 0 12 → gK s44 t = 32 + 9 ∧ ∀ s46 : st_S, s46 = sR s44 t 3 (some t43) → ∀ (t47 : Nat) (s48 : st_S), t47 = gN s46 → s48 = sA s46 0 12 → gK s48 t = 32 + 9 ∧ ∀ s50 : st_S, s50 = sR s48 t 4 (some t47) → ∀ (t51 : Nat) (s52 : st_S), t51 = gN s50 → s52 = sA s50 0 12 → gK s52 t = 32 + 9 ∧ ∀ s54 : st_S, s54 = sR s52 t 5 (some t51) → Q s54
set_option maxRecDepth 20000 in
theorem c_X9_init {l : Launch} {E : ev_E} (hE : Eok E) {σ : st_S} (hM : MkE E (gN σ)) {t : Nat} {Q : st_S → Prop} (h : wp_X9_init t σ Q) : cM l yX9_init cX9_init 1 none E 1 6 460 [vR E t] σ (qV E (gN σ + 6) Q) := by
  refine cM_of (lv := [(0, vR E t)]) (by decide) hE (Nat.le_of_ble_eq_true rfl) rfl ?_
  intro X hX hc hcl hsl hr hnm _
  subst hX
  have hh : 1 ≤ 1 := Nat.le_refl _
  have hh1 : 1 ≤ 1 := by omega
  replace h : ∀ (t31 : Nat) (s32 : st_S), t31 = gN σ → s32 = sA σ 0 400 → gK s32 t = 32 + 9 ∧ ∀ s34 : st_S, s34 = sR s32 t 0 (some t31) → ∀ (t35 : Nat) (s36 : st_S), t35 = gN s34 → s36 = sA s34 0 12 → gK s36 t = 32 + 9 ∧ ∀ s38 : st_S, s38 = sR s36 t 1 (some t35) → ∀ (t39 : Nat) (s40 : st_S), t39 = gN s38 → s40 = sA s38 0 12 → gK s40 t = 32 + 9 ∧ ∀ s42 : st_S, s42 = sR s40 t 2 (some t39) → ∀ (t43 : Nat) (s44 : st_S), t43 = gN s42 → s44 = sA s42 0 12 → gK s44 t = 32 + 9 ∧ ∀ s46 : st_S, s46 = sR s44 t 3 (some t43) → ∀ (t47 : Nat) (s48 : st_S), t47 = gN s46 → s48 = sA s46 0 12 → gK s48 t = 32 + 9 ∧ ∀ s50 : st_S, s50 = sR s48 t 4 (some t47) → ∀ (t51 : Nat) (s52 : st_S), t51 = gN s50 → s52 = sA s50 0 12 → gK s52 t = 32 + 9 ∧ ∀ s54 : st_S, s54 = sR s52 t 5 (some t51) → Q s54 := h
  refine j_aload_nR hc 0 dX9_init_0 rfl rfl ?_
  refine j_obj hc ol_RX9_3 hh1 (Nat.le_of_ble_eq_true rfl) dX9_init_1 ?_
  refine j_aload_nR hc 0 dX9_init_4 rfl rfl ?_
  refine j_sipush hc dX9_init_5 (by decide) ?_
  refine j_newa (N := 400) hc (hM.at hc) nk_0 (by decide) (by decide) (by constructor <;> omega) dX9_init_8 (fun t31 s32 et31 es32 => ?_)
  replace h := h t31 s32 et31 es32
  obtain ⟨f33, h⟩ := h
  refine j_putR hc fl_RX9_9 rfl (Or.inr ⟨rfl, hnm, rfl⟩) (fun _ => Or.inr f33) (fun _ => Or.inl f33) dX9_init_10 (fun s34 es34 => ?_)
  replace h := h s34 es34
  refine j_aload_nR hc 0 dX9_init_13 rfl rfl ?_
  refine j_bipush hc dX9_init_14 (by decide) ?_
  refine j_newa (N := 12) hc (hM.at hc) nk_0 (by decide) (by decide) (by constructor <;> omega) dX9_init_16 (fun t35 s36 et35 es36 => ?_)
  replace h := h t35 s36 et35 es36
  obtain ⟨f37, h⟩ := h
  refine j_putR hc fl_RX9_15 rfl (Or.inr ⟨rfl, hnm, rfl⟩) (fun _ => Or.inr f37) (fun _ => Or.inl f37) dX9_init_18 (fun s38 es38 => ?_)
  replace h := h s38 es38
  refine j_aload_nR hc 0 dX9_init_21 rfl rfl ?_
  refine j_bipush hc dX9_init_22 (by decide) ?_
  refine j_newa (N := 12) hc (hM.at hc) nk_0 (by decide) (by decide) (by constructor <;> omega) dX9_init_24 (fun t39 s40 et39 es40 => ?_)
  replace h := h t39 s40 et39 es40
  obtain ⟨f41, h⟩ := h
  refine j_putR hc fl_RX9_18 rfl (Or.inr ⟨rfl, hnm, rfl⟩) (fun _ => Or.inr f41) (fun _ => Or.inl f41) dX9_init_26 (fun s42 es42 => ?_)
  replace h := h s42 es42
  refine j_aload_nR hc 0 dX9_init_29 rfl rfl ?_
  refine j_bipush hc dX9_init_30 (by decide) ?_
  refine j_newa (N := 12) hc (hM.at hc) nk_0 (by decide) (by decide) (by constructor <;> omega) dX9_init_32 (fun t43 s44 et43 es44 => ?_)
  replace h := h t43 s44 et43 es44
  obtain ⟨f45, h⟩ := h
  refine j_putR hc fl_RX9_21 rfl (Or.inr ⟨rfl, hnm, rfl⟩) (fun _ => Or.inr f45) (fun _ => Or.inl f45) dX9_init_34 (fun s46 es46 => ?_)
  replace h := h s46 es46
  refine j_aload_nR hc 0 dX9_init_37 rfl rfl ?_
  refine j_bipush hc dX9_init_38 (by decide) ?_
  refine j_newa (N := 12) hc (hM.at hc) nk_0 (by decide) (by decide) (by constructor <;> omega) dX9_init_40 (fun t47 s48 et47 es48 => ?_)
  replace h := h t47 s48 et47 es48
  obtain ⟨f49, h⟩ := h
  refine j_putR hc fl_RX9_24 rfl (Or.inr ⟨rfl, hnm, rfl⟩) (fun _ => Or.inr f49) (fun _ => Or.inl f49) dX9_init_42 (fun s50 es50 => ?_)
  replace h := h s50 es50
  refine j_aload_nR hc 0 dX9_init_45 rfl rfl ?_
  refine j_bipush hc dX9_init_46 (by decide) ?_
  refine j_newa (N := 12) hc (hM.at hc) nk_0 (by decide) (by decide) (by constructor <;> omega) dX9_init_48 (fun t51 s52 et51 es52 => ?_)
  replace h := h t51 s52 et51 es52
  obtain ⟨f53, h⟩ := h
  refine j_putR hc fl_RX9_27 rfl (Or.inr ⟨rfl, hnm, rfl⟩) (fun _ => Or.inr f53) (fun _ => Or.inl f53) dX9_init_50 (fun s54 es54 => ?_)
  replace h := h s54 es54
  refine j_wide (slots' := 460) (by omega) ?_
  exact j_vret hc hr h dX9_init_53
-- LitStrangers$Text.<init>(LLitStrangers$Text;)V
theorem dX9_init__0 : decode cX9_init_ 0 = .ok (.aload_n 0, 1) := by decide +kernel
theorem dX9_init__1 : decode cX9_init_ 1 = .ok (.invokespecial 3, 3) := by decide +kernel
theorem dX9_init__4 : decode cX9_init_ 4 = .ok (.aload_n 0, 1) := by decide +kernel
theorem dX9_init__5 : decode cX9_init_ 5 = .ok (.aload_n 1, 1) := by decide +kernel
theorem dX9_init__6 : decode cX9_init_ 6 = .ok (.getfield 30, 3) := by decide +kernel
theorem dX9_init__9 : decode cX9_init_ 9 = .ok (.putfield 30, 3) := by decide +kernel
theorem dX9_init__12 : decode cX9_init_ 12 = .ok (.aload_n 0, 1) := by decide +kernel
theorem dX9_init__13 : decode cX9_init_ 13 = .ok (.aload_n 1, 1) := by decide +kernel
theorem dX9_init__14 : decode cX9_init_ 14 = .ok (.getfield 34, 3) := by decide +kernel
theorem dX9_init__17 : decode cX9_init_ 17 = .ok (.putfield 34, 3) := by decide +kernel
theorem dX9_init__20 : decode cX9_init_ 20 = .ok (.aload_n 0, 1) := by decide +kernel
theorem dX9_init__21 : decode cX9_init_ 21 = .ok (.aload_n 1, 1) := by decide +kernel
theorem dX9_init__22 : decode cX9_init_ 22 = .ok (.getfield 9, 3) := by decide +kernel
theorem dX9_init__25 : decode cX9_init_ 25 = .ok (.aload_n 1, 1) := by decide +kernel
theorem dX9_init__26 : decode cX9_init_ 26 = .ok (.getfield 30, 3) := by decide +kernel
theorem dX9_init__29 : decode cX9_init_ 29 = .ok (.invokestatic 37, 3) := by decide +kernel
theorem dX9_init__32 : decode cX9_init_ 32 = .ok (.putfield 9, 3) := by decide +kernel
theorem dX9_init__35 : decode cX9_init_ 35 = .ok (.aload_n 0, 1) := by decide +kernel
theorem dX9_init__36 : decode cX9_init_ 36 = .ok (.aload_n 1, 1) := by decide +kernel
theorem dX9_init__37 : decode cX9_init_ 37 = .ok (.getfield 15, 3) := by decide +kernel
theorem dX9_init__40 : decode cX9_init_ 40 = .ok (.aload_n 1, 1) := by decide +kernel
theorem dX9_init__41 : decode cX9_init_ 41 = .ok (.getfield 34, 3) := by decide +kernel
theorem dX9_init__44 : decode cX9_init_ 44 = .ok (.invokestatic 37, 3) := by decide +kernel
theorem dX9_init__47 : decode cX9_init_ 47 = .ok (.putfield 15, 3) := by decide +kernel
theorem dX9_init__50 : decode cX9_init_ 50 = .ok (.aload_n 0, 1) := by decide +kernel
theorem dX9_init__51 : decode cX9_init_ 51 = .ok (.aload_n 1, 1) := by decide +kernel
theorem dX9_init__52 : decode cX9_init_ 52 = .ok (.getfield 18, 3) := by decide +kernel
theorem dX9_init__55 : decode cX9_init_ 55 = .ok (.aload_n 1, 1) := by decide +kernel
theorem dX9_init__56 : decode cX9_init_ 56 = .ok (.getfield 34, 3) := by decide +kernel
theorem dX9_init__59 : decode cX9_init_ 59 = .ok (.invokestatic 37, 3) := by decide +kernel
theorem dX9_init__62 : decode cX9_init_ 62 = .ok (.putfield 18, 3) := by decide +kernel
theorem dX9_init__65 : decode cX9_init_ 65 = .ok (.aload_n 0, 1) := by decide +kernel
theorem dX9_init__66 : decode cX9_init_ 66 = .ok (.aload_n 1, 1) := by decide +kernel
theorem dX9_init__67 : decode cX9_init_ 67 = .ok (.getfield 21, 3) := by decide +kernel
theorem dX9_init__70 : decode cX9_init_ 70 = .ok (.aload_n 1, 1) := by decide +kernel
theorem dX9_init__71 : decode cX9_init_ 71 = .ok (.getfield 34, 3) := by decide +kernel
theorem dX9_init__74 : decode cX9_init_ 74 = .ok (.invokestatic 37, 3) := by decide +kernel
theorem dX9_init__77 : decode cX9_init_ 77 = .ok (.putfield 21, 3) := by decide +kernel
theorem dX9_init__80 : decode cX9_init_ 80 = .ok (.aload_n 0, 1) := by decide +kernel
theorem dX9_init__81 : decode cX9_init_ 81 = .ok (.aload_n 1, 1) := by decide +kernel
theorem dX9_init__82 : decode cX9_init_ 82 = .ok (.getfield 24, 3) := by decide +kernel
theorem dX9_init__85 : decode cX9_init_ 85 = .ok (.aload_n 1, 1) := by decide +kernel
theorem dX9_init__86 : decode cX9_init_ 86 = .ok (.getfield 34, 3) := by decide +kernel
theorem dX9_init__89 : decode cX9_init_ 89 = .ok (.invokestatic 37, 3) := by decide +kernel
theorem dX9_init__92 : decode cX9_init_ 92 = .ok (.putfield 24, 3) := by decide +kernel
theorem dX9_init__95 : decode cX9_init_ 95 = .ok (.aload_n 0, 1) := by decide +kernel
theorem dX9_init__96 : decode cX9_init_ 96 = .ok (.aload_n 1, 1) := by decide +kernel
theorem dX9_init__97 : decode cX9_init_ 97 = .ok (.getfield 27, 3) := by decide +kernel
theorem dX9_init__100 : decode cX9_init_ 100 = .ok (.aload_n 1, 1) := by decide +kernel
theorem dX9_init__101 : decode cX9_init_ 101 = .ok (.getfield 34, 3) := by decide +kernel
theorem dX9_init__104 : decode cX9_init_ 104 = .ok (.invokestatic 37, 3) := by decide +kernel
theorem dX9_init__107 : decode cX9_init_ 107 = .ok (.putfield 27, 3) := by decide +kernel
theorem dX9_init__110 : decode cX9_init_ 110 = .ok (.return_, 1) := by decide +kernel
def wp_X9_init_ (t : Nat) (a1 : Nat) (σ : st_S) (Q : st_S → Prop) : Prop := gK σ a1 = 16 + 9 ∧ gK σ t = 32 + 9 ∧ ∀ s60 : st_S, s60 = sI σ t 6 (gI σ a1 6) → ∀ s62 : st_S, s62 = sI s60 t 7 (gI s60 a1 7) → (0 ≤ gI s62 a1 6 ∧ gI s62 a1 6 ≤ 400) ∧ wp_J7_copyOf_59c91 (a1 + 1) (gI s62 a1 6) s62 (fun t64 s65 => gK s65 t = 32 + 9 ∧ ∀ s68 : st_S, s68 = sR s65 t 0 (some t64) → gK s68 a1 = 16 + 9 ∧ (0 ≤ gI s68 a1 7 ∧ gI s68 a1 7 ≤ 12) ∧ wp_J7_copyOf_59c91 (a1 + 2) (gI s68 a1 7) s68 (fun t71 s72 => gK s72 t = 32 + 9 ∧ ∀ s75 : st_S, s75 = sR s72 t 1 (some t71) → gK s75 a1 = 16 + 9 ∧ (0 ≤ gI s75 a1 7 ∧ gI s75 a1 7 ≤ 12) ∧ wp_J7_copyOf_59c91 (a1 + 3) (gI s75 a1 7) s75 (fun t78 s79 => gK s79 t = 32 + 9 ∧ ∀ s82 : st_S, s82 = sR s79 t 2 (some t78) → gK s82 a1 = 16 + 9 ∧ (0 ≤ gI s82 a1 7 ∧ gI s82 a1 7 ≤ 12) ∧ wp_J7_copyOf_59c91 (a1 + 4) (gI s82 a1 7) s82 (fun t85 s86 => gK s86 t = 32 + 9 ∧ ∀ s89 : st_S, s89 = sR s86 t 3 (some t85) → gK s89 a1 = 16 + 9 ∧ (0 ≤ gI s89 a1 7 ∧ gI s89 a1 7 ≤ 12) ∧ wp_J7_copyOf_59c91 (a1 + 5) (gI s89 a1 7) s89 (fun t92 s93 => gK s93 t = 32 + 9 ∧ ∀ s96 : st_S, s96 = sR s93 t 4 (some t92) → gK s96 a1 = 16 + 9 ∧ (0 ≤ gI s96 a1 7 ∧ gI s96 a1 7 ≤ 12) ∧ wp_J7_copyOf_59c91 (a1 + 6) (gI s96 a1 7) s96 (fun t99 s100 => gK s100 t = 32 + 9 ∧ ∀ s103 : st_S, s103 = sR s100 t 5 (some t99) → Q s103))))))
set_option maxRecDepth 20000 in
theorem c_X9_init_ {l : Launch} {E : ev_E} (hE : Eok E) {σ : st_S} (hM : MkE E (gN σ)) {t : Nat} {a1 : Nat} {Q : st_S → Prop} (h : wp_X9_init_ t a1 σ Q) : cM l yX9_init_ cX9_init_ 2 none E 2 6 460 [vR E t, vR E a1] σ (qV E (gN σ + 6) Q) := by
  refine cM_of (lv := [(0, vR E t), (1, vR E a1)]) (by decide) hE (Nat.le_of_ble_eq_true rfl) rfl ?_
  intro X hX hc hcl hsl hr hnm _
  subst hX
  have hh : 2 ≤ 2 := Nat.le_refl _
  have hh1 : 1 ≤ 2 := by omega
  replace h : gK σ a1 = 16 + 9 ∧ gK σ t = 32 + 9 ∧ ∀ s60 : st_S, s60 = sI σ t 6 (gI σ a1 6) → ∀ s62 : st_S, s62 = sI s60 t 7 (gI s60 a1 7) → (0 ≤ gI s62 a1 6 ∧ gI s62 a1 6 ≤ 400) ∧ wp_J7_copyOf_59c91 (a1 + 1) (gI s62 a1 6) s62 (fun t64 s65 => gK s65 t = 32 + 9 ∧ ∀ s68 : st_S, s68 = sR s65 t 0 (some t64) → gK s68 a1 = 16 + 9 ∧ (0 ≤ gI s68 a1 7 ∧ gI s68 a1 7 ≤ 12) ∧ wp_J7_copyOf_59c91 (a1 + 2) (gI s68 a1 7) s68 (fun t71 s72 => gK s72 t = 32 + 9 ∧ ∀ s75 : st_S, s75 = sR s72 t 1 (some t71) → gK s75 a1 = 16 + 9 ∧ (0 ≤ gI s75 a1 7 ∧ gI s75 a1 7 ≤ 12) ∧ wp_J7_copyOf_59c91 (a1 + 3) (gI s75 a1 7) s75 (fun t78 s79 => gK s79 t = 32 + 9 ∧ ∀ s82 : st_S, s82 = sR s79 t 2 (some t78) → gK s82 a1 = 16 + 9 ∧ (0 ≤ gI s82 a1 7 ∧ gI s82 a1 7 ≤ 12) ∧ wp_J7_copyOf_59c91 (a1 + 4) (gI s82 a1 7) s82 (fun t85 s86 => gK s86 t = 32 + 9 ∧ ∀ s89 : st_S, s89 = sR s86 t 3 (some t85) → gK s89 a1 = 16 + 9 ∧ (0 ≤ gI s89 a1 7 ∧ gI s89 a1 7 ≤ 12) ∧ wp_J7_copyOf_59c91 (a1 + 5) (gI s89 a1 7) s89 (fun t92 s93 => gK s93 t = 32 + 9 ∧ ∀ s96 : st_S, s96 = sR s93 t 4 (some t92) → gK s96 a1 = 16 + 9 ∧ (0 ≤ gI s96 a1 7 ∧ gI s96 a1 7 ≤ 12) ∧ wp_J7_copyOf_59c91 (a1 + 6) (gI s96 a1 7) s96 (fun t99 s100 => gK s100 t = 32 + 9 ∧ ∀ s103 : st_S, s103 = sR s100 t 5 (some t99) → Q s103)))))) := h
  refine j_aload_nR hc 0 dX9_init__0 rfl rfl ?_
  refine j_obj hc ol_RX9_3 hh1 (Nat.le_of_ble_eq_true rfl) dX9_init__1 ?_
  refine j_aload_nR hc 0 dX9_init__4 rfl rfl ?_
  refine j_aload_nR hc 1 dX9_init__5 rfl rfl ?_
  obtain ⟨f57, h⟩ := h
  refine j_getI hc fl_RX9_30 (Or.inl rfl) (fun _ => Or.inl f57) dX9_init__6 (fun cn58 => ?_)
  obtain ⟨f59, h⟩ := h
  refine j_putI hc fl_RX9_30 rfl rfl (fun _ => Or.inr f59) cn58 dX9_init__9 (fun s60 es60 => ?_)
  replace h := h s60 es60
  refine j_aload_nR hc 0 dX9_init__12 rfl rfl ?_
  refine j_aload_nR hc 1 dX9_init__13 rfl rfl ?_
  refine j_getI hc fl_RX9_34 (Or.inl rfl) (fun _ => Or.inl (kI (Or.inl ⟨_, _, _, es60⟩) f57)) dX9_init__14 (fun cn61 => ?_)
  refine j_putI hc fl_RX9_34 rfl rfl (fun _ => Or.inr (kI (Or.inl ⟨_, _, _, es60⟩) f59)) cn61 dX9_init__17 (fun s62 es62 => ?_)
  replace h := h s62 es62
  refine j_aload_nR hc 0 dX9_init__20 rfl rfl ?_
  refine j_aload_nR hc 1 dX9_init__21 rfl rfl ?_
  refine j_getR (c' := (a1 + 1)) hc fl_RX9_9 rfl rfl (fun _ => (kI (Or.inl ⟨_, _, _, es62⟩) (kI (Or.inl ⟨_, _, _, es60⟩) f57))) dX9_init__22 ?_
  refine j_aload_nR hc 1 dX9_init__25 rfl rfl ?_
  refine j_getI hc fl_RX9_30 (Or.inl rfl) (fun _ => Or.inl (kI (Or.inl ⟨_, _, _, es62⟩) (kI (Or.inl ⟨_, _, _, es60⟩) f57))) dX9_init__26 (fun cn63 => ?_)
  obtain ⟨b66, h⟩ := h
  refine j_csR (mc := 1) (ms := (Int.toNat (gI s62 a1 6))) (As := [vR E (a1 + 1), vI (gI s62 a1 6)]) hc ml_RX9_37 mv_J7_copyOf_59c91 (fun hn0 => c_J7_copyOf_59c91 (cx_E hc) (hM.up hn0) cn63 h) rfl (by omega) (by decide) (by constructor <;> omega) (Nat.le_of_ble_eq_true rfl) rfl dX9_init__29 (fun t64 s65 h => ?_)
  obtain ⟨f67, h⟩ := h
  refine j_putR hc fl_RX9_9 rfl (Or.inr ⟨rfl, hnm, rfl⟩) (fun _ => Or.inr f67) (fun _ => Or.inl f67) dX9_init__32 (fun s68 es68 => ?_)
  replace h := h s68 es68
  refine j_aload_nR hc 0 dX9_init__35 rfl rfl ?_
  refine j_aload_nR hc 1 dX9_init__36 rfl rfl ?_
  obtain ⟨f69, h⟩ := h
  refine j_getR (c' := (a1 + 2)) hc fl_RX9_15 rfl rfl (fun _ => f69) dX9_init__37 ?_
  refine j_aload_nR hc 1 dX9_init__40 rfl rfl ?_
  refine j_getI hc fl_RX9_34 (Or.inl rfl) (fun _ => Or.inl f69) dX9_init__41 (fun cn70 => ?_)
  obtain ⟨b73, h⟩ := h
  refine j_csR (mc := 1) (ms := (Int.toNat (gI s68 a1 7))) (As := [vR E (a1 + 2), vI (gI s68 a1 7)]) hc ml_RX9_37 mv_J7_copyOf_59c91 (fun hn0 => c_J7_copyOf_59c91 (cx_E hc) (hM.up hn0) cn70 h) rfl (by omega) (by decide) (by constructor <;> omega) (Nat.le_of_ble_eq_true rfl) rfl dX9_init__44 (fun t71 s72 h => ?_)
  obtain ⟨f74, h⟩ := h
  refine j_putR hc fl_RX9_15 rfl (Or.inr ⟨rfl, hnm, rfl⟩) (fun _ => Or.inr f74) (fun _ => Or.inl f74) dX9_init__47 (fun s75 es75 => ?_)
  replace h := h s75 es75
  refine j_aload_nR hc 0 dX9_init__50 rfl rfl ?_
  refine j_aload_nR hc 1 dX9_init__51 rfl rfl ?_
  obtain ⟨f76, h⟩ := h
  refine j_getR (c' := (a1 + 3)) hc fl_RX9_18 rfl rfl (fun _ => f76) dX9_init__52 ?_
  refine j_aload_nR hc 1 dX9_init__55 rfl rfl ?_
  refine j_getI hc fl_RX9_34 (Or.inl rfl) (fun _ => Or.inl f76) dX9_init__56 (fun cn77 => ?_)
  obtain ⟨b80, h⟩ := h
  refine j_csR (mc := 1) (ms := (Int.toNat (gI s75 a1 7))) (As := [vR E (a1 + 3), vI (gI s75 a1 7)]) hc ml_RX9_37 mv_J7_copyOf_59c91 (fun hn0 => c_J7_copyOf_59c91 (cx_E hc) (hM.up hn0) cn77 h) rfl (by omega) (by decide) (by constructor <;> omega) (Nat.le_of_ble_eq_true rfl) rfl dX9_init__59 (fun t78 s79 h => ?_)
  obtain ⟨f81, h⟩ := h
  refine j_putR hc fl_RX9_18 rfl (Or.inr ⟨rfl, hnm, rfl⟩) (fun _ => Or.inr f81) (fun _ => Or.inl f81) dX9_init__62 (fun s82 es82 => ?_)
  replace h := h s82 es82
  refine j_aload_nR hc 0 dX9_init__65 rfl rfl ?_
  refine j_aload_nR hc 1 dX9_init__66 rfl rfl ?_
  obtain ⟨f83, h⟩ := h
  refine j_getR (c' := (a1 + 4)) hc fl_RX9_21 rfl rfl (fun _ => f83) dX9_init__67 ?_
  refine j_aload_nR hc 1 dX9_init__70 rfl rfl ?_
  refine j_getI hc fl_RX9_34 (Or.inl rfl) (fun _ => Or.inl f83) dX9_init__71 (fun cn84 => ?_)
  obtain ⟨b87, h⟩ := h
  refine j_csR (mc := 1) (ms := (Int.toNat (gI s82 a1 7))) (As := [vR E (a1 + 4), vI (gI s82 a1 7)]) hc ml_RX9_37 mv_J7_copyOf_59c91 (fun hn0 => c_J7_copyOf_59c91 (cx_E hc) (hM.up hn0) cn84 h) rfl (by omega) (by decide) (by constructor <;> omega) (Nat.le_of_ble_eq_true rfl) rfl dX9_init__74 (fun t85 s86 h => ?_)
  obtain ⟨f88, h⟩ := h
  refine j_putR hc fl_RX9_21 rfl (Or.inr ⟨rfl, hnm, rfl⟩) (fun _ => Or.inr f88) (fun _ => Or.inl f88) dX9_init__77 (fun s89 es89 => ?_)
  replace h := h s89 es89
  refine j_aload_nR hc 0 dX9_init__80 rfl rfl ?_
  refine j_aload_nR hc 1 dX9_init__81 rfl rfl ?_
  obtain ⟨f90, h⟩ := h
  refine j_getR (c' := (a1 + 5)) hc fl_RX9_24 rfl rfl (fun _ => f90) dX9_init__82 ?_
  refine j_aload_nR hc 1 dX9_init__85 rfl rfl ?_
  refine j_getI hc fl_RX9_34 (Or.inl rfl) (fun _ => Or.inl f90) dX9_init__86 (fun cn91 => ?_)
  obtain ⟨b94, h⟩ := h
  refine j_csR (mc := 1) (ms := (Int.toNat (gI s89 a1 7))) (As := [vR E (a1 + 5), vI (gI s89 a1 7)]) hc ml_RX9_37 mv_J7_copyOf_59c91 (fun hn0 => c_J7_copyOf_59c91 (cx_E hc) (hM.up hn0) cn91 h) rfl (by omega) (by decide) (by constructor <;> omega) (Nat.le_of_ble_eq_true rfl) rfl dX9_init__89 (fun t92 s93 h => ?_)
  obtain ⟨f95, h⟩ := h
  refine j_putR hc fl_RX9_24 rfl (Or.inr ⟨rfl, hnm, rfl⟩) (fun _ => Or.inr f95) (fun _ => Or.inl f95) dX9_init__92 (fun s96 es96 => ?_)
  replace h := h s96 es96
  refine j_aload_nR hc 0 dX9_init__95 rfl rfl ?_
  refine j_aload_nR hc 1 dX9_init__96 rfl rfl ?_
  obtain ⟨f97, h⟩ := h
  refine j_getR (c' := (a1 + 6)) hc fl_RX9_27 rfl rfl (fun _ => f97) dX9_init__97 ?_
  refine j_aload_nR hc 1 dX9_init__100 rfl rfl ?_
  refine j_getI hc fl_RX9_34 (Or.inl rfl) (fun _ => Or.inl f97) dX9_init__101 (fun cn98 => ?_)
  obtain ⟨b101, h⟩ := h
  refine j_csR (mc := 1) (ms := (Int.toNat (gI s96 a1 7))) (As := [vR E (a1 + 6), vI (gI s96 a1 7)]) hc ml_RX9_37 mv_J7_copyOf_59c91 (fun hn0 => c_J7_copyOf_59c91 (cx_E hc) (hM.up hn0) cn98 h) rfl (by omega) (by decide) (by constructor <;> omega) (Nat.le_of_ble_eq_true rfl) rfl dX9_init__104 (fun t99 s100 h => ?_)
  obtain ⟨f102, h⟩ := h
  refine j_putR hc fl_RX9_27 rfl (Or.inr ⟨rfl, hnm, rfl⟩) (fun _ => Or.inr f102) (fun _ => Or.inl f102) dX9_init__107 (fun s103 es103 => ?_)
  replace h := h s103 es103
  refine j_wide (slots' := 460) (by omega) ?_
  exact j_vret hc hr h dX9_init__110
-- LitStrangers$Reader.<init>()V
theorem dX6_init_0 : decode cX6_init 0 = .ok (.aload_n 0, 1) := by decide +kernel
theorem dX6_init_1 : decode cX6_init 1 = .ok (.invokespecial 3, 3) := by decide +kernel
theorem dX6_init_4 : decode cX6_init 4 = .ok (.aload_n 0, 1) := by decide +kernel
theorem dX6_init_5 : decode cX6_init 5 = .ok (.sipush 400, 3) := by decide +kernel
theorem dX6_init_8 : decode cX6_init 8 = .ok (.newarray .int, 2) := by decide +kernel
theorem dX6_init_10 : decode cX6_init 10 = .ok (.putfield 9, 3) := by decide +kernel
theorem dX6_init_13 : decode cX6_init 13 = .ok (.aload_n 0, 1) := by decide +kernel
theorem dX6_init_14 : decode cX6_init 14 = .ok (.new 15, 3) := by decide +kernel
theorem dX6_init_17 : decode cX6_init 17 = .ok (.dup, 1) := by decide +kernel
theorem dX6_init_18 : decode cX6_init 18 = .ok (.invokespecial 17, 3) := by decide +kernel
theorem dX6_init_21 : decode cX6_init 21 = .ok (.putfield 18, 3) := by decide +kernel
theorem dX6_init_24 : decode cX6_init 24 = .ok (.aload_n 0, 1) := by decide +kernel
theorem dX6_init_25 : decode cX6_init 25 = .ok (.iconst (-1), 1) := by decide +kernel
theorem dX6_init_26 : decode cX6_init 26 = .ok (.putfield 22, 3) := by decide +kernel
theorem dX6_init_29 : decode cX6_init 29 = .ok (.return_, 1) := by decide +kernel
def wp_X6_init (t : Nat) (σ : st_S) (Q : st_S → Prop) : Prop := ∀ (t15 : Nat) (s16 : st_S), t15 = gN σ → s16 = sA σ 0 400 → gK s16 t = 32 + 6 ∧ ∀ s18 : st_S, s18 = sR s16 t 0 (some t15) → ∀ (t19 : Nat) (s20 : st_S), t19 = gN s18 → s20 = sA s18 (32 + 9) 0 → wp_X9_init t19 s20 (fun s21 => Fin1 s21 t19 9 ∧ skNo 0 t19 ∧ ∀ s22 : st_S, s22 = sK s21 t19 (16 + 9) → gK s22 t = 32 + 6 ∧ ∀ s25 : st_S, s25 = sR s22 t 2 (some t19) → ∀ s26 : st_S, s26 = sI s25 t 3 (-1) → Q s26)
set_option maxRecDepth 20000 in
theorem c_X6_init {l : Launch} {E : ev_E} (hE : Eok E) (hm : eM E = 0) {σ : st_S} (hM : MkE E (gN σ)) {t : Nat} {Q : st_S → Prop} (h : wp_X6_init t σ Q) : cM l yX6_init cX6_init 1 none E 2 8 868 [vR E t] σ (qV E (gN σ + 8) Q) := by
  refine cM_of (lv := [(0, vR E t)]) (by decide) hE (Nat.le_of_ble_eq_true rfl) rfl ?_
  intro X hX hc hcl hsl hr hnm _
  subst hX
  have hh : 2 ≤ 2 := Nat.le_refl _
  have hh1 : 1 ≤ 2 := by omega
  replace h : ∀ (t15 : Nat) (s16 : st_S), t15 = gN σ → s16 = sA σ 0 400 → gK s16 t = 32 + 6 ∧ ∀ s18 : st_S, s18 = sR s16 t 0 (some t15) → ∀ (t19 : Nat) (s20 : st_S), t19 = gN s18 → s20 = sA s18 (32 + 9) 0 → wp_X9_init t19 s20 (fun s21 => Fin1 s21 t19 9 ∧ skNo 0 t19 ∧ ∀ s22 : st_S, s22 = sK s21 t19 (16 + 9) → gK s22 t = 32 + 6 ∧ ∀ s25 : st_S, s25 = sR s22 t 2 (some t19) → ∀ s26 : st_S, s26 = sI s25 t 3 (-1) → Q s26) := h
  refine j_aload_nR hc 0 dX6_init_0 rfl rfl ?_
  refine j_obj hc ol_RX6_3 hh1 (Nat.le_of_ble_eq_true rfl) dX6_init_1 ?_
  refine j_aload_nR hc 0 dX6_init_4 rfl rfl ?_
  refine j_sipush hc dX6_init_5 (by decide) ?_
  refine j_newa (N := 400) hc (hM.at hc) nk_0 (by decide) (by decide) (by constructor <;> omega) dX6_init_8 (fun t15 s16 et15 es16 => ?_)
  replace h := h t15 s16 et15 es16
  obtain ⟨f17, h⟩ := h
  refine j_putR hc fl_RX6_9 rfl (Or.inr ⟨rfl, hnm, rfl⟩) (fun _ => Or.inr f17) (fun _ => Or.inl f17) dX6_init_10 (fun s18 es18 => ?_)
  replace h := h s18 es18
  refine j_aload_nR hc 0 dX6_init_13 rfl rfl ?_
  refine j_newN (N := 8) hc (hM.at hc) nw_RX6_15 rfl (by constructor <;> omega) dX6_init_14 (fun t19 s20 et19 es20 => ?_)
  replace h := h t19 s20 et19 es20
  refine j_dup hc dX6_init_17 rfl ?_
  refine j_ini (mc := 6) (ms := 460) (As := []) hc il_RX6_17 (fun hn0 => c_X9_init (cx_E hc) (hM.up hn0) h) rfl (by omega) (by decide) (by constructor <;> omega) (Nat.le_of_ble_eq_true rfl) rfl dX6_init_18 (fun s21 h => ?_)
  refine j_fin (by decide) hm h.2.1 h.1 (fun s22 es22 => ?_)
  replace h := h.2.2 s22 es22
  obtain ⟨f24, h⟩ := h
  refine j_putR hc fl_RX6_18 rfl (Or.inr ⟨rfl, hnm, rfl⟩) (fun _ => Or.inr f24) (fun _ => Or.inl f24) dX6_init_21 (fun s25 es25 => ?_)
  replace h := h s25 es25
  refine j_aload_nR hc 0 dX6_init_24 rfl rfl ?_
  refine j_iconst hc dX6_init_25 ?_
  refine j_putI hc fl_RX6_22 rfl rfl (fun _ => Or.inr (kI (Or.inr ⟨_, _, _, es25⟩) f24)) (wlit (-1) (by decide)) dX6_init_26 (fun s26 es26 => ?_)
  replace h := h s26 es26
  refine j_wide (slots' := 868) (by omega) ?_
  exact j_vret hc hr h dX6_init_29
-- LitStrangers.law()I
theorem dX10_law_0 : decode cX10_law 0 = .ok (.aload_n 0, 1) := by decide +kernel
theorem dX10_law_1 : decode cX10_law 1 = .ok (.getfield 56, 3) := by decide +kernel
theorem dX10_law_4 : decode cX10_law 4 = .ok (.getfield 168, 3) := by decide +kernel
theorem dX10_law_7 : decode cX10_law 7 = .ok (.bipush 6, 2) := by decide +kernel
theorem dX10_law_9 : decode cX10_law 9 = .ok (.if_icmp .lt 18, 3) := by decide +kernel
theorem dX10_law_12 : decode cX10_law 12 = .ok (.aload_n 0, 1) := by decide +kernel
theorem dX10_law_13 : decode cX10_law 13 = .ok (.getfield 23, 3) := by decide +kernel
theorem dX10_law_16 : decode cX10_law 16 = .ok (.iconst 0, 1) := by decide +kernel
theorem dX10_law_17 : decode cX10_law 17 = .ok (.putfield 152, 3) := by decide +kernel
theorem dX10_law_20 : decode cX10_law 20 = .ok (.aload_n 0, 1) := by decide +kernel
theorem dX10_law_21 : decode cX10_law 21 = .ok (.bipush (-5), 2) := by decide +kernel
theorem dX10_law_23 : decode cX10_law 23 = .ok (.invokevirtual 96, 3) := by decide +kernel
theorem dX10_law_26 : decode cX10_law 26 = .ok (.ireturn, 1) := by decide +kernel
theorem dX10_law_27 : decode cX10_law 27 = .ok (.aload_n 0, 1) := by decide +kernel
theorem dX10_law_28 : decode cX10_law 28 = .ok (.getfield 23, 3) := by decide +kernel
theorem dX10_law_31 : decode cX10_law 31 = .ok (.iconst 0, 1) := by decide +kernel
theorem dX10_law_32 : decode cX10_law 32 = .ok (.invokevirtual 171, 3) := by decide +kernel
theorem dX10_law_35 : decode cX10_law 35 = .ok (.istore_n 1, 1) := by decide +kernel
theorem dX10_law_36 : decode cX10_law 36 = .ok (.aload_n 0, 1) := by decide +kernel
theorem dX10_law_37 : decode cX10_law 37 = .ok (.getfield 23, 3) := by decide +kernel
theorem dX10_law_40 : decode cX10_law 40 = .ok (.iconst 0, 1) := by decide +kernel
theorem dX10_law_41 : decode cX10_law 41 = .ok (.putfield 152, 3) := by decide +kernel
theorem dX10_law_44 : decode cX10_law 44 = .ok (.iload_n 1, 1) := by decide +kernel
theorem dX10_law_45 : decode cX10_law 45 = .ok (.ifCond .ne 10, 3) := by decide +kernel
theorem dX10_law_48 : decode cX10_law 48 = .ok (.aload_n 0, 1) := by decide +kernel
theorem dX10_law_49 : decode cX10_law 49 = .ok (.bipush (-6), 2) := by decide +kernel
theorem dX10_law_51 : decode cX10_law 51 = .ok (.invokevirtual 96, 3) := by decide +kernel
theorem dX10_law_54 : decode cX10_law 54 = .ok (.ireturn, 1) := by decide +kernel
theorem dX10_law_55 : decode cX10_law 55 = .ok (.aload_n 0, 1) := by decide +kernel
theorem dX10_law_56 : decode cX10_law 56 = .ok (.getfield 56, 3) := by decide +kernel
theorem dX10_law_59 : decode cX10_law 59 = .ok (.getfield 175, 3) := by decide +kernel
theorem dX10_law_62 : decode cX10_law 62 = .ok (.aload_n 0, 1) := by decide +kernel
theorem dX10_law_63 : decode cX10_law 63 = .ok (.getfield 56, 3) := by decide +kernel
theorem dX10_law_66 : decode cX10_law 66 = .ok (.getfield 168, 3) := by decide +kernel
theorem dX10_law_69 : decode cX10_law 69 = .ok (.new 179, 3) := by decide +kernel
theorem dX10_law_72 : decode cX10_law 72 = .ok (.dup, 1) := by decide +kernel
theorem dX10_law_73 : decode cX10_law 73 = .ok (.aload_n 0, 1) := by decide +kernel
theorem dX10_law_74 : decode cX10_law 74 = .ok (.getfield 23, 3) := by decide +kernel
theorem dX10_law_77 : decode cX10_law 77 = .ok (.getfield 181, 3) := by decide +kernel
theorem dX10_law_80 : decode cX10_law 80 = .ok (.invokespecial 185, 3) := by decide +kernel
theorem dX10_law_83 : decode cX10_law 83 = .ok (.aastore, 1) := by decide +kernel
theorem dX10_law_84 : decode cX10_law 84 = .ok (.aload_n 0, 1) := by decide +kernel
theorem dX10_law_85 : decode cX10_law 85 = .ok (.getfield 56, 3) := by decide +kernel
theorem dX10_law_88 : decode cX10_law 88 = .ok (.dup, 1) := by decide +kernel
theorem dX10_law_89 : decode cX10_law 89 = .ok (.getfield 168, 3) := by decide +kernel
theorem dX10_law_92 : decode cX10_law 92 = .ok (.iconst 1, 1) := by decide +kernel
theorem dX10_law_93 : decode cX10_law 93 = .ok (.iadd, 1) := by decide +kernel
theorem dX10_law_94 : decode cX10_law 94 = .ok (.putfield 168, 3) := by decide +kernel
theorem dX10_law_97 : decode cX10_law 97 = .ok (.aload_n 0, 1) := by decide +kernel
theorem dX10_law_98 : decode cX10_law 98 = .ok (.aload_n 0, 1) := by decide +kernel
theorem dX10_law_99 : decode cX10_law 99 = .ok (.getfield 56, 3) := by decide +kernel
theorem dX10_law_102 : decode cX10_law 102 = .ok (.getfield 168, 3) := by decide +kernel
theorem dX10_law_105 : decode cX10_law 105 = .ok (.iconst 1, 1) := by decide +kernel
theorem dX10_law_106 : decode cX10_law 106 = .ok (.isub, 1) := by decide +kernel
theorem dX10_law_107 : decode cX10_law 107 = .ok (.invokevirtual 111, 3) := by decide +kernel
theorem dX10_law_110 : decode cX10_law 110 = .ok (.ireturn, 1) := by decide +kernel
def wp_X10_law  (σ : st_S) (Q : Int → st_S → Prop) : Prop := (gI σ 25 10 < 6 → wp_X6_read 0 σ (fun r29 s30 => ∀ s31 : st_S, s31 = sI s30 12 1 0 → (¬ r29 = 0 → ∀ (t33 : Nat) (s34 : st_S), t33 = gN s31 → s34 = sA s31 (32 + 9) 0 → wp_X9_init_ t33 14 s34 (fun s35 => Fin1 s35 t33 9 ∧ skNo 1 t33 ∧ ∀ s36 : st_S, s36 = sK s35 t33 (16 + 9) → ix (gI s31 25 10) 6 ∧ gK s36 t33 = 16 + 9 ∧ ∀ s39 : st_S, s39 = sR s36 34 (Int.toNat (gI s31 25 10)) (some t33) → ∀ x42 : Int, x42 = wr (gI s39 25 10 + 1) → ∀ s43 : st_S, s43 = sI s39 25 10 x42 → wp_X10_accept (wr (gI s43 25 10 - 1)) s43 (fun r45 s46 => Q r45 s46))) ∧ (r29 = 0 → wp_X10_refuse (-6) s31 (fun r47 s48 => Q r47 s48)))) ∧ (¬ gI σ 25 10 < 6 → ∀ s50 : st_S, s50 = sI σ 12 1 0 → wp_X10_refuse (-5) s50 (fun r51 s52 => Q r51 s52))
set_option maxRecDepth 20000 in
theorem c_X10_law {l : Launch} {E : ev_E} (hE : Eok E) (hm : eM E = 1) {σ : st_S} (hM : MkE E (gN σ)) {Q : Int → st_S → Prop} (h : wp_X10_law σ Q) : cM l yX10_law cX10_law 2 (some .int) E 91 7 468 [vR E 0] σ (qX E (gN σ) 7 Q) := by
  refine cM_of (lv := [(0, vR E 0)]) (by decide) hE (Nat.le_of_ble_eq_true rfl) rfl ?_
  intro X hX hc hcl hsl hr hnm _
  subst hX
  have hh : 91 ≤ 91 := Nat.le_refl _
  have hh1 : 1 ≤ 91 := by omega
  replace h : (gI σ 25 10 < 6 → wp_X6_read 0 σ (fun r29 s30 => ∀ s31 : st_S, s31 = sI s30 12 1 0 → (¬ r29 = 0 → ∀ (t33 : Nat) (s34 : st_S), t33 = gN s31 → s34 = sA s31 (32 + 9) 0 → wp_X9_init_ t33 14 s34 (fun s35 => Fin1 s35 t33 9 ∧ skNo 1 t33 ∧ ∀ s36 : st_S, s36 = sK s35 t33 (16 + 9) → ix (gI s31 25 10) 6 ∧ gK s36 t33 = 16 + 9 ∧ ∀ s39 : st_S, s39 = sR s36 34 (Int.toNat (gI s31 25 10)) (some t33) → ∀ x42 : Int, x42 = wr (gI s39 25 10 + 1) → ∀ s43 : st_S, s43 = sI s39 25 10 x42 → wp_X10_accept (wr (gI s43 25 10 - 1)) s43 (fun r45 s46 => Q r45 s46))) ∧ (r29 = 0 → wp_X10_refuse (-6) s31 (fun r47 s48 => Q r47 s48)))) ∧ (¬ gI σ 25 10 < 6 → ∀ s50 : st_S, s50 = sI σ 12 1 0 → wp_X10_refuse (-5) s50 (fun r51 s52 => Q r51 s52)) := h
  refine j_aload_nR hc 0 dX10_law_0 rfl rfl ?_
  refine j_getR (c' := 25) hc fl_RX10_56 rfl rfl (fun hv => (sv_k hv hm rfl)) dX10_law_1 ?_
  refine j_getI hc fl_RX10_168 (Or.inl rfl) (fun hv => Or.inl (sv_k hv hm rfl)) dX10_law_4 (fun cn28 => ?_)
  refine j_bipush hc dX10_law_7 (by decide) ?_
  refine j_ic_lt hc cn28 (wlit 6 (by decide)) (tgt := 27) dX10_law_9 (by decide) (fun q53 => ?_) (fun q53 => ?_)
  · replace h := h.1 q53
    refine j_aload_nR hc 0 dX10_law_27 rfl rfl ?_
    refine j_getR (c' := 12) hc fl_RX10_23 rfl rfl (fun hv => (sv_k hv hm rfl)) dX10_law_28 ?_
    refine j_iconst hc dX10_law_31 ?_
    refine j_vI hc (k := 6) (by decide) (fun hv => Or.inl (sv_k hv hm rfl)) ml_RX10_171 mv_X6_read (As := [vI 0]) (c_X6_read (cx_E hc) hm (wlit 0 (by decide)) h) rfl (by omega) (by decide) (by constructor <;> omega) (Nat.le_of_ble_eq_true rfl) rfl dX10_law_32 (fun r29 s30 cr29 h => ?_)
    refine j_istore_n (lv' := [(1, vI r29), (0, vR E 0)]) hc dX10_law_35 rfl (by decide) rfl ?_
    refine j_aload_nR hc 1 dX10_law_36 rfl rfl ?_
    refine j_getR (c' := 12) hc fl_RX10_23 rfl rfl (fun hv => (sv_k hv hm rfl)) dX10_law_37 ?_
    refine j_iconst hc dX10_law_40 ?_
    refine j_putI hc fl_RX10_152 rfl rfl (fun hv => Or.inl (sv_k hv hm rfl)) (wlit 0 (by decide)) dX10_law_41 (fun s31 es31 => ?_)
    replace h := h s31 es31
    refine j_iload_n hc 0 dX10_law_44 rfl rfl ?_
    refine j_if_ne hc cr29 (tgt := 55) dX10_law_45 (by decide) (fun q49 => ?_) (fun q49 => ?_)
    · replace h := h.1 q49
      refine j_aload_nR hc 1 dX10_law_55 rfl rfl ?_
      refine j_getR (c' := 25) hc fl_RX10_56 rfl rfl (fun hv => (sv_k hv hm rfl)) dX10_law_56 ?_
      refine j_getR (c' := 34) hc fl_RX10_175 rfl rfl (fun hv => (sv_k hv hm rfl)) dX10_law_59 ?_
      refine j_aload_nR hc 1 dX10_law_62 rfl rfl ?_
      refine j_getR (c' := 25) hc fl_RX10_56 rfl rfl (fun hv => (sv_k hv hm rfl)) dX10_law_63 ?_
      refine j_getI hc fl_RX10_168 (Or.inl rfl) (fun hv => Or.inl (sv_k hv hm rfl)) dX10_law_66 (fun cn32 => ?_)
      refine j_newN (N := 8) hc (hM.at hc) nw_RX10_179 rfl (by constructor <;> omega) dX10_law_69 (fun t33 s34 et33 es34 => ?_)
      replace h := h t33 s34 et33 es34
      refine j_dup hc dX10_law_72 rfl ?_
      refine j_aload_nR hc 1 dX10_law_73 rfl rfl ?_
      refine j_getR (c' := 12) hc fl_RX10_23 rfl rfl (fun hv => (sv_k hv hm rfl)) dX10_law_74 ?_
      refine j_getR (c' := 14) hc fl_RX10_181 rfl rfl (fun hv => (sv_k hv hm rfl)) dX10_law_77 ?_
      refine j_ini (mc := 6) (ms := 460) (As := [vR E 14]) hc il_RX10_185 (fun hn0 => c_X9_init_ (cx_E hc) (hM.up hn0) h) rfl (by omega) (by decide) (by constructor <;> omega) (Nat.le_of_ble_eq_true rfl) rfl dX10_law_80 (fun s35 h => ?_)
      refine j_fin (by decide) hm h.2.1 h.1 (fun s36 es36 => ?_)
      replace h := h.2.2 s36 es36
      obtain ⟨b38, h⟩ := h
      obtain ⟨f40, h⟩ := h
      refine j_aast (jn := (Int.toNat (gI s31 25 10))) hc 4 9 (by decide) (fun hv => sv_kl hv hm rfl) (fun _ => Or.inl f40) cn32 b38 rfl dX10_law_83 (fun s39 es39 => ?_)
      replace h := h s39 es39
      refine j_aload_nR hc 1 dX10_law_84 rfl rfl ?_
      refine j_getR (c' := 25) hc fl_RX10_56 rfl rfl (fun hv => (sv_k hv hm rfl)) dX10_law_85 ?_
      refine j_dup hc dX10_law_88 rfl ?_
      refine j_getI hc fl_RX10_168 (Or.inl rfl) (fun hv => Or.inl (sv_k hv hm rfl)) dX10_law_89 (fun cn41 => ?_)
      refine j_iconst hc dX10_law_92 ?_
      refine j_iadd hc dX10_law_93 ?_
      refine j_w (fun x42 ex42 cx42 => ?_)
      replace h := h x42 ex42
      refine j_putI hc fl_RX10_168 rfl rfl (fun hv => Or.inl (sv_k hv hm rfl)) cx42 dX10_law_94 (fun s43 es43 => ?_)
      replace h := h s43 es43
      refine j_aload_nR hc 1 dX10_law_97 rfl rfl ?_
      refine j_aload_nR hc 1 dX10_law_98 rfl rfl ?_
      refine j_getR (c' := 25) hc fl_RX10_56 rfl rfl (fun hv => (sv_k hv hm rfl)) dX10_law_99 ?_
      refine j_getI hc fl_RX10_168 (Or.inl rfl) (fun hv => Or.inl (sv_k hv hm rfl)) dX10_law_102 (fun cn44 => ?_)
      refine j_iconst hc dX10_law_105 ?_
      refine j_isub hc dX10_law_106 ?_
      refine j_vI hc (k := 10) (by decide) (fun hv => Or.inl (sv_k hv hm rfl)) ml_RX10_111 mv_X10_accept (As := [vI (wr (gI s43 25 10 - 1))]) (c_X10_accept (cx_E hc) hm (wr_wr _) h) rfl (by omega) (by decide) (by constructor <;> omega) (Nat.le_of_ble_eq_true rfl) (by simp only [vI_wr, vL_wl]; rfl) dX10_law_107 (fun r45 s46 cr45 h => ?_)
      exact j_iretX hc hr (by omega) cr45 h dX10_law_110
    · replace h := h.2 q49
      refine j_aload_nR hc 1 dX10_law_48 rfl rfl ?_
      refine j_bipush hc dX10_law_49 (by decide) ?_
      refine j_vI hc (k := 10) (by decide) (fun hv => Or.inl (sv_k hv hm rfl)) ml_RX10_96 mv_X10_refuse (As := [vI (-6)]) (c_X10_refuse (cx_E hc) hm (wlit (-6) (by decide)) h) rfl (by omega) (by decide) (by constructor <;> omega) (Nat.le_of_ble_eq_true rfl) rfl dX10_law_51 (fun r47 s48 cr47 h => ?_)
      exact j_iretX hc hr (by omega) cr47 h dX10_law_54
  · replace h := h.2 q53
    refine j_aload_nR hc 0 dX10_law_12 rfl rfl ?_
    refine j_getR (c' := 12) hc fl_RX10_23 rfl rfl (fun hv => (sv_k hv hm rfl)) dX10_law_13 ?_
    refine j_iconst hc dX10_law_16 ?_
    refine j_putI hc fl_RX10_152 rfl rfl (fun hv => Or.inl (sv_k hv hm rfl)) (wlit 0 (by decide)) dX10_law_17 (fun s50 es50 => ?_)
    replace h := h s50 es50
    refine j_aload_nR hc 0 dX10_law_20 rfl rfl ?_
    refine j_bipush hc dX10_law_21 (by decide) ?_
    refine j_vI hc (k := 10) (by decide) (fun hv => Or.inl (sv_k hv hm rfl)) ml_RX10_96 mv_X10_refuse (As := [vI (-5)]) (c_X10_refuse (cx_E hc) hm (wlit (-5) (by decide)) h) rfl (by omega) (by decide) (by constructor <;> omega) (Nat.le_of_ble_eq_true rfl) rfl dX10_law_23 (fun r51 s52 cr51 h => ?_)
    exact j_iretX hc hr (by omega) cr51 h dX10_law_26
-- LitStrangers.image(I)I
theorem dX10_image_0 : decode cX10_image 0 = .ok (.iload_n 1, 1) := by decide +kernel
theorem dX10_image_1 : decode cX10_image 1 = .ok (.ifCond .lt 8, 3) := by decide +kernel
theorem dX10_image_4 : decode cX10_image 4 = .ok (.iload_n 1, 1) := by decide +kernel
theorem dX10_image_5 : decode cX10_image 5 = .ok (.iconst 2, 1) := by decide +kernel
theorem dX10_image_6 : decode cX10_image 6 = .ok (.if_icmp .lt 9, 3) := by decide +kernel
theorem dX10_image_9 : decode cX10_image 9 = .ok (.aload_n 0, 1) := by decide +kernel
theorem dX10_image_10 : decode cX10_image 10 = .ok (.iconst (-1), 1) := by decide +kernel
theorem dX10_image_11 : decode cX10_image 11 = .ok (.invokevirtual 96, 3) := by decide +kernel
theorem dX10_image_14 : decode cX10_image 14 = .ok (.ireturn, 1) := by decide +kernel
theorem dX10_image_15 : decode cX10_image 15 = .ok (.aload_n 0, 1) := by decide +kernel
theorem dX10_image_16 : decode cX10_image 16 = .ok (.getfield 16, 3) := by decide +kernel
theorem dX10_image_19 : decode cX10_image 19 = .ok (.iload_n 1, 1) := by decide +kernel
theorem dX10_image_20 : decode cX10_image 20 = .ok (.aaload, 1) := by decide +kernel
theorem dX10_image_21 : decode cX10_image 21 = .ok (.ifnonnull 16, 3) := by decide +kernel
theorem dX10_image_24 : decode cX10_image 24 = .ok (.aload_n 0, 1) := by decide +kernel
theorem dX10_image_25 : decode cX10_image 25 = .ok (.getfield 16, 3) := by decide +kernel
theorem dX10_image_28 : decode cX10_image 28 = .ok (.iload_n 1, 1) := by decide +kernel
theorem dX10_image_29 : decode cX10_image 29 = .ok (.new 9, 3) := by decide +kernel
theorem dX10_image_32 : decode cX10_image 32 = .ok (.dup, 1) := by decide +kernel
theorem dX10_image_33 : decode cX10_image 33 = .ok (.invokespecial 11, 3) := by decide +kernel
theorem dX10_image_36 : decode cX10_image 36 = .ok (.aastore, 1) := by decide +kernel
theorem dX10_image_37 : decode cX10_image 37 = .ok (.aload_n 0, 1) := by decide +kernel
theorem dX10_image_38 : decode cX10_image 38 = .ok (.getfield 16, 3) := by decide +kernel
theorem dX10_image_41 : decode cX10_image 41 = .ok (.iload_n 1, 1) := by decide +kernel
theorem dX10_image_42 : decode cX10_image 42 = .ok (.aaload, 1) := by decide +kernel
theorem dX10_image_43 : decode cX10_image 43 = .ok (.aload_n 0, 1) := by decide +kernel
theorem dX10_image_44 : decode cX10_image 44 = .ok (.getfield 56, 3) := by decide +kernel
theorem dX10_image_47 : decode cX10_image 47 = .ok (.invokevirtual 191, 3) := by decide +kernel
theorem dX10_image_50 : decode cX10_image 50 = .ok (.aload_n 0, 1) := by decide +kernel
theorem dX10_image_51 : decode cX10_image 51 = .ok (.iconst 0, 1) := by decide +kernel
theorem dX10_image_52 : decode cX10_image 52 = .ok (.invokevirtual 111, 3) := by decide +kernel
theorem dX10_image_55 : decode cX10_image 55 = .ok (.ireturn, 1) := by decide +kernel
def B_X10_image_9 (Q : Int → st_S → Prop)  (σ : st_S) : Prop := wp_X10_refuse (-1) σ (fun r19 s20 => Q r19 s20)
def B_X10_image_37 (Q : Int → st_S → Prop) (l1 : Int) (σ : st_S) : Prop := ix l1 2 ∧ ∃ t22 : Nat, gR σ 11 (Int.toNat l1) = some t22 ∧ gK σ t22 = 16 + 1 ∧ wp_X1_copyFrom t22 25 σ (fun s24 => wp_X10_accept 0 s24 (fun r26 s27 => Q r26 s27))
def wp_X10_image (a1 : Int) (σ : st_S) (Q : Int → st_S → Prop) : Prop := (a1 < 0 → B_X10_image_9 Q σ) ∧ (¬ a1 < 0 → (a1 < 2 → ix a1 2 ∧ (gR σ 11 (Int.toNat a1) = none → ∀ (t30 : Nat) (s31 : st_S), t30 = gN σ → s31 = sA σ (32 + 1) 0 → wp_X1_init t30 s31 (fun s32 => Fin1 s32 t30 1 ∧ skNo 1 t30 ∧ ∀ s33 : st_S, s33 = sK s32 t30 (16 + 1) → ix a1 2 ∧ gK s33 t30 = 16 + 1 ∧ ∀ s36 : st_S, s36 = sR s33 11 (Int.toNat a1) (some t30) → B_X10_image_37 Q a1 s36)) ∧ (∀ t29 : Nat, gR σ 11 (Int.toNat a1) = some t29 → B_X10_image_37 Q a1 σ)) ∧ (¬ a1 < 2 → B_X10_image_9 Q σ))
set_option maxRecDepth 20000 in
theorem jb_X10_image_9 {X : jj_X} {E : ev_E} {n0 hN cells slots : Nat} (hc : Cx X E cX10_image 2 n0 hN RX10) (hm : eM E = 1) (hr : (xT X).sig.returnType = (some .int)) (hh : 2 ≤ hN) (hM : MkE E n0) (hcl : (xR X).cells = 10) (hsl : (xR X).slots = 184) (hcs : (cells = 0 ∨ cells = 10) ∧ slots ≤ 184) {Q : Int → st_S → Prop} {σ : st_S} (h : B_X10_image_9 Q σ) : J X E 2 n0 cells slots (MQ (xB X) (qX E n0 10 Q) (xA X) (xS X) 10 184 (eF E)) σ 9 [(0, vR E 0)] [] := by
  have hh1 : 1 ≤ hN := by omega
  replace h : wp_X10_refuse (-1) σ (fun r19 s20 => Q r19 s20) := h
  refine j_aload_nR hc 0 dX10_image_9 rfl rfl ?_
  refine j_iconst hc dX10_image_10 ?_
  refine j_vI hc (k := 10) (by decide) (fun hv => Or.inl (sv_k hv hm rfl)) ml_RX10_96 mv_X10_refuse (As := [vI (-1)]) (c_X10_refuse (cx_E hc) hm (wlit (-1) (by decide)) h) rfl (by omega) (by decide) (by constructor <;> omega) (Nat.le_of_ble_eq_true rfl) rfl dX10_image_11 (fun r19 s20 cr19 h => ?_)
  exact j_iretX hc hr (by omega) cr19 h dX10_image_14
set_option maxRecDepth 20000 in
theorem jb_X10_image_37 {X : jj_X} {E : ev_E} {n0 hN cells slots : Nat} (hc : Cx X E cX10_image 2 n0 hN RX10) (hm : eM E = 1) (hr : (xT X).sig.returnType = (some .int)) (hh : 2 ≤ hN) (hM : MkE E n0) (hcl : (xR X).cells = 10) (hsl : (xR X).slots = 184) (hcs : (cells = 0 ∨ cells = 10) ∧ slots ≤ 184) {Q : Int → st_S → Prop} {l1 : Int} (cl1 : wr l1 = l1) {σ : st_S} (h : B_X10_image_37 Q l1 σ) : J X E 2 n0 cells slots (MQ (xB X) (qX E n0 10 Q) (xA X) (xS X) 10 184 (eF E)) σ 37 [(0, vR E 0), (1, vI l1)] [] := by
  have hh1 : 1 ≤ hN := by omega
  replace h : ix l1 2 ∧ ∃ t22 : Nat, gR σ 11 (Int.toNat l1) = some t22 ∧ gK σ t22 = 16 + 1 ∧ wp_X1_copyFrom t22 25 σ (fun s24 => wp_X10_accept 0 s24 (fun r26 s27 => Q r26 s27)) := h
  refine j_aload_nR hc 0 dX10_image_37 rfl rfl ?_
  refine j_getR (c' := 11) hc fl_RX10_16 rfl rfl (fun hv => (sv_k hv hm rfl)) dX10_image_38 ?_
  refine j_iload_n hc 1 dX10_image_41 rfl rfl ?_
  obtain ⟨b21, h⟩ := h
  refine j_aald (jn := (Int.toNat l1)) hc 5 (by decide) (fun hv => sv_kl hv hm rfl) cl1 b21 rfl dX10_image_42 ?_
  obtain ⟨t22, et22, h⟩ := h
  refine j_some et22 ?_
  refine j_aload_nR hc 0 dX10_image_43 rfl rfl ?_
  refine j_getR (c' := 25) hc fl_RX10_56 rfl rfl (fun hv => (sv_k hv hm rfl)) dX10_image_44 ?_
  obtain ⟨f25, h⟩ := h
  refine j_vV hc (k := 1) (by decide) (fun _ => Or.inl f25) ml_RX10_191 mv_X1_copyFrom (As := [vR E 25]) (c_X1_copyFrom (cx_E hc) hm  h) rfl (by omega) (by decide) (by constructor <;> omega) (Nat.le_of_ble_eq_true rfl) rfl dX10_image_47 (fun s24 h => ?_)
  refine j_aload_nR hc 0 dX10_image_50 rfl rfl ?_
  refine j_iconst hc dX10_image_51 ?_
  refine j_vI hc (k := 10) (by decide) (fun hv => Or.inl (sv_k hv hm rfl)) ml_RX10_111 mv_X10_accept (As := [vI 0]) (c_X10_accept (cx_E hc) hm (wlit 0 (by decide)) h) rfl (by omega) (by decide) (by constructor <;> omega) (Nat.le_of_ble_eq_true rfl) rfl dX10_image_52 (fun r26 s27 cr26 h => ?_)
  exact j_iretX hc hr (by omega) cr26 h dX10_image_55
set_option maxRecDepth 20000 in
theorem c_X10_image {l : Launch} {E : ev_E} (hE : Eok E) (hm : eM E = 1) {σ : st_S} (hM : MkE E (gN σ)) {a1 : Int} (ca1 : wr a1 = a1) {Q : Int → st_S → Prop} (h : wp_X10_image a1 σ Q) : cM l yX10_image cX10_image 2 (some .int) E 2 10 184 [vR E 0, vI a1] σ (qX E (gN σ) 10 Q) := by
  refine cM_of (lv := [(0, vR E 0), (1, vI a1)]) (by decide) hE (Nat.le_of_ble_eq_true rfl) rfl ?_
  intro X hX hc hcl hsl hr hnm _
  subst hX
  have hh : 2 ≤ 2 := Nat.le_refl _
  have hh1 : 1 ≤ 2 := by omega
  replace h : (a1 < 0 → B_X10_image_9 Q σ) ∧ (¬ a1 < 0 → (a1 < 2 → ix a1 2 ∧ (gR σ 11 (Int.toNat a1) = none → ∀ (t30 : Nat) (s31 : st_S), t30 = gN σ → s31 = sA σ (32 + 1) 0 → wp_X1_init t30 s31 (fun s32 => Fin1 s32 t30 1 ∧ skNo 1 t30 ∧ ∀ s33 : st_S, s33 = sK s32 t30 (16 + 1) → ix a1 2 ∧ gK s33 t30 = 16 + 1 ∧ ∀ s36 : st_S, s36 = sR s33 11 (Int.toNat a1) (some t30) → B_X10_image_37 Q a1 s36)) ∧ (∀ t29 : Nat, gR σ 11 (Int.toNat a1) = some t29 → B_X10_image_37 Q a1 σ)) ∧ (¬ a1 < 2 → B_X10_image_9 Q σ)) := h
  refine j_iload_n hc 1 dX10_image_0 rfl rfl ?_
  refine j_if_lt hc ca1 (tgt := 9) dX10_image_1 (by decide) (fun q39 => ?_) (fun q39 => ?_)
  · replace h := h.1 q39
    refine j_sub (lv' := [(0, vR E 0)]) [0] rfl ?_
    exact jb_X10_image_9 hc hm hr hh hM hcl hsl (by omega) h
  · replace h := h.2 q39
    refine j_iload_n hc 1 dX10_image_4 rfl rfl ?_
    refine j_iconst hc dX10_image_5 ?_
    refine j_ic_lt hc ca1 (wlit 2 (by decide)) (tgt := 15) dX10_image_6 (by decide) (fun q38 => ?_) (fun q38 => ?_)
    · replace h := h.1 q38
      refine j_aload_nR hc 0 dX10_image_15 rfl rfl ?_
      refine j_getR (c' := 11) hc fl_RX10_16 rfl rfl (fun hv => (sv_k hv hm rfl)) dX10_image_16 ?_
      refine j_iload_n hc 1 dX10_image_19 rfl rfl ?_
      obtain ⟨b28, h⟩ := h
      refine j_aald (jn := (Int.toNat a1)) hc 5 (by decide) (fun hv => sv_kl hv hm rfl) ca1 b28 rfl dX10_image_20 ?_
      refine j_ifnonnull (tgt := 37) hc dX10_image_21 (by decide) (fun t29 et29 => ?_) (fun et29 => ?_)
      · replace h := h.2 t29 et29
        refine j_sub (lv' := [(0, vR E 0), (1, vI a1)]) [0, 1] rfl ?_
        exact jb_X10_image_37 hc hm hr hh hM hcl hsl (by omega) ca1 h
      · replace h := h.1 et29
        refine j_aload_nR hc 0 dX10_image_24 rfl rfl ?_
        refine j_getR (c' := 11) hc fl_RX10_16 rfl rfl (fun hv => (sv_k hv hm rfl)) dX10_image_25 ?_
        refine j_iload_n hc 1 dX10_image_28 rfl rfl ?_
        refine j_newN (N := 15) hc (hM.at hc) nw_RX10_9 rfl (by constructor <;> omega) dX10_image_29 (fun t30 s31 et30 es31 => ?_)
        replace h := h t30 s31 et30 es31
        refine j_dup hc dX10_image_32 rfl ?_
        refine j_ini (mc := 9) (ms := 169) (As := []) hc il_RX10_11 (fun hn0 => c_X1_init (cx_E hc) (hM.up hn0) h) rfl (by omega) (by decide) (by constructor <;> omega) (Nat.le_of_ble_eq_true rfl) rfl dX10_image_33 (fun s32 h => ?_)
        refine j_fin (by decide) hm h.2.1 h.1 (fun s33 es33 => ?_)
        replace h := h.2.2 s33 es33
        obtain ⟨b35, h⟩ := h
        obtain ⟨f37, h⟩ := h
        refine j_aast (jn := (Int.toNat a1)) hc 5 1 (by decide) (fun hv => sv_kl hv hm rfl) (fun _ => Or.inl f37) ca1 b35 rfl dX10_image_36 (fun s36 es36 => ?_)
        replace h := h s36 es36
        refine j_sub (lv' := [(0, vR E 0), (1, vI a1)]) [0, 1] rfl ?_
        exact jb_X10_image_37 hc hm hr hh hM hcl hsl (by omega) ca1 h
    · replace h := h.2 q38
      refine j_sub (lv' := [(0, vR E 0)]) [0] rfl ?_
      exact jb_X10_image_9 hc hm hr hh hM hcl hsl (by omega) h
