theorem nk_0 : j_newK 0 .int := ⟨by decide, rfl, tb_mem 250 (by decide +kernel) (by decide +kernel)⟩
theorem nk_1 : j_newK 1 .long := ⟨by decide, rfl, tb_mem 553 (by decide +kernel) (by decide +kernel)⟩
theorem nk_2 : j_newK 2 .byte := ⟨by decide, rfl, tb_mem 910 (by decide +kernel) (by decide +kernel)⟩
theorem nk_3 : j_newK 3 .boolean := ⟨by decide, rfl, tb_mem 1491 (by decide +kernel) (by decide +kernel)⟩
theorem ml_RX9_37 : ML RX9 37 yJ7_copyOf_59c91 cJ7_copyOf_59c91 3 (some (.array .int)) 2 := ⟨tb_mem 896 (by decide +kernel) (by decide +kernel), tb_mem 138 (by decide +kernel) (by decide +kernel), tb_mem 898 (by decide +kernel) (by decide +kernel), by decide +kernel⟩
theorem mv_J7_copyOf_59c91 : Cond.static yJ7_copyOf_59c91 ∈ Tb := tb_mem 897 (by decide +kernel) (by decide +kernel)
theorem mc_RJ7_150 : MC RJ7 150 := ⟨tb_mem 907 (by decide +kernel) (by decide +kernel), tb_mem 909 (by decide +kernel) (by decide +kernel), tb_mem 908 (by decide +kernel) (by decide +kernel), tb_mem 139 (by decide +kernel) (by decide +kernel)⟩
theorem fl_RX9_15 : FL RX9 15 9 1 := ⟨by decide, by decide, tb_mem 266 (by decide +kernel) (by decide +kernel)⟩
theorem fl_RX9_18 : FL RX9 18 9 2 := ⟨by decide, by decide, tb_mem 270 (by decide +kernel) (by decide +kernel)⟩
theorem fl_RX9_21 : FL RX9 21 9 3 := ⟨by decide, by decide, tb_mem 274 (by decide +kernel) (by decide +kernel)⟩
theorem fl_RX9_24 : FL RX9 24 9 4 := ⟨by decide, by decide, tb_mem 278 (by decide +kernel) (by decide +kernel)⟩
theorem fl_RX9_27 : FL RX9 27 9 5 := ⟨by decide, by decide, tb_mem 282 (by decide +kernel) (by decide +kernel)⟩
theorem fl_RX9_34 : FL RX9 34 9 7 := ⟨by decide, by decide, tb_mem 289 (by decide +kernel) (by decide +kernel)⟩
theorem fl_RX10_175 : FL RX10 175 1 9 := ⟨by decide, by decide, tb_mem 198 (by decide +kernel) (by decide +kernel)⟩
theorem mm_RJ7_304 : MM RJ7 304 Lib.Math.min.name Lib.Math.min.code := ⟨tb_mem 906 (by decide +kernel) (by decide +kernel), tb_mem 701 (by decide +kernel) (by decide +kernel), tb_mem 132 (by decide +kernel) (by decide +kernel), tb_mem 702 (by decide +kernel) (by decide +kernel)⟩
theorem an_RX1_36 : AL9 RX1 36 4 9 := ⟨by decide, tb_mem 155 (by decide +kernel) (by decide +kernel)⟩
theorem ca_RJ7_317 : Cond.classLink RJ7 317 "[I" ∈ Tb := tb_mem 905 (by decide +kernel) (by decide +kernel)
theorem cl_RJ7_316 : CL9 RJ7 316 := ⟨tb_mem 899 (by decide +kernel) (by decide +kernel), tb_mem 900 (by decide +kernel) (by decide +kernel), tb_mem 901 (by decide +kernel) (by decide +kernel), tb_mem 902 (by decide +kernel) (by decide +kernel), tb_mem 903 (by decide +kernel) (by decide +kernel)⟩
theorem il_RX3_11 : IL RX3 11 yX0_init cX0_init 1 0 := ⟨Or.inr ⟨RX10, by decide +kernel⟩, tb_mem 126 (by decide +kernel) (by decide +kernel), tb_mem 371 (by decide +kernel) (by decide +kernel), tb_mem 370 (by decide +kernel) (by decide +kernel), rfl, by decide +kernel⟩
theorem il_RX6_17 : IL RX6 17 yX9_init cX9_init 1 0 := ⟨Or.inl (tb_mem 260 (by decide +kernel) (by decide +kernel)), tb_mem 123 (by decide +kernel) (by decide +kernel), tb_mem 262 (by decide +kernel) (by decide +kernel), tb_mem 261 (by decide +kernel) (by decide +kernel), rfl, by decide +kernel⟩
theorem il_RX7_17 : IL RX7 17 yX0_init cX0_init 1 0 := ⟨Or.inr ⟨RX10, by decide +kernel⟩, tb_mem 126 (by decide +kernel) (by decide +kernel), tb_mem 371 (by decide +kernel) (by decide +kernel), tb_mem 370 (by decide +kernel) (by decide +kernel), rfl, by decide +kernel⟩
theorem il_RX10_11 : IL RX10 11 yX1_init cX1_init 1 0 := ⟨Or.inl (tb_mem 151 (by decide +kernel) (by decide +kernel)), tb_mem 121 (by decide +kernel) (by decide +kernel), tb_mem 153 (by decide +kernel) (by decide +kernel), tb_mem 152 (by decide +kernel) (by decide +kernel), rfl, by decide +kernel⟩
theorem il_RX10_185 : IL RX10 185 yX9_init_ cX9_init_ 2 1 := ⟨Or.inl (tb_mem 893 (by decide +kernel) (by decide +kernel)), tb_mem 123 (by decide +kernel) (by decide +kernel), tb_mem 895 (by decide +kernel) (by decide +kernel), tb_mem 894 (by decide +kernel) (by decide +kernel), rfl, by decide +kernel⟩
theorem nw_RX3_9 : NL RX3 9 0 := ⟨by decide, tb_mem 367 (by decide +kernel) (by decide +kernel), tb_mem 368 (by decide +kernel) (by decide +kernel), tb_mem 126 (by decide +kernel) (by decide +kernel)⟩
theorem nw_RX6_15 : NL RX6 15 9 := ⟨by decide, tb_mem 258 (by decide +kernel) (by decide +kernel), tb_mem 259 (by decide +kernel) (by decide +kernel), tb_mem 123 (by decide +kernel) (by decide +kernel)⟩
theorem nw_RX7_15 : NL RX7 15 0 := ⟨by decide, tb_mem 478 (by decide +kernel) (by decide +kernel), tb_mem 368 (by decide +kernel) (by decide +kernel), tb_mem 126 (by decide +kernel) (by decide +kernel)⟩
theorem nw_RX10_179 : NL RX10 179 9 := ⟨by decide, tb_mem 892 (by decide +kernel) (by decide +kernel), tb_mem 259 (by decide +kernel) (by decide +kernel), tb_mem 123 (by decide +kernel) (by decide +kernel)⟩
theorem nw_RX10_9 : NL RX10 9 1 := ⟨by decide, tb_mem 149 (by decide +kernel) (by decide +kernel), tb_mem 150 (by decide +kernel) (by decide +kernel), tb_mem 121 (by decide +kernel) (by decide +kernel)⟩
theorem ol_RX0_1 : OL RX0 1 := ⟨tb_mem 372 (by decide +kernel) (by decide +kernel), tb_mem 147 (by decide +kernel) (by decide +kernel), tb_mem 148 (by decide +kernel) (by decide +kernel)⟩
theorem ol_RX1_3 : OL RX1 3 := ⟨tb_mem 154 (by decide +kernel) (by decide +kernel), tb_mem 147 (by decide +kernel) (by decide +kernel), tb_mem 148 (by decide +kernel) (by decide +kernel)⟩
theorem ol_RX2_3 : OL RX2 3 := ⟨tb_mem 399 (by decide +kernel) (by decide +kernel), tb_mem 147 (by decide +kernel) (by decide +kernel), tb_mem 148 (by decide +kernel) (by decide +kernel)⟩
theorem ol_RX3_3 : OL RX3 3 := ⟨tb_mem 366 (by decide +kernel) (by decide +kernel), tb_mem 147 (by decide +kernel) (by decide +kernel), tb_mem 148 (by decide +kernel) (by decide +kernel)⟩
theorem ol_RX4_3 : OL RX4 3 := ⟨tb_mem 349 (by decide +kernel) (by decide +kernel), tb_mem 147 (by decide +kernel) (by decide +kernel), tb_mem 148 (by decide +kernel) (by decide +kernel)⟩
theorem ol_RX5_3 : OL RX5 3 := ⟨tb_mem 415 (by decide +kernel) (by decide +kernel), tb_mem 147 (by decide +kernel) (by decide +kernel), tb_mem 148 (by decide +kernel) (by decide +kernel)⟩
theorem ol_RX6_3 : OL RX6 3 := ⟨tb_mem 257 (by decide +kernel) (by decide +kernel), tb_mem 147 (by decide +kernel) (by decide +kernel), tb_mem 148 (by decide +kernel) (by decide +kernel)⟩
theorem ol_RX7_3 : OL RX7 3 := ⟨tb_mem 477 (by decide +kernel) (by decide +kernel), tb_mem 147 (by decide +kernel) (by decide +kernel), tb_mem 148 (by decide +kernel) (by decide +kernel)⟩
theorem ol_RX8_3 : OL RX8 3 := ⟨tb_mem 499 (by decide +kernel) (by decide +kernel), tb_mem 147 (by decide +kernel) (by decide +kernel), tb_mem 148 (by decide +kernel) (by decide +kernel)⟩
theorem ol_RX9_3 : OL RX9 3 := ⟨tb_mem 263 (by decide +kernel) (by decide +kernel), tb_mem 147 (by decide +kernel) (by decide +kernel), tb_mem 148 (by decide +kernel) (by decide +kernel)⟩
-- java/util/Arrays.copyOf([II)[I
theorem dJ7_copyOf_59c91_0 : decode cJ7_copyOf_59c91 0 = .ok (.iload_n 1, 1) := by decide +kernel
theorem dJ7_copyOf_59c91_1 : decode cJ7_copyOf_59c91 1 = .ok (.aload_n 0, 1) := by decide +kernel
theorem dJ7_copyOf_59c91_2 : decode cJ7_copyOf_59c91 2 = .ok (.arraylength, 1) := by decide +kernel
theorem dJ7_copyOf_59c91_3 : decode cJ7_copyOf_59c91 3 = .ok (.if_icmp .ne 11, 3) := by decide +kernel
theorem dJ7_copyOf_59c91_6 : decode cJ7_copyOf_59c91 6 = .ok (.aload_n 0, 1) := by decide +kernel
theorem dJ7_copyOf_59c91_7 : decode cJ7_copyOf_59c91 7 = .ok (.invokevirtual 316, 3) := by decide +kernel
theorem dJ7_copyOf_59c91_10 : decode cJ7_copyOf_59c91 10 = .ok (.checkcast 317, 3) := by decide +kernel
theorem dJ7_copyOf_59c91_13 : decode cJ7_copyOf_59c91 13 = .ok (.areturn, 1) := by decide +kernel
theorem dJ7_copyOf_59c91_14 : decode cJ7_copyOf_59c91 14 = .ok (.iload_n 1, 1) := by decide +kernel
theorem dJ7_copyOf_59c91_15 : decode cJ7_copyOf_59c91 15 = .ok (.newarray .int, 2) := by decide +kernel
theorem dJ7_copyOf_59c91_17 : decode cJ7_copyOf_59c91 17 = .ok (.astore_n 2, 1) := by decide +kernel
theorem dJ7_copyOf_59c91_18 : decode cJ7_copyOf_59c91 18 = .ok (.aload_n 0, 1) := by decide +kernel
theorem dJ7_copyOf_59c91_19 : decode cJ7_copyOf_59c91 19 = .ok (.iconst 0, 1) := by decide +kernel
theorem dJ7_copyOf_59c91_20 : decode cJ7_copyOf_59c91 20 = .ok (.aload_n 2, 1) := by decide +kernel
theorem dJ7_copyOf_59c91_21 : decode cJ7_copyOf_59c91 21 = .ok (.iconst 0, 1) := by decide +kernel
theorem dJ7_copyOf_59c91_22 : decode cJ7_copyOf_59c91 22 = .ok (.aload_n 0, 1) := by decide +kernel
theorem dJ7_copyOf_59c91_23 : decode cJ7_copyOf_59c91 23 = .ok (.arraylength, 1) := by decide +kernel
theorem dJ7_copyOf_59c91_24 : decode cJ7_copyOf_59c91 24 = .ok (.iload_n 1, 1) := by decide +kernel
theorem dJ7_copyOf_59c91_25 : decode cJ7_copyOf_59c91 25 = .ok (.invokestatic 304, 3) := by decide +kernel
theorem dJ7_copyOf_59c91_28 : decode cJ7_copyOf_59c91 28 = .ok (.invokestatic 150, 3) := by decide +kernel
theorem dJ7_copyOf_59c91_31 : decode cJ7_copyOf_59c91 31 = .ok (.aload_n 2, 1) := by decide +kernel
theorem dJ7_copyOf_59c91_32 : decode cJ7_copyOf_59c91 32 = .ok (.areturn, 1) := by decide +kernel
def wp_J7_copyOf_59c91 (a1 : Nat) (a2 : Int) (σ : st_S) (Q : Nat → st_S → Prop) : Prop := gK σ a1 = 0 ∧ (¬ a2 = wr ((gL σ a1) : Int) → (0 ≤ a2 ∧ a2 ≤ 1000000) ∧ ∀ (t16 : Nat) (s17 : st_S), t16 = gN σ → s17 = sA σ 0 (Int.toNat a2) → gK s17 a1 = 0 ∧ cpOk 0 0 (o_min (wr ((gL s17 a1) : Int)) a2) (gL s17 a1) (gL s17 t16) ∧ ∀ s21 : st_S, s21 = sC s17 a1 0 t16 0 (o_min (wr ((gL s17 a1) : Int)) a2) → Q t16 s21) ∧ (a2 = wr ((gL σ a1) : Int) → gK σ a1 = 0 ∧ (gL σ a1) ≤ 1000000 ∧ ∀ (t23 : Nat) (s24 : st_S), t23 = gN σ → s24 = sF (sA σ 0 (gL σ a1)) (gN σ) (gI σ a1) → gK s24 t23 = 0 ∧ Q t23 s24)
set_option maxRecDepth 20000 in
set_option maxHeartbeats 8000000 in
theorem c_J7_copyOf_59c91 {l : Launch} {E : ev_E} (hE : Eok E) {σ : st_S} (hM : MkE E (gN σ)) {a1 : Nat} {a2 : Int} (ca2 : wr a2 = a2) {Q : Nat → st_S → Prop} (h : wp_J7_copyOf_59c91 a1 a2 σ Q) : cM l yJ7_copyOf_59c91 cJ7_copyOf_59c91 3 (some (.array .int)) E 1 1 (Int.toNat a2) [vR E a1, vI a2] σ (qR E (gN σ + 1) Q) := by
  refine cM_of (lv := [(0, vR E a1), (1, vI a2)]) (by decide) hE (Nat.le_of_ble_eq_true rfl) rfl ?_
  intro X hX hc hcl hsl hr hnm _
  subst hX
  have hh : 1 ≤ 1 := Nat.le_refl _
  have hh1 : 1 ≤ 1 := by omega
  replace h : gK σ a1 = 0 ∧ (¬ a2 = wr ((gL σ a1) : Int) → (0 ≤ a2 ∧ a2 ≤ 1000000) ∧ ∀ (t16 : Nat) (s17 : st_S), t16 = gN σ → s17 = sA σ 0 (Int.toNat a2) → gK s17 a1 = 0 ∧ cpOk 0 0 (o_min (wr ((gL s17 a1) : Int)) a2) (gL s17 a1) (gL s17 t16) ∧ ∀ s21 : st_S, s21 = sC s17 a1 0 t16 0 (o_min (wr ((gL s17 a1) : Int)) a2) → Q t16 s21) ∧ (a2 = wr ((gL σ a1) : Int) → gK σ a1 = 0 ∧ (gL σ a1) ≤ 1000000 ∧ ∀ (t23 : Nat) (s24 : st_S), t23 = gN σ → s24 = sF (sA σ 0 (gL σ a1)) (gN σ) (gI σ a1) → gK s24 t23 = 0 ∧ Q t23 s24) := h
  refine j_iload_n hc 1 dJ7_copyOf_59c91_0 rfl rfl ?_
  refine j_aload_nR hc 0 dJ7_copyOf_59c91_1 rfl rfl ?_
  obtain ⟨f15, h⟩ := h
  refine j_alen hc 0 (by decide) (fun _ => ⟨f15, rfl⟩) dJ7_copyOf_59c91_2 ?_
  refine j_ic_ne hc ca2 rfl (tgt := 14) dJ7_copyOf_59c91_3 (by decide) (fun q28 => ?_) (fun q28 => ?_)
  · replace h := h.1 q28
    refine j_iload_n hc 1 dJ7_copyOf_59c91_14 rfl rfl ?_
    obtain ⟨b18, h⟩ := h
    refine j_newa (N := (Int.toNat a2)) hc (hM.at hc) nk_0 (by rw [ca2]; omega) (by omega) (by constructor <;> omega) dJ7_copyOf_59c91_15 (fun t16 s17 et16 es17 => ?_)
    replace h := h t16 s17 et16 es17
    refine j_astore_nR (lv' := [(2, vR E t16), (0, vR E a1), (1, vI a2)]) hc dJ7_copyOf_59c91_17 rfl (by decide) rfl ?_
    refine j_aload_nR hc 1 dJ7_copyOf_59c91_18 rfl rfl ?_
    refine j_iconst hc dJ7_copyOf_59c91_19 ?_
    refine j_aload_nR hc 0 dJ7_copyOf_59c91_20 rfl rfl ?_
    refine j_iconst hc dJ7_copyOf_59c91_21 ?_
    refine j_aload_nR hc 1 dJ7_copyOf_59c91_22 rfl rfl ?_
    obtain ⟨f19, h⟩ := h
    refine j_alen hc 0 (by decide) (fun _ => ⟨f19, rfl⟩) dJ7_copyOf_59c91_23 ?_
    refine j_iload_n hc 2 dJ7_copyOf_59c91_24 rfl rfl ?_
    refine j_mmin hc mm_RJ7_304 hh1 rfl ca2 (Nat.le_of_ble_eq_true rfl) (by constructor <;> omega) dJ7_copyOf_59c91_25 (fun cn20 => ?_)
    obtain ⟨b22, h⟩ := h
    refine j_copy hc mc_RJ7_150 hh1 (fun _ => ⟨f19, rfl⟩) (fun _ => ⟨(kNew et16 es17), rfl⟩) (wlit 0 (by decide)) (wlit 0 (by decide)) cn20 b22 (Nat.le_of_ble_eq_true rfl) dJ7_copyOf_59c91_28 (fun s21 es21 => ?_)
    replace h := h s21 es21
    refine j_aload_nR hc 0 dJ7_copyOf_59c91_31 rfl rfl ?_
    refine j_wide (slots' := (Int.toNat a2)) (by omega) ?_
    exact j_aret hc hr (Or.inr ⟨_, rfl⟩) h dJ7_copyOf_59c91_32
  · replace h := h.2 q28
    refine j_aload_nR hc 0 dJ7_copyOf_59c91_6 rfl rfl ?_
    obtain ⟨f26, b25, h⟩ := h
    have hl2 : (gL σ a1) ≤ (Int.toNat a2) := by have := wr_id (x := ((gL σ a1) : Int)) (by omega) (by omega); omega
    refine j_clone (N := (gL σ a1)) hc (hM.at hc) cl_RJ7_316 hh1 (fun _ => ⟨f26, rfl⟩) (by constructor <;> omega) (Nat.le_of_ble_eq_true rfl) dJ7_copyOf_59c91_7 (fun t23 s24 et23 es24 => ?_)
    replace h := h t23 s24 et23 es24
    obtain ⟨f27, h⟩ := h
    refine j_cast (N := gL s24 t23) hc ca_RJ7_317 (fun _ => ⟨f27, rfl⟩) dJ7_copyOf_59c91_10 ?_
    refine j_wide (slots' := (Int.toNat a2)) (by omega) ?_
    exact j_aret hc hr (Or.inr ⟨_, rfl⟩) h dJ7_copyOf_59c91_13
-- LitStrangers$Abacus.<init>()V
theorem dX0_init_0 : decode cX0_init 0 = .ok (.aload_n 0, 1) := by decide +kernel
theorem dX0_init_1 : decode cX0_init 1 = .ok (.invokespecial 1, 3) := by decide +kernel
theorem dX0_init_4 : decode cX0_init 4 = .ok (.aload_n 0, 1) := by decide +kernel
theorem dX0_init_5 : decode cX0_init 5 = .ok (.bipush 25, 2) := by decide +kernel
theorem dX0_init_7 : decode cX0_init 7 = .ok (.newarray .int, 2) := by decide +kernel
theorem dX0_init_9 : decode cX0_init 9 = .ok (.putfield 9, 3) := by decide +kernel
theorem dX0_init_12 : decode cX0_init 12 = .ok (.aload_n 0, 1) := by decide +kernel
theorem dX0_init_13 : decode cX0_init 13 = .ok (.bipush 64, 2) := by decide +kernel
theorem dX0_init_15 : decode cX0_init 15 = .ok (.newarray .int, 2) := by decide +kernel
theorem dX0_init_17 : decode cX0_init 17 = .ok (.putfield 13, 3) := by decide +kernel
theorem dX0_init_20 : decode cX0_init 20 = .ok (.return_, 1) := by decide +kernel
def wp_X0_init (t : Nat) (σ : st_S) (Q : st_S → Prop) : Prop := ∀ (t13 : Nat) (s14 : st_S), t13 = gN σ → s14 = sA σ 0 25 → gK s14 t = 32 + 0 ∧ ∀ s16 : st_S, s16 = sR s14 t 0 (some t13) → ∀ (t19 : Nat) (s20 : st_S), t19 = gN s16 → s20 = sA s16 0 64 → gK s20 t = 32 + 0 ∧ ∀ s22 : st_S, s22 = sR s20 t 2 (some t19) → Q s22
set_option maxRecDepth 20000 in
set_option maxHeartbeats 8000000 in
theorem c_X0_init {l : Launch} {E : ev_E} (hE : Eok E) {σ : st_S} (hM : MkE E (gN σ)) {t : Nat} {Q : st_S → Prop} (h : wp_X0_init t σ Q) : cM l yX0_init cX0_init 1 none E 1 2 89 [vR E t] σ (qV E (gN σ + 2) Q) := by
  refine cM_of (lv := [(0, vR E t)]) (by decide) hE (Nat.le_of_ble_eq_true rfl) rfl ?_
  intro X hX hc hcl hsl hr hnm _
  subst hX
  have hh : 1 ≤ 1 := Nat.le_refl _
  have hh1 : 1 ≤ 1 := by omega
  replace h : ∀ (t13 : Nat) (s14 : st_S), t13 = gN σ → s14 = sA σ 0 25 → gK s14 t = 32 + 0 ∧ ∀ s16 : st_S, s16 = sR s14 t 0 (some t13) → ∀ (t19 : Nat) (s20 : st_S), t19 = gN s16 → s20 = sA s16 0 64 → gK s20 t = 32 + 0 ∧ ∀ s22 : st_S, s22 = sR s20 t 2 (some t19) → Q s22 := h
  refine j_aload_nR hc 0 dX0_init_0 rfl rfl ?_
  refine j_obj hc ol_RX0_1 hh1 (Nat.le_of_ble_eq_true rfl) dX0_init_1 ?_
  refine j_aload_nR hc 0 dX0_init_4 rfl rfl ?_
  refine j_bipush hc dX0_init_5 (by decide) ?_
  refine j_newa (N := 25) hc (hM.at hc) nk_0 (by decide) (by decide) (by constructor <;> omega) dX0_init_7 (fun t13 s14 et13 es14 => ?_)
  replace h := h t13 s14 et13 es14
  obtain ⟨f15, h⟩ := h
  refine j_putR hc fl_RX0_9 rfl (Or.inr ⟨rfl, hnm, rfl⟩) (fun _ => Or.inr f15) (fun _ => Or.inl f15) dX0_init_9 (fun s16 es16 => ?_)
  replace h := h s16 es16
  have f17 := kI (Or.inr ⟨_, _, _, es16⟩) (kNew et13 es14)
  have f18 := kI (Or.inr ⟨_, _, _, es16⟩) f15
  refine j_aload_nR hc 0 dX0_init_12 rfl rfl ?_
  refine j_bipush hc dX0_init_13 (by decide) ?_
  refine j_newa (N := 64) hc (hM.at hc) nk_0 (by decide) (by decide) (by constructor <;> omega) dX0_init_15 (fun t19 s20 et19 es20 => ?_)
  replace h := h t19 s20 et19 es20
  obtain ⟨f21, h⟩ := h
  refine j_putR hc fl_RX0_13 rfl (Or.inr ⟨rfl, hnm, rfl⟩) (fun _ => Or.inr f21) (fun _ => Or.inl f21) dX0_init_17 (fun s22 es22 => ?_)
  replace h := h s22 es22
  have f23 := kI (Or.inr ⟨_, _, _, es22⟩) (kNew et19 es20)
  have f24 := kI (Or.inr ⟨_, _, _, es22⟩) f21
  refine j_wide (slots' := 89) (by omega) ?_
  exact j_vret hc hr h dX0_init_20
-- LitStrangers$Coast.<init>()V
theorem dX1_init_0 : decode cX1_init 0 = .ok (.aload_n 0, 1) := by decide +kernel
theorem dX1_init_1 : decode cX1_init 1 = .ok (.invokespecial 3, 3) := by decide +kernel
theorem dX1_init_4 : decode cX1_init 4 = .ok (.aload_n 0, 1) := by decide +kernel
theorem dX1_init_5 : decode cX1_init 5 = .ok (.bipush 10, 2) := by decide +kernel
theorem dX1_init_7 : decode cX1_init 7 = .ok (.newarray .int, 2) := by decide +kernel
theorem dX1_init_9 : decode cX1_init 9 = .ok (.putfield 9, 3) := by decide +kernel
theorem dX1_init_12 : decode cX1_init 12 = .ok (.aload_n 0, 1) := by decide +kernel
theorem dX1_init_13 : decode cX1_init 13 = .ok (.bipush 10, 2) := by decide +kernel
theorem dX1_init_15 : decode cX1_init 15 = .ok (.newarray .int, 2) := by decide +kernel
theorem dX1_init_17 : decode cX1_init 17 = .ok (.putfield 15, 3) := by decide +kernel
theorem dX1_init_20 : decode cX1_init 20 = .ok (.aload_n 0, 1) := by decide +kernel
theorem dX1_init_21 : decode cX1_init 21 = .ok (.bipush 10, 2) := by decide +kernel
theorem dX1_init_23 : decode cX1_init 23 = .ok (.newarray .int, 2) := by decide +kernel
theorem dX1_init_25 : decode cX1_init 25 = .ok (.putfield 18, 3) := by decide +kernel
theorem dX1_init_28 : decode cX1_init 28 = .ok (.aload_n 0, 1) := by decide +kernel
theorem dX1_init_29 : decode cX1_init 29 = .ok (.bipush 10, 2) := by decide +kernel
theorem dX1_init_31 : decode cX1_init 31 = .ok (.newarray .int, 2) := by decide +kernel
theorem dX1_init_33 : decode cX1_init 33 = .ok (.putfield 21, 3) := by decide +kernel
theorem dX1_init_36 : decode cX1_init 36 = .ok (.aload_n 0, 1) := by decide +kernel
theorem dX1_init_37 : decode cX1_init 37 = .ok (.bipush 10, 2) := by decide +kernel
theorem dX1_init_39 : decode cX1_init 39 = .ok (.newarray .int, 2) := by decide +kernel
theorem dX1_init_41 : decode cX1_init 41 = .ok (.putfield 24, 3) := by decide +kernel
theorem dX1_init_44 : decode cX1_init 44 = .ok (.aload_n 0, 1) := by decide +kernel
theorem dX1_init_45 : decode cX1_init 45 = .ok (.bipush 10, 2) := by decide +kernel
theorem dX1_init_47 : decode cX1_init 47 = .ok (.newarray .int, 2) := by decide +kernel
theorem dX1_init_49 : decode cX1_init 49 = .ok (.putfield 27, 3) := by decide +kernel
theorem dX1_init_52 : decode cX1_init 52 = .ok (.aload_n 0, 1) := by decide +kernel
theorem dX1_init_53 : decode cX1_init 53 = .ok (.bipush 100, 2) := by decide +kernel
theorem dX1_init_55 : decode cX1_init 55 = .ok (.newarray .int, 2) := by decide +kernel
theorem dX1_init_57 : decode cX1_init 57 = .ok (.putfield 30, 3) := by decide +kernel
theorem dX1_init_60 : decode cX1_init 60 = .ok (.aload_n 0, 1) := by decide +kernel
theorem dX1_init_61 : decode cX1_init 61 = .ok (.iconst 3, 1) := by decide +kernel
theorem dX1_init_62 : decode cX1_init 62 = .ok (.newarray .int, 2) := by decide +kernel
theorem dX1_init_64 : decode cX1_init 64 = .ok (.putfield 33, 3) := by decide +kernel
theorem dX1_init_67 : decode cX1_init 67 = .ok (.aload_n 0, 1) := by decide +kernel
theorem dX1_init_68 : decode cX1_init 68 = .ok (.bipush 6, 2) := by decide +kernel
theorem dX1_init_70 : decode cX1_init 70 = .ok (.anewarray 36, 3) := by decide +kernel
theorem dX1_init_73 : decode cX1_init 73 = .ok (.putfield 38, 3) := by decide +kernel
theorem dX1_init_76 : decode cX1_init 76 = .ok (.aload_n 0, 1) := by decide +kernel
theorem dX1_init_77 : decode cX1_init 77 = .ok (.iconst (-1), 1) := by decide +kernel
theorem dX1_init_78 : decode cX1_init 78 = .ok (.putfield 42, 3) := by decide +kernel
theorem dX1_init_81 : decode cX1_init 81 = .ok (.aload_n 0, 1) := by decide +kernel
theorem dX1_init_82 : decode cX1_init 82 = .ok (.getfield 33, 3) := by decide +kernel
theorem dX1_init_85 : decode cX1_init 85 = .ok (.iconst 1, 1) := by decide +kernel
theorem dX1_init_86 : decode cX1_init 86 = .ok (.iconst 3, 1) := by decide +kernel
theorem dX1_init_87 : decode cX1_init 87 = .ok (.iastore, 1) := by decide +kernel
theorem dX1_init_88 : decode cX1_init 88 = .ok (.return_, 1) := by decide +kernel
def wp_X1_init (t : Nat) (σ : st_S) (Q : st_S → Prop) : Prop := ∀ (t64 : Nat) (s65 : st_S), t64 = gN σ → s65 = sA σ 0 10 → gK s65 t = 32 + 1 ∧ ∀ s67 : st_S, s67 = sR s65 t 1 (some t64) → ∀ (t70 : Nat) (s71 : st_S), t70 = gN s67 → s71 = sA s67 0 10 → gK s71 t = 32 + 1 ∧ ∀ s73 : st_S, s73 = sR s71 t 2 (some t70) → ∀ (t76 : Nat) (s77 : st_S), t76 = gN s73 → s77 = sA s73 0 10 → gK s77 t = 32 + 1 ∧ ∀ s79 : st_S, s79 = sR s77 t 3 (some t76) → ∀ (t82 : Nat) (s83 : st_S), t82 = gN s79 → s83 = sA s79 0 10 → gK s83 t = 32 + 1 ∧ ∀ s85 : st_S, s85 = sR s83 t 4 (some t82) → ∀ (t88 : Nat) (s89 : st_S), t88 = gN s85 → s89 = sA s85 0 10 → gK s89 t = 32 + 1 ∧ ∀ s91 : st_S, s91 = sR s89 t 5 (some t88) → ∀ (t94 : Nat) (s95 : st_S), t94 = gN s91 → s95 = sA s91 0 10 → gK s95 t = 32 + 1 ∧ ∀ s97 : st_S, s97 = sR s95 t 6 (some t94) → ∀ (t100 : Nat) (s101 : st_S), t100 = gN s97 → s101 = sA s97 0 100 → gK s101 t = 32 + 1 ∧ ∀ s103 : st_S, s103 = sR s101 t 7 (some t100) → ∀ (t106 : Nat) (s107 : st_S), t106 = gN s103 → s107 = sA s103 0 3 → gK s107 t = 32 + 1 ∧ ∀ s109 : st_S, s109 = sR s107 t 8 (some t106) → ∀ (t112 : Nat) (s113 : st_S), t112 = gN s109 → s113 = sA s109 4 6 → gK s113 t = 32 + 1 ∧ ∀ s115 : st_S, s115 = sR s113 t 9 (some t112) → ∀ s118 : st_S, s118 = sI s115 t 11 (-1) → ∃ t121 : Nat, gR s118 t 8 = some t121 ∧ gK s118 t121 = 0 ∧ ix 1 (gL s118 t121) ∧ ∀ s124 : st_S, s124 = sI s118 t121 1 3 → Q s124
set_option maxRecDepth 20000 in
set_option maxHeartbeats 8000000 in
theorem c_X1_init {l : Launch} {E : ev_E} (hE : Eok E) {σ : st_S} (hM : MkE E (gN σ)) {t : Nat} {Q : st_S → Prop} (h : wp_X1_init t σ Q) : cM l yX1_init cX1_init 1 none E 1 9 169 [vR E t] σ (qV E (gN σ + 9) Q) := by
  refine cM_of (lv := [(0, vR E t)]) (by decide) hE (Nat.le_of_ble_eq_true rfl) rfl ?_
  intro X hX hc hcl hsl hr hnm _
  subst hX
  have hh : 1 ≤ 1 := Nat.le_refl _
  have hh1 : 1 ≤ 1 := by omega
  replace h : ∀ (t64 : Nat) (s65 : st_S), t64 = gN σ → s65 = sA σ 0 10 → gK s65 t = 32 + 1 ∧ ∀ s67 : st_S, s67 = sR s65 t 1 (some t64) → ∀ (t70 : Nat) (s71 : st_S), t70 = gN s67 → s71 = sA s67 0 10 → gK s71 t = 32 + 1 ∧ ∀ s73 : st_S, s73 = sR s71 t 2 (some t70) → ∀ (t76 : Nat) (s77 : st_S), t76 = gN s73 → s77 = sA s73 0 10 → gK s77 t = 32 + 1 ∧ ∀ s79 : st_S, s79 = sR s77 t 3 (some t76) → ∀ (t82 : Nat) (s83 : st_S), t82 = gN s79 → s83 = sA s79 0 10 → gK s83 t = 32 + 1 ∧ ∀ s85 : st_S, s85 = sR s83 t 4 (some t82) → ∀ (t88 : Nat) (s89 : st_S), t88 = gN s85 → s89 = sA s85 0 10 → gK s89 t = 32 + 1 ∧ ∀ s91 : st_S, s91 = sR s89 t 5 (some t88) → ∀ (t94 : Nat) (s95 : st_S), t94 = gN s91 → s95 = sA s91 0 10 → gK s95 t = 32 + 1 ∧ ∀ s97 : st_S, s97 = sR s95 t 6 (some t94) → ∀ (t100 : Nat) (s101 : st_S), t100 = gN s97 → s101 = sA s97 0 100 → gK s101 t = 32 + 1 ∧ ∀ s103 : st_S, s103 = sR s101 t 7 (some t100) → ∀ (t106 : Nat) (s107 : st_S), t106 = gN s103 → s107 = sA s103 0 3 → gK s107 t = 32 + 1 ∧ ∀ s109 : st_S, s109 = sR s107 t 8 (some t106) → ∀ (t112 : Nat) (s113 : st_S), t112 = gN s109 → s113 = sA s109 4 6 → gK s113 t = 32 + 1 ∧ ∀ s115 : st_S, s115 = sR s113 t 9 (some t112) → ∀ s118 : st_S, s118 = sI s115 t 11 (-1) → ∃ t121 : Nat, gR s118 t 8 = some t121 ∧ gK s118 t121 = 0 ∧ ix 1 (gL s118 t121) ∧ ∀ s124 : st_S, s124 = sI s118 t121 1 3 → Q s124 := h
  refine j_aload_nR hc 0 dX1_init_0 rfl rfl ?_
  refine j_obj hc ol_RX1_3 hh1 (Nat.le_of_ble_eq_true rfl) dX1_init_1 ?_
  refine j_aload_nR hc 0 dX1_init_4 rfl rfl ?_
  refine j_bipush hc dX1_init_5 (by decide) ?_
  refine j_newa (N := 10) hc (hM.at hc) nk_0 (by decide) (by decide) (by constructor <;> omega) dX1_init_7 (fun t64 s65 et64 es65 => ?_)
  replace h := h t64 s65 et64 es65
  obtain ⟨f66, h⟩ := h
  refine j_putR hc fl_RX1_9 rfl (Or.inr ⟨rfl, hnm, rfl⟩) (fun _ => Or.inr f66) (fun _ => Or.inl f66) dX1_init_9 (fun s67 es67 => ?_)
  replace h := h s67 es67
  have f68 := kI (Or.inr ⟨_, _, _, es67⟩) (kNew et64 es65)
  have f69 := kI (Or.inr ⟨_, _, _, es67⟩) f66
  refine j_aload_nR hc 0 dX1_init_12 rfl rfl ?_
  refine j_bipush hc dX1_init_13 (by decide) ?_
  refine j_newa (N := 10) hc (hM.at hc) nk_0 (by decide) (by decide) (by constructor <;> omega) dX1_init_15 (fun t70 s71 et70 es71 => ?_)
  replace h := h t70 s71 et70 es71
  obtain ⟨f72, h⟩ := h
  refine j_putR hc fl_RX1_15 rfl (Or.inr ⟨rfl, hnm, rfl⟩) (fun _ => Or.inr f72) (fun _ => Or.inl f72) dX1_init_17 (fun s73 es73 => ?_)
  replace h := h s73 es73
  have f74 := kI (Or.inr ⟨_, _, _, es73⟩) (kNew et70 es71)
  have f75 := kI (Or.inr ⟨_, _, _, es73⟩) f72
  refine j_aload_nR hc 0 dX1_init_20 rfl rfl ?_
  refine j_bipush hc dX1_init_21 (by decide) ?_
  refine j_newa (N := 10) hc (hM.at hc) nk_0 (by decide) (by decide) (by constructor <;> omega) dX1_init_23 (fun t76 s77 et76 es77 => ?_)
  replace h := h t76 s77 et76 es77
  obtain ⟨f78, h⟩ := h
  refine j_putR hc fl_RX1_18 rfl (Or.inr ⟨rfl, hnm, rfl⟩) (fun _ => Or.inr f78) (fun _ => Or.inl f78) dX1_init_25 (fun s79 es79 => ?_)
  replace h := h s79 es79
  have f80 := kI (Or.inr ⟨_, _, _, es79⟩) (kNew et76 es77)
  have f81 := kI (Or.inr ⟨_, _, _, es79⟩) f78
  refine j_aload_nR hc 0 dX1_init_28 rfl rfl ?_
  refine j_bipush hc dX1_init_29 (by decide) ?_
  refine j_newa (N := 10) hc (hM.at hc) nk_0 (by decide) (by decide) (by constructor <;> omega) dX1_init_31 (fun t82 s83 et82 es83 => ?_)
  replace h := h t82 s83 et82 es83
  obtain ⟨f84, h⟩ := h
  refine j_putR hc fl_RX1_21 rfl (Or.inr ⟨rfl, hnm, rfl⟩) (fun _ => Or.inr f84) (fun _ => Or.inl f84) dX1_init_33 (fun s85 es85 => ?_)
  replace h := h s85 es85
  have f86 := kI (Or.inr ⟨_, _, _, es85⟩) (kNew et82 es83)
  have f87 := kI (Or.inr ⟨_, _, _, es85⟩) f84
  refine j_aload_nR hc 0 dX1_init_36 rfl rfl ?_
  refine j_bipush hc dX1_init_37 (by decide) ?_
  refine j_newa (N := 10) hc (hM.at hc) nk_0 (by decide) (by decide) (by constructor <;> omega) dX1_init_39 (fun t88 s89 et88 es89 => ?_)
  replace h := h t88 s89 et88 es89
  obtain ⟨f90, h⟩ := h
  refine j_putR hc fl_RX1_24 rfl (Or.inr ⟨rfl, hnm, rfl⟩) (fun _ => Or.inr f90) (fun _ => Or.inl f90) dX1_init_41 (fun s91 es91 => ?_)
  replace h := h s91 es91
  have f92 := kI (Or.inr ⟨_, _, _, es91⟩) (kNew et88 es89)
  have f93 := kI (Or.inr ⟨_, _, _, es91⟩) f90
  refine j_aload_nR hc 0 dX1_init_44 rfl rfl ?_
  refine j_bipush hc dX1_init_45 (by decide) ?_
  refine j_newa (N := 10) hc (hM.at hc) nk_0 (by decide) (by decide) (by constructor <;> omega) dX1_init_47 (fun t94 s95 et94 es95 => ?_)
  replace h := h t94 s95 et94 es95
  obtain ⟨f96, h⟩ := h
  refine j_putR hc fl_RX1_27 rfl (Or.inr ⟨rfl, hnm, rfl⟩) (fun _ => Or.inr f96) (fun _ => Or.inl f96) dX1_init_49 (fun s97 es97 => ?_)
  replace h := h s97 es97
  have f98 := kI (Or.inr ⟨_, _, _, es97⟩) (kNew et94 es95)
  have f99 := kI (Or.inr ⟨_, _, _, es97⟩) f96
  refine j_aload_nR hc 0 dX1_init_52 rfl rfl ?_
  refine j_bipush hc dX1_init_53 (by decide) ?_
  refine j_newa (N := 100) hc (hM.at hc) nk_0 (by decide) (by decide) (by constructor <;> omega) dX1_init_55 (fun t100 s101 et100 es101 => ?_)
  replace h := h t100 s101 et100 es101
  obtain ⟨f102, h⟩ := h
  refine j_putR hc fl_RX1_30 rfl (Or.inr ⟨rfl, hnm, rfl⟩) (fun _ => Or.inr f102) (fun _ => Or.inl f102) dX1_init_57 (fun s103 es103 => ?_)
  replace h := h s103 es103
  have f104 := kI (Or.inr ⟨_, _, _, es103⟩) (kNew et100 es101)
  have f105 := kI (Or.inr ⟨_, _, _, es103⟩) f102
  refine j_aload_nR hc 0 dX1_init_60 rfl rfl ?_
  refine j_iconst hc dX1_init_61 ?_
  refine j_newa (N := 3) hc (hM.at hc) nk_0 (by decide) (by decide) (by constructor <;> omega) dX1_init_62 (fun t106 s107 et106 es107 => ?_)
  replace h := h t106 s107 et106 es107
  obtain ⟨f108, h⟩ := h
  refine j_putR hc fl_RX1_33 rfl (Or.inr ⟨rfl, hnm, rfl⟩) (fun _ => Or.inr f108) (fun _ => Or.inl f108) dX1_init_64 (fun s109 es109 => ?_)
  replace h := h s109 es109
  have f110 := kI (Or.inr ⟨_, _, _, es109⟩) (kNew et106 es107)
  have f111 := kI (Or.inr ⟨_, _, _, es109⟩) f108
  refine j_aload_nR hc 0 dX1_init_67 rfl rfl ?_
  refine j_bipush hc dX1_init_68 (by decide) ?_
  refine j_anew (N := 6) hc (hM.at hc) an_RX1_36 (by decide) (by decide) (by constructor <;> omega) dX1_init_70 (fun t112 s113 et112 es113 => ?_)
  replace h := h t112 s113 et112 es113
  obtain ⟨f114, h⟩ := h
  refine j_putR hc fl_RX1_38 rfl (Or.inr ⟨rfl, hnm, rfl⟩) (fun _ => Or.inr f114) (fun _ => Or.inl f114) dX1_init_73 (fun s115 es115 => ?_)
  replace h := h s115 es115
  have f116 := kI (Or.inr ⟨_, _, _, es115⟩) (kNew et112 es113)
  have f117 := kI (Or.inr ⟨_, _, _, es115⟩) f114
  refine j_aload_nR hc 0 dX1_init_76 rfl rfl ?_
  refine j_iconst hc dX1_init_77 ?_
  refine j_putI hc fl_RX1_42 rfl rfl (fun _ => Or.inr f117) (wlit (-1) (by decide)) dX1_init_78 (fun s118 es118 => ?_)
  replace h := h s118 es118
  have f119 := kI (Or.inl ⟨_, _, _, es118⟩) f116
  have f120 := kI (Or.inl ⟨_, _, _, es118⟩) f117
  refine j_aload_nR hc 0 dX1_init_81 rfl rfl ?_
  refine j_getO hc fl_RX1_33 rfl (fun _ => Or.inr f120) dX1_init_82 ?_
  obtain ⟨t121, et121, h⟩ := h
  refine j_some et121 ?_
  refine j_iconst hc dX1_init_85 ?_
  refine j_iconst hc dX1_init_86 ?_
  obtain ⟨f122, h⟩ := h
  obtain ⟨b123, h⟩ := h
  refine j_iast (jn := 1) hc (fun _ => ⟨f122, rfl⟩) (wlit 1 (by decide)) b123 rfl (wlit 3 (by decide)) dX1_init_87 (fun s124 es124 => ?_)
  replace h := h s124 es124
  have f125 := kI (Or.inl ⟨_, _, _, es124⟩) f119
  have f126 := kI (Or.inl ⟨_, _, _, es124⟩) f120
  have f127 := kI (Or.inl ⟨_, _, _, es124⟩) f122
  refine j_wide (slots' := 169) (by omega) ?_
  exact j_vret hc hr h dX1_init_88
-- LitStrangers$Deeds.<init>(LLitStrangers$Coast;LLitStrangers$Judge;LLitStrangers$Log;)V
theorem dX2_init_0 : decode cX2_init 0 = .ok (.aload_n 0, 1) := by decide +kernel
theorem dX2_init_1 : decode cX2_init 1 = .ok (.invokespecial 3, 3) := by decide +kernel
theorem dX2_init_4 : decode cX2_init 4 = .ok (.aload_n 0, 1) := by decide +kernel
theorem dX2_init_5 : decode cX2_init 5 = .ok (.aload_n 1, 1) := by decide +kernel
theorem dX2_init_6 : decode cX2_init 6 = .ok (.putfield 9, 3) := by decide +kernel
theorem dX2_init_9 : decode cX2_init 9 = .ok (.aload_n 0, 1) := by decide +kernel
theorem dX2_init_10 : decode cX2_init 10 = .ok (.aload_n 2, 1) := by decide +kernel
theorem dX2_init_11 : decode cX2_init 11 = .ok (.putfield 15, 3) := by decide +kernel
theorem dX2_init_14 : decode cX2_init 14 = .ok (.aload_n 0, 1) := by decide +kernel
theorem dX2_init_15 : decode cX2_init 15 = .ok (.aload_n 3, 1) := by decide +kernel
theorem dX2_init_16 : decode cX2_init 16 = .ok (.putfield 19, 3) := by decide +kernel
theorem dX2_init_19 : decode cX2_init 19 = .ok (.return_, 1) := by decide +kernel
def wp_X2_init (t : Nat) (a1 : Nat) (a2 : Nat) (a3 : Nat) (σ : st_S) (Q : st_S → Prop) : Prop := gK σ t = 32 + 2 ∧ ∀ s11 : st_S, s11 = sR σ t 0 (some a1) → ∀ s13 : st_S, s13 = sR s11 t 1 (some a2) → ∀ s15 : st_S, s15 = sR s13 t 2 (some a3) → Q s15
set_option maxRecDepth 20000 in
set_option maxHeartbeats 8000000 in
theorem c_X2_init {l : Launch} {E : ev_E} (hE : Eok E) {σ : st_S} (hM : MkE E (gN σ)) {t : Nat} {a1 : Nat} {a2 : Nat} {a3 : Nat} {Q : st_S → Prop} (h : wp_X2_init t a1 a2 a3 σ Q) : cM l yX2_init cX2_init 4 none E 1 0 0 [vR E t, vR E a1, vR E a2, vR E a3] σ (qV E (gN σ + 0) Q) := by
  refine cM_of (lv := [(0, vR E t), (1, vR E a1), (2, vR E a2), (3, vR E a3)]) (by decide) hE (Nat.le_of_ble_eq_true rfl) rfl ?_
  intro X hX hc hcl hsl hr hnm _
  subst hX
  have hh : 1 ≤ 1 := Nat.le_refl _
  have hh1 : 1 ≤ 1 := by omega
  replace h : gK σ t = 32 + 2 ∧ ∀ s11 : st_S, s11 = sR σ t 0 (some a1) → ∀ s13 : st_S, s13 = sR s11 t 1 (some a2) → ∀ s15 : st_S, s15 = sR s13 t 2 (some a3) → Q s15 := h
  refine j_aload_nR hc 0 dX2_init_0 rfl rfl ?_
  refine j_obj hc ol_RX2_3 hh1 (Nat.le_of_ble_eq_true rfl) dX2_init_1 ?_
  refine j_aload_nR hc 0 dX2_init_4 rfl rfl ?_
  refine j_aload_nR hc 1 dX2_init_5 rfl rfl ?_
  obtain ⟨f10, h⟩ := h
  refine j_putR hc fl_RX2_9 rfl (Or.inr ⟨rfl, hnm, rfl⟩) (fun _ => Or.inr f10) (fun _ => Or.inl f10) dX2_init_6 (fun s11 es11 => ?_)
  replace h := h s11 es11
  have f12 := kI (Or.inr ⟨_, _, _, es11⟩) f10
  refine j_aload_nR hc 0 dX2_init_9 rfl rfl ?_
  refine j_aload_nR hc 2 dX2_init_10 rfl rfl ?_
  refine j_putR hc fl_RX2_15 rfl (Or.inr ⟨rfl, hnm, rfl⟩) (fun _ => Or.inr f12) (fun _ => Or.inl f12) dX2_init_11 (fun s13 es13 => ?_)
  replace h := h s13 es13
  have f14 := kI (Or.inr ⟨_, _, _, es13⟩) f12
  refine j_aload_nR hc 0 dX2_init_14 rfl rfl ?_
  refine j_aload_nR hc 3 dX2_init_15 rfl rfl ?_
  refine j_putR hc fl_RX2_19 rfl (Or.inr ⟨rfl, hnm, rfl⟩) (fun _ => Or.inr f14) (fun _ => Or.inl f14) dX2_init_16 (fun s15 es15 => ?_)
  replace h := h s15 es15
  have f16 := kI (Or.inr ⟨_, _, _, es15⟩) f14
  refine j_wide (slots' := 0) (by omega) ?_
  exact j_vret hc hr h dX2_init_19
-- LitStrangers$Judge.<init>(LLitStrangers$Coast;)V
theorem dX3_init_0 : decode cX3_init 0 = .ok (.aload_n 0, 1) := by decide +kernel
theorem dX3_init_1 : decode cX3_init 1 = .ok (.invokespecial 3, 3) := by decide +kernel
theorem dX3_init_4 : decode cX3_init 4 = .ok (.aload_n 0, 1) := by decide +kernel
theorem dX3_init_5 : decode cX3_init 5 = .ok (.new 9, 3) := by decide +kernel
theorem dX3_init_8 : decode cX3_init 8 = .ok (.dup, 1) := by decide +kernel
theorem dX3_init_9 : decode cX3_init 9 = .ok (.invokespecial 11, 3) := by decide +kernel
theorem dX3_init_12 : decode cX3_init 12 = .ok (.putfield 12, 3) := by decide +kernel
theorem dX3_init_15 : decode cX3_init 15 = .ok (.aload_n 0, 1) := by decide +kernel
theorem dX3_init_16 : decode cX3_init 16 = .ok (.aload_n 1, 1) := by decide +kernel
theorem dX3_init_17 : decode cX3_init 17 = .ok (.putfield 18, 3) := by decide +kernel
theorem dX3_init_20 : decode cX3_init 20 = .ok (.return_, 1) := by decide +kernel
def wp_X3_init (t : Nat) (a1 : Nat) (σ : st_S) (Q : st_S → Prop) : Prop := ∀ (t12 : Nat) (s13 : st_S), t12 = gN σ → s13 = sA σ (32 + 0) 0 → wp_X0_init t12 s13 (fun s14 => Fin1 s14 t12 0 ∧ skNo 0 t12 ∧ ∀ s15 : st_S, s15 = sK s14 t12 (16 + 0) → gK s15 t = 32 + 3 ∧ ∀ s18 : st_S, s18 = sR s15 t 1 (some t12) → ∀ s20 : st_S, s20 = sR s18 t 0 (some a1) → Q s20)
set_option maxRecDepth 20000 in
set_option maxHeartbeats 8000000 in
theorem c_X3_init {l : Launch} {E : ev_E} (hE : Eok E) (hm : eM E = 0) {σ : st_S} (hM : MkE E (gN σ)) {t : Nat} {a1 : Nat} {Q : st_S → Prop} (h : wp_X3_init t a1 σ Q) : cM l yX3_init cX3_init 2 none E 2 3 92 [vR E t, vR E a1] σ (qV E (gN σ + 3) Q) := by
  refine cM_of (lv := [(0, vR E t), (1, vR E a1)]) (by decide) hE (Nat.le_of_ble_eq_true rfl) rfl ?_
  intro X hX hc hcl hsl hr hnm _
  subst hX
  have hh : 2 ≤ 2 := Nat.le_refl _
  have hh1 : 1 ≤ 2 := by omega
  replace h : ∀ (t12 : Nat) (s13 : st_S), t12 = gN σ → s13 = sA σ (32 + 0) 0 → wp_X0_init t12 s13 (fun s14 => Fin1 s14 t12 0 ∧ skNo 0 t12 ∧ ∀ s15 : st_S, s15 = sK s14 t12 (16 + 0) → gK s15 t = 32 + 3 ∧ ∀ s18 : st_S, s18 = sR s15 t 1 (some t12) → ∀ s20 : st_S, s20 = sR s18 t 0 (some a1) → Q s20) := h
  refine j_aload_nR hc 0 dX3_init_0 rfl rfl ?_
  refine j_obj hc ol_RX3_3 hh1 (Nat.le_of_ble_eq_true rfl) dX3_init_1 ?_
  refine j_aload_nR hc 0 dX3_init_4 rfl rfl ?_
  refine j_newN (N := 3) hc (hM.at hc) nw_RX3_9 rfl (by constructor <;> omega) dX3_init_5 (fun t12 s13 et12 es13 => ?_)
  replace h := h t12 s13 et12 es13
  refine j_dup hc dX3_init_8 rfl ?_
  refine j_ini (mc := 2) (ms := 89) (As := []) hc il_RX3_11 (fun hn0 => c_X0_init (cx_E hc) (hM.up hn0) h) rfl (by omega) (by decide) (by constructor <;> omega) (Nat.le_of_ble_eq_true rfl) rfl dX3_init_9 (fun s14 h => ?_)
  refine j_fin (by decide) hm h.2.1 h.1 (fun s15 es15 => ?_)
  replace h := h.2.2 s15 es15
  obtain ⟨f17, h⟩ := h
  refine j_putR hc fl_RX3_12 rfl (Or.inr ⟨rfl, hnm, rfl⟩) (fun _ => Or.inr f17) (fun _ => Or.inl f17) dX3_init_12 (fun s18 es18 => ?_)
  replace h := h s18 es18
  have f19 := kI (Or.inr ⟨_, _, _, es18⟩) f17
  refine j_aload_nR hc 0 dX3_init_15 rfl rfl ?_
  refine j_aload_nR hc 1 dX3_init_16 rfl rfl ?_
  refine j_putR hc fl_RX3_18 rfl (Or.inr ⟨rfl, hnm, rfl⟩) (fun _ => Or.inr f19) (fun _ => Or.inl f19) dX3_init_17 (fun s20 es20 => ?_)
  replace h := h s20 es20
  have f21 := kI (Or.inr ⟨_, _, _, es20⟩) f19
  refine j_wide (slots' := 92) (by omega) ?_
  exact j_vret hc hr h dX3_init_20
-- LitStrangers$Log.<init>()V
theorem dX4_init_0 : decode cX4_init 0 = .ok (.aload_n 0, 1) := by decide +kernel
theorem dX4_init_1 : decode cX4_init 1 = .ok (.invokespecial 3, 3) := by decide +kernel
theorem dX4_init_4 : decode cX4_init 4 = .ok (.aload_n 0, 1) := by decide +kernel
theorem dX4_init_5 : decode cX4_init 5 = .ok (.sipush 560, 3) := by decide +kernel
theorem dX4_init_8 : decode cX4_init 8 = .ok (.newarray .int, 2) := by decide +kernel
theorem dX4_init_10 : decode cX4_init 10 = .ok (.putfield 11, 3) := by decide +kernel
theorem dX4_init_13 : decode cX4_init 13 = .ok (.return_, 1) := by decide +kernel
def wp_X4_init (t : Nat) (σ : st_S) (Q : st_S → Prop) : Prop := ∀ (t7 : Nat) (s8 : st_S), t7 = gN σ → s8 = sA σ 0 560 → gK s8 t = 32 + 4 ∧ ∀ s10 : st_S, s10 = sR s8 t 2 (some t7) → Q s10
set_option maxRecDepth 20000 in
set_option maxHeartbeats 8000000 in
theorem c_X4_init {l : Launch} {E : ev_E} (hE : Eok E) {σ : st_S} (hM : MkE E (gN σ)) {t : Nat} {Q : st_S → Prop} (h : wp_X4_init t σ Q) : cM l yX4_init cX4_init 1 none E 1 1 560 [vR E t] σ (qV E (gN σ + 1) Q) := by
  refine cM_of (lv := [(0, vR E t)]) (by decide) hE (Nat.le_of_ble_eq_true rfl) rfl ?_
  intro X hX hc hcl hsl hr hnm _
  subst hX
  have hh : 1 ≤ 1 := Nat.le_refl _
  have hh1 : 1 ≤ 1 := by omega
  replace h : ∀ (t7 : Nat) (s8 : st_S), t7 = gN σ → s8 = sA σ 0 560 → gK s8 t = 32 + 4 ∧ ∀ s10 : st_S, s10 = sR s8 t 2 (some t7) → Q s10 := h
  refine j_aload_nR hc 0 dX4_init_0 rfl rfl ?_
  refine j_obj hc ol_RX4_3 hh1 (Nat.le_of_ble_eq_true rfl) dX4_init_1 ?_
  refine j_aload_nR hc 0 dX4_init_4 rfl rfl ?_
  refine j_sipush hc dX4_init_5 (by decide) ?_
  refine j_newa (N := 560) hc (hM.at hc) nk_0 (by decide) (by decide) (by constructor <;> omega) dX4_init_8 (fun t7 s8 et7 es8 => ?_)
  replace h := h t7 s8 et7 es8
  obtain ⟨f9, h⟩ := h
  refine j_putR hc fl_RX4_11 rfl (Or.inr ⟨rfl, hnm, rfl⟩) (fun _ => Or.inr f9) (fun _ => Or.inl f9) dX4_init_10 (fun s10 es10 => ?_)
  replace h := h s10 es10
  have f11 := kI (Or.inr ⟨_, _, _, es10⟩) (kNew et7 es8)
  have f12 := kI (Or.inr ⟨_, _, _, es10⟩) f9
  refine j_wide (slots' := 560) (by omega) ?_
  exact j_vret hc hr h dX4_init_13
-- LitStrangers$Paper.<init>(LLitStrangers$Coast;LLitStrangers$Judge;)V
theorem dX5_init_0 : decode cX5_init 0 = .ok (.aload_n 0, 1) := by decide +kernel
theorem dX5_init_1 : decode cX5_init 1 = .ok (.invokespecial 3, 3) := by decide +kernel
theorem dX5_init_4 : decode cX5_init 4 = .ok (.aload_n 0, 1) := by decide +kernel
theorem dX5_init_5 : decode cX5_init 5 = .ok (.bipush 10, 2) := by decide +kernel
theorem dX5_init_7 : decode cX5_init 7 = .ok (.newarray .int, 2) := by decide +kernel
theorem dX5_init_9 : decode cX5_init 9 = .ok (.putfield 9, 3) := by decide +kernel
theorem dX5_init_12 : decode cX5_init 12 = .ok (.aload_n 0, 1) := by decide +kernel
theorem dX5_init_13 : decode cX5_init 13 = .ok (.bipush 10, 2) := by decide +kernel
theorem dX5_init_15 : decode cX5_init 15 = .ok (.newarray .int, 2) := by decide +kernel
theorem dX5_init_17 : decode cX5_init 17 = .ok (.putfield 15, 3) := by decide +kernel
theorem dX5_init_20 : decode cX5_init 20 = .ok (.aload_n 0, 1) := by decide +kernel
theorem dX5_init_21 : decode cX5_init 21 = .ok (.bipush 10, 2) := by decide +kernel
theorem dX5_init_23 : decode cX5_init 23 = .ok (.newarray .int, 2) := by decide +kernel
theorem dX5_init_25 : decode cX5_init 25 = .ok (.putfield 18, 3) := by decide +kernel
theorem dX5_init_28 : decode cX5_init 28 = .ok (.aload_n 0, 1) := by decide +kernel
theorem dX5_init_29 : decode cX5_init 29 = .ok (.bipush 10, 2) := by decide +kernel
theorem dX5_init_31 : decode cX5_init 31 = .ok (.newarray .int, 2) := by decide +kernel
theorem dX5_init_33 : decode cX5_init 33 = .ok (.putfield 21, 3) := by decide +kernel
theorem dX5_init_36 : decode cX5_init 36 = .ok (.aload_n 0, 1) := by decide +kernel
theorem dX5_init_37 : decode cX5_init 37 = .ok (.bipush 10, 2) := by decide +kernel
theorem dX5_init_39 : decode cX5_init 39 = .ok (.newarray .int, 2) := by decide +kernel
theorem dX5_init_41 : decode cX5_init 41 = .ok (.putfield 24, 3) := by decide +kernel
theorem dX5_init_44 : decode cX5_init 44 = .ok (.aload_n 0, 1) := by decide +kernel
theorem dX5_init_45 : decode cX5_init 45 = .ok (.bipush 10, 2) := by decide +kernel
theorem dX5_init_47 : decode cX5_init 47 = .ok (.newarray .int, 2) := by decide +kernel
theorem dX5_init_49 : decode cX5_init 49 = .ok (.putfield 27, 3) := by decide +kernel
theorem dX5_init_52 : decode cX5_init 52 = .ok (.aload_n 0, 1) := by decide +kernel
theorem dX5_init_53 : decode cX5_init 53 = .ok (.bipush 10, 2) := by decide +kernel
theorem dX5_init_55 : decode cX5_init 55 = .ok (.newarray .int, 2) := by decide +kernel
theorem dX5_init_57 : decode cX5_init 57 = .ok (.putfield 30, 3) := by decide +kernel
theorem dX5_init_60 : decode cX5_init 60 = .ok (.aload_n 0, 1) := by decide +kernel
theorem dX5_init_61 : decode cX5_init 61 = .ok (.bipush 10, 2) := by decide +kernel
theorem dX5_init_63 : decode cX5_init 63 = .ok (.newarray .int, 2) := by decide +kernel
theorem dX5_init_65 : decode cX5_init 65 = .ok (.putfield 33, 3) := by decide +kernel
theorem dX5_init_68 : decode cX5_init 68 = .ok (.aload_n 0, 1) := by decide +kernel
theorem dX5_init_69 : decode cX5_init 69 = .ok (.sipush 2100, 3) := by decide +kernel
theorem dX5_init_72 : decode cX5_init 72 = .ok (.newarray .int, 2) := by decide +kernel
theorem dX5_init_74 : decode cX5_init 74 = .ok (.putfield 36, 3) := by decide +kernel
theorem dX5_init_77 : decode cX5_init 77 = .ok (.aload_n 0, 1) := by decide +kernel
theorem dX5_init_78 : decode cX5_init 78 = .ok (.aload_n 1, 1) := by decide +kernel
theorem dX5_init_79 : decode cX5_init 79 = .ok (.putfield 39, 3) := by decide +kernel
theorem dX5_init_82 : decode cX5_init 82 = .ok (.aload_n 0, 1) := by decide +kernel
theorem dX5_init_83 : decode cX5_init 83 = .ok (.aload_n 2, 1) := by decide +kernel
theorem dX5_init_84 : decode cX5_init 84 = .ok (.putfield 43, 3) := by decide +kernel
theorem dX5_init_87 : decode cX5_init 87 = .ok (.return_, 1) := by decide +kernel
def wp_X5_init (t : Nat) (a1 : Nat) (a2 : Nat) (σ : st_S) (Q : st_S → Prop) : Prop := ∀ (t61 : Nat) (s62 : st_S), t61 = gN σ → s62 = sA σ 0 10 → gK s62 t = 32 + 5 ∧ ∀ s64 : st_S, s64 = sR s62 t 4 (some t61) → ∀ (t67 : Nat) (s68 : st_S), t67 = gN s64 → s68 = sA s64 0 10 → gK s68 t = 32 + 5 ∧ ∀ s70 : st_S, s70 = sR s68 t 5 (some t67) → ∀ (t73 : Nat) (s74 : st_S), t73 = gN s70 → s74 = sA s70 0 10 → gK s74 t = 32 + 5 ∧ ∀ s76 : st_S, s76 = sR s74 t 6 (some t73) → ∀ (t79 : Nat) (s80 : st_S), t79 = gN s76 → s80 = sA s76 0 10 → gK s80 t = 32 + 5 ∧ ∀ s82 : st_S, s82 = sR s80 t 7 (some t79) → ∀ (t85 : Nat) (s86 : st_S), t85 = gN s82 → s86 = sA s82 0 10 → gK s86 t = 32 + 5 ∧ ∀ s88 : st_S, s88 = sR s86 t 8 (some t85) → ∀ (t91 : Nat) (s92 : st_S), t91 = gN s88 → s92 = sA s88 0 10 → gK s92 t = 32 + 5 ∧ ∀ s94 : st_S, s94 = sR s92 t 9 (some t91) → ∀ (t97 : Nat) (s98 : st_S), t97 = gN s94 → s98 = sA s94 0 10 → gK s98 t = 32 + 5 ∧ ∀ s100 : st_S, s100 = sR s98 t 10 (some t97) → ∀ (t103 : Nat) (s104 : st_S), t103 = gN s100 → s104 = sA s100 0 10 → gK s104 t = 32 + 5 ∧ ∀ s106 : st_S, s106 = sR s104 t 11 (some t103) → ∀ (t109 : Nat) (s110 : st_S), t109 = gN s106 → s110 = sA s106 0 2100 → gK s110 t = 32 + 5 ∧ ∀ s112 : st_S, s112 = sR s110 t 12 (some t109) → ∀ s115 : st_S, s115 = sR s112 t 2 (some a1) → ∀ s118 : st_S, s118 = sR s115 t 3 (some a2) → Q s118
set_option maxRecDepth 20000 in
set_option maxHeartbeats 8000000 in
theorem c_X5_init {l : Launch} {E : ev_E} (hE : Eok E) {σ : st_S} (hM : MkE E (gN σ)) {t : Nat} {a1 : Nat} {a2 : Nat} {Q : st_S → Prop} (h : wp_X5_init t a1 a2 σ Q) : cM l yX5_init cX5_init 3 none E 1 9 2180 [vR E t, vR E a1, vR E a2] σ (qV E (gN σ + 9) Q) := by
  refine cM_of (lv := [(0, vR E t), (1, vR E a1), (2, vR E a2)]) (by decide) hE (Nat.le_of_ble_eq_true rfl) rfl ?_
  intro X hX hc hcl hsl hr hnm _
  subst hX
  have hh : 1 ≤ 1 := Nat.le_refl _
  have hh1 : 1 ≤ 1 := by omega
  replace h : ∀ (t61 : Nat) (s62 : st_S), t61 = gN σ → s62 = sA σ 0 10 → gK s62 t = 32 + 5 ∧ ∀ s64 : st_S, s64 = sR s62 t 4 (some t61) → ∀ (t67 : Nat) (s68 : st_S), t67 = gN s64 → s68 = sA s64 0 10 → gK s68 t = 32 + 5 ∧ ∀ s70 : st_S, s70 = sR s68 t 5 (some t67) → ∀ (t73 : Nat) (s74 : st_S), t73 = gN s70 → s74 = sA s70 0 10 → gK s74 t = 32 + 5 ∧ ∀ s76 : st_S, s76 = sR s74 t 6 (some t73) → ∀ (t79 : Nat) (s80 : st_S), t79 = gN s76 → s80 = sA s76 0 10 → gK s80 t = 32 + 5 ∧ ∀ s82 : st_S, s82 = sR s80 t 7 (some t79) → ∀ (t85 : Nat) (s86 : st_S), t85 = gN s82 → s86 = sA s82 0 10 → gK s86 t = 32 + 5 ∧ ∀ s88 : st_S, s88 = sR s86 t 8 (some t85) → ∀ (t91 : Nat) (s92 : st_S), t91 = gN s88 → s92 = sA s88 0 10 → gK s92 t = 32 + 5 ∧ ∀ s94 : st_S, s94 = sR s92 t 9 (some t91) → ∀ (t97 : Nat) (s98 : st_S), t97 = gN s94 → s98 = sA s94 0 10 → gK s98 t = 32 + 5 ∧ ∀ s100 : st_S, s100 = sR s98 t 10 (some t97) → ∀ (t103 : Nat) (s104 : st_S), t103 = gN s100 → s104 = sA s100 0 10 → gK s104 t = 32 + 5 ∧ ∀ s106 : st_S, s106 = sR s104 t 11 (some t103) → ∀ (t109 : Nat) (s110 : st_S), t109 = gN s106 → s110 = sA s106 0 2100 → gK s110 t = 32 + 5 ∧ ∀ s112 : st_S, s112 = sR s110 t 12 (some t109) → ∀ s115 : st_S, s115 = sR s112 t 2 (some a1) → ∀ s118 : st_S, s118 = sR s115 t 3 (some a2) → Q s118 := h
  refine j_aload_nR hc 0 dX5_init_0 rfl rfl ?_
  refine j_obj hc ol_RX5_3 hh1 (Nat.le_of_ble_eq_true rfl) dX5_init_1 ?_
  refine j_aload_nR hc 0 dX5_init_4 rfl rfl ?_
  refine j_bipush hc dX5_init_5 (by decide) ?_
  refine j_newa (N := 10) hc (hM.at hc) nk_0 (by decide) (by decide) (by constructor <;> omega) dX5_init_7 (fun t61 s62 et61 es62 => ?_)
  replace h := h t61 s62 et61 es62
  obtain ⟨f63, h⟩ := h
  refine j_putR hc fl_RX5_9 rfl (Or.inr ⟨rfl, hnm, rfl⟩) (fun _ => Or.inr f63) (fun _ => Or.inl f63) dX5_init_9 (fun s64 es64 => ?_)
  replace h := h s64 es64
  have f65 := kI (Or.inr ⟨_, _, _, es64⟩) (kNew et61 es62)
  have f66 := kI (Or.inr ⟨_, _, _, es64⟩) f63
  refine j_aload_nR hc 0 dX5_init_12 rfl rfl ?_
  refine j_bipush hc dX5_init_13 (by decide) ?_
  refine j_newa (N := 10) hc (hM.at hc) nk_0 (by decide) (by decide) (by constructor <;> omega) dX5_init_15 (fun t67 s68 et67 es68 => ?_)
  replace h := h t67 s68 et67 es68
  obtain ⟨f69, h⟩ := h
  refine j_putR hc fl_RX5_15 rfl (Or.inr ⟨rfl, hnm, rfl⟩) (fun _ => Or.inr f69) (fun _ => Or.inl f69) dX5_init_17 (fun s70 es70 => ?_)
  replace h := h s70 es70
  have f71 := kI (Or.inr ⟨_, _, _, es70⟩) (kNew et67 es68)
  have f72 := kI (Or.inr ⟨_, _, _, es70⟩) f69
  refine j_aload_nR hc 0 dX5_init_20 rfl rfl ?_
  refine j_bipush hc dX5_init_21 (by decide) ?_
  refine j_newa (N := 10) hc (hM.at hc) nk_0 (by decide) (by decide) (by constructor <;> omega) dX5_init_23 (fun t73 s74 et73 es74 => ?_)
  replace h := h t73 s74 et73 es74
  obtain ⟨f75, h⟩ := h
  refine j_putR hc fl_RX5_18 rfl (Or.inr ⟨rfl, hnm, rfl⟩) (fun _ => Or.inr f75) (fun _ => Or.inl f75) dX5_init_25 (fun s76 es76 => ?_)
  replace h := h s76 es76
  have f77 := kI (Or.inr ⟨_, _, _, es76⟩) (kNew et73 es74)
  have f78 := kI (Or.inr ⟨_, _, _, es76⟩) f75
  refine j_aload_nR hc 0 dX5_init_28 rfl rfl ?_
  refine j_bipush hc dX5_init_29 (by decide) ?_
  refine j_newa (N := 10) hc (hM.at hc) nk_0 (by decide) (by decide) (by constructor <;> omega) dX5_init_31 (fun t79 s80 et79 es80 => ?_)
  replace h := h t79 s80 et79 es80
  obtain ⟨f81, h⟩ := h
  refine j_putR hc fl_RX5_21 rfl (Or.inr ⟨rfl, hnm, rfl⟩) (fun _ => Or.inr f81) (fun _ => Or.inl f81) dX5_init_33 (fun s82 es82 => ?_)
  replace h := h s82 es82
  have f83 := kI (Or.inr ⟨_, _, _, es82⟩) (kNew et79 es80)
  have f84 := kI (Or.inr ⟨_, _, _, es82⟩) f81
  refine j_aload_nR hc 0 dX5_init_36 rfl rfl ?_
  refine j_bipush hc dX5_init_37 (by decide) ?_
  refine j_newa (N := 10) hc (hM.at hc) nk_0 (by decide) (by decide) (by constructor <;> omega) dX5_init_39 (fun t85 s86 et85 es86 => ?_)
  replace h := h t85 s86 et85 es86
  obtain ⟨f87, h⟩ := h
  refine j_putR hc fl_RX5_24 rfl (Or.inr ⟨rfl, hnm, rfl⟩) (fun _ => Or.inr f87) (fun _ => Or.inl f87) dX5_init_41 (fun s88 es88 => ?_)
  replace h := h s88 es88
  have f89 := kI (Or.inr ⟨_, _, _, es88⟩) (kNew et85 es86)
  have f90 := kI (Or.inr ⟨_, _, _, es88⟩) f87
  refine j_aload_nR hc 0 dX5_init_44 rfl rfl ?_
  refine j_bipush hc dX5_init_45 (by decide) ?_
  refine j_newa (N := 10) hc (hM.at hc) nk_0 (by decide) (by decide) (by constructor <;> omega) dX5_init_47 (fun t91 s92 et91 es92 => ?_)
  replace h := h t91 s92 et91 es92
  obtain ⟨f93, h⟩ := h
  refine j_putR hc fl_RX5_27 rfl (Or.inr ⟨rfl, hnm, rfl⟩) (fun _ => Or.inr f93) (fun _ => Or.inl f93) dX5_init_49 (fun s94 es94 => ?_)
  replace h := h s94 es94
  have f95 := kI (Or.inr ⟨_, _, _, es94⟩) (kNew et91 es92)
  have f96 := kI (Or.inr ⟨_, _, _, es94⟩) f93
  refine j_aload_nR hc 0 dX5_init_52 rfl rfl ?_
  refine j_bipush hc dX5_init_53 (by decide) ?_
  refine j_newa (N := 10) hc (hM.at hc) nk_0 (by decide) (by decide) (by constructor <;> omega) dX5_init_55 (fun t97 s98 et97 es98 => ?_)
  replace h := h t97 s98 et97 es98
  obtain ⟨f99, h⟩ := h
  refine j_putR hc fl_RX5_30 rfl (Or.inr ⟨rfl, hnm, rfl⟩) (fun _ => Or.inr f99) (fun _ => Or.inl f99) dX5_init_57 (fun s100 es100 => ?_)
  replace h := h s100 es100
  have f101 := kI (Or.inr ⟨_, _, _, es100⟩) (kNew et97 es98)
  have f102 := kI (Or.inr ⟨_, _, _, es100⟩) f99
  refine j_aload_nR hc 0 dX5_init_60 rfl rfl ?_
  refine j_bipush hc dX5_init_61 (by decide) ?_
  refine j_newa (N := 10) hc (hM.at hc) nk_0 (by decide) (by decide) (by constructor <;> omega) dX5_init_63 (fun t103 s104 et103 es104 => ?_)
  replace h := h t103 s104 et103 es104
  obtain ⟨f105, h⟩ := h
  refine j_putR hc fl_RX5_33 rfl (Or.inr ⟨rfl, hnm, rfl⟩) (fun _ => Or.inr f105) (fun _ => Or.inl f105) dX5_init_65 (fun s106 es106 => ?_)
  replace h := h s106 es106
  have f107 := kI (Or.inr ⟨_, _, _, es106⟩) (kNew et103 es104)
  have f108 := kI (Or.inr ⟨_, _, _, es106⟩) f105
  refine j_aload_nR hc 0 dX5_init_68 rfl rfl ?_
  refine j_sipush hc dX5_init_69 (by decide) ?_
  refine j_newa (N := 2100) hc (hM.at hc) nk_0 (by decide) (by decide) (by constructor <;> omega) dX5_init_72 (fun t109 s110 et109 es110 => ?_)
  replace h := h t109 s110 et109 es110
  obtain ⟨f111, h⟩ := h
  refine j_putR hc fl_RX5_36 rfl (Or.inr ⟨rfl, hnm, rfl⟩) (fun _ => Or.inr f111) (fun _ => Or.inl f111) dX5_init_74 (fun s112 es112 => ?_)
  replace h := h s112 es112
  have f113 := kI (Or.inr ⟨_, _, _, es112⟩) (kNew et109 es110)
  have f114 := kI (Or.inr ⟨_, _, _, es112⟩) f111
  refine j_aload_nR hc 0 dX5_init_77 rfl rfl ?_
  refine j_aload_nR hc 1 dX5_init_78 rfl rfl ?_
  refine j_putR hc fl_RX5_39 rfl (Or.inr ⟨rfl, hnm, rfl⟩) (fun _ => Or.inr f114) (fun _ => Or.inl f114) dX5_init_79 (fun s115 es115 => ?_)
  replace h := h s115 es115
  have f116 := kI (Or.inr ⟨_, _, _, es115⟩) f113
  have f117 := kI (Or.inr ⟨_, _, _, es115⟩) f114
  refine j_aload_nR hc 0 dX5_init_82 rfl rfl ?_
  refine j_aload_nR hc 2 dX5_init_83 rfl rfl ?_
  refine j_putR hc fl_RX5_43 rfl (Or.inr ⟨rfl, hnm, rfl⟩) (fun _ => Or.inr f117) (fun _ => Or.inl f117) dX5_init_84 (fun s118 es118 => ?_)
  replace h := h s118 es118
  have f119 := kI (Or.inr ⟨_, _, _, es118⟩) f116
  have f120 := kI (Or.inr ⟨_, _, _, es118⟩) f117
  refine j_wide (slots' := 2180) (by omega) ?_
  exact j_vret hc hr h dX5_init_87
-- LitStrangers$Runner.<init>(LLitStrangers$Coast;LLitStrangers$Deeds;)V
theorem dX7_init_0 : decode cX7_init 0 = .ok (.aload_n 0, 1) := by decide +kernel
theorem dX7_init_1 : decode cX7_init 1 = .ok (.invokespecial 3, 3) := by decide +kernel
theorem dX7_init_4 : decode cX7_init 4 = .ok (.aload_n 0, 1) := by decide +kernel
theorem dX7_init_5 : decode cX7_init 5 = .ok (.iconst (-1), 1) := by decide +kernel
theorem dX7_init_6 : decode cX7_init 6 = .ok (.putfield 9, 3) := by decide +kernel
theorem dX7_init_9 : decode cX7_init 9 = .ok (.aload_n 0, 1) := by decide +kernel
theorem dX7_init_10 : decode cX7_init 10 = .ok (.new 15, 3) := by decide +kernel
theorem dX7_init_13 : decode cX7_init 13 = .ok (.dup, 1) := by decide +kernel
theorem dX7_init_14 : decode cX7_init 14 = .ok (.invokespecial 17, 3) := by decide +kernel
theorem dX7_init_17 : decode cX7_init 17 = .ok (.putfield 18, 3) := by decide +kernel
theorem dX7_init_20 : decode cX7_init 20 = .ok (.aload_n 0, 1) := by decide +kernel
theorem dX7_init_21 : decode cX7_init 21 = .ok (.aload_n 1, 1) := by decide +kernel
theorem dX7_init_22 : decode cX7_init 22 = .ok (.putfield 22, 3) := by decide +kernel
theorem dX7_init_25 : decode cX7_init 25 = .ok (.aload_n 0, 1) := by decide +kernel
theorem dX7_init_26 : decode cX7_init 26 = .ok (.aload_n 2, 1) := by decide +kernel
theorem dX7_init_27 : decode cX7_init 27 = .ok (.putfield 26, 3) := by decide +kernel
theorem dX7_init_30 : decode cX7_init 30 = .ok (.return_, 1) := by decide +kernel
def wp_X7_init (t : Nat) (a1 : Nat) (a2 : Nat) (σ : st_S) (Q : st_S → Prop) : Prop := gK σ t = 32 + 7 ∧ ∀ s19 : st_S, s19 = sI σ t 0 (-1) → ∀ (t21 : Nat) (s22 : st_S), t21 = gN s19 → s22 = sA s19 (32 + 0) 0 → wp_X0_init t21 s22 (fun s23 => Fin1 s23 t21 0 ∧ skNo 0 t21 ∧ ∀ s24 : st_S, s24 = sK s23 t21 (16 + 0) → gK s24 t = 32 + 7 ∧ ∀ s27 : st_S, s27 = sR s24 t 3 (some t21) → ∀ s29 : st_S, s29 = sR s27 t 1 (some a1) → ∀ s31 : st_S, s31 = sR s29 t 2 (some a2) → Q s31)
set_option maxRecDepth 20000 in
set_option maxHeartbeats 8000000 in
theorem c_X7_init {l : Launch} {E : ev_E} (hE : Eok E) (hm : eM E = 0) {σ : st_S} (hM : MkE E (gN σ)) {t : Nat} {a1 : Nat} {a2 : Nat} {Q : st_S → Prop} (h : wp_X7_init t a1 a2 σ Q) : cM l yX7_init cX7_init 3 none E 2 3 92 [vR E t, vR E a1, vR E a2] σ (qV E (gN σ + 3) Q) := by
  refine cM_of (lv := [(0, vR E t), (1, vR E a1), (2, vR E a2)]) (by decide) hE (Nat.le_of_ble_eq_true rfl) rfl ?_
  intro X hX hc hcl hsl hr hnm _
  subst hX
  have hh : 2 ≤ 2 := Nat.le_refl _
  have hh1 : 1 ≤ 2 := by omega
  replace h : gK σ t = 32 + 7 ∧ ∀ s19 : st_S, s19 = sI σ t 0 (-1) → ∀ (t21 : Nat) (s22 : st_S), t21 = gN s19 → s22 = sA s19 (32 + 0) 0 → wp_X0_init t21 s22 (fun s23 => Fin1 s23 t21 0 ∧ skNo 0 t21 ∧ ∀ s24 : st_S, s24 = sK s23 t21 (16 + 0) → gK s24 t = 32 + 7 ∧ ∀ s27 : st_S, s27 = sR s24 t 3 (some t21) → ∀ s29 : st_S, s29 = sR s27 t 1 (some a1) → ∀ s31 : st_S, s31 = sR s29 t 2 (some a2) → Q s31) := h
  refine j_aload_nR hc 0 dX7_init_0 rfl rfl ?_
  refine j_obj hc ol_RX7_3 hh1 (Nat.le_of_ble_eq_true rfl) dX7_init_1 ?_
  refine j_aload_nR hc 0 dX7_init_4 rfl rfl ?_
  refine j_iconst hc dX7_init_5 ?_
  obtain ⟨f18, h⟩ := h
  refine j_putI hc fl_RX7_9 rfl rfl (fun _ => Or.inr f18) (wlit (-1) (by decide)) dX7_init_6 (fun s19 es19 => ?_)
  replace h := h s19 es19
  have f20 := kI (Or.inl ⟨_, _, _, es19⟩) f18
  refine j_aload_nR hc 0 dX7_init_9 rfl rfl ?_
  refine j_newN (N := 3) hc (hM.at hc) nw_RX7_15 rfl (by constructor <;> omega) dX7_init_10 (fun t21 s22 et21 es22 => ?_)
  replace h := h t21 s22 et21 es22
  refine j_dup hc dX7_init_13 rfl ?_
  refine j_ini (mc := 2) (ms := 89) (As := []) hc il_RX7_17 (fun hn0 => c_X0_init (cx_E hc) (hM.up hn0) h) rfl (by omega) (by decide) (by constructor <;> omega) (Nat.le_of_ble_eq_true rfl) rfl dX7_init_14 (fun s23 h => ?_)
  refine j_fin (by decide) hm h.2.1 h.1 (fun s24 es24 => ?_)
  replace h := h.2.2 s24 es24
  obtain ⟨f26, h⟩ := h
  refine j_putR hc fl_RX7_18 rfl (Or.inr ⟨rfl, hnm, rfl⟩) (fun _ => Or.inr f26) (fun _ => Or.inl f26) dX7_init_17 (fun s27 es27 => ?_)
  replace h := h s27 es27
  have f28 := kI (Or.inr ⟨_, _, _, es27⟩) f26
  refine j_aload_nR hc 0 dX7_init_20 rfl rfl ?_
  refine j_aload_nR hc 1 dX7_init_21 rfl rfl ?_
  refine j_putR hc fl_RX7_22 rfl (Or.inr ⟨rfl, hnm, rfl⟩) (fun _ => Or.inr f28) (fun _ => Or.inl f28) dX7_init_22 (fun s29 es29 => ?_)
  replace h := h s29 es29
  have f30 := kI (Or.inr ⟨_, _, _, es29⟩) f28
  refine j_aload_nR hc 0 dX7_init_25 rfl rfl ?_
  refine j_aload_nR hc 2 dX7_init_26 rfl rfl ?_
  refine j_putR hc fl_RX7_26 rfl (Or.inr ⟨rfl, hnm, rfl⟩) (fun _ => Or.inr f30) (fun _ => Or.inl f30) dX7_init_27 (fun s31 es31 => ?_)
  replace h := h s31 es31
  have f32 := kI (Or.inr ⟨_, _, _, es31⟩) f30
  refine j_wide (slots' := 92) (by omega) ?_
  exact j_vret hc hr h dX7_init_30
-- LitStrangers$Search.<init>(LLitStrangers$Paper;)V
theorem dX8_init_0 : decode cX8_init 0 = .ok (.aload_n 0, 1) := by decide +kernel
theorem dX8_init_1 : decode cX8_init 1 = .ok (.invokespecial 3, 3) := by decide +kernel
theorem dX8_init_4 : decode cX8_init 4 = .ok (.aload_n 0, 1) := by decide +kernel
theorem dX8_init_5 : decode cX8_init 5 = .ok (.sipush 1024, 3) := by decide +kernel
theorem dX8_init_8 : decode cX8_init 8 = .ok (.newarray .int, 2) := by decide +kernel
theorem dX8_init_10 : decode cX8_init 10 = .ok (.putfield 9, 3) := by decide +kernel
theorem dX8_init_13 : decode cX8_init 13 = .ok (.aload_n 0, 1) := by decide +kernel
theorem dX8_init_14 : decode cX8_init 14 = .ok (.sipush 1024, 3) := by decide +kernel
theorem dX8_init_17 : decode cX8_init 17 = .ok (.newarray .int, 2) := by decide +kernel
theorem dX8_init_19 : decode cX8_init 19 = .ok (.putfield 15, 3) := by decide +kernel
theorem dX8_init_22 : decode cX8_init 22 = .ok (.aload_n 0, 1) := by decide +kernel
theorem dX8_init_23 : decode cX8_init 23 = .ok (.sipush 5120, 3) := by decide +kernel
theorem dX8_init_26 : decode cX8_init 26 = .ok (.newarray .int, 2) := by decide +kernel
theorem dX8_init_28 : decode cX8_init 28 = .ok (.putfield 18, 3) := by decide +kernel
theorem dX8_init_31 : decode cX8_init 31 = .ok (.aload_n 0, 1) := by decide +kernel
theorem dX8_init_32 : decode cX8_init 32 = .ok (.bipush 10, 2) := by decide +kernel
theorem dX8_init_34 : decode cX8_init 34 = .ok (.newarray .int, 2) := by decide +kernel
theorem dX8_init_36 : decode cX8_init 36 = .ok (.putfield 21, 3) := by decide +kernel
theorem dX8_init_39 : decode cX8_init 39 = .ok (.aload_n 0, 1) := by decide +kernel
theorem dX8_init_40 : decode cX8_init 40 = .ok (.bipush 10, 2) := by decide +kernel
theorem dX8_init_42 : decode cX8_init 42 = .ok (.newarray .int, 2) := by decide +kernel
theorem dX8_init_44 : decode cX8_init 44 = .ok (.putfield 24, 3) := by decide +kernel
theorem dX8_init_47 : decode cX8_init 47 = .ok (.aload_n 0, 1) := by decide +kernel
theorem dX8_init_48 : decode cX8_init 48 = .ok (.bipush 10, 2) := by decide +kernel
theorem dX8_init_50 : decode cX8_init 50 = .ok (.newarray .int, 2) := by decide +kernel
theorem dX8_init_52 : decode cX8_init 52 = .ok (.putfield 27, 3) := by decide +kernel
theorem dX8_init_55 : decode cX8_init 55 = .ok (.aload_n 0, 1) := by decide +kernel
theorem dX8_init_56 : decode cX8_init 56 = .ok (.sipush 1024, 3) := by decide +kernel
theorem dX8_init_59 : decode cX8_init 59 = .ok (.newarray .long, 2) := by decide +kernel
theorem dX8_init_61 : decode cX8_init 61 = .ok (.putfield 30, 3) := by decide +kernel
theorem dX8_init_64 : decode cX8_init 64 = .ok (.aload_n 0, 1) := by decide +kernel
theorem dX8_init_65 : decode cX8_init 65 = .ok (.sipush 1024, 3) := by decide +kernel
theorem dX8_init_68 : decode cX8_init 68 = .ok (.newarray .long, 2) := by decide +kernel
theorem dX8_init_70 : decode cX8_init 70 = .ok (.putfield 34, 3) := by decide +kernel
theorem dX8_init_73 : decode cX8_init 73 = .ok (.aload_n 0, 1) := by decide +kernel
theorem dX8_init_74 : decode cX8_init 74 = .ok (.aload_n 1, 1) := by decide +kernel
theorem dX8_init_75 : decode cX8_init 75 = .ok (.putfield 37, 3) := by decide +kernel
theorem dX8_init_78 : decode cX8_init 78 = .ok (.return_, 1) := by decide +kernel
def wp_X8_init (t : Nat) (a1 : Nat) (σ : st_S) (Q : st_S → Prop) : Prop := ∀ (t52 : Nat) (s53 : st_S), t52 = gN σ → s53 = sA σ 0 1024 → gK s53 t = 32 + 8 ∧ ∀ s55 : st_S, s55 = sR s53 t 2 (some t52) → ∀ (t58 : Nat) (s59 : st_S), t58 = gN s55 → s59 = sA s55 0 1024 → gK s59 t = 32 + 8 ∧ ∀ s61 : st_S, s61 = sR s59 t 3 (some t58) → ∀ (t64 : Nat) (s65 : st_S), t64 = gN s61 → s65 = sA s61 0 5120 → gK s65 t = 32 + 8 ∧ ∀ s67 : st_S, s67 = sR s65 t 4 (some t64) → ∀ (t70 : Nat) (s71 : st_S), t70 = gN s67 → s71 = sA s67 0 10 → gK s71 t = 32 + 8 ∧ ∀ s73 : st_S, s73 = sR s71 t 5 (some t70) → ∀ (t76 : Nat) (s77 : st_S), t76 = gN s73 → s77 = sA s73 0 10 → gK s77 t = 32 + 8 ∧ ∀ s79 : st_S, s79 = sR s77 t 6 (some t76) → ∀ (t82 : Nat) (s83 : st_S), t82 = gN s79 → s83 = sA s79 0 10 → gK s83 t = 32 + 8 ∧ ∀ s85 : st_S, s85 = sR s83 t 7 (some t82) → ∀ (t88 : Nat) (s89 : st_S), t88 = gN s85 → s89 = sA s85 1 1024 → gK s89 t = 32 + 8 ∧ ∀ s91 : st_S, s91 = sR s89 t 8 (some t88) → ∀ (t94 : Nat) (s95 : st_S), t94 = gN s91 → s95 = sA s91 1 1024 → gK s95 t = 32 + 8 ∧ ∀ s97 : st_S, s97 = sR s95 t 9 (some t94) → ∀ s100 : st_S, s100 = sR s97 t 1 (some a1) → Q s100
set_option maxRecDepth 20000 in
set_option maxHeartbeats 8000000 in
theorem c_X8_init {l : Launch} {E : ev_E} (hE : Eok E) {σ : st_S} (hM : MkE E (gN σ)) {t : Nat} {a1 : Nat} {Q : st_S → Prop} (h : wp_X8_init t a1 σ Q) : cM l yX8_init cX8_init 2 none E 1 8 9246 [vR E t, vR E a1] σ (qV E (gN σ + 8) Q) := by
  refine cM_of (lv := [(0, vR E t), (1, vR E a1)]) (by decide) hE (Nat.le_of_ble_eq_true rfl) rfl ?_
  intro X hX hc hcl hsl hr hnm _
  subst hX
  have hh : 1 ≤ 1 := Nat.le_refl _
  have hh1 : 1 ≤ 1 := by omega
  replace h : ∀ (t52 : Nat) (s53 : st_S), t52 = gN σ → s53 = sA σ 0 1024 → gK s53 t = 32 + 8 ∧ ∀ s55 : st_S, s55 = sR s53 t 2 (some t52) → ∀ (t58 : Nat) (s59 : st_S), t58 = gN s55 → s59 = sA s55 0 1024 → gK s59 t = 32 + 8 ∧ ∀ s61 : st_S, s61 = sR s59 t 3 (some t58) → ∀ (t64 : Nat) (s65 : st_S), t64 = gN s61 → s65 = sA s61 0 5120 → gK s65 t = 32 + 8 ∧ ∀ s67 : st_S, s67 = sR s65 t 4 (some t64) → ∀ (t70 : Nat) (s71 : st_S), t70 = gN s67 → s71 = sA s67 0 10 → gK s71 t = 32 + 8 ∧ ∀ s73 : st_S, s73 = sR s71 t 5 (some t70) → ∀ (t76 : Nat) (s77 : st_S), t76 = gN s73 → s77 = sA s73 0 10 → gK s77 t = 32 + 8 ∧ ∀ s79 : st_S, s79 = sR s77 t 6 (some t76) → ∀ (t82 : Nat) (s83 : st_S), t82 = gN s79 → s83 = sA s79 0 10 → gK s83 t = 32 + 8 ∧ ∀ s85 : st_S, s85 = sR s83 t 7 (some t82) → ∀ (t88 : Nat) (s89 : st_S), t88 = gN s85 → s89 = sA s85 1 1024 → gK s89 t = 32 + 8 ∧ ∀ s91 : st_S, s91 = sR s89 t 8 (some t88) → ∀ (t94 : Nat) (s95 : st_S), t94 = gN s91 → s95 = sA s91 1 1024 → gK s95 t = 32 + 8 ∧ ∀ s97 : st_S, s97 = sR s95 t 9 (some t94) → ∀ s100 : st_S, s100 = sR s97 t 1 (some a1) → Q s100 := h
  refine j_aload_nR hc 0 dX8_init_0 rfl rfl ?_
  refine j_obj hc ol_RX8_3 hh1 (Nat.le_of_ble_eq_true rfl) dX8_init_1 ?_
  refine j_aload_nR hc 0 dX8_init_4 rfl rfl ?_
  refine j_sipush hc dX8_init_5 (by decide) ?_
  refine j_newa (N := 1024) hc (hM.at hc) nk_0 (by decide) (by decide) (by constructor <;> omega) dX8_init_8 (fun t52 s53 et52 es53 => ?_)
  replace h := h t52 s53 et52 es53
  obtain ⟨f54, h⟩ := h
  refine j_putR hc fl_RX8_9 rfl (Or.inr ⟨rfl, hnm, rfl⟩) (fun _ => Or.inr f54) (fun _ => Or.inl f54) dX8_init_10 (fun s55 es55 => ?_)
  replace h := h s55 es55
  have f56 := kI (Or.inr ⟨_, _, _, es55⟩) (kNew et52 es53)
  have f57 := kI (Or.inr ⟨_, _, _, es55⟩) f54
  refine j_aload_nR hc 0 dX8_init_13 rfl rfl ?_
  refine j_sipush hc dX8_init_14 (by decide) ?_
  refine j_newa (N := 1024) hc (hM.at hc) nk_0 (by decide) (by decide) (by constructor <;> omega) dX8_init_17 (fun t58 s59 et58 es59 => ?_)
  replace h := h t58 s59 et58 es59
  obtain ⟨f60, h⟩ := h
  refine j_putR hc fl_RX8_15 rfl (Or.inr ⟨rfl, hnm, rfl⟩) (fun _ => Or.inr f60) (fun _ => Or.inl f60) dX8_init_19 (fun s61 es61 => ?_)
  replace h := h s61 es61
  have f62 := kI (Or.inr ⟨_, _, _, es61⟩) (kNew et58 es59)
  have f63 := kI (Or.inr ⟨_, _, _, es61⟩) f60
  refine j_aload_nR hc 0 dX8_init_22 rfl rfl ?_
  refine j_sipush hc dX8_init_23 (by decide) ?_
  refine j_newa (N := 5120) hc (hM.at hc) nk_0 (by decide) (by decide) (by constructor <;> omega) dX8_init_26 (fun t64 s65 et64 es65 => ?_)
  replace h := h t64 s65 et64 es65
  obtain ⟨f66, h⟩ := h
  refine j_putR hc fl_RX8_18 rfl (Or.inr ⟨rfl, hnm, rfl⟩) (fun _ => Or.inr f66) (fun _ => Or.inl f66) dX8_init_28 (fun s67 es67 => ?_)
  replace h := h s67 es67
  have f68 := kI (Or.inr ⟨_, _, _, es67⟩) (kNew et64 es65)
  have f69 := kI (Or.inr ⟨_, _, _, es67⟩) f66
  refine j_aload_nR hc 0 dX8_init_31 rfl rfl ?_
  refine j_bipush hc dX8_init_32 (by decide) ?_
  refine j_newa (N := 10) hc (hM.at hc) nk_0 (by decide) (by decide) (by constructor <;> omega) dX8_init_34 (fun t70 s71 et70 es71 => ?_)
  replace h := h t70 s71 et70 es71
  obtain ⟨f72, h⟩ := h
  refine j_putR hc fl_RX8_21 rfl (Or.inr ⟨rfl, hnm, rfl⟩) (fun _ => Or.inr f72) (fun _ => Or.inl f72) dX8_init_36 (fun s73 es73 => ?_)
  replace h := h s73 es73
  have f74 := kI (Or.inr ⟨_, _, _, es73⟩) (kNew et70 es71)
  have f75 := kI (Or.inr ⟨_, _, _, es73⟩) f72
  refine j_aload_nR hc 0 dX8_init_39 rfl rfl ?_
  refine j_bipush hc dX8_init_40 (by decide) ?_
  refine j_newa (N := 10) hc (hM.at hc) nk_0 (by decide) (by decide) (by constructor <;> omega) dX8_init_42 (fun t76 s77 et76 es77 => ?_)
  replace h := h t76 s77 et76 es77
  obtain ⟨f78, h⟩ := h
  refine j_putR hc fl_RX8_24 rfl (Or.inr ⟨rfl, hnm, rfl⟩) (fun _ => Or.inr f78) (fun _ => Or.inl f78) dX8_init_44 (fun s79 es79 => ?_)
  replace h := h s79 es79
  have f80 := kI (Or.inr ⟨_, _, _, es79⟩) (kNew et76 es77)
  have f81 := kI (Or.inr ⟨_, _, _, es79⟩) f78
  refine j_aload_nR hc 0 dX8_init_47 rfl rfl ?_
  refine j_bipush hc dX8_init_48 (by decide) ?_
  refine j_newa (N := 10) hc (hM.at hc) nk_0 (by decide) (by decide) (by constructor <;> omega) dX8_init_50 (fun t82 s83 et82 es83 => ?_)
  replace h := h t82 s83 et82 es83
  obtain ⟨f84, h⟩ := h
  refine j_putR hc fl_RX8_27 rfl (Or.inr ⟨rfl, hnm, rfl⟩) (fun _ => Or.inr f84) (fun _ => Or.inl f84) dX8_init_52 (fun s85 es85 => ?_)
  replace h := h s85 es85
  have f86 := kI (Or.inr ⟨_, _, _, es85⟩) (kNew et82 es83)
  have f87 := kI (Or.inr ⟨_, _, _, es85⟩) f84
  refine j_aload_nR hc 0 dX8_init_55 rfl rfl ?_
  refine j_sipush hc dX8_init_56 (by decide) ?_
  refine j_newa (N := 1024) hc (hM.at hc) nk_1 (by decide) (by decide) (by constructor <;> omega) dX8_init_59 (fun t88 s89 et88 es89 => ?_)
  replace h := h t88 s89 et88 es89
  obtain ⟨f90, h⟩ := h
  refine j_putR hc fl_RX8_30 rfl (Or.inl rfl) (fun _ => Or.inr f90) (fun _ => Or.inl f90) dX8_init_61 (fun s91 es91 => ?_)
  replace h := h s91 es91
  have f92 := kI (Or.inr ⟨_, _, _, es91⟩) (kNew et88 es89)
  have f93 := kI (Or.inr ⟨_, _, _, es91⟩) f90
  refine j_aload_nR hc 0 dX8_init_64 rfl rfl ?_
  refine j_sipush hc dX8_init_65 (by decide) ?_
  refine j_newa (N := 1024) hc (hM.at hc) nk_1 (by decide) (by decide) (by constructor <;> omega) dX8_init_68 (fun t94 s95 et94 es95 => ?_)
  replace h := h t94 s95 et94 es95
  obtain ⟨f96, h⟩ := h
  refine j_putR hc fl_RX8_34 rfl (Or.inl rfl) (fun _ => Or.inr f96) (fun _ => Or.inl f96) dX8_init_70 (fun s97 es97 => ?_)
  replace h := h s97 es97
  have f98 := kI (Or.inr ⟨_, _, _, es97⟩) (kNew et94 es95)
  have f99 := kI (Or.inr ⟨_, _, _, es97⟩) f96
  refine j_aload_nR hc 0 dX8_init_73 rfl rfl ?_
  refine j_aload_nR hc 1 dX8_init_74 rfl rfl ?_
  refine j_putR hc fl_RX8_37 rfl (Or.inr ⟨rfl, hnm, rfl⟩) (fun _ => Or.inr f99) (fun _ => Or.inl f99) dX8_init_75 (fun s100 es100 => ?_)
  replace h := h s100 es100
  have f101 := kI (Or.inr ⟨_, _, _, es100⟩) f98
  have f102 := kI (Or.inr ⟨_, _, _, es100⟩) f99
  refine j_wide (slots' := 9246) (by omega) ?_
  exact j_vret hc hr h dX8_init_78
-- LitStrangers$Text.<init>()V
theorem dX9_init_0 : decode cX9_init 0 = .ok (.aload_n 0, 1) := by decide +kernel
theorem dX9_init_1 : decode cX9_init 1 = .ok (.invokespecial 3, 3) := by decide +kernel
theorem dX9_init_4 : decode cX9_init 4 = .ok (.aload_n 0, 1) := by decide +kernel
theorem dX9_init_5 : decode cX9_init 5 = .ok (.sipush 400, 3) := by decide +kernel
theorem dX9_init_8 : decode cX9_init 8 = .ok (.newarray .int, 2) := by decide +kernel
theorem dX9_init_10 : decode cX9_init 10 = .ok (.putfield 9, 3) := by decide +kernel
theorem dX9_init_13 : decode cX9_init 13 = .ok (.aload_n 0, 1) := by decide +kernel
theorem dX9_init_14 : decode cX9_init 14 = .ok (.bipush 12, 2) := by decide +kernel
theorem dX9_init_16 : decode cX9_init 16 = .ok (.newarray .int, 2) := by decide +kernel
theorem dX9_init_18 : decode cX9_init 18 = .ok (.putfield 15, 3) := by decide +kernel
theorem dX9_init_21 : decode cX9_init 21 = .ok (.aload_n 0, 1) := by decide +kernel
theorem dX9_init_22 : decode cX9_init 22 = .ok (.bipush 12, 2) := by decide +kernel
theorem dX9_init_24 : decode cX9_init 24 = .ok (.newarray .int, 2) := by decide +kernel
theorem dX9_init_26 : decode cX9_init 26 = .ok (.putfield 18, 3) := by decide +kernel
theorem dX9_init_29 : decode cX9_init 29 = .ok (.aload_n 0, 1) := by decide +kernel
theorem dX9_init_30 : decode cX9_init 30 = .ok (.bipush 12, 2) := by decide +kernel
theorem dX9_init_32 : decode cX9_init 32 = .ok (.newarray .int, 2) := by decide +kernel
theorem dX9_init_34 : decode cX9_init 34 = .ok (.putfield 21, 3) := by decide +kernel
theorem dX9_init_37 : decode cX9_init 37 = .ok (.aload_n 0, 1) := by decide +kernel
theorem dX9_init_38 : decode cX9_init 38 = .ok (.bipush 12, 2) := by decide +kernel
theorem dX9_init_40 : decode cX9_init 40 = .ok (.newarray .int, 2) := by decide +kernel
theorem dX9_init_42 : decode cX9_init 42 = .ok (.putfield 24, 3) := by decide +kernel
theorem dX9_init_45 : decode cX9_init 45 = .ok (.aload_n 0, 1) := by decide +kernel
theorem dX9_init_46 : decode cX9_init 46 = .ok (.bipush 12, 2) := by decide +kernel
theorem dX9_init_48 : decode cX9_init 48 = .ok (.newarray .int, 2) := by decide +kernel
theorem dX9_init_50 : decode cX9_init 50 = .ok (.putfield 27, 3) := by decide +kernel
theorem dX9_init_53 : decode cX9_init 53 = .ok (.return_, 1) := by decide +kernel
def wp_X9_init (t : Nat) (σ : st_S) (Q : st_S → Prop) : Prop := ∀ (t37 : Nat) (s38 : st_S), t37 = gN σ → s38 = sA σ 0 400 → gK s38 t = 32 + 9 ∧ ∀ s40 : st_S, s40 = sR s38 t 0 (some t37) → ∀ (t43 : Nat) (s44 : st_S), t43 = gN s40 → s44 = sA s40 0 12 → gK s44 t = 32 + 9 ∧ ∀ s46 : st_S, s46 = sR s44 t 1 (some t43) → ∀ (t49 : Nat) (s50 : st_S), t49 = gN s46 → s50 = sA s46 0 12 → gK s50 t = 32 + 9 ∧ ∀ s52 : st_S, s52 = sR s50 t 2 (some t49) → ∀ (t55 : Nat) (s56 : st_S), t55 = gN s52 → s56 = sA s52 0 12 → gK s56 t = 32 + 9 ∧ ∀ s58 : st_S, s58 = sR s56 t 3 (some t55) → ∀ (t61 : Nat) (s62 : st_S), t61 = gN s58 → s62 = sA s58 0 12 → gK s62 t = 32 + 9 ∧ ∀ s64 : st_S, s64 = sR s62 t 4 (some t61) → ∀ (t67 : Nat) (s68 : st_S), t67 = gN s64 → s68 = sA s64 0 12 → gK s68 t = 32 + 9 ∧ ∀ s70 : st_S, s70 = sR s68 t 5 (some t67) → Q s70
set_option maxRecDepth 20000 in
set_option maxHeartbeats 8000000 in
theorem c_X9_init {l : Launch} {E : ev_E} (hE : Eok E) {σ : st_S} (hM : MkE E (gN σ)) {t : Nat} {Q : st_S → Prop} (h : wp_X9_init t σ Q) : cM l yX9_init cX9_init 1 none E 1 6 460 [vR E t] σ (qV E (gN σ + 6) Q) := by
  refine cM_of (lv := [(0, vR E t)]) (by decide) hE (Nat.le_of_ble_eq_true rfl) rfl ?_
  intro X hX hc hcl hsl hr hnm _
  subst hX
  have hh : 1 ≤ 1 := Nat.le_refl _
  have hh1 : 1 ≤ 1 := by omega
  replace h : ∀ (t37 : Nat) (s38 : st_S), t37 = gN σ → s38 = sA σ 0 400 → gK s38 t = 32 + 9 ∧ ∀ s40 : st_S, s40 = sR s38 t 0 (some t37) → ∀ (t43 : Nat) (s44 : st_S), t43 = gN s40 → s44 = sA s40 0 12 → gK s44 t = 32 + 9 ∧ ∀ s46 : st_S, s46 = sR s44 t 1 (some t43) → ∀ (t49 : Nat) (s50 : st_S), t49 = gN s46 → s50 = sA s46 0 12 → gK s50 t = 32 + 9 ∧ ∀ s52 : st_S, s52 = sR s50 t 2 (some t49) → ∀ (t55 : Nat) (s56 : st_S), t55 = gN s52 → s56 = sA s52 0 12 → gK s56 t = 32 + 9 ∧ ∀ s58 : st_S, s58 = sR s56 t 3 (some t55) → ∀ (t61 : Nat) (s62 : st_S), t61 = gN s58 → s62 = sA s58 0 12 → gK s62 t = 32 + 9 ∧ ∀ s64 : st_S, s64 = sR s62 t 4 (some t61) → ∀ (t67 : Nat) (s68 : st_S), t67 = gN s64 → s68 = sA s64 0 12 → gK s68 t = 32 + 9 ∧ ∀ s70 : st_S, s70 = sR s68 t 5 (some t67) → Q s70 := h
  refine j_aload_nR hc 0 dX9_init_0 rfl rfl ?_
  refine j_obj hc ol_RX9_3 hh1 (Nat.le_of_ble_eq_true rfl) dX9_init_1 ?_
  refine j_aload_nR hc 0 dX9_init_4 rfl rfl ?_
  refine j_sipush hc dX9_init_5 (by decide) ?_
  refine j_newa (N := 400) hc (hM.at hc) nk_0 (by decide) (by decide) (by constructor <;> omega) dX9_init_8 (fun t37 s38 et37 es38 => ?_)
  replace h := h t37 s38 et37 es38
  obtain ⟨f39, h⟩ := h
  refine j_putR hc fl_RX9_9 rfl (Or.inr ⟨rfl, hnm, rfl⟩) (fun _ => Or.inr f39) (fun _ => Or.inl f39) dX9_init_10 (fun s40 es40 => ?_)
  replace h := h s40 es40
  have f41 := kI (Or.inr ⟨_, _, _, es40⟩) (kNew et37 es38)
  have f42 := kI (Or.inr ⟨_, _, _, es40⟩) f39
  refine j_aload_nR hc 0 dX9_init_13 rfl rfl ?_
  refine j_bipush hc dX9_init_14 (by decide) ?_
  refine j_newa (N := 12) hc (hM.at hc) nk_0 (by decide) (by decide) (by constructor <;> omega) dX9_init_16 (fun t43 s44 et43 es44 => ?_)
  replace h := h t43 s44 et43 es44
  obtain ⟨f45, h⟩ := h
  refine j_putR hc fl_RX9_15 rfl (Or.inr ⟨rfl, hnm, rfl⟩) (fun _ => Or.inr f45) (fun _ => Or.inl f45) dX9_init_18 (fun s46 es46 => ?_)
  replace h := h s46 es46
  have f47 := kI (Or.inr ⟨_, _, _, es46⟩) (kNew et43 es44)
  have f48 := kI (Or.inr ⟨_, _, _, es46⟩) f45
  refine j_aload_nR hc 0 dX9_init_21 rfl rfl ?_
  refine j_bipush hc dX9_init_22 (by decide) ?_
  refine j_newa (N := 12) hc (hM.at hc) nk_0 (by decide) (by decide) (by constructor <;> omega) dX9_init_24 (fun t49 s50 et49 es50 => ?_)
  replace h := h t49 s50 et49 es50
  obtain ⟨f51, h⟩ := h
  refine j_putR hc fl_RX9_18 rfl (Or.inr ⟨rfl, hnm, rfl⟩) (fun _ => Or.inr f51) (fun _ => Or.inl f51) dX9_init_26 (fun s52 es52 => ?_)
  replace h := h s52 es52
  have f53 := kI (Or.inr ⟨_, _, _, es52⟩) (kNew et49 es50)
  have f54 := kI (Or.inr ⟨_, _, _, es52⟩) f51
  refine j_aload_nR hc 0 dX9_init_29 rfl rfl ?_
  refine j_bipush hc dX9_init_30 (by decide) ?_
  refine j_newa (N := 12) hc (hM.at hc) nk_0 (by decide) (by decide) (by constructor <;> omega) dX9_init_32 (fun t55 s56 et55 es56 => ?_)
  replace h := h t55 s56 et55 es56
  obtain ⟨f57, h⟩ := h
  refine j_putR hc fl_RX9_21 rfl (Or.inr ⟨rfl, hnm, rfl⟩) (fun _ => Or.inr f57) (fun _ => Or.inl f57) dX9_init_34 (fun s58 es58 => ?_)
  replace h := h s58 es58
  have f59 := kI (Or.inr ⟨_, _, _, es58⟩) (kNew et55 es56)
  have f60 := kI (Or.inr ⟨_, _, _, es58⟩) f57
  refine j_aload_nR hc 0 dX9_init_37 rfl rfl ?_
  refine j_bipush hc dX9_init_38 (by decide) ?_
  refine j_newa (N := 12) hc (hM.at hc) nk_0 (by decide) (by decide) (by constructor <;> omega) dX9_init_40 (fun t61 s62 et61 es62 => ?_)
  replace h := h t61 s62 et61 es62
  obtain ⟨f63, h⟩ := h
  refine j_putR hc fl_RX9_24 rfl (Or.inr ⟨rfl, hnm, rfl⟩) (fun _ => Or.inr f63) (fun _ => Or.inl f63) dX9_init_42 (fun s64 es64 => ?_)
  replace h := h s64 es64
  have f65 := kI (Or.inr ⟨_, _, _, es64⟩) (kNew et61 es62)
  have f66 := kI (Or.inr ⟨_, _, _, es64⟩) f63
  refine j_aload_nR hc 0 dX9_init_45 rfl rfl ?_
  refine j_bipush hc dX9_init_46 (by decide) ?_
  refine j_newa (N := 12) hc (hM.at hc) nk_0 (by decide) (by decide) (by constructor <;> omega) dX9_init_48 (fun t67 s68 et67 es68 => ?_)
  replace h := h t67 s68 et67 es68
  obtain ⟨f69, h⟩ := h
  refine j_putR hc fl_RX9_27 rfl (Or.inr ⟨rfl, hnm, rfl⟩) (fun _ => Or.inr f69) (fun _ => Or.inl f69) dX9_init_50 (fun s70 es70 => ?_)
  replace h := h s70 es70
  have f71 := kI (Or.inr ⟨_, _, _, es70⟩) (kNew et67 es68)
  have f72 := kI (Or.inr ⟨_, _, _, es70⟩) f69
  refine j_wide (slots' := 460) (by omega) ?_
  exact j_vret hc hr h dX9_init_53
-- LitStrangers$Text.<init>(LLitStrangers$Text;)V
theorem dX9_init__0 : decode cX9_init_ 0 = .ok (.aload_n 0, 1) := by decide +kernel
theorem dX9_init__1 : decode cX9_init_ 1 = .ok (.invokespecial 3, 3) := by decide +kernel
theorem dX9_init__4 : decode cX9_init_ 4 = .ok (.aload_n 0, 1) := by decide +kernel
theorem dX9_init__5 : decode cX9_init_ 5 = .ok (.aload_n 1, 1) := by decide +kernel
theorem dX9_init__6 : decode cX9_init_ 6 = .ok (.getfield 30, 3) := by decide +kernel
theorem dX9_init__9 : decode cX9_init_ 9 = .ok (.putfield 30, 3) := by decide +kernel
theorem dX9_init__12 : decode cX9_init_ 12 = .ok (.aload_n 0, 1) := by decide +kernel
theorem dX9_init__13 : decode cX9_init_ 13 = .ok (.aload_n 1, 1) := by decide +kernel
theorem dX9_init__14 : decode cX9_init_ 14 = .ok (.getfield 34, 3) := by decide +kernel
theorem dX9_init__17 : decode cX9_init_ 17 = .ok (.putfield 34, 3) := by decide +kernel
theorem dX9_init__20 : decode cX9_init_ 20 = .ok (.aload_n 0, 1) := by decide +kernel
theorem dX9_init__21 : decode cX9_init_ 21 = .ok (.aload_n 1, 1) := by decide +kernel
theorem dX9_init__22 : decode cX9_init_ 22 = .ok (.getfield 9, 3) := by decide +kernel
theorem dX9_init__25 : decode cX9_init_ 25 = .ok (.aload_n 1, 1) := by decide +kernel
theorem dX9_init__26 : decode cX9_init_ 26 = .ok (.getfield 30, 3) := by decide +kernel
theorem dX9_init__29 : decode cX9_init_ 29 = .ok (.invokestatic 37, 3) := by decide +kernel
theorem dX9_init__32 : decode cX9_init_ 32 = .ok (.putfield 9, 3) := by decide +kernel
theorem dX9_init__35 : decode cX9_init_ 35 = .ok (.aload_n 0, 1) := by decide +kernel
theorem dX9_init__36 : decode cX9_init_ 36 = .ok (.aload_n 1, 1) := by decide +kernel
theorem dX9_init__37 : decode cX9_init_ 37 = .ok (.getfield 15, 3) := by decide +kernel
theorem dX9_init__40 : decode cX9_init_ 40 = .ok (.aload_n 1, 1) := by decide +kernel
theorem dX9_init__41 : decode cX9_init_ 41 = .ok (.getfield 34, 3) := by decide +kernel
theorem dX9_init__44 : decode cX9_init_ 44 = .ok (.invokestatic 37, 3) := by decide +kernel
theorem dX9_init__47 : decode cX9_init_ 47 = .ok (.putfield 15, 3) := by decide +kernel
theorem dX9_init__50 : decode cX9_init_ 50 = .ok (.aload_n 0, 1) := by decide +kernel
theorem dX9_init__51 : decode cX9_init_ 51 = .ok (.aload_n 1, 1) := by decide +kernel
theorem dX9_init__52 : decode cX9_init_ 52 = .ok (.getfield 18, 3) := by decide +kernel
theorem dX9_init__55 : decode cX9_init_ 55 = .ok (.aload_n 1, 1) := by decide +kernel
theorem dX9_init__56 : decode cX9_init_ 56 = .ok (.getfield 34, 3) := by decide +kernel
theorem dX9_init__59 : decode cX9_init_ 59 = .ok (.invokestatic 37, 3) := by decide +kernel
theorem dX9_init__62 : decode cX9_init_ 62 = .ok (.putfield 18, 3) := by decide +kernel
theorem dX9_init__65 : decode cX9_init_ 65 = .ok (.aload_n 0, 1) := by decide +kernel
theorem dX9_init__66 : decode cX9_init_ 66 = .ok (.aload_n 1, 1) := by decide +kernel
theorem dX9_init__67 : decode cX9_init_ 67 = .ok (.getfield 21, 3) := by decide +kernel
theorem dX9_init__70 : decode cX9_init_ 70 = .ok (.aload_n 1, 1) := by decide +kernel
theorem dX9_init__71 : decode cX9_init_ 71 = .ok (.getfield 34, 3) := by decide +kernel
theorem dX9_init__74 : decode cX9_init_ 74 = .ok (.invokestatic 37, 3) := by decide +kernel
theorem dX9_init__77 : decode cX9_init_ 77 = .ok (.putfield 21, 3) := by decide +kernel
theorem dX9_init__80 : decode cX9_init_ 80 = .ok (.aload_n 0, 1) := by decide +kernel
theorem dX9_init__81 : decode cX9_init_ 81 = .ok (.aload_n 1, 1) := by decide +kernel
theorem dX9_init__82 : decode cX9_init_ 82 = .ok (.getfield 24, 3) := by decide +kernel
theorem dX9_init__85 : decode cX9_init_ 85 = .ok (.aload_n 1, 1) := by decide +kernel
theorem dX9_init__86 : decode cX9_init_ 86 = .ok (.getfield 34, 3) := by decide +kernel
theorem dX9_init__89 : decode cX9_init_ 89 = .ok (.invokestatic 37, 3) := by decide +kernel
theorem dX9_init__92 : decode cX9_init_ 92 = .ok (.putfield 24, 3) := by decide +kernel
theorem dX9_init__95 : decode cX9_init_ 95 = .ok (.aload_n 0, 1) := by decide +kernel
theorem dX9_init__96 : decode cX9_init_ 96 = .ok (.aload_n 1, 1) := by decide +kernel
theorem dX9_init__97 : decode cX9_init_ 97 = .ok (.getfield 27, 3) := by decide +kernel
theorem dX9_init__100 : decode cX9_init_ 100 = .ok (.aload_n 1, 1) := by decide +kernel
theorem dX9_init__101 : decode cX9_init_ 101 = .ok (.getfield 34, 3) := by decide +kernel
theorem dX9_init__104 : decode cX9_init_ 104 = .ok (.invokestatic 37, 3) := by decide +kernel
theorem dX9_init__107 : decode cX9_init_ 107 = .ok (.putfield 27, 3) := by decide +kernel
theorem dX9_init__110 : decode cX9_init_ 110 = .ok (.return_, 1) := by decide +kernel
def wp_X9_init_ (t : Nat) (a1 : Nat) (σ : st_S) (Q : st_S → Prop) : Prop := gK σ a1 = 16 + 9 ∧ gK σ t = 32 + 9 ∧ ∀ s68 : st_S, s68 = sI σ t 6 (gI σ a1 6) → ∀ s72 : st_S, s72 = sI s68 t 7 (gI s68 a1 7) → (0 ≤ gI s72 a1 6 ∧ gI s72 a1 6 ≤ 400) ∧ wp_J7_copyOf_59c91 (a1 + 1) (gI s72 a1 6) s72 (fun t76 s77 => gK s77 t = 32 + 9 ∧ ∀ s80 : st_S, s80 = sR s77 t 0 (some t76) → gK s80 a1 = 16 + 9 ∧ (0 ≤ gI s80 a1 7 ∧ gI s80 a1 7 ≤ 12) ∧ wp_J7_copyOf_59c91 (a1 + 2) (gI s80 a1 7) s80 (fun t84 s85 => gK s85 t = 32 + 9 ∧ ∀ s88 : st_S, s88 = sR s85 t 1 (some t84) → gK s88 a1 = 16 + 9 ∧ (0 ≤ gI s88 a1 7 ∧ gI s88 a1 7 ≤ 12) ∧ wp_J7_copyOf_59c91 (a1 + 3) (gI s88 a1 7) s88 (fun t92 s93 => gK s93 t = 32 + 9 ∧ ∀ s96 : st_S, s96 = sR s93 t 2 (some t92) → gK s96 a1 = 16 + 9 ∧ (0 ≤ gI s96 a1 7 ∧ gI s96 a1 7 ≤ 12) ∧ wp_J7_copyOf_59c91 (a1 + 4) (gI s96 a1 7) s96 (fun t100 s101 => gK s101 t = 32 + 9 ∧ ∀ s104 : st_S, s104 = sR s101 t 3 (some t100) → gK s104 a1 = 16 + 9 ∧ (0 ≤ gI s104 a1 7 ∧ gI s104 a1 7 ≤ 12) ∧ wp_J7_copyOf_59c91 (a1 + 5) (gI s104 a1 7) s104 (fun t108 s109 => gK s109 t = 32 + 9 ∧ ∀ s112 : st_S, s112 = sR s109 t 4 (some t108) → gK s112 a1 = 16 + 9 ∧ (0 ≤ gI s112 a1 7 ∧ gI s112 a1 7 ≤ 12) ∧ wp_J7_copyOf_59c91 (a1 + 6) (gI s112 a1 7) s112 (fun t116 s117 => gK s117 t = 32 + 9 ∧ ∀ s120 : st_S, s120 = sR s117 t 5 (some t116) → Q s120))))))
set_option maxRecDepth 20000 in
set_option maxHeartbeats 8000000 in
theorem c_X9_init_ {l : Launch} {E : ev_E} (hE : Eok E) {σ : st_S} (hM : MkE E (gN σ)) {t : Nat} {a1 : Nat} {Q : st_S → Prop} (h : wp_X9_init_ t a1 σ Q) : cM l yX9_init_ cX9_init_ 2 none E 2 6 460 [vR E t, vR E a1] σ (qV E (gN σ + 6) Q) := by
  refine cM_of (lv := [(0, vR E t), (1, vR E a1)]) (by decide) hE (Nat.le_of_ble_eq_true rfl) rfl ?_
  intro X hX hc hcl hsl hr hnm _
  subst hX
  have hh : 2 ≤ 2 := Nat.le_refl _
  have hh1 : 1 ≤ 2 := by omega
  replace h : gK σ a1 = 16 + 9 ∧ gK σ t = 32 + 9 ∧ ∀ s68 : st_S, s68 = sI σ t 6 (gI σ a1 6) → ∀ s72 : st_S, s72 = sI s68 t 7 (gI s68 a1 7) → (0 ≤ gI s72 a1 6 ∧ gI s72 a1 6 ≤ 400) ∧ wp_J7_copyOf_59c91 (a1 + 1) (gI s72 a1 6) s72 (fun t76 s77 => gK s77 t = 32 + 9 ∧ ∀ s80 : st_S, s80 = sR s77 t 0 (some t76) → gK s80 a1 = 16 + 9 ∧ (0 ≤ gI s80 a1 7 ∧ gI s80 a1 7 ≤ 12) ∧ wp_J7_copyOf_59c91 (a1 + 2) (gI s80 a1 7) s80 (fun t84 s85 => gK s85 t = 32 + 9 ∧ ∀ s88 : st_S, s88 = sR s85 t 1 (some t84) → gK s88 a1 = 16 + 9 ∧ (0 ≤ gI s88 a1 7 ∧ gI s88 a1 7 ≤ 12) ∧ wp_J7_copyOf_59c91 (a1 + 3) (gI s88 a1 7) s88 (fun t92 s93 => gK s93 t = 32 + 9 ∧ ∀ s96 : st_S, s96 = sR s93 t 2 (some t92) → gK s96 a1 = 16 + 9 ∧ (0 ≤ gI s96 a1 7 ∧ gI s96 a1 7 ≤ 12) ∧ wp_J7_copyOf_59c91 (a1 + 4) (gI s96 a1 7) s96 (fun t100 s101 => gK s101 t = 32 + 9 ∧ ∀ s104 : st_S, s104 = sR s101 t 3 (some t100) → gK s104 a1 = 16 + 9 ∧ (0 ≤ gI s104 a1 7 ∧ gI s104 a1 7 ≤ 12) ∧ wp_J7_copyOf_59c91 (a1 + 5) (gI s104 a1 7) s104 (fun t108 s109 => gK s109 t = 32 + 9 ∧ ∀ s112 : st_S, s112 = sR s109 t 4 (some t108) → gK s112 a1 = 16 + 9 ∧ (0 ≤ gI s112 a1 7 ∧ gI s112 a1 7 ≤ 12) ∧ wp_J7_copyOf_59c91 (a1 + 6) (gI s112 a1 7) s112 (fun t116 s117 => gK s117 t = 32 + 9 ∧ ∀ s120 : st_S, s120 = sR s117 t 5 (some t116) → Q s120)))))) := h
  refine j_aload_nR hc 0 dX9_init__0 rfl rfl ?_
  refine j_obj hc ol_RX9_3 hh1 (Nat.le_of_ble_eq_true rfl) dX9_init__1 ?_
  refine j_aload_nR hc 0 dX9_init__4 rfl rfl ?_
  refine j_aload_nR hc 1 dX9_init__5 rfl rfl ?_
  obtain ⟨f65, h⟩ := h
  refine j_getI hc fl_RX9_30 (Or.inl rfl) (fun _ => Or.inl f65) dX9_init__6 (fun cn66 => ?_)
  obtain ⟨f67, h⟩ := h
  refine j_putI hc fl_RX9_30 rfl rfl (fun _ => Or.inr f67) cn66 dX9_init__9 (fun s68 es68 => ?_)
  replace h := h s68 es68
  have f69 := kI (Or.inl ⟨_, _, _, es68⟩) f65
  have f70 := kI (Or.inl ⟨_, _, _, es68⟩) f67
  refine j_aload_nR hc 0 dX9_init__12 rfl rfl ?_
  refine j_aload_nR hc 1 dX9_init__13 rfl rfl ?_
  refine j_getI hc fl_RX9_34 (Or.inl rfl) (fun _ => Or.inl f69) dX9_init__14 (fun cn71 => ?_)
  refine j_putI hc fl_RX9_34 rfl rfl (fun _ => Or.inr f70) cn71 dX9_init__17 (fun s72 es72 => ?_)
  replace h := h s72 es72
  have f73 := kI (Or.inl ⟨_, _, _, es72⟩) f69
  have f74 := kI (Or.inl ⟨_, _, _, es72⟩) f70
  refine j_aload_nR hc 0 dX9_init__20 rfl rfl ?_
  refine j_aload_nR hc 1 dX9_init__21 rfl rfl ?_
  refine j_getR (c' := (a1 + 1)) hc fl_RX9_9 rfl rfl (fun _ => f73) dX9_init__22 ?_
  refine j_aload_nR hc 1 dX9_init__25 rfl rfl ?_
  refine j_getI hc fl_RX9_30 (Or.inl rfl) (fun _ => Or.inl f73) dX9_init__26 (fun cn75 => ?_)
  obtain ⟨b78, h⟩ := h
  refine j_csR (mc := 1) (ms := (Int.toNat (gI s72 a1 6))) (As := [vR E (a1 + 1), vI (gI s72 a1 6)]) hc ml_RX9_37 mv_J7_copyOf_59c91 (fun hn0 => c_J7_copyOf_59c91 (cx_E hc) (hM.up hn0) cn75 h) rfl (by omega) (by decide) (by constructor <;> omega) (Nat.le_of_ble_eq_true rfl) rfl dX9_init__29 (fun t76 s77 h => ?_)
  obtain ⟨f79, h⟩ := h
  refine j_putR hc fl_RX9_9 rfl (Or.inr ⟨rfl, hnm, rfl⟩) (fun _ => Or.inr f79) (fun _ => Or.inl f79) dX9_init__32 (fun s80 es80 => ?_)
  replace h := h s80 es80
  have f81 := kI (Or.inr ⟨_, _, _, es80⟩) f79
  refine j_aload_nR hc 0 dX9_init__35 rfl rfl ?_
  refine j_aload_nR hc 1 dX9_init__36 rfl rfl ?_
  obtain ⟨f82, h⟩ := h
  refine j_getR (c' := (a1 + 2)) hc fl_RX9_15 rfl rfl (fun _ => f82) dX9_init__37 ?_
  refine j_aload_nR hc 1 dX9_init__40 rfl rfl ?_
  refine j_getI hc fl_RX9_34 (Or.inl rfl) (fun _ => Or.inl f82) dX9_init__41 (fun cn83 => ?_)
  obtain ⟨b86, h⟩ := h
  refine j_csR (mc := 1) (ms := (Int.toNat (gI s80 a1 7))) (As := [vR E (a1 + 2), vI (gI s80 a1 7)]) hc ml_RX9_37 mv_J7_copyOf_59c91 (fun hn0 => c_J7_copyOf_59c91 (cx_E hc) (hM.up hn0) cn83 h) rfl (by omega) (by decide) (by constructor <;> omega) (Nat.le_of_ble_eq_true rfl) rfl dX9_init__44 (fun t84 s85 h => ?_)
  obtain ⟨f87, h⟩ := h
  refine j_putR hc fl_RX9_15 rfl (Or.inr ⟨rfl, hnm, rfl⟩) (fun _ => Or.inr f87) (fun _ => Or.inl f87) dX9_init__47 (fun s88 es88 => ?_)
  replace h := h s88 es88
  have f89 := kI (Or.inr ⟨_, _, _, es88⟩) f87
  refine j_aload_nR hc 0 dX9_init__50 rfl rfl ?_
  refine j_aload_nR hc 1 dX9_init__51 rfl rfl ?_
  obtain ⟨f90, h⟩ := h
  refine j_getR (c' := (a1 + 3)) hc fl_RX9_18 rfl rfl (fun _ => f90) dX9_init__52 ?_
  refine j_aload_nR hc 1 dX9_init__55 rfl rfl ?_
  refine j_getI hc fl_RX9_34 (Or.inl rfl) (fun _ => Or.inl f90) dX9_init__56 (fun cn91 => ?_)
  obtain ⟨b94, h⟩ := h
  refine j_csR (mc := 1) (ms := (Int.toNat (gI s88 a1 7))) (As := [vR E (a1 + 3), vI (gI s88 a1 7)]) hc ml_RX9_37 mv_J7_copyOf_59c91 (fun hn0 => c_J7_copyOf_59c91 (cx_E hc) (hM.up hn0) cn91 h) rfl (by omega) (by decide) (by constructor <;> omega) (Nat.le_of_ble_eq_true rfl) rfl dX9_init__59 (fun t92 s93 h => ?_)
  obtain ⟨f95, h⟩ := h
  refine j_putR hc fl_RX9_18 rfl (Or.inr ⟨rfl, hnm, rfl⟩) (fun _ => Or.inr f95) (fun _ => Or.inl f95) dX9_init__62 (fun s96 es96 => ?_)
  replace h := h s96 es96
  have f97 := kI (Or.inr ⟨_, _, _, es96⟩) f95
  refine j_aload_nR hc 0 dX9_init__65 rfl rfl ?_
  refine j_aload_nR hc 1 dX9_init__66 rfl rfl ?_
  obtain ⟨f98, h⟩ := h
  refine j_getR (c' := (a1 + 4)) hc fl_RX9_21 rfl rfl (fun _ => f98) dX9_init__67 ?_
  refine j_aload_nR hc 1 dX9_init__70 rfl rfl ?_
  refine j_getI hc fl_RX9_34 (Or.inl rfl) (fun _ => Or.inl f98) dX9_init__71 (fun cn99 => ?_)
  obtain ⟨b102, h⟩ := h
  refine j_csR (mc := 1) (ms := (Int.toNat (gI s96 a1 7))) (As := [vR E (a1 + 4), vI (gI s96 a1 7)]) hc ml_RX9_37 mv_J7_copyOf_59c91 (fun hn0 => c_J7_copyOf_59c91 (cx_E hc) (hM.up hn0) cn99 h) rfl (by omega) (by decide) (by constructor <;> omega) (Nat.le_of_ble_eq_true rfl) rfl dX9_init__74 (fun t100 s101 h => ?_)
  obtain ⟨f103, h⟩ := h
  refine j_putR hc fl_RX9_21 rfl (Or.inr ⟨rfl, hnm, rfl⟩) (fun _ => Or.inr f103) (fun _ => Or.inl f103) dX9_init__77 (fun s104 es104 => ?_)
  replace h := h s104 es104
  have f105 := kI (Or.inr ⟨_, _, _, es104⟩) f103
  refine j_aload_nR hc 0 dX9_init__80 rfl rfl ?_
  refine j_aload_nR hc 1 dX9_init__81 rfl rfl ?_
  obtain ⟨f106, h⟩ := h
  refine j_getR (c' := (a1 + 5)) hc fl_RX9_24 rfl rfl (fun _ => f106) dX9_init__82 ?_
  refine j_aload_nR hc 1 dX9_init__85 rfl rfl ?_
  refine j_getI hc fl_RX9_34 (Or.inl rfl) (fun _ => Or.inl f106) dX9_init__86 (fun cn107 => ?_)
  obtain ⟨b110, h⟩ := h
  refine j_csR (mc := 1) (ms := (Int.toNat (gI s104 a1 7))) (As := [vR E (a1 + 5), vI (gI s104 a1 7)]) hc ml_RX9_37 mv_J7_copyOf_59c91 (fun hn0 => c_J7_copyOf_59c91 (cx_E hc) (hM.up hn0) cn107 h) rfl (by omega) (by decide) (by constructor <;> omega) (Nat.le_of_ble_eq_true rfl) rfl dX9_init__89 (fun t108 s109 h => ?_)
  obtain ⟨f111, h⟩ := h
  refine j_putR hc fl_RX9_24 rfl (Or.inr ⟨rfl, hnm, rfl⟩) (fun _ => Or.inr f111) (fun _ => Or.inl f111) dX9_init__92 (fun s112 es112 => ?_)
  replace h := h s112 es112
  have f113 := kI (Or.inr ⟨_, _, _, es112⟩) f111
  refine j_aload_nR hc 0 dX9_init__95 rfl rfl ?_
  refine j_aload_nR hc 1 dX9_init__96 rfl rfl ?_
  obtain ⟨f114, h⟩ := h
  refine j_getR (c' := (a1 + 6)) hc fl_RX9_27 rfl rfl (fun _ => f114) dX9_init__97 ?_
  refine j_aload_nR hc 1 dX9_init__100 rfl rfl ?_
  refine j_getI hc fl_RX9_34 (Or.inl rfl) (fun _ => Or.inl f114) dX9_init__101 (fun cn115 => ?_)
  obtain ⟨b118, h⟩ := h
  refine j_csR (mc := 1) (ms := (Int.toNat (gI s112 a1 7))) (As := [vR E (a1 + 6), vI (gI s112 a1 7)]) hc ml_RX9_37 mv_J7_copyOf_59c91 (fun hn0 => c_J7_copyOf_59c91 (cx_E hc) (hM.up hn0) cn115 h) rfl (by omega) (by decide) (by constructor <;> omega) (Nat.le_of_ble_eq_true rfl) rfl dX9_init__104 (fun t116 s117 h => ?_)
  obtain ⟨f119, h⟩ := h
  refine j_putR hc fl_RX9_27 rfl (Or.inr ⟨rfl, hnm, rfl⟩) (fun _ => Or.inr f119) (fun _ => Or.inl f119) dX9_init__107 (fun s120 es120 => ?_)
  replace h := h s120 es120
  have f121 := kI (Or.inr ⟨_, _, _, es120⟩) f119
  refine j_wide (slots' := 460) (by omega) ?_
  exact j_vret hc hr h dX9_init__110
-- LitStrangers$Reader.<init>()V
theorem dX6_init_0 : decode cX6_init 0 = .ok (.aload_n 0, 1) := by decide +kernel
theorem dX6_init_1 : decode cX6_init 1 = .ok (.invokespecial 3, 3) := by decide +kernel
theorem dX6_init_4 : decode cX6_init 4 = .ok (.aload_n 0, 1) := by decide +kernel
theorem dX6_init_5 : decode cX6_init 5 = .ok (.sipush 400, 3) := by decide +kernel
theorem dX6_init_8 : decode cX6_init 8 = .ok (.newarray .int, 2) := by decide +kernel
theorem dX6_init_10 : decode cX6_init 10 = .ok (.putfield 9, 3) := by decide +kernel
theorem dX6_init_13 : decode cX6_init 13 = .ok (.aload_n 0, 1) := by decide +kernel
theorem dX6_init_14 : decode cX6_init 14 = .ok (.new 15, 3) := by decide +kernel
theorem dX6_init_17 : decode cX6_init 17 = .ok (.dup, 1) := by decide +kernel
theorem dX6_init_18 : decode cX6_init 18 = .ok (.invokespecial 17, 3) := by decide +kernel
theorem dX6_init_21 : decode cX6_init 21 = .ok (.putfield 18, 3) := by decide +kernel
theorem dX6_init_24 : decode cX6_init 24 = .ok (.aload_n 0, 1) := by decide +kernel
theorem dX6_init_25 : decode cX6_init 25 = .ok (.iconst (-1), 1) := by decide +kernel
theorem dX6_init_26 : decode cX6_init 26 = .ok (.putfield 22, 3) := by decide +kernel
theorem dX6_init_29 : decode cX6_init 29 = .ok (.return_, 1) := by decide +kernel
def wp_X6_init (t : Nat) (σ : st_S) (Q : st_S → Prop) : Prop := ∀ (t18 : Nat) (s19 : st_S), t18 = gN σ → s19 = sA σ 0 400 → gK s19 t = 32 + 6 ∧ ∀ s21 : st_S, s21 = sR s19 t 0 (some t18) → ∀ (t24 : Nat) (s25 : st_S), t24 = gN s21 → s25 = sA s21 (32 + 9) 0 → wp_X9_init t24 s25 (fun s26 => Fin1 s26 t24 9 ∧ skNo 0 t24 ∧ ∀ s27 : st_S, s27 = sK s26 t24 (16 + 9) → gK s27 t = 32 + 6 ∧ ∀ s30 : st_S, s30 = sR s27 t 2 (some t24) → ∀ s32 : st_S, s32 = sI s30 t 3 (-1) → Q s32)
set_option maxRecDepth 20000 in
set_option maxHeartbeats 8000000 in
theorem c_X6_init {l : Launch} {E : ev_E} (hE : Eok E) (hm : eM E = 0) {σ : st_S} (hM : MkE E (gN σ)) {t : Nat} {Q : st_S → Prop} (h : wp_X6_init t σ Q) : cM l yX6_init cX6_init 1 none E 2 8 868 [vR E t] σ (qV E (gN σ + 8) Q) := by
  refine cM_of (lv := [(0, vR E t)]) (by decide) hE (Nat.le_of_ble_eq_true rfl) rfl ?_
  intro X hX hc hcl hsl hr hnm _
  subst hX
  have hh : 2 ≤ 2 := Nat.le_refl _
  have hh1 : 1 ≤ 2 := by omega
  replace h : ∀ (t18 : Nat) (s19 : st_S), t18 = gN σ → s19 = sA σ 0 400 → gK s19 t = 32 + 6 ∧ ∀ s21 : st_S, s21 = sR s19 t 0 (some t18) → ∀ (t24 : Nat) (s25 : st_S), t24 = gN s21 → s25 = sA s21 (32 + 9) 0 → wp_X9_init t24 s25 (fun s26 => Fin1 s26 t24 9 ∧ skNo 0 t24 ∧ ∀ s27 : st_S, s27 = sK s26 t24 (16 + 9) → gK s27 t = 32 + 6 ∧ ∀ s30 : st_S, s30 = sR s27 t 2 (some t24) → ∀ s32 : st_S, s32 = sI s30 t 3 (-1) → Q s32) := h
  refine j_aload_nR hc 0 dX6_init_0 rfl rfl ?_
  refine j_obj hc ol_RX6_3 hh1 (Nat.le_of_ble_eq_true rfl) dX6_init_1 ?_
  refine j_aload_nR hc 0 dX6_init_4 rfl rfl ?_
  refine j_sipush hc dX6_init_5 (by decide) ?_
  refine j_newa (N := 400) hc (hM.at hc) nk_0 (by decide) (by decide) (by constructor <;> omega) dX6_init_8 (fun t18 s19 et18 es19 => ?_)
  replace h := h t18 s19 et18 es19
  obtain ⟨f20, h⟩ := h
  refine j_putR hc fl_RX6_9 rfl (Or.inr ⟨rfl, hnm, rfl⟩) (fun _ => Or.inr f20) (fun _ => Or.inl f20) dX6_init_10 (fun s21 es21 => ?_)
  replace h := h s21 es21
  have f22 := kI (Or.inr ⟨_, _, _, es21⟩) (kNew et18 es19)
  have f23 := kI (Or.inr ⟨_, _, _, es21⟩) f20
  refine j_aload_nR hc 0 dX6_init_13 rfl rfl ?_
  refine j_newN (N := 8) hc (hM.at hc) nw_RX6_15 rfl (by constructor <;> omega) dX6_init_14 (fun t24 s25 et24 es25 => ?_)
  replace h := h t24 s25 et24 es25
  refine j_dup hc dX6_init_17 rfl ?_
  refine j_ini (mc := 6) (ms := 460) (As := []) hc il_RX6_17 (fun hn0 => c_X9_init (cx_E hc) (hM.up hn0) h) rfl (by omega) (by decide) (by constructor <;> omega) (Nat.le_of_ble_eq_true rfl) rfl dX6_init_18 (fun s26 h => ?_)
  refine j_fin (by decide) hm h.2.1 h.1 (fun s27 es27 => ?_)
  replace h := h.2.2 s27 es27
  obtain ⟨f29, h⟩ := h
  refine j_putR hc fl_RX6_18 rfl (Or.inr ⟨rfl, hnm, rfl⟩) (fun _ => Or.inr f29) (fun _ => Or.inl f29) dX6_init_21 (fun s30 es30 => ?_)
  replace h := h s30 es30
  have f31 := kI (Or.inr ⟨_, _, _, es30⟩) f29
  refine j_aload_nR hc 0 dX6_init_24 rfl rfl ?_
  refine j_iconst hc dX6_init_25 ?_
  refine j_putI hc fl_RX6_22 rfl rfl (fun _ => Or.inr f31) (wlit (-1) (by decide)) dX6_init_26 (fun s32 es32 => ?_)
  replace h := h s32 es32
  have f33 := kI (Or.inl ⟨_, _, _, es32⟩) f31
  refine j_wide (slots' := 868) (by omega) ?_
  exact j_vret hc hr h dX6_init_29
-- LitStrangers.law()I
theorem dX10_law_0 : decode cX10_law 0 = .ok (.aload_n 0, 1) := by decide +kernel
theorem dX10_law_1 : decode cX10_law 1 = .ok (.getfield 56, 3) := by decide +kernel
theorem dX10_law_4 : decode cX10_law 4 = .ok (.getfield 168, 3) := by decide +kernel
theorem dX10_law_7 : decode cX10_law 7 = .ok (.bipush 6, 2) := by decide +kernel
theorem dX10_law_9 : decode cX10_law 9 = .ok (.if_icmp .lt 18, 3) := by decide +kernel
theorem dX10_law_12 : decode cX10_law 12 = .ok (.aload_n 0, 1) := by decide +kernel
theorem dX10_law_13 : decode cX10_law 13 = .ok (.getfield 23, 3) := by decide +kernel
theorem dX10_law_16 : decode cX10_law 16 = .ok (.iconst 0, 1) := by decide +kernel
theorem dX10_law_17 : decode cX10_law 17 = .ok (.putfield 152, 3) := by decide +kernel
theorem dX10_law_20 : decode cX10_law 20 = .ok (.aload_n 0, 1) := by decide +kernel
theorem dX10_law_21 : decode cX10_law 21 = .ok (.bipush (-5), 2) := by decide +kernel
theorem dX10_law_23 : decode cX10_law 23 = .ok (.invokevirtual 96, 3) := by decide +kernel
theorem dX10_law_26 : decode cX10_law 26 = .ok (.ireturn, 1) := by decide +kernel
theorem dX10_law_27 : decode cX10_law 27 = .ok (.aload_n 0, 1) := by decide +kernel
theorem dX10_law_28 : decode cX10_law 28 = .ok (.getfield 23, 3) := by decide +kernel
theorem dX10_law_31 : decode cX10_law 31 = .ok (.iconst 0, 1) := by decide +kernel
theorem dX10_law_32 : decode cX10_law 32 = .ok (.invokevirtual 171, 3) := by decide +kernel
theorem dX10_law_35 : decode cX10_law 35 = .ok (.istore_n 1, 1) := by decide +kernel
theorem dX10_law_36 : decode cX10_law 36 = .ok (.aload_n 0, 1) := by decide +kernel
theorem dX10_law_37 : decode cX10_law 37 = .ok (.getfield 23, 3) := by decide +kernel
theorem dX10_law_40 : decode cX10_law 40 = .ok (.iconst 0, 1) := by decide +kernel
theorem dX10_law_41 : decode cX10_law 41 = .ok (.putfield 152, 3) := by decide +kernel
theorem dX10_law_44 : decode cX10_law 44 = .ok (.iload_n 1, 1) := by decide +kernel
theorem dX10_law_45 : decode cX10_law 45 = .ok (.ifCond .ne 10, 3) := by decide +kernel
theorem dX10_law_48 : decode cX10_law 48 = .ok (.aload_n 0, 1) := by decide +kernel
theorem dX10_law_49 : decode cX10_law 49 = .ok (.bipush (-6), 2) := by decide +kernel
theorem dX10_law_51 : decode cX10_law 51 = .ok (.invokevirtual 96, 3) := by decide +kernel
theorem dX10_law_54 : decode cX10_law 54 = .ok (.ireturn, 1) := by decide +kernel
theorem dX10_law_55 : decode cX10_law 55 = .ok (.aload_n 0, 1) := by decide +kernel
theorem dX10_law_56 : decode cX10_law 56 = .ok (.getfield 56, 3) := by decide +kernel
theorem dX10_law_59 : decode cX10_law 59 = .ok (.getfield 175, 3) := by decide +kernel
theorem dX10_law_62 : decode cX10_law 62 = .ok (.aload_n 0, 1) := by decide +kernel
theorem dX10_law_63 : decode cX10_law 63 = .ok (.getfield 56, 3) := by decide +kernel
theorem dX10_law_66 : decode cX10_law 66 = .ok (.getfield 168, 3) := by decide +kernel
theorem dX10_law_69 : decode cX10_law 69 = .ok (.new 179, 3) := by decide +kernel
theorem dX10_law_72 : decode cX10_law 72 = .ok (.dup, 1) := by decide +kernel
theorem dX10_law_73 : decode cX10_law 73 = .ok (.aload_n 0, 1) := by decide +kernel
theorem dX10_law_74 : decode cX10_law 74 = .ok (.getfield 23, 3) := by decide +kernel
theorem dX10_law_77 : decode cX10_law 77 = .ok (.getfield 181, 3) := by decide +kernel
theorem dX10_law_80 : decode cX10_law 80 = .ok (.invokespecial 185, 3) := by decide +kernel
theorem dX10_law_83 : decode cX10_law 83 = .ok (.aastore, 1) := by decide +kernel
theorem dX10_law_84 : decode cX10_law 84 = .ok (.aload_n 0, 1) := by decide +kernel
theorem dX10_law_85 : decode cX10_law 85 = .ok (.getfield 56, 3) := by decide +kernel
theorem dX10_law_88 : decode cX10_law 88 = .ok (.dup, 1) := by decide +kernel
theorem dX10_law_89 : decode cX10_law 89 = .ok (.getfield 168, 3) := by decide +kernel
theorem dX10_law_92 : decode cX10_law 92 = .ok (.iconst 1, 1) := by decide +kernel
theorem dX10_law_93 : decode cX10_law 93 = .ok (.iadd, 1) := by decide +kernel
theorem dX10_law_94 : decode cX10_law 94 = .ok (.putfield 168, 3) := by decide +kernel
theorem dX10_law_97 : decode cX10_law 97 = .ok (.aload_n 0, 1) := by decide +kernel
theorem dX10_law_98 : decode cX10_law 98 = .ok (.aload_n 0, 1) := by decide +kernel
theorem dX10_law_99 : decode cX10_law 99 = .ok (.getfield 56, 3) := by decide +kernel
theorem dX10_law_102 : decode cX10_law 102 = .ok (.getfield 168, 3) := by decide +kernel
theorem dX10_law_105 : decode cX10_law 105 = .ok (.iconst 1, 1) := by decide +kernel
theorem dX10_law_106 : decode cX10_law 106 = .ok (.isub, 1) := by decide +kernel
theorem dX10_law_107 : decode cX10_law 107 = .ok (.invokevirtual 111, 3) := by decide +kernel
theorem dX10_law_110 : decode cX10_law 110 = .ok (.ireturn, 1) := by decide +kernel
def wp_X10_law  (σ : st_S) (Q : Int → st_S → Prop) : Prop := (gI σ 25 10 < 6 → wp_X6_read 0 σ (fun r30 s31 => ∀ s32 : st_S, s32 = sI s31 12 1 0 → (¬ r30 = 0 → ∀ (t34 : Nat) (s35 : st_S), t34 = gN s32 → s35 = sA s32 (32 + 9) 0 → wp_X9_init_ t34 14 s35 (fun s36 => Fin1 s36 t34 9 ∧ skNo 1 t34 ∧ ∀ s37 : st_S, s37 = sK s36 t34 (16 + 9) → ix (gI s32 25 10) 6 ∧ gK s37 t34 = 16 + 9 ∧ ∀ s40 : st_S, s40 = sR s37 34 (Int.toNat (gI s32 25 10)) (some t34) → ∀ x44 : Int, x44 = wr (gI s40 25 10 + 1) → ∀ s45 : st_S, s45 = sI s40 25 10 x44 → wp_X10_accept (wr (gI s45 25 10 - 1)) s45 (fun r48 s49 => Q r48 s49))) ∧ (r30 = 0 → wp_X10_refuse (-6) s32 (fun r50 s51 => Q r50 s51)))) ∧ (¬ gI σ 25 10 < 6 → ∀ s53 : st_S, s53 = sI σ 12 1 0 → wp_X10_refuse (-5) s53 (fun r54 s55 => Q r54 s55))
set_option maxRecDepth 20000 in
set_option maxHeartbeats 8000000 in
theorem c_X10_law {l : Launch} {E : ev_E} (hE : Eok E) (hm : eM E = 1) {σ : st_S} (hM : MkE E (gN σ)) {Q : Int → st_S → Prop} (h : wp_X10_law σ Q) : cM l yX10_law cX10_law 2 (some .int) E 91 7 468 [vR E 0] σ (qX E (gN σ) 7 Q) := by
  refine cM_of (lv := [(0, vR E 0)]) (by decide) hE (Nat.le_of_ble_eq_true rfl) rfl ?_
  intro X hX hc hcl hsl hr hnm _
  subst hX
  have hh : 91 ≤ 91 := Nat.le_refl _
  have hh1 : 1 ≤ 91 := by omega
  replace h : (gI σ 25 10 < 6 → wp_X6_read 0 σ (fun r30 s31 => ∀ s32 : st_S, s32 = sI s31 12 1 0 → (¬ r30 = 0 → ∀ (t34 : Nat) (s35 : st_S), t34 = gN s32 → s35 = sA s32 (32 + 9) 0 → wp_X9_init_ t34 14 s35 (fun s36 => Fin1 s36 t34 9 ∧ skNo 1 t34 ∧ ∀ s37 : st_S, s37 = sK s36 t34 (16 + 9) → ix (gI s32 25 10) 6 ∧ gK s37 t34 = 16 + 9 ∧ ∀ s40 : st_S, s40 = sR s37 34 (Int.toNat (gI s32 25 10)) (some t34) → ∀ x44 : Int, x44 = wr (gI s40 25 10 + 1) → ∀ s45 : st_S, s45 = sI s40 25 10 x44 → wp_X10_accept (wr (gI s45 25 10 - 1)) s45 (fun r48 s49 => Q r48 s49))) ∧ (r30 = 0 → wp_X10_refuse (-6) s32 (fun r50 s51 => Q r50 s51)))) ∧ (¬ gI σ 25 10 < 6 → ∀ s53 : st_S, s53 = sI σ 12 1 0 → wp_X10_refuse (-5) s53 (fun r54 s55 => Q r54 s55)) := h
  refine j_aload_nR hc 0 dX10_law_0 rfl rfl ?_
  refine j_getR (c' := 25) hc fl_RX10_56 rfl rfl (fun hv => (sv_k hv hm rfl)) dX10_law_1 ?_
  refine j_getI hc fl_RX10_168 (Or.inl rfl) (fun hv => Or.inl (sv_k hv hm rfl)) dX10_law_4 (fun cn29 => ?_)
  refine j_bipush hc dX10_law_7 (by decide) ?_
  refine j_ic_lt hc cn29 (wlit 6 (by decide)) (tgt := 27) dX10_law_9 (by decide) (fun q56 => ?_) (fun q56 => ?_)
  · replace h := h.1 q56
    refine j_aload_nR hc 0 dX10_law_27 rfl rfl ?_
    refine j_getR (c' := 12) hc fl_RX10_23 rfl rfl (fun hv => (sv_k hv hm rfl)) dX10_law_28 ?_
    refine j_iconst hc dX10_law_31 ?_
    refine j_vI hc (k := 6) (by decide) (fun hv => Or.inl (sv_k hv hm rfl)) ml_RX10_171 mv_X6_read (As := [vI 0]) (c_X6_read (cx_E hc) hm (wlit 0 (by decide)) h) rfl (by omega) (by decide) (by constructor <;> omega) (Nat.le_of_ble_eq_true rfl) rfl dX10_law_32 (fun r30 s31 cr30 h => ?_)
    refine j_istore_n (lv' := [(1, vI r30), (0, vR E 0)]) hc dX10_law_35 rfl (by decide) rfl ?_
    refine j_aload_nR hc 1 dX10_law_36 rfl rfl ?_
    refine j_getR (c' := 12) hc fl_RX10_23 rfl rfl (fun hv => (sv_k hv hm rfl)) dX10_law_37 ?_
    refine j_iconst hc dX10_law_40 ?_
    refine j_putI hc fl_RX10_152 rfl rfl (fun hv => Or.inl (sv_k hv hm rfl)) (wlit 0 (by decide)) dX10_law_41 (fun s32 es32 => ?_)
    replace h := h s32 es32
    refine j_iload_n hc 0 dX10_law_44 rfl rfl ?_
    refine j_if_ne hc cr30 (tgt := 55) dX10_law_45 (by decide) (fun q52 => ?_) (fun q52 => ?_)
    · replace h := h.1 q52
      refine j_aload_nR hc 1 dX10_law_55 rfl rfl ?_
      refine j_getR (c' := 25) hc fl_RX10_56 rfl rfl (fun hv => (sv_k hv hm rfl)) dX10_law_56 ?_
      refine j_getR (c' := 34) hc fl_RX10_175 rfl rfl (fun hv => (sv_k hv hm rfl)) dX10_law_59 ?_
      refine j_aload_nR hc 1 dX10_law_62 rfl rfl ?_
      refine j_getR (c' := 25) hc fl_RX10_56 rfl rfl (fun hv => (sv_k hv hm rfl)) dX10_law_63 ?_
      refine j_getI hc fl_RX10_168 (Or.inl rfl) (fun hv => Or.inl (sv_k hv hm rfl)) dX10_law_66 (fun cn33 => ?_)
      refine j_newN (N := 8) hc (hM.at hc) nw_RX10_179 rfl (by constructor <;> omega) dX10_law_69 (fun t34 s35 et34 es35 => ?_)
      replace h := h t34 s35 et34 es35
      refine j_dup hc dX10_law_72 rfl ?_
      refine j_aload_nR hc 1 dX10_law_73 rfl rfl ?_
      refine j_getR (c' := 12) hc fl_RX10_23 rfl rfl (fun hv => (sv_k hv hm rfl)) dX10_law_74 ?_
      refine j_getR (c' := 14) hc fl_RX10_181 rfl rfl (fun hv => (sv_k hv hm rfl)) dX10_law_77 ?_
      refine j_ini (mc := 6) (ms := 460) (As := [vR E 14]) hc il_RX10_185 (fun hn0 => c_X9_init_ (cx_E hc) (hM.up hn0) h) rfl (by omega) (by decide) (by constructor <;> omega) (Nat.le_of_ble_eq_true rfl) rfl dX10_law_80 (fun s36 h => ?_)
      refine j_fin (by decide) hm h.2.1 h.1 (fun s37 es37 => ?_)
      replace h := h.2.2 s37 es37
      obtain ⟨b39, h⟩ := h
      obtain ⟨f41, h⟩ := h
      refine j_aast (jn := (Int.toNat (gI s32 25 10))) hc 4 9 (by decide) (fun hv => sv_kl hv hm rfl) (fun _ => Or.inl f41) cn33 b39 rfl dX10_law_83 (fun s40 es40 => ?_)
      replace h := h s40 es40
      have f42 := kI (Or.inr ⟨_, _, _, es40⟩) f41
      refine j_aload_nR hc 1 dX10_law_84 rfl rfl ?_
      refine j_getR (c' := 25) hc fl_RX10_56 rfl rfl (fun hv => (sv_k hv hm rfl)) dX10_law_85 ?_
      refine j_dup hc dX10_law_88 rfl ?_
      refine j_getI hc fl_RX10_168 (Or.inl rfl) (fun hv => Or.inl (sv_k hv hm rfl)) dX10_law_89 (fun cn43 => ?_)
      refine j_iconst hc dX10_law_92 ?_
      refine j_iadd hc dX10_law_93 ?_
      refine j_w (fun x44 ex44 cx44 => ?_)
      replace h := h x44 ex44
      refine j_putI hc fl_RX10_168 rfl rfl (fun hv => Or.inl (sv_k hv hm rfl)) cx44 dX10_law_94 (fun s45 es45 => ?_)
      replace h := h s45 es45
      have f46 := kI (Or.inl ⟨_, _, _, es45⟩) f42
      refine j_aload_nR hc 1 dX10_law_97 rfl rfl ?_
      refine j_aload_nR hc 1 dX10_law_98 rfl rfl ?_
      refine j_getR (c' := 25) hc fl_RX10_56 rfl rfl (fun hv => (sv_k hv hm rfl)) dX10_law_99 ?_
      refine j_getI hc fl_RX10_168 (Or.inl rfl) (fun hv => Or.inl (sv_k hv hm rfl)) dX10_law_102 (fun cn47 => ?_)
      refine j_iconst hc dX10_law_105 ?_
      refine j_isub hc dX10_law_106 ?_
      refine j_vI hc (k := 10) (by decide) (fun hv => Or.inl (sv_k hv hm rfl)) ml_RX10_111 mv_X10_accept (As := [vI (wr (gI s45 25 10 - 1))]) (c_X10_accept (cx_E hc) hm (wr_wr _) h) rfl (by omega) (by decide) (by constructor <;> omega) (Nat.le_of_ble_eq_true rfl) (by simp only [vI_wr, vL_wl]; rfl) dX10_law_107 (fun r48 s49 cr48 h => ?_)
      exact j_iretX hc hr (by omega) cr48 h dX10_law_110
    · replace h := h.2 q52
      refine j_aload_nR hc 1 dX10_law_48 rfl rfl ?_
      refine j_bipush hc dX10_law_49 (by decide) ?_
      refine j_vI hc (k := 10) (by decide) (fun hv => Or.inl (sv_k hv hm rfl)) ml_RX10_96 mv_X10_refuse (As := [vI (-6)]) (c_X10_refuse (cx_E hc) hm (wlit (-6) (by decide)) h) rfl (by omega) (by decide) (by constructor <;> omega) (Nat.le_of_ble_eq_true rfl) rfl dX10_law_51 (fun r50 s51 cr50 h => ?_)
      exact j_iretX hc hr (by omega) cr50 h dX10_law_54
  · replace h := h.2 q56
    refine j_aload_nR hc 0 dX10_law_12 rfl rfl ?_
    refine j_getR (c' := 12) hc fl_RX10_23 rfl rfl (fun hv => (sv_k hv hm rfl)) dX10_law_13 ?_
    refine j_iconst hc dX10_law_16 ?_
    refine j_putI hc fl_RX10_152 rfl rfl (fun hv => Or.inl (sv_k hv hm rfl)) (wlit 0 (by decide)) dX10_law_17 (fun s53 es53 => ?_)
    replace h := h s53 es53
    refine j_aload_nR hc 0 dX10_law_20 rfl rfl ?_
    refine j_bipush hc dX10_law_21 (by decide) ?_
    refine j_vI hc (k := 10) (by decide) (fun hv => Or.inl (sv_k hv hm rfl)) ml_RX10_96 mv_X10_refuse (As := [vI (-5)]) (c_X10_refuse (cx_E hc) hm (wlit (-5) (by decide)) h) rfl (by omega) (by decide) (by constructor <;> omega) (Nat.le_of_ble_eq_true rfl) rfl dX10_law_23 (fun r54 s55 cr54 h => ?_)
    exact j_iretX hc hr (by omega) cr54 h dX10_law_26
-- LitStrangers.image(I)I
theorem dX10_image_0 : decode cX10_image 0 = .ok (.iload_n 1, 1) := by decide +kernel
theorem dX10_image_1 : decode cX10_image 1 = .ok (.ifCond .lt 8, 3) := by decide +kernel
theorem dX10_image_4 : decode cX10_image 4 = .ok (.iload_n 1, 1) := by decide +kernel
theorem dX10_image_5 : decode cX10_image 5 = .ok (.iconst 2, 1) := by decide +kernel
theorem dX10_image_6 : decode cX10_image 6 = .ok (.if_icmp .lt 9, 3) := by decide +kernel
theorem dX10_image_9 : decode cX10_image 9 = .ok (.aload_n 0, 1) := by decide +kernel
theorem dX10_image_10 : decode cX10_image 10 = .ok (.iconst (-1), 1) := by decide +kernel
theorem dX10_image_11 : decode cX10_image 11 = .ok (.invokevirtual 96, 3) := by decide +kernel
theorem dX10_image_14 : decode cX10_image 14 = .ok (.ireturn, 1) := by decide +kernel
theorem dX10_image_15 : decode cX10_image 15 = .ok (.aload_n 0, 1) := by decide +kernel
theorem dX10_image_16 : decode cX10_image 16 = .ok (.getfield 16, 3) := by decide +kernel
theorem dX10_image_19 : decode cX10_image 19 = .ok (.iload_n 1, 1) := by decide +kernel
theorem dX10_image_20 : decode cX10_image 20 = .ok (.aaload, 1) := by decide +kernel
theorem dX10_image_21 : decode cX10_image 21 = .ok (.ifnonnull 16, 3) := by decide +kernel
theorem dX10_image_24 : decode cX10_image 24 = .ok (.aload_n 0, 1) := by decide +kernel
theorem dX10_image_25 : decode cX10_image 25 = .ok (.getfield 16, 3) := by decide +kernel
theorem dX10_image_28 : decode cX10_image 28 = .ok (.iload_n 1, 1) := by decide +kernel
theorem dX10_image_29 : decode cX10_image 29 = .ok (.new 9, 3) := by decide +kernel
theorem dX10_image_32 : decode cX10_image 32 = .ok (.dup, 1) := by decide +kernel
theorem dX10_image_33 : decode cX10_image 33 = .ok (.invokespecial 11, 3) := by decide +kernel
theorem dX10_image_36 : decode cX10_image 36 = .ok (.aastore, 1) := by decide +kernel
theorem dX10_image_37 : decode cX10_image 37 = .ok (.aload_n 0, 1) := by decide +kernel
theorem dX10_image_38 : decode cX10_image 38 = .ok (.getfield 16, 3) := by decide +kernel
theorem dX10_image_41 : decode cX10_image 41 = .ok (.iload_n 1, 1) := by decide +kernel
theorem dX10_image_42 : decode cX10_image 42 = .ok (.aaload, 1) := by decide +kernel
theorem dX10_image_43 : decode cX10_image 43 = .ok (.aload_n 0, 1) := by decide +kernel
theorem dX10_image_44 : decode cX10_image 44 = .ok (.getfield 56, 3) := by decide +kernel
theorem dX10_image_47 : decode cX10_image 47 = .ok (.invokevirtual 191, 3) := by decide +kernel
theorem dX10_image_50 : decode cX10_image 50 = .ok (.aload_n 0, 1) := by decide +kernel
theorem dX10_image_51 : decode cX10_image 51 = .ok (.iconst 0, 1) := by decide +kernel
theorem dX10_image_52 : decode cX10_image 52 = .ok (.invokevirtual 111, 3) := by decide +kernel
theorem dX10_image_55 : decode cX10_image 55 = .ok (.ireturn, 1) := by decide +kernel
def B_X10_image_9 (Q : Int → st_S → Prop)  (σ : st_S) : Prop := wp_X10_refuse (-1) σ (fun r20 s21 => Q r20 s21)
def B_X10_image_37 (Q : Int → st_S → Prop) (l1 : Int) (σ : st_S) : Prop := ix l1 2 ∧ ∃ t23 : Nat, gR σ 11 (Int.toNat l1) = some t23 ∧ gK σ t23 = 16 + 1 ∧ wp_X1_copyFrom t23 25 σ (fun s25 => wp_X10_accept 0 s25 (fun r27 s28 => Q r27 s28))
def wp_X10_image (a1 : Int) (σ : st_S) (Q : Int → st_S → Prop) : Prop := (a1 < 0 → B_X10_image_9 Q σ) ∧ (¬ a1 < 0 → (a1 < 2 → ix a1 2 ∧ (gR σ 11 (Int.toNat a1) = none → ∀ (t31 : Nat) (s32 : st_S), t31 = gN σ → s32 = sA σ (32 + 1) 0 → wp_X1_init t31 s32 (fun s33 => Fin1 s33 t31 1 ∧ skNo 1 t31 ∧ ∀ s34 : st_S, s34 = sK s33 t31 (16 + 1) → ix a1 2 ∧ gK s34 t31 = 16 + 1 ∧ ∀ s37 : st_S, s37 = sR s34 11 (Int.toNat a1) (some t31) → B_X10_image_37 Q a1 s37)) ∧ (∀ t30 : Nat, gR σ 11 (Int.toNat a1) = some t30 → B_X10_image_37 Q a1 σ)) ∧ (¬ a1 < 2 → B_X10_image_9 Q σ))
set_option maxRecDepth 20000 in
theorem jb_X10_image_9 {X : jj_X} {E : ev_E} {n0 hN cells slots : Nat} (hc : Cx X E cX10_image 2 n0 hN RX10) (hm : eM E = 1) (hr : (xT X).sig.returnType = (some .int)) (hh : 2 ≤ hN) (hM : MkE E n0) (hcl : (xR X).cells = 10) (hsl : (xR X).slots = 184) (hcs : (cells = 0 ∨ cells = 10) ∧ slots ≤ 184) {Q : Int → st_S → Prop} {σ : st_S} (h : B_X10_image_9 Q σ) : J X E 2 n0 cells slots (MQ (xB X) (qX E n0 10 Q) (xA X) (xS X) 10 184 (eF E)) σ 9 [(0, vR E 0)] [] := by
  have hh1 : 1 ≤ hN := by omega
  replace h : wp_X10_refuse (-1) σ (fun r20 s21 => Q r20 s21) := h
  refine j_aload_nR hc 0 dX10_image_9 rfl rfl ?_
  refine j_iconst hc dX10_image_10 ?_
  refine j_vI hc (k := 10) (by decide) (fun hv => Or.inl (sv_k hv hm rfl)) ml_RX10_96 mv_X10_refuse (As := [vI (-1)]) (c_X10_refuse (cx_E hc) hm (wlit (-1) (by decide)) h) rfl (by omega) (by decide) (by constructor <;> omega) (Nat.le_of_ble_eq_true rfl) rfl dX10_image_11 (fun r20 s21 cr20 h => ?_)
  exact j_iretX hc hr (by omega) cr20 h dX10_image_14
set_option maxRecDepth 20000 in
theorem jb_X10_image_37 {X : jj_X} {E : ev_E} {n0 hN cells slots : Nat} (hc : Cx X E cX10_image 2 n0 hN RX10) (hm : eM E = 1) (hr : (xT X).sig.returnType = (some .int)) (hh : 2 ≤ hN) (hM : MkE E n0) (hcl : (xR X).cells = 10) (hsl : (xR X).slots = 184) (hcs : (cells = 0 ∨ cells = 10) ∧ slots ≤ 184) {Q : Int → st_S → Prop} {l1 : Int} (cl1 : wr l1 = l1) {σ : st_S} (h : B_X10_image_37 Q l1 σ) : J X E 2 n0 cells slots (MQ (xB X) (qX E n0 10 Q) (xA X) (xS X) 10 184 (eF E)) σ 37 [(0, vR E 0), (1, vI l1)] [] := by
  have hh1 : 1 ≤ hN := by omega
  replace h : ix l1 2 ∧ ∃ t23 : Nat, gR σ 11 (Int.toNat l1) = some t23 ∧ gK σ t23 = 16 + 1 ∧ wp_X1_copyFrom t23 25 σ (fun s25 => wp_X10_accept 0 s25 (fun r27 s28 => Q r27 s28)) := h
  refine j_aload_nR hc 0 dX10_image_37 rfl rfl ?_
  refine j_getR (c' := 11) hc fl_RX10_16 rfl rfl (fun hv => (sv_k hv hm rfl)) dX10_image_38 ?_
  refine j_iload_n hc 1 dX10_image_41 rfl rfl ?_
  obtain ⟨b22, h⟩ := h
  refine j_aald (jn := (Int.toNat l1)) hc 5 (by decide) (fun hv => sv_kl hv hm rfl) cl1 b22 rfl dX10_image_42 ?_
  obtain ⟨t23, et23, h⟩ := h
  refine j_some et23 ?_
  refine j_aload_nR hc 0 dX10_image_43 rfl rfl ?_
  refine j_getR (c' := 25) hc fl_RX10_56 rfl rfl (fun hv => (sv_k hv hm rfl)) dX10_image_44 ?_
  obtain ⟨f26, h⟩ := h
  refine j_vV hc (k := 1) (by decide) (fun _ => Or.inl f26) ml_RX10_191 mv_X1_copyFrom (As := [vR E 25]) (c_X1_copyFrom (cx_E hc) hm  h) rfl (by omega) (by decide) (by constructor <;> omega) (Nat.le_of_ble_eq_true rfl) rfl dX10_image_47 (fun s25 h => ?_)
  refine j_aload_nR hc 0 dX10_image_50 rfl rfl ?_
  refine j_iconst hc dX10_image_51 ?_
  refine j_vI hc (k := 10) (by decide) (fun hv => Or.inl (sv_k hv hm rfl)) ml_RX10_111 mv_X10_accept (As := [vI 0]) (c_X10_accept (cx_E hc) hm (wlit 0 (by decide)) h) rfl (by omega) (by decide) (by constructor <;> omega) (Nat.le_of_ble_eq_true rfl) rfl dX10_image_52 (fun r27 s28 cr27 h => ?_)
  exact j_iretX hc hr (by omega) cr27 h dX10_image_55
set_option maxRecDepth 20000 in
set_option maxHeartbeats 8000000 in
theorem c_X10_image {l : Launch} {E : ev_E} (hE : Eok E) (hm : eM E = 1) {σ : st_S} (hM : MkE E (gN σ)) {a1 : Int} (ca1 : wr a1 = a1) {Q : Int → st_S → Prop} (h : wp_X10_image a1 σ Q) : cM l yX10_image cX10_image 2 (some .int) E 2 10 184 [vR E 0, vI a1] σ (qX E (gN σ) 10 Q) := by
  refine cM_of (lv := [(0, vR E 0), (1, vI a1)]) (by decide) hE (Nat.le_of_ble_eq_true rfl) rfl ?_
  intro X hX hc hcl hsl hr hnm _
  subst hX
  have hh : 2 ≤ 2 := Nat.le_refl _
  have hh1 : 1 ≤ 2 := by omega
  replace h : (a1 < 0 → B_X10_image_9 Q σ) ∧ (¬ a1 < 0 → (a1 < 2 → ix a1 2 ∧ (gR σ 11 (Int.toNat a1) = none → ∀ (t31 : Nat) (s32 : st_S), t31 = gN σ → s32 = sA σ (32 + 1) 0 → wp_X1_init t31 s32 (fun s33 => Fin1 s33 t31 1 ∧ skNo 1 t31 ∧ ∀ s34 : st_S, s34 = sK s33 t31 (16 + 1) → ix a1 2 ∧ gK s34 t31 = 16 + 1 ∧ ∀ s37 : st_S, s37 = sR s34 11 (Int.toNat a1) (some t31) → B_X10_image_37 Q a1 s37)) ∧ (∀ t30 : Nat, gR σ 11 (Int.toNat a1) = some t30 → B_X10_image_37 Q a1 σ)) ∧ (¬ a1 < 2 → B_X10_image_9 Q σ)) := h
  refine j_iload_n hc 1 dX10_image_0 rfl rfl ?_
  refine j_if_lt hc ca1 (tgt := 9) dX10_image_1 (by decide) (fun q41 => ?_) (fun q41 => ?_)
  · replace h := h.1 q41
    refine j_sub (lv' := [(0, vR E 0)]) [0] rfl ?_
    exact jb_X10_image_9 hc hm hr hh hM hcl hsl (by omega) h
  · replace h := h.2 q41
    refine j_iload_n hc 1 dX10_image_4 rfl rfl ?_
    refine j_iconst hc dX10_image_5 ?_
    refine j_ic_lt hc ca1 (wlit 2 (by decide)) (tgt := 15) dX10_image_6 (by decide) (fun q40 => ?_) (fun q40 => ?_)
    · replace h := h.1 q40
      refine j_aload_nR hc 0 dX10_image_15 rfl rfl ?_
      refine j_getR (c' := 11) hc fl_RX10_16 rfl rfl (fun hv => (sv_k hv hm rfl)) dX10_image_16 ?_
      refine j_iload_n hc 1 dX10_image_19 rfl rfl ?_
      obtain ⟨b29, h⟩ := h
      refine j_aald (jn := (Int.toNat a1)) hc 5 (by decide) (fun hv => sv_kl hv hm rfl) ca1 b29 rfl dX10_image_20 ?_
      refine j_ifnonnull (tgt := 37) hc dX10_image_21 (by decide) (fun t30 et30 => ?_) (fun et30 => ?_)
      · replace h := h.2 t30 et30
        refine j_sub (lv' := [(0, vR E 0), (1, vI a1)]) [0, 1] rfl ?_
        exact jb_X10_image_37 hc hm hr hh hM hcl hsl (by omega) ca1 h
      · replace h := h.1 et30
        refine j_aload_nR hc 0 dX10_image_24 rfl rfl ?_
        refine j_getR (c' := 11) hc fl_RX10_16 rfl rfl (fun hv => (sv_k hv hm rfl)) dX10_image_25 ?_
        refine j_iload_n hc 1 dX10_image_28 rfl rfl ?_
        refine j_newN (N := 15) hc (hM.at hc) nw_RX10_9 rfl (by constructor <;> omega) dX10_image_29 (fun t31 s32 et31 es32 => ?_)
        replace h := h t31 s32 et31 es32
        refine j_dup hc dX10_image_32 rfl ?_
        refine j_ini (mc := 9) (ms := 169) (As := []) hc il_RX10_11 (fun hn0 => c_X1_init (cx_E hc) (hM.up hn0) h) rfl (by omega) (by decide) (by constructor <;> omega) (Nat.le_of_ble_eq_true rfl) rfl dX10_image_33 (fun s33 h => ?_)
        refine j_fin (by decide) hm h.2.1 h.1 (fun s34 es34 => ?_)
        replace h := h.2.2 s34 es34
        obtain ⟨b36, h⟩ := h
        obtain ⟨f38, h⟩ := h
        refine j_aast (jn := (Int.toNat a1)) hc 5 1 (by decide) (fun hv => sv_kl hv hm rfl) (fun _ => Or.inl f38) ca1 b36 rfl dX10_image_36 (fun s37 es37 => ?_)
        replace h := h s37 es37
        have f39 := kI (Or.inr ⟨_, _, _, es37⟩) f38
        refine j_sub (lv' := [(0, vR E 0), (1, vI a1)]) [0, 1] rfl ?_
        exact jb_X10_image_37 hc hm hr hh hM hcl hsl (by omega) ca1 h
    · replace h := h.2 q40
      refine j_sub (lv' := [(0, vR E 0)]) [0] rfl ?_
      exact jb_X10_image_9 hc hm hr hh hM hcl hsl (by omega) h
