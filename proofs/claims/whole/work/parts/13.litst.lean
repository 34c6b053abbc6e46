-- LitStrangers$Deeds.summon(I)I
theorem dX2_summon_0 : decode cX2_summon 0 = .ok (.aload_n 0, 1) := by decide +kernel
theorem dX2_summon_1 : decode cX2_summon 1 = .ok (.getfield 9, 3) := by decide +kernel
theorem dX2_summon_4 : decode cX2_summon 4 = .ok (.iload_n 1, 1) := by decide +kernel
theorem dX2_summon_5 : decode cX2_summon 5 = .ok (.invokevirtual 23, 3) := by decide +kernel
theorem dX2_summon_8 : decode cX2_summon 8 = .ok (.ifCond .ne 6, 3) := by decide +kernel
theorem dX2_summon_11 : decode cX2_summon 11 = .ok (.bipush (-2), 2) := by decide +kernel
theorem dX2_summon_13 : decode cX2_summon 13 = .ok (.ireturn, 1) := by decide +kernel
theorem dX2_summon_14 : decode cX2_summon 14 = .ok (.aload_n 0, 1) := by decide +kernel
theorem dX2_summon_15 : decode cX2_summon 15 = .ok (.getfield 9, 3) := by decide +kernel
theorem dX2_summon_18 : decode cX2_summon 18 = .ok (.getfield 29, 3) := by decide +kernel
theorem dX2_summon_21 : decode cX2_summon 21 = .ok (.iload_n 1, 1) := by decide +kernel
theorem dX2_summon_22 : decode cX2_summon 22 = .ok (.iaload, 1) := by decide +kernel
theorem dX2_summon_23 : decode cX2_summon 23 = .ok (.ifCond .eq 6, 3) := by decide +kernel
theorem dX2_summon_26 : decode cX2_summon 26 = .ok (.bipush (-3), 2) := by decide +kernel
theorem dX2_summon_28 : decode cX2_summon 28 = .ok (.ireturn, 1) := by decide +kernel
theorem dX2_summon_29 : decode cX2_summon 29 = .ok (.aload_n 0, 1) := by decide +kernel
theorem dX2_summon_30 : decode cX2_summon 30 = .ok (.getfield 15, 3) := by decide +kernel
theorem dX2_summon_33 : decode cX2_summon 33 = .ok (.iload_n 1, 1) := by decide +kernel
theorem dX2_summon_34 : decode cX2_summon 34 = .ok (.invokevirtual 33, 3) := by decide +kernel
theorem dX2_summon_37 : decode cX2_summon 37 = .ok (.istore_n 2, 1) := by decide +kernel
theorem dX2_summon_38 : decode cX2_summon 38 = .ok (.aload_n 0, 1) := by decide +kernel
theorem dX2_summon_39 : decode cX2_summon 39 = .ok (.getfield 15, 3) := by decide +kernel
theorem dX2_summon_42 : decode cX2_summon 42 = .ok (.iload_n 1, 1) := by decide +kernel
theorem dX2_summon_43 : decode cX2_summon 43 = .ok (.invokevirtual 39, 3) := by decide +kernel
theorem dX2_summon_46 : decode cX2_summon 46 = .ok (.istore_n 3, 1) := by decide +kernel
theorem dX2_summon_47 : decode cX2_summon 47 = .ok (.aload_n 0, 1) := by decide +kernel
theorem dX2_summon_48 : decode cX2_summon 48 = .ok (.getfield 19, 3) := by decide +kernel
theorem dX2_summon_51 : decode cX2_summon 51 = .ok (.iconst 0, 1) := by decide +kernel
theorem dX2_summon_52 : decode cX2_summon 52 = .ok (.aload_n 0, 1) := by decide +kernel
theorem dX2_summon_53 : decode cX2_summon 53 = .ok (.getfield 9, 3) := by decide +kernel
theorem dX2_summon_56 : decode cX2_summon 56 = .ok (.invokevirtual 42, 3) := by decide +kernel
theorem dX2_summon_59 : decode cX2_summon 59 = .ok (.aload_n 0, 1) := by decide +kernel
theorem dX2_summon_60 : decode cX2_summon 60 = .ok (.getfield 9, 3) := by decide +kernel
theorem dX2_summon_63 : decode cX2_summon 63 = .ok (.dup, 1) := by decide +kernel
theorem dX2_summon_64 : decode cX2_summon 64 = .ok (.getfield 48, 3) := by decide +kernel
theorem dX2_summon_67 : decode cX2_summon 67 = .ok (.iload_n 2, 1) := by decide +kernel
theorem dX2_summon_68 : decode cX2_summon 68 = .ok (.iadd, 1) := by decide +kernel
theorem dX2_summon_69 : decode cX2_summon 69 = .ok (.putfield 48, 3) := by decide +kernel
theorem dX2_summon_72 : decode cX2_summon 72 = .ok (.aload_n 0, 1) := by decide +kernel
theorem dX2_summon_73 : decode cX2_summon 73 = .ok (.getfield 9, 3) := by decide +kernel
theorem dX2_summon_76 : decode cX2_summon 76 = .ok (.getfield 29, 3) := by decide +kernel
theorem dX2_summon_79 : decode cX2_summon 79 = .ok (.iload_n 1, 1) := by decide +kernel
theorem dX2_summon_80 : decode cX2_summon 80 = .ok (.iload_n 3, 1) := by decide +kernel
theorem dX2_summon_81 : decode cX2_summon 81 = .ok (.ifCond .ne 7, 3) := by decide +kernel
theorem dX2_summon_84 : decode cX2_summon 84 = .ok (.iconst 2, 1) := by decide +kernel
theorem dX2_summon_85 : decode cX2_summon 85 = .ok (.goto 4, 3) := by decide +kernel
theorem dX2_summon_88 : decode cX2_summon 88 = .ok (.iconst 1, 1) := by decide +kernel
theorem dX2_summon_89 : decode cX2_summon 89 = .ok (.iastore, 1) := by decide +kernel
theorem dX2_summon_90 : decode cX2_summon 90 = .ok (.aload_n 0, 1) := by decide +kernel
theorem dX2_summon_91 : decode cX2_summon 91 = .ok (.getfield 9, 3) := by decide +kernel
theorem dX2_summon_94 : decode cX2_summon 94 = .ok (.getfield 52, 3) := by decide +kernel
theorem dX2_summon_97 : decode cX2_summon 97 = .ok (.iload_n 1, 1) := by decide +kernel
theorem dX2_summon_98 : decode cX2_summon 98 = .ok (.aload_n 0, 1) := by decide +kernel
theorem dX2_summon_99 : decode cX2_summon 99 = .ok (.getfield 9, 3) := by decide +kernel
theorem dX2_summon_102 : decode cX2_summon 102 = .ok (.getfield 55, 3) := by decide +kernel
theorem dX2_summon_105 : decode cX2_summon 105 = .ok (.iconst 0, 1) := by decide +kernel
theorem dX2_summon_106 : decode cX2_summon 106 = .ok (.iaload, 1) := by decide +kernel
theorem dX2_summon_107 : decode cX2_summon 107 = .ok (.iload_n 3, 1) := by decide +kernel
theorem dX2_summon_108 : decode cX2_summon 108 = .ok (.iadd, 1) := by decide +kernel
theorem dX2_summon_109 : decode cX2_summon 109 = .ok (.iastore, 1) := by decide +kernel
theorem dX2_summon_110 : decode cX2_summon 110 = .ok (.iload_n 2, 1) := by decide +kernel
theorem dX2_summon_111 : decode cX2_summon 111 = .ok (.ireturn, 1) := by decide +kernel
def B_X2_summon_89 (Q : Int → st_S → Prop)   (l1 : Int) (l2 : Int) (l3 : Int) (v0 : Int) (v1 : Int) (σ : st_S) : Prop := ix (wr v1) 10 ∧ ∀ s25 : st_S, s25 = sI σ 29 (Int.toNat (wr v1)) v0 → ∀ x27 : Int, x27 = wr (gI s25 33 0 + l3) → ix l1 10 ∧ ∀ s29 : st_S, s29 = sI s25 30 (Int.toNat l1) x27 → Q l2 s29
def wp_X2_summon (a1 : Int) (σ : st_S) (Q : Int → st_S → Prop) : Prop := wp_X1_has a1 σ (fun r30 s31 => (¬ r30 = 0 → ix a1 10 ∧ (gI s31 29 (Int.toNat a1) = 0 → wp_X3_costs a1 s31 (fun r34 s35 => wp_X3_takes a1 s35 (fun r36 s37 => wp_X4_keep 0 s37 (fun s39 => ∀ x41 : Int, x41 = wr (gI s39 25 14 + r34) → ∀ s42 : st_S, s42 = sI s39 25 14 x41 → (¬ r36 = 0 → B_X2_summon_89 Q a1 r34 r36 1 a1 s42) ∧ (r36 = 0 → B_X2_summon_89 Q a1 r34 r36 2 a1 s42))))) ∧ (¬ gI s31 29 (Int.toNat a1) = 0 → Q (-3) s31)) ∧ (r30 = 0 → Q (-2) s31))
set_option maxRecDepth 20000 in
theorem jb_X2_summon_89 {X : jj_X} {E : ev_E} {n0 hN : Nat} (hc : Cx X E cX2_summon 4 n0 hN RX2) (hm : eM E = 1) (hr : (xT X).sig.returnType = (some .int)) (hh : 5 ≤ hN) {Q : Int → st_S → Prop} {l1 : Int} {l2 : Int} {l3 : Int} {v0 : Int} {v1 : Int} (cl1 : wr l1 = l1) (cl2 : wr l2 = l2) (cl3 : wr l3 = l3) (cv0 : wr v0 = v0) {σ : st_S} (h : B_X2_summon_89 Q l1 l2 l3 v0 v1 σ) : J X E 4 n0 0 0 (MQ (xB X) (qI E (n0 + 0) Q) (xA X) (xS X) 0 0 (eF E)) σ 89 [(0, vR E 41), (1, vI l1), (2, vI l2), (3, vI l3)] [vI v0, vI v1, vR E 29] := by
  have hh1 : 1 ≤ hN := by omega
  replace h : ix (wr v1) 10 ∧ ∀ s25 : st_S, s25 = sI σ 29 (Int.toNat (wr v1)) v0 → ∀ x27 : Int, x27 = wr (gI s25 33 0 + l3) → ix l1 10 ∧ ∀ s29 : st_S, s29 = sI s25 30 (Int.toNat l1) x27 → Q l2 s29 := h
  obtain ⟨b24, h⟩ := h
  refine j_iast (jn := (Int.toNat (wr v1))) hc (fun hv => sv_kl hv hm rfl) rfl b24 rfl cv0 dX2_summon_89 (fun s25 es25 => ?_)
  replace h := h s25 es25
  refine j_aload_nR hc 0 dX2_summon_90 rfl rfl ?_
  refine j_getR (c' := 25) hc fl_RX2_9 rfl rfl (fun hv => (sv_k hv hm rfl)) dX2_summon_91 ?_
  refine j_getR (c' := 30) hc fl_RX2_52 rfl rfl (fun hv => (sv_k hv hm rfl)) dX2_summon_94 ?_
  refine j_iload_n hc 1 dX2_summon_97 rfl rfl ?_
  refine j_aload_nR hc 0 dX2_summon_98 rfl rfl ?_
  refine j_getR (c' := 25) hc fl_RX2_9 rfl rfl (fun hv => (sv_k hv hm rfl)) dX2_summon_99 ?_
  refine j_getR (c' := 33) hc fl_RX2_55 rfl rfl (fun hv => (sv_k hv hm rfl)) dX2_summon_102 ?_
  refine j_iconst hc dX2_summon_105 ?_
  refine j_iald (jn := 0) hc (fun hv => sv_kl hv hm rfl) (wlit 0 (by decide)) ⟨by decide, by decide⟩ rfl dX2_summon_106 (fun cn26 => ?_)
  refine j_iload_n hc 3 dX2_summon_107 rfl rfl ?_
  refine j_iadd hc dX2_summon_108 ?_
  refine j_w (fun x27 ex27 cx27 => ?_)
  replace h := h x27 ex27
  obtain ⟨b28, h⟩ := h
  refine j_iast (jn := (Int.toNat l1)) hc (fun hv => sv_kl hv hm rfl) cl1 b28 rfl cx27 dX2_summon_109 (fun s29 es29 => ?_)
  replace h := h s29 es29
  refine j_iload_n hc 2 dX2_summon_110 rfl rfl ?_
  exact j_iret hc hr cl2 h dX2_summon_111
set_option maxRecDepth 20000 in
theorem c_X2_summon {l : Launch} {E : ev_E} (hE : Eok E) (hm : eM E = 1) {a1 : Int} (ca1 : wr a1 = a1) {σ : st_S} {Q : Int → st_S → Prop} (h : wp_X2_summon a1 σ Q) : cM l yX2_summon cX2_summon 4 (some .int) E 5 0 0 [vR E 41, vI a1] σ (qI E (gN σ + 0) Q) := by
  refine cM_of (lv := [(0, vR E 41), (1, vI a1)]) (by decide) hE (Nat.le_of_ble_eq_true rfl) (rfl) ?_
  intro X hX hc _ _ hr _ _
  subst hX
  have hh : 5 ≤ 5 := Nat.le_refl _
  have hh1 : 1 ≤ 5 := by omega
  replace h : wp_X1_has a1 σ (fun r30 s31 => (¬ r30 = 0 → ix a1 10 ∧ (gI s31 29 (Int.toNat a1) = 0 → wp_X3_costs a1 s31 (fun r34 s35 => wp_X3_takes a1 s35 (fun r36 s37 => wp_X4_keep 0 s37 (fun s39 => ∀ x41 : Int, x41 = wr (gI s39 25 14 + r34) → ∀ s42 : st_S, s42 = sI s39 25 14 x41 → (¬ r36 = 0 → B_X2_summon_89 Q a1 r34 r36 1 a1 s42) ∧ (r36 = 0 → B_X2_summon_89 Q a1 r34 r36 2 a1 s42))))) ∧ (¬ gI s31 29 (Int.toNat a1) = 0 → Q (-3) s31)) ∧ (r30 = 0 → Q (-2) s31)) := h
  refine j_aload_nR hc 0 dX2_summon_0 rfl rfl ?_
  refine j_getR (c' := 25) hc fl_RX2_9 rfl rfl (fun hv => (sv_k hv hm rfl)) dX2_summon_1 ?_
  refine j_iload_n hc 1 dX2_summon_4 rfl rfl ?_
  refine j_vI hc (k := 1) (by decide) (fun hv => Or.inl (sv_k hv hm rfl)) ml_RX2_23 mv_X1_has (As := [vI a1]) (c_X1_has (cx_E hc) hm ca1 h) rfl (by omega) (by decide) ⟨Nat.zero_le _, Nat.zero_le _⟩ (Nat.le_of_ble_eq_true rfl) rfl dX2_summon_5 (fun r30 s31 cr30 h => ?_)
  refine j_if_ne hc cr30 (tgt := 14) dX2_summon_8 (by decide) (fun q45 => ?_) (fun q45 => ?_)
  · replace h := h.1 q45
    refine j_aload_nR hc 0 dX2_summon_14 rfl rfl ?_
    refine j_getR (c' := 25) hc fl_RX2_9 rfl rfl (fun hv => (sv_k hv hm rfl)) dX2_summon_15 ?_
    refine j_getR (c' := 29) hc fl_RX2_29 rfl rfl (fun hv => (sv_k hv hm rfl)) dX2_summon_18 ?_
    refine j_iload_n hc 1 dX2_summon_21 rfl rfl ?_
    obtain ⟨b32, h⟩ := h
    refine j_iald (jn := (Int.toNat a1)) hc (fun hv => sv_kl hv hm rfl) ca1 b32 rfl dX2_summon_22 (fun cn33 => ?_)
    refine j_if_eq hc cn33 (tgt := 29) dX2_summon_23 (by decide) (fun q44 => ?_) (fun q44 => ?_)
    · replace h := h.1 q44
      refine j_aload_nR hc 0 dX2_summon_29 rfl rfl ?_
      refine j_getR (c' := 35) hc fl_RX2_15 rfl rfl (fun hv => (sv_k hv hm rfl)) dX2_summon_30 ?_
      refine j_iload_n hc 1 dX2_summon_33 rfl rfl ?_
      refine j_vI hc (k := 3) (by decide) (fun hv => Or.inl (sv_k hv hm rfl)) ml_RX2_33 mv_X3_costs (As := [vI a1]) (c_X3_costs (cx_E hc) hm ca1 h) rfl (by omega) (by decide) ⟨Nat.zero_le _, Nat.zero_le _⟩ (Nat.le_of_ble_eq_true rfl) rfl dX2_summon_34 (fun r34 s35 cr34 h => ?_)
      refine j_istore_n (lv' := [(2, vI r34), (0, vR E 41), (1, vI a1)]) hc dX2_summon_37 rfl (by decide) rfl ?_
      refine j_aload_nR hc 1 dX2_summon_38 rfl rfl ?_
      refine j_getR (c' := 35) hc fl_RX2_15 rfl rfl (fun hv => (sv_k hv hm rfl)) dX2_summon_39 ?_
      refine j_iload_n hc 2 dX2_summon_42 rfl rfl ?_
      refine j_vI hc (k := 3) (by decide) (fun hv => Or.inl (sv_k hv hm rfl)) ml_RX2_39 mv_X3_takes (As := [vI a1]) (c_X3_takes (cx_E hc) hm ca1 h) rfl (by omega) (by decide) ⟨Nat.zero_le _, Nat.zero_le _⟩ (Nat.le_of_ble_eq_true rfl) rfl dX2_summon_43 (fun r36 s37 cr36 h => ?_)
      refine j_istore_n (lv' := [(3, vI r36), (2, vI r34), (0, vR E 41), (1, vI a1)]) hc dX2_summon_46 rfl (by decide) rfl ?_
      refine j_aload_nR hc 2 dX2_summon_47 rfl rfl ?_
      refine j_getR (c' := 39) hc fl_RX2_19 rfl rfl (fun hv => (sv_k hv hm rfl)) dX2_summon_48 ?_
      refine j_iconst hc dX2_summon_51 ?_
      refine j_aload_nR hc 2 dX2_summon_52 rfl rfl ?_
      refine j_getR (c' := 25) hc fl_RX2_9 rfl rfl (fun hv => (sv_k hv hm rfl)) dX2_summon_53 ?_
      refine j_vV hc (k := 4) (by decide) (fun hv => Or.inl (sv_k hv hm rfl)) ml_RX2_42 mv_X4_keep (As := [vI 0, vR E 25]) (c_X4_keep (cx_E hc) hm (wlit 0 (by decide)) h) rfl (by omega) (by decide) ⟨Nat.zero_le _, Nat.zero_le _⟩ (Nat.le_of_ble_eq_true rfl) rfl dX2_summon_56 (fun s39 h => ?_)
      refine j_aload_nR hc 2 dX2_summon_59 rfl rfl ?_
      refine j_getR (c' := 25) hc fl_RX2_9 rfl rfl (fun hv => (sv_k hv hm rfl)) dX2_summon_60 ?_
      refine j_dup hc dX2_summon_63 rfl ?_
      refine j_getI hc fl_RX2_48 (Or.inl rfl) (fun hv => Or.inl (sv_k hv hm rfl)) dX2_summon_64 (fun cn40 => ?_)
      refine j_iload_n hc 1 dX2_summon_67 rfl rfl ?_
      refine j_iadd hc dX2_summon_68 ?_
      refine j_w (fun x41 ex41 cx41 => ?_)
      replace h := h x41 ex41
      refine j_putI hc fl_RX2_48 rfl rfl (fun hv => Or.inl (sv_k hv hm rfl)) cx41 dX2_summon_69 (fun s42 es42 => ?_)
      replace h := h s42 es42
      refine j_aload_nR hc 2 dX2_summon_72 rfl rfl ?_
      refine j_getR (c' := 25) hc fl_RX2_9 rfl rfl (fun hv => (sv_k hv hm rfl)) dX2_summon_73 ?_
      refine j_getR (c' := 29) hc fl_RX2_29 rfl rfl (fun hv => (sv_k hv hm rfl)) dX2_summon_76 ?_
      refine j_iload_n hc 3 dX2_summon_79 rfl rfl ?_
      refine j_iload_n hc 0 dX2_summon_80 rfl rfl ?_
      refine j_if_ne hc cr36 (tgt := 88) dX2_summon_81 (by decide) (fun q43 => ?_) (fun q43 => ?_)
      · replace h := h.1 q43
        refine j_iconst hc dX2_summon_88 ?_
        refine j_sub (lv' := [(0, vR E 41), (1, vI a1), (2, vI r34), (3, vI r36)]) [2, 3, 1, 0] rfl ?_
        exact jb_X2_summon_89 hc hm hr hh ca1 cr34 cr36 (wlit 1 (by decide)) h
      · replace h := h.2 q43
        refine j_iconst hc dX2_summon_84 ?_
        refine j_goto (tgt := 89) hc dX2_summon_85 (by decide) ?_
        refine j_sub (lv' := [(0, vR E 41), (1, vI a1), (2, vI r34), (3, vI r36)]) [2, 3, 1, 0] rfl ?_
        exact jb_X2_summon_89 hc hm hr hh ca1 cr34 cr36 (wlit 2 (by decide)) h
    · replace h := h.2 q44
      refine j_bipush hc dX2_summon_26 (by decide) ?_
      exact j_iret hc hr (wlit (-3) (by decide)) h dX2_summon_28
  · replace h := h.2 q45
    refine j_bipush hc dX2_summon_11 (by decide) ?_
    exact j_iret hc hr (wlit (-2) (by decide)) h dX2_summon_13
-- LitStrangers$Deeds.passNight()V
theorem dX2_passNight_0 : decode cX2_passNight 0 = .ok (.iconst 0, 1) := by decide +kernel
theorem dX2_passNight_1 : decode cX2_passNight 1 = .ok (.istore_n 1, 1) := by decide +kernel
theorem dX2_passNight_2 : decode cX2_passNight 2 = .ok (.iload_n 1, 1) := by decide +kernel
theorem dX2_passNight_3 : decode cX2_passNight 3 = .ok (.aload_n 0, 1) := by decide +kernel
theorem dX2_passNight_4 : decode cX2_passNight 4 = .ok (.getfield 9, 3) := by decide +kernel
theorem dX2_passNight_7 : decode cX2_passNight 7 = .ok (.getfield 58, 3) := by decide +kernel
theorem dX2_passNight_10 : decode cX2_passNight 10 = .ok (.if_icmp .ge 42, 3) := by decide +kernel
theorem dX2_passNight_13 : decode cX2_passNight 13 = .ok (.aload_n 0, 1) := by decide +kernel
theorem dX2_passNight_14 : decode cX2_passNight 14 = .ok (.getfield 9, 3) := by decide +kernel
theorem dX2_passNight_17 : decode cX2_passNight 17 = .ok (.getfield 29, 3) := by decide +kernel
theorem dX2_passNight_20 : decode cX2_passNight 20 = .ok (.iload_n 1, 1) := by decide +kernel
theorem dX2_passNight_21 : decode cX2_passNight 21 = .ok (.iaload, 1) := by decide +kernel
theorem dX2_passNight_22 : decode cX2_passNight 22 = .ok (.iconst 2, 1) := by decide +kernel
theorem dX2_passNight_23 : decode cX2_passNight 23 = .ok (.if_icmp .ne 23, 3) := by decide +kernel
theorem dX2_passNight_26 : decode cX2_passNight 26 = .ok (.aload_n 0, 1) := by decide +kernel
theorem dX2_passNight_27 : decode cX2_passNight 27 = .ok (.getfield 9, 3) := by decide +kernel
theorem dX2_passNight_30 : decode cX2_passNight 30 = .ok (.dup, 1) := by decide +kernel
theorem dX2_passNight_31 : decode cX2_passNight 31 = .ok (.getfield 48, 3) := by decide +kernel
theorem dX2_passNight_34 : decode cX2_passNight 34 = .ok (.aload_n 0, 1) := by decide +kernel
theorem dX2_passNight_35 : decode cX2_passNight 35 = .ok (.getfield 15, 3) := by decide +kernel
theorem dX2_passNight_38 : decode cX2_passNight 38 = .ok (.iload_n 1, 1) := by decide +kernel
theorem dX2_passNight_39 : decode cX2_passNight 39 = .ok (.invokevirtual 107, 3) := by decide +kernel
theorem dX2_passNight_42 : decode cX2_passNight 42 = .ok (.iadd, 1) := by decide +kernel
theorem dX2_passNight_43 : decode cX2_passNight 43 = .ok (.putfield 48, 3) := by decide +kernel
theorem dX2_passNight_46 : decode cX2_passNight 46 = .ok (.iinc 1 1, 3) := by decide +kernel
theorem dX2_passNight_49 : decode cX2_passNight 49 = .ok (.goto (-47), 3) := by decide +kernel
theorem dX2_passNight_52 : decode cX2_passNight 52 = .ok (.aload_n 0, 1) := by decide +kernel
theorem dX2_passNight_53 : decode cX2_passNight 53 = .ok (.getfield 9, 3) := by decide +kernel
theorem dX2_passNight_56 : decode cX2_passNight 56 = .ok (.getfield 55, 3) := by decide +kernel
theorem dX2_passNight_59 : decode cX2_passNight 59 = .ok (.iconst 0, 1) := by decide +kernel
theorem dX2_passNight_60 : decode cX2_passNight 60 = .ok (.dup2, 1) := by decide +kernel
theorem dX2_passNight_61 : decode cX2_passNight 61 = .ok (.iaload, 1) := by decide +kernel
theorem dX2_passNight_62 : decode cX2_passNight 62 = .ok (.iconst 1, 1) := by decide +kernel
theorem dX2_passNight_63 : decode cX2_passNight 63 = .ok (.iadd, 1) := by decide +kernel
theorem dX2_passNight_64 : decode cX2_passNight 64 = .ok (.iastore, 1) := by decide +kernel
theorem dX2_passNight_65 : decode cX2_passNight 65 = .ok (.iconst 0, 1) := by decide +kernel
theorem dX2_passNight_66 : decode cX2_passNight 66 = .ok (.istore_n 1, 1) := by decide +kernel
theorem dX2_passNight_67 : decode cX2_passNight 67 = .ok (.iload_n 1, 1) := by decide +kernel
theorem dX2_passNight_68 : decode cX2_passNight 68 = .ok (.aload_n 0, 1) := by decide +kernel
theorem dX2_passNight_69 : decode cX2_passNight 69 = .ok (.getfield 9, 3) := by decide +kernel
theorem dX2_passNight_72 : decode cX2_passNight 72 = .ok (.getfield 58, 3) := by decide +kernel
theorem dX2_passNight_75 : decode cX2_passNight 75 = .ok (.if_icmp .ge 53, 3) := by decide +kernel
theorem dX2_passNight_78 : decode cX2_passNight 78 = .ok (.aload_n 0, 1) := by decide +kernel
theorem dX2_passNight_79 : decode cX2_passNight 79 = .ok (.getfield 9, 3) := by decide +kernel
theorem dX2_passNight_82 : decode cX2_passNight 82 = .ok (.getfield 29, 3) := by decide +kernel
theorem dX2_passNight_85 : decode cX2_passNight 85 = .ok (.iload_n 1, 1) := by decide +kernel
theorem dX2_passNight_86 : decode cX2_passNight 86 = .ok (.iaload, 1) := by decide +kernel
theorem dX2_passNight_87 : decode cX2_passNight 87 = .ok (.iconst 1, 1) := by decide +kernel
theorem dX2_passNight_88 : decode cX2_passNight 88 = .ok (.if_icmp .ne 34, 3) := by decide +kernel
theorem dX2_passNight_91 : decode cX2_passNight 91 = .ok (.aload_n 0, 1) := by decide +kernel
theorem dX2_passNight_92 : decode cX2_passNight 92 = .ok (.getfield 9, 3) := by decide +kernel
theorem dX2_passNight_95 : decode cX2_passNight 95 = .ok (.getfield 52, 3) := by decide +kernel
theorem dX2_passNight_98 : decode cX2_passNight 98 = .ok (.iload_n 1, 1) := by decide +kernel
theorem dX2_passNight_99 : decode cX2_passNight 99 = .ok (.iaload, 1) := by decide +kernel
theorem dX2_passNight_100 : decode cX2_passNight 100 = .ok (.aload_n 0, 1) := by decide +kernel
theorem dX2_passNight_101 : decode cX2_passNight 101 = .ok (.getfield 9, 3) := by decide +kernel
theorem dX2_passNight_104 : decode cX2_passNight 104 = .ok (.getfield 55, 3) := by decide +kernel
theorem dX2_passNight_107 : decode cX2_passNight 107 = .ok (.iconst 0, 1) := by decide +kernel
theorem dX2_passNight_108 : decode cX2_passNight 108 = .ok (.iaload, 1) := by decide +kernel
theorem dX2_passNight_109 : decode cX2_passNight 109 = .ok (.if_icmp .gt 13, 3) := by decide +kernel
theorem dX2_passNight_112 : decode cX2_passNight 112 = .ok (.aload_n 0, 1) := by decide +kernel
theorem dX2_passNight_113 : decode cX2_passNight 113 = .ok (.getfield 9, 3) := by decide +kernel
theorem dX2_passNight_116 : decode cX2_passNight 116 = .ok (.getfield 29, 3) := by decide +kernel
theorem dX2_passNight_119 : decode cX2_passNight 119 = .ok (.iload_n 1, 1) := by decide +kernel
theorem dX2_passNight_120 : decode cX2_passNight 120 = .ok (.iconst 2, 1) := by decide +kernel
theorem dX2_passNight_121 : decode cX2_passNight 121 = .ok (.iastore, 1) := by decide +kernel
theorem dX2_passNight_122 : decode cX2_passNight 122 = .ok (.iinc 1 1, 3) := by decide +kernel
theorem dX2_passNight_125 : decode cX2_passNight 125 = .ok (.goto (-58), 3) := by decide +kernel
theorem dX2_passNight_128 : decode cX2_passNight 128 = .ok (.return_, 1) := by decide +kernel
def B_X2_passNight_46 (Q : st_S → Prop)  (k2 : Int → st_S → Prop) (l1 : Int) (σ : st_S) : Prop := ∀ x28 : Int, x28 = wr (l1 + 1) → k2 x28 σ
def B_X2_passNight_122 (Q : st_S → Prop)  (k67 : Int → st_S → Prop) (l1 : Int) (σ : st_S) : Prop := ∀ x29 : Int, x29 = wr (l1 + 1) → k67 x29 σ
def L_X2_passNight_67 (Q : st_S → Prop)   : Nat → Int → st_S → Prop
  | 0 => fun _ _ => False
  | n + 1 => fun l1 σ => (gI σ 25 0 ≤ l1 → Q σ) ∧ (¬ gI σ 25 0 ≤ l1 → ix l1 10 ∧ (¬ gI σ 29 (Int.toNat l1) = 1 → B_X2_passNight_122 Q (L_X2_passNight_67 Q n) l1 σ) ∧ (gI σ 29 (Int.toNat l1) = 1 → ix l1 10 ∧ (gI σ 33 0 < gI σ 30 (Int.toNat l1) → B_X2_passNight_122 Q (L_X2_passNight_67 Q n) l1 σ) ∧ (¬ gI σ 33 0 < gI σ 30 (Int.toNat l1) → ix l1 10 ∧ ∀ s37 : st_S, s37 = sI σ 29 (Int.toNat l1) 2 → B_X2_passNight_122 Q (L_X2_passNight_67 Q n) l1 s37)))
def L_X2_passNight_2 (Q : st_S → Prop)   : Nat → Int → st_S → Prop
  | 0 => fun _ _ => False
  | n + 1 => fun l1 σ => (gI σ 25 0 ≤ l1 → ∀ x43 : Int, x43 = wr (gI σ 33 0 + 1) → ∀ s44 : st_S, s44 = sI σ 33 0 x43 → ∃ m67 : Nat, L_X2_passNight_67 Q m67 0 s44) ∧ (¬ gI σ 25 0 ≤ l1 → ix l1 10 ∧ (¬ gI σ 29 (Int.toNat l1) = 2 → B_X2_passNight_46 Q (L_X2_passNight_2 Q n) l1 σ) ∧ (gI σ 29 (Int.toNat l1) = 2 → wp_X3_lodges l1 σ (fun r48 s49 => ∀ x50 : Int, x50 = wr (gI σ 25 14 + r48) → ∀ s51 : st_S, s51 = sI s49 25 14 x50 → B_X2_passNight_46 Q (L_X2_passNight_2 Q n) l1 s51)))
def wp_X2_passNight  (σ : st_S) (Q : st_S → Prop) : Prop := ∃ m2 : Nat, L_X2_passNight_2 Q m2 0 σ
set_option maxRecDepth 20000 in
theorem jb_X2_passNight_46 {X : jj_X} {E : ev_E} {n0 hN : Nat} (hc : Cx X E cX2_passNight 2 n0 hN RX2) (hm : eM E = 1) (hr : (xT X).sig.returnType = none) (hh : 5 ≤ hN) {Q : st_S → Prop} {k2 : Int → st_S → Prop} (hk2 : ∀ {l1 : Int} (cl1 : wr l1 = l1) {σ : st_S}, k2 l1 σ → J X E 2 n0 0 0 (MQ (xB X) (qV E (n0 + 0) Q) (xA X) (xS X) 0 0 (eF E)) σ 2 [(0, vR E 41), (1, vI l1)] []) {l1 : Int} (cl1 : wr l1 = l1) {σ : st_S} (h : B_X2_passNight_46 Q k2 l1 σ) : J X E 2 n0 0 0 (MQ (xB X) (qV E (n0 + 0) Q) (xA X) (xS X) 0 0 (eF E)) σ 46 [(0, vR E 41), (1, vI l1)] [] := by
  have hh1 : 1 ≤ hN := by omega
  replace h : ∀ x28 : Int, x28 = wr (l1 + 1) → k2 x28 σ := h
  obtain ⟨x28, ex28⟩ : ∃ y : Int, y = wr (l1 + 1) := ⟨_, rfl⟩
  have cx28 : wr x28 = x28 := by rw [ex28]; exact wr_wr _
  replace h := h x28 ex28
  refine j_iinc (lv' := [(1, vI x28), (0, vR E 41)]) hc 1 dX2_passNight_46 rfl (by decide) ex28 rfl ?_
  refine j_goto (tgt := 2) hc dX2_passNight_49 (by decide) ?_
  refine j_sub (lv' := [(0, vR E 41), (1, vI x28)]) [1, 0] rfl ?_
  exact hk2 cx28 h
set_option maxRecDepth 20000 in
theorem jb_X2_passNight_122 {X : jj_X} {E : ev_E} {n0 hN : Nat} (hc : Cx X E cX2_passNight 2 n0 hN RX2) (hm : eM E = 1) (hr : (xT X).sig.returnType = none) (hh : 5 ≤ hN) {Q : st_S → Prop} {k67 : Int → st_S → Prop} (hk67 : ∀ {l1 : Int} (cl1 : wr l1 = l1) {σ : st_S}, k67 l1 σ → J X E 2 n0 0 0 (MQ (xB X) (qV E (n0 + 0) Q) (xA X) (xS X) 0 0 (eF E)) σ 67 [(0, vR E 41), (1, vI l1)] []) {l1 : Int} (cl1 : wr l1 = l1) {σ : st_S} (h : B_X2_passNight_122 Q k67 l1 σ) : J X E 2 n0 0 0 (MQ (xB X) (qV E (n0 + 0) Q) (xA X) (xS X) 0 0 (eF E)) σ 122 [(0, vR E 41), (1, vI l1)] [] := by
  have hh1 : 1 ≤ hN := by omega
  replace h : ∀ x29 : Int, x29 = wr (l1 + 1) → k67 x29 σ := h
  obtain ⟨x29, ex29⟩ : ∃ y : Int, y = wr (l1 + 1) := ⟨_, rfl⟩
  have cx29 : wr x29 = x29 := by rw [ex29]; exact wr_wr _
  replace h := h x29 ex29
  refine j_iinc (lv' := [(1, vI x29), (0, vR E 41)]) hc 1 dX2_passNight_122 rfl (by decide) ex29 rfl ?_
  refine j_goto (tgt := 67) hc dX2_passNight_125 (by decide) ?_
  refine j_sub (lv' := [(0, vR E 41), (1, vI x29)]) [1, 0] rfl ?_
  exact hk67 cx29 h
set_option maxRecDepth 20000 in
theorem jl_X2_passNight_67 {X : jj_X} {E : ev_E} {n0 hN : Nat} (hc : Cx X E cX2_passNight 2 n0 hN RX2) (hm : eM E = 1) (hr : (xT X).sig.returnType = none) (hh : 5 ≤ hN) {Q : st_S → Prop} : ∀ (n : Nat) {l1 : Int} (cl1 : wr l1 = l1) {σ : st_S}, L_X2_passNight_67 Q n l1 σ → J X E 2 n0 0 0 (MQ (xB X) (qV E (n0 + 0) Q) (xA X) (xS X) 0 0 (eF E)) σ 67 [(0, vR E 41), (1, vI l1)] [] := by
  have hh1 : 1 ≤ hN := by omega
  intro n
  induction n with
  | zero => intro l1 cl1 σ h; exact h.elim
  | succ n ih =>
    intro l1 cl1 σ h
    have hk67 : ∀ {l1 : Int} (cl1 : wr l1 = l1) {σ : st_S}, L_X2_passNight_67 Q n l1 σ → J X E 2 n0 0 0 (MQ (xB X) (qV E (n0 + 0) Q) (xA X) (xS X) 0 0 (eF E)) σ 67 [(0, vR E 41), (1, vI l1)] [] := ih
    replace h : (gI σ 25 0 ≤ l1 → Q σ) ∧ (¬ gI σ 25 0 ≤ l1 → ix l1 10 ∧ (¬ gI σ 29 (Int.toNat l1) = 1 → B_X2_passNight_122 Q (L_X2_passNight_67 Q n) l1 σ) ∧ (gI σ 29 (Int.toNat l1) = 1 → ix l1 10 ∧ (gI σ 33 0 < gI σ 30 (Int.toNat l1) → B_X2_passNight_122 Q (L_X2_passNight_67 Q n) l1 σ) ∧ (¬ gI σ 33 0 < gI σ 30 (Int.toNat l1) → ix l1 10 ∧ ∀ s37 : st_S, s37 = sI σ 29 (Int.toNat l1) 2 → B_X2_passNight_122 Q (L_X2_passNight_67 Q n) l1 s37))) := h
    refine j_iload_n hc 1 dX2_passNight_67 rfl rfl ?_
    refine j_aload_nR hc 0 dX2_passNight_68 rfl rfl ?_
    refine j_getR (c' := 25) hc fl_RX2_9 rfl rfl (fun hv => (sv_k hv hm rfl)) dX2_passNight_69 ?_
    refine j_getI hc fl_RX2_58 (Or.inl rfl) (fun hv => Or.inl (sv_k hv hm rfl)) dX2_passNight_72 (fun cn30 => ?_)
    refine j_ic_ge hc cl1 cn30 (tgt := 128) dX2_passNight_75 (by decide) (fun q40 => ?_) (fun q40 => ?_)
    · replace h := h.1 q40
      exact j_vret hc hr h dX2_passNight_128
    · replace h := h.2 q40
      refine j_aload_nR hc 0 dX2_passNight_78 rfl rfl ?_
      refine j_getR (c' := 25) hc fl_RX2_9 rfl rfl (fun hv => (sv_k hv hm rfl)) dX2_passNight_79 ?_
      refine j_getR (c' := 29) hc fl_RX2_29 rfl rfl (fun hv => (sv_k hv hm rfl)) dX2_passNight_82 ?_
      refine j_iload_n hc 1 dX2_passNight_85 rfl rfl ?_
      obtain ⟨b31, h⟩ := h
      refine j_iald (jn := (Int.toNat l1)) hc (fun hv => sv_kl hv hm rfl) cl1 b31 rfl dX2_passNight_86 (fun cn32 => ?_)
      refine j_iconst hc dX2_passNight_87 ?_
      refine j_ic_ne hc cn32 (wlit 1 (by decide)) (tgt := 122) dX2_passNight_88 (by decide) (fun q39 => ?_) (fun q39 => ?_)
      · replace h := h.1 q39
        refine j_sub (lv' := [(0, vR E 41), (1, vI l1)]) [0, 1] rfl ?_
        exact jb_X2_passNight_122 hc hm hr hh hk67 cl1 h
      · replace h := h.2 q39
        refine j_aload_nR hc 0 dX2_passNight_91 rfl rfl ?_
        refine j_getR (c' := 25) hc fl_RX2_9 rfl rfl (fun hv => (sv_k hv hm rfl)) dX2_passNight_92 ?_
        refine j_getR (c' := 30) hc fl_RX2_52 rfl rfl (fun hv => (sv_k hv hm rfl)) dX2_passNight_95 ?_
        refine j_iload_n hc 1 dX2_passNight_98 rfl rfl ?_
        obtain ⟨b33, h⟩ := h
        refine j_iald (jn := (Int.toNat l1)) hc (fun hv => sv_kl hv hm rfl) cl1 b33 rfl dX2_passNight_99 (fun cn34 => ?_)
        refine j_aload_nR hc 0 dX2_passNight_100 rfl rfl ?_
        refine j_getR (c' := 25) hc fl_RX2_9 rfl rfl (fun hv => (sv_k hv hm rfl)) dX2_passNight_101 ?_
        refine j_getR (c' := 33) hc fl_RX2_55 rfl rfl (fun hv => (sv_k hv hm rfl)) dX2_passNight_104 ?_
        refine j_iconst hc dX2_passNight_107 ?_
        refine j_iald (jn := 0) hc (fun hv => sv_kl hv hm rfl) (wlit 0 (by decide)) ⟨by decide, by decide⟩ rfl dX2_passNight_108 (fun cn35 => ?_)
        refine j_ic_gt hc cn34 cn35 (tgt := 122) dX2_passNight_109 (by decide) (fun q38 => ?_) (fun q38 => ?_)
        · replace h := h.1 q38
          refine j_sub (lv' := [(0, vR E 41), (1, vI l1)]) [0, 1] rfl ?_
          exact jb_X2_passNight_122 hc hm hr hh hk67 cl1 h
        · replace h := h.2 q38
          refine j_aload_nR hc 0 dX2_passNight_112 rfl rfl ?_
          refine j_getR (c' := 25) hc fl_RX2_9 rfl rfl (fun hv => (sv_k hv hm rfl)) dX2_passNight_113 ?_
          refine j_getR (c' := 29) hc fl_RX2_29 rfl rfl (fun hv => (sv_k hv hm rfl)) dX2_passNight_116 ?_
          refine j_iload_n hc 1 dX2_passNight_119 rfl rfl ?_
          refine j_iconst hc dX2_passNight_120 ?_
          obtain ⟨b36, h⟩ := h
          refine j_iast (jn := (Int.toNat l1)) hc (fun hv => sv_kl hv hm rfl) cl1 b36 rfl (wlit 2 (by decide)) dX2_passNight_121 (fun s37 es37 => ?_)
          replace h := h s37 es37
          refine j_sub (lv' := [(0, vR E 41), (1, vI l1)]) [0, 1] rfl ?_
          exact jb_X2_passNight_122 hc hm hr hh hk67 cl1 h
set_option maxRecDepth 20000 in
theorem jl_X2_passNight_2 {X : jj_X} {E : ev_E} {n0 hN : Nat} (hc : Cx X E cX2_passNight 2 n0 hN RX2) (hm : eM E = 1) (hr : (xT X).sig.returnType = none) (hh : 5 ≤ hN) {Q : st_S → Prop} : ∀ (n : Nat) {l1 : Int} (cl1 : wr l1 = l1) {σ : st_S}, L_X2_passNight_2 Q n l1 σ → J X E 2 n0 0 0 (MQ (xB X) (qV E (n0 + 0) Q) (xA X) (xS X) 0 0 (eF E)) σ 2 [(0, vR E 41), (1, vI l1)] [] := by
  have hh1 : 1 ≤ hN := by omega
  intro n
  induction n with
  | zero => intro l1 cl1 σ h; exact h.elim
  | succ n ih =>
    intro l1 cl1 σ h
    have hk2 : ∀ {l1 : Int} (cl1 : wr l1 = l1) {σ : st_S}, L_X2_passNight_2 Q n l1 σ → J X E 2 n0 0 0 (MQ (xB X) (qV E (n0 + 0) Q) (xA X) (xS X) 0 0 (eF E)) σ 2 [(0, vR E 41), (1, vI l1)] [] := ih
    replace h : (gI σ 25 0 ≤ l1 → ∀ x43 : Int, x43 = wr (gI σ 33 0 + 1) → ∀ s44 : st_S, s44 = sI σ 33 0 x43 → ∃ m67 : Nat, L_X2_passNight_67 Q m67 0 s44) ∧ (¬ gI σ 25 0 ≤ l1 → ix l1 10 ∧ (¬ gI σ 29 (Int.toNat l1) = 2 → B_X2_passNight_46 Q (L_X2_passNight_2 Q n) l1 σ) ∧ (gI σ 29 (Int.toNat l1) = 2 → wp_X3_lodges l1 σ (fun r48 s49 => ∀ x50 : Int, x50 = wr (gI σ 25 14 + r48) → ∀ s51 : st_S, s51 = sI s49 25 14 x50 → B_X2_passNight_46 Q (L_X2_passNight_2 Q n) l1 s51))) := h
    refine j_iload_n hc 1 dX2_passNight_2 rfl rfl ?_
    refine j_aload_nR hc 0 dX2_passNight_3 rfl rfl ?_
    refine j_getR (c' := 25) hc fl_RX2_9 rfl rfl (fun hv => (sv_k hv hm rfl)) dX2_passNight_4 ?_
    refine j_getI hc fl_RX2_58 (Or.inl rfl) (fun hv => Or.inl (sv_k hv hm rfl)) dX2_passNight_7 (fun cn41 => ?_)
    refine j_ic_ge hc cl1 cn41 (tgt := 52) dX2_passNight_10 (by decide) (fun q53 => ?_) (fun q53 => ?_)
    · replace h := h.1 q53
      refine j_aload_nR hc 0 dX2_passNight_52 rfl rfl ?_
      refine j_getR (c' := 25) hc fl_RX2_9 rfl rfl (fun hv => (sv_k hv hm rfl)) dX2_passNight_53 ?_
      refine j_getR (c' := 33) hc fl_RX2_55 rfl rfl (fun hv => (sv_k hv hm rfl)) dX2_passNight_56 ?_
      refine j_iconst hc dX2_passNight_59 ?_
      refine j_dup2 hc dX2_passNight_60 rfl rfl ?_
      refine j_iald (jn := 0) hc (fun hv => sv_kl hv hm rfl) (wlit 0 (by decide)) ⟨by decide, by decide⟩ rfl dX2_passNight_61 (fun cn42 => ?_)
      refine j_iconst hc dX2_passNight_62 ?_
      refine j_iadd hc dX2_passNight_63 ?_
      refine j_w (fun x43 ex43 cx43 => ?_)
      replace h := h x43 ex43
      refine j_iast (jn := 0) hc (fun hv => sv_kl hv hm rfl) (wlit 0 (by decide)) ⟨by decide, by decide⟩ rfl cx43 dX2_passNight_64 (fun s44 es44 => ?_)
      replace h := h s44 es44
      refine j_iconst hc dX2_passNight_65 ?_
      refine j_istore_n (lv' := [(1, vI 0), (0, vR E 41)]) hc dX2_passNight_66 rfl (by decide) rfl ?_
      obtain ⟨n67, h⟩ := h
      refine j_sub (lv' := [(0, vR E 41), (1, vI 0)]) [1, 0] rfl ?_
      exact jl_X2_passNight_67 hc hm hr hh n67 (wlit 0 (by decide)) h
    · replace h := h.2 q53
      refine j_aload_nR hc 0 dX2_passNight_13 rfl rfl ?_
      refine j_getR (c' := 25) hc fl_RX2_9 rfl rfl (fun hv => (sv_k hv hm rfl)) dX2_passNight_14 ?_
      refine j_getR (c' := 29) hc fl_RX2_29 rfl rfl (fun hv => (sv_k hv hm rfl)) dX2_passNight_17 ?_
      refine j_iload_n hc 1 dX2_passNight_20 rfl rfl ?_
      obtain ⟨b45, h⟩ := h
      refine j_iald (jn := (Int.toNat l1)) hc (fun hv => sv_kl hv hm rfl) cl1 b45 rfl dX2_passNight_21 (fun cn46 => ?_)
      refine j_iconst hc dX2_passNight_22 ?_
      refine j_ic_ne hc cn46 (wlit 2 (by decide)) (tgt := 46) dX2_passNight_23 (by decide) (fun q52 => ?_) (fun q52 => ?_)
      · replace h := h.1 q52
        refine j_sub (lv' := [(0, vR E 41), (1, vI l1)]) [0, 1] rfl ?_
        exact jb_X2_passNight_46 hc hm hr hh hk2 cl1 h
      · replace h := h.2 q52
        refine j_aload_nR hc 0 dX2_passNight_26 rfl rfl ?_
        refine j_getR (c' := 25) hc fl_RX2_9 rfl rfl (fun hv => (sv_k hv hm rfl)) dX2_passNight_27 ?_
        refine j_dup hc dX2_passNight_30 rfl ?_
        refine j_getI hc fl_RX2_48 (Or.inl rfl) (fun hv => Or.inl (sv_k hv hm rfl)) dX2_passNight_31 (fun cn47 => ?_)
        refine j_aload_nR hc 0 dX2_passNight_34 rfl rfl ?_
        refine j_getR (c' := 35) hc fl_RX2_15 rfl rfl (fun hv => (sv_k hv hm rfl)) dX2_passNight_35 ?_
        refine j_iload_n hc 1 dX2_passNight_38 rfl rfl ?_
        refine j_vI hc (k := 3) (by decide) (fun hv => Or.inl (sv_k hv hm rfl)) ml_RX2_107 mv_X3_lodges (As := [vI l1]) (c_X3_lodges (cx_E hc) hm cl1 h) rfl (by omega) (by decide) ⟨Nat.zero_le _, Nat.zero_le _⟩ (Nat.le_of_ble_eq_true rfl) rfl dX2_passNight_39 (fun r48 s49 cr48 h => ?_)
        refine j_iadd hc dX2_passNight_42 ?_
        refine j_w (fun x50 ex50 cx50 => ?_)
        replace h := h x50 ex50
        refine j_putI hc fl_RX2_48 rfl rfl (fun hv => Or.inl (sv_k hv hm rfl)) cx50 dX2_passNight_43 (fun s51 es51 => ?_)
        replace h := h s51 es51
        refine j_sub (lv' := [(0, vR E 41), (1, vI l1)]) [0, 1] rfl ?_
        exact jb_X2_passNight_46 hc hm hr hh hk2 cl1 h
set_option maxRecDepth 20000 in
theorem c_X2_passNight {l : Launch} {E : ev_E} (hE : Eok E) (hm : eM E = 1) {σ : st_S} {Q : st_S → Prop} (h : wp_X2_passNight σ Q) : cM l yX2_passNight cX2_passNight 2 none E 5 0 0 [vR E 41] σ (qV E (gN σ + 0) Q) := by
  refine cM_of (lv := [(0, vR E 41)]) (by decide) hE (Nat.le_of_ble_eq_true rfl) (rfl) ?_
  intro X hX hc _ _ hr _ _
  subst hX
  have hh : 5 ≤ 5 := Nat.le_refl _
  have hh1 : 1 ≤ 5 := by omega
  replace h : ∃ m2 : Nat, L_X2_passNight_2 Q m2 0 σ := h
  refine j_iconst hc dX2_passNight_0 ?_
  refine j_istore_n (lv' := [(1, vI 0), (0, vR E 41)]) hc dX2_passNight_1 rfl (by decide) rfl ?_
  obtain ⟨n2, h⟩ := h
  refine j_sub (lv' := [(0, vR E 41), (1, vI 0)]) [1, 0] rfl ?_
  exact jl_X2_passNight_2 hc hm hr hh n2 (wlit 0 (by decide)) h
-- LitStrangers$Deeds.spoilBy(I)V
theorem dX2_spoilBy_0 : decode cX2_spoilBy 0 = .ok (.iconst 0, 1) := by decide +kernel
theorem dX2_spoilBy_1 : decode cX2_spoilBy 1 = .ok (.istore_n 2, 1) := by decide +kernel
theorem dX2_spoilBy_2 : decode cX2_spoilBy 2 = .ok (.iload_n 2, 1) := by decide +kernel
theorem dX2_spoilBy_3 : decode cX2_spoilBy 3 = .ok (.aload_n 0, 1) := by decide +kernel
theorem dX2_spoilBy_4 : decode cX2_spoilBy 4 = .ok (.getfield 9, 3) := by decide +kernel
theorem dX2_spoilBy_7 : decode cX2_spoilBy 7 = .ok (.getfield 58, 3) := by decide +kernel
theorem dX2_spoilBy_10 : decode cX2_spoilBy 10 = .ok (.if_icmp .ge 68, 3) := by decide +kernel
theorem dX2_spoilBy_13 : decode cX2_spoilBy 13 = .ok (.aload_n 0, 1) := by decide +kernel
theorem dX2_spoilBy_14 : decode cX2_spoilBy 14 = .ok (.getfield 9, 3) := by decide +kernel
theorem dX2_spoilBy_17 : decode cX2_spoilBy 17 = .ok (.iload_n 1, 1) := by decide +kernel
theorem dX2_spoilBy_18 : decode cX2_spoilBy 18 = .ok (.iload_n 2, 1) := by decide +kernel
theorem dX2_spoilBy_19 : decode cX2_spoilBy 19 = .ok (.invokevirtual 91, 3) := by decide +kernel
theorem dX2_spoilBy_22 : decode cX2_spoilBy 22 = .ok (.ifCond .eq 50, 3) := by decide +kernel
theorem dX2_spoilBy_25 : decode cX2_spoilBy 25 = .ok (.aload_n 0, 1) := by decide +kernel
theorem dX2_spoilBy_26 : decode cX2_spoilBy 26 = .ok (.getfield 9, 3) := by decide +kernel
theorem dX2_spoilBy_29 : decode cX2_spoilBy 29 = .ok (.getfield 29, 3) := by decide +kernel
theorem dX2_spoilBy_32 : decode cX2_spoilBy 32 = .ok (.iload_n 2, 1) := by decide +kernel
theorem dX2_spoilBy_33 : decode cX2_spoilBy 33 = .ok (.iaload, 1) := by decide +kernel
theorem dX2_spoilBy_34 : decode cX2_spoilBy 34 = .ok (.iconst 3, 1) := by decide +kernel
theorem dX2_spoilBy_35 : decode cX2_spoilBy 35 = .ok (.if_icmp .eq 37, 3) := by decide +kernel
theorem dX2_spoilBy_38 : decode cX2_spoilBy 38 = .ok (.aload_n 0, 1) := by decide +kernel
theorem dX2_spoilBy_39 : decode cX2_spoilBy 39 = .ok (.getfield 9, 3) := by decide +kernel
theorem dX2_spoilBy_42 : decode cX2_spoilBy 42 = .ok (.getfield 95, 3) := by decide +kernel
theorem dX2_spoilBy_45 : decode cX2_spoilBy 45 = .ok (.iload_n 2, 1) := by decide +kernel
theorem dX2_spoilBy_46 : decode cX2_spoilBy 46 = .ok (.iaload, 1) := by decide +kernel
theorem dX2_spoilBy_47 : decode cX2_spoilBy 47 = .ok (.aload_n 0, 1) := by decide +kernel
theorem dX2_spoilBy_48 : decode cX2_spoilBy 48 = .ok (.getfield 15, 3) := by decide +kernel
theorem dX2_spoilBy_51 : decode cX2_spoilBy 51 = .ok (.iload_n 1, 1) := by decide +kernel
theorem dX2_spoilBy_52 : decode cX2_spoilBy 52 = .ok (.iload_n 2, 1) := by decide +kernel
theorem dX2_spoilBy_53 : decode cX2_spoilBy 53 = .ok (.invokevirtual 98, 3) := by decide +kernel
theorem dX2_spoilBy_56 : decode cX2_spoilBy 56 = .ok (.iadd, 1) := by decide +kernel
theorem dX2_spoilBy_57 : decode cX2_spoilBy 57 = .ok (.istore_n 3, 1) := by decide +kernel
theorem dX2_spoilBy_58 : decode cX2_spoilBy 58 = .ok (.aload_n 0, 1) := by decide +kernel
theorem dX2_spoilBy_59 : decode cX2_spoilBy 59 = .ok (.getfield 9, 3) := by decide +kernel
theorem dX2_spoilBy_62 : decode cX2_spoilBy 62 = .ok (.getfield 95, 3) := by decide +kernel
theorem dX2_spoilBy_65 : decode cX2_spoilBy 65 = .ok (.iload_n 2, 1) := by decide +kernel
theorem dX2_spoilBy_66 : decode cX2_spoilBy 66 = .ok (.iconst 2, 1) := by decide +kernel
theorem dX2_spoilBy_67 : decode cX2_spoilBy 67 = .ok (.iload_n 3, 1) := by decide +kernel
theorem dX2_spoilBy_68 : decode cX2_spoilBy 68 = .ok (.invokestatic 102, 3) := by decide +kernel
theorem dX2_spoilBy_71 : decode cX2_spoilBy 71 = .ok (.iastore, 1) := by decide +kernel
theorem dX2_spoilBy_72 : decode cX2_spoilBy 72 = .ok (.iinc 2 1, 3) := by decide +kernel
theorem dX2_spoilBy_75 : decode cX2_spoilBy 75 = .ok (.goto (-73), 3) := by decide +kernel
theorem dX2_spoilBy_78 : decode cX2_spoilBy 78 = .ok (.return_, 1) := by decide +kernel
def B_X2_spoilBy_72 (Q : st_S → Prop)  (k2 : Int → Int → st_S → Prop) (l1 : Int) (l2 : Int) (σ : st_S) : Prop := ∀ x17 : Int, x17 = wr (l2 + 1) → k2 l1 x17 σ
def L_X2_spoilBy_2 (Q : st_S → Prop)   : Nat → Int → Int → st_S → Prop
  | 0 => fun _ _ _ => False
  | n + 1 => fun l1 l2 σ => (gI σ 25 0 ≤ l2 → Q σ) ∧ (¬ gI σ 25 0 ≤ l2 → wp_X1_talks l1 l2 σ (fun r19 s20 => (r19 = 0 → B_X2_spoilBy_72 Q (L_X2_spoilBy_2 Q n) l1 l2 s20) ∧ (¬ r19 = 0 → ix l2 10 ∧ (gI s20 29 (Int.toNat l2) = 3 → B_X2_spoilBy_72 Q (L_X2_spoilBy_2 Q n) l1 l2 s20) ∧ (¬ gI s20 29 (Int.toNat l2) = 3 → ix l2 10 ∧ wp_X3_spoils l1 l2 s20 (fun r25 s26 => ∀ x27 : Int, x27 = wr (gI s20 28 (Int.toNat l2) + r25) → ix l2 10 ∧ ∀ s30 : st_S, s30 = sI s26 28 (Int.toNat l2) (o_min 2 x27) → B_X2_spoilBy_72 Q (L_X2_spoilBy_2 Q n) l1 l2 s30)))))
def wp_X2_spoilBy (a1 : Int) (σ : st_S) (Q : st_S → Prop) : Prop := ∃ m2 : Nat, L_X2_spoilBy_2 Q m2 a1 0 σ
set_option maxRecDepth 20000 in
theorem jb_X2_spoilBy_72 {X : jj_X} {E : ev_E} {n0 hN : Nat} (hc : Cx X E cX2_spoilBy 4 n0 hN RX2) (hm : eM E = 1) (hr : (xT X).sig.returnType = none) (hh : 5 ≤ hN) {Q : st_S → Prop} {k2 : Int → Int → st_S → Prop} (hk2 : ∀ {l1 : Int} {l2 : Int} (cl1 : wr l1 = l1) (cl2 : wr l2 = l2) {σ : st_S}, k2 l1 l2 σ → J X E 4 n0 0 0 (MQ (xB X) (qV E (n0 + 0) Q) (xA X) (xS X) 0 0 (eF E)) σ 2 [(0, vR E 41), (1, vI l1), (2, vI l2)] []) {l1 : Int} {l2 : Int} (cl1 : wr l1 = l1) (cl2 : wr l2 = l2) {σ : st_S} (h : B_X2_spoilBy_72 Q k2 l1 l2 σ) : J X E 4 n0 0 0 (MQ (xB X) (qV E (n0 + 0) Q) (xA X) (xS X) 0 0 (eF E)) σ 72 [(0, vR E 41), (1, vI l1), (2, vI l2)] [] := by
  have hh1 : 1 ≤ hN := by omega
  replace h : ∀ x17 : Int, x17 = wr (l2 + 1) → k2 l1 x17 σ := h
  obtain ⟨x17, ex17⟩ : ∃ y : Int, y = wr (l2 + 1) := ⟨_, rfl⟩
  have cx17 : wr x17 = x17 := by rw [ex17]; exact wr_wr _
  replace h := h x17 ex17
  refine j_iinc (lv' := [(2, vI x17), (0, vR E 41), (1, vI l1)]) hc 2 dX2_spoilBy_72 rfl (by decide) ex17 rfl ?_
  refine j_goto (tgt := 2) hc dX2_spoilBy_75 (by decide) ?_
  refine j_sub (lv' := [(0, vR E 41), (1, vI l1), (2, vI x17)]) [1, 2, 0] rfl ?_
  exact hk2 cl1 cx17 h
set_option maxRecDepth 20000 in
theorem jl_X2_spoilBy_2 {X : jj_X} {E : ev_E} {n0 hN : Nat} (hc : Cx X E cX2_spoilBy 4 n0 hN RX2) (hm : eM E = 1) (hr : (xT X).sig.returnType = none) (hh : 5 ≤ hN) {Q : st_S → Prop} : ∀ (n : Nat) {l1 : Int} {l2 : Int} (cl1 : wr l1 = l1) (cl2 : wr l2 = l2) {σ : st_S}, L_X2_spoilBy_2 Q n l1 l2 σ → J X E 4 n0 0 0 (MQ (xB X) (qV E (n0 + 0) Q) (xA X) (xS X) 0 0 (eF E)) σ 2 [(0, vR E 41), (1, vI l1), (2, vI l2)] [] := by
  have hh1 : 1 ≤ hN := by omega
  intro n
  induction n with
  | zero => intro l1 l2 cl1 cl2 σ h; exact h.elim
  | succ n ih =>
    intro l1 l2 cl1 cl2 σ h
    have hk2 : ∀ {l1 : Int} {l2 : Int} (cl1 : wr l1 = l1) (cl2 : wr l2 = l2) {σ : st_S}, L_X2_spoilBy_2 Q n l1 l2 σ → J X E 4 n0 0 0 (MQ (xB X) (qV E (n0 + 0) Q) (xA X) (xS X) 0 0 (eF E)) σ 2 [(0, vR E 41), (1, vI l1), (2, vI l2)] [] := ih
    replace h : (gI σ 25 0 ≤ l2 → Q σ) ∧ (¬ gI σ 25 0 ≤ l2 → wp_X1_talks l1 l2 σ (fun r19 s20 => (r19 = 0 → B_X2_spoilBy_72 Q (L_X2_spoilBy_2 Q n) l1 l2 s20) ∧ (¬ r19 = 0 → ix l2 10 ∧ (gI s20 29 (Int.toNat l2) = 3 → B_X2_spoilBy_72 Q (L_X2_spoilBy_2 Q n) l1 l2 s20) ∧ (¬ gI s20 29 (Int.toNat l2) = 3 → ix l2 10 ∧ wp_X3_spoils l1 l2 s20 (fun r25 s26 => ∀ x27 : Int, x27 = wr (gI s20 28 (Int.toNat l2) + r25) → ix l2 10 ∧ ∀ s30 : st_S, s30 = sI s26 28 (Int.toNat l2) (o_min 2 x27) → B_X2_spoilBy_72 Q (L_X2_spoilBy_2 Q n) l1 l2 s30))))) := h
    refine j_iload_n hc 2 dX2_spoilBy_2 rfl rfl ?_
    refine j_aload_nR hc 0 dX2_spoilBy_3 rfl rfl ?_
    refine j_getR (c' := 25) hc fl_RX2_9 rfl rfl (fun hv => (sv_k hv hm rfl)) dX2_spoilBy_4 ?_
    refine j_getI hc fl_RX2_58 (Or.inl rfl) (fun hv => Or.inl (sv_k hv hm rfl)) dX2_spoilBy_7 (fun cn18 => ?_)
    refine j_ic_ge hc cl2 cn18 (tgt := 78) dX2_spoilBy_10 (by decide) (fun q33 => ?_) (fun q33 => ?_)
    · replace h := h.1 q33
      exact j_vret hc hr h dX2_spoilBy_78
    · replace h := h.2 q33
      refine j_aload_nR hc 0 dX2_spoilBy_13 rfl rfl ?_
      refine j_getR (c' := 25) hc fl_RX2_9 rfl rfl (fun hv => (sv_k hv hm rfl)) dX2_spoilBy_14 ?_
      refine j_iload_n hc 1 dX2_spoilBy_17 rfl rfl ?_
      refine j_iload_n hc 2 dX2_spoilBy_18 rfl rfl ?_
      refine j_vI hc (k := 1) (by decide) (fun hv => Or.inl (sv_k hv hm rfl)) ml_RX2_91 mv_X1_talks (As := [vI l1, vI l2]) (c_X1_talks (cx_E hc) hm cl1 cl2 h) rfl (by omega) (by decide) ⟨Nat.zero_le _, Nat.zero_le _⟩ (Nat.le_of_ble_eq_true rfl) rfl dX2_spoilBy_19 (fun r19 s20 cr19 h => ?_)
      refine j_if_eq hc cr19 (tgt := 72) dX2_spoilBy_22 (by decide) (fun q32 => ?_) (fun q32 => ?_)
      · replace h := h.1 q32
        refine j_sub (lv' := [(0, vR E 41), (1, vI l1), (2, vI l2)]) [0, 1, 2] rfl ?_
        exact jb_X2_spoilBy_72 hc hm hr hh hk2 cl1 cl2 h
      · replace h := h.2 q32
        refine j_aload_nR hc 0 dX2_spoilBy_25 rfl rfl ?_
        refine j_getR (c' := 25) hc fl_RX2_9 rfl rfl (fun hv => (sv_k hv hm rfl)) dX2_spoilBy_26 ?_
        refine j_getR (c' := 29) hc fl_RX2_29 rfl rfl (fun hv => (sv_k hv hm rfl)) dX2_spoilBy_29 ?_
        refine j_iload_n hc 2 dX2_spoilBy_32 rfl rfl ?_
        obtain ⟨b21, h⟩ := h
        refine j_iald (jn := (Int.toNat l2)) hc (fun hv => sv_kl hv hm rfl) cl2 b21 rfl dX2_spoilBy_33 (fun cn22 => ?_)
        refine j_iconst hc dX2_spoilBy_34 ?_
        refine j_ic_eq hc cn22 (wlit 3 (by decide)) (tgt := 72) dX2_spoilBy_35 (by decide) (fun q31 => ?_) (fun q31 => ?_)
        · replace h := h.1 q31
          refine j_sub (lv' := [(0, vR E 41), (1, vI l1), (2, vI l2)]) [0, 1, 2] rfl ?_
          exact jb_X2_spoilBy_72 hc hm hr hh hk2 cl1 cl2 h
        · replace h := h.2 q31
          refine j_aload_nR hc 0 dX2_spoilBy_38 rfl rfl ?_
          refine j_getR (c' := 25) hc fl_RX2_9 rfl rfl (fun hv => (sv_k hv hm rfl)) dX2_spoilBy_39 ?_
          refine j_getR (c' := 28) hc fl_RX2_95 rfl rfl (fun hv => (sv_k hv hm rfl)) dX2_spoilBy_42 ?_
          refine j_iload_n hc 2 dX2_spoilBy_45 rfl rfl ?_
          obtain ⟨b23, h⟩ := h
          refine j_iald (jn := (Int.toNat l2)) hc (fun hv => sv_kl hv hm rfl) cl2 b23 rfl dX2_spoilBy_46 (fun cn24 => ?_)
          refine j_aload_nR hc 0 dX2_spoilBy_47 rfl rfl ?_
          refine j_getR (c' := 35) hc fl_RX2_15 rfl rfl (fun hv => (sv_k hv hm rfl)) dX2_spoilBy_48 ?_
          refine j_iload_n hc 1 dX2_spoilBy_51 rfl rfl ?_
          refine j_iload_n hc 2 dX2_spoilBy_52 rfl rfl ?_
          refine j_vI hc (k := 3) (by decide) (fun hv => Or.inl (sv_k hv hm rfl)) ml_RX2_98 mv_X3_spoils (As := [vI l1, vI l2]) (c_X3_spoils (cx_E hc) hm cl1 cl2 h) rfl (by omega) (by decide) ⟨Nat.zero_le _, Nat.zero_le _⟩ (Nat.le_of_ble_eq_true rfl) rfl dX2_spoilBy_53 (fun r25 s26 cr25 h => ?_)
          refine j_iadd hc dX2_spoilBy_56 ?_
          refine j_w (fun x27 ex27 cx27 => ?_)
          replace h := h x27 ex27
          refine j_istore_n (lv' := [(3, vI x27), (0, vR E 41), (1, vI l1), (2, vI l2)]) hc dX2_spoilBy_57 rfl (by decide) rfl ?_
          refine j_aload_nR hc 1 dX2_spoilBy_58 rfl rfl ?_
          refine j_getR (c' := 25) hc fl_RX2_9 rfl rfl (fun hv => (sv_k hv hm rfl)) dX2_spoilBy_59 ?_
          refine j_getR (c' := 28) hc fl_RX2_95 rfl rfl (fun hv => (sv_k hv hm rfl)) dX2_spoilBy_62 ?_
          refine j_iload_n hc 3 dX2_spoilBy_65 rfl rfl ?_
          refine j_iconst hc dX2_spoilBy_66 ?_
          refine j_iload_n hc 0 dX2_spoilBy_67 rfl rfl ?_
          refine j_mmin hc mm_RX2_102 hh1 (wlit 2 (by decide)) cx27 (Nat.le_of_ble_eq_true rfl) ⟨Nat.zero_le _, Nat.zero_le _⟩ dX2_spoilBy_68 (fun cn28 => ?_)
          obtain ⟨b29, h⟩ := h
          refine j_iast (jn := (Int.toNat l2)) hc (fun hv => sv_kl hv hm rfl) cl2 b29 rfl cn28 dX2_spoilBy_71 (fun s30 es30 => ?_)
          replace h := h s30 es30
          refine j_sub (lv' := [(0, vR E 41), (1, vI l1), (2, vI l2)]) [1, 2, 3] rfl ?_
          exact jb_X2_spoilBy_72 hc hm hr hh hk2 cl1 cl2 h
set_option maxRecDepth 20000 in
theorem c_X2_spoilBy {l : Launch} {E : ev_E} (hE : Eok E) (hm : eM E = 1) {a1 : Int} (ca1 : wr a1 = a1) {σ : st_S} {Q : st_S → Prop} (h : wp_X2_spoilBy a1 σ Q) : cM l yX2_spoilBy cX2_spoilBy 4 none E 5 0 0 [vR E 41, vI a1] σ (qV E (gN σ + 0) Q) := by
  refine cM_of (lv := [(0, vR E 41), (1, vI a1)]) (by decide) hE (Nat.le_of_ble_eq_true rfl) (rfl) ?_
  intro X hX hc _ _ hr _ _
  subst hX
  have hh : 5 ≤ 5 := Nat.le_refl _
  have hh1 : 1 ≤ 5 := by omega
  replace h : ∃ m2 : Nat, L_X2_spoilBy_2 Q m2 a1 0 σ := h
  refine j_iconst hc dX2_spoilBy_0 ?_
  refine j_istore_n (lv' := [(2, vI 0), (0, vR E 41), (1, vI a1)]) hc dX2_spoilBy_1 rfl (by decide) rfl ?_
  obtain ⟨n2, h⟩ := h
  refine j_sub (lv' := [(0, vR E 41), (1, vI a1), (2, vI 0)]) [1, 2, 0] rfl ?_
  exact jl_X2_spoilBy_2 hc hm hr hh n2 ca1 (wlit 0 (by decide)) h
-- LitStrangers$Deeds.worthOf(I)I
theorem dX2_worthOf_0 : decode cX2_worthOf 0 = .ok (.iconst 0, 1) := by decide +kernel
theorem dX2_worthOf_1 : decode cX2_worthOf 1 = .ok (.istore_n 2, 1) := by decide +kernel
theorem dX2_worthOf_2 : decode cX2_worthOf 2 = .ok (.iconst 0, 1) := by decide +kernel
theorem dX2_worthOf_3 : decode cX2_worthOf 3 = .ok (.istore_n 3, 1) := by decide +kernel
theorem dX2_worthOf_4 : decode cX2_worthOf 4 = .ok (.iload_n 3, 1) := by decide +kernel
theorem dX2_worthOf_5 : decode cX2_worthOf 5 = .ok (.aload_n 0, 1) := by decide +kernel
theorem dX2_worthOf_6 : decode cX2_worthOf 6 = .ok (.getfield 9, 3) := by decide +kernel
theorem dX2_worthOf_9 : decode cX2_worthOf 9 = .ok (.getfield 58, 3) := by decide +kernel
theorem dX2_worthOf_12 : decode cX2_worthOf 12 = .ok (.if_icmp .ge 68, 3) := by decide +kernel
theorem dX2_worthOf_15 : decode cX2_worthOf 15 = .ok (.iload_n 1, 1) := by decide +kernel
theorem dX2_worthOf_16 : decode cX2_worthOf 16 = .ok (.iload_n 3, 1) := by decide +kernel
theorem dX2_worthOf_17 : decode cX2_worthOf 17 = .ok (.ishr, 1) := by decide +kernel
theorem dX2_worthOf_18 : decode cX2_worthOf 18 = .ok (.iconst 1, 1) := by decide +kernel
theorem dX2_worthOf_19 : decode cX2_worthOf 19 = .ok (.iand, 1) := by decide +kernel
theorem dX2_worthOf_20 : decode cX2_worthOf 20 = .ok (.ifCond .ne 6, 3) := by decide +kernel
theorem dX2_worthOf_23 : decode cX2_worthOf 23 = .ok (.goto 51, 3) := by decide +kernel
theorem dX2_worthOf_26 : decode cX2_worthOf 26 = .ok (.aload_n 0, 1) := by decide +kernel
theorem dX2_worthOf_27 : decode cX2_worthOf 27 = .ok (.getfield 9, 3) := by decide +kernel
theorem dX2_worthOf_30 : decode cX2_worthOf 30 = .ok (.getfield 29, 3) := by decide +kernel
theorem dX2_worthOf_33 : decode cX2_worthOf 33 = .ok (.iload_n 3, 1) := by decide +kernel
theorem dX2_worthOf_34 : decode cX2_worthOf 34 = .ok (.iaload, 1) := by decide +kernel
theorem dX2_worthOf_35 : decode cX2_worthOf 35 = .ok (.iconst 2, 1) := by decide +kernel
theorem dX2_worthOf_36 : decode cX2_worthOf 36 = .ok (.if_icmp .ne 25, 3) := by decide +kernel
theorem dX2_worthOf_39 : decode cX2_worthOf 39 = .ok (.aload_n 0, 1) := by decide +kernel
theorem dX2_worthOf_40 : decode cX2_worthOf 40 = .ok (.getfield 9, 3) := by decide +kernel
theorem dX2_worthOf_43 : decode cX2_worthOf 43 = .ok (.iload_n 3, 1) := by decide +kernel
theorem dX2_worthOf_44 : decode cX2_worthOf 44 = .ok (.invokevirtual 85, 3) := by decide +kernel
theorem dX2_worthOf_47 : decode cX2_worthOf 47 = .ok (.ifCond .le 14, 3) := by decide +kernel
theorem dX2_worthOf_50 : decode cX2_worthOf 50 = .ok (.aload_n 0, 1) := by decide +kernel
theorem dX2_worthOf_51 : decode cX2_worthOf 51 = .ok (.getfield 15, 3) := by decide +kernel
theorem dX2_worthOf_54 : decode cX2_worthOf 54 = .ok (.iload_n 3, 1) := by decide +kernel
theorem dX2_worthOf_55 : decode cX2_worthOf 55 = .ok (.invokevirtual 88, 3) := by decide +kernel
theorem dX2_worthOf_58 : decode cX2_worthOf 58 = .ok (.ifCond .eq 5, 3) := by decide +kernel
theorem dX2_worthOf_61 : decode cX2_worthOf 61 = .ok (.iconst (-1), 1) := by decide +kernel
theorem dX2_worthOf_62 : decode cX2_worthOf 62 = .ok (.ireturn, 1) := by decide +kernel
theorem dX2_worthOf_63 : decode cX2_worthOf 63 = .ok (.iload_n 2, 1) := by decide +kernel
theorem dX2_worthOf_64 : decode cX2_worthOf 64 = .ok (.aload_n 0, 1) := by decide +kernel
theorem dX2_worthOf_65 : decode cX2_worthOf 65 = .ok (.getfield 9, 3) := by decide +kernel
theorem dX2_worthOf_68 : decode cX2_worthOf 68 = .ok (.iload_n 3, 1) := by decide +kernel
theorem dX2_worthOf_69 : decode cX2_worthOf 69 = .ok (.invokevirtual 85, 3) := by decide +kernel
theorem dX2_worthOf_72 : decode cX2_worthOf 72 = .ok (.iadd, 1) := by decide +kernel
theorem dX2_worthOf_73 : decode cX2_worthOf 73 = .ok (.istore_n 2, 1) := by decide +kernel
theorem dX2_worthOf_74 : decode cX2_worthOf 74 = .ok (.iinc 3 1, 3) := by decide +kernel
theorem dX2_worthOf_77 : decode cX2_worthOf 77 = .ok (.goto (-73), 3) := by decide +kernel
theorem dX2_worthOf_80 : decode cX2_worthOf 80 = .ok (.iload_n 2, 1) := by decide +kernel
theorem dX2_worthOf_81 : decode cX2_worthOf 81 = .ok (.ireturn, 1) := by decide +kernel
def B_X2_worthOf_61 (Q : Int → st_S → Prop)    (σ : st_S) : Prop := Q (-1) σ
def B_X2_worthOf_74 (Q : Int → st_S → Prop)  (k4 : Int → Int → Int → st_S → Prop) (l1 : Int) (l2 : Int) (l3 : Int) (σ : st_S) : Prop := ∀ x14 : Int, x14 = wr (l3 + 1) → k4 l1 l2 x14 σ
def L_X2_worthOf_4 (Q : Int → st_S → Prop)   : Nat → Int → Int → Int → st_S → Prop
  | 0 => fun _ _ _ _ => False
  | n + 1 => fun l1 l2 l3 σ => (gI σ 25 0 ≤ l3 → Q l2 σ) ∧ (¬ gI σ 25 0 ≤ l3 → (¬ o_and (o_shr l1 l3) 1 = 0 → ix l3 10 ∧ (¬ gI σ 29 (Int.toNat l3) = 2 → B_X2_worthOf_61 Q σ) ∧ (gI σ 29 (Int.toNat l3) = 2 → wp_X1_worth l3 σ (fun r18 s19 => (r18 ≤ 0 → B_X2_worthOf_61 Q s19) ∧ (¬ r18 ≤ 0 → wp_X3_barsNow l3 s19 (fun r20 s21 => (r20 = 0 → wp_X1_worth l3 s21 (fun r22 s23 => ∀ x24 : Int, x24 = wr (l2 + r22) → B_X2_worthOf_74 Q (L_X2_worthOf_4 Q n) l1 x24 l3 s23)) ∧ (¬ r20 = 0 → B_X2_worthOf_61 Q s21)))))) ∧ (o_and (o_shr l1 l3) 1 = 0 → B_X2_worthOf_74 Q (L_X2_worthOf_4 Q n) l1 l2 l3 σ))
def wp_X2_worthOf (a1 : Int) (σ : st_S) (Q : Int → st_S → Prop) : Prop := ∃ m4 : Nat, L_X2_worthOf_4 Q m4 a1 0 0 σ
set_option maxRecDepth 20000 in
theorem jb_X2_worthOf_61 {X : jj_X} {E : ev_E} {n0 hN : Nat} (hc : Cx X E cX2_worthOf 4 n0 hN RX2) (hm : eM E = 1) (hr : (xT X).sig.returnType = (some .int)) (hh : 5 ≤ hN) {Q : Int → st_S → Prop} {σ : st_S} (h : B_X2_worthOf_61 Q σ) : J X E 4 n0 0 0 (MQ (xB X) (qI E (n0 + 0) Q) (xA X) (xS X) 0 0 (eF E)) σ 61 [] [] := by
  have hh1 : 1 ≤ hN := by omega
  replace h : Q (-1) σ := h
  refine j_iconst hc dX2_worthOf_61 ?_
  exact j_iret hc hr (wlit (-1) (by decide)) h dX2_worthOf_62
set_option maxRecDepth 20000 in
theorem jb_X2_worthOf_74 {X : jj_X} {E : ev_E} {n0 hN : Nat} (hc : Cx X E cX2_worthOf 4 n0 hN RX2) (hm : eM E = 1) (hr : (xT X).sig.returnType = (some .int)) (hh : 5 ≤ hN) {Q : Int → st_S → Prop} {k4 : Int → Int → Int → st_S → Prop} (hk4 : ∀ {l1 : Int} {l2 : Int} {l3 : Int} (cl1 : wr l1 = l1) (cl2 : wr l2 = l2) (cl3 : wr l3 = l3) {σ : st_S}, k4 l1 l2 l3 σ → J X E 4 n0 0 0 (MQ (xB X) (qI E (n0 + 0) Q) (xA X) (xS X) 0 0 (eF E)) σ 4 [(0, vR E 41), (1, vI l1), (2, vI l2), (3, vI l3)] []) {l1 : Int} {l2 : Int} {l3 : Int} (cl1 : wr l1 = l1) (cl2 : wr l2 = l2) (cl3 : wr l3 = l3) {σ : st_S} (h : B_X2_worthOf_74 Q k4 l1 l2 l3 σ) : J X E 4 n0 0 0 (MQ (xB X) (qI E (n0 + 0) Q) (xA X) (xS X) 0 0 (eF E)) σ 74 [(0, vR E 41), (1, vI l1), (2, vI l2), (3, vI l3)] [] := by
  have hh1 : 1 ≤ hN := by omega
  replace h : ∀ x14 : Int, x14 = wr (l3 + 1) → k4 l1 l2 x14 σ := h
  obtain ⟨x14, ex14⟩ : ∃ y : Int, y = wr (l3 + 1) := ⟨_, rfl⟩
  have cx14 : wr x14 = x14 := by rw [ex14]; exact wr_wr _
  replace h := h x14 ex14
  refine j_iinc (lv' := [(3, vI x14), (0, vR E 41), (1, vI l1), (2, vI l2)]) hc 3 dX2_worthOf_74 rfl (by decide) ex14 rfl ?_
  refine j_goto (tgt := 4) hc dX2_worthOf_77 (by decide) ?_
  refine j_sub (lv' := [(0, vR E 41), (1, vI l1), (2, vI l2), (3, vI x14)]) [1, 2, 3, 0] rfl ?_
  exact hk4 cl1 cl2 cx14 h
set_option maxRecDepth 20000 in
theorem jl_X2_worthOf_4 {X : jj_X} {E : ev_E} {n0 hN : Nat} (hc : Cx X E cX2_worthOf 4 n0 hN RX2) (hm : eM E = 1) (hr : (xT X).sig.returnType = (some .int)) (hh : 5 ≤ hN) {Q : Int → st_S → Prop} : ∀ (n : Nat) {l1 : Int} {l2 : Int} {l3 : Int} (cl1 : wr l1 = l1) (cl2 : wr l2 = l2) (cl3 : wr l3 = l3) {σ : st_S}, L_X2_worthOf_4 Q n l1 l2 l3 σ → J X E 4 n0 0 0 (MQ (xB X) (qI E (n0 + 0) Q) (xA X) (xS X) 0 0 (eF E)) σ 4 [(0, vR E 41), (1, vI l1), (2, vI l2), (3, vI l3)] [] := by
  have hh1 : 1 ≤ hN := by omega
  intro n
  induction n with
  | zero => intro l1 l2 l3 cl1 cl2 cl3 σ h; exact h.elim
  | succ n ih =>
    intro l1 l2 l3 cl1 cl2 cl3 σ h
    have hk4 : ∀ {l1 : Int} {l2 : Int} {l3 : Int} (cl1 : wr l1 = l1) (cl2 : wr l2 = l2) (cl3 : wr l3 = l3) {σ : st_S}, L_X2_worthOf_4 Q n l1 l2 l3 σ → J X E 4 n0 0 0 (MQ (xB X) (qI E (n0 + 0) Q) (xA X) (xS X) 0 0 (eF E)) σ 4 [(0, vR E 41), (1, vI l1), (2, vI l2), (3, vI l3)] [] := ih
    replace h : (gI σ 25 0 ≤ l3 → Q l2 σ) ∧ (¬ gI σ 25 0 ≤ l3 → (¬ o_and (o_shr l1 l3) 1 = 0 → ix l3 10 ∧ (¬ gI σ 29 (Int.toNat l3) = 2 → B_X2_worthOf_61 Q σ) ∧ (gI σ 29 (Int.toNat l3) = 2 → wp_X1_worth l3 σ (fun r18 s19 => (r18 ≤ 0 → B_X2_worthOf_61 Q s19) ∧ (¬ r18 ≤ 0 → wp_X3_barsNow l3 s19 (fun r20 s21 => (r20 = 0 → wp_X1_worth l3 s21 (fun r22 s23 => ∀ x24 : Int, x24 = wr (l2 + r22) → B_X2_worthOf_74 Q (L_X2_worthOf_4 Q n) l1 x24 l3 s23)) ∧ (¬ r20 = 0 → B_X2_worthOf_61 Q s21)))))) ∧ (o_and (o_shr l1 l3) 1 = 0 → B_X2_worthOf_74 Q (L_X2_worthOf_4 Q n) l1 l2 l3 σ)) := h
    refine j_iload_n hc 3 dX2_worthOf_4 rfl rfl ?_
    refine j_aload_nR hc 0 dX2_worthOf_5 rfl rfl ?_
    refine j_getR (c' := 25) hc fl_RX2_9 rfl rfl (fun hv => (sv_k hv hm rfl)) dX2_worthOf_6 ?_
    refine j_getI hc fl_RX2_58 (Or.inl rfl) (fun hv => Or.inl (sv_k hv hm rfl)) dX2_worthOf_9 (fun cn15 => ?_)
    refine j_ic_ge hc cl3 cn15 (tgt := 80) dX2_worthOf_12 (by decide) (fun q29 => ?_) (fun q29 => ?_)
    · replace h := h.1 q29
      refine j_iload_n hc 2 dX2_worthOf_80 rfl rfl ?_
      exact j_iret hc hr cl2 h dX2_worthOf_81
    · replace h := h.2 q29
      refine j_iload_n hc 1 dX2_worthOf_15 rfl rfl ?_
      refine j_iload_n hc 3 dX2_worthOf_16 rfl rfl ?_
      refine j_ishr hc dX2_worthOf_17 ?_
      refine j_iconst hc dX2_worthOf_18 ?_
      refine j_iand hc dX2_worthOf_19 ?_
      refine j_if_ne hc (cn_and _ _) (tgt := 26) dX2_worthOf_20 (by decide) (fun q28 => ?_) (fun q28 => ?_)
      · replace h := h.1 q28
        refine j_aload_nR hc 0 dX2_worthOf_26 rfl rfl ?_
        refine j_getR (c' := 25) hc fl_RX2_9 rfl rfl (fun hv => (sv_k hv hm rfl)) dX2_worthOf_27 ?_
        refine j_getR (c' := 29) hc fl_RX2_29 rfl rfl (fun hv => (sv_k hv hm rfl)) dX2_worthOf_30 ?_
        refine j_iload_n hc 3 dX2_worthOf_33 rfl rfl ?_
        obtain ⟨b16, h⟩ := h
        refine j_iald (jn := (Int.toNat l3)) hc (fun hv => sv_kl hv hm rfl) cl3 b16 rfl dX2_worthOf_34 (fun cn17 => ?_)
        refine j_iconst hc dX2_worthOf_35 ?_
        refine j_ic_ne hc cn17 (wlit 2 (by decide)) (tgt := 61) dX2_worthOf_36 (by decide) (fun q27 => ?_) (fun q27 => ?_)
        · replace h := h.1 q27
          refine j_sub (lv' := []) [] rfl ?_
          exact jb_X2_worthOf_61 hc hm hr hh h
        · replace h := h.2 q27
          refine j_aload_nR hc 0 dX2_worthOf_39 rfl rfl ?_
          refine j_getR (c' := 25) hc fl_RX2_9 rfl rfl (fun hv => (sv_k hv hm rfl)) dX2_worthOf_40 ?_
          refine j_iload_n hc 3 dX2_worthOf_43 rfl rfl ?_
          refine j_vI hc (k := 1) (by decide) (fun hv => Or.inl (sv_k hv hm rfl)) ml_RX2_85 mv_X1_worth (As := [vI l3]) (c_X1_worth (cx_E hc) hm cl3 h) rfl (by omega) (by decide) ⟨Nat.zero_le _, Nat.zero_le _⟩ (Nat.le_of_ble_eq_true rfl) rfl dX2_worthOf_44 (fun r18 s19 cr18 h => ?_)
          refine j_if_le hc cr18 (tgt := 61) dX2_worthOf_47 (by decide) (fun q26 => ?_) (fun q26 => ?_)
          · replace h := h.1 q26
            refine j_sub (lv' := []) [] rfl ?_
            exact jb_X2_worthOf_61 hc hm hr hh h
          · replace h := h.2 q26
            refine j_aload_nR hc 0 dX2_worthOf_50 rfl rfl ?_
            refine j_getR (c' := 35) hc fl_RX2_15 rfl rfl (fun hv => (sv_k hv hm rfl)) dX2_worthOf_51 ?_
            refine j_iload_n hc 3 dX2_worthOf_54 rfl rfl ?_
            refine j_vI hc (k := 3) (by decide) (fun hv => Or.inl (sv_k hv hm rfl)) ml_RX2_88 mv_X3_barsNow (As := [vI l3]) (c_X3_barsNow (cx_E hc) hm cl3 h) rfl (by omega) (by decide) ⟨Nat.zero_le _, Nat.zero_le _⟩ (Nat.le_of_ble_eq_true rfl) rfl dX2_worthOf_55 (fun r20 s21 cr20 h => ?_)
            refine j_if_eq hc cr20 (tgt := 63) dX2_worthOf_58 (by decide) (fun q25 => ?_) (fun q25 => ?_)
            · replace h := h.1 q25
              refine j_iload_n hc 2 dX2_worthOf_63 rfl rfl ?_
              refine j_aload_nR hc 0 dX2_worthOf_64 rfl rfl ?_
              refine j_getR (c' := 25) hc fl_RX2_9 rfl rfl (fun hv => (sv_k hv hm rfl)) dX2_worthOf_65 ?_
              refine j_iload_n hc 3 dX2_worthOf_68 rfl rfl ?_
              refine j_vI hc (k := 1) (by decide) (fun hv => Or.inl (sv_k hv hm rfl)) ml_RX2_85 mv_X1_worth (As := [vI l3]) (c_X1_worth (cx_E hc) hm cl3 h) rfl (by omega) (by decide) ⟨Nat.zero_le _, Nat.zero_le _⟩ (Nat.le_of_ble_eq_true rfl) rfl dX2_worthOf_69 (fun r22 s23 cr22 h => ?_)
              refine j_iadd hc dX2_worthOf_72 ?_
              refine j_w (fun x24 ex24 cx24 => ?_)
              replace h := h x24 ex24
              refine j_istore_n (lv' := [(2, vI x24), (0, vR E 41), (1, vI l1), (3, vI l3)]) hc dX2_worthOf_73 rfl (by decide) rfl ?_
              refine j_sub (lv' := [(0, vR E 41), (1, vI l1), (2, vI x24), (3, vI l3)]) [1, 2, 0, 3] rfl ?_
              exact jb_X2_worthOf_74 hc hm hr hh hk4 cl1 cx24 cl3 h
            · replace h := h.2 q25
              refine j_sub (lv' := []) [] rfl ?_
              exact jb_X2_worthOf_61 hc hm hr hh h
      · replace h := h.2 q28
        refine j_goto (tgt := 74) hc dX2_worthOf_23 (by decide) ?_
        refine j_sub (lv' := [(0, vR E 41), (1, vI l1), (2, vI l2), (3, vI l3)]) [0, 1, 2, 3] rfl ?_
        exact jb_X2_worthOf_74 hc hm hr hh hk4 cl1 cl2 cl3 h
set_option maxRecDepth 20000 in
theorem c_X2_worthOf {l : Launch} {E : ev_E} (hE : Eok E) (hm : eM E = 1) {a1 : Int} (ca1 : wr a1 = a1) {σ : st_S} {Q : Int → st_S → Prop} (h : wp_X2_worthOf a1 σ Q) : cM l yX2_worthOf cX2_worthOf 4 (some .int) E 5 0 0 [vR E 41, vI a1] σ (qI E (gN σ + 0) Q) := by
  refine cM_of (lv := [(0, vR E 41), (1, vI a1)]) (by decide) hE (Nat.le_of_ble_eq_true rfl) (rfl) ?_
  intro X hX hc _ _ hr _ _
  subst hX
  have hh : 5 ≤ 5 := Nat.le_refl _
  have hh1 : 1 ≤ 5 := by omega
  replace h : ∃ m4 : Nat, L_X2_worthOf_4 Q m4 a1 0 0 σ := h
  refine j_iconst hc dX2_worthOf_0 ?_
  refine j_istore_n (lv' := [(2, vI 0), (0, vR E 41), (1, vI a1)]) hc dX2_worthOf_1 rfl (by decide) rfl ?_
  refine j_iconst hc dX2_worthOf_2 ?_
  refine j_istore_n (lv' := [(3, vI 0), (2, vI 0), (0, vR E 41), (1, vI a1)]) hc dX2_worthOf_3 rfl (by decide) rfl ?_
  obtain ⟨n4, h⟩ := h
  refine j_sub (lv' := [(0, vR E 41), (1, vI a1), (2, vI 0), (3, vI 0)]) [2, 3, 1, 0] rfl ?_
  exact jl_X2_worthOf_4 hc hm hr hh n4 ca1 (wlit 0 (by decide)) (wlit 0 (by decide)) h
-- LitStrangers$Deeds.kindle(I)I
theorem dX2_kindle_0 : decode cX2_kindle 0 = .ok (.iload_n 1, 1) := by decide +kernel
theorem dX2_kindle_1 : decode cX2_kindle 1 = .ok (.ifCond .le 10, 3) := by decide +kernel
theorem dX2_kindle_4 : decode cX2_kindle 4 = .ok (.iload_n 1, 1) := by decide +kernel
theorem dX2_kindle_5 : decode cX2_kindle 5 = .ok (.sipush 1023, 3) := by decide +kernel
theorem dX2_kindle_8 : decode cX2_kindle 8 = .ok (.if_icmp .le 5, 3) := by decide +kernel
theorem dX2_kindle_11 : decode cX2_kindle 11 = .ok (.iconst (-1), 1) := by decide +kernel
theorem dX2_kindle_12 : decode cX2_kindle 12 = .ok (.ireturn, 1) := by decide +kernel
theorem dX2_kindle_13 : decode cX2_kindle 13 = .ok (.iload_n 1, 1) := by decide +kernel
theorem dX2_kindle_14 : decode cX2_kindle 14 = .ok (.aload_n 0, 1) := by decide +kernel
theorem dX2_kindle_15 : decode cX2_kindle 15 = .ok (.getfield 9, 3) := by decide +kernel
theorem dX2_kindle_18 : decode cX2_kindle 18 = .ok (.getfield 58, 3) := by decide +kernel
theorem dX2_kindle_21 : decode cX2_kindle 21 = .ok (.ishr, 1) := by decide +kernel
theorem dX2_kindle_22 : decode cX2_kindle 22 = .ok (.ifCond .eq 6, 3) := by decide +kernel
theorem dX2_kindle_25 : decode cX2_kindle 25 = .ok (.bipush (-2), 2) := by decide +kernel
theorem dX2_kindle_27 : decode cX2_kindle 27 = .ok (.ireturn, 1) := by decide +kernel
theorem dX2_kindle_28 : decode cX2_kindle 28 = .ok (.aload_n 0, 1) := by decide +kernel
theorem dX2_kindle_29 : decode cX2_kindle 29 = .ok (.iload_n 1, 1) := by decide +kernel
theorem dX2_kindle_30 : decode cX2_kindle 30 = .ok (.invokevirtual 61, 3) := by decide +kernel
theorem dX2_kindle_33 : decode cX2_kindle 33 = .ok (.istore_n 2, 1) := by decide +kernel
theorem dX2_kindle_34 : decode cX2_kindle 34 = .ok (.aload_n 0, 1) := by decide +kernel
theorem dX2_kindle_35 : decode cX2_kindle 35 = .ok (.getfield 9, 3) := by decide +kernel
theorem dX2_kindle_38 : decode cX2_kindle 38 = .ok (.getfield 55, 3) := by decide +kernel
theorem dX2_kindle_41 : decode cX2_kindle 41 = .ok (.iconst 0, 1) := by decide +kernel
theorem dX2_kindle_42 : decode cX2_kindle 42 = .ok (.iaload, 1) := by decide +kernel
theorem dX2_kindle_43 : decode cX2_kindle 43 = .ok (.istore_n 3, 1) := by decide +kernel
theorem dX2_kindle_44 : decode cX2_kindle 44 = .ok (.iload_n 3, 1) := by decide +kernel
theorem dX2_kindle_45 : decode cX2_kindle 45 = .ok (.sipush 999, 3) := by decide +kernel
theorem dX2_kindle_48 : decode cX2_kindle 48 = .ok (.if_icmp .ge 18, 3) := by decide +kernel
theorem dX2_kindle_51 : decode cX2_kindle 51 = .ok (.iload_n 2, 1) := by decide +kernel
theorem dX2_kindle_52 : decode cX2_kindle 52 = .ok (.aload_n 0, 1) := by decide +kernel
theorem dX2_kindle_53 : decode cX2_kindle 53 = .ok (.getfield 9, 3) := by decide +kernel
theorem dX2_kindle_56 : decode cX2_kindle 56 = .ok (.iload_n 3, 1) := by decide +kernel
theorem dX2_kindle_57 : decode cX2_kindle 57 = .ok (.invokevirtual 64, 3) := by decide +kernel
theorem dX2_kindle_60 : decode cX2_kindle 60 = .ok (.invokestatic 67, 3) := by decide +kernel
theorem dX2_kindle_63 : decode cX2_kindle 63 = .ok (.if_icmp .ge 6, 3) := by decide +kernel
theorem dX2_kindle_66 : decode cX2_kindle 66 = .ok (.bipush (-3), 2) := by decide +kernel
theorem dX2_kindle_68 : decode cX2_kindle 68 = .ok (.ireturn, 1) := by decide +kernel
theorem dX2_kindle_69 : decode cX2_kindle 69 = .ok (.aload_n 0, 1) := by decide +kernel
theorem dX2_kindle_70 : decode cX2_kindle 70 = .ok (.getfield 19, 3) := by decide +kernel
theorem dX2_kindle_73 : decode cX2_kindle 73 = .ok (.iconst 1, 1) := by decide +kernel
theorem dX2_kindle_74 : decode cX2_kindle 74 = .ok (.aload_n 0, 1) := by decide +kernel
theorem dX2_kindle_75 : decode cX2_kindle 75 = .ok (.getfield 9, 3) := by decide +kernel
theorem dX2_kindle_78 : decode cX2_kindle 78 = .ok (.invokevirtual 42, 3) := by decide +kernel
theorem dX2_kindle_81 : decode cX2_kindle 81 = .ok (.iconst 0, 1) := by decide +kernel
theorem dX2_kindle_82 : decode cX2_kindle 82 = .ok (.istore 4, 2) := by decide +kernel
theorem dX2_kindle_84 : decode cX2_kindle 84 = .ok (.iload 4, 2) := by decide +kernel
theorem dX2_kindle_86 : decode cX2_kindle 86 = .ok (.aload_n 0, 1) := by decide +kernel
theorem dX2_kindle_87 : decode cX2_kindle 87 = .ok (.getfield 9, 3) := by decide +kernel
theorem dX2_kindle_90 : decode cX2_kindle 90 = .ok (.getfield 58, 3) := by decide +kernel
theorem dX2_kindle_93 : decode cX2_kindle 93 = .ok (.if_icmp .ge 29, 3) := by decide +kernel
theorem dX2_kindle_96 : decode cX2_kindle 96 = .ok (.iload_n 1, 1) := by decide +kernel
theorem dX2_kindle_97 : decode cX2_kindle 97 = .ok (.iload 4, 2) := by decide +kernel
theorem dX2_kindle_99 : decode cX2_kindle 99 = .ok (.ishr, 1) := by decide +kernel
theorem dX2_kindle_100 : decode cX2_kindle 100 = .ok (.iconst 1, 1) := by decide +kernel
theorem dX2_kindle_101 : decode cX2_kindle 101 = .ok (.iand, 1) := by decide +kernel
theorem dX2_kindle_102 : decode cX2_kindle 102 = .ok (.ifCond .eq 14, 3) := by decide +kernel
theorem dX2_kindle_105 : decode cX2_kindle 105 = .ok (.aload_n 0, 1) := by decide +kernel
theorem dX2_kindle_106 : decode cX2_kindle 106 = .ok (.getfield 9, 3) := by decide +kernel
theorem dX2_kindle_109 : decode cX2_kindle 109 = .ok (.getfield 29, 3) := by decide +kernel
theorem dX2_kindle_112 : decode cX2_kindle 112 = .ok (.iload 4, 2) := by decide +kernel
theorem dX2_kindle_114 : decode cX2_kindle 114 = .ok (.iconst 3, 1) := by decide +kernel
theorem dX2_kindle_115 : decode cX2_kindle 115 = .ok (.iastore, 1) := by decide +kernel
theorem dX2_kindle_116 : decode cX2_kindle 116 = .ok (.iinc 4 1, 3) := by decide +kernel
theorem dX2_kindle_119 : decode cX2_kindle 119 = .ok (.goto (-35), 3) := by decide +kernel
theorem dX2_kindle_122 : decode cX2_kindle 122 = .ok (.iconst 0, 1) := by decide +kernel
theorem dX2_kindle_123 : decode cX2_kindle 123 = .ok (.istore 4, 2) := by decide +kernel
theorem dX2_kindle_125 : decode cX2_kindle 125 = .ok (.iload 4, 2) := by decide +kernel
theorem dX2_kindle_127 : decode cX2_kindle 127 = .ok (.aload_n 0, 1) := by decide +kernel
theorem dX2_kindle_128 : decode cX2_kindle 128 = .ok (.getfield 9, 3) := by decide +kernel
theorem dX2_kindle_131 : decode cX2_kindle 131 = .ok (.getfield 58, 3) := by decide +kernel
theorem dX2_kindle_134 : decode cX2_kindle 134 = .ok (.if_icmp .ge 24, 3) := by decide +kernel
theorem dX2_kindle_137 : decode cX2_kindle 137 = .ok (.iload_n 1, 1) := by decide +kernel
theorem dX2_kindle_138 : decode cX2_kindle 138 = .ok (.iload 4, 2) := by decide +kernel
theorem dX2_kindle_140 : decode cX2_kindle 140 = .ok (.ishr, 1) := by decide +kernel
theorem dX2_kindle_141 : decode cX2_kindle 141 = .ok (.iconst 1, 1) := by decide +kernel
theorem dX2_kindle_142 : decode cX2_kindle 142 = .ok (.iand, 1) := by decide +kernel
theorem dX2_kindle_143 : decode cX2_kindle 143 = .ok (.ifCond .eq 9, 3) := by decide +kernel
theorem dX2_kindle_146 : decode cX2_kindle 146 = .ok (.aload_n 0, 1) := by decide +kernel
theorem dX2_kindle_147 : decode cX2_kindle 147 = .ok (.iload 4, 2) := by decide +kernel
theorem dX2_kindle_149 : decode cX2_kindle 149 = .ok (.invokevirtual 72, 3) := by decide +kernel
theorem dX2_kindle_152 : decode cX2_kindle 152 = .ok (.iinc 4 1, 3) := by decide +kernel
theorem dX2_kindle_155 : decode cX2_kindle 155 = .ok (.goto (-30), 3) := by decide +kernel
theorem dX2_kindle_158 : decode cX2_kindle 158 = .ok (.aload_n 0, 1) := by decide +kernel
theorem dX2_kindle_159 : decode cX2_kindle 159 = .ok (.getfield 9, 3) := by decide +kernel
theorem dX2_kindle_162 : decode cX2_kindle 162 = .ok (.dup, 1) := by decide +kernel
theorem dX2_kindle_163 : decode cX2_kindle 163 = .ok (.getfield 76, 3) := by decide +kernel
theorem dX2_kindle_166 : decode cX2_kindle 166 = .ok (.iconst 1, 1) := by decide +kernel
theorem dX2_kindle_167 : decode cX2_kindle 167 = .ok (.iadd, 1) := by decide +kernel
theorem dX2_kindle_168 : decode cX2_kindle 168 = .ok (.putfield 76, 3) := by decide +kernel
theorem dX2_kindle_171 : decode cX2_kindle 171 = .ok (.aload_n 0, 1) := by decide +kernel
theorem dX2_kindle_172 : decode cX2_kindle 172 = .ok (.invokevirtual 79, 3) := by decide +kernel
theorem dX2_kindle_175 : decode cX2_kindle 175 = .ok (.iload_n 2, 1) := by decide +kernel
theorem dX2_kindle_176 : decode cX2_kindle 176 = .ok (.ireturn, 1) := by decide +kernel
def B_X2_kindle_11 (Q : Int → st_S → Prop)    (σ : st_S) : Prop := Q (-1) σ
def B_X2_kindle_66 (Q : Int → st_S → Prop)    (σ : st_S) : Prop := Q (-3) σ
def B_X2_kindle_116 (Q : Int → st_S → Prop)  (k84 : Int → Int → Int → st_S → Prop) (l1 : Int) (l2 : Int) (l4 : Int) (σ : st_S) : Prop := ∀ x30 : Int, x30 = wr (l4 + 1) → k84 l1 l2 x30 σ
def B_X2_kindle_152 (Q : Int → st_S → Prop)  (k125 : Int → Int → Int → st_S → Prop) (l1 : Int) (l2 : Int) (l4 : Int) (σ : st_S) : Prop := ∀ x31 : Int, x31 = wr (l4 + 1) → k125 l1 l2 x31 σ
def L_X2_kindle_125 (Q : Int → st_S → Prop)   : Nat → Int → Int → Int → st_S → Prop
  | 0 => fun _ _ _ _ => False
  | n + 1 => fun l1 l2 l4 σ => (gI σ 25 0 ≤ l4 → ∀ x34 : Int, x34 = wr (gI σ 25 12 + 1) → ∀ s35 : st_S, s35 = sI σ 25 12 x34 → wp_X2_passNight s35 (fun s37 => Q l2 s37)) ∧ (¬ gI σ 25 0 ≤ l4 → (o_and (o_shr l1 l4) 1 = 0 → B_X2_kindle_152 Q (L_X2_kindle_125 Q n) l1 l2 l4 σ) ∧ (¬ o_and (o_shr l1 l4) 1 = 0 → wp_X2_spoilBy l4 σ (fun s39 => B_X2_kindle_152 Q (L_X2_kindle_125 Q n) l1 l2 l4 s39)))
def L_X2_kindle_84 (Q : Int → st_S → Prop)   : Nat → Int → Int → Int → st_S → Prop
  | 0 => fun _ _ _ _ => False
  | n + 1 => fun l1 l2 l4 σ => (gI σ 25 0 ≤ l4 → ∃ m125 : Nat, L_X2_kindle_125 Q m125 l1 l2 0 σ) ∧ (¬ gI σ 25 0 ≤ l4 → (o_and (o_shr l1 l4) 1 = 0 → B_X2_kindle_116 Q (L_X2_kindle_84 Q n) l1 l2 l4 σ) ∧ (¬ o_and (o_shr l1 l4) 1 = 0 → ix l4 10 ∧ ∀ s44 : st_S, s44 = sI σ 29 (Int.toNat l4) 3 → B_X2_kindle_116 Q (L_X2_kindle_84 Q n) l1 l2 l4 s44))
def wp_X2_kindle (a1 : Int) (σ : st_S) (Q : Int → st_S → Prop) : Prop := (a1 ≤ 0 → B_X2_kindle_11 Q σ) ∧ (¬ a1 ≤ 0 → (a1 ≤ 1023 → (o_shr a1 (gI σ 25 0) = 0 → wp_X2_worthOf a1 σ (fun r48 s49 => ∀ x51 : Int, x51 = gI s49 33 0 → (999 ≤ x51 → B_X2_kindle_66 Q s49) ∧ (¬ 999 ≤ x51 → wp_X1_fogOn x51 s49 (fun r52 s53 => wp_X5_wanted r52 s53 (fun r54 s55 => (r54 ≤ r48 → wp_X4_keep 1 s55 (fun s57 => ∃ m84 : Nat, L_X2_kindle_84 Q m84 a1 r48 0 s57)) ∧ (¬ r54 ≤ r48 → B_X2_kindle_66 Q s55)))))) ∧ (¬ o_shr a1 (gI σ 25 0) = 0 → Q (-2) σ)) ∧ (¬ a1 ≤ 1023 → B_X2_kindle_11 Q σ))
set_option maxRecDepth 20000 in
theorem jb_X2_kindle_11 {X : jj_X} {E : ev_E} {n0 hN : Nat} (hc : Cx X E cX2_kindle 5 n0 hN RX2) (hm : eM E = 1) (hr : (xT X).sig.returnType = (some .int)) (hh : 6 ≤ hN) {Q : Int → st_S → Prop} {σ : st_S} (h : B_X2_kindle_11 Q σ) : J X E 5 n0 0 0 (MQ (xB X) (qI E (n0 + 0) Q) (xA X) (xS X) 0 0 (eF E)) σ 11 [] [] := by
  have hh1 : 1 ≤ hN := by omega
  replace h : Q (-1) σ := h
  refine j_iconst hc dX2_kindle_11 ?_
  exact j_iret hc hr (wlit (-1) (by decide)) h dX2_kindle_12
set_option maxRecDepth 20000 in
theorem jb_X2_kindle_66 {X : jj_X} {E : ev_E} {n0 hN : Nat} (hc : Cx X E cX2_kindle 5 n0 hN RX2) (hm : eM E = 1) (hr : (xT X).sig.returnType = (some .int)) (hh : 6 ≤ hN) {Q : Int → st_S → Prop} {σ : st_S} (h : B_X2_kindle_66 Q σ) : J X E 5 n0 0 0 (MQ (xB X) (qI E (n0 + 0) Q) (xA X) (xS X) 0 0 (eF E)) σ 66 [] [] := by
  have hh1 : 1 ≤ hN := by omega
  replace h : Q (-3) σ := h
  refine j_bipush hc dX2_kindle_66 (by decide) ?_
  exact j_iret hc hr (wlit (-3) (by decide)) h dX2_kindle_68
set_option maxRecDepth 20000 in
theorem jb_X2_kindle_116 {X : jj_X} {E : ev_E} {n0 hN : Nat} (hc : Cx X E cX2_kindle 5 n0 hN RX2) (hm : eM E = 1) (hr : (xT X).sig.returnType = (some .int)) (hh : 6 ≤ hN) {Q : Int → st_S → Prop} {k84 : Int → Int → Int → st_S → Prop} (hk84 : ∀ {l1 : Int} {l2 : Int} {l4 : Int} (cl1 : wr l1 = l1) (cl2 : wr l2 = l2) (cl4 : wr l4 = l4) {σ : st_S}, k84 l1 l2 l4 σ → J X E 5 n0 0 0 (MQ (xB X) (qI E (n0 + 0) Q) (xA X) (xS X) 0 0 (eF E)) σ 84 [(0, vR E 41), (1, vI l1), (2, vI l2), (4, vI l4)] []) {l1 : Int} {l2 : Int} {l4 : Int} (cl1 : wr l1 = l1) (cl2 : wr l2 = l2) (cl4 : wr l4 = l4) {σ : st_S} (h : B_X2_kindle_116 Q k84 l1 l2 l4 σ) : J X E 5 n0 0 0 (MQ (xB X) (qI E (n0 + 0) Q) (xA X) (xS X) 0 0 (eF E)) σ 116 [(0, vR E 41), (1, vI l1), (2, vI l2), (4, vI l4)] [] := by
  have hh1 : 1 ≤ hN := by omega
  replace h : ∀ x30 : Int, x30 = wr (l4 + 1) → k84 l1 l2 x30 σ := h
  obtain ⟨x30, ex30⟩ : ∃ y : Int, y = wr (l4 + 1) := ⟨_, rfl⟩
  have cx30 : wr x30 = x30 := by rw [ex30]; exact wr_wr _
  replace h := h x30 ex30
  refine j_iinc (lv' := [(4, vI x30), (0, vR E 41), (1, vI l1), (2, vI l2)]) hc 3 dX2_kindle_116 rfl (by decide) ex30 rfl ?_
  refine j_goto (tgt := 84) hc dX2_kindle_119 (by decide) ?_
  refine j_sub (lv' := [(0, vR E 41), (1, vI l1), (2, vI l2), (4, vI x30)]) [1, 2, 3, 0] rfl ?_
  exact hk84 cl1 cl2 cx30 h
set_option maxRecDepth 20000 in
theorem jb_X2_kindle_152 {X : jj_X} {E : ev_E} {n0 hN : Nat} (hc : Cx X E cX2_kindle 5 n0 hN RX2) (hm : eM E = 1) (hr : (xT X).sig.returnType = (some .int)) (hh : 6 ≤ hN) {Q : Int → st_S → Prop} {k125 : Int → Int → Int → st_S → Prop} (hk125 : ∀ {l1 : Int} {l2 : Int} {l4 : Int} (cl1 : wr l1 = l1) (cl2 : wr l2 = l2) (cl4 : wr l4 = l4) {σ : st_S}, k125 l1 l2 l4 σ → J X E 5 n0 0 0 (MQ (xB X) (qI E (n0 + 0) Q) (xA X) (xS X) 0 0 (eF E)) σ 125 [(0, vR E 41), (1, vI l1), (2, vI l2), (4, vI l4)] []) {l1 : Int} {l2 : Int} {l4 : Int} (cl1 : wr l1 = l1) (cl2 : wr l2 = l2) (cl4 : wr l4 = l4) {σ : st_S} (h : B_X2_kindle_152 Q k125 l1 l2 l4 σ) : J X E 5 n0 0 0 (MQ (xB X) (qI E (n0 + 0) Q) (xA X) (xS X) 0 0 (eF E)) σ 152 [(0, vR E 41), (1, vI l1), (2, vI l2), (4, vI l4)] [] := by
  have hh1 : 1 ≤ hN := by omega
  replace h : ∀ x31 : Int, x31 = wr (l4 + 1) → k125 l1 l2 x31 σ := h
  obtain ⟨x31, ex31⟩ : ∃ y : Int, y = wr (l4 + 1) := ⟨_, rfl⟩
  have cx31 : wr x31 = x31 := by rw [ex31]; exact wr_wr _
  replace h := h x31 ex31
  refine j_iinc (lv' := [(4, vI x31), (0, vR E 41), (1, vI l1), (2, vI l2)]) hc 3 dX2_kindle_152 rfl (by decide) ex31 rfl ?_
  refine j_goto (tgt := 125) hc dX2_kindle_155 (by decide) ?_
  refine j_sub (lv' := [(0, vR E 41), (1, vI l1), (2, vI l2), (4, vI x31)]) [1, 2, 3, 0] rfl ?_
  exact hk125 cl1 cl2 cx31 h
set_option maxRecDepth 20000 in
theorem jl_X2_kindle_125 {X : jj_X} {E : ev_E} {n0 hN : Nat} (hc : Cx X E cX2_kindle 5 n0 hN RX2) (hm : eM E = 1) (hr : (xT X).sig.returnType = (some .int)) (hh : 6 ≤ hN) {Q : Int → st_S → Prop} : ∀ (n : Nat) {l1 : Int} {l2 : Int} {l4 : Int} (cl1 : wr l1 = l1) (cl2 : wr l2 = l2) (cl4 : wr l4 = l4) {σ : st_S}, L_X2_kindle_125 Q n l1 l2 l4 σ → J X E 5 n0 0 0 (MQ (xB X) (qI E (n0 + 0) Q) (xA X) (xS X) 0 0 (eF E)) σ 125 [(0, vR E 41), (1, vI l1), (2, vI l2), (4, vI l4)] [] := by
  have hh1 : 1 ≤ hN := by omega
  intro n
  induction n with
  | zero => intro l1 l2 l4 cl1 cl2 cl4 σ h; exact h.elim
  | succ n ih =>
    intro l1 l2 l4 cl1 cl2 cl4 σ h
    have hk125 : ∀ {l1 : Int} {l2 : Int} {l4 : Int} (cl1 : wr l1 = l1) (cl2 : wr l2 = l2) (cl4 : wr l4 = l4) {σ : st_S}, L_X2_kindle_125 Q n l1 l2 l4 σ → J X E 5 n0 0 0 (MQ (xB X) (qI E (n0 + 0) Q) (xA X) (xS X) 0 0 (eF E)) σ 125 [(0, vR E 41), (1, vI l1), (2, vI l2), (4, vI l4)] [] := ih
    replace h : (gI σ 25 0 ≤ l4 → ∀ x34 : Int, x34 = wr (gI σ 25 12 + 1) → ∀ s35 : st_S, s35 = sI σ 25 12 x34 → wp_X2_passNight s35 (fun s37 => Q l2 s37)) ∧ (¬ gI σ 25 0 ≤ l4 → (o_and (o_shr l1 l4) 1 = 0 → B_X2_kindle_152 Q (L_X2_kindle_125 Q n) l1 l2 l4 σ) ∧ (¬ o_and (o_shr l1 l4) 1 = 0 → wp_X2_spoilBy l4 σ (fun s39 => B_X2_kindle_152 Q (L_X2_kindle_125 Q n) l1 l2 l4 s39))) := h
    refine j_iload hc 3 dX2_kindle_125 rfl ?_
    refine j_aload_nR hc 0 dX2_kindle_127 rfl rfl ?_
    refine j_getR (c' := 25) hc fl_RX2_9 rfl rfl (fun hv => (sv_k hv hm rfl)) dX2_kindle_128 ?_
    refine j_getI hc fl_RX2_58 (Or.inl rfl) (fun hv => Or.inl (sv_k hv hm rfl)) dX2_kindle_131 (fun cn32 => ?_)
    refine j_ic_ge hc cl4 cn32 (tgt := 158) dX2_kindle_134 (by decide) (fun q41 => ?_) (fun q41 => ?_)
    · replace h := h.1 q41
      refine j_aload_nR hc 0 dX2_kindle_158 rfl rfl ?_
      refine j_getR (c' := 25) hc fl_RX2_9 rfl rfl (fun hv => (sv_k hv hm rfl)) dX2_kindle_159 ?_
      refine j_dup hc dX2_kindle_162 rfl ?_
      refine j_getI hc fl_RX2_76 (Or.inl rfl) (fun hv => Or.inl (sv_k hv hm rfl)) dX2_kindle_163 (fun cn33 => ?_)
      refine j_iconst hc dX2_kindle_166 ?_
      refine j_iadd hc dX2_kindle_167 ?_
      refine j_w (fun x34 ex34 cx34 => ?_)
      replace h := h x34 ex34
      refine j_putI hc fl_RX2_76 rfl rfl (fun hv => Or.inl (sv_k hv hm rfl)) cx34 dX2_kindle_168 (fun s35 es35 => ?_)
      replace h := h s35 es35
      refine j_aload_nR hc 0 dX2_kindle_171 rfl rfl ?_
      refine j_vV hc (k := 2) (by decide) (fun hv => Or.inl (sv_k hv hm rfl)) ml_RX2_79 mv_X2_passNight (As := []) (c_X2_passNight (cx_E hc) hm  h) rfl (by omega) (by decide) ⟨Nat.zero_le _, Nat.zero_le _⟩ (Nat.le_of_ble_eq_true rfl) rfl dX2_kindle_172 (fun s37 h => ?_)
      refine j_iload_n hc 2 dX2_kindle_175 rfl rfl ?_
      exact j_iret hc hr cl2 h dX2_kindle_176
    · replace h := h.2 q41
      refine j_iload_n hc 1 dX2_kindle_137 rfl rfl ?_
      refine j_iload hc 3 dX2_kindle_138 rfl ?_
      refine j_ishr hc dX2_kindle_140 ?_
      refine j_iconst hc dX2_kindle_141 ?_
      refine j_iand hc dX2_kindle_142 ?_
      refine j_if_eq hc (cn_and _ _) (tgt := 152) dX2_kindle_143 (by decide) (fun q40 => ?_) (fun q40 => ?_)
      · replace h := h.1 q40
        refine j_sub (lv' := [(0, vR E 41), (1, vI l1), (2, vI l2), (4, vI l4)]) [0, 1, 2, 3] rfl ?_
        exact jb_X2_kindle_152 hc hm hr hh hk125 cl1 cl2 cl4 h
      · replace h := h.2 q40
        refine j_aload_nR hc 0 dX2_kindle_146 rfl rfl ?_
        refine j_iload hc 3 dX2_kindle_147 rfl ?_
        refine j_vV hc (k := 2) (by decide) (fun hv => Or.inl (sv_k hv hm rfl)) ml_RX2_72 mv_X2_spoilBy (As := [vI l4]) (c_X2_spoilBy (cx_E hc) hm cl4 h) rfl (by omega) (by decide) ⟨Nat.zero_le _, Nat.zero_le _⟩ (Nat.le_of_ble_eq_true rfl) rfl dX2_kindle_149 (fun s39 h => ?_)
        refine j_sub (lv' := [(0, vR E 41), (1, vI l1), (2, vI l2), (4, vI l4)]) [0, 1, 2, 3] rfl ?_
        exact jb_X2_kindle_152 hc hm hr hh hk125 cl1 cl2 cl4 h
set_option maxRecDepth 20000 in
theorem jl_X2_kindle_84 {X : jj_X} {E : ev_E} {n0 hN : Nat} (hc : Cx X E cX2_kindle 5 n0 hN RX2) (hm : eM E = 1) (hr : (xT X).sig.returnType = (some .int)) (hh : 6 ≤ hN) {Q : Int → st_S → Prop} : ∀ (n : Nat) {l1 : Int} {l2 : Int} {l4 : Int} (cl1 : wr l1 = l1) (cl2 : wr l2 = l2) (cl4 : wr l4 = l4) {σ : st_S}, L_X2_kindle_84 Q n l1 l2 l4 σ → J X E 5 n0 0 0 (MQ (xB X) (qI E (n0 + 0) Q) (xA X) (xS X) 0 0 (eF E)) σ 84 [(0, vR E 41), (1, vI l1), (2, vI l2), (4, vI l4)] [] := by
  have hh1 : 1 ≤ hN := by omega
  intro n
  induction n with
  | zero => intro l1 l2 l4 cl1 cl2 cl4 σ h; exact h.elim
  | succ n ih =>
    intro l1 l2 l4 cl1 cl2 cl4 σ h
    have hk84 : ∀ {l1 : Int} {l2 : Int} {l4 : Int} (cl1 : wr l1 = l1) (cl2 : wr l2 = l2) (cl4 : wr l4 = l4) {σ : st_S}, L_X2_kindle_84 Q n l1 l2 l4 σ → J X E 5 n0 0 0 (MQ (xB X) (qI E (n0 + 0) Q) (xA X) (xS X) 0 0 (eF E)) σ 84 [(0, vR E 41), (1, vI l1), (2, vI l2), (4, vI l4)] [] := ih
    replace h : (gI σ 25 0 ≤ l4 → ∃ m125 : Nat, L_X2_kindle_125 Q m125 l1 l2 0 σ) ∧ (¬ gI σ 25 0 ≤ l4 → (o_and (o_shr l1 l4) 1 = 0 → B_X2_kindle_116 Q (L_X2_kindle_84 Q n) l1 l2 l4 σ) ∧ (¬ o_and (o_shr l1 l4) 1 = 0 → ix l4 10 ∧ ∀ s44 : st_S, s44 = sI σ 29 (Int.toNat l4) 3 → B_X2_kindle_116 Q (L_X2_kindle_84 Q n) l1 l2 l4 s44)) := h
    refine j_iload hc 3 dX2_kindle_84 rfl ?_
    refine j_aload_nR hc 0 dX2_kindle_86 rfl rfl ?_
    refine j_getR (c' := 25) hc fl_RX2_9 rfl rfl (fun hv => (sv_k hv hm rfl)) dX2_kindle_87 ?_
    refine j_getI hc fl_RX2_58 (Or.inl rfl) (fun hv => Or.inl (sv_k hv hm rfl)) dX2_kindle_90 (fun cn42 => ?_)
    refine j_ic_ge hc cl4 cn42 (tgt := 122) dX2_kindle_93 (by decide) (fun q46 => ?_) (fun q46 => ?_)
    · replace h := h.1 q46
      refine j_iconst hc dX2_kindle_122 ?_
      refine j_istore (lv' := [(4, vI 0), (0, vR E 41), (1, vI l1), (2, vI l2)]) hc dX2_kindle_123 (by decide) rfl ?_
      obtain ⟨n125, h⟩ := h
      refine j_sub (lv' := [(0, vR E 41), (1, vI l1), (2, vI l2), (4, vI 0)]) [1, 2, 3, 0] rfl ?_
      exact jl_X2_kindle_125 hc hm hr hh n125 cl1 cl2 (wlit 0 (by decide)) h
    · replace h := h.2 q46
      refine j_iload_n hc 1 dX2_kindle_96 rfl rfl ?_
      refine j_iload hc 3 dX2_kindle_97 rfl ?_
      refine j_ishr hc dX2_kindle_99 ?_
      refine j_iconst hc dX2_kindle_100 ?_
      refine j_iand hc dX2_kindle_101 ?_
      refine j_if_eq hc (cn_and _ _) (tgt := 116) dX2_kindle_102 (by decide) (fun q45 => ?_) (fun q45 => ?_)
      · replace h := h.1 q45
        refine j_sub (lv' := [(0, vR E 41), (1, vI l1), (2, vI l2), (4, vI l4)]) [0, 1, 2, 3] rfl ?_
        exact jb_X2_kindle_116 hc hm hr hh hk84 cl1 cl2 cl4 h
      · replace h := h.2 q45
        refine j_aload_nR hc 0 dX2_kindle_105 rfl rfl ?_
        refine j_getR (c' := 25) hc fl_RX2_9 rfl rfl (fun hv => (sv_k hv hm rfl)) dX2_kindle_106 ?_
        refine j_getR (c' := 29) hc fl_RX2_29 rfl rfl (fun hv => (sv_k hv hm rfl)) dX2_kindle_109 ?_
        refine j_iload hc 3 dX2_kindle_112 rfl ?_
        refine j_iconst hc dX2_kindle_114 ?_
        obtain ⟨b43, h⟩ := h
        refine j_iast (jn := (Int.toNat l4)) hc (fun hv => sv_kl hv hm rfl) cl4 b43 rfl (wlit 3 (by decide)) dX2_kindle_115 (fun s44 es44 => ?_)
        replace h := h s44 es44
        refine j_sub (lv' := [(0, vR E 41), (1, vI l1), (2, vI l2), (4, vI l4)]) [0, 1, 2, 3] rfl ?_
        exact jb_X2_kindle_116 hc hm hr hh hk84 cl1 cl2 cl4 h
set_option maxRecDepth 20000 in
theorem c_X2_kindle {l : Launch} {E : ev_E} (hE : Eok E) (hm : eM E = 1) {a1 : Int} (ca1 : wr a1 = a1) {σ : st_S} {Q : Int → st_S → Prop} (h : wp_X2_kindle a1 σ Q) : cM l yX2_kindle cX2_kindle 5 (some .int) E 6 0 0 [vR E 41, vI a1] σ (qI E (gN σ + 0) Q) := by
  refine cM_of (lv := [(0, vR E 41), (1, vI a1)]) (by decide) hE (Nat.le_of_ble_eq_true rfl) (rfl) ?_
  intro X hX hc _ _ hr _ _
  subst hX
  have hh : 6 ≤ 6 := Nat.le_refl _
  have hh1 : 1 ≤ 6 := by omega
  replace h : (a1 ≤ 0 → B_X2_kindle_11 Q σ) ∧ (¬ a1 ≤ 0 → (a1 ≤ 1023 → (o_shr a1 (gI σ 25 0) = 0 → wp_X2_worthOf a1 σ (fun r48 s49 => ∀ x51 : Int, x51 = gI s49 33 0 → (999 ≤ x51 → B_X2_kindle_66 Q s49) ∧ (¬ 999 ≤ x51 → wp_X1_fogOn x51 s49 (fun r52 s53 => wp_X5_wanted r52 s53 (fun r54 s55 => (r54 ≤ r48 → wp_X4_keep 1 s55 (fun s57 => ∃ m84 : Nat, L_X2_kindle_84 Q m84 a1 r48 0 s57)) ∧ (¬ r54 ≤ r48 → B_X2_kindle_66 Q s55)))))) ∧ (¬ o_shr a1 (gI σ 25 0) = 0 → Q (-2) σ)) ∧ (¬ a1 ≤ 1023 → B_X2_kindle_11 Q σ)) := h
  refine j_iload_n hc 1 dX2_kindle_0 rfl rfl ?_
  refine j_if_le hc ca1 (tgt := 11) dX2_kindle_1 (by decide) (fun q62 => ?_) (fun q62 => ?_)
  · replace h := h.1 q62
    refine j_sub (lv' := []) [] rfl ?_
    exact jb_X2_kindle_11 hc hm hr hh h
  · replace h := h.2 q62
    refine j_iload_n hc 1 dX2_kindle_4 rfl rfl ?_
    refine j_sipush hc dX2_kindle_5 (by decide) ?_
    refine j_ic_le hc ca1 (wlit 1023 (by decide)) (tgt := 13) dX2_kindle_8 (by decide) (fun q61 => ?_) (fun q61 => ?_)
    · replace h := h.1 q61
      refine j_iload_n hc 1 dX2_kindle_13 rfl rfl ?_
      refine j_aload_nR hc 0 dX2_kindle_14 rfl rfl ?_
      refine j_getR (c' := 25) hc fl_RX2_9 rfl rfl (fun hv => (sv_k hv hm rfl)) dX2_kindle_15 ?_
      refine j_getI hc fl_RX2_58 (Or.inl rfl) (fun hv => Or.inl (sv_k hv hm rfl)) dX2_kindle_18 (fun cn47 => ?_)
      refine j_ishr hc dX2_kindle_21 ?_
      refine j_if_eq hc (cn_shr _ _) (tgt := 28) dX2_kindle_22 (by decide) (fun q60 => ?_) (fun q60 => ?_)
      · replace h := h.1 q60
        refine j_aload_nR hc 0 dX2_kindle_28 rfl rfl ?_
        refine j_iload_n hc 1 dX2_kindle_29 rfl rfl ?_
        refine j_vI hc (k := 2) (by decide) (fun hv => Or.inl (sv_k hv hm rfl)) ml_RX2_61 mv_X2_worthOf (As := [vI a1]) (c_X2_worthOf (cx_E hc) hm ca1 h) rfl (by omega) (by decide) ⟨Nat.zero_le _, Nat.zero_le _⟩ (Nat.le_of_ble_eq_true rfl) rfl dX2_kindle_30 (fun r48 s49 cr48 h => ?_)
        refine j_istore_n (lv' := [(2, vI r48), (0, vR E 41), (1, vI a1)]) hc dX2_kindle_33 rfl (by decide) rfl ?_
        refine j_aload_nR hc 1 dX2_kindle_34 rfl rfl ?_
        refine j_getR (c' := 25) hc fl_RX2_9 rfl rfl (fun hv => (sv_k hv hm rfl)) dX2_kindle_35 ?_
        refine j_getR (c' := 33) hc fl_RX2_55 rfl rfl (fun hv => (sv_k hv hm rfl)) dX2_kindle_38 ?_
        refine j_iconst hc dX2_kindle_41 ?_
        refine j_iald (jn := 0) hc (fun hv => sv_kl hv hm rfl) (wlit 0 (by decide)) ⟨by decide, by decide⟩ rfl dX2_kindle_42 (fun cn50 => ?_)
        refine j_c cn50 (fun x51 ex51 cx51 => ?_)
        replace h := h x51 ex51
        refine j_istore_n (lv' := [(3, vI x51), (2, vI r48), (0, vR E 41), (1, vI a1)]) hc dX2_kindle_43 rfl (by decide) rfl ?_
        refine j_iload_n hc 0 dX2_kindle_44 rfl rfl ?_
        refine j_sipush hc dX2_kindle_45 (by decide) ?_
        refine j_ic_ge hc cx51 (wlit 999 (by decide)) (tgt := 66) dX2_kindle_48 (by decide) (fun q59 => ?_) (fun q59 => ?_)
        · replace h := h.1 q59
          refine j_sub (lv' := []) [] rfl ?_
          exact jb_X2_kindle_66 hc hm hr hh h
        · replace h := h.2 q59
          refine j_iload_n hc 1 dX2_kindle_51 rfl rfl ?_
          refine j_aload_nR hc 2 dX2_kindle_52 rfl rfl ?_
          refine j_getR (c' := 25) hc fl_RX2_9 rfl rfl (fun hv => (sv_k hv hm rfl)) dX2_kindle_53 ?_
          refine j_iload_n hc 0 dX2_kindle_56 rfl rfl ?_
          refine j_vI hc (k := 1) (by decide) (fun hv => Or.inl (sv_k hv hm rfl)) ml_RX2_64 mv_X1_fogOn (As := [vI x51]) (c_X1_fogOn (cx_E hc) hm cx51 h) rfl (by omega) (by decide) ⟨Nat.zero_le _, Nat.zero_le _⟩ (Nat.le_of_ble_eq_true rfl) rfl dX2_kindle_57 (fun r52 s53 cr52 h => ?_)
          refine j_sI hc ml_RX2_67 mv_X5_wanted (As := [vI r52]) (c_X5_wanted (cx_E hc) hm cr52 h) rfl (by omega) (by decide) ⟨Nat.zero_le _, Nat.zero_le _⟩ (Nat.le_of_ble_eq_true rfl) rfl dX2_kindle_60 (fun r54 s55 cr54 h => ?_)
          refine j_ic_ge hc cr48 cr54 (tgt := 69) dX2_kindle_63 (by decide) (fun q58 => ?_) (fun q58 => ?_)
          · replace h := h.1 q58
            refine j_aload_nR hc 2 dX2_kindle_69 rfl rfl ?_
            refine j_getR (c' := 39) hc fl_RX2_19 rfl rfl (fun hv => (sv_k hv hm rfl)) dX2_kindle_70 ?_
            refine j_iconst hc dX2_kindle_73 ?_
            refine j_aload_nR hc 2 dX2_kindle_74 rfl rfl ?_
            refine j_getR (c' := 25) hc fl_RX2_9 rfl rfl (fun hv => (sv_k hv hm rfl)) dX2_kindle_75 ?_
            refine j_vV hc (k := 4) (by decide) (fun hv => Or.inl (sv_k hv hm rfl)) ml_RX2_42 mv_X4_keep (As := [vI 1, vR E 25]) (c_X4_keep (cx_E hc) hm (wlit 1 (by decide)) h) rfl (by omega) (by decide) ⟨Nat.zero_le _, Nat.zero_le _⟩ (Nat.le_of_ble_eq_true rfl) rfl dX2_kindle_78 (fun s57 h => ?_)
            refine j_iconst hc dX2_kindle_81 ?_
            refine j_istore (lv' := [(4, vI 0), (3, vI x51), (2, vI r48), (0, vR E 41), (1, vI a1)]) hc dX2_kindle_82 (by decide) rfl ?_
            obtain ⟨n84, h⟩ := h
            refine j_sub (lv' := [(0, vR E 41), (1, vI a1), (2, vI r48), (4, vI 0)]) [3, 4, 2, 0] rfl ?_
            exact jl_X2_kindle_84 hc hm hr hh n84 ca1 cr48 (wlit 0 (by decide)) h
          · replace h := h.2 q58
            refine j_sub (lv' := []) [] rfl ?_
            exact jb_X2_kindle_66 hc hm hr hh h
      · replace h := h.2 q60
        refine j_bipush hc dX2_kindle_25 (by decide) ?_
        exact j_iret hc hr (wlit (-2) (by decide)) h dX2_kindle_27
    · replace h := h.2 q61
      refine j_sub (lv' := []) [] rfl ?_
      exact jb_X2_kindle_11 hc hm hr hh h
-- LitStrangers$Deeds.idle()I
theorem dX2_idle_0 : decode cX2_idle 0 = .ok (.aload_n 0, 1) := by decide +kernel
theorem dX2_idle_1 : decode cX2_idle 1 = .ok (.getfield 9, 3) := by decide +kernel
theorem dX2_idle_4 : decode cX2_idle 4 = .ok (.getfield 55, 3) := by decide +kernel
theorem dX2_idle_7 : decode cX2_idle 7 = .ok (.iconst 0, 1) := by decide +kernel
theorem dX2_idle_8 : decode cX2_idle 8 = .ok (.iaload, 1) := by decide +kernel
theorem dX2_idle_9 : decode cX2_idle 9 = .ok (.sipush 999, 3) := by decide +kernel
theorem dX2_idle_12 : decode cX2_idle 12 = .ok (.if_icmp .lt 6, 3) := by decide +kernel
theorem dX2_idle_15 : decode cX2_idle 15 = .ok (.bipush (-3), 2) := by decide +kernel
theorem dX2_idle_17 : decode cX2_idle 17 = .ok (.ireturn, 1) := by decide +kernel
theorem dX2_idle_18 : decode cX2_idle 18 = .ok (.aload_n 0, 1) := by decide +kernel
theorem dX2_idle_19 : decode cX2_idle 19 = .ok (.getfield 19, 3) := by decide +kernel
theorem dX2_idle_22 : decode cX2_idle 22 = .ok (.iconst 2, 1) := by decide +kernel
theorem dX2_idle_23 : decode cX2_idle 23 = .ok (.aload_n 0, 1) := by decide +kernel
theorem dX2_idle_24 : decode cX2_idle 24 = .ok (.getfield 9, 3) := by decide +kernel
theorem dX2_idle_27 : decode cX2_idle 27 = .ok (.invokevirtual 42, 3) := by decide +kernel
theorem dX2_idle_30 : decode cX2_idle 30 = .ok (.aload_n 0, 1) := by decide +kernel
theorem dX2_idle_31 : decode cX2_idle 31 = .ok (.getfield 9, 3) := by decide +kernel
theorem dX2_idle_34 : decode cX2_idle 34 = .ok (.dup, 1) := by decide +kernel
theorem dX2_idle_35 : decode cX2_idle 35 = .ok (.getfield 82, 3) := by decide +kernel
theorem dX2_idle_38 : decode cX2_idle 38 = .ok (.iconst 1, 1) := by decide +kernel
theorem dX2_idle_39 : decode cX2_idle 39 = .ok (.iadd, 1) := by decide +kernel
theorem dX2_idle_40 : decode cX2_idle 40 = .ok (.putfield 82, 3) := by decide +kernel
theorem dX2_idle_43 : decode cX2_idle 43 = .ok (.aload_n 0, 1) := by decide +kernel
theorem dX2_idle_44 : decode cX2_idle 44 = .ok (.invokevirtual 79, 3) := by decide +kernel
theorem dX2_idle_47 : decode cX2_idle 47 = .ok (.aload_n 0, 1) := by decide +kernel
theorem dX2_idle_48 : decode cX2_idle 48 = .ok (.getfield 9, 3) := by decide +kernel
theorem dX2_idle_51 : decode cX2_idle 51 = .ok (.getfield 82, 3) := by decide +kernel
theorem dX2_idle_54 : decode cX2_idle 54 = .ok (.ireturn, 1) := by decide +kernel
def wp_X2_idle  (σ : st_S) (Q : Int → st_S → Prop) : Prop := (gI σ 33 0 < 999 → wp_X4_keep 2 σ (fun s13 => ∀ x15 : Int, x15 = wr (gI s13 25 13 + 1) → ∀ s16 : st_S, s16 = sI s13 25 13 x15 → wp_X2_passNight s16 (fun s18 => Q (gI s18 25 13) s18))) ∧ (¬ gI σ 33 0 < 999 → Q (-3) σ)
set_option maxRecDepth 20000 in
theorem c_X2_idle {l : Launch} {E : ev_E} (hE : Eok E) (hm : eM E = 1) {σ : st_S} {Q : Int → st_S → Prop} (h : wp_X2_idle σ Q) : cM l yX2_idle cX2_idle 1 (some .int) E 6 0 0 [vR E 41] σ (qI E (gN σ + 0) Q) := by
  refine cM_of (lv := [(0, vR E 41)]) (by decide) hE (Nat.le_of_ble_eq_true rfl) (rfl) ?_
  intro X hX hc _ _ hr _ _
  subst hX
  have hh : 6 ≤ 6 := Nat.le_refl _
  have hh1 : 1 ≤ 6 := by omega
  replace h : (gI σ 33 0 < 999 → wp_X4_keep 2 σ (fun s13 => ∀ x15 : Int, x15 = wr (gI s13 25 13 + 1) → ∀ s16 : st_S, s16 = sI s13 25 13 x15 → wp_X2_passNight s16 (fun s18 => Q (gI s18 25 13) s18))) ∧ (¬ gI σ 33 0 < 999 → Q (-3) σ) := h
  refine j_aload_nR hc 0 dX2_idle_0 rfl rfl ?_
  refine j_getR (c' := 25) hc fl_RX2_9 rfl rfl (fun hv => (sv_k hv hm rfl)) dX2_idle_1 ?_
  refine j_getR (c' := 33) hc fl_RX2_55 rfl rfl (fun hv => (sv_k hv hm rfl)) dX2_idle_4 ?_
  refine j_iconst hc dX2_idle_7 ?_
  refine j_iald (jn := 0) hc (fun hv => sv_kl hv hm rfl) (wlit 0 (by decide)) ⟨by decide, by decide⟩ rfl dX2_idle_8 (fun cn11 => ?_)
  refine j_sipush hc dX2_idle_9 (by decide) ?_
  refine j_ic_lt hc cn11 (wlit 999 (by decide)) (tgt := 18) dX2_idle_12 (by decide) (fun q20 => ?_) (fun q20 => ?_)
  · replace h := h.1 q20
    refine j_aload_nR hc 0 dX2_idle_18 rfl rfl ?_
    refine j_getR (c' := 39) hc fl_RX2_19 rfl rfl (fun hv => (sv_k hv hm rfl)) dX2_idle_19 ?_
    refine j_iconst hc dX2_idle_22 ?_
    refine j_aload_nR hc 0 dX2_idle_23 rfl rfl ?_
    refine j_getR (c' := 25) hc fl_RX2_9 rfl rfl (fun hv => (sv_k hv hm rfl)) dX2_idle_24 ?_
    refine j_vV hc (k := 4) (by decide) (fun hv => Or.inl (sv_k hv hm rfl)) ml_RX2_42 mv_X4_keep (As := [vI 2, vR E 25]) (c_X4_keep (cx_E hc) hm (wlit 2 (by decide)) h) rfl (by omega) (by decide) ⟨Nat.zero_le _, Nat.zero_le _⟩ (Nat.le_of_ble_eq_true rfl) rfl dX2_idle_27 (fun s13 h => ?_)
    refine j_aload_nR hc 0 dX2_idle_30 rfl rfl ?_
    refine j_getR (c' := 25) hc fl_RX2_9 rfl rfl (fun hv => (sv_k hv hm rfl)) dX2_idle_31 ?_
    refine j_dup hc dX2_idle_34 rfl ?_
    refine j_getI hc fl_RX2_82 (Or.inl rfl) (fun hv => Or.inl (sv_k hv hm rfl)) dX2_idle_35 (fun cn14 => ?_)
    refine j_iconst hc dX2_idle_38 ?_
    refine j_iadd hc dX2_idle_39 ?_
    refine j_w (fun x15 ex15 cx15 => ?_)
    replace h := h x15 ex15
    refine j_putI hc fl_RX2_82 rfl rfl (fun hv => Or.inl (sv_k hv hm rfl)) cx15 dX2_idle_40 (fun s16 es16 => ?_)
    replace h := h s16 es16
    refine j_aload_nR hc 0 dX2_idle_43 rfl rfl ?_
    refine j_vV hc (k := 2) (by decide) (fun hv => Or.inl (sv_k hv hm rfl)) ml_RX2_79 mv_X2_passNight (As := []) (c_X2_passNight (cx_E hc) hm  h) rfl (by omega) (by decide) ⟨Nat.zero_le _, Nat.zero_le _⟩ (Nat.le_of_ble_eq_true rfl) rfl dX2_idle_44 (fun s18 h => ?_)
    refine j_aload_nR hc 0 dX2_idle_47 rfl rfl ?_
    refine j_getR (c' := 25) hc fl_RX2_9 rfl rfl (fun hv => (sv_k hv hm rfl)) dX2_idle_48 ?_
    refine j_getI hc fl_RX2_82 (Or.inl rfl) (fun hv => Or.inl (sv_k hv hm rfl)) dX2_idle_51 (fun cn19 => ?_)
    exact j_iret hc hr cn19 h dX2_idle_54
  · replace h := h.2 q20
    refine j_bipush hc dX2_idle_15 (by decide) ?_
    exact j_iret hc hr (wlit (-3) (by decide)) h dX2_idle_17
-- LitStrangers$Runner.setWords(I)V
theorem dX7_setWords_0 : decode cX7_setWords 0 = .ok (.aload_n 0, 1) := by decide +kernel
theorem dX7_setWords_1 : decode cX7_setWords 1 = .ok (.getfield 18, 3) := by decide +kernel
theorem dX7_setWords_4 : decode cX7_setWords 4 = .ok (.getfield 75, 3) := by decide +kernel
theorem dX7_setWords_7 : decode cX7_setWords 7 = .ok (.astore_n 2, 1) := by decide +kernel
theorem dX7_setWords_8 : decode cX7_setWords 8 = .ok (.aload_n 2, 1) := by decide +kernel
theorem dX7_setWords_9 : decode cX7_setWords 9 = .ok (.iconst 0, 1) := by decide +kernel
theorem dX7_setWords_10 : decode cX7_setWords 10 = .ok (.aload_n 0, 1) := by decide +kernel
theorem dX7_setWords_11 : decode cX7_setWords 11 = .ok (.getfield 22, 3) := by decide +kernel
theorem dX7_setWords_14 : decode cX7_setWords 14 = .ok (.getfield 78, 3) := by decide +kernel
theorem dX7_setWords_17 : decode cX7_setWords 17 = .ok (.iconst 0, 1) := by decide +kernel
theorem dX7_setWords_18 : decode cX7_setWords 18 = .ok (.iaload, 1) := by decide +kernel
theorem dX7_setWords_19 : decode cX7_setWords 19 = .ok (.iastore, 1) := by decide +kernel
theorem dX7_setWords_20 : decode cX7_setWords 20 = .ok (.aload_n 2, 1) := by decide +kernel
theorem dX7_setWords_21 : decode cX7_setWords 21 = .ok (.iconst 1, 1) := by decide +kernel
theorem dX7_setWords_22 : decode cX7_setWords 22 = .ok (.aload_n 0, 1) := by decide +kernel
theorem dX7_setWords_23 : decode cX7_setWords 23 = .ok (.getfield 22, 3) := by decide +kernel
theorem dX7_setWords_26 : decode cX7_setWords 26 = .ok (.getfield 83, 3) := by decide +kernel
theorem dX7_setWords_29 : decode cX7_setWords 29 = .ok (.iastore, 1) := by decide +kernel
theorem dX7_setWords_30 : decode cX7_setWords 30 = .ok (.aload_n 2, 1) := by decide +kernel
theorem dX7_setWords_31 : decode cX7_setWords 31 = .ok (.iconst 2, 1) := by decide +kernel
theorem dX7_setWords_32 : decode cX7_setWords 32 = .ok (.aload_n 0, 1) := by decide +kernel
theorem dX7_setWords_33 : decode cX7_setWords 33 = .ok (.getfield 22, 3) := by decide +kernel
theorem dX7_setWords_36 : decode cX7_setWords 36 = .ok (.getfield 86, 3) := by decide +kernel
theorem dX7_setWords_39 : decode cX7_setWords 39 = .ok (.iastore, 1) := by decide +kernel
theorem dX7_setWords_40 : decode cX7_setWords 40 = .ok (.aload_n 2, 1) := by decide +kernel
theorem dX7_setWords_41 : decode cX7_setWords 41 = .ok (.iconst 3, 1) := by decide +kernel
theorem dX7_setWords_42 : decode cX7_setWords 42 = .ok (.iload_n 1, 1) := by decide +kernel
theorem dX7_setWords_43 : decode cX7_setWords 43 = .ok (.iastore, 1) := by decide +kernel
theorem dX7_setWords_44 : decode cX7_setWords 44 = .ok (.aload_n 2, 1) := by decide +kernel
theorem dX7_setWords_45 : decode cX7_setWords 45 = .ok (.iconst 4, 1) := by decide +kernel
theorem dX7_setWords_46 : decode cX7_setWords 46 = .ok (.aload_n 0, 1) := by decide +kernel
theorem dX7_setWords_47 : decode cX7_setWords 47 = .ok (.getfield 22, 3) := by decide +kernel
theorem dX7_setWords_50 : decode cX7_setWords 50 = .ok (.getfield 89, 3) := by decide +kernel
theorem dX7_setWords_53 : decode cX7_setWords 53 = .ok (.iastore, 1) := by decide +kernel
theorem dX7_setWords_54 : decode cX7_setWords 54 = .ok (.iconst 0, 1) := by decide +kernel
theorem dX7_setWords_55 : decode cX7_setWords 55 = .ok (.istore_n 3, 1) := by decide +kernel
theorem dX7_setWords_56 : decode cX7_setWords 56 = .ok (.iload_n 3, 1) := by decide +kernel
theorem dX7_setWords_57 : decode cX7_setWords 57 = .ok (.bipush 10, 2) := by decide +kernel
theorem dX7_setWords_59 : decode cX7_setWords 59 = .ok (.if_icmp .ge 74, 3) := by decide +kernel
theorem dX7_setWords_62 : decode cX7_setWords 62 = .ok (.aload_n 0, 1) := by decide +kernel
theorem dX7_setWords_63 : decode cX7_setWords 63 = .ok (.getfield 22, 3) := by decide +kernel
theorem dX7_setWords_66 : decode cX7_setWords 66 = .ok (.iload_n 3, 1) := by decide +kernel
theorem dX7_setWords_67 : decode cX7_setWords 67 = .ok (.invokevirtual 92, 3) := by decide +kernel
theorem dX7_setWords_70 : decode cX7_setWords 70 = .ok (.istore 4, 2) := by decide +kernel
theorem dX7_setWords_72 : decode cX7_setWords 72 = .ok (.aload_n 2, 1) := by decide +kernel
theorem dX7_setWords_73 : decode cX7_setWords 73 = .ok (.iconst 5, 1) := by decide +kernel
theorem dX7_setWords_74 : decode cX7_setWords 74 = .ok (.iload_n 3, 1) := by decide +kernel
theorem dX7_setWords_75 : decode cX7_setWords 75 = .ok (.iadd, 1) := by decide +kernel
theorem dX7_setWords_76 : decode cX7_setWords 76 = .ok (.iload 4, 2) := by decide +kernel
theorem dX7_setWords_78 : decode cX7_setWords 78 = .ok (.ifCond .eq 14, 3) := by decide +kernel
theorem dX7_setWords_81 : decode cX7_setWords 81 = .ok (.aload_n 0, 1) := by decide +kernel
theorem dX7_setWords_82 : decode cX7_setWords 82 = .ok (.getfield 22, 3) := by decide +kernel
theorem dX7_setWords_85 : decode cX7_setWords 85 = .ok (.iload_n 3, 1) := by decide +kernel
theorem dX7_setWords_86 : decode cX7_setWords 86 = .ok (.invokevirtual 96, 3) := by decide +kernel
theorem dX7_setWords_89 : decode cX7_setWords 89 = .ok (.goto 4, 3) := by decide +kernel
theorem dX7_setWords_92 : decode cX7_setWords 92 = .ok (.iconst (-1), 1) := by decide +kernel
theorem dX7_setWords_93 : decode cX7_setWords 93 = .ok (.iastore, 1) := by decide +kernel
theorem dX7_setWords_94 : decode cX7_setWords 94 = .ok (.aload_n 2, 1) := by decide +kernel
theorem dX7_setWords_95 : decode cX7_setWords 95 = .ok (.bipush 15, 2) := by decide +kernel
theorem dX7_setWords_97 : decode cX7_setWords 97 = .ok (.iload_n 3, 1) := by decide +kernel
theorem dX7_setWords_98 : decode cX7_setWords 98 = .ok (.iadd, 1) := by decide +kernel
theorem dX7_setWords_99 : decode cX7_setWords 99 = .ok (.iload 4, 2) := by decide +kernel
theorem dX7_setWords_101 : decode cX7_setWords 101 = .ok (.ifCond .ne 7, 3) := by decide +kernel
theorem dX7_setWords_104 : decode cX7_setWords 104 = .ok (.iconst (-1), 1) := by decide +kernel
theorem dX7_setWords_105 : decode cX7_setWords 105 = .ok (.goto 21, 3) := by decide +kernel
theorem dX7_setWords_108 : decode cX7_setWords 108 = .ok (.aload_n 0, 1) := by decide +kernel
theorem dX7_setWords_109 : decode cX7_setWords 109 = .ok (.getfield 22, 3) := by decide +kernel
theorem dX7_setWords_112 : decode cX7_setWords 112 = .ok (.getfield 99, 3) := by decide +kernel
theorem dX7_setWords_115 : decode cX7_setWords 115 = .ok (.iload_n 3, 1) := by decide +kernel
theorem dX7_setWords_116 : decode cX7_setWords 116 = .ok (.iaload, 1) := by decide +kernel
theorem dX7_setWords_117 : decode cX7_setWords 117 = .ok (.iconst 2, 1) := by decide +kernel
theorem dX7_setWords_118 : decode cX7_setWords 118 = .ok (.if_icmp .ne 7, 3) := by decide +kernel
theorem dX7_setWords_121 : decode cX7_setWords 121 = .ok (.iconst 1, 1) := by decide +kernel
theorem dX7_setWords_122 : decode cX7_setWords 122 = .ok (.goto 4, 3) := by decide +kernel
theorem dX7_setWords_125 : decode cX7_setWords 125 = .ok (.iconst 0, 1) := by decide +kernel
theorem dX7_setWords_126 : decode cX7_setWords 126 = .ok (.iastore, 1) := by decide +kernel
theorem dX7_setWords_127 : decode cX7_setWords 127 = .ok (.iinc 3 1, 3) := by decide +kernel
theorem dX7_setWords_130 : decode cX7_setWords 130 = .ok (.goto (-74), 3) := by decide +kernel
theorem dX7_setWords_133 : decode cX7_setWords 133 = .ok (.return_, 1) := by decide +kernel
def B_X7_setWords_126 (Q : st_S → Prop)  (k56 : Int → st_S → Prop) (l3 : Int) (v0 : Int) (v1 : Int) (σ : st_S) : Prop := ix (wr v1) 25 ∧ ∀ s37 : st_S, s37 = sI σ 54 (Int.toNat (wr v1)) v0 → ∀ x38 : Int, x38 = wr (l3 + 1) → k56 x38 s37
def B_X7_setWords_93 (Q : st_S → Prop)  (k56 : Int → st_S → Prop) (l3 : Int) (l4 : Int) (v0 : Int) (v1 : Int) (σ : st_S) : Prop := ix (wr v1) 25 ∧ ∀ s40 : st_S, s40 = sI σ 54 (Int.toNat (wr v1)) v0 → (¬ l4 = 0 → ix l3 10 ∧ (¬ gI s40 29 (Int.toNat l3) = 2 → B_X7_setWords_126 Q k56 l3 0 (15 + l3) s40) ∧ (gI s40 29 (Int.toNat l3) = 2 → B_X7_setWords_126 Q k56 l3 1 (15 + l3) s40)) ∧ (l4 = 0 → B_X7_setWords_126 Q k56 l3 (-1) (15 + l3) s40)
def L_X7_setWords_56 (Q : st_S → Prop)   : Nat → Int → st_S → Prop
  | 0 => fun _ _ => False
  | n + 1 => fun l3 σ => (10 ≤ l3 → Q σ) ∧ (¬ 10 ≤ l3 → wp_X1_has l3 σ (fun r45 s46 => (r45 = 0 → B_X7_setWords_93 Q (L_X7_setWords_56 Q n) l3 r45 (-1) (5 + l3) s46) ∧ (¬ r45 = 0 → wp_X1_worth l3 s46 (fun r47 s48 => B_X7_setWords_93 Q (L_X7_setWords_56 Q n) l3 r45 r47 (5 + l3) s48))))
def wp_X7_setWords (a1 : Int) (σ : st_S) (Q : st_S → Prop) : Prop := ∀ s52 : st_S, s52 = sI σ 54 0 (gI σ 33 0) → ∀ s54 : st_S, s54 = sI s52 54 1 (gI s52 25 12) → ∀ s56 : st_S, s56 = sI s54 54 2 (gI s54 25 13) → ∀ s57 : st_S, s57 = sI s56 54 3 a1 → ∀ s59 : st_S, s59 = sI s57 54 4 (gI s57 25 14) → ∃ m56 : Nat, L_X7_setWords_56 Q m56 0 s59
set_option maxRecDepth 20000 in
theorem jb_X7_setWords_126 {X : jj_X} {E : ev_E} {n0 hN : Nat} (hc : Cx X E cX7_setWords 5 n0 hN RX7) (hm : eM E = 1) (hr : (xT X).sig.returnType = none) (hh : 2 ≤ hN) {Q : st_S → Prop} {k56 : Int → st_S → Prop} (hk56 : ∀ {l3 : Int} (cl3 : wr l3 = l3) {σ : st_S}, k56 l3 σ → J X E 5 n0 0 0 (MQ (xB X) (qV E (n0 + 0) Q) (xA X) (xS X) 0 0 (eF E)) σ 56 [(0, vR E 52), (2, vR E 54), (3, vI l3)] []) {l3 : Int} {v0 : Int} {v1 : Int} (cl3 : wr l3 = l3) (cv0 : wr v0 = v0) {σ : st_S} (h : B_X7_setWords_126 Q k56 l3 v0 v1 σ) : J X E 5 n0 0 0 (MQ (xB X) (qV E (n0 + 0) Q) (xA X) (xS X) 0 0 (eF E)) σ 126 [(0, vR E 52), (2, vR E 54), (3, vI l3)] [vI v0, vI v1, vR E 54] := by
  have hh1 : 1 ≤ hN := by omega
  replace h : ix (wr v1) 25 ∧ ∀ s37 : st_S, s37 = sI σ 54 (Int.toNat (wr v1)) v0 → ∀ x38 : Int, x38 = wr (l3 + 1) → k56 x38 s37 := h
  obtain ⟨b36, h⟩ := h
  refine j_iast (jn := (Int.toNat (wr v1))) hc (fun hv => sv_kl hv hm rfl) rfl b36 rfl cv0 dX7_setWords_126 (fun s37 es37 => ?_)
  replace h := h s37 es37
  obtain ⟨x38, ex38⟩ : ∃ y : Int, y = wr (l3 + 1) := ⟨_, rfl⟩
  have cx38 : wr x38 = x38 := by rw [ex38]; exact wr_wr _
  replace h := h x38 ex38
  refine j_iinc (lv' := [(3, vI x38), (0, vR E 52), (2, vR E 54)]) hc 2 dX7_setWords_127 rfl (by decide) ex38 rfl ?_
  refine j_goto (tgt := 56) hc dX7_setWords_130 (by decide) ?_
  refine j_sub (lv' := [(0, vR E 52), (2, vR E 54), (3, vI x38)]) [1, 2, 0] rfl ?_
  exact hk56 cx38 h
set_option maxRecDepth 20000 in
theorem jb_X7_setWords_93 {X : jj_X} {E : ev_E} {n0 hN : Nat} (hc : Cx X E cX7_setWords 5 n0 hN RX7) (hm : eM E = 1) (hr : (xT X).sig.returnType = none) (hh : 2 ≤ hN) {Q : st_S → Prop} {k56 : Int → st_S → Prop} (hk56 : ∀ {l3 : Int} (cl3 : wr l3 = l3) {σ : st_S}, k56 l3 σ → J X E 5 n0 0 0 (MQ (xB X) (qV E (n0 + 0) Q) (xA X) (xS X) 0 0 (eF E)) σ 56 [(0, vR E 52), (2, vR E 54), (3, vI l3)] []) {l3 : Int} {l4 : Int} {v0 : Int} {v1 : Int} (cl3 : wr l3 = l3) (cl4 : wr l4 = l4) (cv0 : wr v0 = v0) {σ : st_S} (h : B_X7_setWords_93 Q k56 l3 l4 v0 v1 σ) : J X E 5 n0 0 0 (MQ (xB X) (qV E (n0 + 0) Q) (xA X) (xS X) 0 0 (eF E)) σ 93 [(0, vR E 52), (2, vR E 54), (3, vI l3), (4, vI l4)] [vI v0, vI v1, vR E 54] := by
  have hh1 : 1 ≤ hN := by omega
  replace h : ix (wr v1) 25 ∧ ∀ s40 : st_S, s40 = sI σ 54 (Int.toNat (wr v1)) v0 → (¬ l4 = 0 → ix l3 10 ∧ (¬ gI s40 29 (Int.toNat l3) = 2 → B_X7_setWords_126 Q k56 l3 0 (15 + l3) s40) ∧ (gI s40 29 (Int.toNat l3) = 2 → B_X7_setWords_126 Q k56 l3 1 (15 + l3) s40)) ∧ (l4 = 0 → B_X7_setWords_126 Q k56 l3 (-1) (15 + l3) s40) := h
  obtain ⟨b39, h⟩ := h
  refine j_iast (jn := (Int.toNat (wr v1))) hc (fun hv => sv_kl hv hm rfl) rfl b39 rfl cv0 dX7_setWords_93 (fun s40 es40 => ?_)
  replace h := h s40 es40
  refine j_aload_nR hc 1 dX7_setWords_94 rfl rfl ?_
  refine j_bipush hc dX7_setWords_95 (by decide) ?_
  refine j_iload_n hc 2 dX7_setWords_97 rfl rfl ?_
  refine j_iadd hc dX7_setWords_98 ?_
  refine j_iload hc 3 dX7_setWords_99 rfl ?_
  refine j_if_ne hc cl4 (tgt := 108) dX7_setWords_101 (by decide) (fun q44 => ?_) (fun q44 => ?_)
  · replace h := h.1 q44
    refine j_aload_nR hc 0 dX7_setWords_108 rfl rfl ?_
    refine j_getR (c' := 25) hc fl_RX7_22 rfl rfl (fun hv => (sv_k hv hm rfl)) dX7_setWords_109 ?_
    refine j_getR (c' := 29) hc fl_RX7_99 rfl rfl (fun hv => (sv_k hv hm rfl)) dX7_setWords_112 ?_
    refine j_iload_n hc 2 dX7_setWords_115 rfl rfl ?_
    obtain ⟨b41, h⟩ := h
    refine j_iald (jn := (Int.toNat l3)) hc (fun hv => sv_kl hv hm rfl) cl3 b41 rfl dX7_setWords_116 (fun cn42 => ?_)
    refine j_iconst hc dX7_setWords_117 ?_
    refine j_ic_ne hc cn42 (wlit 2 (by decide)) (tgt := 125) dX7_setWords_118 (by decide) (fun q43 => ?_) (fun q43 => ?_)
    · replace h := h.1 q43
      refine j_iconst hc dX7_setWords_125 ?_
      refine j_sub (lv' := [(0, vR E 52), (2, vR E 54), (3, vI l3)]) [0, 1, 2] rfl ?_
      exact jb_X7_setWords_126 hc hm hr hh hk56 cl3 (wlit 0 (by decide)) h
    · replace h := h.2 q43
      refine j_iconst hc dX7_setWords_121 ?_
      refine j_goto (tgt := 126) hc dX7_setWords_122 (by decide) ?_
      refine j_sub (lv' := [(0, vR E 52), (2, vR E 54), (3, vI l3)]) [0, 1, 2] rfl ?_
      exact jb_X7_setWords_126 hc hm hr hh hk56 cl3 (wlit 1 (by decide)) h
  · replace h := h.2 q44
    refine j_iconst hc dX7_setWords_104 ?_
    refine j_goto (tgt := 126) hc dX7_setWords_105 (by decide) ?_
    refine j_sub (lv' := [(0, vR E 52), (2, vR E 54), (3, vI l3)]) [0, 1, 2] rfl ?_
    exact jb_X7_setWords_126 hc hm hr hh hk56 cl3 (wlit (-1) (by decide)) h
set_option maxRecDepth 20000 in
theorem jl_X7_setWords_56 {X : jj_X} {E : ev_E} {n0 hN : Nat} (hc : Cx X E cX7_setWords 5 n0 hN RX7) (hm : eM E = 1) (hr : (xT X).sig.returnType = none) (hh : 2 ≤ hN) {Q : st_S → Prop} : ∀ (n : Nat) {l3 : Int} (cl3 : wr l3 = l3) {σ : st_S}, L_X7_setWords_56 Q n l3 σ → J X E 5 n0 0 0 (MQ (xB X) (qV E (n0 + 0) Q) (xA X) (xS X) 0 0 (eF E)) σ 56 [(0, vR E 52), (2, vR E 54), (3, vI l3)] [] := by
  have hh1 : 1 ≤ hN := by omega
  intro n
  induction n with
  | zero => intro l3 cl3 σ h; exact h.elim
  | succ n ih =>
    intro l3 cl3 σ h
    have hk56 : ∀ {l3 : Int} (cl3 : wr l3 = l3) {σ : st_S}, L_X7_setWords_56 Q n l3 σ → J X E 5 n0 0 0 (MQ (xB X) (qV E (n0 + 0) Q) (xA X) (xS X) 0 0 (eF E)) σ 56 [(0, vR E 52), (2, vR E 54), (3, vI l3)] [] := ih
    replace h : (10 ≤ l3 → Q σ) ∧ (¬ 10 ≤ l3 → wp_X1_has l3 σ (fun r45 s46 => (r45 = 0 → B_X7_setWords_93 Q (L_X7_setWords_56 Q n) l3 r45 (-1) (5 + l3) s46) ∧ (¬ r45 = 0 → wp_X1_worth l3 s46 (fun r47 s48 => B_X7_setWords_93 Q (L_X7_setWords_56 Q n) l3 r45 r47 (5 + l3) s48)))) := h
    refine j_iload_n hc 2 dX7_setWords_56 rfl rfl ?_
    refine j_bipush hc dX7_setWords_57 (by decide) ?_
    refine j_ic_ge hc cl3 (wlit 10 (by decide)) (tgt := 133) dX7_setWords_59 (by decide) (fun q50 => ?_) (fun q50 => ?_)
    · replace h := h.1 q50
      exact j_vret hc hr h dX7_setWords_133
    · replace h := h.2 q50
      refine j_aload_nR hc 0 dX7_setWords_62 rfl rfl ?_
      refine j_getR (c' := 25) hc fl_RX7_22 rfl rfl (fun hv => (sv_k hv hm rfl)) dX7_setWords_63 ?_
      refine j_iload_n hc 2 dX7_setWords_66 rfl rfl ?_
      refine j_vI hc (k := 1) (by decide) (fun hv => Or.inl (sv_k hv hm rfl)) ml_RX7_92 mv_X1_has (As := [vI l3]) (c_X1_has (cx_E hc) hm cl3 h) rfl (by omega) (by decide) ⟨Nat.zero_le _, Nat.zero_le _⟩ (Nat.le_of_ble_eq_true rfl) rfl dX7_setWords_67 (fun r45 s46 cr45 h => ?_)
      refine j_istore (lv' := [(4, vI r45), (0, vR E 52), (2, vR E 54), (3, vI l3)]) hc dX7_setWords_70 (by decide) rfl ?_
      refine j_aload_nR hc 2 dX7_setWords_72 rfl rfl ?_
      refine j_iconst hc dX7_setWords_73 ?_
      refine j_iload_n hc 3 dX7_setWords_74 rfl rfl ?_
      refine j_iadd hc dX7_setWords_75 ?_
      refine j_iload hc 0 dX7_setWords_76 rfl ?_
      refine j_if_eq hc cr45 (tgt := 92) dX7_setWords_78 (by decide) (fun q49 => ?_) (fun q49 => ?_)
      · replace h := h.1 q49
        refine j_iconst hc dX7_setWords_92 ?_
        refine j_sub (lv' := [(0, vR E 52), (2, vR E 54), (3, vI l3), (4, vI r45)]) [1, 2, 3, 0] rfl ?_
        exact jb_X7_setWords_93 hc hm hr hh hk56 cl3 cr45 (wlit (-1) (by decide)) h
      · replace h := h.2 q49
        refine j_aload_nR hc 1 dX7_setWords_81 rfl rfl ?_
        refine j_getR (c' := 25) hc fl_RX7_22 rfl rfl (fun hv => (sv_k hv hm rfl)) dX7_setWords_82 ?_
        refine j_iload_n hc 3 dX7_setWords_85 rfl rfl ?_
        refine j_vI hc (k := 1) (by decide) (fun hv => Or.inl (sv_k hv hm rfl)) ml_RX7_96 mv_X1_worth (As := [vI l3]) (c_X1_worth (cx_E hc) hm cl3 h) rfl (by omega) (by decide) ⟨Nat.zero_le _, Nat.zero_le _⟩ (Nat.le_of_ble_eq_true rfl) rfl dX7_setWords_86 (fun r47 s48 cr47 h => ?_)
        refine j_goto (tgt := 93) hc dX7_setWords_89 (by decide) ?_
        refine j_sub (lv' := [(0, vR E 52), (2, vR E 54), (3, vI l3), (4, vI r45)]) [1, 2, 3, 0] rfl ?_
        exact jb_X7_setWords_93 hc hm hr hh hk56 cl3 cr45 cr47 h
set_option maxRecDepth 20000 in
theorem c_X7_setWords {l : Launch} {E : ev_E} (hE : Eok E) (hm : eM E = 1) {a1 : Int} (ca1 : wr a1 = a1) {σ : st_S} {Q : st_S → Prop} (h : wp_X7_setWords a1 σ Q) : cM l yX7_setWords cX7_setWords 5 none E 2 0 0 [vR E 52, vI a1] σ (qV E (gN σ + 0) Q) := by
  refine cM_of (lv := [(0, vR E 52), (1, vI a1)]) (by decide) hE (Nat.le_of_ble_eq_true rfl) (rfl) ?_
  intro X hX hc _ _ hr _ _
  subst hX
  have hh : 2 ≤ 2 := Nat.le_refl _
  have hh1 : 1 ≤ 2 := by omega
  replace h : ∀ s52 : st_S, s52 = sI σ 54 0 (gI σ 33 0) → ∀ s54 : st_S, s54 = sI s52 54 1 (gI s52 25 12) → ∀ s56 : st_S, s56 = sI s54 54 2 (gI s54 25 13) → ∀ s57 : st_S, s57 = sI s56 54 3 a1 → ∀ s59 : st_S, s59 = sI s57 54 4 (gI s57 25 14) → ∃ m56 : Nat, L_X7_setWords_56 Q m56 0 s59 := h
  refine j_aload_nR hc 0 dX7_setWords_0 rfl rfl ?_
  refine j_getR (c' := 53) hc fl_RX7_18 rfl rfl (fun hv => (sv_k hv hm rfl)) dX7_setWords_1 ?_
  refine j_getR (c' := 54) hc fl_RX7_75 rfl rfl (fun hv => (sv_k hv hm rfl)) dX7_setWords_4 ?_
  refine j_astore_nR (lv' := [(2, vR E 54), (0, vR E 52), (1, vI a1)]) hc dX7_setWords_7 rfl (by decide) rfl ?_
  refine j_aload_nR hc 0 dX7_setWords_8 rfl rfl ?_
  refine j_iconst hc dX7_setWords_9 ?_
  refine j_aload_nR hc 1 dX7_setWords_10 rfl rfl ?_
  refine j_getR (c' := 25) hc fl_RX7_22 rfl rfl (fun hv => (sv_k hv hm rfl)) dX7_setWords_11 ?_
  refine j_getR (c' := 33) hc fl_RX7_78 rfl rfl (fun hv => (sv_k hv hm rfl)) dX7_setWords_14 ?_
  refine j_iconst hc dX7_setWords_17 ?_
  refine j_iald (jn := 0) hc (fun hv => sv_kl hv hm rfl) (wlit 0 (by decide)) ⟨by decide, by decide⟩ rfl dX7_setWords_18 (fun cn51 => ?_)
  refine j_iast (jn := 0) hc (fun hv => sv_kl hv hm rfl) (wlit 0 (by decide)) ⟨by decide, by decide⟩ rfl cn51 dX7_setWords_19 (fun s52 es52 => ?_)
  replace h := h s52 es52
  refine j_aload_nR hc 0 dX7_setWords_20 rfl rfl ?_
  refine j_iconst hc dX7_setWords_21 ?_
  refine j_aload_nR hc 1 dX7_setWords_22 rfl rfl ?_
  refine j_getR (c' := 25) hc fl_RX7_22 rfl rfl (fun hv => (sv_k hv hm rfl)) dX7_setWords_23 ?_
  refine j_getI hc fl_RX7_83 (Or.inl rfl) (fun hv => Or.inl (sv_k hv hm rfl)) dX7_setWords_26 (fun cn53 => ?_)
  refine j_iast (jn := 1) hc (fun hv => sv_kl hv hm rfl) (wlit 1 (by decide)) ⟨by decide, by decide⟩ rfl cn53 dX7_setWords_29 (fun s54 es54 => ?_)
  replace h := h s54 es54
  refine j_aload_nR hc 0 dX7_setWords_30 rfl rfl ?_
  refine j_iconst hc dX7_setWords_31 ?_
  refine j_aload_nR hc 1 dX7_setWords_32 rfl rfl ?_
  refine j_getR (c' := 25) hc fl_RX7_22 rfl rfl (fun hv => (sv_k hv hm rfl)) dX7_setWords_33 ?_
  refine j_getI hc fl_RX7_86 (Or.inl rfl) (fun hv => Or.inl (sv_k hv hm rfl)) dX7_setWords_36 (fun cn55 => ?_)
  refine j_iast (jn := 2) hc (fun hv => sv_kl hv hm rfl) (wlit 2 (by decide)) ⟨by decide, by decide⟩ rfl cn55 dX7_setWords_39 (fun s56 es56 => ?_)
  replace h := h s56 es56
  refine j_aload_nR hc 0 dX7_setWords_40 rfl rfl ?_
  refine j_iconst hc dX7_setWords_41 ?_
  refine j_iload_n hc 2 dX7_setWords_42 rfl rfl ?_
  refine j_iast (jn := 3) hc (fun hv => sv_kl hv hm rfl) (wlit 3 (by decide)) ⟨by decide, by decide⟩ rfl ca1 dX7_setWords_43 (fun s57 es57 => ?_)
  replace h := h s57 es57
  refine j_aload_nR hc 0 dX7_setWords_44 rfl rfl ?_
  refine j_iconst hc dX7_setWords_45 ?_
  refine j_aload_nR hc 1 dX7_setWords_46 rfl rfl ?_
  refine j_getR (c' := 25) hc fl_RX7_22 rfl rfl (fun hv => (sv_k hv hm rfl)) dX7_setWords_47 ?_
  refine j_getI hc fl_RX7_89 (Or.inl rfl) (fun hv => Or.inl (sv_k hv hm rfl)) dX7_setWords_50 (fun cn58 => ?_)
  refine j_iast (jn := 4) hc (fun hv => sv_kl hv hm rfl) (wlit 4 (by decide)) ⟨by decide, by decide⟩ rfl cn58 dX7_setWords_53 (fun s59 es59 => ?_)
  replace h := h s59 es59
  refine j_iconst hc dX7_setWords_54 ?_
  refine j_istore_n (lv' := [(3, vI 0), (2, vR E 54), (0, vR E 52), (1, vI a1)]) hc dX7_setWords_55 rfl (by decide) rfl ?_
  obtain ⟨n56, h⟩ := h
  refine j_sub (lv' := [(0, vR E 52), (2, vR E 54), (3, vI 0)]) [2, 1, 0] rfl ?_
  exact jl_X7_setWords_56 hc hm hr hh n56 (wlit 0 (by decide)) h
-- LitStrangers$Runner.run(LLitStrangers$Text;)I
theorem dX7_run_0 : decode cX7_run 0 = .ok (.aload_n 0, 1) := by decide +kernel
theorem dX7_run_1 : decode cX7_run 1 = .ok (.iconst (-1), 1) := by decide +kernel
theorem dX7_run_2 : decode cX7_run 2 = .ok (.putfield 9, 3) := by decide +kernel
theorem dX7_run_5 : decode cX7_run 5 = .ok (.iconst 0, 1) := by decide +kernel
theorem dX7_run_6 : decode cX7_run 6 = .ok (.istore_n 2, 1) := by decide +kernel
theorem dX7_run_7 : decode cX7_run 7 = .ok (.iconst 0, 1) := by decide +kernel
theorem dX7_run_8 : decode cX7_run 8 = .ok (.istore_n 3, 1) := by decide +kernel
theorem dX7_run_9 : decode cX7_run 9 = .ok (.iload_n 3, 1) := by decide +kernel
theorem dX7_run_10 : decode cX7_run 10 = .ok (.aload_n 1, 1) := by decide +kernel
theorem dX7_run_11 : decode cX7_run 11 = .ok (.getfield 30, 3) := by decide +kernel
theorem dX7_run_14 : decode cX7_run 14 = .ok (.if_icmp .ge 191, 3) := by decide +kernel
theorem dX7_run_17 : decode cX7_run 17 = .ok (.aload_n 1, 1) := by decide +kernel
theorem dX7_run_18 : decode cX7_run 18 = .ok (.getfield 35, 3) := by decide +kernel
theorem dX7_run_21 : decode cX7_run 21 = .ok (.iload_n 3, 1) := by decide +kernel
theorem dX7_run_22 : decode cX7_run 22 = .ok (.iaload, 1) := by decide +kernel
theorem dX7_run_23 : decode cX7_run 23 = .ok (.istore 4, 2) := by decide +kernel
theorem dX7_run_25 : decode cX7_run 25 = .ok (.iconst 0, 1) := by decide +kernel
theorem dX7_run_26 : decode cX7_run 26 = .ok (.istore 5, 2) := by decide +kernel
theorem dX7_run_28 : decode cX7_run 28 = .ok (.iload 5, 2) := by decide +kernel
theorem dX7_run_30 : decode cX7_run 30 = .ok (.aload_n 1, 1) := by decide +kernel
theorem dX7_run_31 : decode cX7_run 31 = .ok (.getfield 39, 3) := by decide +kernel
theorem dX7_run_34 : decode cX7_run 34 = .ok (.iload_n 3, 1) := by decide +kernel
theorem dX7_run_35 : decode cX7_run 35 = .ok (.iaload, 1) := by decide +kernel
theorem dX7_run_36 : decode cX7_run 36 = .ok (.if_icmp .ge 163, 3) := by decide +kernel
theorem dX7_run_39 : decode cX7_run 39 = .ok (.aload_n 0, 1) := by decide +kernel
theorem dX7_run_40 : decode cX7_run 40 = .ok (.iload_n 2, 1) := by decide +kernel
theorem dX7_run_41 : decode cX7_run 41 = .ok (.invokevirtual 42, 3) := by decide +kernel
theorem dX7_run_44 : decode cX7_run 44 = .ok (.iload 4, 2) := by decide +kernel
theorem dX7_run_46 : decode cX7_run 46 = .ok (.aload_n 1, 1) := by decide +kernel
theorem dX7_run_47 : decode cX7_run 47 = .ok (.getfield 46, 3) := by decide +kernel
theorem dX7_run_50 : decode cX7_run 50 = .ok (.iload_n 3, 1) := by decide +kernel
theorem dX7_run_51 : decode cX7_run 51 = .ok (.iaload, 1) := by decide +kernel
theorem dX7_run_52 : decode cX7_run 52 = .ok (.if_icmp .ge 36, 3) := by decide +kernel
theorem dX7_run_55 : decode cX7_run 55 = .ok (.aload_n 0, 1) := by decide +kernel
theorem dX7_run_56 : decode cX7_run 56 = .ok (.getfield 18, 3) := by decide +kernel
theorem dX7_run_59 : decode cX7_run 59 = .ok (.aload_n 1, 1) := by decide +kernel
theorem dX7_run_60 : decode cX7_run 60 = .ok (.iload 4, 2) := by decide +kernel
theorem dX7_run_62 : decode cX7_run 62 = .ok (.aload_n 1, 1) := by decide +kernel
theorem dX7_run_63 : decode cX7_run 63 = .ok (.getfield 46, 3) := by decide +kernel
theorem dX7_run_66 : decode cX7_run 66 = .ok (.iload_n 3, 1) := by decide +kernel
theorem dX7_run_67 : decode cX7_run 67 = .ok (.iaload, 1) := by decide +kernel
theorem dX7_run_68 : decode cX7_run 68 = .ok (.invokevirtual 49, 3) := by decide +kernel
theorem dX7_run_71 : decode cX7_run 71 = .ok (.ifCond .eq 122, 3) := by decide +kernel
theorem dX7_run_74 : decode cX7_run 74 = .ok (.aload_n 0, 1) := by decide +kernel
theorem dX7_run_75 : decode cX7_run 75 = .ok (.getfield 18, 3) := by decide +kernel
theorem dX7_run_78 : decode cX7_run 78 = .ok (.getfield 53, 3) := by decide +kernel
theorem dX7_run_81 : decode cX7_run 81 = .ok (.iconst 1, 1) := by decide +kernel
theorem dX7_run_82 : decode cX7_run 82 = .ok (.if_icmp .eq 6, 3) := by decide +kernel
theorem dX7_run_85 : decode cX7_run 85 = .ok (.goto 108, 3) := by decide +kernel
theorem dX7_run_88 : decode cX7_run 88 = .ok (.aload_n 0, 1) := by decide +kernel
theorem dX7_run_89 : decode cX7_run 89 = .ok (.getfield 18, 3) := by decide +kernel
theorem dX7_run_92 : decode cX7_run 92 = .ok (.aload_n 1, 1) := by decide +kernel
theorem dX7_run_93 : decode cX7_run 93 = .ok (.aload_n 1, 1) := by decide +kernel
theorem dX7_run_94 : decode cX7_run 94 = .ok (.getfield 56, 3) := by decide +kernel
theorem dX7_run_97 : decode cX7_run 97 = .ok (.iload_n 3, 1) := by decide +kernel
theorem dX7_run_98 : decode cX7_run 98 = .ok (.iaload, 1) := by decide +kernel
theorem dX7_run_99 : decode cX7_run 99 = .ok (.iload 4, 2) := by decide +kernel
theorem dX7_run_101 : decode cX7_run 101 = .ok (.invokevirtual 49, 3) := by decide +kernel
theorem dX7_run_104 : decode cX7_run 104 = .ok (.istore 6, 2) := by decide +kernel
theorem dX7_run_106 : decode cX7_run 106 = .ok (.iload 6, 2) := by decide +kernel
theorem dX7_run_108 : decode cX7_run 108 = .ok (.ifCond .ne 8, 3) := by decide +kernel
theorem dX7_run_111 : decode cX7_run 111 = .ok (.bipush (-3), 2) := by decide +kernel
theorem dX7_run_113 : decode cX7_run 113 = .ok (.goto 63, 3) := by decide +kernel
theorem dX7_run_116 : decode cX7_run 116 = .ok (.aload_n 1, 1) := by decide +kernel
theorem dX7_run_117 : decode cX7_run 117 = .ok (.getfield 59, 3) := by decide +kernel
theorem dX7_run_120 : decode cX7_run 120 = .ok (.iload_n 3, 1) := by decide +kernel
theorem dX7_run_121 : decode cX7_run 121 = .ok (.iaload, 1) := by decide +kernel
theorem dX7_run_122 : decode cX7_run 122 = .ok (.ifCond .ne 20, 3) := by decide +kernel
theorem dX7_run_125 : decode cX7_run 125 = .ok (.aload_n 0, 1) := by decide +kernel
theorem dX7_run_126 : decode cX7_run 126 = .ok (.getfield 26, 3) := by decide +kernel
theorem dX7_run_129 : decode cX7_run 129 = .ok (.aload_n 0, 1) := by decide +kernel
theorem dX7_run_130 : decode cX7_run 130 = .ok (.getfield 18, 3) := by decide +kernel
theorem dX7_run_133 : decode cX7_run 133 = .ok (.getfield 53, 3) := by decide +kernel
theorem dX7_run_136 : decode cX7_run 136 = .ok (.invokevirtual 62, 3) := by decide +kernel
theorem dX7_run_139 : decode cX7_run 139 = .ok (.goto 37, 3) := by decide +kernel
theorem dX7_run_142 : decode cX7_run 142 = .ok (.aload_n 1, 1) := by decide +kernel
theorem dX7_run_143 : decode cX7_run 143 = .ok (.getfield 59, 3) := by decide +kernel
theorem dX7_run_146 : decode cX7_run 146 = .ok (.iload_n 3, 1) := by decide +kernel
theorem dX7_run_147 : decode cX7_run 147 = .ok (.iaload, 1) := by decide +kernel
theorem dX7_run_148 : decode cX7_run 148 = .ok (.iconst 1, 1) := by decide +kernel
theorem dX7_run_149 : decode cX7_run 149 = .ok (.if_icmp .ne 20, 3) := by decide +kernel
theorem dX7_run_152 : decode cX7_run 152 = .ok (.aload_n 0, 1) := by decide +kernel
theorem dX7_run_153 : decode cX7_run 153 = .ok (.getfield 26, 3) := by decide +kernel
theorem dX7_run_156 : decode cX7_run 156 = .ok (.aload_n 0, 1) := by decide +kernel
theorem dX7_run_157 : decode cX7_run 157 = .ok (.getfield 18, 3) := by decide +kernel
theorem dX7_run_160 : decode cX7_run 160 = .ok (.getfield 53, 3) := by decide +kernel
theorem dX7_run_163 : decode cX7_run 163 = .ok (.invokevirtual 68, 3) := by decide +kernel
theorem dX7_run_166 : decode cX7_run 166 = .ok (.goto 10, 3) := by decide +kernel
theorem dX7_run_169 : decode cX7_run 169 = .ok (.aload_n 0, 1) := by decide +kernel
theorem dX7_run_170 : decode cX7_run 170 = .ok (.getfield 26, 3) := by decide +kernel
theorem dX7_run_173 : decode cX7_run 173 = .ok (.invokevirtual 71, 3) := by decide +kernel
theorem dX7_run_176 : decode cX7_run 176 = .ok (.istore 7, 2) := by decide +kernel
theorem dX7_run_178 : decode cX7_run 178 = .ok (.iload 7, 2) := by decide +kernel
theorem dX7_run_180 : decode cX7_run 180 = .ok (.ifCond .ge 10, 3) := by decide +kernel
theorem dX7_run_183 : decode cX7_run 183 = .ok (.aload_n 0, 1) := by decide +kernel
theorem dX7_run_184 : decode cX7_run 184 = .ok (.iload_n 3, 1) := by decide +kernel
theorem dX7_run_185 : decode cX7_run 185 = .ok (.putfield 9, 3) := by decide +kernel
theorem dX7_run_188 : decode cX7_run 188 = .ok (.iload_n 2, 1) := by decide +kernel
theorem dX7_run_189 : decode cX7_run 189 = .ok (.ireturn, 1) := by decide +kernel
theorem dX7_run_190 : decode cX7_run 190 = .ok (.iinc 2 1, 3) := by decide +kernel
theorem dX7_run_193 : decode cX7_run 193 = .ok (.iinc 5 1, 3) := by decide +kernel
theorem dX7_run_196 : decode cX7_run 196 = .ok (.goto (-168), 3) := by decide +kernel
theorem dX7_run_199 : decode cX7_run 199 = .ok (.iinc 3 1, 3) := by decide +kernel
theorem dX7_run_202 : decode cX7_run 202 = .ok (.goto (-193), 3) := by decide +kernel
theorem dX7_run_205 : decode cX7_run 205 = .ok (.iload_n 2, 1) := by decide +kernel
theorem dX7_run_206 : decode cX7_run 206 = .ok (.ireturn, 1) := by decide +kernel
def B_X7_run_193 (Q : Int → st_S → Prop)  (k9 : Int → Int → st_S → Prop) (k28 : Int → Int → Int → Int → st_S → Prop) (l2 : Int) (l3 : Int) (l4 : Int) (l5 : Int) (σ : st_S) : Prop := ∀ x44 : Int, x44 = wr (l5 + 1) → k28 l2 l3 l4 x44 σ
def B_X7_run_176 (Q : Int → st_S → Prop)  (k9 : Int → Int → st_S → Prop) (k28 : Int → Int → Int → Int → st_S → Prop) (l2 : Int) (l3 : Int) (l4 : Int) (l5 : Int) (v0 : Int) (σ : st_S) : Prop := (0 ≤ v0 → ∀ x45 : Int, x45 = wr (l2 + 1) → B_X7_run_193 Q k9 k28 x45 l3 l4 l5 σ) ∧ (¬ 0 ≤ v0 → ∀ s46 : st_S, s46 = sI σ 52 0 l3 → Q l2 s46)
def B_X7_run_88 (Q : Int → st_S → Prop)  (k9 : Int → Int → st_S → Prop) (k28 : Int → Int → Int → Int → st_S → Prop) (l2 : Int) (l3 : Int) (l4 : Int) (l5 : Int) (σ : st_S) : Prop := ix l3 12 ∧ wp_X0_solve 53 14 (gI σ 17 (Int.toNat l3)) l4 σ (fun r50 s51 => (¬ r50 = 0 → ix l3 12 ∧ (¬ gI s51 16 (Int.toNat l3) = 0 → ix l3 12 ∧ (¬ gI s51 16 (Int.toNat l3) = 1 → wp_X2_idle s51 (fun r56 s57 => B_X7_run_176 Q k9 k28 l2 l3 l4 l5 r56 s57)) ∧ (gI s51 16 (Int.toNat l3) = 1 → wp_X2_kindle (gI s51 53 1) s51 (fun r59 s60 => B_X7_run_176 Q k9 k28 l2 l3 l4 l5 r59 s60))) ∧ (gI s51 16 (Int.toNat l3) = 0 → wp_X2_summon (gI s51 53 1) s51 (fun r63 s64 => B_X7_run_176 Q k9 k28 l2 l3 l4 l5 r63 s64))) ∧ (r50 = 0 → B_X7_run_176 Q k9 k28 l2 l3 l4 l5 (-3) s51))
def L_X7_run_28 (Q : Int → st_S → Prop)  (k9 : Int → Int → st_S → Prop) : Nat → Int → Int → Int → Int → st_S → Prop
  | 0 => fun _ _ _ _ _ => False
  | n + 1 => fun l2 l3 l4 l5 σ => ix l3 12 ∧ (gI σ 20 (Int.toNat l3) ≤ l5 → ∀ x69 : Int, x69 = wr (l3 + 1) → k9 l2 x69 σ) ∧ (¬ gI σ 20 (Int.toNat l3) ≤ l5 → wp_X7_setWords l2 σ (fun s71 => ix l3 12 ∧ (gI s71 19 (Int.toNat l3) ≤ l4 → B_X7_run_88 Q k9 (L_X7_run_28 Q k9 n) l2 l3 l4 l5 s71) ∧ (¬ gI s71 19 (Int.toNat l3) ≤ l4 → ix l3 12 ∧ wp_X0_solve 53 14 l4 (gI s71 19 (Int.toNat l3)) s71 (fun r76 s77 => (r76 = 0 → B_X7_run_193 Q k9 (L_X7_run_28 Q k9 n) l2 l3 l4 l5 s77) ∧ (¬ r76 = 0 → (gI s77 53 1 = 1 → B_X7_run_88 Q k9 (L_X7_run_28 Q k9 n) l2 l3 l4 l5 s77) ∧ (¬ gI s77 53 1 = 1 → B_X7_run_193 Q k9 (L_X7_run_28 Q k9 n) l2 l3 l4 l5 s77))))))
def L_X7_run_9 (Q : Int → st_S → Prop)   : Nat → Int → Int → st_S → Prop
  | 0 => fun _ _ _ => False
  | n + 1 => fun l2 l3 σ => (gI σ 14 7 ≤ l3 → Q l2 σ) ∧ (¬ gI σ 14 7 ≤ l3 → ix l3 12 ∧ ∀ x86 : Int, x86 = gI σ 18 (Int.toNat l3) → ∃ m28 : Nat, L_X7_run_28 Q (L_X7_run_9 Q n) m28 l2 l3 x86 0 σ)
def wp_X7_run  (σ : st_S) (Q : Int → st_S → Prop) : Prop := ∀ s88 : st_S, s88 = sI σ 52 0 (-1) → ∃ m9 : Nat, L_X7_run_9 Q m9 0 0 s88
set_option maxRecDepth 20000 in
theorem jb_X7_run_193 {X : jj_X} {E : ev_E} {n0 hN : Nat} (hc : Cx X E cX7_run 8 n0 hN RX7) (hm : eM E = 1) (hr : (xT X).sig.returnType = (some .int)) (hh : 7 ≤ hN) {Q : Int → st_S → Prop} {k9 : Int → Int → st_S → Prop} (hk9 : ∀ {l2 : Int} {l3 : Int} (cl2 : wr l2 = l2) (cl3 : wr l3 = l3) {σ : st_S}, k9 l2 l3 σ → J X E 8 n0 0 0 (MQ (xB X) (qI E (n0 + 0) Q) (xA X) (xS X) 0 0 (eF E)) σ 9 [(0, vR E 52), (1, vR E 14), (2, vI l2), (3, vI l3)] []) {k28 : Int → Int → Int → Int → st_S → Prop} (hk28 : ∀ {l2 : Int} {l3 : Int} {l4 : Int} {l5 : Int} (cl2 : wr l2 = l2) (cl3 : wr l3 = l3) (cl4 : wr l4 = l4) (cl5 : wr l5 = l5) {σ : st_S}, k28 l2 l3 l4 l5 σ → J X E 8 n0 0 0 (MQ (xB X) (qI E (n0 + 0) Q) (xA X) (xS X) 0 0 (eF E)) σ 28 [(0, vR E 52), (1, vR E 14), (2, vI l2), (3, vI l3), (4, vI l4), (5, vI l5)] []) {l2 : Int} {l3 : Int} {l4 : Int} {l5 : Int} (cl2 : wr l2 = l2) (cl3 : wr l3 = l3) (cl4 : wr l4 = l4) (cl5 : wr l5 = l5) {σ : st_S} (h : B_X7_run_193 Q k9 k28 l2 l3 l4 l5 σ) : J X E 8 n0 0 0 (MQ (xB X) (qI E (n0 + 0) Q) (xA X) (xS X) 0 0 (eF E)) σ 193 [(0, vR E 52), (1, vR E 14), (2, vI l2), (3, vI l3), (4, vI l4), (5, vI l5)] [] := by
  have hh1 : 1 ≤ hN := by omega
  replace h : ∀ x44 : Int, x44 = wr (l5 + 1) → k28 l2 l3 l4 x44 σ := h
  obtain ⟨x44, ex44⟩ : ∃ y : Int, y = wr (l5 + 1) := ⟨_, rfl⟩
  have cx44 : wr x44 = x44 := by rw [ex44]; exact wr_wr _
  replace h := h x44 ex44
  refine j_iinc (lv' := [(5, vI x44), (0, vR E 52), (1, vR E 14), (2, vI l2), (3, vI l3), (4, vI l4)]) hc 5 dX7_run_193 rfl (by decide) ex44 rfl ?_
  refine j_goto (tgt := 28) hc dX7_run_196 (by decide) ?_
  refine j_sub (lv' := [(0, vR E 52), (1, vR E 14), (2, vI l2), (3, vI l3), (4, vI l4), (5, vI x44)]) [1, 2, 3, 4, 5, 0] rfl ?_
  exact hk28 cl2 cl3 cl4 cx44 h
set_option maxRecDepth 20000 in
theorem jb_X7_run_176 {X : jj_X} {E : ev_E} {n0 hN : Nat} (hc : Cx X E cX7_run 8 n0 hN RX7) (hm : eM E = 1) (hr : (xT X).sig.returnType = (some .int)) (hh : 7 ≤ hN) {Q : Int → st_S → Prop} {k9 : Int → Int → st_S → Prop} (hk9 : ∀ {l2 : Int} {l3 : Int} (cl2 : wr l2 = l2) (cl3 : wr l3 = l3) {σ : st_S}, k9 l2 l3 σ → J X E 8 n0 0 0 (MQ (xB X) (qI E (n0 + 0) Q) (xA X) (xS X) 0 0 (eF E)) σ 9 [(0, vR E 52), (1, vR E 14), (2, vI l2), (3, vI l3)] []) {k28 : Int → Int → Int → Int → st_S → Prop} (hk28 : ∀ {l2 : Int} {l3 : Int} {l4 : Int} {l5 : Int} (cl2 : wr l2 = l2) (cl3 : wr l3 = l3) (cl4 : wr l4 = l4) (cl5 : wr l5 = l5) {σ : st_S}, k28 l2 l3 l4 l5 σ → J X E 8 n0 0 0 (MQ (xB X) (qI E (n0 + 0) Q) (xA X) (xS X) 0 0 (eF E)) σ 28 [(0, vR E 52), (1, vR E 14), (2, vI l2), (3, vI l3), (4, vI l4), (5, vI l5)] []) {l2 : Int} {l3 : Int} {l4 : Int} {l5 : Int} {v0 : Int} (cl2 : wr l2 = l2) (cl3 : wr l3 = l3) (cl4 : wr l4 = l4) (cl5 : wr l5 = l5) (cv0 : wr v0 = v0) {σ : st_S} (h : B_X7_run_176 Q k9 k28 l2 l3 l4 l5 v0 σ) : J X E 8 n0 0 0 (MQ (xB X) (qI E (n0 + 0) Q) (xA X) (xS X) 0 0 (eF E)) σ 176 [(0, vR E 52), (1, vR E 14), (2, vI l2), (3, vI l3), (4, vI l4), (5, vI l5)] [vI v0] := by
  have hh1 : 1 ≤ hN := by omega
  replace h : (0 ≤ v0 → ∀ x45 : Int, x45 = wr (l2 + 1) → B_X7_run_193 Q k9 k28 x45 l3 l4 l5 σ) ∧ (¬ 0 ≤ v0 → ∀ s46 : st_S, s46 = sI σ 52 0 l3 → Q l2 s46) := h
  refine j_istore (lv' := [(7, vI v0), (0, vR E 52), (1, vR E 14), (2, vI l2), (3, vI l3), (4, vI l4), (5, vI l5)]) hc dX7_run_176 (by decide) rfl ?_
  refine j_iload hc 0 dX7_run_178 rfl ?_
  refine j_if_ge hc cv0 (tgt := 190) dX7_run_180 (by decide) (fun q47 => ?_) (fun q47 => ?_)
  · replace h := h.1 q47
    obtain ⟨x45, ex45⟩ : ∃ y : Int, y = wr (l2 + 1) := ⟨_, rfl⟩
    have cx45 : wr x45 = x45 := by rw [ex45]; exact wr_wr _
    replace h := h x45 ex45
    refine j_iinc (lv' := [(2, vI x45), (7, vI v0), (0, vR E 52), (1, vR E 14), (3, vI l3), (4, vI l4), (5, vI l5)]) hc 3 dX7_run_190 rfl (by decide) ex45 rfl ?_
    refine j_sub (lv' := [(0, vR E 52), (1, vR E 14), (2, vI x45), (3, vI l3), (4, vI l4), (5, vI l5)]) [2, 3, 0, 4, 5, 6] rfl ?_
    exact jb_X7_run_193 hc hm hr hh hk9 hk28 cx45 cl3 cl4 cl5 h
  · replace h := h.2 q47
    refine j_aload_nR hc 1 dX7_run_183 rfl rfl ?_
    refine j_iload_n hc 4 dX7_run_184 rfl rfl ?_
    refine j_putI hc fl_RX7_9 rfl rfl (fun hv => Or.inl (sv_k hv hm rfl)) cl3 dX7_run_185 (fun s46 es46 => ?_)
    replace h := h s46 es46
    refine j_iload_n hc 3 dX7_run_188 rfl rfl ?_
    exact j_iret hc hr cl2 h dX7_run_189
set_option maxRecDepth 20000 in
theorem jb_X7_run_88 {X : jj_X} {E : ev_E} {n0 hN : Nat} (hc : Cx X E cX7_run 8 n0 hN RX7) (hm : eM E = 1) (hr : (xT X).sig.returnType = (some .int)) (hh : 7 ≤ hN) {Q : Int → st_S → Prop} {k9 : Int → Int → st_S → Prop} (hk9 : ∀ {l2 : Int} {l3 : Int} (cl2 : wr l2 = l2) (cl3 : wr l3 = l3) {σ : st_S}, k9 l2 l3 σ → J X E 8 n0 0 0 (MQ (xB X) (qI E (n0 + 0) Q) (xA X) (xS X) 0 0 (eF E)) σ 9 [(0, vR E 52), (1, vR E 14), (2, vI l2), (3, vI l3)] []) {k28 : Int → Int → Int → Int → st_S → Prop} (hk28 : ∀ {l2 : Int} {l3 : Int} {l4 : Int} {l5 : Int} (cl2 : wr l2 = l2) (cl3 : wr l3 = l3) (cl4 : wr l4 = l4) (cl5 : wr l5 = l5) {σ : st_S}, k28 l2 l3 l4 l5 σ → J X E 8 n0 0 0 (MQ (xB X) (qI E (n0 + 0) Q) (xA X) (xS X) 0 0 (eF E)) σ 28 [(0, vR E 52), (1, vR E 14), (2, vI l2), (3, vI l3), (4, vI l4), (5, vI l5)] []) {l2 : Int} {l3 : Int} {l4 : Int} {l5 : Int} (cl2 : wr l2 = l2) (cl3 : wr l3 = l3) (cl4 : wr l4 = l4) (cl5 : wr l5 = l5) {σ : st_S} (h : B_X7_run_88 Q k9 k28 l2 l3 l4 l5 σ) : J X E 8 n0 0 0 (MQ (xB X) (qI E (n0 + 0) Q) (xA X) (xS X) 0 0 (eF E)) σ 88 [(0, vR E 52), (1, vR E 14), (2, vI l2), (3, vI l3), (4, vI l4), (5, vI l5)] [] := by
  have hh1 : 1 ≤ hN := by omega
  replace h : ix l3 12 ∧ wp_X0_solve 53 14 (gI σ 17 (Int.toNat l3)) l4 σ (fun r50 s51 => (¬ r50 = 0 → ix l3 12 ∧ (¬ gI s51 16 (Int.toNat l3) = 0 → ix l3 12 ∧ (¬ gI s51 16 (Int.toNat l3) = 1 → wp_X2_idle s51 (fun r56 s57 => B_X7_run_176 Q k9 k28 l2 l3 l4 l5 r56 s57)) ∧ (gI s51 16 (Int.toNat l3) = 1 → wp_X2_kindle (gI s51 53 1) s51 (fun r59 s60 => B_X7_run_176 Q k9 k28 l2 l3 l4 l5 r59 s60))) ∧ (gI s51 16 (Int.toNat l3) = 0 → wp_X2_summon (gI s51 53 1) s51 (fun r63 s64 => B_X7_run_176 Q k9 k28 l2 l3 l4 l5 r63 s64))) ∧ (r50 = 0 → B_X7_run_176 Q k9 k28 l2 l3 l4 l5 (-3) s51)) := h
  refine j_aload_nR hc 0 dX7_run_88 rfl rfl ?_
  refine j_getR (c' := 53) hc fl_RX7_18 rfl rfl (fun hv => (sv_k hv hm rfl)) dX7_run_89 ?_
  refine j_aload_nR hc 1 dX7_run_92 rfl rfl ?_
  refine j_aload_nR hc 1 dX7_run_93 rfl rfl ?_
  refine j_getR (c' := 17) hc fl_RX7_56 rfl rfl (fun hv => (sv_k hv hm rfl)) dX7_run_94 ?_
  refine j_iload_n hc 3 dX7_run_97 rfl rfl ?_
  obtain ⟨b48, h⟩ := h
  refine j_iald (jn := (Int.toNat l3)) hc (fun hv => sv_kl hv hm rfl) cl3 b48 rfl dX7_run_98 (fun cn49 => ?_)
  refine j_iload hc 4 dX7_run_99 rfl ?_
  refine j_vI hc (k := 0) (by decide) (fun hv => Or.inl (sv_k hv hm rfl)) ml_RX7_49 mv_X0_solve (As := [vR E 14, vI (gI σ 17 (Int.toNat l3)), vI l4]) (c_X0_solve (cx_E hc) hm cn49 cl4 h) rfl (by omega) (by decide) ⟨Nat.zero_le _, Nat.zero_le _⟩ (Nat.le_of_ble_eq_true rfl) rfl dX7_run_101 (fun r50 s51 cr50 h => ?_)
  refine j_istore (lv' := [(6, vI r50), (0, vR E 52), (1, vR E 14), (2, vI l2), (3, vI l3), (4, vI l4), (5, vI l5)]) hc dX7_run_104 (by decide) rfl ?_
  refine j_iload hc 0 dX7_run_106 rfl ?_
  refine j_if_ne hc cr50 (tgt := 116) dX7_run_108 (by decide) (fun q66 => ?_) (fun q66 => ?_)
  · replace h := h.1 q66
    refine j_aload_nR hc 2 dX7_run_116 rfl rfl ?_
    refine j_getR (c' := 16) hc fl_RX7_59 rfl rfl (fun hv => (sv_k hv hm rfl)) dX7_run_117 ?_
    refine j_iload_n hc 4 dX7_run_120 rfl rfl ?_
    obtain ⟨b52, h⟩ := h
    refine j_iald (jn := (Int.toNat l3)) hc (fun hv => sv_kl hv hm rfl) cl3 b52 rfl dX7_run_121 (fun cn53 => ?_)
    refine j_if_ne hc cn53 (tgt := 142) dX7_run_122 (by decide) (fun q65 => ?_) (fun q65 => ?_)
    · replace h := h.1 q65
      refine j_aload_nR hc 2 dX7_run_142 rfl rfl ?_
      refine j_getR (c' := 16) hc fl_RX7_59 rfl rfl (fun hv => (sv_k hv hm rfl)) dX7_run_143 ?_
      refine j_iload_n hc 4 dX7_run_146 rfl rfl ?_
      obtain ⟨b54, h⟩ := h
      refine j_iald (jn := (Int.toNat l3)) hc (fun hv => sv_kl hv hm rfl) cl3 b54 rfl dX7_run_147 (fun cn55 => ?_)
      refine j_iconst hc dX7_run_148 ?_
      refine j_ic_ne hc cn55 (wlit 1 (by decide)) (tgt := 169) dX7_run_149 (by decide) (fun q61 => ?_) (fun q61 => ?_)
      · replace h := h.1 q61
        refine j_aload_nR hc 1 dX7_run_169 rfl rfl ?_
        refine j_getR (c' := 41) hc fl_RX7_26 rfl rfl (fun hv => (sv_k hv hm rfl)) dX7_run_170 ?_
        refine j_vI hc (k := 2) (by decide) (fun hv => Or.inl (sv_k hv hm rfl)) ml_RX7_71 mv_X2_idle (As := []) (c_X2_idle (cx_E hc) hm  h) rfl (by omega) (by decide) ⟨Nat.zero_le _, Nat.zero_le _⟩ (Nat.le_of_ble_eq_true rfl) rfl dX7_run_173 (fun r56 s57 cr56 h => ?_)
        refine j_sub (lv' := [(0, vR E 52), (1, vR E 14), (2, vI l2), (3, vI l3), (4, vI l4), (5, vI l5)]) [1, 2, 3, 4, 5, 6] rfl ?_
        exact jb_X7_run_176 hc hm hr hh hk9 hk28 cl2 cl3 cl4 cl5 cr56 h
      · replace h := h.2 q61
        refine j_aload_nR hc 1 dX7_run_152 rfl rfl ?_
        refine j_getR (c' := 41) hc fl_RX7_26 rfl rfl (fun hv => (sv_k hv hm rfl)) dX7_run_153 ?_
        refine j_aload_nR hc 1 dX7_run_156 rfl rfl ?_
        refine j_getR (c' := 53) hc fl_RX7_18 rfl rfl (fun hv => (sv_k hv hm rfl)) dX7_run_157 ?_
        refine j_getI hc fl_RX7_53 (Or.inl rfl) (fun hv => Or.inl (sv_k hv hm rfl)) dX7_run_160 (fun cn58 => ?_)
        refine j_vI hc (k := 2) (by decide) (fun hv => Or.inl (sv_k hv hm rfl)) ml_RX7_68 mv_X2_kindle (As := [vI (gI s51 53 1)]) (c_X2_kindle (cx_E hc) hm cn58 h) rfl (by omega) (by decide) ⟨Nat.zero_le _, Nat.zero_le _⟩ (Nat.le_of_ble_eq_true rfl) rfl dX7_run_163 (fun r59 s60 cr59 h => ?_)
        refine j_goto (tgt := 176) hc dX7_run_166 (by decide) ?_
        refine j_sub (lv' := [(0, vR E 52), (1, vR E 14), (2, vI l2), (3, vI l3), (4, vI l4), (5, vI l5)]) [1, 2, 3, 4, 5, 6] rfl ?_
        exact jb_X7_run_176 hc hm hr hh hk9 hk28 cl2 cl3 cl4 cl5 cr59 h
    · replace h := h.2 q65
      refine j_aload_nR hc 1 dX7_run_125 rfl rfl ?_
      refine j_getR (c' := 41) hc fl_RX7_26 rfl rfl (fun hv => (sv_k hv hm rfl)) dX7_run_126 ?_
      refine j_aload_nR hc 1 dX7_run_129 rfl rfl ?_
      refine j_getR (c' := 53) hc fl_RX7_18 rfl rfl (fun hv => (sv_k hv hm rfl)) dX7_run_130 ?_
      refine j_getI hc fl_RX7_53 (Or.inl rfl) (fun hv => Or.inl (sv_k hv hm rfl)) dX7_run_133 (fun cn62 => ?_)
      refine j_vI hc (k := 2) (by decide) (fun hv => Or.inl (sv_k hv hm rfl)) ml_RX7_62 mv_X2_summon (As := [vI (gI s51 53 1)]) (c_X2_summon (cx_E hc) hm cn62 h) rfl (by omega) (by decide) ⟨Nat.zero_le _, Nat.zero_le _⟩ (Nat.le_of_ble_eq_true rfl) rfl dX7_run_136 (fun r63 s64 cr63 h => ?_)
      refine j_goto (tgt := 176) hc dX7_run_139 (by decide) ?_
      refine j_sub (lv' := [(0, vR E 52), (1, vR E 14), (2, vI l2), (3, vI l3), (4, vI l4), (5, vI l5)]) [1, 2, 3, 4, 5, 6] rfl ?_
      exact jb_X7_run_176 hc hm hr hh hk9 hk28 cl2 cl3 cl4 cl5 cr63 h
  · replace h := h.2 q66
    refine j_bipush hc dX7_run_111 (by decide) ?_
    refine j_goto (tgt := 176) hc dX7_run_113 (by decide) ?_
    refine j_sub (lv' := [(0, vR E 52), (1, vR E 14), (2, vI l2), (3, vI l3), (4, vI l4), (5, vI l5)]) [1, 2, 3, 4, 5, 6] rfl ?_
    exact jb_X7_run_176 hc hm hr hh hk9 hk28 cl2 cl3 cl4 cl5 (wlit (-3) (by decide)) h
set_option maxRecDepth 20000 in
theorem jl_X7_run_28 {X : jj_X} {E : ev_E} {n0 hN : Nat} (hc : Cx X E cX7_run 8 n0 hN RX7) (hm : eM E = 1) (hr : (xT X).sig.returnType = (some .int)) (hh : 7 ≤ hN) {Q : Int → st_S → Prop} {k9 : Int → Int → st_S → Prop} (hk9 : ∀ {l2 : Int} {l3 : Int} (cl2 : wr l2 = l2) (cl3 : wr l3 = l3) {σ : st_S}, k9 l2 l3 σ → J X E 8 n0 0 0 (MQ (xB X) (qI E (n0 + 0) Q) (xA X) (xS X) 0 0 (eF E)) σ 9 [(0, vR E 52), (1, vR E 14), (2, vI l2), (3, vI l3)] []) : ∀ (n : Nat) {l2 : Int} {l3 : Int} {l4 : Int} {l5 : Int} (cl2 : wr l2 = l2) (cl3 : wr l3 = l3) (cl4 : wr l4 = l4) (cl5 : wr l5 = l5) {σ : st_S}, L_X7_run_28 Q k9 n l2 l3 l4 l5 σ → J X E 8 n0 0 0 (MQ (xB X) (qI E (n0 + 0) Q) (xA X) (xS X) 0 0 (eF E)) σ 28 [(0, vR E 52), (1, vR E 14), (2, vI l2), (3, vI l3), (4, vI l4), (5, vI l5)] [] := by
  have hh1 : 1 ≤ hN := by omega
  intro n
  induction n with
  | zero => intro l2 l3 l4 l5 cl2 cl3 cl4 cl5 σ h; exact h.elim
  | succ n ih =>
    intro l2 l3 l4 l5 cl2 cl3 cl4 cl5 σ h
    have hk28 : ∀ {l2 : Int} {l3 : Int} {l4 : Int} {l5 : Int} (cl2 : wr l2 = l2) (cl3 : wr l3 = l3) (cl4 : wr l4 = l4) (cl5 : wr l5 = l5) {σ : st_S}, L_X7_run_28 Q k9 n l2 l3 l4 l5 σ → J X E 8 n0 0 0 (MQ (xB X) (qI E (n0 + 0) Q) (xA X) (xS X) 0 0 (eF E)) σ 28 [(0, vR E 52), (1, vR E 14), (2, vI l2), (3, vI l3), (4, vI l4), (5, vI l5)] [] := ih
    replace h : ix l3 12 ∧ (gI σ 20 (Int.toNat l3) ≤ l5 → ∀ x69 : Int, x69 = wr (l3 + 1) → k9 l2 x69 σ) ∧ (¬ gI σ 20 (Int.toNat l3) ≤ l5 → wp_X7_setWords l2 σ (fun s71 => ix l3 12 ∧ (gI s71 19 (Int.toNat l3) ≤ l4 → B_X7_run_88 Q k9 (L_X7_run_28 Q k9 n) l2 l3 l4 l5 s71) ∧ (¬ gI s71 19 (Int.toNat l3) ≤ l4 → ix l3 12 ∧ wp_X0_solve 53 14 l4 (gI s71 19 (Int.toNat l3)) s71 (fun r76 s77 => (r76 = 0 → B_X7_run_193 Q k9 (L_X7_run_28 Q k9 n) l2 l3 l4 l5 s77) ∧ (¬ r76 = 0 → (gI s77 53 1 = 1 → B_X7_run_88 Q k9 (L_X7_run_28 Q k9 n) l2 l3 l4 l5 s77) ∧ (¬ gI s77 53 1 = 1 → B_X7_run_193 Q k9 (L_X7_run_28 Q k9 n) l2 l3 l4 l5 s77)))))) := h
    refine j_iload hc 5 dX7_run_28 rfl ?_
    refine j_aload_nR hc 1 dX7_run_30 rfl rfl ?_
    refine j_getR (c' := 20) hc fl_RX7_39 rfl rfl (fun hv => (sv_k hv hm rfl)) dX7_run_31 ?_
    refine j_iload_n hc 3 dX7_run_34 rfl rfl ?_
    obtain ⟨b67, h⟩ := h
    refine j_iald (jn := (Int.toNat l3)) hc (fun hv => sv_kl hv hm rfl) cl3 b67 rfl dX7_run_35 (fun cn68 => ?_)
    refine j_ic_ge hc cl5 cn68 (tgt := 199) dX7_run_36 (by decide) (fun q82 => ?_) (fun q82 => ?_)
    · replace h := h.1 q82
      obtain ⟨x69, ex69⟩ : ∃ y : Int, y = wr (l3 + 1) := ⟨_, rfl⟩
      have cx69 : wr x69 = x69 := by rw [ex69]; exact wr_wr _
      replace h := h x69 ex69
      refine j_iinc (lv' := [(3, vI x69), (0, vR E 52), (1, vR E 14), (2, vI l2), (4, vI l4), (5, vI l5)]) hc 3 dX7_run_199 rfl (by decide) ex69 rfl ?_
      refine j_goto (tgt := 9) hc dX7_run_202 (by decide) ?_
      refine j_sub (lv' := [(0, vR E 52), (1, vR E 14), (2, vI l2), (3, vI x69)]) [1, 2, 3, 0] rfl ?_
      exact hk9 cl2 cx69 h
    · replace h := h.2 q82
      refine j_aload_nR hc 0 dX7_run_39 rfl rfl ?_
      refine j_iload_n hc 2 dX7_run_40 rfl rfl ?_
      refine j_vV hc (k := 7) (by decide) (fun hv => Or.inl (sv_k hv hm rfl)) ml_RX7_42 mv_X7_setWords (As := [vI l2]) (c_X7_setWords (cx_E hc) hm cl2 h) rfl (by omega) (by decide) ⟨Nat.zero_le _, Nat.zero_le _⟩ (Nat.le_of_ble_eq_true rfl) rfl dX7_run_41 (fun s71 h => ?_)
      refine j_iload hc 4 dX7_run_44 rfl ?_
      refine j_aload_nR hc 1 dX7_run_46 rfl rfl ?_
      refine j_getR (c' := 19) hc fl_RX7_46 rfl rfl (fun hv => (sv_k hv hm rfl)) dX7_run_47 ?_
      refine j_iload_n hc 3 dX7_run_50 rfl rfl ?_
      obtain ⟨b72, h⟩ := h
      refine j_iald (jn := (Int.toNat l3)) hc (fun hv => sv_kl hv hm rfl) cl3 b72 rfl dX7_run_51 (fun cn73 => ?_)
      refine j_ic_ge hc cl4 cn73 (tgt := 88) dX7_run_52 (by decide) (fun q81 => ?_) (fun q81 => ?_)
      · replace h := h.1 q81
        refine j_sub (lv' := [(0, vR E 52), (1, vR E 14), (2, vI l2), (3, vI l3), (4, vI l4), (5, vI l5)]) [0, 1, 2, 3, 4, 5] rfl ?_
        exact jb_X7_run_88 hc hm hr hh hk9 hk28 cl2 cl3 cl4 cl5 h
      · replace h := h.2 q81
        refine j_aload_nR hc 0 dX7_run_55 rfl rfl ?_
        refine j_getR (c' := 53) hc fl_RX7_18 rfl rfl (fun hv => (sv_k hv hm rfl)) dX7_run_56 ?_
        refine j_aload_nR hc 1 dX7_run_59 rfl rfl ?_
        refine j_iload hc 4 dX7_run_60 rfl ?_
        refine j_aload_nR hc 1 dX7_run_62 rfl rfl ?_
        refine j_getR (c' := 19) hc fl_RX7_46 rfl rfl (fun hv => (sv_k hv hm rfl)) dX7_run_63 ?_
        refine j_iload_n hc 3 dX7_run_66 rfl rfl ?_
        obtain ⟨b74, h⟩ := h
        refine j_iald (jn := (Int.toNat l3)) hc (fun hv => sv_kl hv hm rfl) cl3 b74 rfl dX7_run_67 (fun cn75 => ?_)
        refine j_vI hc (k := 0) (by decide) (fun hv => Or.inl (sv_k hv hm rfl)) ml_RX7_49 mv_X0_solve (As := [vR E 14, vI l4, vI (gI s71 19 (Int.toNat l3))]) (c_X0_solve (cx_E hc) hm cl4 cn75 h) rfl (by omega) (by decide) ⟨Nat.zero_le _, Nat.zero_le _⟩ (Nat.le_of_ble_eq_true rfl) rfl dX7_run_68 (fun r76 s77 cr76 h => ?_)
        refine j_if_eq hc cr76 (tgt := 193) dX7_run_71 (by decide) (fun q80 => ?_) (fun q80 => ?_)
        · replace h := h.1 q80
          refine j_sub (lv' := [(0, vR E 52), (1, vR E 14), (2, vI l2), (3, vI l3), (4, vI l4), (5, vI l5)]) [0, 1, 2, 3, 4, 5] rfl ?_
          exact jb_X7_run_193 hc hm hr hh hk9 hk28 cl2 cl3 cl4 cl5 h
        · replace h := h.2 q80
          refine j_aload_nR hc 0 dX7_run_74 rfl rfl ?_
          refine j_getR (c' := 53) hc fl_RX7_18 rfl rfl (fun hv => (sv_k hv hm rfl)) dX7_run_75 ?_
          refine j_getI hc fl_RX7_53 (Or.inl rfl) (fun hv => Or.inl (sv_k hv hm rfl)) dX7_run_78 (fun cn78 => ?_)
          refine j_iconst hc dX7_run_81 ?_
          refine j_ic_eq hc cn78 (wlit 1 (by decide)) (tgt := 88) dX7_run_82 (by decide) (fun q79 => ?_) (fun q79 => ?_)
          · replace h := h.1 q79
            refine j_sub (lv' := [(0, vR E 52), (1, vR E 14), (2, vI l2), (3, vI l3), (4, vI l4), (5, vI l5)]) [0, 1, 2, 3, 4, 5] rfl ?_
            exact jb_X7_run_88 hc hm hr hh hk9 hk28 cl2 cl3 cl4 cl5 h
          · replace h := h.2 q79
            refine j_goto (tgt := 193) hc dX7_run_85 (by decide) ?_
            refine j_sub (lv' := [(0, vR E 52), (1, vR E 14), (2, vI l2), (3, vI l3), (4, vI l4), (5, vI l5)]) [0, 1, 2, 3, 4, 5] rfl ?_
            exact jb_X7_run_193 hc hm hr hh hk9 hk28 cl2 cl3 cl4 cl5 h
set_option maxRecDepth 20000 in
theorem jl_X7_run_9 {X : jj_X} {E : ev_E} {n0 hN : Nat} (hc : Cx X E cX7_run 8 n0 hN RX7) (hm : eM E = 1) (hr : (xT X).sig.returnType = (some .int)) (hh : 7 ≤ hN) {Q : Int → st_S → Prop} : ∀ (n : Nat) {l2 : Int} {l3 : Int} (cl2 : wr l2 = l2) (cl3 : wr l3 = l3) {σ : st_S}, L_X7_run_9 Q n l2 l3 σ → J X E 8 n0 0 0 (MQ (xB X) (qI E (n0 + 0) Q) (xA X) (xS X) 0 0 (eF E)) σ 9 [(0, vR E 52), (1, vR E 14), (2, vI l2), (3, vI l3)] [] := by
  have hh1 : 1 ≤ hN := by omega
  intro n
  induction n with
  | zero => intro l2 l3 cl2 cl3 σ h; exact h.elim
  | succ n ih =>
    intro l2 l3 cl2 cl3 σ h
    have hk9 : ∀ {l2 : Int} {l3 : Int} (cl2 : wr l2 = l2) (cl3 : wr l3 = l3) {σ : st_S}, L_X7_run_9 Q n l2 l3 σ → J X E 8 n0 0 0 (MQ (xB X) (qI E (n0 + 0) Q) (xA X) (xS X) 0 0 (eF E)) σ 9 [(0, vR E 52), (1, vR E 14), (2, vI l2), (3, vI l3)] [] := ih
    replace h : (gI σ 14 7 ≤ l3 → Q l2 σ) ∧ (¬ gI σ 14 7 ≤ l3 → ix l3 12 ∧ ∀ x86 : Int, x86 = gI σ 18 (Int.toNat l3) → ∃ m28 : Nat, L_X7_run_28 Q (L_X7_run_9 Q n) m28 l2 l3 x86 0 σ) := h
    refine j_iload_n hc 3 dX7_run_9 rfl rfl ?_
    refine j_aload_nR hc 1 dX7_run_10 rfl rfl ?_
    refine j_getI hc fl_RX7_30 (Or.inl rfl) (fun hv => Or.inl (sv_k hv hm rfl)) dX7_run_11 (fun cn83 => ?_)
    refine j_ic_ge hc cl3 cn83 (tgt := 205) dX7_run_14 (by decide) (fun q87 => ?_) (fun q87 => ?_)
    · replace h := h.1 q87
      refine j_iload_n hc 2 dX7_run_205 rfl rfl ?_
      exact j_iret hc hr cl2 h dX7_run_206
    · replace h := h.2 q87
      refine j_aload_nR hc 1 dX7_run_17 rfl rfl ?_
      refine j_getR (c' := 18) hc fl_RX7_35 rfl rfl (fun hv => (sv_k hv hm rfl)) dX7_run_18 ?_
      refine j_iload_n hc 3 dX7_run_21 rfl rfl ?_
      obtain ⟨b84, h⟩ := h
      refine j_iald (jn := (Int.toNat l3)) hc (fun hv => sv_kl hv hm rfl) cl3 b84 rfl dX7_run_22 (fun cn85 => ?_)
      refine j_c cn85 (fun x86 ex86 cx86 => ?_)
      replace h := h x86 ex86
      refine j_istore (lv' := [(4, vI x86), (0, vR E 52), (1, vR E 14), (2, vI l2), (3, vI l3)]) hc dX7_run_23 (by decide) rfl ?_
      refine j_iconst hc dX7_run_25 ?_
      refine j_istore (lv' := [(5, vI 0), (4, vI x86), (0, vR E 52), (1, vR E 14), (2, vI l2), (3, vI l3)]) hc dX7_run_26 (by decide) rfl ?_
      obtain ⟨n28, h⟩ := h
      refine j_sub (lv' := [(0, vR E 52), (1, vR E 14), (2, vI l2), (3, vI l3), (4, vI x86), (5, vI 0)]) [2, 3, 4, 5, 1, 0] rfl ?_
      exact jl_X7_run_28 hc hm hr hh hk9 n28 cl2 cl3 cx86 (wlit 0 (by decide)) h
set_option maxRecDepth 20000 in
theorem c_X7_run {l : Launch} {E : ev_E} (hE : Eok E) (hm : eM E = 1) {σ : st_S} {Q : Int → st_S → Prop} (h : wp_X7_run σ Q) : cM l yX7_run cX7_run 8 (some .int) E 7 0 0 [vR E 52, vR E 14] σ (qI E (gN σ + 0) Q) := by
  refine cM_of (lv := [(0, vR E 52), (1, vR E 14)]) (by decide) hE (Nat.le_of_ble_eq_true rfl) (rfl) ?_
  intro X hX hc _ _ hr _ _
  subst hX
  have hh : 7 ≤ 7 := Nat.le_refl _
  have hh1 : 1 ≤ 7 := by omega
  replace h : ∀ s88 : st_S, s88 = sI σ 52 0 (-1) → ∃ m9 : Nat, L_X7_run_9 Q m9 0 0 s88 := h
  refine j_aload_nR hc 0 dX7_run_0 rfl rfl ?_
  refine j_iconst hc dX7_run_1 ?_
  refine j_putI hc fl_RX7_9 rfl rfl (fun hv => Or.inl (sv_k hv hm rfl)) (wlit (-1) (by decide)) dX7_run_2 (fun s88 es88 => ?_)
  replace h := h s88 es88
  refine j_iconst hc dX7_run_5 ?_
  refine j_istore_n (lv' := [(2, vI 0), (0, vR E 52), (1, vR E 14)]) hc dX7_run_6 rfl (by decide) rfl ?_
  refine j_iconst hc dX7_run_7 ?_
  refine j_istore_n (lv' := [(3, vI 0), (2, vI 0), (0, vR E 52), (1, vR E 14)]) hc dX7_run_8 rfl (by decide) rfl ?_
  obtain ⟨n9, h⟩ := h
  refine j_sub (lv' := [(0, vR E 52), (1, vR E 14), (2, vI 0), (3, vI 0)]) [2, 3, 1, 0] rfl ?_
  exact jl_X7_run_9 hc hm hr hh n9 (wlit 0 (by decide)) (wlit 0 (by decide)) h
-- LitStrangers.accept(I)I
theorem dX10_accept_0 : decode cX10_accept 0 = .ok (.aload_n 0, 1) := by decide +kernel
theorem dX10_accept_1 : decode cX10_accept 1 = .ok (.iconst 0, 1) := by decide +kernel
theorem dX10_accept_2 : decode cX10_accept 2 = .ok (.putfield 320, 3) := by decide +kernel
theorem dX10_accept_5 : decode cX10_accept 5 = .ok (.iload_n 1, 1) := by decide +kernel
theorem dX10_accept_6 : decode cX10_accept 6 = .ok (.ireturn, 1) := by decide +kernel
def wp_X10_accept (a1 : Int) (σ : st_S) (Q : Int → st_S → Prop) : Prop := ∀ s3 : st_S, s3 = sI σ 0 14 0 → Q a1 s3
set_option maxRecDepth 20000 in
theorem c_X10_accept {l : Launch} {E : ev_E} (hE : Eok E) (hm : eM E = 1) {a1 : Int} (ca1 : wr a1 = a1) {σ : st_S} {Q : Int → st_S → Prop} (h : wp_X10_accept a1 σ Q) : cM l yX10_accept cX10_accept 2 (some .int) E 1 0 0 [vR E 0, vI a1] σ (qI E (gN σ + 0) Q) := by
  refine cM_of (lv := [(0, vR E 0), (1, vI a1)]) (by decide) hE (Nat.le_of_ble_eq_true rfl) (rfl) ?_
  intro X hX hc _ _ hr _ _
  subst hX
  have hh : 1 ≤ 1 := Nat.le_refl _
  have hh1 : 1 ≤ 1 := by omega
  replace h : ∀ s3 : st_S, s3 = sI σ 0 14 0 → Q a1 s3 := h
  refine j_aload_nR hc 0 dX10_accept_0 rfl rfl ?_
  refine j_iconst hc dX10_accept_1 ?_
  refine j_putI hc fl_RX10_320 rfl rfl (fun hv => Or.inl (sv_k hv hm rfl)) (wlit 0 (by decide)) dX10_accept_2 (fun s3 es3 => ?_)
  replace h := h s3 es3
  refine j_iload_n hc 1 dX10_accept_5 rfl rfl ?_
  exact j_iret hc hr ca1 h dX10_accept_6
-- LitStrangers.canBe(III)Z
theorem dX10_canBe_0 : decode cX10_canBe 0 = .ok (.iload_n 0, 1) := by decide +kernel
theorem dX10_canBe_1 : decode cX10_canBe 1 = .ok (.ifCond .lt 31, 3) := by decide +kernel
theorem dX10_canBe_4 : decode cX10_canBe 4 = .ok (.iload_n 0, 1) := by decide +kernel
theorem dX10_canBe_5 : decode cX10_canBe 5 = .ok (.bipush 30, 2) := by decide +kernel
theorem dX10_canBe_7 : decode cX10_canBe 7 = .ok (.if_icmp .gt 25, 3) := by decide +kernel
theorem dX10_canBe_10 : decode cX10_canBe 10 = .ok (.iload_n 1, 1) := by decide +kernel
theorem dX10_canBe_11 : decode cX10_canBe 11 = .ok (.ifCond .lt 21, 3) := by decide +kernel
theorem dX10_canBe_14 : decode cX10_canBe 14 = .ok (.iload_n 1, 1) := by decide +kernel
theorem dX10_canBe_15 : decode cX10_canBe 15 = .ok (.iconst 4, 1) := by decide +kernel
theorem dX10_canBe_16 : decode cX10_canBe 16 = .ok (.if_icmp .ge 16, 3) := by decide +kernel
theorem dX10_canBe_19 : decode cX10_canBe 19 = .ok (.iload_n 2, 1) := by decide +kernel
theorem dX10_canBe_20 : decode cX10_canBe 20 = .ok (.ifCond .lt 12, 3) := by decide +kernel
theorem dX10_canBe_23 : decode cX10_canBe 23 = .ok (.iload_n 2, 1) := by decide +kernel
theorem dX10_canBe_24 : decode cX10_canBe 24 = .ok (.iconst 2, 1) := by decide +kernel
theorem dX10_canBe_25 : decode cX10_canBe 25 = .ok (.if_icmp .gt 7, 3) := by decide +kernel
theorem dX10_canBe_28 : decode cX10_canBe 28 = .ok (.iconst 1, 1) := by decide +kernel
theorem dX10_canBe_29 : decode cX10_canBe 29 = .ok (.goto 4, 3) := by decide +kernel
theorem dX10_canBe_32 : decode cX10_canBe 32 = .ok (.iconst 0, 1) := by decide +kernel
theorem dX10_canBe_33 : decode cX10_canBe 33 = .ok (.ireturn, 1) := by decide +kernel
def B_X10_canBe_33 (Q : Int → st_S → Prop)   (v0 : Int) (σ : st_S) : Prop := (v0 = 0 ∨ v0 = 1) ∧ Q v0 σ
def B_X10_canBe_32 (Q : Int → st_S → Prop)    (σ : st_S) : Prop := B_X10_canBe_33 Q 0 σ
def wp_X10_canBe (a1 : Int) (a2 : Int) (a3 : Int) (σ : st_S) (Q : Int → st_S → Prop) : Prop := (a1 < 0 → B_X10_canBe_32 Q σ) ∧ (¬ a1 < 0 → (30 < a1 → B_X10_canBe_32 Q σ) ∧ (¬ 30 < a1 → (a2 < 0 → B_X10_canBe_32 Q σ) ∧ (¬ a2 < 0 → (4 ≤ a2 → B_X10_canBe_32 Q σ) ∧ (¬ 4 ≤ a2 → (a3 < 0 → B_X10_canBe_32 Q σ) ∧ (¬ a3 < 0 → (2 < a3 → B_X10_canBe_32 Q σ) ∧ (¬ 2 < a3 → B_X10_canBe_33 Q 1 σ))))))
set_option maxRecDepth 20000 in
theorem jb_X10_canBe_33 {X : jj_X} {E : ev_E} {n0 hN : Nat} (hc : Cx X E cX10_canBe 3 n0 hN RX10) (hm : eM E = 1) (hr : (xT X).sig.returnType = (some .boolean)) (hh : 1 ≤ hN) {Q : Int → st_S → Prop} {v0 : Int} (cv0 : wr v0 = v0) {σ : st_S} (h : B_X10_canBe_33 Q v0 σ) : J X E 3 n0 0 0 (MQ (xB X) (qI E (n0 + 0) Q) (xA X) (xS X) 0 0 (eF E)) σ 33 [] [vI v0] := by
  have hh1 : 1 ≤ hN := by omega
  replace h : (v0 = 0 ∨ v0 = 1) ∧ Q v0 σ := h
  exact j_zret hc hr (nar_bool h.1) (by rcases h.1 with e | e <;> (rw [e]; decide)) h.2 dX10_canBe_33
set_option maxRecDepth 20000 in
theorem jb_X10_canBe_32 {X : jj_X} {E : ev_E} {n0 hN : Nat} (hc : Cx X E cX10_canBe 3 n0 hN RX10) (hm : eM E = 1) (hr : (xT X).sig.returnType = (some .boolean)) (hh : 1 ≤ hN) {Q : Int → st_S → Prop} {σ : st_S} (h : B_X10_canBe_32 Q σ) : J X E 3 n0 0 0 (MQ (xB X) (qI E (n0 + 0) Q) (xA X) (xS X) 0 0 (eF E)) σ 32 [] [] := by
  have hh1 : 1 ≤ hN := by omega
  replace h : B_X10_canBe_33 Q 0 σ := h
  refine j_iconst hc dX10_canBe_32 ?_
  refine j_sub (lv' := []) [] rfl ?_
  exact jb_X10_canBe_33 hc hm hr hh (wlit 0 (by decide)) h
set_option maxRecDepth 20000 in
theorem c_X10_canBe {l : Launch} {E : ev_E} (hE : Eok E) (hm : eM E = 1) {a1 : Int} {a2 : Int} {a3 : Int} (ca1 : wr a1 = a1) (ca2 : wr a2 = a2) (ca3 : wr a3 = a3) {σ : st_S} {Q : Int → st_S → Prop} (h : wp_X10_canBe a1 a2 a3 σ Q) : cM l yX10_canBe cX10_canBe 3 (some .boolean) E 1 0 0 [vI a1, vI a2, vI a3] σ (qI E (gN σ + 0) Q) := by
  refine cM_of (lv := [(0, vI a1), (1, vI a2), (2, vI a3)]) (by decide) hE (Nat.le_of_ble_eq_true rfl) (rfl) ?_
  intro X hX hc _ _ hr _ _
  subst hX
  have hh : 1 ≤ 1 := Nat.le_refl _
  have hh1 : 1 ≤ 1 := by omega
  replace h : (a1 < 0 → B_X10_canBe_32 Q σ) ∧ (¬ a1 < 0 → (30 < a1 → B_X10_canBe_32 Q σ) ∧ (¬ 30 < a1 → (a2 < 0 → B_X10_canBe_32 Q σ) ∧ (¬ a2 < 0 → (4 ≤ a2 → B_X10_canBe_32 Q σ) ∧ (¬ 4 ≤ a2 → (a3 < 0 → B_X10_canBe_32 Q σ) ∧ (¬ a3 < 0 → (2 < a3 → B_X10_canBe_32 Q σ) ∧ (¬ 2 < a3 → B_X10_canBe_33 Q 1 σ)))))) := h
  refine j_iload_n hc 0 dX10_canBe_0 rfl rfl ?_
  refine j_if_lt hc ca1 (tgt := 32) dX10_canBe_1 (by decide) (fun q6 => ?_) (fun q6 => ?_)
  · replace h := h.1 q6
    refine j_sub (lv' := []) [] rfl ?_
    exact jb_X10_canBe_32 hc hm hr hh h
  · replace h := h.2 q6
    refine j_iload_n hc 0 dX10_canBe_4 rfl rfl ?_
    refine j_bipush hc dX10_canBe_5 (by decide) ?_
    refine j_ic_gt hc ca1 (wlit 30 (by decide)) (tgt := 32) dX10_canBe_7 (by decide) (fun q5 => ?_) (fun q5 => ?_)
    · replace h := h.1 q5
      refine j_sub (lv' := []) [] rfl ?_
      exact jb_X10_canBe_32 hc hm hr hh h
    · replace h := h.2 q5
      refine j_iload_n hc 1 dX10_canBe_10 rfl rfl ?_
      refine j_if_lt hc ca2 (tgt := 32) dX10_canBe_11 (by decide) (fun q4 => ?_) (fun q4 => ?_)
      · replace h := h.1 q4
        refine j_sub (lv' := []) [] rfl ?_
        exact jb_X10_canBe_32 hc hm hr hh h
      · replace h := h.2 q4
        refine j_iload_n hc 1 dX10_canBe_14 rfl rfl ?_
        refine j_iconst hc dX10_canBe_15 ?_
        refine j_ic_ge hc ca2 (wlit 4 (by decide)) (tgt := 32) dX10_canBe_16 (by decide) (fun q3 => ?_) (fun q3 => ?_)
        · replace h := h.1 q3
          refine j_sub (lv' := []) [] rfl ?_
          exact jb_X10_canBe_32 hc hm hr hh h
        · replace h := h.2 q3
          refine j_iload_n hc 2 dX10_canBe_19 rfl rfl ?_
          refine j_if_lt hc ca3 (tgt := 32) dX10_canBe_20 (by decide) (fun q2 => ?_) (fun q2 => ?_)
          · replace h := h.1 q2
            refine j_sub (lv' := []) [] rfl ?_
            exact jb_X10_canBe_32 hc hm hr hh h
          · replace h := h.2 q2
            refine j_iload_n hc 2 dX10_canBe_23 rfl rfl ?_
            refine j_iconst hc dX10_canBe_24 ?_
            refine j_ic_gt hc ca3 (wlit 2 (by decide)) (tgt := 32) dX10_canBe_25 (by decide) (fun q1 => ?_) (fun q1 => ?_)
            · replace h := h.1 q1
              refine j_sub (lv' := []) [] rfl ?_
              exact jb_X10_canBe_32 hc hm hr hh h
            · replace h := h.2 q1
              refine j_iconst hc dX10_canBe_28 ?_
              refine j_goto (tgt := 33) hc dX10_canBe_29 (by decide) ?_
              refine j_sub (lv' := []) [] rfl ?_
              exact jb_X10_canBe_33 hc hm hr hh (wlit 1 (by decide)) h
-- LitStrangers.refuse(I)I
theorem dX10_refuse_0 : decode cX10_refuse 0 = .ok (.aload_n 0, 1) := by decide +kernel
theorem dX10_refuse_1 : decode cX10_refuse 1 = .ok (.iload_n 1, 1) := by decide +kernel
theorem dX10_refuse_2 : decode cX10_refuse 2 = .ok (.putfield 320, 3) := by decide +kernel
theorem dX10_refuse_5 : decode cX10_refuse 5 = .ok (.iload_n 1, 1) := by decide +kernel
theorem dX10_refuse_6 : decode cX10_refuse 6 = .ok (.ineg, 1) := by decide +kernel
theorem dX10_refuse_7 : decode cX10_refuse 7 = .ok (.ifCond .lt 24, 3) := by decide +kernel
theorem dX10_refuse_10 : decode cX10_refuse 10 = .ok (.iload_n 1, 1) := by decide +kernel
theorem dX10_refuse_11 : decode cX10_refuse 11 = .ok (.ineg, 1) := by decide +kernel
theorem dX10_refuse_12 : decode cX10_refuse 12 = .ok (.aload_n 0, 1) := by decide +kernel
theorem dX10_refuse_13 : decode cX10_refuse 13 = .ok (.getfield 38, 3) := by decide +kernel
theorem dX10_refuse_16 : decode cX10_refuse 16 = .ok (.arraylength, 1) := by decide +kernel
theorem dX10_refuse_17 : decode cX10_refuse 17 = .ok (.if_icmp .ge 14, 3) := by decide +kernel
theorem dX10_refuse_20 : decode cX10_refuse 20 = .ok (.aload_n 0, 1) := by decide +kernel
theorem dX10_refuse_21 : decode cX10_refuse 21 = .ok (.getfield 38, 3) := by decide +kernel
theorem dX10_refuse_24 : decode cX10_refuse 24 = .ok (.iload_n 1, 1) := by decide +kernel
theorem dX10_refuse_25 : decode cX10_refuse 25 = .ok (.ineg, 1) := by decide +kernel
theorem dX10_refuse_26 : decode cX10_refuse 26 = .ok (.dup2, 1) := by decide +kernel
theorem dX10_refuse_27 : decode cX10_refuse 27 = .ok (.iaload, 1) := by decide +kernel
theorem dX10_refuse_28 : decode cX10_refuse 28 = .ok (.iconst 1, 1) := by decide +kernel
theorem dX10_refuse_29 : decode cX10_refuse 29 = .ok (.iadd, 1) := by decide +kernel
theorem dX10_refuse_30 : decode cX10_refuse 30 = .ok (.iastore, 1) := by decide +kernel
theorem dX10_refuse_31 : decode cX10_refuse 31 = .ok (.iload_n 1, 1) := by decide +kernel
theorem dX10_refuse_32 : decode cX10_refuse 32 = .ok (.ireturn, 1) := by decide +kernel
def B_X10_refuse_31 (Q : Int → st_S → Prop)   (l1 : Int) (σ : st_S) : Prop := Q l1 σ
def wp_X10_refuse (a1 : Int) (σ : st_S) (Q : Int → st_S → Prop) : Prop := ∀ s8 : st_S, s8 = sI σ 0 14 a1 → (wr (-a1) < 0 → B_X10_refuse_31 Q a1 s8) ∧ (¬ wr (-a1) < 0 → (7 ≤ wr (-a1) → B_X10_refuse_31 Q a1 s8) ∧ (¬ 7 ≤ wr (-a1) → ix (wr (-a1)) 7 ∧ ∀ x11 : Int, x11 = wr (gI s8 24 (Int.toNat (wr (-a1))) + 1) → ix (wr (-a1)) 7 ∧ ∀ s13 : st_S, s13 = sI s8 24 (Int.toNat (wr (-a1))) x11 → B_X10_refuse_31 Q a1 s13))
set_option maxRecDepth 20000 in
theorem jb_X10_refuse_31 {X : jj_X} {E : ev_E} {n0 hN : Nat} (hc : Cx X E cX10_refuse 2 n0 hN RX10) (hm : eM E = 1) (hr : (xT X).sig.returnType = (some .int)) (hh : 1 ≤ hN) {Q : Int → st_S → Prop} {l1 : Int} (cl1 : wr l1 = l1) {σ : st_S} (h : B_X10_refuse_31 Q l1 σ) : J X E 2 n0 0 0 (MQ (xB X) (qI E (n0 + 0) Q) (xA X) (xS X) 0 0 (eF E)) σ 31 [(1, vI l1)] [] := by
  have hh1 : 1 ≤ hN := by omega
  replace h : Q l1 σ := h
  refine j_iload_n hc 0 dX10_refuse_31 rfl rfl ?_
  exact j_iret hc hr cl1 h dX10_refuse_32
set_option maxRecDepth 20000 in
theorem c_X10_refuse {l : Launch} {E : ev_E} (hE : Eok E) (hm : eM E = 1) {a1 : Int} (ca1 : wr a1 = a1) {σ : st_S} {Q : Int → st_S → Prop} (h : wp_X10_refuse a1 σ Q) : cM l yX10_refuse cX10_refuse 2 (some .int) E 1 0 0 [vR E 0, vI a1] σ (qI E (gN σ + 0) Q) := by
  refine cM_of (lv := [(0, vR E 0), (1, vI a1)]) (by decide) hE (Nat.le_of_ble_eq_true rfl) (rfl) ?_
  intro X hX hc _ _ hr _ _
  subst hX
  have hh : 1 ≤ 1 := Nat.le_refl _
  have hh1 : 1 ≤ 1 := by omega
  replace h : ∀ s8 : st_S, s8 = sI σ 0 14 a1 → (wr (-a1) < 0 → B_X10_refuse_31 Q a1 s8) ∧ (¬ wr (-a1) < 0 → (7 ≤ wr (-a1) → B_X10_refuse_31 Q a1 s8) ∧ (¬ 7 ≤ wr (-a1) → ix (wr (-a1)) 7 ∧ ∀ x11 : Int, x11 = wr (gI s8 24 (Int.toNat (wr (-a1))) + 1) → ix (wr (-a1)) 7 ∧ ∀ s13 : st_S, s13 = sI s8 24 (Int.toNat (wr (-a1))) x11 → B_X10_refuse_31 Q a1 s13)) := h
  refine j_aload_nR hc 0 dX10_refuse_0 rfl rfl ?_
  refine j_iload_n hc 1 dX10_refuse_1 rfl rfl ?_
  refine j_putI hc fl_RX10_320 rfl rfl (fun hv => Or.inl (sv_k hv hm rfl)) ca1 dX10_refuse_2 (fun s8 es8 => ?_)
  replace h := h s8 es8
  refine j_iload_n hc 1 dX10_refuse_5 rfl rfl ?_
  refine j_ineg hc dX10_refuse_6 ?_
  refine j_if_lt hc rfl (tgt := 31) dX10_refuse_7 (by decide) (fun q15 => ?_) (fun q15 => ?_)
  · replace h := h.1 q15
    refine j_sub (lv' := [(1, vI a1)]) [1] rfl ?_
    exact jb_X10_refuse_31 hc hm hr hh ca1 h
  · replace h := h.2 q15
    refine j_iload_n hc 1 dX10_refuse_10 rfl rfl ?_
    refine j_ineg hc dX10_refuse_11 ?_
    refine j_aload_nR hc 0 dX10_refuse_12 rfl rfl ?_
    refine j_getR (c' := 24) hc fl_RX10_38 rfl rfl (fun hv => (sv_k hv hm rfl)) dX10_refuse_13 ?_
    refine j_alen hc 0 (by decide) (fun hv => sv_kl hv hm rfl) dX10_refuse_16 ?_
    refine j_ic_ge hc rfl (wlit 7 (by decide)) (tgt := 31) dX10_refuse_17 (by decide) (fun q14 => ?_) (fun q14 => ?_)
    · replace h := h.1 q14
      refine j_sub (lv' := [(1, vI a1)]) [1] rfl ?_
      exact jb_X10_refuse_31 hc hm hr hh ca1 h
    · replace h := h.2 q14
      refine j_aload_nR hc 0 dX10_refuse_20 rfl rfl ?_
      refine j_getR (c' := 24) hc fl_RX10_38 rfl rfl (fun hv => (sv_k hv hm rfl)) dX10_refuse_21 ?_
      refine j_iload_n hc 1 dX10_refuse_24 rfl rfl ?_
      refine j_ineg hc dX10_refuse_25 ?_
      refine j_dup2 hc dX10_refuse_26 rfl rfl ?_
      obtain ⟨b9, h⟩ := h
      refine j_iald (jn := (Int.toNat (wr (-a1)))) hc (fun hv => sv_kl hv hm rfl) rfl b9 rfl dX10_refuse_27 (fun cn10 => ?_)
      refine j_iconst hc dX10_refuse_28 ?_
      refine j_iadd hc dX10_refuse_29 ?_
      refine j_w (fun x11 ex11 cx11 => ?_)
      replace h := h x11 ex11
      obtain ⟨b12, h⟩ := h
      refine j_iast (jn := (Int.toNat (wr (-a1)))) hc (fun hv => sv_kl hv hm rfl) rfl b12 rfl cx11 dX10_refuse_30 (fun s13 es13 => ?_)
      replace h := h s13 es13
      refine j_sub (lv' := [(1, vI a1)]) [1] rfl ?_
      exact jb_X10_refuse_31 hc hm hr hh ca1 h
-- LitStrangers.person(II)I
theorem dX10_person_0 : decode cX10_person 0 = .ok (.iload_n 1, 1) := by decide +kernel
theorem dX10_person_1 : decode cX10_person 1 = .ok (.iload_n 2, 1) := by decide +kernel
theorem dX10_person_2 : decode cX10_person 2 = .ok (.iconst 0, 1) := by decide +kernel
theorem dX10_person_3 : decode cX10_person 3 = .ok (.invokestatic 92, 3) := by decide +kernel
theorem dX10_person_6 : decode cX10_person 6 = .ok (.ifCond .ne 9, 3) := by decide +kernel
theorem dX10_person_9 : decode cX10_person 9 = .ok (.aload_n 0, 1) := by decide +kernel
theorem dX10_person_10 : decode cX10_person 10 = .ok (.iconst (-1), 1) := by decide +kernel
theorem dX10_person_11 : decode cX10_person 11 = .ok (.invokevirtual 96, 3) := by decide +kernel
theorem dX10_person_14 : decode cX10_person 14 = .ok (.ireturn, 1) := by decide +kernel
theorem dX10_person_15 : decode cX10_person 15 = .ok (.aload_n 0, 1) := by decide +kernel
theorem dX10_person_16 : decode cX10_person 16 = .ok (.getfield 56, 3) := by decide +kernel
theorem dX10_person_19 : decode cX10_person 19 = .ok (.getfield 100, 3) := by decide +kernel
theorem dX10_person_22 : decode cX10_person 22 = .ok (.bipush 10, 2) := by decide +kernel
theorem dX10_person_24 : decode cX10_person 24 = .ok (.if_icmp .lt 10, 3) := by decide +kernel
theorem dX10_person_27 : decode cX10_person 27 = .ok (.aload_n 0, 1) := by decide +kernel
theorem dX10_person_28 : decode cX10_person 28 = .ok (.bipush (-5), 2) := by decide +kernel
theorem dX10_person_30 : decode cX10_person 30 = .ok (.invokevirtual 96, 3) := by decide +kernel
theorem dX10_person_33 : decode cX10_person 33 = .ok (.ireturn, 1) := by decide +kernel
theorem dX10_person_34 : decode cX10_person 34 = .ok (.aload_n 0, 1) := by decide +kernel
theorem dX10_person_35 : decode cX10_person 35 = .ok (.getfield 63, 3) := by decide +kernel
theorem dX10_person_38 : decode cX10_person 38 = .ok (.invokevirtual 104, 3) := by decide +kernel
theorem dX10_person_41 : decode cX10_person 41 = .ok (.aload_n 0, 1) := by decide +kernel
theorem dX10_person_42 : decode cX10_person 42 = .ok (.aload_n 0, 1) := by decide +kernel
theorem dX10_person_43 : decode cX10_person 43 = .ok (.getfield 56, 3) := by decide +kernel
theorem dX10_person_46 : decode cX10_person 46 = .ok (.iload_n 1, 1) := by decide +kernel
theorem dX10_person_47 : decode cX10_person 47 = .ok (.iload_n 2, 1) := by decide +kernel
theorem dX10_person_48 : decode cX10_person 48 = .ok (.iconst 0, 1) := by decide +kernel
theorem dX10_person_49 : decode cX10_person 49 = .ok (.invokevirtual 107, 3) := by decide +kernel
theorem dX10_person_52 : decode cX10_person 52 = .ok (.invokevirtual 111, 3) := by decide +kernel
theorem dX10_person_55 : decode cX10_person 55 = .ok (.ireturn, 1) := by decide +kernel
def wp_X10_person (a1 : Int) (a2 : Int) (σ : st_S) (Q : Int → st_S → Prop) : Prop := wp_X10_canBe a1 a2 0 σ (fun r14 s15 => (¬ r14 = 0 → (gI s15 25 0 < 10 → wp_X4_clear s15 (fun s18 => wp_X1_join a1 a2 0 s18 (fun r19 s20 => wp_X10_accept r19 s20 (fun r21 s22 => Q r21 s22)))) ∧ (¬ gI s15 25 0 < 10 → wp_X10_refuse (-5) s15 (fun r23 s24 => Q r23 s24))) ∧ (r14 = 0 → wp_X10_refuse (-1) s15 (fun r26 s27 => Q r26 s27)))
set_option maxRecDepth 20000 in
theorem c_X10_person {l : Launch} {E : ev_E} (hE : Eok E) (hm : eM E = 1) {a1 : Int} {a2 : Int} (ca1 : wr a1 = a1) (ca2 : wr a2 = a2) {σ : st_S} {Q : Int → st_S → Prop} (h : wp_X10_person a1 a2 σ Q) : cM l yX10_person cX10_person 3 (some .int) E 2 0 0 [vR E 0, vI a1, vI a2] σ (qI E (gN σ + 0) Q) := by
  refine cM_of (lv := [(0, vR E 0), (1, vI a1), (2, vI a2)]) (by decide) hE (Nat.le_of_ble_eq_true rfl) (rfl) ?_
  intro X hX hc _ _ hr _ _
  subst hX
  have hh : 2 ≤ 2 := Nat.le_refl _
  have hh1 : 1 ≤ 2 := by omega
  replace h : wp_X10_canBe a1 a2 0 σ (fun r14 s15 => (¬ r14 = 0 → (gI s15 25 0 < 10 → wp_X4_clear s15 (fun s18 => wp_X1_join a1 a2 0 s18 (fun r19 s20 => wp_X10_accept r19 s20 (fun r21 s22 => Q r21 s22)))) ∧ (¬ gI s15 25 0 < 10 → wp_X10_refuse (-5) s15 (fun r23 s24 => Q r23 s24))) ∧ (r14 = 0 → wp_X10_refuse (-1) s15 (fun r26 s27 => Q r26 s27))) := h
  refine j_iload_n hc 1 dX10_person_0 rfl rfl ?_
  refine j_iload_n hc 2 dX10_person_1 rfl rfl ?_
  refine j_iconst hc dX10_person_2 ?_
  refine j_sI hc ml_RX10_92 mv_X10_canBe (As := [vI a1, vI a2, vI 0]) (c_X10_canBe (cx_E hc) hm ca1 ca2 (wlit 0 (by decide)) h) rfl (by omega) (by decide) ⟨Nat.zero_le _, Nat.zero_le _⟩ (Nat.le_of_ble_eq_true rfl) rfl dX10_person_3 (fun r14 s15 cr14 h => ?_)
  refine j_if_ne hc cr14 (tgt := 15) dX10_person_6 (by decide) (fun q28 => ?_) (fun q28 => ?_)
  · replace h := h.1 q28
    refine j_aload_nR hc 0 dX10_person_15 rfl rfl ?_
    refine j_getR (c' := 25) hc fl_RX10_56 rfl rfl (fun hv => (sv_k hv hm rfl)) dX10_person_16 ?_
    refine j_getI hc fl_RX10_100 (Or.inl rfl) (fun hv => Or.inl (sv_k hv hm rfl)) dX10_person_19 (fun cn16 => ?_)
    refine j_bipush hc dX10_person_22 (by decide) ?_
    refine j_ic_lt hc cn16 (wlit 10 (by decide)) (tgt := 34) dX10_person_24 (by decide) (fun q25 => ?_) (fun q25 => ?_)
    · replace h := h.1 q25
      refine j_aload_nR hc 0 dX10_person_34 rfl rfl ?_
      refine j_getR (c' := 39) hc fl_RX10_63 rfl rfl (fun hv => (sv_k hv hm rfl)) dX10_person_35 ?_
      refine j_vV hc (k := 4) (by decide) (fun hv => Or.inl (sv_k hv hm rfl)) ml_RX10_104 mv_X4_clear (As := []) (c_X4_clear (cx_E hc) hm  h) rfl (by omega) (by decide) ⟨Nat.zero_le _, Nat.zero_le _⟩ (Nat.le_of_ble_eq_true rfl) rfl dX10_person_38 (fun s18 h => ?_)
      refine j_aload_nR hc 0 dX10_person_41 rfl rfl ?_
      refine j_aload_nR hc 0 dX10_person_42 rfl rfl ?_
      refine j_getR (c' := 25) hc fl_RX10_56 rfl rfl (fun hv => (sv_k hv hm rfl)) dX10_person_43 ?_
      refine j_iload_n hc 1 dX10_person_46 rfl rfl ?_
      refine j_iload_n hc 2 dX10_person_47 rfl rfl ?_
      refine j_iconst hc dX10_person_48 ?_
      refine j_vI hc (k := 1) (by decide) (fun hv => Or.inl (sv_k hv hm rfl)) ml_RX10_107 mv_X1_join (As := [vI a1, vI a2, vI 0]) (c_X1_join (cx_E hc) hm ca1 ca2 (wlit 0 (by decide)) h) rfl (by omega) (by decide) ⟨Nat.zero_le _, Nat.zero_le _⟩ (Nat.le_of_ble_eq_true rfl) rfl dX10_person_49 (fun r19 s20 cr19 h => ?_)
      refine j_vI hc (k := 10) (by decide) (fun hv => Or.inl (sv_k hv hm rfl)) ml_RX10_111 mv_X10_accept (As := [vI r19]) (c_X10_accept (cx_E hc) hm cr19 h) rfl (by omega) (by decide) ⟨Nat.zero_le _, Nat.zero_le _⟩ (Nat.le_of_ble_eq_true rfl) rfl dX10_person_52 (fun r21 s22 cr21 h => ?_)
      exact j_iret hc hr cr21 h dX10_person_55
    · replace h := h.2 q25
      refine j_aload_nR hc 0 dX10_person_27 rfl rfl ?_
      refine j_bipush hc dX10_person_28 (by decide) ?_
      refine j_vI hc (k := 10) (by decide) (fun hv => Or.inl (sv_k hv hm rfl)) ml_RX10_96 mv_X10_refuse (As := [vI (-5)]) (c_X10_refuse (cx_E hc) hm (wlit (-5) (by decide)) h) rfl (by omega) (by decide) ⟨Nat.zero_le _, Nat.zero_le _⟩ (Nat.le_of_ble_eq_true rfl) rfl dX10_person_30 (fun r23 s24 cr23 h => ?_)
      exact j_iret hc hr cr23 h dX10_person_33
  · replace h := h.2 q28
    refine j_aload_nR hc 0 dX10_person_9 rfl rfl ?_
    refine j_iconst hc dX10_person_10 ?_
    refine j_vI hc (k := 10) (by decide) (fun hv => Or.inl (sv_k hv hm rfl)) ml_RX10_96 mv_X10_refuse (As := [vI (-1)]) (c_X10_refuse (cx_E hc) hm (wlit (-1) (by decide)) h) rfl (by omega) (by decide) ⟨Nat.zero_le _, Nat.zero_le _⟩ (Nat.le_of_ble_eq_true rfl) rfl dX10_person_11 (fun r26 s27 cr26 h => ?_)
    exact j_iret hc hr cr26 h dX10_person_14
-- LitStrangers.hear(II)I
theorem dX10_hear_0 : decode cX10_hear 0 = .ok (.iload_n 2, 1) := by decide +kernel
theorem dX10_hear_1 : decode cX10_hear 1 = .ok (.ifCond .lt 8, 3) := by decide +kernel
theorem dX10_hear_4 : decode cX10_hear 4 = .ok (.iload_n 2, 1) := by decide +kernel
theorem dX10_hear_5 : decode cX10_hear 5 = .ok (.iconst 2, 1) := by decide +kernel
theorem dX10_hear_6 : decode cX10_hear 6 = .ok (.if_icmp .le 9, 3) := by decide +kernel
theorem dX10_hear_9 : decode cX10_hear 9 = .ok (.aload_n 0, 1) := by decide +kernel
theorem dX10_hear_10 : decode cX10_hear 10 = .ok (.iconst (-1), 1) := by decide +kernel
theorem dX10_hear_11 : decode cX10_hear 11 = .ok (.invokevirtual 96, 3) := by decide +kernel
theorem dX10_hear_14 : decode cX10_hear 14 = .ok (.ireturn, 1) := by decide +kernel
theorem dX10_hear_15 : decode cX10_hear 15 = .ok (.aload_n 0, 1) := by decide +kernel
theorem dX10_hear_16 : decode cX10_hear 16 = .ok (.getfield 56, 3) := by decide +kernel
theorem dX10_hear_19 : decode cX10_hear 19 = .ok (.iload_n 1, 1) := by decide +kernel
theorem dX10_hear_20 : decode cX10_hear 20 = .ok (.invokevirtual 114, 3) := by decide +kernel
theorem dX10_hear_23 : decode cX10_hear 23 = .ok (.ifCond .ne 10, 3) := by decide +kernel
theorem dX10_hear_26 : decode cX10_hear 26 = .ok (.aload_n 0, 1) := by decide +kernel
theorem dX10_hear_27 : decode cX10_hear 27 = .ok (.bipush (-2), 2) := by decide +kernel
theorem dX10_hear_29 : decode cX10_hear 29 = .ok (.invokevirtual 96, 3) := by decide +kernel
theorem dX10_hear_32 : decode cX10_hear 32 = .ok (.ireturn, 1) := by decide +kernel
theorem dX10_hear_33 : decode cX10_hear 33 = .ok (.aload_n 0, 1) := by decide +kernel
theorem dX10_hear_34 : decode cX10_hear 34 = .ok (.getfield 56, 3) := by decide +kernel
theorem dX10_hear_37 : decode cX10_hear 37 = .ok (.getfield 118, 3) := by decide +kernel
theorem dX10_hear_40 : decode cX10_hear 40 = .ok (.iload_n 1, 1) := by decide +kernel
theorem dX10_hear_41 : decode cX10_hear 41 = .ok (.iaload, 1) := by decide +kernel
theorem dX10_hear_42 : decode cX10_hear 42 = .ok (.iconst 3, 1) := by decide +kernel
theorem dX10_hear_43 : decode cX10_hear 43 = .ok (.if_icmp .ne 10, 3) := by decide +kernel
theorem dX10_hear_46 : decode cX10_hear 46 = .ok (.aload_n 0, 1) := by decide +kernel
theorem dX10_hear_47 : decode cX10_hear 47 = .ok (.bipush (-3), 2) := by decide +kernel
theorem dX10_hear_49 : decode cX10_hear 49 = .ok (.invokevirtual 96, 3) := by decide +kernel
theorem dX10_hear_52 : decode cX10_hear 52 = .ok (.ireturn, 1) := by decide +kernel
theorem dX10_hear_53 : decode cX10_hear 53 = .ok (.aload_n 0, 1) := by decide +kernel
theorem dX10_hear_54 : decode cX10_hear 54 = .ok (.getfield 56, 3) := by decide +kernel
theorem dX10_hear_57 : decode cX10_hear 57 = .ok (.getfield 121, 3) := by decide +kernel
theorem dX10_hear_60 : decode cX10_hear 60 = .ok (.iload_n 1, 1) := by decide +kernel
theorem dX10_hear_61 : decode cX10_hear 61 = .ok (.iaload, 1) := by decide +kernel
theorem dX10_hear_62 : decode cX10_hear 62 = .ok (.istore_n 3, 1) := by decide +kernel
theorem dX10_hear_63 : decode cX10_hear 63 = .ok (.aload_n 0, 1) := by decide +kernel
theorem dX10_hear_64 : decode cX10_hear 64 = .ok (.getfield 56, 3) := by decide +kernel
theorem dX10_hear_67 : decode cX10_hear 67 = .ok (.getfield 121, 3) := by decide +kernel
theorem dX10_hear_70 : decode cX10_hear 70 = .ok (.iload_n 1, 1) := by decide +kernel
theorem dX10_hear_71 : decode cX10_hear 71 = .ok (.iload_n 2, 1) := by decide +kernel
theorem dX10_hear_72 : decode cX10_hear 72 = .ok (.iastore, 1) := by decide +kernel
theorem dX10_hear_73 : decode cX10_hear 73 = .ok (.aload_n 0, 1) := by decide +kernel
theorem dX10_hear_74 : decode cX10_hear 74 = .ok (.getfield 63, 3) := by decide +kernel
theorem dX10_hear_77 : decode cX10_hear 77 = .ok (.invokevirtual 104, 3) := by decide +kernel
theorem dX10_hear_80 : decode cX10_hear 80 = .ok (.aload_n 0, 1) := by decide +kernel
theorem dX10_hear_81 : decode cX10_hear 81 = .ok (.iload_n 3, 1) := by decide +kernel
theorem dX10_hear_82 : decode cX10_hear 82 = .ok (.invokevirtual 111, 3) := by decide +kernel
theorem dX10_hear_85 : decode cX10_hear 85 = .ok (.ireturn, 1) := by decide +kernel
def B_X10_hear_9 (Q : Int → st_S → Prop)    (σ : st_S) : Prop := wp_X10_refuse (-1) σ (fun r21 s22 => Q r21 s22)
def wp_X10_hear (a1 : Int) (a2 : Int) (σ : st_S) (Q : Int → st_S → Prop) : Prop := (a2 < 0 → B_X10_hear_9 Q σ) ∧ (¬ a2 < 0 → (a2 ≤ 2 → wp_X1_has a1 σ (fun r23 s24 => (¬ r23 = 0 → ix a1 10 ∧ (¬ gI s24 29 (Int.toNat a1) = 3 → ix a1 10 ∧ ∀ x29 : Int, x29 = gI s24 28 (Int.toNat a1) → ix a1 10 ∧ ∀ s31 : st_S, s31 = sI s24 28 (Int.toNat a1) a2 → wp_X4_clear s31 (fun s33 => wp_X10_accept x29 s33 (fun r34 s35 => Q r34 s35))) ∧ (gI s24 29 (Int.toNat a1) = 3 → wp_X10_refuse (-3) s24 (fun r36 s37 => Q r36 s37))) ∧ (r23 = 0 → wp_X10_refuse (-2) s24 (fun r39 s40 => Q r39 s40)))) ∧ (¬ a2 ≤ 2 → B_X10_hear_9 Q σ))
set_option maxRecDepth 20000 in
theorem jb_X10_hear_9 {X : jj_X} {E : ev_E} {n0 hN : Nat} (hc : Cx X E cX10_hear 4 n0 hN RX10) (hm : eM E = 1) (hr : (xT X).sig.returnType = (some .int)) (hh : 2 ≤ hN) {Q : Int → st_S → Prop} {σ : st_S} (h : B_X10_hear_9 Q σ) : J X E 4 n0 0 0 (MQ (xB X) (qI E (n0 + 0) Q) (xA X) (xS X) 0 0 (eF E)) σ 9 [(0, vR E 0)] [] := by
  have hh1 : 1 ≤ hN := by omega
  replace h : wp_X10_refuse (-1) σ (fun r21 s22 => Q r21 s22) := h
  refine j_aload_nR hc 0 dX10_hear_9 rfl rfl ?_
  refine j_iconst hc dX10_hear_10 ?_
  refine j_vI hc (k := 10) (by decide) (fun hv => Or.inl (sv_k hv hm rfl)) ml_RX10_96 mv_X10_refuse (As := [vI (-1)]) (c_X10_refuse (cx_E hc) hm (wlit (-1) (by decide)) h) rfl (by omega) (by decide) ⟨Nat.zero_le _, Nat.zero_le _⟩ (Nat.le_of_ble_eq_true rfl) rfl dX10_hear_11 (fun r21 s22 cr21 h => ?_)
  exact j_iret hc hr cr21 h dX10_hear_14
set_option maxRecDepth 20000 in
theorem c_X10_hear {l : Launch} {E : ev_E} (hE : Eok E) (hm : eM E = 1) {a1 : Int} {a2 : Int} (ca1 : wr a1 = a1) (ca2 : wr a2 = a2) {σ : st_S} {Q : Int → st_S → Prop} (h : wp_X10_hear a1 a2 σ Q) : cM l yX10_hear cX10_hear 4 (some .int) E 2 0 0 [vR E 0, vI a1, vI a2] σ (qI E (gN σ + 0) Q) := by
  refine cM_of (lv := [(0, vR E 0), (1, vI a1), (2, vI a2)]) (by decide) hE (Nat.le_of_ble_eq_true rfl) (rfl) ?_
  intro X hX hc _ _ hr _ _
  subst hX
  have hh : 2 ≤ 2 := Nat.le_refl _
  have hh1 : 1 ≤ 2 := by omega
  replace h : (a2 < 0 → B_X10_hear_9 Q σ) ∧ (¬ a2 < 0 → (a2 ≤ 2 → wp_X1_has a1 σ (fun r23 s24 => (¬ r23 = 0 → ix a1 10 ∧ (¬ gI s24 29 (Int.toNat a1) = 3 → ix a1 10 ∧ ∀ x29 : Int, x29 = gI s24 28 (Int.toNat a1) → ix a1 10 ∧ ∀ s31 : st_S, s31 = sI s24 28 (Int.toNat a1) a2 → wp_X4_clear s31 (fun s33 => wp_X10_accept x29 s33 (fun r34 s35 => Q r34 s35))) ∧ (gI s24 29 (Int.toNat a1) = 3 → wp_X10_refuse (-3) s24 (fun r36 s37 => Q r36 s37))) ∧ (r23 = 0 → wp_X10_refuse (-2) s24 (fun r39 s40 => Q r39 s40)))) ∧ (¬ a2 ≤ 2 → B_X10_hear_9 Q σ)) := h
  refine j_iload_n hc 2 dX10_hear_0 rfl rfl ?_
  refine j_if_lt hc ca2 (tgt := 9) dX10_hear_1 (by decide) (fun q43 => ?_) (fun q43 => ?_)
  · replace h := h.1 q43
    refine j_sub (lv' := [(0, vR E 0)]) [0] rfl ?_
    exact jb_X10_hear_9 hc hm hr hh h
  · replace h := h.2 q43
    refine j_iload_n hc 2 dX10_hear_4 rfl rfl ?_
    refine j_iconst hc dX10_hear_5 ?_
    refine j_ic_le hc ca2 (wlit 2 (by decide)) (tgt := 15) dX10_hear_6 (by decide) (fun q42 => ?_) (fun q42 => ?_)
    · replace h := h.1 q42
      refine j_aload_nR hc 0 dX10_hear_15 rfl rfl ?_
      refine j_getR (c' := 25) hc fl_RX10_56 rfl rfl (fun hv => (sv_k hv hm rfl)) dX10_hear_16 ?_
      refine j_iload_n hc 1 dX10_hear_19 rfl rfl ?_
      refine j_vI hc (k := 1) (by decide) (fun hv => Or.inl (sv_k hv hm rfl)) ml_RX10_114 mv_X1_has (As := [vI a1]) (c_X1_has (cx_E hc) hm ca1 h) rfl (by omega) (by decide) ⟨Nat.zero_le _, Nat.zero_le _⟩ (Nat.le_of_ble_eq_true rfl) rfl dX10_hear_20 (fun r23 s24 cr23 h => ?_)
      refine j_if_ne hc cr23 (tgt := 33) dX10_hear_23 (by decide) (fun q41 => ?_) (fun q41 => ?_)
      · replace h := h.1 q41
        refine j_aload_nR hc 0 dX10_hear_33 rfl rfl ?_
        refine j_getR (c' := 25) hc fl_RX10_56 rfl rfl (fun hv => (sv_k hv hm rfl)) dX10_hear_34 ?_
        refine j_getR (c' := 29) hc fl_RX10_118 rfl rfl (fun hv => (sv_k hv hm rfl)) dX10_hear_37 ?_
        refine j_iload_n hc 1 dX10_hear_40 rfl rfl ?_
        obtain ⟨b25, h⟩ := h
        refine j_iald (jn := (Int.toNat a1)) hc (fun hv => sv_kl hv hm rfl) ca1 b25 rfl dX10_hear_41 (fun cn26 => ?_)
        refine j_iconst hc dX10_hear_42 ?_
        refine j_ic_ne hc cn26 (wlit 3 (by decide)) (tgt := 53) dX10_hear_43 (by decide) (fun q38 => ?_) (fun q38 => ?_)
        · replace h := h.1 q38
          refine j_aload_nR hc 0 dX10_hear_53 rfl rfl ?_
          refine j_getR (c' := 25) hc fl_RX10_56 rfl rfl (fun hv => (sv_k hv hm rfl)) dX10_hear_54 ?_
          refine j_getR (c' := 28) hc fl_RX10_121 rfl rfl (fun hv => (sv_k hv hm rfl)) dX10_hear_57 ?_
          refine j_iload_n hc 1 dX10_hear_60 rfl rfl ?_
          obtain ⟨b27, h⟩ := h
          refine j_iald (jn := (Int.toNat a1)) hc (fun hv => sv_kl hv hm rfl) ca1 b27 rfl dX10_hear_61 (fun cn28 => ?_)
          refine j_c cn28 (fun x29 ex29 cx29 => ?_)
          replace h := h x29 ex29
          refine j_istore_n (lv' := [(3, vI x29), (0, vR E 0), (1, vI a1), (2, vI a2)]) hc dX10_hear_62 rfl (by decide) rfl ?_
          refine j_aload_nR hc 1 dX10_hear_63 rfl rfl ?_
          refine j_getR (c' := 25) hc fl_RX10_56 rfl rfl (fun hv => (sv_k hv hm rfl)) dX10_hear_64 ?_
          refine j_getR (c' := 28) hc fl_RX10_121 rfl rfl (fun hv => (sv_k hv hm rfl)) dX10_hear_67 ?_
          refine j_iload_n hc 2 dX10_hear_70 rfl rfl ?_
          refine j_iload_n hc 3 dX10_hear_71 rfl rfl ?_
          obtain ⟨b30, h⟩ := h
          refine j_iast (jn := (Int.toNat a1)) hc (fun hv => sv_kl hv hm rfl) ca1 b30 rfl ca2 dX10_hear_72 (fun s31 es31 => ?_)
          replace h := h s31 es31
          refine j_aload_nR hc 1 dX10_hear_73 rfl rfl ?_
          refine j_getR (c' := 39) hc fl_RX10_63 rfl rfl (fun hv => (sv_k hv hm rfl)) dX10_hear_74 ?_
          refine j_vV hc (k := 4) (by decide) (fun hv => Or.inl (sv_k hv hm rfl)) ml_RX10_104 mv_X4_clear (As := []) (c_X4_clear (cx_E hc) hm  h) rfl (by omega) (by decide) ⟨Nat.zero_le _, Nat.zero_le _⟩ (Nat.le_of_ble_eq_true rfl) rfl dX10_hear_77 (fun s33 h => ?_)
          refine j_aload_nR hc 1 dX10_hear_80 rfl rfl ?_
          refine j_iload_n hc 0 dX10_hear_81 rfl rfl ?_
          refine j_vI hc (k := 10) (by decide) (fun hv => Or.inl (sv_k hv hm rfl)) ml_RX10_111 mv_X10_accept (As := [vI x29]) (c_X10_accept (cx_E hc) hm cx29 h) rfl (by omega) (by decide) ⟨Nat.zero_le _, Nat.zero_le _⟩ (Nat.le_of_ble_eq_true rfl) rfl dX10_hear_82 (fun r34 s35 cr34 h => ?_)
          exact j_iret hc hr cr34 h dX10_hear_85
        · replace h := h.2 q38
          refine j_aload_nR hc 0 dX10_hear_46 rfl rfl ?_
          refine j_bipush hc dX10_hear_47 (by decide) ?_
          refine j_vI hc (k := 10) (by decide) (fun hv => Or.inl (sv_k hv hm rfl)) ml_RX10_96 mv_X10_refuse (As := [vI (-3)]) (c_X10_refuse (cx_E hc) hm (wlit (-3) (by decide)) h) rfl (by omega) (by decide) ⟨Nat.zero_le _, Nat.zero_le _⟩ (Nat.le_of_ble_eq_true rfl) rfl dX10_hear_49 (fun r36 s37 cr36 h => ?_)
          exact j_iret hc hr cr36 h dX10_hear_52
      · replace h := h.2 q41
        refine j_aload_nR hc 0 dX10_hear_26 rfl rfl ?_
        refine j_bipush hc dX10_hear_27 (by decide) ?_
        refine j_vI hc (k := 10) (by decide) (fun hv => Or.inl (sv_k hv hm rfl)) ml_RX10_96 mv_X10_refuse (As := [vI (-2)]) (c_X10_refuse (cx_E hc) hm (wlit (-2) (by decide)) h) rfl (by omega) (by decide) ⟨Nat.zero_le _, Nat.zero_le _⟩ (Nat.le_of_ble_eq_true rfl) rfl dX10_hear_29 (fun r39 s40 cr39 h => ?_)
        exact j_iret hc hr cr39 h dX10_hear_32
    · replace h := h.2 q42
      refine j_sub (lv' := [(0, vR E 0)]) [0] rfl ?_
      exact jb_X10_hear_9 hc hm hr hh h
-- LitStrangers.of(II)I
theorem dX10_of_0 : decode cX10_of 0 = .ok (.aload_n 0, 1) := by decide +kernel
theorem dX10_of_1 : decode cX10_of 1 = .ok (.getfield 56, 3) := by decide +kernel
theorem dX10_of_4 : decode cX10_of 4 = .ok (.iload_n 1, 1) := by decide +kernel
theorem dX10_of_5 : decode cX10_of 5 = .ok (.invokevirtual 114, 3) := by decide +kernel
theorem dX10_of_8 : decode cX10_of 8 = .ok (.ifCond .ne 5, 3) := by decide +kernel
theorem dX10_of_11 : decode cX10_of 11 = .ok (.iconst (-1), 1) := by decide +kernel
theorem dX10_of_12 : decode cX10_of 12 = .ok (.ireturn, 1) := by decide +kernel
theorem dX10_of_13 : decode cX10_of 13 = .ok (.iload_n 2, 1) := by decide +kernel
theorem dX10_of_14 : decode cX10_of 14 = .ok (.tableswitch 114 0 5 #[38, 48, 58, 68, 78, 105], 38) := by decide +kernel
theorem dX10_of_52 : decode cX10_of 52 = .ok (.aload_n 0, 1) := by decide +kernel
theorem dX10_of_53 : decode cX10_of 53 = .ok (.getfield 56, 3) := by decide +kernel
theorem dX10_of_56 : decode cX10_of 56 = .ok (.getfield 124, 3) := by decide +kernel
theorem dX10_of_59 : decode cX10_of 59 = .ok (.iload_n 1, 1) := by decide +kernel
theorem dX10_of_60 : decode cX10_of 60 = .ok (.iaload, 1) := by decide +kernel
theorem dX10_of_61 : decode cX10_of 61 = .ok (.ireturn, 1) := by decide +kernel
theorem dX10_of_62 : decode cX10_of 62 = .ok (.aload_n 0, 1) := by decide +kernel
theorem dX10_of_63 : decode cX10_of 63 = .ok (.getfield 56, 3) := by decide +kernel
theorem dX10_of_66 : decode cX10_of 66 = .ok (.getfield 127, 3) := by decide +kernel
theorem dX10_of_69 : decode cX10_of 69 = .ok (.iload_n 1, 1) := by decide +kernel
theorem dX10_of_70 : decode cX10_of 70 = .ok (.iaload, 1) := by decide +kernel
theorem dX10_of_71 : decode cX10_of 71 = .ok (.ireturn, 1) := by decide +kernel
theorem dX10_of_72 : decode cX10_of 72 = .ok (.aload_n 0, 1) := by decide +kernel
theorem dX10_of_73 : decode cX10_of 73 = .ok (.getfield 56, 3) := by decide +kernel
theorem dX10_of_76 : decode cX10_of 76 = .ok (.getfield 121, 3) := by decide +kernel
theorem dX10_of_79 : decode cX10_of 79 = .ok (.iload_n 1, 1) := by decide +kernel
theorem dX10_of_80 : decode cX10_of 80 = .ok (.iaload, 1) := by decide +kernel
theorem dX10_of_81 : decode cX10_of 81 = .ok (.ireturn, 1) := by decide +kernel
theorem dX10_of_82 : decode cX10_of 82 = .ok (.aload_n 0, 1) := by decide +kernel
theorem dX10_of_83 : decode cX10_of 83 = .ok (.getfield 56, 3) := by decide +kernel
theorem dX10_of_86 : decode cX10_of 86 = .ok (.getfield 118, 3) := by decide +kernel
theorem dX10_of_89 : decode cX10_of 89 = .ok (.iload_n 1, 1) := by decide +kernel
theorem dX10_of_90 : decode cX10_of 90 = .ok (.iaload, 1) := by decide +kernel
theorem dX10_of_91 : decode cX10_of 91 = .ok (.ireturn, 1) := by decide +kernel
theorem dX10_of_92 : decode cX10_of 92 = .ok (.aload_n 0, 1) := by decide +kernel
theorem dX10_of_93 : decode cX10_of 93 = .ok (.getfield 56, 3) := by decide +kernel
theorem dX10_of_96 : decode cX10_of 96 = .ok (.getfield 118, 3) := by decide +kernel
theorem dX10_of_99 : decode cX10_of 99 = .ok (.iload_n 1, 1) := by decide +kernel
theorem dX10_of_100 : decode cX10_of 100 = .ok (.iaload, 1) := by decide +kernel
theorem dX10_of_101 : decode cX10_of 101 = .ok (.iconst 1, 1) := by decide +kernel
theorem dX10_of_102 : decode cX10_of 102 = .ok (.if_icmp .ne 15, 3) := by decide +kernel
theorem dX10_of_105 : decode cX10_of 105 = .ok (.aload_n 0, 1) := by decide +kernel
theorem dX10_of_106 : decode cX10_of 106 = .ok (.getfield 56, 3) := by decide +kernel
theorem dX10_of_109 : decode cX10_of 109 = .ok (.getfield 130, 3) := by decide +kernel
theorem dX10_of_112 : decode cX10_of 112 = .ok (.iload_n 1, 1) := by decide +kernel
theorem dX10_of_113 : decode cX10_of 113 = .ok (.iaload, 1) := by decide +kernel
theorem dX10_of_114 : decode cX10_of 114 = .ok (.goto 4, 3) := by decide +kernel
theorem dX10_of_117 : decode cX10_of 117 = .ok (.iconst (-1), 1) := by decide +kernel
theorem dX10_of_118 : decode cX10_of 118 = .ok (.ireturn, 1) := by decide +kernel
theorem dX10_of_119 : decode cX10_of 119 = .ok (.aload_n 0, 1) := by decide +kernel
theorem dX10_of_120 : decode cX10_of 120 = .ok (.getfield 56, 3) := by decide +kernel
theorem dX10_of_123 : decode cX10_of 123 = .ok (.iload_n 1, 1) := by decide +kernel
theorem dX10_of_124 : decode cX10_of 124 = .ok (.invokevirtual 133, 3) := by decide +kernel
theorem dX10_of_127 : decode cX10_of 127 = .ok (.ireturn, 1) := by decide +kernel
theorem dX10_of_128 : decode cX10_of 128 = .ok (.iconst (-1), 1) := by decide +kernel
theorem dX10_of_129 : decode cX10_of 129 = .ok (.ireturn, 1) := by decide +kernel
def B_X10_of_118 (Q : Int → st_S → Prop)   (v0 : Int) (σ : st_S) : Prop := Q v0 σ
def wp_X10_of (a1 : Int) (a2 : Int) (σ : st_S) (Q : Int → st_S → Prop) : Prop := wp_X1_has a1 σ (fun r17 s18 => (¬ r17 = 0 → (a2 = 0 → ix a1 10 ∧ Q (gI s18 26 (Int.toNat a1)) s18) ∧ (a2 = 1 → ix a1 10 ∧ Q (gI s18 27 (Int.toNat a1)) s18) ∧ (a2 = 2 → ix a1 10 ∧ Q (gI s18 28 (Int.toNat a1)) s18) ∧ (a2 = 3 → ix a1 10 ∧ Q (gI s18 29 (Int.toNat a1)) s18) ∧ (a2 = 4 → ix a1 10 ∧ (¬ gI s18 29 (Int.toNat a1) = 1 → B_X10_of_118 Q (-1) s18) ∧ (gI s18 29 (Int.toNat a1) = 1 → ix a1 10 ∧ B_X10_of_118 Q (gI s18 30 (Int.toNat a1)) s18)) ∧ (a2 = 5 → wp_X1_worth a1 s18 (fun r32 s33 => Q r32 s33)) ∧ (a2 < 0 ∨ 5 < a2 → Q (-1) s18)) ∧ (r17 = 0 → Q (-1) s18))
set_option maxRecDepth 20000 in
theorem jb_X10_of_118 {X : jj_X} {E : ev_E} {n0 hN : Nat} (hc : Cx X E cX10_of 3 n0 hN RX10) (hm : eM E = 1) (hr : (xT X).sig.returnType = (some .int)) (hh : 2 ≤ hN) {Q : Int → st_S → Prop} {v0 : Int} (cv0 : wr v0 = v0) {σ : st_S} (h : B_X10_of_118 Q v0 σ) : J X E 3 n0 0 0 (MQ (xB X) (qI E (n0 + 0) Q) (xA X) (xS X) 0 0 (eF E)) σ 118 [] [vI v0] := by
  have hh1 : 1 ≤ hN := by omega
  replace h : Q v0 σ := h
  exact j_iret hc hr cv0 h dX10_of_118
set_option maxRecDepth 20000 in
theorem c_X10_of {l : Launch} {E : ev_E} (hE : Eok E) (hm : eM E = 1) {a1 : Int} {a2 : Int} (ca1 : wr a1 = a1) (ca2 : wr a2 = a2) {σ : st_S} {Q : Int → st_S → Prop} (h : wp_X10_of a1 a2 σ Q) : cM l yX10_of cX10_of 3 (some .int) E 2 0 0 [vR E 0, vI a1, vI a2] σ (qI E (gN σ + 0) Q) := by
  refine cM_of (lv := [(0, vR E 0), (1, vI a1), (2, vI a2)]) (by decide) hE (Nat.le_of_ble_eq_true rfl) (rfl) ?_
  intro X hX hc _ _ hr _ _
  subst hX
  have hh : 2 ≤ 2 := Nat.le_refl _
  have hh1 : 1 ≤ 2 := by omega
  replace h : wp_X1_has a1 σ (fun r17 s18 => (¬ r17 = 0 → (a2 = 0 → ix a1 10 ∧ Q (gI s18 26 (Int.toNat a1)) s18) ∧ (a2 = 1 → ix a1 10 ∧ Q (gI s18 27 (Int.toNat a1)) s18) ∧ (a2 = 2 → ix a1 10 ∧ Q (gI s18 28 (Int.toNat a1)) s18) ∧ (a2 = 3 → ix a1 10 ∧ Q (gI s18 29 (Int.toNat a1)) s18) ∧ (a2 = 4 → ix a1 10 ∧ (¬ gI s18 29 (Int.toNat a1) = 1 → B_X10_of_118 Q (-1) s18) ∧ (gI s18 29 (Int.toNat a1) = 1 → ix a1 10 ∧ B_X10_of_118 Q (gI s18 30 (Int.toNat a1)) s18)) ∧ (a2 = 5 → wp_X1_worth a1 s18 (fun r32 s33 => Q r32 s33)) ∧ (a2 < 0 ∨ 5 < a2 → Q (-1) s18)) ∧ (r17 = 0 → Q (-1) s18)) := h
  refine j_aload_nR hc 0 dX10_of_0 rfl rfl ?_
  refine j_getR (c' := 25) hc fl_RX10_56 rfl rfl (fun hv => (sv_k hv hm rfl)) dX10_of_1 ?_
  refine j_iload_n hc 1 dX10_of_4 rfl rfl ?_
  refine j_vI hc (k := 1) (by decide) (fun hv => Or.inl (sv_k hv hm rfl)) ml_RX10_114 mv_X1_has (As := [vI a1]) (c_X1_has (cx_E hc) hm ca1 h) rfl (by omega) (by decide) ⟨Nat.zero_le _, Nat.zero_le _⟩ (Nat.le_of_ble_eq_true rfl) rfl dX10_of_5 (fun r17 s18 cr17 h => ?_)
  refine j_if_ne hc cr17 (tgt := 13) dX10_of_8 (by decide) (fun q34 => ?_) (fun q34 => ?_)
  · replace h := h.1 q34
    refine j_iload_n hc 2 dX10_of_13 rfl rfl ?_
    rcases Decidable.em (a2 = 0) with q0 | q0
    · replace h := h.1 q0
      refine j_ts (tgt := 52) (off := 38) hc ca2 dX10_of_14 0 q0 (by decide) (by decide) (by decide) (by decide) ?_
      refine j_aload_nR hc 0 dX10_of_52 rfl rfl ?_
      refine j_getR (c' := 25) hc fl_RX10_56 rfl rfl (fun hv => (sv_k hv hm rfl)) dX10_of_53 ?_
      refine j_getR (c' := 26) hc fl_RX10_124 rfl rfl (fun hv => (sv_k hv hm rfl)) dX10_of_56 ?_
      refine j_iload_n hc 1 dX10_of_59 rfl rfl ?_
      obtain ⟨b19, h⟩ := h
      refine j_iald (jn := (Int.toNat a1)) hc (fun hv => sv_kl hv hm rfl) ca1 b19 rfl dX10_of_60 (fun cn20 => ?_)
      exact j_iret hc hr cn20 h dX10_of_61
    · rcases Decidable.em (a2 = 1) with q1 | q1
      · replace h := h.2.1 q1
        refine j_ts (tgt := 62) (off := 48) hc ca2 dX10_of_14 1 q1 (by decide) (by decide) (by decide) (by decide) ?_
        refine j_aload_nR hc 0 dX10_of_62 rfl rfl ?_
        refine j_getR (c' := 25) hc fl_RX10_56 rfl rfl (fun hv => (sv_k hv hm rfl)) dX10_of_63 ?_
        refine j_getR (c' := 27) hc fl_RX10_127 rfl rfl (fun hv => (sv_k hv hm rfl)) dX10_of_66 ?_
        refine j_iload_n hc 1 dX10_of_69 rfl rfl ?_
        obtain ⟨b21, h⟩ := h
        refine j_iald (jn := (Int.toNat a1)) hc (fun hv => sv_kl hv hm rfl) ca1 b21 rfl dX10_of_70 (fun cn22 => ?_)
        exact j_iret hc hr cn22 h dX10_of_71
      · rcases Decidable.em (a2 = 2) with q2 | q2
        · replace h := h.2.2.1 q2
          refine j_ts (tgt := 72) (off := 58) hc ca2 dX10_of_14 2 q2 (by decide) (by decide) (by decide) (by decide) ?_
          refine j_aload_nR hc 0 dX10_of_72 rfl rfl ?_
          refine j_getR (c' := 25) hc fl_RX10_56 rfl rfl (fun hv => (sv_k hv hm rfl)) dX10_of_73 ?_
          refine j_getR (c' := 28) hc fl_RX10_121 rfl rfl (fun hv => (sv_k hv hm rfl)) dX10_of_76 ?_
          refine j_iload_n hc 1 dX10_of_79 rfl rfl ?_
          obtain ⟨b23, h⟩ := h
          refine j_iald (jn := (Int.toNat a1)) hc (fun hv => sv_kl hv hm rfl) ca1 b23 rfl dX10_of_80 (fun cn24 => ?_)
          exact j_iret hc hr cn24 h dX10_of_81
        · rcases Decidable.em (a2 = 3) with q3 | q3
          · replace h := h.2.2.2.1 q3
            refine j_ts (tgt := 82) (off := 68) hc ca2 dX10_of_14 3 q3 (by decide) (by decide) (by decide) (by decide) ?_
            refine j_aload_nR hc 0 dX10_of_82 rfl rfl ?_
            refine j_getR (c' := 25) hc fl_RX10_56 rfl rfl (fun hv => (sv_k hv hm rfl)) dX10_of_83 ?_
            refine j_getR (c' := 29) hc fl_RX10_118 rfl rfl (fun hv => (sv_k hv hm rfl)) dX10_of_86 ?_
            refine j_iload_n hc 1 dX10_of_89 rfl rfl ?_
            obtain ⟨b25, h⟩ := h
            refine j_iald (jn := (Int.toNat a1)) hc (fun hv => sv_kl hv hm rfl) ca1 b25 rfl dX10_of_90 (fun cn26 => ?_)
            exact j_iret hc hr cn26 h dX10_of_91
          · rcases Decidable.em (a2 = 4) with q4 | q4
            · replace h := h.2.2.2.2.1 q4
              refine j_ts (tgt := 92) (off := 78) hc ca2 dX10_of_14 4 q4 (by decide) (by decide) (by decide) (by decide) ?_
              refine j_aload_nR hc 0 dX10_of_92 rfl rfl ?_
              refine j_getR (c' := 25) hc fl_RX10_56 rfl rfl (fun hv => (sv_k hv hm rfl)) dX10_of_93 ?_
              refine j_getR (c' := 29) hc fl_RX10_118 rfl rfl (fun hv => (sv_k hv hm rfl)) dX10_of_96 ?_
              refine j_iload_n hc 1 dX10_of_99 rfl rfl ?_
              obtain ⟨b27, h⟩ := h
              refine j_iald (jn := (Int.toNat a1)) hc (fun hv => sv_kl hv hm rfl) ca1 b27 rfl dX10_of_100 (fun cn28 => ?_)
              refine j_iconst hc dX10_of_101 ?_
              refine j_ic_ne hc cn28 (wlit 1 (by decide)) (tgt := 117) dX10_of_102 (by decide) (fun q31 => ?_) (fun q31 => ?_)
              · replace h := h.1 q31
                refine j_iconst hc dX10_of_117 ?_
                refine j_sub (lv' := []) [] rfl ?_
                exact jb_X10_of_118 hc hm hr hh (wlit (-1) (by decide)) h
              · replace h := h.2 q31
                refine j_aload_nR hc 0 dX10_of_105 rfl rfl ?_
                refine j_getR (c' := 25) hc fl_RX10_56 rfl rfl (fun hv => (sv_k hv hm rfl)) dX10_of_106 ?_
                refine j_getR (c' := 30) hc fl_RX10_130 rfl rfl (fun hv => (sv_k hv hm rfl)) dX10_of_109 ?_
                refine j_iload_n hc 1 dX10_of_112 rfl rfl ?_
                obtain ⟨b29, h⟩ := h
                refine j_iald (jn := (Int.toNat a1)) hc (fun hv => sv_kl hv hm rfl) ca1 b29 rfl dX10_of_113 (fun cn30 => ?_)
                refine j_goto (tgt := 118) hc dX10_of_114 (by decide) ?_
                refine j_sub (lv' := []) [] rfl ?_
                exact jb_X10_of_118 hc hm hr hh cn30 h
            · rcases Decidable.em (a2 = 5) with q5 | q5
              · replace h := h.2.2.2.2.2.1 q5
                refine j_ts (tgt := 119) (off := 105) hc ca2 dX10_of_14 5 q5 (by decide) (by decide) (by decide) (by decide) ?_
                refine j_aload_nR hc 0 dX10_of_119 rfl rfl ?_
                refine j_getR (c' := 25) hc fl_RX10_56 rfl rfl (fun hv => (sv_k hv hm rfl)) dX10_of_120 ?_
                refine j_iload_n hc 1 dX10_of_123 rfl rfl ?_
                refine j_vI hc (k := 1) (by decide) (fun hv => Or.inl (sv_k hv hm rfl)) ml_RX10_133 mv_X1_worth (As := [vI a1]) (c_X1_worth (cx_E hc) hm ca1 h) rfl (by omega) (by decide) ⟨Nat.zero_le _, Nat.zero_le _⟩ (Nat.le_of_ble_eq_true rfl) rfl dX10_of_124 (fun r32 s33 cr32 h => ?_)
                exact j_iret hc hr cr32 h dX10_of_127
              · have qd : a2 < 0 ∨ 5 < a2 := by omega
                replace h := h.2.2.2.2.2.2 qd
                refine j_td (tgt := 128) hc ca2 dX10_of_14 qd (by decide) ?_
                refine j_iconst hc dX10_of_128 ?_
                exact j_iret hc hr (wlit (-1) (by decide)) h dX10_of_129
  · replace h := h.2 q34
    refine j_iconst hc dX10_of_11 ?_
    exact j_iret hc hr (wlit (-1) (by decide)) h dX10_of_12
-- LitStrangers.talk(III)I
theorem dX10_talk_0 : decode cX10_talk 0 = .ok (.iload_n 1, 1) := by decide +kernel
theorem dX10_talk_1 : decode cX10_talk 1 = .ok (.iload_n 2, 1) := by decide +kernel
theorem dX10_talk_2 : decode cX10_talk 2 = .ok (.if_icmp .eq 12, 3) := by decide +kernel
theorem dX10_talk_5 : decode cX10_talk 5 = .ok (.iload_n 3, 1) := by decide +kernel
theorem dX10_talk_6 : decode cX10_talk 6 = .ok (.ifCond .lt 8, 3) := by decide +kernel
theorem dX10_talk_9 : decode cX10_talk 9 = .ok (.iload_n 3, 1) := by decide +kernel
theorem dX10_talk_10 : decode cX10_talk 10 = .ok (.iconst 1, 1) := by decide +kernel
theorem dX10_talk_11 : decode cX10_talk 11 = .ok (.if_icmp .le 9, 3) := by decide +kernel
theorem dX10_talk_14 : decode cX10_talk 14 = .ok (.aload_n 0, 1) := by decide +kernel
theorem dX10_talk_15 : decode cX10_talk 15 = .ok (.iconst (-1), 1) := by decide +kernel
theorem dX10_talk_16 : decode cX10_talk 16 = .ok (.invokevirtual 96, 3) := by decide +kernel
theorem dX10_talk_19 : decode cX10_talk 19 = .ok (.ireturn, 1) := by decide +kernel
theorem dX10_talk_20 : decode cX10_talk 20 = .ok (.aload_n 0, 1) := by decide +kernel
theorem dX10_talk_21 : decode cX10_talk 21 = .ok (.getfield 56, 3) := by decide +kernel
theorem dX10_talk_24 : decode cX10_talk 24 = .ok (.iload_n 1, 1) := by decide +kernel
theorem dX10_talk_25 : decode cX10_talk 25 = .ok (.invokevirtual 114, 3) := by decide +kernel
theorem dX10_talk_28 : decode cX10_talk 28 = .ok (.ifCond .eq 14, 3) := by decide +kernel
theorem dX10_talk_31 : decode cX10_talk 31 = .ok (.aload_n 0, 1) := by decide +kernel
theorem dX10_talk_32 : decode cX10_talk 32 = .ok (.getfield 56, 3) := by decide +kernel
theorem dX10_talk_35 : decode cX10_talk 35 = .ok (.iload_n 2, 1) := by decide +kernel
theorem dX10_talk_36 : decode cX10_talk 36 = .ok (.invokevirtual 114, 3) := by decide +kernel
theorem dX10_talk_39 : decode cX10_talk 39 = .ok (.ifCond .ne 10, 3) := by decide +kernel
theorem dX10_talk_42 : decode cX10_talk 42 = .ok (.aload_n 0, 1) := by decide +kernel
theorem dX10_talk_43 : decode cX10_talk 43 = .ok (.bipush (-2), 2) := by decide +kernel
theorem dX10_talk_45 : decode cX10_talk 45 = .ok (.invokevirtual 96, 3) := by decide +kernel
theorem dX10_talk_48 : decode cX10_talk 48 = .ok (.ireturn, 1) := by decide +kernel
theorem dX10_talk_49 : decode cX10_talk 49 = .ok (.aload_n 0, 1) := by decide +kernel
theorem dX10_talk_50 : decode cX10_talk 50 = .ok (.getfield 56, 3) := by decide +kernel
theorem dX10_talk_53 : decode cX10_talk 53 = .ok (.getfield 136, 3) := by decide +kernel
theorem dX10_talk_56 : decode cX10_talk 56 = .ok (.iload_n 1, 1) := by decide +kernel
theorem dX10_talk_57 : decode cX10_talk 57 = .ok (.iaload, 1) := by decide +kernel
theorem dX10_talk_58 : decode cX10_talk 58 = .ok (.iload_n 2, 1) := by decide +kernel
theorem dX10_talk_59 : decode cX10_talk 59 = .ok (.ishr, 1) := by decide +kernel
theorem dX10_talk_60 : decode cX10_talk 60 = .ok (.iconst 1, 1) := by decide +kernel
theorem dX10_talk_61 : decode cX10_talk 61 = .ok (.iand, 1) := by decide +kernel
theorem dX10_talk_62 : decode cX10_talk 62 = .ok (.istore 4, 2) := by decide +kernel
theorem dX10_talk_64 : decode cX10_talk 64 = .ok (.iload 4, 2) := by decide +kernel
theorem dX10_talk_66 : decode cX10_talk 66 = .ok (.iload_n 3, 1) := by decide +kernel
theorem dX10_talk_67 : decode cX10_talk 67 = .ok (.if_icmp .eq 33, 3) := by decide +kernel
theorem dX10_talk_70 : decode cX10_talk 70 = .ok (.aload_n 0, 1) := by decide +kernel
theorem dX10_talk_71 : decode cX10_talk 71 = .ok (.getfield 56, 3) := by decide +kernel
theorem dX10_talk_74 : decode cX10_talk 74 = .ok (.getfield 136, 3) := by decide +kernel
theorem dX10_talk_77 : decode cX10_talk 77 = .ok (.iload_n 1, 1) := by decide +kernel
theorem dX10_talk_78 : decode cX10_talk 78 = .ok (.dup2, 1) := by decide +kernel
theorem dX10_talk_79 : decode cX10_talk 79 = .ok (.iaload, 1) := by decide +kernel
theorem dX10_talk_80 : decode cX10_talk 80 = .ok (.iconst 1, 1) := by decide +kernel
theorem dX10_talk_81 : decode cX10_talk 81 = .ok (.iload_n 2, 1) := by decide +kernel
theorem dX10_talk_82 : decode cX10_talk 82 = .ok (.ishl, 1) := by decide +kernel
theorem dX10_talk_83 : decode cX10_talk 83 = .ok (.ixor, 1) := by decide +kernel
theorem dX10_talk_84 : decode cX10_talk 84 = .ok (.iastore, 1) := by decide +kernel
theorem dX10_talk_85 : decode cX10_talk 85 = .ok (.aload_n 0, 1) := by decide +kernel
theorem dX10_talk_86 : decode cX10_talk 86 = .ok (.getfield 56, 3) := by decide +kernel
theorem dX10_talk_89 : decode cX10_talk 89 = .ok (.getfield 136, 3) := by decide +kernel
theorem dX10_talk_92 : decode cX10_talk 92 = .ok (.iload_n 2, 1) := by decide +kernel
theorem dX10_talk_93 : decode cX10_talk 93 = .ok (.dup2, 1) := by decide +kernel
theorem dX10_talk_94 : decode cX10_talk 94 = .ok (.iaload, 1) := by decide +kernel
theorem dX10_talk_95 : decode cX10_talk 95 = .ok (.iconst 1, 1) := by decide +kernel
theorem dX10_talk_96 : decode cX10_talk 96 = .ok (.iload_n 1, 1) := by decide +kernel
theorem dX10_talk_97 : decode cX10_talk 97 = .ok (.ishl, 1) := by decide +kernel
theorem dX10_talk_98 : decode cX10_talk 98 = .ok (.ixor, 1) := by decide +kernel
theorem dX10_talk_99 : decode cX10_talk 99 = .ok (.iastore, 1) := by decide +kernel
theorem dX10_talk_100 : decode cX10_talk 100 = .ok (.aload_n 0, 1) := by decide +kernel
theorem dX10_talk_101 : decode cX10_talk 101 = .ok (.iload 4, 2) := by decide +kernel
theorem dX10_talk_103 : decode cX10_talk 103 = .ok (.invokevirtual 111, 3) := by decide +kernel
theorem dX10_talk_106 : decode cX10_talk 106 = .ok (.ireturn, 1) := by decide +kernel
def B_X10_talk_14 (Q : Int → st_S → Prop)    (σ : st_S) : Prop := wp_X10_refuse (-1) σ (fun r24 s25 => Q r24 s25)
def B_X10_talk_42 (Q : Int → st_S → Prop)    (σ : st_S) : Prop := wp_X10_refuse (-2) σ (fun r26 s27 => Q r26 s27)
def B_X10_talk_100 (Q : Int → st_S → Prop)   (l4 : Int) (σ : st_S) : Prop := wp_X10_accept l4 σ (fun r28 s29 => Q r28 s29)
def wp_X10_talk (a1 : Int) (a2 : Int) (a3 : Int) (σ : st_S) (Q : Int → st_S → Prop) : Prop := (a1 = a2 → B_X10_talk_14 Q σ) ∧ (¬ a1 = a2 → (a3 < 0 → B_X10_talk_14 Q σ) ∧ (¬ a3 < 0 → (a3 ≤ 1 → wp_X1_has a1 σ (fun r30 s31 => (r30 = 0 → B_X10_talk_42 Q s31) ∧ (¬ r30 = 0 → wp_X1_has a2 s31 (fun r32 s33 => (¬ r32 = 0 → ix a1 10 ∧ ∀ x36 : Int, x36 = o_and (o_shr (gI s33 31 (Int.toNat a1)) a2) 1 → (x36 = a3 → B_X10_talk_100 Q x36 s33) ∧ (¬ x36 = a3 → ix a1 10 ∧ ix a1 10 ∧ ∀ s40 : st_S, s40 = sI s33 31 (Int.toNat a1) (o_xor (gI s33 31 (Int.toNat a1)) (o_shl 1 a2)) → ix a2 10 ∧ ix a2 10 ∧ ∀ s44 : st_S, s44 = sI s40 31 (Int.toNat a2) (o_xor (gI s40 31 (Int.toNat a2)) (o_shl 1 a1)) → B_X10_talk_100 Q x36 s44)) ∧ (r32 = 0 → B_X10_talk_42 Q s33))))) ∧ (¬ a3 ≤ 1 → B_X10_talk_14 Q σ)))
set_option maxRecDepth 20000 in
theorem jb_X10_talk_14 {X : jj_X} {E : ev_E} {n0 hN : Nat} (hc : Cx X E cX10_talk 5 n0 hN RX10) (hm : eM E = 1) (hr : (xT X).sig.returnType = (some .int)) (hh : 2 ≤ hN) {Q : Int → st_S → Prop} {σ : st_S} (h : B_X10_talk_14 Q σ) : J X E 5 n0 0 0 (MQ (xB X) (qI E (n0 + 0) Q) (xA X) (xS X) 0 0 (eF E)) σ 14 [(0, vR E 0)] [] := by
  have hh1 : 1 ≤ hN := by omega
  replace h : wp_X10_refuse (-1) σ (fun r24 s25 => Q r24 s25) := h
  refine j_aload_nR hc 0 dX10_talk_14 rfl rfl ?_
  refine j_iconst hc dX10_talk_15 ?_
  refine j_vI hc (k := 10) (by decide) (fun hv => Or.inl (sv_k hv hm rfl)) ml_RX10_96 mv_X10_refuse (As := [vI (-1)]) (c_X10_refuse (cx_E hc) hm (wlit (-1) (by decide)) h) rfl (by omega) (by decide) ⟨Nat.zero_le _, Nat.zero_le _⟩ (Nat.le_of_ble_eq_true rfl) rfl dX10_talk_16 (fun r24 s25 cr24 h => ?_)
  exact j_iret hc hr cr24 h dX10_talk_19
set_option maxRecDepth 20000 in
theorem jb_X10_talk_42 {X : jj_X} {E : ev_E} {n0 hN : Nat} (hc : Cx X E cX10_talk 5 n0 hN RX10) (hm : eM E = 1) (hr : (xT X).sig.returnType = (some .int)) (hh : 2 ≤ hN) {Q : Int → st_S → Prop} {σ : st_S} (h : B_X10_talk_42 Q σ) : J X E 5 n0 0 0 (MQ (xB X) (qI E (n0 + 0) Q) (xA X) (xS X) 0 0 (eF E)) σ 42 [(0, vR E 0)] [] := by
  have hh1 : 1 ≤ hN := by omega
  replace h : wp_X10_refuse (-2) σ (fun r26 s27 => Q r26 s27) := h
  refine j_aload_nR hc 0 dX10_talk_42 rfl rfl ?_
  refine j_bipush hc dX10_talk_43 (by decide) ?_
  refine j_vI hc (k := 10) (by decide) (fun hv => Or.inl (sv_k hv hm rfl)) ml_RX10_96 mv_X10_refuse (As := [vI (-2)]) (c_X10_refuse (cx_E hc) hm (wlit (-2) (by decide)) h) rfl (by omega) (by decide) ⟨Nat.zero_le _, Nat.zero_le _⟩ (Nat.le_of_ble_eq_true rfl) rfl dX10_talk_45 (fun r26 s27 cr26 h => ?_)
  exact j_iret hc hr cr26 h dX10_talk_48
set_option maxRecDepth 20000 in
theorem jb_X10_talk_100 {X : jj_X} {E : ev_E} {n0 hN : Nat} (hc : Cx X E cX10_talk 5 n0 hN RX10) (hm : eM E = 1) (hr : (xT X).sig.returnType = (some .int)) (hh : 2 ≤ hN) {Q : Int → st_S → Prop} {l4 : Int} (cl4 : wr l4 = l4) {σ : st_S} (h : B_X10_talk_100 Q l4 σ) : J X E 5 n0 0 0 (MQ (xB X) (qI E (n0 + 0) Q) (xA X) (xS X) 0 0 (eF E)) σ 100 [(0, vR E 0), (4, vI l4)] [] := by
  have hh1 : 1 ≤ hN := by omega
  replace h : wp_X10_accept l4 σ (fun r28 s29 => Q r28 s29) := h
  refine j_aload_nR hc 0 dX10_talk_100 rfl rfl ?_
  refine j_iload hc 1 dX10_talk_101 rfl ?_
  refine j_vI hc (k := 10) (by decide) (fun hv => Or.inl (sv_k hv hm rfl)) ml_RX10_111 mv_X10_accept (As := [vI l4]) (c_X10_accept (cx_E hc) hm cl4 h) rfl (by omega) (by decide) ⟨Nat.zero_le _, Nat.zero_le _⟩ (Nat.le_of_ble_eq_true rfl) rfl dX10_talk_103 (fun r28 s29 cr28 h => ?_)
  exact j_iret hc hr cr28 h dX10_talk_106
set_option maxRecDepth 20000 in
theorem c_X10_talk {l : Launch} {E : ev_E} (hE : Eok E) (hm : eM E = 1) {a1 : Int} {a2 : Int} {a3 : Int} (ca1 : wr a1 = a1) (ca2 : wr a2 = a2) (ca3 : wr a3 = a3) {σ : st_S} {Q : Int → st_S → Prop} (h : wp_X10_talk a1 a2 a3 σ Q) : cM l yX10_talk cX10_talk 5 (some .int) E 2 0 0 [vR E 0, vI a1, vI a2, vI a3] σ (qI E (gN σ + 0) Q) := by
  refine cM_of (lv := [(0, vR E 0), (1, vI a1), (2, vI a2), (3, vI a3)]) (by decide) hE (Nat.le_of_ble_eq_true rfl) (rfl) ?_
  intro X hX hc _ _ hr _ _
  subst hX
  have hh : 2 ≤ 2 := Nat.le_refl _
  have hh1 : 1 ≤ 2 := by omega
  replace h : (a1 = a2 → B_X10_talk_14 Q σ) ∧ (¬ a1 = a2 → (a3 < 0 → B_X10_talk_14 Q σ) ∧ (¬ a3 < 0 → (a3 ≤ 1 → wp_X1_has a1 σ (fun r30 s31 => (r30 = 0 → B_X10_talk_42 Q s31) ∧ (¬ r30 = 0 → wp_X1_has a2 s31 (fun r32 s33 => (¬ r32 = 0 → ix a1 10 ∧ ∀ x36 : Int, x36 = o_and (o_shr (gI s33 31 (Int.toNat a1)) a2) 1 → (x36 = a3 → B_X10_talk_100 Q x36 s33) ∧ (¬ x36 = a3 → ix a1 10 ∧ ix a1 10 ∧ ∀ s40 : st_S, s40 = sI s33 31 (Int.toNat a1) (o_xor (gI s33 31 (Int.toNat a1)) (o_shl 1 a2)) → ix a2 10 ∧ ix a2 10 ∧ ∀ s44 : st_S, s44 = sI s40 31 (Int.toNat a2) (o_xor (gI s40 31 (Int.toNat a2)) (o_shl 1 a1)) → B_X10_talk_100 Q x36 s44)) ∧ (r32 = 0 → B_X10_talk_42 Q s33))))) ∧ (¬ a3 ≤ 1 → B_X10_talk_14 Q σ))) := h
  refine j_iload_n hc 1 dX10_talk_0 rfl rfl ?_
  refine j_iload_n hc 2 dX10_talk_1 rfl rfl ?_
  refine j_ic_eq hc ca1 ca2 (tgt := 14) dX10_talk_2 (by decide) (fun q50 => ?_) (fun q50 => ?_)
  · replace h := h.1 q50
    refine j_sub (lv' := [(0, vR E 0)]) [0] rfl ?_
    exact jb_X10_talk_14 hc hm hr hh h
  · replace h := h.2 q50
    refine j_iload_n hc 3 dX10_talk_5 rfl rfl ?_
    refine j_if_lt hc ca3 (tgt := 14) dX10_talk_6 (by decide) (fun q49 => ?_) (fun q49 => ?_)
    · replace h := h.1 q49
      refine j_sub (lv' := [(0, vR E 0)]) [0] rfl ?_
      exact jb_X10_talk_14 hc hm hr hh h
    · replace h := h.2 q49
      refine j_iload_n hc 3 dX10_talk_9 rfl rfl ?_
      refine j_iconst hc dX10_talk_10 ?_
      refine j_ic_le hc ca3 (wlit 1 (by decide)) (tgt := 20) dX10_talk_11 (by decide) (fun q48 => ?_) (fun q48 => ?_)
      · replace h := h.1 q48
        refine j_aload_nR hc 0 dX10_talk_20 rfl rfl ?_
        refine j_getR (c' := 25) hc fl_RX10_56 rfl rfl (fun hv => (sv_k hv hm rfl)) dX10_talk_21 ?_
        refine j_iload_n hc 1 dX10_talk_24 rfl rfl ?_
        refine j_vI hc (k := 1) (by decide) (fun hv => Or.inl (sv_k hv hm rfl)) ml_RX10_114 mv_X1_has (As := [vI a1]) (c_X1_has (cx_E hc) hm ca1 h) rfl (by omega) (by decide) ⟨Nat.zero_le _, Nat.zero_le _⟩ (Nat.le_of_ble_eq_true rfl) rfl dX10_talk_25 (fun r30 s31 cr30 h => ?_)
        refine j_if_eq hc cr30 (tgt := 42) dX10_talk_28 (by decide) (fun q47 => ?_) (fun q47 => ?_)
        · replace h := h.1 q47
          refine j_sub (lv' := [(0, vR E 0)]) [0] rfl ?_
          exact jb_X10_talk_42 hc hm hr hh h
        · replace h := h.2 q47
          refine j_aload_nR hc 0 dX10_talk_31 rfl rfl ?_
          refine j_getR (c' := 25) hc fl_RX10_56 rfl rfl (fun hv => (sv_k hv hm rfl)) dX10_talk_32 ?_
          refine j_iload_n hc 2 dX10_talk_35 rfl rfl ?_
          refine j_vI hc (k := 1) (by decide) (fun hv => Or.inl (sv_k hv hm rfl)) ml_RX10_114 mv_X1_has (As := [vI a2]) (c_X1_has (cx_E hc) hm ca2 h) rfl (by omega) (by decide) ⟨Nat.zero_le _, Nat.zero_le _⟩ (Nat.le_of_ble_eq_true rfl) rfl dX10_talk_36 (fun r32 s33 cr32 h => ?_)
          refine j_if_ne hc cr32 (tgt := 49) dX10_talk_39 (by decide) (fun q46 => ?_) (fun q46 => ?_)
          · replace h := h.1 q46
            refine j_aload_nR hc 0 dX10_talk_49 rfl rfl ?_
            refine j_getR (c' := 25) hc fl_RX10_56 rfl rfl (fun hv => (sv_k hv hm rfl)) dX10_talk_50 ?_
            refine j_getR (c' := 31) hc fl_RX10_136 rfl rfl (fun hv => (sv_k hv hm rfl)) dX10_talk_53 ?_
            refine j_iload_n hc 1 dX10_talk_56 rfl rfl ?_
            obtain ⟨b34, h⟩ := h
            refine j_iald (jn := (Int.toNat a1)) hc (fun hv => sv_kl hv hm rfl) ca1 b34 rfl dX10_talk_57 (fun cn35 => ?_)
            refine j_iload_n hc 2 dX10_talk_58 rfl rfl ?_
            refine j_ishr hc dX10_talk_59 ?_
            refine j_iconst hc dX10_talk_60 ?_
            refine j_iand hc dX10_talk_61 ?_
            refine j_c (cn_and _ _) (fun x36 ex36 cx36 => ?_)
            replace h := h x36 ex36
            refine j_istore (lv' := [(4, vI x36), (0, vR E 0), (1, vI a1), (2, vI a2), (3, vI a3)]) hc dX10_talk_62 (by decide) rfl ?_
            refine j_iload hc 0 dX10_talk_64 rfl ?_
            refine j_iload_n hc 4 dX10_talk_66 rfl rfl ?_
            refine j_ic_eq hc cx36 ca3 (tgt := 100) dX10_talk_67 (by decide) (fun q45 => ?_) (fun q45 => ?_)
            · replace h := h.1 q45
              refine j_sub (lv' := [(0, vR E 0), (4, vI x36)]) [1, 0] rfl ?_
              exact jb_X10_talk_100 hc hm hr hh cx36 h
            · replace h := h.2 q45
              refine j_aload_nR hc 1 dX10_talk_70 rfl rfl ?_
              refine j_getR (c' := 25) hc fl_RX10_56 rfl rfl (fun hv => (sv_k hv hm rfl)) dX10_talk_71 ?_
              refine j_getR (c' := 31) hc fl_RX10_136 rfl rfl (fun hv => (sv_k hv hm rfl)) dX10_talk_74 ?_
              refine j_iload_n hc 2 dX10_talk_77 rfl rfl ?_
              refine j_dup2 hc dX10_talk_78 rfl rfl ?_
              obtain ⟨b37, h⟩ := h
              refine j_iald (jn := (Int.toNat a1)) hc (fun hv => sv_kl hv hm rfl) ca1 b37 rfl dX10_talk_79 (fun cn38 => ?_)
              refine j_iconst hc dX10_talk_80 ?_
              refine j_iload_n hc 3 dX10_talk_81 rfl rfl ?_
              refine j_ishl hc dX10_talk_82 ?_
              refine j_ixor hc dX10_talk_83 ?_
              obtain ⟨b39, h⟩ := h
              refine j_iast (jn := (Int.toNat a1)) hc (fun hv => sv_kl hv hm rfl) ca1 b39 rfl (cn_xor _ _) dX10_talk_84 (fun s40 es40 => ?_)
              replace h := h s40 es40
              refine j_aload_nR hc 1 dX10_talk_85 rfl rfl ?_
              refine j_getR (c' := 25) hc fl_RX10_56 rfl rfl (fun hv => (sv_k hv hm rfl)) dX10_talk_86 ?_
              refine j_getR (c' := 31) hc fl_RX10_136 rfl rfl (fun hv => (sv_k hv hm rfl)) dX10_talk_89 ?_
              refine j_iload_n hc 3 dX10_talk_92 rfl rfl ?_
              refine j_dup2 hc dX10_talk_93 rfl rfl ?_
              obtain ⟨b41, h⟩ := h
              refine j_iald (jn := (Int.toNat a2)) hc (fun hv => sv_kl hv hm rfl) ca2 b41 rfl dX10_talk_94 (fun cn42 => ?_)
              refine j_iconst hc dX10_talk_95 ?_
              refine j_iload_n hc 2 dX10_talk_96 rfl rfl ?_
              refine j_ishl hc dX10_talk_97 ?_
              refine j_ixor hc dX10_talk_98 ?_
              obtain ⟨b43, h⟩ := h
              refine j_iast (jn := (Int.toNat a2)) hc (fun hv => sv_kl hv hm rfl) ca2 b43 rfl (cn_xor _ _) dX10_talk_99 (fun s44 es44 => ?_)
              replace h := h s44 es44
              refine j_sub (lv' := [(0, vR E 0), (4, vI x36)]) [1, 0] rfl ?_
              exact jb_X10_talk_100 hc hm hr hh cx36 h
          · replace h := h.2 q46
            refine j_sub (lv' := [(0, vR E 0)]) [0] rfl ?_
            exact jb_X10_talk_42 hc hm hr hh h
      · replace h := h.2 q48
        refine j_sub (lv' := [(0, vR E 0)]) [0] rfl ?_
        exact jb_X10_talk_14 hc hm hr hh h
-- LitStrangers.fog(II)I
theorem dX10_fog_0 : decode cX10_fog 0 = .ok (.iload_n 1, 1) := by decide +kernel
theorem dX10_fog_1 : decode cX10_fog 1 = .ok (.ifCond .lt 18, 3) := by decide +kernel
theorem dX10_fog_4 : decode cX10_fog 4 = .ok (.iload_n 1, 1) := by decide +kernel
theorem dX10_fog_5 : decode cX10_fog 5 = .ok (.bipush 100, 2) := by decide +kernel
theorem dX10_fog_7 : decode cX10_fog 7 = .ok (.if_icmp .ge 12, 3) := by decide +kernel
theorem dX10_fog_10 : decode cX10_fog 10 = .ok (.iload_n 2, 1) := by decide +kernel
theorem dX10_fog_11 : decode cX10_fog 11 = .ok (.ifCond .lt 8, 3) := by decide +kernel
theorem dX10_fog_14 : decode cX10_fog 14 = .ok (.iload_n 2, 1) := by decide +kernel
theorem dX10_fog_15 : decode cX10_fog 15 = .ok (.iconst 1, 1) := by decide +kernel
theorem dX10_fog_16 : decode cX10_fog 16 = .ok (.if_icmp .le 9, 3) := by decide +kernel
theorem dX10_fog_19 : decode cX10_fog 19 = .ok (.aload_n 0, 1) := by decide +kernel
theorem dX10_fog_20 : decode cX10_fog 20 = .ok (.iconst (-1), 1) := by decide +kernel
theorem dX10_fog_21 : decode cX10_fog 21 = .ok (.invokevirtual 96, 3) := by decide +kernel
theorem dX10_fog_24 : decode cX10_fog 24 = .ok (.ireturn, 1) := by decide +kernel
theorem dX10_fog_25 : decode cX10_fog 25 = .ok (.aload_n 0, 1) := by decide +kernel
theorem dX10_fog_26 : decode cX10_fog 26 = .ok (.getfield 56, 3) := by decide +kernel
theorem dX10_fog_29 : decode cX10_fog 29 = .ok (.getfield 139, 3) := by decide +kernel
theorem dX10_fog_32 : decode cX10_fog 32 = .ok (.iload_n 1, 1) := by decide +kernel
theorem dX10_fog_33 : decode cX10_fog 33 = .ok (.iaload, 1) := by decide +kernel
theorem dX10_fog_34 : decode cX10_fog 34 = .ok (.istore_n 3, 1) := by decide +kernel
theorem dX10_fog_35 : decode cX10_fog 35 = .ok (.aload_n 0, 1) := by decide +kernel
theorem dX10_fog_36 : decode cX10_fog 36 = .ok (.getfield 56, 3) := by decide +kernel
theorem dX10_fog_39 : decode cX10_fog 39 = .ok (.getfield 139, 3) := by decide +kernel
theorem dX10_fog_42 : decode cX10_fog 42 = .ok (.iload_n 1, 1) := by decide +kernel
theorem dX10_fog_43 : decode cX10_fog 43 = .ok (.iload_n 2, 1) := by decide +kernel
theorem dX10_fog_44 : decode cX10_fog 44 = .ok (.iastore, 1) := by decide +kernel
theorem dX10_fog_45 : decode cX10_fog 45 = .ok (.aload_n 0, 1) := by decide +kernel
theorem dX10_fog_46 : decode cX10_fog 46 = .ok (.iload_n 3, 1) := by decide +kernel
theorem dX10_fog_47 : decode cX10_fog 47 = .ok (.invokevirtual 111, 3) := by decide +kernel
theorem dX10_fog_50 : decode cX10_fog 50 = .ok (.ireturn, 1) := by decide +kernel
def B_X10_fog_19 (Q : Int → st_S → Prop)    (σ : st_S) : Prop := wp_X10_refuse (-1) σ (fun r11 s12 => Q r11 s12)
def wp_X10_fog (a1 : Int) (a2 : Int) (σ : st_S) (Q : Int → st_S → Prop) : Prop := (a1 < 0 → B_X10_fog_19 Q σ) ∧ (¬ a1 < 0 → (100 ≤ a1 → B_X10_fog_19 Q σ) ∧ (¬ 100 ≤ a1 → (a2 < 0 → B_X10_fog_19 Q σ) ∧ (¬ a2 < 0 → (a2 ≤ 1 → ix a1 100 ∧ ∀ x15 : Int, x15 = gI σ 32 (Int.toNat a1) → ix a1 100 ∧ ∀ s17 : st_S, s17 = sI σ 32 (Int.toNat a1) a2 → wp_X10_accept x15 s17 (fun r18 s19 => Q r18 s19)) ∧ (¬ a2 ≤ 1 → B_X10_fog_19 Q σ))))
set_option maxRecDepth 20000 in
theorem jb_X10_fog_19 {X : jj_X} {E : ev_E} {n0 hN : Nat} (hc : Cx X E cX10_fog 4 n0 hN RX10) (hm : eM E = 1) (hr : (xT X).sig.returnType = (some .int)) (hh : 2 ≤ hN) {Q : Int → st_S → Prop} {σ : st_S} (h : B_X10_fog_19 Q σ) : J X E 4 n0 0 0 (MQ (xB X) (qI E (n0 + 0) Q) (xA X) (xS X) 0 0 (eF E)) σ 19 [(0, vR E 0)] [] := by
  have hh1 : 1 ≤ hN := by omega
  replace h : wp_X10_refuse (-1) σ (fun r11 s12 => Q r11 s12) := h
  refine j_aload_nR hc 0 dX10_fog_19 rfl rfl ?_
  refine j_iconst hc dX10_fog_20 ?_
  refine j_vI hc (k := 10) (by decide) (fun hv => Or.inl (sv_k hv hm rfl)) ml_RX10_96 mv_X10_refuse (As := [vI (-1)]) (c_X10_refuse (cx_E hc) hm (wlit (-1) (by decide)) h) rfl (by omega) (by decide) ⟨Nat.zero_le _, Nat.zero_le _⟩ (Nat.le_of_ble_eq_true rfl) rfl dX10_fog_21 (fun r11 s12 cr11 h => ?_)
  exact j_iret hc hr cr11 h dX10_fog_24
set_option maxRecDepth 20000 in
theorem c_X10_fog {l : Launch} {E : ev_E} (hE : Eok E) (hm : eM E = 1) {a1 : Int} {a2 : Int} (ca1 : wr a1 = a1) (ca2 : wr a2 = a2) {σ : st_S} {Q : Int → st_S → Prop} (h : wp_X10_fog a1 a2 σ Q) : cM l yX10_fog cX10_fog 4 (some .int) E 2 0 0 [vR E 0, vI a1, vI a2] σ (qI E (gN σ + 0) Q) := by
  refine cM_of (lv := [(0, vR E 0), (1, vI a1), (2, vI a2)]) (by decide) hE (Nat.le_of_ble_eq_true rfl) (rfl) ?_
  intro X hX hc _ _ hr _ _
  subst hX
  have hh : 2 ≤ 2 := Nat.le_refl _
  have hh1 : 1 ≤ 2 := by omega
  replace h : (a1 < 0 → B_X10_fog_19 Q σ) ∧ (¬ a1 < 0 → (100 ≤ a1 → B_X10_fog_19 Q σ) ∧ (¬ 100 ≤ a1 → (a2 < 0 → B_X10_fog_19 Q σ) ∧ (¬ a2 < 0 → (a2 ≤ 1 → ix a1 100 ∧ ∀ x15 : Int, x15 = gI σ 32 (Int.toNat a1) → ix a1 100 ∧ ∀ s17 : st_S, s17 = sI σ 32 (Int.toNat a1) a2 → wp_X10_accept x15 s17 (fun r18 s19 => Q r18 s19)) ∧ (¬ a2 ≤ 1 → B_X10_fog_19 Q σ)))) := h
  refine j_iload_n hc 1 dX10_fog_0 rfl rfl ?_
  refine j_if_lt hc ca1 (tgt := 19) dX10_fog_1 (by decide) (fun q23 => ?_) (fun q23 => ?_)
  · replace h := h.1 q23
    refine j_sub (lv' := [(0, vR E 0)]) [0] rfl ?_
    exact jb_X10_fog_19 hc hm hr hh h
  · replace h := h.2 q23
    refine j_iload_n hc 1 dX10_fog_4 rfl rfl ?_
    refine j_bipush hc dX10_fog_5 (by decide) ?_
    refine j_ic_ge hc ca1 (wlit 100 (by decide)) (tgt := 19) dX10_fog_7 (by decide) (fun q22 => ?_) (fun q22 => ?_)
    · replace h := h.1 q22
      refine j_sub (lv' := [(0, vR E 0)]) [0] rfl ?_
      exact jb_X10_fog_19 hc hm hr hh h
    · replace h := h.2 q22
      refine j_iload_n hc 2 dX10_fog_10 rfl rfl ?_
      refine j_if_lt hc ca2 (tgt := 19) dX10_fog_11 (by decide) (fun q21 => ?_) (fun q21 => ?_)
      · replace h := h.1 q21
        refine j_sub (lv' := [(0, vR E 0)]) [0] rfl ?_
        exact jb_X10_fog_19 hc hm hr hh h
      · replace h := h.2 q21
        refine j_iload_n hc 2 dX10_fog_14 rfl rfl ?_
        refine j_iconst hc dX10_fog_15 ?_
        refine j_ic_le hc ca2 (wlit 1 (by decide)) (tgt := 25) dX10_fog_16 (by decide) (fun q20 => ?_) (fun q20 => ?_)
        · replace h := h.1 q20
          refine j_aload_nR hc 0 dX10_fog_25 rfl rfl ?_
          refine j_getR (c' := 25) hc fl_RX10_56 rfl rfl (fun hv => (sv_k hv hm rfl)) dX10_fog_26 ?_
          refine j_getR (c' := 32) hc fl_RX10_139 rfl rfl (fun hv => (sv_k hv hm rfl)) dX10_fog_29 ?_
          refine j_iload_n hc 1 dX10_fog_32 rfl rfl ?_
          obtain ⟨b13, h⟩ := h
          refine j_iald (jn := (Int.toNat a1)) hc (fun hv => sv_kl hv hm rfl) ca1 b13 rfl dX10_fog_33 (fun cn14 => ?_)
          refine j_c cn14 (fun x15 ex15 cx15 => ?_)
          replace h := h x15 ex15
          refine j_istore_n (lv' := [(3, vI x15), (0, vR E 0), (1, vI a1), (2, vI a2)]) hc dX10_fog_34 rfl (by decide) rfl ?_
          refine j_aload_nR hc 1 dX10_fog_35 rfl rfl ?_
          refine j_getR (c' := 25) hc fl_RX10_56 rfl rfl (fun hv => (sv_k hv hm rfl)) dX10_fog_36 ?_
          refine j_getR (c' := 32) hc fl_RX10_139 rfl rfl (fun hv => (sv_k hv hm rfl)) dX10_fog_39 ?_
          refine j_iload_n hc 2 dX10_fog_42 rfl rfl ?_
          refine j_iload_n hc 3 dX10_fog_43 rfl rfl ?_
          obtain ⟨b16, h⟩ := h
          refine j_iast (jn := (Int.toNat a1)) hc (fun hv => sv_kl hv hm rfl) ca1 b16 rfl ca2 dX10_fog_44 (fun s17 es17 => ?_)
          replace h := h s17 es17
          refine j_aload_nR hc 1 dX10_fog_45 rfl rfl ?_
          refine j_iload_n hc 0 dX10_fog_46 rfl rfl ?_
          refine j_vI hc (k := 10) (by decide) (fun hv => Or.inl (sv_k hv hm rfl)) ml_RX10_111 mv_X10_accept (As := [vI x15]) (c_X10_accept (cx_E hc) hm cx15 h) rfl (by omega) (by decide) ⟨Nat.zero_le _, Nat.zero_le _⟩ (Nat.le_of_ble_eq_true rfl) rfl dX10_fog_47 (fun r18 s19 cr18 h => ?_)
          exact j_iret hc hr cr18 h dX10_fog_50
        · replace h := h.2 q20
          refine j_sub (lv' := [(0, vR E 0)]) [0] rfl ?_
          exact jb_X10_fog_19 hc hm hr hh h
-- LitStrangers.mostOfTerm(I)I
theorem dX10_mostOfTerm_0 : decode cX10_mostOfTerm 0 = .ok (.iload_n 0, 1) := by decide +kernel
theorem dX10_mostOfTerm_1 : decode cX10_mostOfTerm 1 = .ok (.ifCond .ne 9, 3) := by decide +kernel
theorem dX10_mostOfTerm_4 : decode cX10_mostOfTerm 4 = .ok (.sipush 999, 3) := by decide +kernel
theorem dX10_mostOfTerm_7 : decode cX10_mostOfTerm 7 = .ok (.goto 15, 3) := by decide +kernel
theorem dX10_mostOfTerm_10 : decode cX10_mostOfTerm 10 = .ok (.iload_n 0, 1) := by decide +kernel
theorem dX10_mostOfTerm_11 : decode cX10_mostOfTerm 11 = .ok (.iconst 1, 1) := by decide +kernel
theorem dX10_mostOfTerm_12 : decode cX10_mostOfTerm 12 = .ok (.if_icmp .ne 8, 3) := by decide +kernel
theorem dX10_mostOfTerm_15 : decode cX10_mostOfTerm 15 = .ok (.bipush 10, 2) := by decide +kernel
theorem dX10_mostOfTerm_17 : decode cX10_mostOfTerm 17 = .ok (.goto 5, 3) := by decide +kernel
theorem dX10_mostOfTerm_20 : decode cX10_mostOfTerm 20 = .ok (.bipush 9, 2) := by decide +kernel
theorem dX10_mostOfTerm_22 : decode cX10_mostOfTerm 22 = .ok (.ireturn, 1) := by decide +kernel
def B_X10_mostOfTerm_22 (Q : Int → st_S → Prop)   (v0 : Int) (σ : st_S) : Prop := Q v0 σ
def wp_X10_mostOfTerm (a1 : Int) (σ : st_S) (Q : Int → st_S → Prop) : Prop := (¬ a1 = 0 → (¬ a1 = 1 → B_X10_mostOfTerm_22 Q 9 σ) ∧ (a1 = 1 → B_X10_mostOfTerm_22 Q 10 σ)) ∧ (a1 = 0 → B_X10_mostOfTerm_22 Q 999 σ)
set_option maxRecDepth 20000 in
theorem jb_X10_mostOfTerm_22 {X : jj_X} {E : ev_E} {n0 hN : Nat} (hc : Cx X E cX10_mostOfTerm 1 n0 hN RX10) (hm : eM E = 1) (hr : (xT X).sig.returnType = (some .int)) (hh : 1 ≤ hN) {Q : Int → st_S → Prop} {v0 : Int} (cv0 : wr v0 = v0) {σ : st_S} (h : B_X10_mostOfTerm_22 Q v0 σ) : J X E 1 n0 0 0 (MQ (xB X) (qI E (n0 + 0) Q) (xA X) (xS X) 0 0 (eF E)) σ 22 [] [vI v0] := by
  have hh1 : 1 ≤ hN := by omega
  replace h : Q v0 σ := h
  exact j_iret hc hr cv0 h dX10_mostOfTerm_22
set_option maxRecDepth 20000 in
theorem c_X10_mostOfTerm {l : Launch} {E : ev_E} (hE : Eok E) (hm : eM E = 1) {a1 : Int} (ca1 : wr a1 = a1) {σ : st_S} {Q : Int → st_S → Prop} (h : wp_X10_mostOfTerm a1 σ Q) : cM l yX10_mostOfTerm cX10_mostOfTerm 1 (some .int) E 1 0 0 [vI a1] σ (qI E (gN σ + 0) Q) := by
  refine cM_of (lv := [(0, vI a1)]) (by decide) hE (Nat.le_of_ble_eq_true rfl) (rfl) ?_
  intro X hX hc _ _ hr _ _
  subst hX
  have hh : 1 ≤ 1 := Nat.le_refl _
  have hh1 : 1 ≤ 1 := by omega
  replace h : (¬ a1 = 0 → (¬ a1 = 1 → B_X10_mostOfTerm_22 Q 9 σ) ∧ (a1 = 1 → B_X10_mostOfTerm_22 Q 10 σ)) ∧ (a1 = 0 → B_X10_mostOfTerm_22 Q 999 σ) := h
  refine j_iload_n hc 0 dX10_mostOfTerm_0 rfl rfl ?_
  refine j_if_ne hc ca1 (tgt := 10) dX10_mostOfTerm_1 (by decide) (fun q2 => ?_) (fun q2 => ?_)
  · replace h := h.1 q2
    refine j_iload_n hc 0 dX10_mostOfTerm_10 rfl rfl ?_
    refine j_iconst hc dX10_mostOfTerm_11 ?_
    refine j_ic_ne hc ca1 (wlit 1 (by decide)) (tgt := 20) dX10_mostOfTerm_12 (by decide) (fun q1 => ?_) (fun q1 => ?_)
    · replace h := h.1 q1
      refine j_bipush hc dX10_mostOfTerm_20 (by decide) ?_
      refine j_sub (lv' := []) [] rfl ?_
      exact jb_X10_mostOfTerm_22 hc hm hr hh (wlit 9 (by decide)) h
    · replace h := h.2 q1
      refine j_bipush hc dX10_mostOfTerm_15 (by decide) ?_
      refine j_goto (tgt := 22) hc dX10_mostOfTerm_17 (by decide) ?_
      refine j_sub (lv' := []) [] rfl ?_
      exact jb_X10_mostOfTerm_22 hc hm hr hh (wlit 10 (by decide)) h
  · replace h := h.2 q2
    refine j_sipush hc dX10_mostOfTerm_4 (by decide) ?_
    refine j_goto (tgt := 22) hc dX10_mostOfTerm_7 (by decide) ?_
    refine j_sub (lv' := []) [] rfl ?_
    exact jb_X10_mostOfTerm_22 hc hm hr hh (wlit 999 (by decide)) h
-- LitStrangers.terms(II)I
theorem dX10_terms_0 : decode cX10_terms 0 = .ok (.iload_n 1, 1) := by decide +kernel
theorem dX10_terms_1 : decode cX10_terms 1 = .ok (.ifCond .lt 20, 3) := by decide +kernel
theorem dX10_terms_4 : decode cX10_terms 4 = .ok (.iload_n 1, 1) := by decide +kernel
theorem dX10_terms_5 : decode cX10_terms 5 = .ok (.iconst 3, 1) := by decide +kernel
theorem dX10_terms_6 : decode cX10_terms 6 = .ok (.if_icmp .ge 15, 3) := by decide +kernel
theorem dX10_terms_9 : decode cX10_terms 9 = .ok (.iload_n 2, 1) := by decide +kernel
theorem dX10_terms_10 : decode cX10_terms 10 = .ok (.ifCond .lt 11, 3) := by decide +kernel
theorem dX10_terms_13 : decode cX10_terms 13 = .ok (.iload_n 2, 1) := by decide +kernel
theorem dX10_terms_14 : decode cX10_terms 14 = .ok (.iload_n 1, 1) := by decide +kernel
theorem dX10_terms_15 : decode cX10_terms 15 = .ok (.invokestatic 142, 3) := by decide +kernel
theorem dX10_terms_18 : decode cX10_terms 18 = .ok (.if_icmp .le 9, 3) := by decide +kernel
theorem dX10_terms_21 : decode cX10_terms 21 = .ok (.aload_n 0, 1) := by decide +kernel
theorem dX10_terms_22 : decode cX10_terms 22 = .ok (.iconst (-1), 1) := by decide +kernel
theorem dX10_terms_23 : decode cX10_terms 23 = .ok (.invokevirtual 96, 3) := by decide +kernel
theorem dX10_terms_26 : decode cX10_terms 26 = .ok (.ireturn, 1) := by decide +kernel
theorem dX10_terms_27 : decode cX10_terms 27 = .ok (.iload_n 1, 1) := by decide +kernel
theorem dX10_terms_28 : decode cX10_terms 28 = .ok (.ifCond .ne 20, 3) := by decide +kernel
theorem dX10_terms_31 : decode cX10_terms 31 = .ok (.aload_n 0, 1) := by decide +kernel
theorem dX10_terms_32 : decode cX10_terms 32 = .ok (.getfield 56, 3) := by decide +kernel
theorem dX10_terms_35 : decode cX10_terms 35 = .ok (.invokevirtual 145, 3) := by decide +kernel
theorem dX10_terms_38 : decode cX10_terms 38 = .ok (.ifCond .eq 10, 3) := by decide +kernel
theorem dX10_terms_41 : decode cX10_terms 41 = .ok (.aload_n 0, 1) := by decide +kernel
theorem dX10_terms_42 : decode cX10_terms 42 = .ok (.bipush (-3), 2) := by decide +kernel
theorem dX10_terms_44 : decode cX10_terms 44 = .ok (.invokevirtual 96, 3) := by decide +kernel
theorem dX10_terms_47 : decode cX10_terms 47 = .ok (.ireturn, 1) := by decide +kernel
theorem dX10_terms_48 : decode cX10_terms 48 = .ok (.aload_n 0, 1) := by decide +kernel
theorem dX10_terms_49 : decode cX10_terms 49 = .ok (.getfield 56, 3) := by decide +kernel
theorem dX10_terms_52 : decode cX10_terms 52 = .ok (.getfield 149, 3) := by decide +kernel
theorem dX10_terms_55 : decode cX10_terms 55 = .ok (.iload_n 1, 1) := by decide +kernel
theorem dX10_terms_56 : decode cX10_terms 56 = .ok (.iaload, 1) := by decide +kernel
theorem dX10_terms_57 : decode cX10_terms 57 = .ok (.istore_n 3, 1) := by decide +kernel
theorem dX10_terms_58 : decode cX10_terms 58 = .ok (.aload_n 0, 1) := by decide +kernel
theorem dX10_terms_59 : decode cX10_terms 59 = .ok (.getfield 56, 3) := by decide +kernel
theorem dX10_terms_62 : decode cX10_terms 62 = .ok (.getfield 149, 3) := by decide +kernel
theorem dX10_terms_65 : decode cX10_terms 65 = .ok (.iload_n 1, 1) := by decide +kernel
theorem dX10_terms_66 : decode cX10_terms 66 = .ok (.iload_n 2, 1) := by decide +kernel
theorem dX10_terms_67 : decode cX10_terms 67 = .ok (.iastore, 1) := by decide +kernel
theorem dX10_terms_68 : decode cX10_terms 68 = .ok (.aload_n 0, 1) := by decide +kernel
theorem dX10_terms_69 : decode cX10_terms 69 = .ok (.getfield 63, 3) := by decide +kernel
theorem dX10_terms_72 : decode cX10_terms 72 = .ok (.invokevirtual 104, 3) := by decide +kernel
theorem dX10_terms_75 : decode cX10_terms 75 = .ok (.aload_n 0, 1) := by decide +kernel
theorem dX10_terms_76 : decode cX10_terms 76 = .ok (.iload_n 3, 1) := by decide +kernel
theorem dX10_terms_77 : decode cX10_terms 77 = .ok (.invokevirtual 111, 3) := by decide +kernel
theorem dX10_terms_80 : decode cX10_terms 80 = .ok (.ireturn, 1) := by decide +kernel
def B_X10_terms_21 (Q : Int → st_S → Prop)    (σ : st_S) : Prop := wp_X10_refuse (-1) σ (fun r19 s20 => Q r19 s20)
def B_X10_terms_48 (Q : Int → st_S → Prop)   (l1 : Int) (l2 : Int) (σ : st_S) : Prop := ix l1 3 ∧ ∀ x23 : Int, x23 = gI σ 33 (Int.toNat l1) → ix l1 3 ∧ ∀ s25 : st_S, s25 = sI σ 33 (Int.toNat l1) l2 → wp_X4_clear s25 (fun s27 => wp_X10_accept x23 s27 (fun r28 s29 => Q r28 s29))
def wp_X10_terms (a1 : Int) (a2 : Int) (σ : st_S) (Q : Int → st_S → Prop) : Prop := (a1 < 0 → B_X10_terms_21 Q σ) ∧ (¬ a1 < 0 → (3 ≤ a1 → B_X10_terms_21 Q σ) ∧ (¬ 3 ≤ a1 → (a2 < 0 → B_X10_terms_21 Q σ) ∧ (¬ a2 < 0 → wp_X10_mostOfTerm a1 σ (fun r30 s31 => (a2 ≤ r30 → (¬ a1 = 0 → B_X10_terms_48 Q a1 a2 s31) ∧ (a1 = 0 → wp_X1_anyOnRoad s31 (fun r32 s33 => (r32 = 0 → B_X10_terms_48 Q a1 a2 s33) ∧ (¬ r32 = 0 → wp_X10_refuse (-3) s33 (fun r34 s35 => Q r34 s35))))) ∧ (¬ a2 ≤ r30 → B_X10_terms_21 Q s31)))))
set_option maxRecDepth 20000 in
theorem jb_X10_terms_21 {X : jj_X} {E : ev_E} {n0 hN : Nat} (hc : Cx X E cX10_terms 4 n0 hN RX10) (hm : eM E = 1) (hr : (xT X).sig.returnType = (some .int)) (hh : 2 ≤ hN) {Q : Int → st_S → Prop} {σ : st_S} (h : B_X10_terms_21 Q σ) : J X E 4 n0 0 0 (MQ (xB X) (qI E (n0 + 0) Q) (xA X) (xS X) 0 0 (eF E)) σ 21 [(0, vR E 0)] [] := by
  have hh1 : 1 ≤ hN := by omega
  replace h : wp_X10_refuse (-1) σ (fun r19 s20 => Q r19 s20) := h
  refine j_aload_nR hc 0 dX10_terms_21 rfl rfl ?_
  refine j_iconst hc dX10_terms_22 ?_
  refine j_vI hc (k := 10) (by decide) (fun hv => Or.inl (sv_k hv hm rfl)) ml_RX10_96 mv_X10_refuse (As := [vI (-1)]) (c_X10_refuse (cx_E hc) hm (wlit (-1) (by decide)) h) rfl (by omega) (by decide) ⟨Nat.zero_le _, Nat.zero_le _⟩ (Nat.le_of_ble_eq_true rfl) rfl dX10_terms_23 (fun r19 s20 cr19 h => ?_)
  exact j_iret hc hr cr19 h dX10_terms_26
set_option maxRecDepth 20000 in
theorem jb_X10_terms_48 {X : jj_X} {E : ev_E} {n0 hN : Nat} (hc : Cx X E cX10_terms 4 n0 hN RX10) (hm : eM E = 1) (hr : (xT X).sig.returnType = (some .int)) (hh : 2 ≤ hN) {Q : Int → st_S → Prop} {l1 : Int} {l2 : Int} (cl1 : wr l1 = l1) (cl2 : wr l2 = l2) {σ : st_S} (h : B_X10_terms_48 Q l1 l2 σ) : J X E 4 n0 0 0 (MQ (xB X) (qI E (n0 + 0) Q) (xA X) (xS X) 0 0 (eF E)) σ 48 [(0, vR E 0), (1, vI l1), (2, vI l2)] [] := by
  have hh1 : 1 ≤ hN := by omega
  replace h : ix l1 3 ∧ ∀ x23 : Int, x23 = gI σ 33 (Int.toNat l1) → ix l1 3 ∧ ∀ s25 : st_S, s25 = sI σ 33 (Int.toNat l1) l2 → wp_X4_clear s25 (fun s27 => wp_X10_accept x23 s27 (fun r28 s29 => Q r28 s29)) := h
  refine j_aload_nR hc 0 dX10_terms_48 rfl rfl ?_
  refine j_getR (c' := 25) hc fl_RX10_56 rfl rfl (fun hv => (sv_k hv hm rfl)) dX10_terms_49 ?_
  refine j_getR (c' := 33) hc fl_RX10_149 rfl rfl (fun hv => (sv_k hv hm rfl)) dX10_terms_52 ?_
  refine j_iload_n hc 1 dX10_terms_55 rfl rfl ?_
  obtain ⟨b21, h⟩ := h
  refine j_iald (jn := (Int.toNat l1)) hc (fun hv => sv_kl hv hm rfl) cl1 b21 rfl dX10_terms_56 (fun cn22 => ?_)
  refine j_c cn22 (fun x23 ex23 cx23 => ?_)
  replace h := h x23 ex23
  refine j_istore_n (lv' := [(3, vI x23), (0, vR E 0), (1, vI l1), (2, vI l2)]) hc dX10_terms_57 rfl (by decide) rfl ?_
  refine j_aload_nR hc 1 dX10_terms_58 rfl rfl ?_
  refine j_getR (c' := 25) hc fl_RX10_56 rfl rfl (fun hv => (sv_k hv hm rfl)) dX10_terms_59 ?_
  refine j_getR (c' := 33) hc fl_RX10_149 rfl rfl (fun hv => (sv_k hv hm rfl)) dX10_terms_62 ?_
  refine j_iload_n hc 2 dX10_terms_65 rfl rfl ?_
  refine j_iload_n hc 3 dX10_terms_66 rfl rfl ?_
  obtain ⟨b24, h⟩ := h
  refine j_iast (jn := (Int.toNat l1)) hc (fun hv => sv_kl hv hm rfl) cl1 b24 rfl cl2 dX10_terms_67 (fun s25 es25 => ?_)
  replace h := h s25 es25
  refine j_aload_nR hc 1 dX10_terms_68 rfl rfl ?_
  refine j_getR (c' := 39) hc fl_RX10_63 rfl rfl (fun hv => (sv_k hv hm rfl)) dX10_terms_69 ?_
  refine j_vV hc (k := 4) (by decide) (fun hv => Or.inl (sv_k hv hm rfl)) ml_RX10_104 mv_X4_clear (As := []) (c_X4_clear (cx_E hc) hm  h) rfl (by omega) (by decide) ⟨Nat.zero_le _, Nat.zero_le _⟩ (Nat.le_of_ble_eq_true rfl) rfl dX10_terms_72 (fun s27 h => ?_)
  refine j_aload_nR hc 1 dX10_terms_75 rfl rfl ?_
  refine j_iload_n hc 0 dX10_terms_76 rfl rfl ?_
  refine j_vI hc (k := 10) (by decide) (fun hv => Or.inl (sv_k hv hm rfl)) ml_RX10_111 mv_X10_accept (As := [vI x23]) (c_X10_accept (cx_E hc) hm cx23 h) rfl (by omega) (by decide) ⟨Nat.zero_le _, Nat.zero_le _⟩ (Nat.le_of_ble_eq_true rfl) rfl dX10_terms_77 (fun r28 s29 cr28 h => ?_)
  exact j_iret hc hr cr28 h dX10_terms_80
set_option maxRecDepth 20000 in
theorem c_X10_terms {l : Launch} {E : ev_E} (hE : Eok E) (hm : eM E = 1) {a1 : Int} {a2 : Int} (ca1 : wr a1 = a1) (ca2 : wr a2 = a2) {σ : st_S} {Q : Int → st_S → Prop} (h : wp_X10_terms a1 a2 σ Q) : cM l yX10_terms cX10_terms 4 (some .int) E 2 0 0 [vR E 0, vI a1, vI a2] σ (qI E (gN σ + 0) Q) := by
  refine cM_of (lv := [(0, vR E 0), (1, vI a1), (2, vI a2)]) (by decide) hE (Nat.le_of_ble_eq_true rfl) (rfl) ?_
  intro X hX hc _ _ hr _ _
  subst hX
  have hh : 2 ≤ 2 := Nat.le_refl _
  have hh1 : 1 ≤ 2 := by omega
  replace h : (a1 < 0 → B_X10_terms_21 Q σ) ∧ (¬ a1 < 0 → (3 ≤ a1 → B_X10_terms_21 Q σ) ∧ (¬ 3 ≤ a1 → (a2 < 0 → B_X10_terms_21 Q σ) ∧ (¬ a2 < 0 → wp_X10_mostOfTerm a1 σ (fun r30 s31 => (a2 ≤ r30 → (¬ a1 = 0 → B_X10_terms_48 Q a1 a2 s31) ∧ (a1 = 0 → wp_X1_anyOnRoad s31 (fun r32 s33 => (r32 = 0 → B_X10_terms_48 Q a1 a2 s33) ∧ (¬ r32 = 0 → wp_X10_refuse (-3) s33 (fun r34 s35 => Q r34 s35))))) ∧ (¬ a2 ≤ r30 → B_X10_terms_21 Q s31))))) := h
  refine j_iload_n hc 1 dX10_terms_0 rfl rfl ?_
  refine j_if_lt hc ca1 (tgt := 21) dX10_terms_1 (by decide) (fun q41 => ?_) (fun q41 => ?_)
  · replace h := h.1 q41
    refine j_sub (lv' := [(0, vR E 0)]) [0] rfl ?_
    exact jb_X10_terms_21 hc hm hr hh h
  · replace h := h.2 q41
    refine j_iload_n hc 1 dX10_terms_4 rfl rfl ?_
    refine j_iconst hc dX10_terms_5 ?_
    refine j_ic_ge hc ca1 (wlit 3 (by decide)) (tgt := 21) dX10_terms_6 (by decide) (fun q40 => ?_) (fun q40 => ?_)
    · replace h := h.1 q40
      refine j_sub (lv' := [(0, vR E 0)]) [0] rfl ?_
      exact jb_X10_terms_21 hc hm hr hh h
    · replace h := h.2 q40
      refine j_iload_n hc 2 dX10_terms_9 rfl rfl ?_
      refine j_if_lt hc ca2 (tgt := 21) dX10_terms_10 (by decide) (fun q39 => ?_) (fun q39 => ?_)
      · replace h := h.1 q39
        refine j_sub (lv' := [(0, vR E 0)]) [0] rfl ?_
        exact jb_X10_terms_21 hc hm hr hh h
      · replace h := h.2 q39
        refine j_iload_n hc 2 dX10_terms_13 rfl rfl ?_
        refine j_iload_n hc 1 dX10_terms_14 rfl rfl ?_
        refine j_sI hc ml_RX10_142 mv_X10_mostOfTerm (As := [vI a1]) (c_X10_mostOfTerm (cx_E hc) hm ca1 h) rfl (by omega) (by decide) ⟨Nat.zero_le _, Nat.zero_le _⟩ (Nat.le_of_ble_eq_true rfl) rfl dX10_terms_15 (fun r30 s31 cr30 h => ?_)
        refine j_ic_le hc ca2 cr30 (tgt := 27) dX10_terms_18 (by decide) (fun q38 => ?_) (fun q38 => ?_)
        · replace h := h.1 q38
          refine j_iload_n hc 1 dX10_terms_27 rfl rfl ?_
          refine j_if_ne hc ca1 (tgt := 48) dX10_terms_28 (by decide) (fun q37 => ?_) (fun q37 => ?_)
          · replace h := h.1 q37
            refine j_sub (lv' := [(0, vR E 0), (1, vI a1), (2, vI a2)]) [0, 1, 2] rfl ?_
            exact jb_X10_terms_48 hc hm hr hh ca1 ca2 h
          · replace h := h.2 q37
            refine j_aload_nR hc 0 dX10_terms_31 rfl rfl ?_
            refine j_getR (c' := 25) hc fl_RX10_56 rfl rfl (fun hv => (sv_k hv hm rfl)) dX10_terms_32 ?_
            refine j_vI hc (k := 1) (by decide) (fun hv => Or.inl (sv_k hv hm rfl)) ml_RX10_145 mv_X1_anyOnRoad (As := []) (c_X1_anyOnRoad (cx_E hc) hm  h) rfl (by omega) (by decide) ⟨Nat.zero_le _, Nat.zero_le _⟩ (Nat.le_of_ble_eq_true rfl) rfl dX10_terms_35 (fun r32 s33 cr32 h => ?_)
            refine j_if_eq hc cr32 (tgt := 48) dX10_terms_38 (by decide) (fun q36 => ?_) (fun q36 => ?_)
            · replace h := h.1 q36
              refine j_sub (lv' := [(0, vR E 0), (1, vI a1), (2, vI a2)]) [0, 1, 2] rfl ?_
              exact jb_X10_terms_48 hc hm hr hh ca1 ca2 h
            · replace h := h.2 q36
              refine j_aload_nR hc 0 dX10_terms_41 rfl rfl ?_
              refine j_bipush hc dX10_terms_42 (by decide) ?_
              refine j_vI hc (k := 10) (by decide) (fun hv => Or.inl (sv_k hv hm rfl)) ml_RX10_96 mv_X10_refuse (As := [vI (-3)]) (c_X10_refuse (cx_E hc) hm (wlit (-3) (by decide)) h) rfl (by omega) (by decide) ⟨Nat.zero_le _, Nat.zero_le _⟩ (Nat.le_of_ble_eq_true rfl) rfl dX10_terms_44 (fun r34 s35 cr34 h => ?_)
              exact j_iret hc hr cr34 h dX10_terms_47
        · replace h := h.2 q38
          refine j_sub (lv' := [(0, vR E 0)]) [0] rfl ?_
          exact jb_X10_terms_21 hc hm hr hh h
-- LitStrangers.feed(IIIII)I
theorem dX10_feed_0 : decode cX10_feed 0 = .ok (.aload_n 0, 1) := by decide +kernel
theorem dX10_feed_1 : decode cX10_feed 1 = .ok (.getfield 23, 3) := by decide +kernel
theorem dX10_feed_4 : decode cX10_feed 4 = .ok (.getfield 152, 3) := by decide +kernel
theorem dX10_feed_7 : decode cX10_feed 7 = .ok (.bipush 20, 2) := by decide +kernel
theorem dX10_feed_9 : decode cX10_feed 9 = .ok (.iadd, 1) := by decide +kernel
theorem dX10_feed_10 : decode cX10_feed 10 = .ok (.sipush 400, 3) := by decide +kernel
theorem dX10_feed_13 : decode cX10_feed 13 = .ok (.if_icmp .le 5, 3) := by decide +kernel
theorem dX10_feed_16 : decode cX10_feed 16 = .ok (.iconst (-1), 1) := by decide +kernel
theorem dX10_feed_17 : decode cX10_feed 17 = .ok (.ireturn, 1) := by decide +kernel
theorem dX10_feed_18 : decode cX10_feed 18 = .ok (.aload_n 0, 1) := by decide +kernel
theorem dX10_feed_19 : decode cX10_feed 19 = .ok (.getfield 23, 3) := by decide +kernel
theorem dX10_feed_22 : decode cX10_feed 22 = .ok (.iload_n 1, 1) := by decide +kernel
theorem dX10_feed_23 : decode cX10_feed 23 = .ok (.invokevirtual 155, 3) := by decide +kernel
theorem dX10_feed_26 : decode cX10_feed 26 = .ok (.aload_n 0, 1) := by decide +kernel
theorem dX10_feed_27 : decode cX10_feed 27 = .ok (.getfield 23, 3) := by decide +kernel
theorem dX10_feed_30 : decode cX10_feed 30 = .ok (.iload_n 2, 1) := by decide +kernel
theorem dX10_feed_31 : decode cX10_feed 31 = .ok (.invokevirtual 155, 3) := by decide +kernel
theorem dX10_feed_34 : decode cX10_feed 34 = .ok (.aload_n 0, 1) := by decide +kernel
theorem dX10_feed_35 : decode cX10_feed 35 = .ok (.getfield 23, 3) := by decide +kernel
theorem dX10_feed_38 : decode cX10_feed 38 = .ok (.iload_n 3, 1) := by decide +kernel
theorem dX10_feed_39 : decode cX10_feed 39 = .ok (.invokevirtual 155, 3) := by decide +kernel
theorem dX10_feed_42 : decode cX10_feed 42 = .ok (.aload_n 0, 1) := by decide +kernel
theorem dX10_feed_43 : decode cX10_feed 43 = .ok (.getfield 23, 3) := by decide +kernel
theorem dX10_feed_46 : decode cX10_feed 46 = .ok (.iload 4, 2) := by decide +kernel
theorem dX10_feed_48 : decode cX10_feed 48 = .ok (.invokevirtual 155, 3) := by decide +kernel
theorem dX10_feed_51 : decode cX10_feed 51 = .ok (.aload_n 0, 1) := by decide +kernel
theorem dX10_feed_52 : decode cX10_feed 52 = .ok (.getfield 23, 3) := by decide +kernel
theorem dX10_feed_55 : decode cX10_feed 55 = .ok (.iload 5, 2) := by decide +kernel
theorem dX10_feed_57 : decode cX10_feed 57 = .ok (.invokevirtual 155, 3) := by decide +kernel
theorem dX10_feed_60 : decode cX10_feed 60 = .ok (.aload_n 0, 1) := by decide +kernel
theorem dX10_feed_61 : decode cX10_feed 61 = .ok (.getfield 23, 3) := by decide +kernel
theorem dX10_feed_64 : decode cX10_feed 64 = .ok (.getfield 152, 3) := by decide +kernel
theorem dX10_feed_67 : decode cX10_feed 67 = .ok (.ireturn, 1) := by decide +kernel
def wp_X10_feed (a1 : Int) (a2 : Int) (a3 : Int) (a4 : Int) (a5 : Int) (σ : st_S) (Q : Int → st_S → Prop) : Prop := (wr (gI σ 12 1 + 20) ≤ 400 → wp_X6_append a1 σ (fun s15 => wp_X6_append a2 s15 (fun s17 => wp_X6_append a3 s17 (fun s19 => wp_X6_append a4 s19 (fun s21 => wp_X6_append a5 s21 (fun s23 => Q (gI s23 12 1) s23)))))) ∧ (¬ wr (gI σ 12 1 + 20) ≤ 400 → Q (-1) σ)
set_option maxRecDepth 20000 in
theorem c_X10_feed {l : Launch} {E : ev_E} (hE : Eok E) (hm : eM E = 1) {a1 : Int} {a2 : Int} {a3 : Int} {a4 : Int} {a5 : Int} (ca1 : wr a1 = a1) (ca2 : wr a2 = a2) (ca3 : wr a3 = a3) (ca4 : wr a4 = a4) (ca5 : wr a5 = a5) {σ : st_S} {Q : Int → st_S → Prop} (h : wp_X10_feed a1 a2 a3 a4 a5 σ Q) : cM l yX10_feed cX10_feed 6 (some .int) E 2 0 0 [vR E 0, vI a1, vI a2, vI a3, vI a4, vI a5] σ (qI E (gN σ + 0) Q) := by
  refine cM_of (lv := [(0, vR E 0), (1, vI a1), (2, vI a2), (3, vI a3), (4, vI a4), (5, vI a5)]) (by decide) hE (Nat.le_of_ble_eq_true rfl) (rfl) ?_
  intro X hX hc _ _ hr _ _
  subst hX
  have hh : 2 ≤ 2 := Nat.le_refl _
  have hh1 : 1 ≤ 2 := by omega
  replace h : (wr (gI σ 12 1 + 20) ≤ 400 → wp_X6_append a1 σ (fun s15 => wp_X6_append a2 s15 (fun s17 => wp_X6_append a3 s17 (fun s19 => wp_X6_append a4 s19 (fun s21 => wp_X6_append a5 s21 (fun s23 => Q (gI s23 12 1) s23)))))) ∧ (¬ wr (gI σ 12 1 + 20) ≤ 400 → Q (-1) σ) := h
  refine j_aload_nR hc 0 dX10_feed_0 rfl rfl ?_
  refine j_getR (c' := 12) hc fl_RX10_23 rfl rfl (fun hv => (sv_k hv hm rfl)) dX10_feed_1 ?_
  refine j_getI hc fl_RX10_152 (Or.inl rfl) (fun hv => Or.inl (sv_k hv hm rfl)) dX10_feed_4 (fun cn13 => ?_)
  refine j_bipush hc dX10_feed_7 (by decide) ?_
  refine j_iadd hc dX10_feed_9 ?_
  refine j_sipush hc dX10_feed_10 (by decide) ?_
  refine j_ic_le hc rfl (wlit 400 (by decide)) (tgt := 18) dX10_feed_13 (by decide) (fun q25 => ?_) (fun q25 => ?_)
  · replace h := h.1 q25
    refine j_aload_nR hc 0 dX10_feed_18 rfl rfl ?_
    refine j_getR (c' := 12) hc fl_RX10_23 rfl rfl (fun hv => (sv_k hv hm rfl)) dX10_feed_19 ?_
    refine j_iload_n hc 1 dX10_feed_22 rfl rfl ?_
    refine j_vV hc (k := 6) (by decide) (fun hv => Or.inl (sv_k hv hm rfl)) ml_RX10_155 mv_X6_append (As := [vI a1]) (c_X6_append (cx_E hc) hm ca1 h) rfl (by omega) (by decide) ⟨Nat.zero_le _, Nat.zero_le _⟩ (Nat.le_of_ble_eq_true rfl) rfl dX10_feed_23 (fun s15 h => ?_)
    refine j_aload_nR hc 0 dX10_feed_26 rfl rfl ?_
    refine j_getR (c' := 12) hc fl_RX10_23 rfl rfl (fun hv => (sv_k hv hm rfl)) dX10_feed_27 ?_
    refine j_iload_n hc 2 dX10_feed_30 rfl rfl ?_
    refine j_vV hc (k := 6) (by decide) (fun hv => Or.inl (sv_k hv hm rfl)) ml_RX10_155 mv_X6_append (As := [vI a2]) (c_X6_append (cx_E hc) hm ca2 h) rfl (by omega) (by decide) ⟨Nat.zero_le _, Nat.zero_le _⟩ (Nat.le_of_ble_eq_true rfl) rfl dX10_feed_31 (fun s17 h => ?_)
    refine j_aload_nR hc 0 dX10_feed_34 rfl rfl ?_
    refine j_getR (c' := 12) hc fl_RX10_23 rfl rfl (fun hv => (sv_k hv hm rfl)) dX10_feed_35 ?_
    refine j_iload_n hc 3 dX10_feed_38 rfl rfl ?_
    refine j_vV hc (k := 6) (by decide) (fun hv => Or.inl (sv_k hv hm rfl)) ml_RX10_155 mv_X6_append (As := [vI a3]) (c_X6_append (cx_E hc) hm ca3 h) rfl (by omega) (by decide) ⟨Nat.zero_le _, Nat.zero_le _⟩ (Nat.le_of_ble_eq_true rfl) rfl dX10_feed_39 (fun s19 h => ?_)
    refine j_aload_nR hc 0 dX10_feed_42 rfl rfl ?_
    refine j_getR (c' := 12) hc fl_RX10_23 rfl rfl (fun hv => (sv_k hv hm rfl)) dX10_feed_43 ?_
    refine j_iload hc 4 dX10_feed_46 rfl ?_
    refine j_vV hc (k := 6) (by decide) (fun hv => Or.inl (sv_k hv hm rfl)) ml_RX10_155 mv_X6_append (As := [vI a4]) (c_X6_append (cx_E hc) hm ca4 h) rfl (by omega) (by decide) ⟨Nat.zero_le _, Nat.zero_le _⟩ (Nat.le_of_ble_eq_true rfl) rfl dX10_feed_48 (fun s21 h => ?_)
    refine j_aload_nR hc 0 dX10_feed_51 rfl rfl ?_
    refine j_getR (c' := 12) hc fl_RX10_23 rfl rfl (fun hv => (sv_k hv hm rfl)) dX10_feed_52 ?_
    refine j_iload hc 5 dX10_feed_55 rfl ?_
    refine j_vV hc (k := 6) (by decide) (fun hv => Or.inl (sv_k hv hm rfl)) ml_RX10_155 mv_X6_append (As := [vI a5]) (c_X6_append (cx_E hc) hm ca5 h) rfl (by omega) (by decide) ⟨Nat.zero_le _, Nat.zero_le _⟩ (Nat.le_of_ble_eq_true rfl) rfl dX10_feed_57 (fun s23 h => ?_)
    refine j_aload_nR hc 0 dX10_feed_60 rfl rfl ?_
    refine j_getR (c' := 12) hc fl_RX10_23 rfl rfl (fun hv => (sv_k hv hm rfl)) dX10_feed_61 ?_
    refine j_getI hc fl_RX10_152 (Or.inl rfl) (fun hv => Or.inl (sv_k hv hm rfl)) dX10_feed_64 (fun cn24 => ?_)
    exact j_iret hc hr cn24 h dX10_feed_67
  · replace h := h.2 q25
    refine j_iconst hc dX10_feed_16 ?_
    exact j_iret hc hr (wlit (-1) (by decide)) h dX10_feed_17
-- LitStrangers.end(I)I
theorem dX10_end_0 : decode cX10_end 0 = .ok (.iload_n 1, 1) := by decide +kernel
theorem dX10_end_1 : decode cX10_end 1 = .ok (.ifCond .lt 14, 3) := by decide +kernel
theorem dX10_end_4 : decode cX10_end 4 = .ok (.iload_n 1, 1) := by decide +kernel
theorem dX10_end_5 : decode cX10_end 5 = .ok (.aload_n 0, 1) := by decide +kernel
theorem dX10_end_6 : decode cX10_end 6 = .ok (.getfield 23, 3) := by decide +kernel
theorem dX10_end_9 : decode cX10_end 9 = .ok (.getfield 152, 3) := by decide +kernel
theorem dX10_end_12 : decode cX10_end 12 = .ok (.if_icmp .le 5, 3) := by decide +kernel
theorem dX10_end_15 : decode cX10_end 15 = .ok (.iconst (-1), 1) := by decide +kernel
theorem dX10_end_16 : decode cX10_end 16 = .ok (.ireturn, 1) := by decide +kernel
theorem dX10_end_17 : decode cX10_end 17 = .ok (.aload_n 0, 1) := by decide +kernel
theorem dX10_end_18 : decode cX10_end 18 = .ok (.getfield 23, 3) := by decide +kernel
theorem dX10_end_21 : decode cX10_end 21 = .ok (.iload_n 1, 1) := by decide +kernel
theorem dX10_end_22 : decode cX10_end 22 = .ok (.putfield 152, 3) := by decide +kernel
theorem dX10_end_25 : decode cX10_end 25 = .ok (.iload_n 1, 1) := by decide +kernel
theorem dX10_end_26 : decode cX10_end 26 = .ok (.ireturn, 1) := by decide +kernel
def B_X10_end_15 (Q : Int → st_S → Prop)    (σ : st_S) : Prop := Q (-1) σ
def wp_X10_end (a1 : Int) (σ : st_S) (Q : Int → st_S → Prop) : Prop := (a1 < 0 → B_X10_end_15 Q σ) ∧ (¬ a1 < 0 → (a1 ≤ gI σ 12 1 → ∀ s5 : st_S, s5 = sI σ 12 1 a1 → Q a1 s5) ∧ (¬ a1 ≤ gI σ 12 1 → B_X10_end_15 Q σ))
set_option maxRecDepth 20000 in
theorem jb_X10_end_15 {X : jj_X} {E : ev_E} {n0 hN : Nat} (hc : Cx X E cX10_end 2 n0 hN RX10) (hm : eM E = 1) (hr : (xT X).sig.returnType = (some .int)) (hh : 1 ≤ hN) {Q : Int → st_S → Prop} {σ : st_S} (h : B_X10_end_15 Q σ) : J X E 2 n0 0 0 (MQ (xB X) (qI E (n0 + 0) Q) (xA X) (xS X) 0 0 (eF E)) σ 15 [] [] := by
  have hh1 : 1 ≤ hN := by omega
  replace h : Q (-1) σ := h
  refine j_iconst hc dX10_end_15 ?_
  exact j_iret hc hr (wlit (-1) (by decide)) h dX10_end_16
set_option maxRecDepth 20000 in
theorem c_X10_end {l : Launch} {E : ev_E} (hE : Eok E) (hm : eM E = 1) {a1 : Int} (ca1 : wr a1 = a1) {σ : st_S} {Q : Int → st_S → Prop} (h : wp_X10_end a1 σ Q) : cM l yX10_end cX10_end 2 (some .int) E 1 0 0 [vR E 0, vI a1] σ (qI E (gN σ + 0) Q) := by
  refine cM_of (lv := [(0, vR E 0), (1, vI a1)]) (by decide) hE (Nat.le_of_ble_eq_true rfl) (rfl) ?_
  intro X hX hc _ _ hr _ _
  subst hX
  have hh : 1 ≤ 1 := Nat.le_refl _
  have hh1 : 1 ≤ 1 := by omega
  replace h : (a1 < 0 → B_X10_end_15 Q σ) ∧ (¬ a1 < 0 → (a1 ≤ gI σ 12 1 → ∀ s5 : st_S, s5 = sI σ 12 1 a1 → Q a1 s5) ∧ (¬ a1 ≤ gI σ 12 1 → B_X10_end_15 Q σ)) := h
  refine j_iload_n hc 1 dX10_end_0 rfl rfl ?_
  refine j_if_lt hc ca1 (tgt := 15) dX10_end_1 (by decide) (fun q7 => ?_) (fun q7 => ?_)
  · replace h := h.1 q7
    refine j_sub (lv' := []) [] rfl ?_
    exact jb_X10_end_15 hc hm hr hh h
  · replace h := h.2 q7
    refine j_iload_n hc 1 dX10_end_4 rfl rfl ?_
    refine j_aload_nR hc 0 dX10_end_5 rfl rfl ?_
    refine j_getR (c' := 12) hc fl_RX10_23 rfl rfl (fun hv => (sv_k hv hm rfl)) dX10_end_6 ?_
    refine j_getI hc fl_RX10_152 (Or.inl rfl) (fun hv => Or.inl (sv_k hv hm rfl)) dX10_end_9 (fun cn4 => ?_)
    refine j_ic_le hc ca1 cn4 (tgt := 17) dX10_end_12 (by decide) (fun q6 => ?_) (fun q6 => ?_)
    · replace h := h.1 q6
      refine j_aload_nR hc 0 dX10_end_17 rfl rfl ?_
      refine j_getR (c' := 12) hc fl_RX10_23 rfl rfl (fun hv => (sv_k hv hm rfl)) dX10_end_18 ?_
      refine j_iload_n hc 1 dX10_end_21 rfl rfl ?_
      refine j_putI hc fl_RX10_152 rfl rfl (fun hv => Or.inl (sv_k hv hm rfl)) ca1 dX10_end_22 (fun s5 es5 => ?_)
      replace h := h s5 es5
      refine j_iload_n hc 1 dX10_end_25 rfl rfl ?_
      exact j_iret hc hr ca1 h dX10_end_26
    · replace h := h.2 q6
      refine j_sub (lv' := []) [] rfl ?_
      exact jb_X10_end_15 hc hm hr hh h
-- LitStrangers.joins(III)Z
theorem dX10_joins_0 : decode cX10_joins 0 = .ok (.aload_n 0, 1) := by decide +kernel
theorem dX10_joins_1 : decode cX10_joins 1 = .ok (.getfield 56, 3) := by decide +kernel
theorem dX10_joins_4 : decode cX10_joins 4 = .ok (.getfield 100, 3) := by decide +kernel
theorem dX10_joins_7 : decode cX10_joins 7 = .ok (.bipush 10, 2) := by decide +kernel
theorem dX10_joins_9 : decode cX10_joins 9 = .ok (.if_icmp .ge 12, 3) := by decide +kernel
theorem dX10_joins_12 : decode cX10_joins 12 = .ok (.iload_n 1, 1) := by decide +kernel
theorem dX10_joins_13 : decode cX10_joins 13 = .ok (.iload_n 2, 1) := by decide +kernel
theorem dX10_joins_14 : decode cX10_joins 14 = .ok (.iload_n 3, 1) := by decide +kernel
theorem dX10_joins_15 : decode cX10_joins 15 = .ok (.invokestatic 92, 3) := by decide +kernel
theorem dX10_joins_18 : decode cX10_joins 18 = .ok (.ifCond .ne 5, 3) := by decide +kernel
theorem dX10_joins_21 : decode cX10_joins 21 = .ok (.iconst 0, 1) := by decide +kernel
theorem dX10_joins_22 : decode cX10_joins 22 = .ok (.ireturn, 1) := by decide +kernel
theorem dX10_joins_23 : decode cX10_joins 23 = .ok (.aload_n 0, 1) := by decide +kernel
theorem dX10_joins_24 : decode cX10_joins 24 = .ok (.getfield 56, 3) := by decide +kernel
theorem dX10_joins_27 : decode cX10_joins 27 = .ok (.iload_n 1, 1) := by decide +kernel
theorem dX10_joins_28 : decode cX10_joins 28 = .ok (.iload_n 2, 1) := by decide +kernel
theorem dX10_joins_29 : decode cX10_joins 29 = .ok (.iload_n 3, 1) := by decide +kernel
theorem dX10_joins_30 : decode cX10_joins 30 = .ok (.invokevirtual 107, 3) := by decide +kernel
theorem dX10_joins_33 : decode cX10_joins 33 = .ok (.pop, 1) := by decide +kernel
theorem dX10_joins_34 : decode cX10_joins 34 = .ok (.iconst 1, 1) := by decide +kernel
theorem dX10_joins_35 : decode cX10_joins 35 = .ok (.ireturn, 1) := by decide +kernel
def B_X10_joins_21 (Q : Int → st_S → Prop)    (σ : st_S) : Prop := Q 0 σ
def wp_X10_joins (a1 : Int) (a2 : Int) (a3 : Int) (σ : st_S) (Q : Int → st_S → Prop) : Prop := (10 ≤ gI σ 25 0 → B_X10_joins_21 Q σ) ∧ (¬ 10 ≤ gI σ 25 0 → wp_X10_canBe a1 a2 a3 σ (fun r7 s8 => (¬ r7 = 0 → wp_X1_join a1 a2 a3 s8 (fun r9 s10 => Q 1 s10)) ∧ (r7 = 0 → B_X10_joins_21 Q s8)))
set_option maxRecDepth 20000 in
theorem jb_X10_joins_21 {X : jj_X} {E : ev_E} {n0 hN : Nat} (hc : Cx X E cX10_joins 4 n0 hN RX10) (hm : eM E = 1) (hr : (xT X).sig.returnType = (some .boolean)) (hh : 2 ≤ hN) {Q : Int → st_S → Prop} {σ : st_S} (h : B_X10_joins_21 Q σ) : J X E 4 n0 0 0 (MQ (xB X) (qI E (n0 + 0) Q) (xA X) (xS X) 0 0 (eF E)) σ 21 [] [] := by
  have hh1 : 1 ≤ hN := by omega
  replace h : Q 0 σ := h
  refine j_iconst hc dX10_joins_21 ?_
  exact j_zret hc hr (nar_bool (Or.inl rfl)) (by decide) h dX10_joins_22
set_option maxRecDepth 20000 in
theorem c_X10_joins {l : Launch} {E : ev_E} (hE : Eok E) (hm : eM E = 1) {a1 : Int} {a2 : Int} {a3 : Int} (ca1 : wr a1 = a1) (ca2 : wr a2 = a2) (ca3 : wr a3 = a3) {σ : st_S} {Q : Int → st_S → Prop} (h : wp_X10_joins a1 a2 a3 σ Q) : cM l yX10_joins cX10_joins 4 (some .boolean) E 2 0 0 [vR E 0, vI a1, vI a2, vI a3] σ (qI E (gN σ + 0) Q) := by
  refine cM_of (lv := [(0, vR E 0), (1, vI a1), (2, vI a2), (3, vI a3)]) (by decide) hE (Nat.le_of_ble_eq_true rfl) (rfl) ?_
  intro X hX hc _ _ hr _ _
  subst hX
  have hh : 2 ≤ 2 := Nat.le_refl _
  have hh1 : 1 ≤ 2 := by omega
  replace h : (10 ≤ gI σ 25 0 → B_X10_joins_21 Q σ) ∧ (¬ 10 ≤ gI σ 25 0 → wp_X10_canBe a1 a2 a3 σ (fun r7 s8 => (¬ r7 = 0 → wp_X1_join a1 a2 a3 s8 (fun r9 s10 => Q 1 s10)) ∧ (r7 = 0 → B_X10_joins_21 Q s8))) := h
  refine j_aload_nR hc 0 dX10_joins_0 rfl rfl ?_
  refine j_getR (c' := 25) hc fl_RX10_56 rfl rfl (fun hv => (sv_k hv hm rfl)) dX10_joins_1 ?_
  refine j_getI hc fl_RX10_100 (Or.inl rfl) (fun hv => Or.inl (sv_k hv hm rfl)) dX10_joins_4 (fun cn6 => ?_)
  refine j_bipush hc dX10_joins_7 (by decide) ?_
  refine j_ic_ge hc cn6 (wlit 10 (by decide)) (tgt := 21) dX10_joins_9 (by decide) (fun q12 => ?_) (fun q12 => ?_)
  · replace h := h.1 q12
    refine j_sub (lv' := []) [] rfl ?_
    exact jb_X10_joins_21 hc hm hr hh h
  · replace h := h.2 q12
    refine j_iload_n hc 1 dX10_joins_12 rfl rfl ?_
    refine j_iload_n hc 2 dX10_joins_13 rfl rfl ?_
    refine j_iload_n hc 3 dX10_joins_14 rfl rfl ?_
    refine j_sI hc ml_RX10_92 mv_X10_canBe (As := [vI a1, vI a2, vI a3]) (c_X10_canBe (cx_E hc) hm ca1 ca2 ca3 h) rfl (by omega) (by decide) ⟨Nat.zero_le _, Nat.zero_le _⟩ (Nat.le_of_ble_eq_true rfl) rfl dX10_joins_15 (fun r7 s8 cr7 h => ?_)
    refine j_if_ne hc cr7 (tgt := 23) dX10_joins_18 (by decide) (fun q11 => ?_) (fun q11 => ?_)
    · replace h := h.1 q11
      refine j_aload_nR hc 0 dX10_joins_23 rfl rfl ?_
      refine j_getR (c' := 25) hc fl_RX10_56 rfl rfl (fun hv => (sv_k hv hm rfl)) dX10_joins_24 ?_
      refine j_iload_n hc 1 dX10_joins_27 rfl rfl ?_
      refine j_iload_n hc 2 dX10_joins_28 rfl rfl ?_
      refine j_iload_n hc 3 dX10_joins_29 rfl rfl ?_
      refine j_vI hc (k := 1) (by decide) (fun hv => Or.inl (sv_k hv hm rfl)) ml_RX10_107 mv_X1_join (As := [vI a1, vI a2, vI a3]) (c_X1_join (cx_E hc) hm ca1 ca2 ca3 h) rfl (by omega) (by decide) ⟨Nat.zero_le _, Nat.zero_le _⟩ (Nat.le_of_ble_eq_true rfl) rfl dX10_joins_30 (fun r9 s10 cr9 h => ?_)
      refine j_pop hc dX10_joins_33 rfl ?_
      refine j_iconst hc dX10_joins_34 ?_
      exact j_zret hc hr (nar_bool (Or.inr rfl)) (by decide) h dX10_joins_35
    · replace h := h.2 q11
      refine j_sub (lv' := []) [] rfl ?_
      exact jb_X10_joins_21 hc hm hr hh h
-- LitStrangers.row()I
theorem dX10_row_0 : decode cX10_row 0 = .ok (.aload_n 0, 1) := by decide +kernel
theorem dX10_row_1 : decode cX10_row 1 = .ok (.getfield 23, 3) := by decide +kernel
theorem dX10_row_4 : decode cX10_row 4 = .ok (.getfield 152, 3) := by decide +kernel
theorem dX10_row_7 : decode cX10_row 7 = .ok (.istore_n 1, 1) := by decide +kernel
theorem dX10_row_8 : decode cX10_row 8 = .ok (.iload_n 1, 1) := by decide +kernel
theorem dX10_row_9 : decode cX10_row 9 = .ok (.ifCond .ne 10, 3) := by decide +kernel
theorem dX10_row_12 : decode cX10_row 12 = .ok (.aload_n 0, 1) := by decide +kernel
theorem dX10_row_13 : decode cX10_row 13 = .ok (.bipush (-6), 2) := by decide +kernel
theorem dX10_row_15 : decode cX10_row 15 = .ok (.invokevirtual 96, 3) := by decide +kernel
theorem dX10_row_18 : decode cX10_row 18 = .ok (.ireturn, 1) := by decide +kernel
theorem dX10_row_19 : decode cX10_row 19 = .ok (.aload_n 0, 1) := by decide +kernel
theorem dX10_row_20 : decode cX10_row 20 = .ok (.getfield 23, 3) := by decide +kernel
theorem dX10_row_23 : decode cX10_row 23 = .ok (.iconst 0, 1) := by decide +kernel
theorem dX10_row_24 : decode cX10_row 24 = .ok (.putfield 152, 3) := by decide +kernel
theorem dX10_row_27 : decode cX10_row 27 = .ok (.iconst 0, 1) := by decide +kernel
theorem dX10_row_28 : decode cX10_row 28 = .ok (.istore_n 2, 1) := by decide +kernel
theorem dX10_row_29 : decode cX10_row 29 = .ok (.iconst 0, 1) := by decide +kernel
theorem dX10_row_30 : decode cX10_row 30 = .ok (.istore_n 3, 1) := by decide +kernel
theorem dX10_row_31 : decode cX10_row 31 = .ok (.iconst 0, 1) := by decide +kernel
theorem dX10_row_32 : decode cX10_row 32 = .ok (.istore 4, 2) := by decide +kernel
theorem dX10_row_34 : decode cX10_row 34 = .ok (.iload 4, 2) := by decide +kernel
theorem dX10_row_36 : decode cX10_row 36 = .ok (.iload_n 1, 1) := by decide +kernel
theorem dX10_row_37 : decode cX10_row 37 = .ok (.if_icmp .ge 67, 3) := by decide +kernel
theorem dX10_row_40 : decode cX10_row 40 = .ok (.iload 4, 2) := by decide +kernel
theorem dX10_row_42 : decode cX10_row 42 = .ok (.iconst 2, 1) := by decide +kernel
theorem dX10_row_43 : decode cX10_row 43 = .ok (.iadd, 1) := by decide +kernel
theorem dX10_row_44 : decode cX10_row 44 = .ok (.iload_n 1, 1) := by decide +kernel
theorem dX10_row_45 : decode cX10_row 45 = .ok (.if_icmp .ge 50, 3) := by decide +kernel
theorem dX10_row_48 : decode cX10_row 48 = .ok (.aload_n 0, 1) := by decide +kernel
theorem dX10_row_49 : decode cX10_row 49 = .ok (.aload_n 0, 1) := by decide +kernel
theorem dX10_row_50 : decode cX10_row 50 = .ok (.getfield 23, 3) := by decide +kernel
theorem dX10_row_53 : decode cX10_row 53 = .ok (.getfield 159, 3) := by decide +kernel
theorem dX10_row_56 : decode cX10_row 56 = .ok (.iload 4, 2) := by decide +kernel
theorem dX10_row_58 : decode cX10_row 58 = .ok (.iaload, 1) := by decide +kernel
theorem dX10_row_59 : decode cX10_row 59 = .ok (.aload_n 0, 1) := by decide +kernel
theorem dX10_row_60 : decode cX10_row 60 = .ok (.getfield 23, 3) := by decide +kernel
theorem dX10_row_63 : decode cX10_row 63 = .ok (.getfield 159, 3) := by decide +kernel
theorem dX10_row_66 : decode cX10_row 66 = .ok (.iload 4, 2) := by decide +kernel
theorem dX10_row_68 : decode cX10_row 68 = .ok (.iconst 1, 1) := by decide +kernel
theorem dX10_row_69 : decode cX10_row 69 = .ok (.iadd, 1) := by decide +kernel
theorem dX10_row_70 : decode cX10_row 70 = .ok (.iaload, 1) := by decide +kernel
theorem dX10_row_71 : decode cX10_row 71 = .ok (.aload_n 0, 1) := by decide +kernel
theorem dX10_row_72 : decode cX10_row 72 = .ok (.getfield 23, 3) := by decide +kernel
theorem dX10_row_75 : decode cX10_row 75 = .ok (.getfield 159, 3) := by decide +kernel
theorem dX10_row_78 : decode cX10_row 78 = .ok (.iload 4, 2) := by decide +kernel
theorem dX10_row_80 : decode cX10_row 80 = .ok (.iconst 2, 1) := by decide +kernel
theorem dX10_row_81 : decode cX10_row 81 = .ok (.iadd, 1) := by decide +kernel
theorem dX10_row_82 : decode cX10_row 82 = .ok (.iaload, 1) := by decide +kernel
theorem dX10_row_83 : decode cX10_row 83 = .ok (.invokevirtual 162, 3) := by decide +kernel
theorem dX10_row_86 : decode cX10_row 86 = .ok (.ifCond .eq 9, 3) := by decide +kernel
theorem dX10_row_89 : decode cX10_row 89 = .ok (.iinc 2 1, 3) := by decide +kernel
theorem dX10_row_92 : decode cX10_row 92 = .ok (.goto 6, 3) := by decide +kernel
theorem dX10_row_95 : decode cX10_row 95 = .ok (.iinc 3 1, 3) := by decide +kernel
theorem dX10_row_98 : decode cX10_row 98 = .ok (.iinc 4 3, 3) := by decide +kernel
theorem dX10_row_101 : decode cX10_row 101 = .ok (.goto (-67), 3) := by decide +kernel
theorem dX10_row_104 : decode cX10_row 104 = .ok (.aload_n 0, 1) := by decide +kernel
theorem dX10_row_105 : decode cX10_row 105 = .ok (.iload_n 3, 1) := by decide +kernel
theorem dX10_row_106 : decode cX10_row 106 = .ok (.putfield 165, 3) := by decide +kernel
theorem dX10_row_109 : decode cX10_row 109 = .ok (.aload_n 0, 1) := by decide +kernel
theorem dX10_row_110 : decode cX10_row 110 = .ok (.getfield 63, 3) := by decide +kernel
theorem dX10_row_113 : decode cX10_row 113 = .ok (.invokevirtual 104, 3) := by decide +kernel
theorem dX10_row_116 : decode cX10_row 116 = .ok (.aload_n 0, 1) := by decide +kernel
theorem dX10_row_117 : decode cX10_row 117 = .ok (.iload_n 2, 1) := by decide +kernel
theorem dX10_row_118 : decode cX10_row 118 = .ok (.invokevirtual 111, 3) := by decide +kernel
theorem dX10_row_121 : decode cX10_row 121 = .ok (.ireturn, 1) := by decide +kernel
def B_X10_row_98 (Q : Int → st_S → Prop)  (k34 : Int → Int → Int → Int → st_S → Prop) (l1 : Int) (l2 : Int) (l3 : Int) (l4 : Int) (σ : st_S) : Prop := ∀ x27 : Int, x27 = wr (l4 + 3) → k34 l1 l2 l3 x27 σ
def B_X10_row_95 (Q : Int → st_S → Prop)  (k34 : Int → Int → Int → Int → st_S → Prop) (l1 : Int) (l2 : Int) (l3 : Int) (l4 : Int) (σ : st_S) : Prop := ∀ x28 : Int, x28 = wr (l3 + 1) → B_X10_row_98 Q k34 l1 l2 x28 l4 σ
def L_X10_row_34 (Q : Int → st_S → Prop)   : Nat → Int → Int → Int → Int → st_S → Prop
  | 0 => fun _ _ _ _ _ => False
  | n + 1 => fun l1 l2 l3 l4 σ => (l1 ≤ l4 → ∀ s29 : st_S, s29 = sI σ 0 13 l3 → wp_X4_clear s29 (fun s31 => wp_X10_accept l2 s31 (fun r32 s33 => Q r32 s33))) ∧ (¬ l1 ≤ l4 → (l1 ≤ wr (l4 + 2) → B_X10_row_95 Q (L_X10_row_34 Q n) l1 l2 l3 l4 σ) ∧ (¬ l1 ≤ wr (l4 + 2) → ix l4 400 ∧ ix (wr (l4 + 1)) 400 ∧ ix (wr (l4 + 2)) 400 ∧ wp_X10_joins (gI σ 13 (Int.toNat l4)) (gI σ 13 (Int.toNat (wr (l4 + 1)))) (gI σ 13 (Int.toNat (wr (l4 + 2)))) σ (fun r40 s41 => (r40 = 0 → B_X10_row_95 Q (L_X10_row_34 Q n) l1 l2 l3 l4 s41) ∧ (¬ r40 = 0 → ∀ x42 : Int, x42 = wr (l2 + 1) → B_X10_row_98 Q (L_X10_row_34 Q n) l1 x42 l3 l4 s41))))
def wp_X10_row  (σ : st_S) (Q : Int → st_S → Prop) : Prop := ∀ x47 : Int, x47 = gI σ 12 1 → (¬ x47 = 0 → ∀ s48 : st_S, s48 = sI σ 12 1 0 → ∃ m34 : Nat, L_X10_row_34 Q m34 x47 0 0 0 s48) ∧ (x47 = 0 → wp_X10_refuse (-6) σ (fun r49 s50 => Q r49 s50))
set_option maxRecDepth 20000 in
theorem jb_X10_row_98 {X : jj_X} {E : ev_E} {n0 hN : Nat} (hc : Cx X E cX10_row 5 n0 hN RX10) (hm : eM E = 1) (hr : (xT X).sig.returnType = (some .int)) (hh : 3 ≤ hN) {Q : Int → st_S → Prop} {k34 : Int → Int → Int → Int → st_S → Prop} (hk34 : ∀ {l1 : Int} {l2 : Int} {l3 : Int} {l4 : Int} (cl1 : wr l1 = l1) (cl2 : wr l2 = l2) (cl3 : wr l3 = l3) (cl4 : wr l4 = l4) {σ : st_S}, k34 l1 l2 l3 l4 σ → J X E 5 n0 0 0 (MQ (xB X) (qI E (n0 + 0) Q) (xA X) (xS X) 0 0 (eF E)) σ 34 [(0, vR E 0), (1, vI l1), (2, vI l2), (3, vI l3), (4, vI l4)] []) {l1 : Int} {l2 : Int} {l3 : Int} {l4 : Int} (cl1 : wr l1 = l1) (cl2 : wr l2 = l2) (cl3 : wr l3 = l3) (cl4 : wr l4 = l4) {σ : st_S} (h : B_X10_row_98 Q k34 l1 l2 l3 l4 σ) : J X E 5 n0 0 0 (MQ (xB X) (qI E (n0 + 0) Q) (xA X) (xS X) 0 0 (eF E)) σ 98 [(0, vR E 0), (1, vI l1), (2, vI l2), (3, vI l3), (4, vI l4)] [] := by
  have hh1 : 1 ≤ hN := by omega
  replace h : ∀ x27 : Int, x27 = wr (l4 + 3) → k34 l1 l2 l3 x27 σ := h
  obtain ⟨x27, ex27⟩ : ∃ y : Int, y = wr (l4 + 3) := ⟨_, rfl⟩
  have cx27 : wr x27 = x27 := by rw [ex27]; exact wr_wr _
  replace h := h x27 ex27
  refine j_iinc (lv' := [(4, vI x27), (0, vR E 0), (1, vI l1), (2, vI l2), (3, vI l3)]) hc 4 dX10_row_98 rfl (by decide) ex27 rfl ?_
  refine j_goto (tgt := 34) hc dX10_row_101 (by decide) ?_
  refine j_sub (lv' := [(0, vR E 0), (1, vI l1), (2, vI l2), (3, vI l3), (4, vI x27)]) [1, 2, 3, 4, 0] rfl ?_
  exact hk34 cl1 cl2 cl3 cx27 h
set_option maxRecDepth 20000 in
theorem jb_X10_row_95 {X : jj_X} {E : ev_E} {n0 hN : Nat} (hc : Cx X E cX10_row 5 n0 hN RX10) (hm : eM E = 1) (hr : (xT X).sig.returnType = (some .int)) (hh : 3 ≤ hN) {Q : Int → st_S → Prop} {k34 : Int → Int → Int → Int → st_S → Prop} (hk34 : ∀ {l1 : Int} {l2 : Int} {l3 : Int} {l4 : Int} (cl1 : wr l1 = l1) (cl2 : wr l2 = l2) (cl3 : wr l3 = l3) (cl4 : wr l4 = l4) {σ : st_S}, k34 l1 l2 l3 l4 σ → J X E 5 n0 0 0 (MQ (xB X) (qI E (n0 + 0) Q) (xA X) (xS X) 0 0 (eF E)) σ 34 [(0, vR E 0), (1, vI l1), (2, vI l2), (3, vI l3), (4, vI l4)] []) {l1 : Int} {l2 : Int} {l3 : Int} {l4 : Int} (cl1 : wr l1 = l1) (cl2 : wr l2 = l2) (cl3 : wr l3 = l3) (cl4 : wr l4 = l4) {σ : st_S} (h : B_X10_row_95 Q k34 l1 l2 l3 l4 σ) : J X E 5 n0 0 0 (MQ (xB X) (qI E (n0 + 0) Q) (xA X) (xS X) 0 0 (eF E)) σ 95 [(0, vR E 0), (1, vI l1), (2, vI l2), (3, vI l3), (4, vI l4)] [] := by
  have hh1 : 1 ≤ hN := by omega
  replace h : ∀ x28 : Int, x28 = wr (l3 + 1) → B_X10_row_98 Q k34 l1 l2 x28 l4 σ := h
  obtain ⟨x28, ex28⟩ : ∃ y : Int, y = wr (l3 + 1) := ⟨_, rfl⟩
  have cx28 : wr x28 = x28 := by rw [ex28]; exact wr_wr _
  replace h := h x28 ex28
  refine j_iinc (lv' := [(3, vI x28), (0, vR E 0), (1, vI l1), (2, vI l2), (4, vI l4)]) hc 3 dX10_row_95 rfl (by decide) ex28 rfl ?_
  refine j_sub (lv' := [(0, vR E 0), (1, vI l1), (2, vI l2), (3, vI x28), (4, vI l4)]) [1, 2, 3, 0, 4] rfl ?_
  exact jb_X10_row_98 hc hm hr hh hk34 cl1 cl2 cx28 cl4 h
set_option maxRecDepth 20000 in
theorem jl_X10_row_34 {X : jj_X} {E : ev_E} {n0 hN : Nat} (hc : Cx X E cX10_row 5 n0 hN RX10) (hm : eM E = 1) (hr : (xT X).sig.returnType = (some .int)) (hh : 3 ≤ hN) {Q : Int → st_S → Prop} : ∀ (n : Nat) {l1 : Int} {l2 : Int} {l3 : Int} {l4 : Int} (cl1 : wr l1 = l1) (cl2 : wr l2 = l2) (cl3 : wr l3 = l3) (cl4 : wr l4 = l4) {σ : st_S}, L_X10_row_34 Q n l1 l2 l3 l4 σ → J X E 5 n0 0 0 (MQ (xB X) (qI E (n0 + 0) Q) (xA X) (xS X) 0 0 (eF E)) σ 34 [(0, vR E 0), (1, vI l1), (2, vI l2), (3, vI l3), (4, vI l4)] [] := by
  have hh1 : 1 ≤ hN := by omega
  intro n
  induction n with
  | zero => intro l1 l2 l3 l4 cl1 cl2 cl3 cl4 σ h; exact h.elim
  | succ n ih =>
    intro l1 l2 l3 l4 cl1 cl2 cl3 cl4 σ h
    have hk34 : ∀ {l1 : Int} {l2 : Int} {l3 : Int} {l4 : Int} (cl1 : wr l1 = l1) (cl2 : wr l2 = l2) (cl3 : wr l3 = l3) (cl4 : wr l4 = l4) {σ : st_S}, L_X10_row_34 Q n l1 l2 l3 l4 σ → J X E 5 n0 0 0 (MQ (xB X) (qI E (n0 + 0) Q) (xA X) (xS X) 0 0 (eF E)) σ 34 [(0, vR E 0), (1, vI l1), (2, vI l2), (3, vI l3), (4, vI l4)] [] := ih
    replace h : (l1 ≤ l4 → ∀ s29 : st_S, s29 = sI σ 0 13 l3 → wp_X4_clear s29 (fun s31 => wp_X10_accept l2 s31 (fun r32 s33 => Q r32 s33))) ∧ (¬ l1 ≤ l4 → (l1 ≤ wr (l4 + 2) → B_X10_row_95 Q (L_X10_row_34 Q n) l1 l2 l3 l4 σ) ∧ (¬ l1 ≤ wr (l4 + 2) → ix l4 400 ∧ ix (wr (l4 + 1)) 400 ∧ ix (wr (l4 + 2)) 400 ∧ wp_X10_joins (gI σ 13 (Int.toNat l4)) (gI σ 13 (Int.toNat (wr (l4 + 1)))) (gI σ 13 (Int.toNat (wr (l4 + 2)))) σ (fun r40 s41 => (r40 = 0 → B_X10_row_95 Q (L_X10_row_34 Q n) l1 l2 l3 l4 s41) ∧ (¬ r40 = 0 → ∀ x42 : Int, x42 = wr (l2 + 1) → B_X10_row_98 Q (L_X10_row_34 Q n) l1 x42 l3 l4 s41)))) := h
    refine j_iload hc 4 dX10_row_34 rfl ?_
    refine j_iload_n hc 1 dX10_row_36 rfl rfl ?_
    refine j_ic_ge hc cl4 cl1 (tgt := 104) dX10_row_37 (by decide) (fun q45 => ?_) (fun q45 => ?_)
    · replace h := h.1 q45
      refine j_aload_nR hc 0 dX10_row_104 rfl rfl ?_
      refine j_iload_n hc 3 dX10_row_105 rfl rfl ?_
      refine j_putI hc fl_RX10_165 rfl rfl (fun hv => Or.inl (sv_k hv hm rfl)) cl3 dX10_row_106 (fun s29 es29 => ?_)
      replace h := h s29 es29
      refine j_aload_nR hc 0 dX10_row_109 rfl rfl ?_
      refine j_getR (c' := 39) hc fl_RX10_63 rfl rfl (fun hv => (sv_k hv hm rfl)) dX10_row_110 ?_
      refine j_vV hc (k := 4) (by decide) (fun hv => Or.inl (sv_k hv hm rfl)) ml_RX10_104 mv_X4_clear (As := []) (c_X4_clear (cx_E hc) hm  h) rfl (by omega) (by decide) ⟨Nat.zero_le _, Nat.zero_le _⟩ (Nat.le_of_ble_eq_true rfl) rfl dX10_row_113 (fun s31 h => ?_)
      refine j_aload_nR hc 0 dX10_row_116 rfl rfl ?_
      refine j_iload_n hc 2 dX10_row_117 rfl rfl ?_
      refine j_vI hc (k := 10) (by decide) (fun hv => Or.inl (sv_k hv hm rfl)) ml_RX10_111 mv_X10_accept (As := [vI l2]) (c_X10_accept (cx_E hc) hm cl2 h) rfl (by omega) (by decide) ⟨Nat.zero_le _, Nat.zero_le _⟩ (Nat.le_of_ble_eq_true rfl) rfl dX10_row_118 (fun r32 s33 cr32 h => ?_)
      exact j_iret hc hr cr32 h dX10_row_121
    · replace h := h.2 q45
      refine j_iload hc 4 dX10_row_40 rfl ?_
      refine j_iconst hc dX10_row_42 ?_
      refine j_iadd hc dX10_row_43 ?_
      refine j_iload_n hc 1 dX10_row_44 rfl rfl ?_
      refine j_ic_ge hc rfl cl1 (tgt := 95) dX10_row_45 (by decide) (fun q44 => ?_) (fun q44 => ?_)
      · replace h := h.1 q44
        refine j_sub (lv' := [(0, vR E 0), (1, vI l1), (2, vI l2), (3, vI l3), (4, vI l4)]) [0, 1, 2, 3, 4] rfl ?_
        exact jb_X10_row_95 hc hm hr hh hk34 cl1 cl2 cl3 cl4 h
      · replace h := h.2 q44
        refine j_aload_nR hc 0 dX10_row_48 rfl rfl ?_
        refine j_aload_nR hc 0 dX10_row_49 rfl rfl ?_
        refine j_getR (c' := 12) hc fl_RX10_23 rfl rfl (fun hv => (sv_k hv hm rfl)) dX10_row_50 ?_
        refine j_getR (c' := 13) hc fl_RX10_159 rfl rfl (fun hv => (sv_k hv hm rfl)) dX10_row_53 ?_
        refine j_iload hc 4 dX10_row_56 rfl ?_
        obtain ⟨b34, h⟩ := h
        refine j_iald (jn := (Int.toNat l4)) hc (fun hv => sv_kl hv hm rfl) cl4 b34 rfl dX10_row_58 (fun cn35 => ?_)
        refine j_aload_nR hc 0 dX10_row_59 rfl rfl ?_
        refine j_getR (c' := 12) hc fl_RX10_23 rfl rfl (fun hv => (sv_k hv hm rfl)) dX10_row_60 ?_
        refine j_getR (c' := 13) hc fl_RX10_159 rfl rfl (fun hv => (sv_k hv hm rfl)) dX10_row_63 ?_
        refine j_iload hc 4 dX10_row_66 rfl ?_
        refine j_iconst hc dX10_row_68 ?_
        refine j_iadd hc dX10_row_69 ?_
        obtain ⟨b36, h⟩ := h
        refine j_iald (jn := (Int.toNat (wr (l4 + 1)))) hc (fun hv => sv_kl hv hm rfl) rfl b36 rfl dX10_row_70 (fun cn37 => ?_)
        refine j_aload_nR hc 0 dX10_row_71 rfl rfl ?_
        refine j_getR (c' := 12) hc fl_RX10_23 rfl rfl (fun hv => (sv_k hv hm rfl)) dX10_row_72 ?_
        refine j_getR (c' := 13) hc fl_RX10_159 rfl rfl (fun hv => (sv_k hv hm rfl)) dX10_row_75 ?_
        refine j_iload hc 4 dX10_row_78 rfl ?_
        refine j_iconst hc dX10_row_80 ?_
        refine j_iadd hc dX10_row_81 ?_
        obtain ⟨b38, h⟩ := h
        refine j_iald (jn := (Int.toNat (wr (l4 + 2)))) hc (fun hv => sv_kl hv hm rfl) rfl b38 rfl dX10_row_82 (fun cn39 => ?_)
        refine j_vI hc (k := 10) (by decide) (fun hv => Or.inl (sv_k hv hm rfl)) ml_RX10_162 mv_X10_joins (As := [vI (gI σ 13 (Int.toNat l4)), vI (gI σ 13 (Int.toNat (wr (l4 + 1)))), vI (gI σ 13 (Int.toNat (wr (l4 + 2))))]) (c_X10_joins (cx_E hc) hm cn35 cn37 cn39 h) rfl (by omega) (by decide) ⟨Nat.zero_le _, Nat.zero_le _⟩ (Nat.le_of_ble_eq_true rfl) rfl dX10_row_83 (fun r40 s41 cr40 h => ?_)
        refine j_if_eq hc cr40 (tgt := 95) dX10_row_86 (by decide) (fun q43 => ?_) (fun q43 => ?_)
        · replace h := h.1 q43
          refine j_sub (lv' := [(0, vR E 0), (1, vI l1), (2, vI l2), (3, vI l3), (4, vI l4)]) [0, 1, 2, 3, 4] rfl ?_
          exact jb_X10_row_95 hc hm hr hh hk34 cl1 cl2 cl3 cl4 h
        · replace h := h.2 q43
          obtain ⟨x42, ex42⟩ : ∃ y : Int, y = wr (l2 + 1) := ⟨_, rfl⟩
          have cx42 : wr x42 = x42 := by rw [ex42]; exact wr_wr _
          replace h := h x42 ex42
          refine j_iinc (lv' := [(2, vI x42), (0, vR E 0), (1, vI l1), (3, vI l3), (4, vI l4)]) hc 2 dX10_row_89 rfl (by decide) ex42 rfl ?_
          refine j_goto (tgt := 98) hc dX10_row_92 (by decide) ?_
          refine j_sub (lv' := [(0, vR E 0), (1, vI l1), (2, vI x42), (3, vI l3), (4, vI l4)]) [1, 2, 0, 3, 4] rfl ?_
          exact jb_X10_row_98 hc hm hr hh hk34 cl1 cx42 cl3 cl4 h
set_option maxRecDepth 20000 in
theorem c_X10_row {l : Launch} {E : ev_E} (hE : Eok E) (hm : eM E = 1) {σ : st_S} {Q : Int → st_S → Prop} (h : wp_X10_row σ Q) : cM l yX10_row cX10_row 5 (some .int) E 3 0 0 [vR E 0] σ (qI E (gN σ + 0) Q) := by
  refine cM_of (lv := [(0, vR E 0)]) (by decide) hE (Nat.le_of_ble_eq_true rfl) (rfl) ?_
  intro X hX hc _ _ hr _ _
  subst hX
  have hh : 3 ≤ 3 := Nat.le_refl _
  have hh1 : 1 ≤ 3 := by omega
  replace h : ∀ x47 : Int, x47 = gI σ 12 1 → (¬ x47 = 0 → ∀ s48 : st_S, s48 = sI σ 12 1 0 → ∃ m34 : Nat, L_X10_row_34 Q m34 x47 0 0 0 s48) ∧ (x47 = 0 → wp_X10_refuse (-6) σ (fun r49 s50 => Q r49 s50)) := h
  refine j_aload_nR hc 0 dX10_row_0 rfl rfl ?_
  refine j_getR (c' := 12) hc fl_RX10_23 rfl rfl (fun hv => (sv_k hv hm rfl)) dX10_row_1 ?_
  refine j_getI hc fl_RX10_152 (Or.inl rfl) (fun hv => Or.inl (sv_k hv hm rfl)) dX10_row_4 (fun cn46 => ?_)
  refine j_c cn46 (fun x47 ex47 cx47 => ?_)
  replace h := h x47 ex47
  refine j_istore_n (lv' := [(1, vI x47), (0, vR E 0)]) hc dX10_row_7 rfl (by decide) rfl ?_
  refine j_iload_n hc 0 dX10_row_8 rfl rfl ?_
  refine j_if_ne hc cx47 (tgt := 19) dX10_row_9 (by decide) (fun q51 => ?_) (fun q51 => ?_)
  · replace h := h.1 q51
    refine j_aload_nR hc 1 dX10_row_19 rfl rfl ?_
    refine j_getR (c' := 12) hc fl_RX10_23 rfl rfl (fun hv => (sv_k hv hm rfl)) dX10_row_20 ?_
    refine j_iconst hc dX10_row_23 ?_
    refine j_putI hc fl_RX10_152 rfl rfl (fun hv => Or.inl (sv_k hv hm rfl)) (wlit 0 (by decide)) dX10_row_24 (fun s48 es48 => ?_)
    replace h := h s48 es48
    refine j_iconst hc dX10_row_27 ?_
    refine j_istore_n (lv' := [(2, vI 0), (1, vI x47), (0, vR E 0)]) hc dX10_row_28 rfl (by decide) rfl ?_
    refine j_iconst hc dX10_row_29 ?_
    refine j_istore_n (lv' := [(3, vI 0), (2, vI 0), (1, vI x47), (0, vR E 0)]) hc dX10_row_30 rfl (by decide) rfl ?_
    refine j_iconst hc dX10_row_31 ?_
    refine j_istore (lv' := [(4, vI 0), (3, vI 0), (2, vI 0), (1, vI x47), (0, vR E 0)]) hc dX10_row_32 (by decide) rfl ?_
    obtain ⟨n34, h⟩ := h
    refine j_sub (lv' := [(0, vR E 0), (1, vI x47), (2, vI 0), (3, vI 0), (4, vI 0)]) [4, 3, 2, 1, 0] rfl ?_
    exact jl_X10_row_34 hc hm hr hh n34 cx47 (wlit 0 (by decide)) (wlit 0 (by decide)) (wlit 0 (by decide)) h
  · replace h := h.2 q51
    refine j_aload_nR hc 1 dX10_row_12 rfl rfl ?_
    refine j_bipush hc dX10_row_13 (by decide) ?_
    refine j_vI hc (k := 10) (by decide) (fun hv => Or.inl (sv_k hv hm rfl)) ml_RX10_96 mv_X10_refuse (As := [vI (-6)]) (c_X10_refuse (cx_E hc) hm (wlit (-6) (by decide)) h) rfl (by omega) (by decide) ⟨Nat.zero_le _, Nat.zero_le _⟩ (Nat.le_of_ble_eq_true rfl) rfl dX10_row_15 (fun r49 s50 cr49 h => ?_)
    exact j_iret hc hr cr49 h dX10_row_18
-- LitStrangers.salt()I
theorem dX10_salt_0 : decode cX10_salt 0 = .ok (.aload_n 0, 1) := by decide +kernel
theorem dX10_salt_1 : decode cX10_salt 1 = .ok (.getfield 165, 3) := by decide +kernel
theorem dX10_salt_4 : decode cX10_salt 4 = .ok (.ireturn, 1) := by decide +kernel
def wp_X10_salt  (σ : st_S) (Q : Int → st_S → Prop) : Prop := Q (gI σ 0 13) σ
set_option maxRecDepth 20000 in
theorem c_X10_salt {l : Launch} {E : ev_E} (hE : Eok E) (hm : eM E = 1) {σ : st_S} {Q : Int → st_S → Prop} (h : wp_X10_salt σ Q) : cM l yX10_salt cX10_salt 1 (some .int) E 1 0 0 [vR E 0] σ (qI E (gN σ + 0) Q) := by
  refine cM_of (lv := [(0, vR E 0)]) (by decide) hE (Nat.le_of_ble_eq_true rfl) (rfl) ?_
  intro X hX hc _ _ hr _ _
  subst hX
  have hh : 1 ≤ 1 := Nat.le_refl _
  have hh1 : 1 ≤ 1 := by omega
  replace h : Q (gI σ 0 13) σ := h
  refine j_aload_nR hc 0 dX10_salt_0 rfl rfl ?_
  refine j_getI hc fl_RX10_165 (Or.inl rfl) (fun hv => Or.inl (sv_k hv hm rfl)) dX10_salt_1 (fun cn2 => ?_)
  exact j_iret hc hr cn2 h dX10_salt_4
-- LitStrangers.orders()I
theorem dX10_orders_0 : decode cX10_orders 0 = .ok (.aload_n 0, 1) := by decide +kernel
theorem dX10_orders_1 : decode cX10_orders 1 = .ok (.getfield 23, 3) := by decide +kernel
theorem dX10_orders_4 : decode cX10_orders 4 = .ok (.iconst 1, 1) := by decide +kernel
theorem dX10_orders_5 : decode cX10_orders 5 = .ok (.invokevirtual 171, 3) := by decide +kernel
theorem dX10_orders_8 : decode cX10_orders 8 = .ok (.istore_n 1, 1) := by decide +kernel
theorem dX10_orders_9 : decode cX10_orders 9 = .ok (.aload_n 0, 1) := by decide +kernel
theorem dX10_orders_10 : decode cX10_orders 10 = .ok (.getfield 23, 3) := by decide +kernel
theorem dX10_orders_13 : decode cX10_orders 13 = .ok (.iconst 0, 1) := by decide +kernel
theorem dX10_orders_14 : decode cX10_orders 14 = .ok (.putfield 152, 3) := by decide +kernel
theorem dX10_orders_17 : decode cX10_orders 17 = .ok (.aload_n 0, 1) := by decide +kernel
theorem dX10_orders_18 : decode cX10_orders 18 = .ok (.getfield 75, 3) := by decide +kernel
theorem dX10_orders_21 : decode cX10_orders 21 = .ok (.iconst (-1), 1) := by decide +kernel
theorem dX10_orders_22 : decode cX10_orders 22 = .ok (.putfield 188, 3) := by decide +kernel
theorem dX10_orders_25 : decode cX10_orders 25 = .ok (.iload_n 1, 1) := by decide +kernel
theorem dX10_orders_26 : decode cX10_orders 26 = .ok (.ifCond .ne 10, 3) := by decide +kernel
theorem dX10_orders_29 : decode cX10_orders 29 = .ok (.aload_n 0, 1) := by decide +kernel
theorem dX10_orders_30 : decode cX10_orders 30 = .ok (.bipush (-6), 2) := by decide +kernel
theorem dX10_orders_32 : decode cX10_orders 32 = .ok (.invokevirtual 96, 3) := by decide +kernel
theorem dX10_orders_35 : decode cX10_orders 35 = .ok (.ireturn, 1) := by decide +kernel
theorem dX10_orders_36 : decode cX10_orders 36 = .ok (.aload_n 0, 1) := by decide +kernel
theorem dX10_orders_37 : decode cX10_orders 37 = .ok (.getfield 12, 3) := by decide +kernel
theorem dX10_orders_40 : decode cX10_orders 40 = .ok (.aload_n 0, 1) := by decide +kernel
theorem dX10_orders_41 : decode cX10_orders 41 = .ok (.getfield 56, 3) := by decide +kernel
theorem dX10_orders_44 : decode cX10_orders 44 = .ok (.invokevirtual 191, 3) := by decide +kernel
theorem dX10_orders_47 : decode cX10_orders 47 = .ok (.aload_n 0, 1) := by decide +kernel
theorem dX10_orders_48 : decode cX10_orders 48 = .ok (.getfield 30, 3) := by decide +kernel
theorem dX10_orders_51 : decode cX10_orders 51 = .ok (.aload_n 0, 1) := by decide +kernel
theorem dX10_orders_52 : decode cX10_orders 52 = .ok (.getfield 63, 3) := by decide +kernel
theorem dX10_orders_55 : decode cX10_orders 55 = .ok (.invokevirtual 194, 3) := by decide +kernel
theorem dX10_orders_58 : decode cX10_orders 58 = .ok (.aload_n 0, 1) := by decide +kernel
theorem dX10_orders_59 : decode cX10_orders 59 = .ok (.getfield 75, 3) := by decide +kernel
theorem dX10_orders_62 : decode cX10_orders 62 = .ok (.aload_n 0, 1) := by decide +kernel
theorem dX10_orders_63 : decode cX10_orders 63 = .ok (.getfield 23, 3) := by decide +kernel
theorem dX10_orders_66 : decode cX10_orders 66 = .ok (.getfield 181, 3) := by decide +kernel
theorem dX10_orders_69 : decode cX10_orders 69 = .ok (.invokevirtual 197, 3) := by decide +kernel
theorem dX10_orders_72 : decode cX10_orders 72 = .ok (.istore_n 2, 1) := by decide +kernel
theorem dX10_orders_73 : decode cX10_orders 73 = .ok (.aload_n 0, 1) := by decide +kernel
theorem dX10_orders_74 : decode cX10_orders 74 = .ok (.getfield 75, 3) := by decide +kernel
theorem dX10_orders_77 : decode cX10_orders 77 = .ok (.getfield 188, 3) := by decide +kernel
theorem dX10_orders_80 : decode cX10_orders 80 = .ok (.iconst (-1), 1) := by decide +kernel
theorem dX10_orders_81 : decode cX10_orders 81 = .ok (.if_icmp .eq 32, 3) := by decide +kernel
theorem dX10_orders_84 : decode cX10_orders 84 = .ok (.aload_n 0, 1) := by decide +kernel
theorem dX10_orders_85 : decode cX10_orders 85 = .ok (.getfield 56, 3) := by decide +kernel
theorem dX10_orders_88 : decode cX10_orders 88 = .ok (.aload_n 0, 1) := by decide +kernel
theorem dX10_orders_89 : decode cX10_orders 89 = .ok (.getfield 12, 3) := by decide +kernel
theorem dX10_orders_92 : decode cX10_orders 92 = .ok (.invokevirtual 191, 3) := by decide +kernel
theorem dX10_orders_95 : decode cX10_orders 95 = .ok (.aload_n 0, 1) := by decide +kernel
theorem dX10_orders_96 : decode cX10_orders 96 = .ok (.getfield 63, 3) := by decide +kernel
theorem dX10_orders_99 : decode cX10_orders 99 = .ok (.aload_n 0, 1) := by decide +kernel
theorem dX10_orders_100 : decode cX10_orders 100 = .ok (.getfield 30, 3) := by decide +kernel
theorem dX10_orders_103 : decode cX10_orders 103 = .ok (.invokevirtual 194, 3) := by decide +kernel
theorem dX10_orders_106 : decode cX10_orders 106 = .ok (.aload_n 0, 1) := by decide +kernel
theorem dX10_orders_107 : decode cX10_orders 107 = .ok (.bipush (-3), 2) := by decide +kernel
theorem dX10_orders_109 : decode cX10_orders 109 = .ok (.invokevirtual 96, 3) := by decide +kernel
theorem dX10_orders_112 : decode cX10_orders 112 = .ok (.ireturn, 1) := by decide +kernel
theorem dX10_orders_113 : decode cX10_orders 113 = .ok (.aload_n 0, 1) := by decide +kernel
theorem dX10_orders_114 : decode cX10_orders 114 = .ok (.iload_n 2, 1) := by decide +kernel
theorem dX10_orders_115 : decode cX10_orders 115 = .ok (.invokevirtual 111, 3) := by decide +kernel
theorem dX10_orders_118 : decode cX10_orders 118 = .ok (.ireturn, 1) := by decide +kernel
def wp_X10_orders  (σ : st_S) (Q : Int → st_S → Prop) : Prop := wp_X6_read 1 σ (fun r26 s27 => ∀ s28 : st_S, s28 = sI s27 12 1 0 → ∀ s29 : st_S, s29 = sI s28 52 0 (-1) → (¬ r26 = 0 → wp_X1_copyFrom 1 25 s29 (fun s31 => wp_X4_copyFrom 21 39 s31 (fun s33 => wp_X7_run s33 (fun r34 s35 => (gI s35 52 0 = (-1) → wp_X10_accept r34 s35 (fun r37 s38 => Q r37 s38)) ∧ (¬ gI s35 52 0 = (-1) → wp_X1_copyFrom 25 1 s35 (fun s40 => wp_X4_copyFrom 39 21 s40 (fun s42 => wp_X10_refuse (-3) s42 (fun r43 s44 => Q r43 s44)))))))) ∧ (r26 = 0 → wp_X10_refuse (-6) s29 (fun r46 s47 => Q r46 s47)))
set_option maxRecDepth 20000 in
theorem c_X10_orders {l : Launch} {E : ev_E} (hE : Eok E) (hm : eM E = 1) {σ : st_S} {Q : Int → st_S → Prop} (h : wp_X10_orders σ Q) : cM l yX10_orders cX10_orders 3 (some .int) E 91 0 0 [vR E 0] σ (qI E (gN σ + 0) Q) := by
  refine cM_of (lv := [(0, vR E 0)]) (by decide) hE (Nat.le_of_ble_eq_true rfl) (rfl) ?_
  intro X hX hc _ _ hr _ _
  subst hX
  have hh : 91 ≤ 91 := Nat.le_refl _
  have hh1 : 1 ≤ 91 := by omega
  replace h : wp_X6_read 1 σ (fun r26 s27 => ∀ s28 : st_S, s28 = sI s27 12 1 0 → ∀ s29 : st_S, s29 = sI s28 52 0 (-1) → (¬ r26 = 0 → wp_X1_copyFrom 1 25 s29 (fun s31 => wp_X4_copyFrom 21 39 s31 (fun s33 => wp_X7_run s33 (fun r34 s35 => (gI s35 52 0 = (-1) → wp_X10_accept r34 s35 (fun r37 s38 => Q r37 s38)) ∧ (¬ gI s35 52 0 = (-1) → wp_X1_copyFrom 25 1 s35 (fun s40 => wp_X4_copyFrom 39 21 s40 (fun s42 => wp_X10_refuse (-3) s42 (fun r43 s44 => Q r43 s44)))))))) ∧ (r26 = 0 → wp_X10_refuse (-6) s29 (fun r46 s47 => Q r46 s47))) := h
  refine j_aload_nR hc 0 dX10_orders_0 rfl rfl ?_
  refine j_getR (c' := 12) hc fl_RX10_23 rfl rfl (fun hv => (sv_k hv hm rfl)) dX10_orders_1 ?_
  refine j_iconst hc dX10_orders_4 ?_
  refine j_vI hc (k := 6) (by decide) (fun hv => Or.inl (sv_k hv hm rfl)) ml_RX10_171 mv_X6_read (As := [vI 1]) (c_X6_read (cx_E hc) hm (wlit 1 (by decide)) h) rfl (by omega) (by decide) ⟨Nat.zero_le _, Nat.zero_le _⟩ (Nat.le_of_ble_eq_true rfl) rfl dX10_orders_5 (fun r26 s27 cr26 h => ?_)
  refine j_istore_n (lv' := [(1, vI r26), (0, vR E 0)]) hc dX10_orders_8 rfl (by decide) rfl ?_
  refine j_aload_nR hc 1 dX10_orders_9 rfl rfl ?_
  refine j_getR (c' := 12) hc fl_RX10_23 rfl rfl (fun hv => (sv_k hv hm rfl)) dX10_orders_10 ?_
  refine j_iconst hc dX10_orders_13 ?_
  refine j_putI hc fl_RX10_152 rfl rfl (fun hv => Or.inl (sv_k hv hm rfl)) (wlit 0 (by decide)) dX10_orders_14 (fun s28 es28 => ?_)
  replace h := h s28 es28
  refine j_aload_nR hc 1 dX10_orders_17 rfl rfl ?_
  refine j_getR (c' := 52) hc fl_RX10_75 rfl rfl (fun hv => (sv_k hv hm rfl)) dX10_orders_18 ?_
  refine j_iconst hc dX10_orders_21 ?_
  refine j_putI hc fl_RX10_188 rfl rfl (fun hv => Or.inl (sv_k hv hm rfl)) (wlit (-1) (by decide)) dX10_orders_22 (fun s29 es29 => ?_)
  replace h := h s29 es29
  refine j_iload_n hc 0 dX10_orders_25 rfl rfl ?_
  refine j_if_ne hc cr26 (tgt := 36) dX10_orders_26 (by decide) (fun q48 => ?_) (fun q48 => ?_)
  · replace h := h.1 q48
    refine j_aload_nR hc 1 dX10_orders_36 rfl rfl ?_
    refine j_getR (c' := 1) hc fl_RX10_12 rfl rfl (fun hv => (sv_k hv hm rfl)) dX10_orders_37 ?_
    refine j_aload_nR hc 1 dX10_orders_40 rfl rfl ?_
    refine j_getR (c' := 25) hc fl_RX10_56 rfl rfl (fun hv => (sv_k hv hm rfl)) dX10_orders_41 ?_
    refine j_vV hc (k := 1) (by decide) (fun hv => Or.inl (sv_k hv hm rfl)) ml_RX10_191 mv_X1_copyFrom (As := [vR E 25]) (c_X1_copyFrom (cx_E hc) hm  h) rfl (by omega) (by decide) ⟨Nat.zero_le _, Nat.zero_le _⟩ (Nat.le_of_ble_eq_true rfl) rfl dX10_orders_44 (fun s31 h => ?_)
    refine j_aload_nR hc 1 dX10_orders_47 rfl rfl ?_
    refine j_getR (c' := 21) hc fl_RX10_30 rfl rfl (fun hv => (sv_k hv hm rfl)) dX10_orders_48 ?_
    refine j_aload_nR hc 1 dX10_orders_51 rfl rfl ?_
    refine j_getR (c' := 39) hc fl_RX10_63 rfl rfl (fun hv => (sv_k hv hm rfl)) dX10_orders_52 ?_
    refine j_vV hc (k := 4) (by decide) (fun hv => Or.inl (sv_k hv hm rfl)) ml_RX10_194 mv_X4_copyFrom (As := [vR E 39]) (c_X4_copyFrom (cx_E hc) hm  h) rfl (by omega) (by decide) ⟨Nat.zero_le _, Nat.zero_le _⟩ (Nat.le_of_ble_eq_true rfl) rfl dX10_orders_55 (fun s33 h => ?_)
    refine j_aload_nR hc 1 dX10_orders_58 rfl rfl ?_
    refine j_getR (c' := 52) hc fl_RX10_75 rfl rfl (fun hv => (sv_k hv hm rfl)) dX10_orders_59 ?_
    refine j_aload_nR hc 1 dX10_orders_62 rfl rfl ?_
    refine j_getR (c' := 12) hc fl_RX10_23 rfl rfl (fun hv => (sv_k hv hm rfl)) dX10_orders_63 ?_
    refine j_getR (c' := 14) hc fl_RX10_181 rfl rfl (fun hv => (sv_k hv hm rfl)) dX10_orders_66 ?_
    refine j_vI hc (k := 7) (by decide) (fun hv => Or.inl (sv_k hv hm rfl)) ml_RX10_197 mv_X7_run (As := [vR E 14]) (c_X7_run (cx_E hc) hm  h) rfl (by omega) (by decide) ⟨Nat.zero_le _, Nat.zero_le _⟩ (Nat.le_of_ble_eq_true rfl) rfl dX10_orders_69 (fun r34 s35 cr34 h => ?_)
    refine j_istore_n (lv' := [(2, vI r34), (1, vI r26), (0, vR E 0)]) hc dX10_orders_72 rfl (by decide) rfl ?_
    refine j_aload_nR hc 2 dX10_orders_73 rfl rfl ?_
    refine j_getR (c' := 52) hc fl_RX10_75 rfl rfl (fun hv => (sv_k hv hm rfl)) dX10_orders_74 ?_
    refine j_getI hc fl_RX10_188 (Or.inl rfl) (fun hv => Or.inl (sv_k hv hm rfl)) dX10_orders_77 (fun cn36 => ?_)
    refine j_iconst hc dX10_orders_80 ?_
    refine j_ic_eq hc cn36 (wlit (-1) (by decide)) (tgt := 113) dX10_orders_81 (by decide) (fun q45 => ?_) (fun q45 => ?_)
    · replace h := h.1 q45
      refine j_aload_nR hc 2 dX10_orders_113 rfl rfl ?_
      refine j_iload_n hc 0 dX10_orders_114 rfl rfl ?_
      refine j_vI hc (k := 10) (by decide) (fun hv => Or.inl (sv_k hv hm rfl)) ml_RX10_111 mv_X10_accept (As := [vI r34]) (c_X10_accept (cx_E hc) hm cr34 h) rfl (by omega) (by decide) ⟨Nat.zero_le _, Nat.zero_le _⟩ (Nat.le_of_ble_eq_true rfl) rfl dX10_orders_115 (fun r37 s38 cr37 h => ?_)
      exact j_iret hc hr cr37 h dX10_orders_118
    · replace h := h.2 q45
      refine j_aload_nR hc 2 dX10_orders_84 rfl rfl ?_
      refine j_getR (c' := 25) hc fl_RX10_56 rfl rfl (fun hv => (sv_k hv hm rfl)) dX10_orders_85 ?_
      refine j_aload_nR hc 2 dX10_orders_88 rfl rfl ?_
      refine j_getR (c' := 1) hc fl_RX10_12 rfl rfl (fun hv => (sv_k hv hm rfl)) dX10_orders_89 ?_
      refine j_vV hc (k := 1) (by decide) (fun hv => Or.inl (sv_k hv hm rfl)) ml_RX10_191 mv_X1_copyFrom (As := [vR E 1]) (c_X1_copyFrom (cx_E hc) hm  h) rfl (by omega) (by decide) ⟨Nat.zero_le _, Nat.zero_le _⟩ (Nat.le_of_ble_eq_true rfl) rfl dX10_orders_92 (fun s40 h => ?_)
      refine j_aload_nR hc 2 dX10_orders_95 rfl rfl ?_
      refine j_getR (c' := 39) hc fl_RX10_63 rfl rfl (fun hv => (sv_k hv hm rfl)) dX10_orders_96 ?_
      refine j_aload_nR hc 2 dX10_orders_99 rfl rfl ?_
      refine j_getR (c' := 21) hc fl_RX10_30 rfl rfl (fun hv => (sv_k hv hm rfl)) dX10_orders_100 ?_
      refine j_vV hc (k := 4) (by decide) (fun hv => Or.inl (sv_k hv hm rfl)) ml_RX10_194 mv_X4_copyFrom (As := [vR E 21]) (c_X4_copyFrom (cx_E hc) hm  h) rfl (by omega) (by decide) ⟨Nat.zero_le _, Nat.zero_le _⟩ (Nat.le_of_ble_eq_true rfl) rfl dX10_orders_103 (fun s42 h => ?_)
      refine j_aload_nR hc 2 dX10_orders_106 rfl rfl ?_
      refine j_bipush hc dX10_orders_107 (by decide) ?_
      refine j_vI hc (k := 10) (by decide) (fun hv => Or.inl (sv_k hv hm rfl)) ml_RX10_96 mv_X10_refuse (As := [vI (-3)]) (c_X10_refuse (cx_E hc) hm (wlit (-3) (by decide)) h) rfl (by omega) (by decide) ⟨Nat.zero_le _, Nat.zero_le _⟩ (Nat.le_of_ble_eq_true rfl) rfl dX10_orders_109 (fun r43 s44 cr43 h => ?_)
      exact j_iret hc hr cr43 h dX10_orders_112
  · replace h := h.2 q48
    refine j_aload_nR hc 1 dX10_orders_29 rfl rfl ?_
    refine j_bipush hc dX10_orders_30 (by decide) ?_
    refine j_vI hc (k := 10) (by decide) (fun hv => Or.inl (sv_k hv hm rfl)) ml_RX10_96 mv_X10_refuse (As := [vI (-6)]) (c_X10_refuse (cx_E hc) hm (wlit (-6) (by decide)) h) rfl (by omega) (by decide) ⟨Nat.zero_le _, Nat.zero_le _⟩ (Nat.le_of_ble_eq_true rfl) rfl dX10_orders_32 (fun r46 s47 cr46 h => ?_)
    exact j_iret hc hr cr46 h dX10_orders_35
-- LitStrangers.fault()I
theorem dX10_fault_0 : decode cX10_fault 0 = .ok (.aload_n 0, 1) := by decide +kernel
theorem dX10_fault_1 : decode cX10_fault 1 = .ok (.getfield 23, 3) := by decide +kernel
theorem dX10_fault_4 : decode cX10_fault 4 = .ok (.getfield 201, 3) := by decide +kernel
theorem dX10_fault_7 : decode cX10_fault 7 = .ok (.ireturn, 1) := by decide +kernel
def wp_X10_fault  (σ : st_S) (Q : Int → st_S → Prop) : Prop := Q (gI σ 12 3) σ
set_option maxRecDepth 20000 in
theorem c_X10_fault {l : Launch} {E : ev_E} (hE : Eok E) (hm : eM E = 1) {σ : st_S} {Q : Int → st_S → Prop} (h : wp_X10_fault σ Q) : cM l yX10_fault cX10_fault 1 (some .int) E 1 0 0 [vR E 0] σ (qI E (gN σ + 0) Q) := by
  refine cM_of (lv := [(0, vR E 0)]) (by decide) hE (Nat.le_of_ble_eq_true rfl) (rfl) ?_
  intro X hX hc _ _ hr _ _
  subst hX
  have hh : 1 ≤ 1 := Nat.le_refl _
  have hh1 : 1 ≤ 1 := by omega
  replace h : Q (gI σ 12 3) σ := h
  refine j_aload_nR hc 0 dX10_fault_0 rfl rfl ?_
  refine j_getR (c' := 12) hc fl_RX10_23 rfl rfl (fun hv => (sv_k hv hm rfl)) dX10_fault_1 ?_
  refine j_getI hc fl_RX10_201 (Or.inl rfl) (fun hv => Or.inl (sv_k hv hm rfl)) dX10_fault_4 (fun cn2 => ?_)
  exact j_iret hc hr cn2 h dX10_fault_7
-- LitStrangers.stopped()I
theorem dX10_stopped_0 : decode cX10_stopped 0 = .ok (.aload_n 0, 1) := by decide +kernel
theorem dX10_stopped_1 : decode cX10_stopped 1 = .ok (.getfield 75, 3) := by decide +kernel
theorem dX10_stopped_4 : decode cX10_stopped 4 = .ok (.getfield 188, 3) := by decide +kernel
theorem dX10_stopped_7 : decode cX10_stopped 7 = .ok (.ireturn, 1) := by decide +kernel
def wp_X10_stopped  (σ : st_S) (Q : Int → st_S → Prop) : Prop := Q (gI σ 52 0) σ
set_option maxRecDepth 20000 in
theorem c_X10_stopped {l : Launch} {E : ev_E} (hE : Eok E) (hm : eM E = 1) {σ : st_S} {Q : Int → st_S → Prop} (h : wp_X10_stopped σ Q) : cM l yX10_stopped cX10_stopped 1 (some .int) E 1 0 0 [vR E 0] σ (qI E (gN σ + 0) Q) := by
  refine cM_of (lv := [(0, vR E 0)]) (by decide) hE (Nat.le_of_ble_eq_true rfl) (rfl) ?_
  intro X hX hc _ _ hr _ _
  subst hX
  have hh : 1 ≤ 1 := Nat.le_refl _
  have hh1 : 1 ≤ 1 := by omega
  replace h : Q (gI σ 52 0) σ := h
  refine j_aload_nR hc 0 dX10_stopped_0 rfl rfl ?_
  refine j_getR (c' := 52) hc fl_RX10_75 rfl rfl (fun hv => (sv_k hv hm rfl)) dX10_stopped_1 ?_
  refine j_getI hc fl_RX10_188 (Or.inl rfl) (fun hv => Or.inl (sv_k hv hm rfl)) dX10_stopped_4 (fun cn2 => ?_)
  exact j_iret hc hr cn2 h dX10_stopped_7
-- LitStrangers.force(I)I
theorem dX10_force_0 : decode cX10_force 0 = .ok (.iload_n 1, 1) := by decide +kernel
theorem dX10_force_1 : decode cX10_force 1 = .ok (.iconst (-1), 1) := by decide +kernel
theorem dX10_force_2 : decode cX10_force 2 = .ok (.if_icmp .lt 14, 3) := by decide +kernel
theorem dX10_force_5 : decode cX10_force 5 = .ok (.iload_n 1, 1) := by decide +kernel
theorem dX10_force_6 : decode cX10_force 6 = .ok (.aload_n 0, 1) := by decide +kernel
theorem dX10_force_7 : decode cX10_force 7 = .ok (.getfield 56, 3) := by decide +kernel
theorem dX10_force_10 : decode cX10_force 10 = .ok (.getfield 168, 3) := by decide +kernel
theorem dX10_force_13 : decode cX10_force 13 = .ok (.if_icmp .lt 10, 3) := by decide +kernel
theorem dX10_force_16 : decode cX10_force 16 = .ok (.aload_n 0, 1) := by decide +kernel
theorem dX10_force_17 : decode cX10_force 17 = .ok (.bipush (-2), 2) := by decide +kernel
theorem dX10_force_19 : decode cX10_force 19 = .ok (.invokevirtual 96, 3) := by decide +kernel
theorem dX10_force_22 : decode cX10_force 22 = .ok (.ireturn, 1) := by decide +kernel
theorem dX10_force_23 : decode cX10_force 23 = .ok (.aload_n 0, 1) := by decide +kernel
theorem dX10_force_24 : decode cX10_force 24 = .ok (.getfield 56, 3) := by decide +kernel
theorem dX10_force_27 : decode cX10_force 27 = .ok (.getfield 204, 3) := by decide +kernel
theorem dX10_force_30 : decode cX10_force 30 = .ok (.istore_n 2, 1) := by decide +kernel
theorem dX10_force_31 : decode cX10_force 31 = .ok (.aload_n 0, 1) := by decide +kernel
theorem dX10_force_32 : decode cX10_force 32 = .ok (.getfield 56, 3) := by decide +kernel
theorem dX10_force_35 : decode cX10_force 35 = .ok (.iload_n 1, 1) := by decide +kernel
theorem dX10_force_36 : decode cX10_force 36 = .ok (.putfield 204, 3) := by decide +kernel
theorem dX10_force_39 : decode cX10_force 39 = .ok (.aload_n 0, 1) := by decide +kernel
theorem dX10_force_40 : decode cX10_force 40 = .ok (.iload_n 2, 1) := by decide +kernel
theorem dX10_force_41 : decode cX10_force 41 = .ok (.invokevirtual 111, 3) := by decide +kernel
theorem dX10_force_44 : decode cX10_force 44 = .ok (.ireturn, 1) := by decide +kernel
def B_X10_force_16 (Q : Int → st_S → Prop)    (σ : st_S) : Prop := wp_X10_refuse (-2) σ (fun r10 s11 => Q r10 s11)
def wp_X10_force (a1 : Int) (σ : st_S) (Q : Int → st_S → Prop) : Prop := (a1 < (-1) → B_X10_force_16 Q σ) ∧ (¬ a1 < (-1) → (a1 < gI σ 25 10 → ∀ x14 : Int, x14 = gI σ 25 11 → ∀ s15 : st_S, s15 = sI σ 25 11 a1 → wp_X10_accept x14 s15 (fun r16 s17 => Q r16 s17)) ∧ (¬ a1 < gI σ 25 10 → B_X10_force_16 Q σ))
set_option maxRecDepth 20000 in
theorem jb_X10_force_16 {X : jj_X} {E : ev_E} {n0 hN : Nat} (hc : Cx X E cX10_force 3 n0 hN RX10) (hm : eM E = 1) (hr : (xT X).sig.returnType = (some .int)) (hh : 2 ≤ hN) {Q : Int → st_S → Prop} {σ : st_S} (h : B_X10_force_16 Q σ) : J X E 3 n0 0 0 (MQ (xB X) (qI E (n0 + 0) Q) (xA X) (xS X) 0 0 (eF E)) σ 16 [(0, vR E 0)] [] := by
  have hh1 : 1 ≤ hN := by omega
  replace h : wp_X10_refuse (-2) σ (fun r10 s11 => Q r10 s11) := h
  refine j_aload_nR hc 0 dX10_force_16 rfl rfl ?_
  refine j_bipush hc dX10_force_17 (by decide) ?_
  refine j_vI hc (k := 10) (by decide) (fun hv => Or.inl (sv_k hv hm rfl)) ml_RX10_96 mv_X10_refuse (As := [vI (-2)]) (c_X10_refuse (cx_E hc) hm (wlit (-2) (by decide)) h) rfl (by omega) (by decide) ⟨Nat.zero_le _, Nat.zero_le _⟩ (Nat.le_of_ble_eq_true rfl) rfl dX10_force_19 (fun r10 s11 cr10 h => ?_)
  exact j_iret hc hr cr10 h dX10_force_22
set_option maxRecDepth 20000 in
theorem c_X10_force {l : Launch} {E : ev_E} (hE : Eok E) (hm : eM E = 1) {a1 : Int} (ca1 : wr a1 = a1) {σ : st_S} {Q : Int → st_S → Prop} (h : wp_X10_force a1 σ Q) : cM l yX10_force cX10_force 3 (some .int) E 2 0 0 [vR E 0, vI a1] σ (qI E (gN σ + 0) Q) := by
  refine cM_of (lv := [(0, vR E 0), (1, vI a1)]) (by decide) hE (Nat.le_of_ble_eq_true rfl) (rfl) ?_
  intro X hX hc _ _ hr _ _
  subst hX
  have hh : 2 ≤ 2 := Nat.le_refl _
  have hh1 : 1 ≤ 2 := by omega
  replace h : (a1 < (-1) → B_X10_force_16 Q σ) ∧ (¬ a1 < (-1) → (a1 < gI σ 25 10 → ∀ x14 : Int, x14 = gI σ 25 11 → ∀ s15 : st_S, s15 = sI σ 25 11 a1 → wp_X10_accept x14 s15 (fun r16 s17 => Q r16 s17)) ∧ (¬ a1 < gI σ 25 10 → B_X10_force_16 Q σ)) := h
  refine j_iload_n hc 1 dX10_force_0 rfl rfl ?_
  refine j_iconst hc dX10_force_1 ?_
  refine j_ic_lt hc ca1 (wlit (-1) (by decide)) (tgt := 16) dX10_force_2 (by decide) (fun q19 => ?_) (fun q19 => ?_)
  · replace h := h.1 q19
    refine j_sub (lv' := [(0, vR E 0)]) [0] rfl ?_
    exact jb_X10_force_16 hc hm hr hh h
  · replace h := h.2 q19
    refine j_iload_n hc 1 dX10_force_5 rfl rfl ?_
    refine j_aload_nR hc 0 dX10_force_6 rfl rfl ?_
    refine j_getR (c' := 25) hc fl_RX10_56 rfl rfl (fun hv => (sv_k hv hm rfl)) dX10_force_7 ?_
    refine j_getI hc fl_RX10_168 (Or.inl rfl) (fun hv => Or.inl (sv_k hv hm rfl)) dX10_force_10 (fun cn12 => ?_)
    refine j_ic_lt hc ca1 cn12 (tgt := 23) dX10_force_13 (by decide) (fun q18 => ?_) (fun q18 => ?_)
    · replace h := h.1 q18
      refine j_aload_nR hc 0 dX10_force_23 rfl rfl ?_
      refine j_getR (c' := 25) hc fl_RX10_56 rfl rfl (fun hv => (sv_k hv hm rfl)) dX10_force_24 ?_
      refine j_getI hc fl_RX10_204 (Or.inl rfl) (fun hv => Or.inl (sv_k hv hm rfl)) dX10_force_27 (fun cn13 => ?_)
      refine j_c cn13 (fun x14 ex14 cx14 => ?_)
      replace h := h x14 ex14
      refine j_istore_n (lv' := [(2, vI x14), (0, vR E 0), (1, vI a1)]) hc dX10_force_30 rfl (by decide) rfl ?_
      refine j_aload_nR hc 1 dX10_force_31 rfl rfl ?_
      refine j_getR (c' := 25) hc fl_RX10_56 rfl rfl (fun hv => (sv_k hv hm rfl)) dX10_force_32 ?_
      refine j_iload_n hc 2 dX10_force_35 rfl rfl ?_
      refine j_putI hc fl_RX10_204 rfl rfl (fun hv => Or.inl (sv_k hv hm rfl)) ca1 dX10_force_36 (fun s15 es15 => ?_)
      replace h := h s15 es15
      refine j_aload_nR hc 1 dX10_force_39 rfl rfl ?_
      refine j_iload_n hc 0 dX10_force_40 rfl rfl ?_
      refine j_vI hc (k := 10) (by decide) (fun hv => Or.inl (sv_k hv hm rfl)) ml_RX10_111 mv_X10_accept (As := [vI x14]) (c_X10_accept (cx_E hc) hm cx14 h) rfl (by omega) (by decide) ⟨Nat.zero_le _, Nat.zero_le _⟩ (Nat.le_of_ble_eq_true rfl) rfl dX10_force_41 (fun r16 s17 cr16 h => ?_)
      exact j_iret hc hr cr16 h dX10_force_44
    · replace h := h.2 q18
      refine j_sub (lv' := [(0, vR E 0)]) [0] rfl ?_
      exact jb_X10_force_16 hc hm hr hh h
-- LitStrangers.asks(III)I
theorem dX10_asks_0 : decode cX10_asks 0 = .ok (.aload_n 0, 1) := by decide +kernel
theorem dX10_asks_1 : decode cX10_asks 1 = .ok (.getfield 56, 3) := by decide +kernel
theorem dX10_asks_4 : decode cX10_asks 4 = .ok (.iload_n 1, 1) := by decide +kernel
theorem dX10_asks_5 : decode cX10_asks 5 = .ok (.invokevirtual 114, 3) := by decide +kernel
theorem dX10_asks_8 : decode cX10_asks 8 = .ok (.ifCond .ne 5, 3) := by decide +kernel
theorem dX10_asks_11 : decode cX10_asks 11 = .ok (.iconst (-1), 1) := by decide +kernel
theorem dX10_asks_12 : decode cX10_asks 12 = .ok (.ireturn, 1) := by decide +kernel
theorem dX10_asks_13 : decode cX10_asks 13 = .ok (.iload_n 3, 1) := by decide +kernel
theorem dX10_asks_14 : decode cX10_asks 14 = .ok (.tableswitch 108 0 4 #[34, 43, 52, 61, 78], 34) := by decide +kernel
theorem dX10_asks_48 : decode cX10_asks 48 = .ok (.aload_n 0, 1) := by decide +kernel
theorem dX10_asks_49 : decode cX10_asks 49 = .ok (.getfield 59, 3) := by decide +kernel
theorem dX10_asks_52 : decode cX10_asks 52 = .ok (.iload_n 1, 1) := by decide +kernel
theorem dX10_asks_53 : decode cX10_asks 53 = .ok (.invokevirtual 207, 3) := by decide +kernel
theorem dX10_asks_56 : decode cX10_asks 56 = .ok (.ireturn, 1) := by decide +kernel
theorem dX10_asks_57 : decode cX10_asks 57 = .ok (.aload_n 0, 1) := by decide +kernel
theorem dX10_asks_58 : decode cX10_asks 58 = .ok (.getfield 59, 3) := by decide +kernel
theorem dX10_asks_61 : decode cX10_asks 61 = .ok (.iload_n 1, 1) := by decide +kernel
theorem dX10_asks_62 : decode cX10_asks 62 = .ok (.invokevirtual 210, 3) := by decide +kernel
theorem dX10_asks_65 : decode cX10_asks 65 = .ok (.ireturn, 1) := by decide +kernel
theorem dX10_asks_66 : decode cX10_asks 66 = .ok (.aload_n 0, 1) := by decide +kernel
theorem dX10_asks_67 : decode cX10_asks 67 = .ok (.getfield 59, 3) := by decide +kernel
theorem dX10_asks_70 : decode cX10_asks 70 = .ok (.iload_n 1, 1) := by decide +kernel
theorem dX10_asks_71 : decode cX10_asks 71 = .ok (.invokevirtual 213, 3) := by decide +kernel
theorem dX10_asks_74 : decode cX10_asks 74 = .ok (.ireturn, 1) := by decide +kernel
theorem dX10_asks_75 : decode cX10_asks 75 = .ok (.aload_n 0, 1) := by decide +kernel
theorem dX10_asks_76 : decode cX10_asks 76 = .ok (.getfield 59, 3) := by decide +kernel
theorem dX10_asks_79 : decode cX10_asks 79 = .ok (.iload_n 1, 1) := by decide +kernel
theorem dX10_asks_80 : decode cX10_asks 80 = .ok (.invokevirtual 216, 3) := by decide +kernel
theorem dX10_asks_83 : decode cX10_asks 83 = .ok (.ifCond .eq 7, 3) := by decide +kernel
theorem dX10_asks_86 : decode cX10_asks 86 = .ok (.iconst 1, 1) := by decide +kernel
theorem dX10_asks_87 : decode cX10_asks 87 = .ok (.goto 4, 3) := by decide +kernel
theorem dX10_asks_90 : decode cX10_asks 90 = .ok (.iconst 0, 1) := by decide +kernel
theorem dX10_asks_91 : decode cX10_asks 91 = .ok (.ireturn, 1) := by decide +kernel
theorem dX10_asks_92 : decode cX10_asks 92 = .ok (.aload_n 0, 1) := by decide +kernel
theorem dX10_asks_93 : decode cX10_asks 93 = .ok (.getfield 56, 3) := by decide +kernel
theorem dX10_asks_96 : decode cX10_asks 96 = .ok (.iload_n 2, 1) := by decide +kernel
theorem dX10_asks_97 : decode cX10_asks 97 = .ok (.invokevirtual 114, 3) := by decide +kernel
theorem dX10_asks_100 : decode cX10_asks 100 = .ok (.ifCond .eq 20, 3) := by decide +kernel
theorem dX10_asks_103 : decode cX10_asks 103 = .ok (.iload_n 2, 1) := by decide +kernel
theorem dX10_asks_104 : decode cX10_asks 104 = .ok (.iload_n 1, 1) := by decide +kernel
theorem dX10_asks_105 : decode cX10_asks 105 = .ok (.if_icmp .eq 15, 3) := by decide +kernel
theorem dX10_asks_108 : decode cX10_asks 108 = .ok (.aload_n 0, 1) := by decide +kernel
theorem dX10_asks_109 : decode cX10_asks 109 = .ok (.getfield 59, 3) := by decide +kernel
theorem dX10_asks_112 : decode cX10_asks 112 = .ok (.iload_n 1, 1) := by decide +kernel
theorem dX10_asks_113 : decode cX10_asks 113 = .ok (.iload_n 2, 1) := by decide +kernel
theorem dX10_asks_114 : decode cX10_asks 114 = .ok (.invokevirtual 219, 3) := by decide +kernel
theorem dX10_asks_117 : decode cX10_asks 117 = .ok (.goto 4, 3) := by decide +kernel
theorem dX10_asks_120 : decode cX10_asks 120 = .ok (.iconst (-1), 1) := by decide +kernel
theorem dX10_asks_121 : decode cX10_asks 121 = .ok (.ireturn, 1) := by decide +kernel
theorem dX10_asks_122 : decode cX10_asks 122 = .ok (.iconst (-1), 1) := by decide +kernel
theorem dX10_asks_123 : decode cX10_asks 123 = .ok (.ireturn, 1) := by decide +kernel
def B_X10_asks_91 (Q : Int → st_S → Prop)   (v0 : Int) (σ : st_S) : Prop := Q v0 σ
def B_X10_asks_121 (Q : Int → st_S → Prop)   (v0 : Int) (σ : st_S) : Prop := Q v0 σ
def B_X10_asks_120 (Q : Int → st_S → Prop)    (σ : st_S) : Prop := B_X10_asks_121 Q (-1) σ
def wp_X10_asks (a1 : Int) (a2 : Int) (a3 : Int) (σ : st_S) (Q : Int → st_S → Prop) : Prop := wp_X1_has a1 σ (fun r15 s16 => (¬ r15 = 0 → (a3 = 0 → wp_X3_takes a1 s16 (fun r17 s18 => Q r17 s18)) ∧ (a3 = 1 → wp_X3_costs a1 s16 (fun r19 s20 => Q r19 s20)) ∧ (a3 = 2 → wp_X3_lodges a1 s16 (fun r21 s22 => Q r21 s22)) ∧ (a3 = 3 → wp_X3_barsNow a1 s16 (fun r23 s24 => (r23 = 0 → B_X10_asks_91 Q 0 s24) ∧ (¬ r23 = 0 → B_X10_asks_91 Q 1 s24))) ∧ (a3 = 4 → wp_X1_has a2 s16 (fun r26 s27 => (r26 = 0 → B_X10_asks_120 Q s27) ∧ (¬ r26 = 0 → (a2 = a1 → B_X10_asks_120 Q s27) ∧ (¬ a2 = a1 → wp_X3_spoils a1 a2 s27 (fun r28 s29 => B_X10_asks_121 Q r28 s29))))) ∧ (a3 < 0 ∨ 4 < a3 → Q (-1) s16)) ∧ (r15 = 0 → Q (-1) s16))
set_option maxRecDepth 20000 in
theorem jb_X10_asks_91 {X : jj_X} {E : ev_E} {n0 hN : Nat} (hc : Cx X E cX10_asks 4 n0 hN RX10) (hm : eM E = 1) (hr : (xT X).sig.returnType = (some .int)) (hh : 5 ≤ hN) {Q : Int → st_S → Prop} {v0 : Int} (cv0 : wr v0 = v0) {σ : st_S} (h : B_X10_asks_91 Q v0 σ) : J X E 4 n0 0 0 (MQ (xB X) (qI E (n0 + 0) Q) (xA X) (xS X) 0 0 (eF E)) σ 91 [] [vI v0] := by
  have hh1 : 1 ≤ hN := by omega
  replace h : Q v0 σ := h
  exact j_iret hc hr cv0 h dX10_asks_91
set_option maxRecDepth 20000 in
theorem jb_X10_asks_121 {X : jj_X} {E : ev_E} {n0 hN : Nat} (hc : Cx X E cX10_asks 4 n0 hN RX10) (hm : eM E = 1) (hr : (xT X).sig.returnType = (some .int)) (hh : 5 ≤ hN) {Q : Int → st_S → Prop} {v0 : Int} (cv0 : wr v0 = v0) {σ : st_S} (h : B_X10_asks_121 Q v0 σ) : J X E 4 n0 0 0 (MQ (xB X) (qI E (n0 + 0) Q) (xA X) (xS X) 0 0 (eF E)) σ 121 [] [vI v0] := by
  have hh1 : 1 ≤ hN := by omega
  replace h : Q v0 σ := h
  exact j_iret hc hr cv0 h dX10_asks_121
set_option maxRecDepth 20000 in
theorem jb_X10_asks_120 {X : jj_X} {E : ev_E} {n0 hN : Nat} (hc : Cx X E cX10_asks 4 n0 hN RX10) (hm : eM E = 1) (hr : (xT X).sig.returnType = (some .int)) (hh : 5 ≤ hN) {Q : Int → st_S → Prop} {σ : st_S} (h : B_X10_asks_120 Q σ) : J X E 4 n0 0 0 (MQ (xB X) (qI E (n0 + 0) Q) (xA X) (xS X) 0 0 (eF E)) σ 120 [] [] := by
  have hh1 : 1 ≤ hN := by omega
  replace h : B_X10_asks_121 Q (-1) σ := h
  refine j_iconst hc dX10_asks_120 ?_
  refine j_sub (lv' := []) [] rfl ?_
  exact jb_X10_asks_121 hc hm hr hh (wlit (-1) (by decide)) h
set_option maxRecDepth 20000 in
theorem c_X10_asks {l : Launch} {E : ev_E} (hE : Eok E) (hm : eM E = 1) {a1 : Int} {a2 : Int} {a3 : Int} (ca1 : wr a1 = a1) (ca2 : wr a2 = a2) (ca3 : wr a3 = a3) {σ : st_S} {Q : Int → st_S → Prop} (h : wp_X10_asks a1 a2 a3 σ Q) : cM l yX10_asks cX10_asks 4 (some .int) E 5 0 0 [vR E 0, vI a1, vI a2, vI a3] σ (qI E (gN σ + 0) Q) := by
  refine cM_of (lv := [(0, vR E 0), (1, vI a1), (2, vI a2), (3, vI a3)]) (by decide) hE (Nat.le_of_ble_eq_true rfl) (rfl) ?_
  intro X hX hc _ _ hr _ _
  subst hX
  have hh : 5 ≤ 5 := Nat.le_refl _
  have hh1 : 1 ≤ 5 := by omega
  replace h : wp_X1_has a1 σ (fun r15 s16 => (¬ r15 = 0 → (a3 = 0 → wp_X3_takes a1 s16 (fun r17 s18 => Q r17 s18)) ∧ (a3 = 1 → wp_X3_costs a1 s16 (fun r19 s20 => Q r19 s20)) ∧ (a3 = 2 → wp_X3_lodges a1 s16 (fun r21 s22 => Q r21 s22)) ∧ (a3 = 3 → wp_X3_barsNow a1 s16 (fun r23 s24 => (r23 = 0 → B_X10_asks_91 Q 0 s24) ∧ (¬ r23 = 0 → B_X10_asks_91 Q 1 s24))) ∧ (a3 = 4 → wp_X1_has a2 s16 (fun r26 s27 => (r26 = 0 → B_X10_asks_120 Q s27) ∧ (¬ r26 = 0 → (a2 = a1 → B_X10_asks_120 Q s27) ∧ (¬ a2 = a1 → wp_X3_spoils a1 a2 s27 (fun r28 s29 => B_X10_asks_121 Q r28 s29))))) ∧ (a3 < 0 ∨ 4 < a3 → Q (-1) s16)) ∧ (r15 = 0 → Q (-1) s16)) := h
  refine j_aload_nR hc 0 dX10_asks_0 rfl rfl ?_
  refine j_getR (c' := 25) hc fl_RX10_56 rfl rfl (fun hv => (sv_k hv hm rfl)) dX10_asks_1 ?_
  refine j_iload_n hc 1 dX10_asks_4 rfl rfl ?_
  refine j_vI hc (k := 1) (by decide) (fun hv => Or.inl (sv_k hv hm rfl)) ml_RX10_114 mv_X1_has (As := [vI a1]) (c_X1_has (cx_E hc) hm ca1 h) rfl (by omega) (by decide) ⟨Nat.zero_le _, Nat.zero_le _⟩ (Nat.le_of_ble_eq_true rfl) rfl dX10_asks_5 (fun r15 s16 cr15 h => ?_)
  refine j_if_ne hc cr15 (tgt := 13) dX10_asks_8 (by decide) (fun q32 => ?_) (fun q32 => ?_)
  · replace h := h.1 q32
    refine j_iload_n hc 3 dX10_asks_13 rfl rfl ?_
    rcases Decidable.em (a3 = 0) with q0 | q0
    · replace h := h.1 q0
      refine j_ts (tgt := 48) (off := 34) hc ca3 dX10_asks_14 0 q0 (by decide) (by decide) (by decide) (by decide) ?_
      refine j_aload_nR hc 0 dX10_asks_48 rfl rfl ?_
      refine j_getR (c' := 35) hc fl_RX10_59 rfl rfl (fun hv => (sv_k hv hm rfl)) dX10_asks_49 ?_
      refine j_iload_n hc 1 dX10_asks_52 rfl rfl ?_
      refine j_vI hc (k := 3) (by decide) (fun hv => Or.inl (sv_k hv hm rfl)) ml_RX10_207 mv_X3_takes (As := [vI a1]) (c_X3_takes (cx_E hc) hm ca1 h) rfl (by omega) (by decide) ⟨Nat.zero_le _, Nat.zero_le _⟩ (Nat.le_of_ble_eq_true rfl) rfl dX10_asks_53 (fun r17 s18 cr17 h => ?_)
      exact j_iret hc hr cr17 h dX10_asks_56
    · rcases Decidable.em (a3 = 1) with q1 | q1
      · replace h := h.2.1 q1
        refine j_ts (tgt := 57) (off := 43) hc ca3 dX10_asks_14 1 q1 (by decide) (by decide) (by decide) (by decide) ?_
        refine j_aload_nR hc 0 dX10_asks_57 rfl rfl ?_
        refine j_getR (c' := 35) hc fl_RX10_59 rfl rfl (fun hv => (sv_k hv hm rfl)) dX10_asks_58 ?_
        refine j_iload_n hc 1 dX10_asks_61 rfl rfl ?_
        refine j_vI hc (k := 3) (by decide) (fun hv => Or.inl (sv_k hv hm rfl)) ml_RX10_210 mv_X3_costs (As := [vI a1]) (c_X3_costs (cx_E hc) hm ca1 h) rfl (by omega) (by decide) ⟨Nat.zero_le _, Nat.zero_le _⟩ (Nat.le_of_ble_eq_true rfl) rfl dX10_asks_62 (fun r19 s20 cr19 h => ?_)
        exact j_iret hc hr cr19 h dX10_asks_65
      · rcases Decidable.em (a3 = 2) with q2 | q2
        · replace h := h.2.2.1 q2
          refine j_ts (tgt := 66) (off := 52) hc ca3 dX10_asks_14 2 q2 (by decide) (by decide) (by decide) (by decide) ?_
          refine j_aload_nR hc 0 dX10_asks_66 rfl rfl ?_
          refine j_getR (c' := 35) hc fl_RX10_59 rfl rfl (fun hv => (sv_k hv hm rfl)) dX10_asks_67 ?_
          refine j_iload_n hc 1 dX10_asks_70 rfl rfl ?_
          refine j_vI hc (k := 3) (by decide) (fun hv => Or.inl (sv_k hv hm rfl)) ml_RX10_213 mv_X3_lodges (As := [vI a1]) (c_X3_lodges (cx_E hc) hm ca1 h) rfl (by omega) (by decide) ⟨Nat.zero_le _, Nat.zero_le _⟩ (Nat.le_of_ble_eq_true rfl) rfl dX10_asks_71 (fun r21 s22 cr21 h => ?_)
          exact j_iret hc hr cr21 h dX10_asks_74
        · rcases Decidable.em (a3 = 3) with q3 | q3
          · replace h := h.2.2.2.1 q3
            refine j_ts (tgt := 75) (off := 61) hc ca3 dX10_asks_14 3 q3 (by decide) (by decide) (by decide) (by decide) ?_
            refine j_aload_nR hc 0 dX10_asks_75 rfl rfl ?_
            refine j_getR (c' := 35) hc fl_RX10_59 rfl rfl (fun hv => (sv_k hv hm rfl)) dX10_asks_76 ?_
            refine j_iload_n hc 1 dX10_asks_79 rfl rfl ?_
            refine j_vI hc (k := 3) (by decide) (fun hv => Or.inl (sv_k hv hm rfl)) ml_RX10_216 mv_X3_barsNow (As := [vI a1]) (c_X3_barsNow (cx_E hc) hm ca1 h) rfl (by omega) (by decide) ⟨Nat.zero_le _, Nat.zero_le _⟩ (Nat.le_of_ble_eq_true rfl) rfl dX10_asks_80 (fun r23 s24 cr23 h => ?_)
            refine j_if_eq hc cr23 (tgt := 90) dX10_asks_83 (by decide) (fun q25 => ?_) (fun q25 => ?_)
            · replace h := h.1 q25
              refine j_iconst hc dX10_asks_90 ?_
              refine j_sub (lv' := []) [] rfl ?_
              exact jb_X10_asks_91 hc hm hr hh (wlit 0 (by decide)) h
            · replace h := h.2 q25
              refine j_iconst hc dX10_asks_86 ?_
              refine j_goto (tgt := 91) hc dX10_asks_87 (by decide) ?_
              refine j_sub (lv' := []) [] rfl ?_
              exact jb_X10_asks_91 hc hm hr hh (wlit 1 (by decide)) h
          · rcases Decidable.em (a3 = 4) with q4 | q4
            · replace h := h.2.2.2.2.1 q4
              refine j_ts (tgt := 92) (off := 78) hc ca3 dX10_asks_14 4 q4 (by decide) (by decide) (by decide) (by decide) ?_
              refine j_aload_nR hc 0 dX10_asks_92 rfl rfl ?_
              refine j_getR (c' := 25) hc fl_RX10_56 rfl rfl (fun hv => (sv_k hv hm rfl)) dX10_asks_93 ?_
              refine j_iload_n hc 2 dX10_asks_96 rfl rfl ?_
              refine j_vI hc (k := 1) (by decide) (fun hv => Or.inl (sv_k hv hm rfl)) ml_RX10_114 mv_X1_has (As := [vI a2]) (c_X1_has (cx_E hc) hm ca2 h) rfl (by omega) (by decide) ⟨Nat.zero_le _, Nat.zero_le _⟩ (Nat.le_of_ble_eq_true rfl) rfl dX10_asks_97 (fun r26 s27 cr26 h => ?_)
              refine j_if_eq hc cr26 (tgt := 120) dX10_asks_100 (by decide) (fun q31 => ?_) (fun q31 => ?_)
              · replace h := h.1 q31
                refine j_sub (lv' := []) [] rfl ?_
                exact jb_X10_asks_120 hc hm hr hh h
              · replace h := h.2 q31
                refine j_iload_n hc 2 dX10_asks_103 rfl rfl ?_
                refine j_iload_n hc 1 dX10_asks_104 rfl rfl ?_
                refine j_ic_eq hc ca2 ca1 (tgt := 120) dX10_asks_105 (by decide) (fun q30 => ?_) (fun q30 => ?_)
                · replace h := h.1 q30
                  refine j_sub (lv' := []) [] rfl ?_
                  exact jb_X10_asks_120 hc hm hr hh h
                · replace h := h.2 q30
                  refine j_aload_nR hc 0 dX10_asks_108 rfl rfl ?_
                  refine j_getR (c' := 35) hc fl_RX10_59 rfl rfl (fun hv => (sv_k hv hm rfl)) dX10_asks_109 ?_
                  refine j_iload_n hc 1 dX10_asks_112 rfl rfl ?_
                  refine j_iload_n hc 2 dX10_asks_113 rfl rfl ?_
                  refine j_vI hc (k := 3) (by decide) (fun hv => Or.inl (sv_k hv hm rfl)) ml_RX10_219 mv_X3_spoils (As := [vI a1, vI a2]) (c_X3_spoils (cx_E hc) hm ca1 ca2 h) rfl (by omega) (by decide) ⟨Nat.zero_le _, Nat.zero_le _⟩ (Nat.le_of_ble_eq_true rfl) rfl dX10_asks_114 (fun r28 s29 cr28 h => ?_)
                  refine j_goto (tgt := 121) hc dX10_asks_117 (by decide) ?_
                  refine j_sub (lv' := []) [] rfl ?_
                  exact jb_X10_asks_121 hc hm hr hh cr28 h
            · have qd : a3 < 0 ∨ 4 < a3 := by omega
              replace h := h.2.2.2.2.2 qd
              refine j_td (tgt := 122) hc ca3 dX10_asks_14 qd (by decide) ?_
              refine j_iconst hc dX10_asks_122 ?_
              exact j_iret hc hr (wlit (-1) (by decide)) h dX10_asks_123
  · replace h := h.2 q32
    refine j_iconst hc dX10_asks_11 ?_
    exact j_iret hc hr (wlit (-1) (by decide)) h dX10_asks_12
-- LitStrangers.told(I)I
theorem dX10_told_0 : decode cX10_told 0 = .ok (.iload_n 1, 1) := by decide +kernel
theorem dX10_told_1 : decode cX10_told 1 = .ok (.ifCond .ge 11, 3) := by decide +kernel
theorem dX10_told_4 : decode cX10_told 4 = .ok (.aload_n 0, 1) := by decide +kernel
theorem dX10_told_5 : decode cX10_told 5 = .ok (.iload_n 1, 1) := by decide +kernel
theorem dX10_told_6 : decode cX10_told 6 = .ok (.invokevirtual 96, 3) := by decide +kernel
theorem dX10_told_9 : decode cX10_told 9 = .ok (.goto 8, 3) := by decide +kernel
theorem dX10_told_12 : decode cX10_told 12 = .ok (.aload_n 0, 1) := by decide +kernel
theorem dX10_told_13 : decode cX10_told 13 = .ok (.iload_n 1, 1) := by decide +kernel
theorem dX10_told_14 : decode cX10_told 14 = .ok (.invokevirtual 111, 3) := by decide +kernel
theorem dX10_told_17 : decode cX10_told 17 = .ok (.ireturn, 1) := by decide +kernel
def B_X10_told_17 (Q : Int → st_S → Prop)   (v0 : Int) (σ : st_S) : Prop := Q v0 σ
def wp_X10_told (a1 : Int) (σ : st_S) (Q : Int → st_S → Prop) : Prop := (0 ≤ a1 → wp_X10_accept a1 σ (fun r5 s6 => B_X10_told_17 Q r5 s6)) ∧ (¬ 0 ≤ a1 → wp_X10_refuse a1 σ (fun r7 s8 => B_X10_told_17 Q r7 s8))
set_option maxRecDepth 20000 in
theorem jb_X10_told_17 {X : jj_X} {E : ev_E} {n0 hN : Nat} (hc : Cx X E cX10_told 2 n0 hN RX10) (hm : eM E = 1) (hr : (xT X).sig.returnType = (some .int)) (hh : 2 ≤ hN) {Q : Int → st_S → Prop} {v0 : Int} (cv0 : wr v0 = v0) {σ : st_S} (h : B_X10_told_17 Q v0 σ) : J X E 2 n0 0 0 (MQ (xB X) (qI E (n0 + 0) Q) (xA X) (xS X) 0 0 (eF E)) σ 17 [] [vI v0] := by
  have hh1 : 1 ≤ hN := by omega
  replace h : Q v0 σ := h
  exact j_iret hc hr cv0 h dX10_told_17
set_option maxRecDepth 20000 in
theorem c_X10_told {l : Launch} {E : ev_E} (hE : Eok E) (hm : eM E = 1) {a1 : Int} (ca1 : wr a1 = a1) {σ : st_S} {Q : Int → st_S → Prop} (h : wp_X10_told a1 σ Q) : cM l yX10_told cX10_told 2 (some .int) E 2 0 0 [vR E 0, vI a1] σ (qI E (gN σ + 0) Q) := by
  refine cM_of (lv := [(0, vR E 0), (1, vI a1)]) (by decide) hE (Nat.le_of_ble_eq_true rfl) (rfl) ?_
  intro X hX hc _ _ hr _ _
  subst hX
  have hh : 2 ≤ 2 := Nat.le_refl _
  have hh1 : 1 ≤ 2 := by omega
  replace h : (0 ≤ a1 → wp_X10_accept a1 σ (fun r5 s6 => B_X10_told_17 Q r5 s6)) ∧ (¬ 0 ≤ a1 → wp_X10_refuse a1 σ (fun r7 s8 => B_X10_told_17 Q r7 s8)) := h
  refine j_iload_n hc 1 dX10_told_0 rfl rfl ?_
  refine j_if_ge hc ca1 (tgt := 12) dX10_told_1 (by decide) (fun q9 => ?_) (fun q9 => ?_)
  · replace h := h.1 q9
    refine j_aload_nR hc 0 dX10_told_12 rfl rfl ?_
    refine j_iload_n hc 1 dX10_told_13 rfl rfl ?_
    refine j_vI hc (k := 10) (by decide) (fun hv => Or.inl (sv_k hv hm rfl)) ml_RX10_111 mv_X10_accept (As := [vI a1]) (c_X10_accept (cx_E hc) hm ca1 h) rfl (by omega) (by decide) ⟨Nat.zero_le _, Nat.zero_le _⟩ (Nat.le_of_ble_eq_true rfl) rfl dX10_told_14 (fun r5 s6 cr5 h => ?_)
    refine j_sub (lv' := []) [] rfl ?_
    exact jb_X10_told_17 hc hm hr hh cr5 h
  · replace h := h.2 q9
    refine j_aload_nR hc 0 dX10_told_4 rfl rfl ?_
    refine j_iload_n hc 1 dX10_told_5 rfl rfl ?_
    refine j_vI hc (k := 10) (by decide) (fun hv => Or.inl (sv_k hv hm rfl)) ml_RX10_96 mv_X10_refuse (As := [vI a1]) (c_X10_refuse (cx_E hc) hm ca1 h) rfl (by omega) (by decide) ⟨Nat.zero_le _, Nat.zero_le _⟩ (Nat.le_of_ble_eq_true rfl) rfl dX10_told_6 (fun r7 s8 cr7 h => ?_)
    refine j_goto (tgt := 17) hc dX10_told_9 (by decide) ?_
    refine j_sub (lv' := []) [] rfl ?_
    exact jb_X10_told_17 hc hm hr hh cr7 h
-- LitStrangers.send(I)I
theorem dX10_send_0 : decode cX10_send 0 = .ok (.aload_n 0, 1) := by decide +kernel
theorem dX10_send_1 : decode cX10_send 1 = .ok (.aload_n 0, 1) := by decide +kernel
theorem dX10_send_2 : decode cX10_send 2 = .ok (.getfield 66, 3) := by decide +kernel
theorem dX10_send_5 : decode cX10_send 5 = .ok (.iload_n 1, 1) := by decide +kernel
theorem dX10_send_6 : decode cX10_send 6 = .ok (.invokevirtual 223, 3) := by decide +kernel
theorem dX10_send_9 : decode cX10_send 9 = .ok (.invokevirtual 226, 3) := by decide +kernel
theorem dX10_send_12 : decode cX10_send 12 = .ok (.ireturn, 1) := by decide +kernel
def wp_X10_send (a1 : Int) (σ : st_S) (Q : Int → st_S → Prop) : Prop := wp_X2_summon a1 σ (fun r5 s6 => wp_X10_told r5 s6 (fun r7 s8 => Q r7 s8))
set_option maxRecDepth 20000 in
theorem c_X10_send {l : Launch} {E : ev_E} (hE : Eok E) (hm : eM E = 1) {a1 : Int} (ca1 : wr a1 = a1) {σ : st_S} {Q : Int → st_S → Prop} (h : wp_X10_send a1 σ Q) : cM l yX10_send cX10_send 2 (some .int) E 6 0 0 [vR E 0, vI a1] σ (qI E (gN σ + 0) Q) := by
  refine cM_of (lv := [(0, vR E 0), (1, vI a1)]) (by decide) hE (Nat.le_of_ble_eq_true rfl) (rfl) ?_
  intro X hX hc _ _ hr _ _
  subst hX
  have hh : 6 ≤ 6 := Nat.le_refl _
  have hh1 : 1 ≤ 6 := by omega
  replace h : wp_X2_summon a1 σ (fun r5 s6 => wp_X10_told r5 s6 (fun r7 s8 => Q r7 s8)) := h
  refine j_aload_nR hc 0 dX10_send_0 rfl rfl ?_
  refine j_aload_nR hc 0 dX10_send_1 rfl rfl ?_
  refine j_getR (c' := 41) hc fl_RX10_66 rfl rfl (fun hv => (sv_k hv hm rfl)) dX10_send_2 ?_
  refine j_iload_n hc 1 dX10_send_5 rfl rfl ?_
  refine j_vI hc (k := 2) (by decide) (fun hv => Or.inl (sv_k hv hm rfl)) ml_RX10_223 mv_X2_summon (As := [vI a1]) (c_X2_summon (cx_E hc) hm ca1 h) rfl (by omega) (by decide) ⟨Nat.zero_le _, Nat.zero_le _⟩ (Nat.le_of_ble_eq_true rfl) rfl dX10_send_6 (fun r5 s6 cr5 h => ?_)
  refine j_vI hc (k := 10) (by decide) (fun hv => Or.inl (sv_k hv hm rfl)) ml_RX10_226 mv_X10_told (As := [vI r5]) (c_X10_told (cx_E hc) hm cr5 h) rfl (by omega) (by decide) ⟨Nat.zero_le _, Nat.zero_le _⟩ (Nat.le_of_ble_eq_true rfl) rfl dX10_send_9 (fun r7 s8 cr7 h => ?_)
  exact j_iret hc hr cr7 h dX10_send_12
-- LitStrangers.light(I)I
theorem dX10_light_0 : decode cX10_light 0 = .ok (.aload_n 0, 1) := by decide +kernel
theorem dX10_light_1 : decode cX10_light 1 = .ok (.aload_n 0, 1) := by decide +kernel
theorem dX10_light_2 : decode cX10_light 2 = .ok (.getfield 66, 3) := by decide +kernel
theorem dX10_light_5 : decode cX10_light 5 = .ok (.iload_n 1, 1) := by decide +kernel
theorem dX10_light_6 : decode cX10_light 6 = .ok (.invokevirtual 229, 3) := by decide +kernel
theorem dX10_light_9 : decode cX10_light 9 = .ok (.invokevirtual 226, 3) := by decide +kernel
theorem dX10_light_12 : decode cX10_light 12 = .ok (.ireturn, 1) := by decide +kernel
def wp_X10_light (a1 : Int) (σ : st_S) (Q : Int → st_S → Prop) : Prop := wp_X2_kindle a1 σ (fun r5 s6 => wp_X10_told r5 s6 (fun r7 s8 => Q r7 s8))
set_option maxRecDepth 20000 in
theorem c_X10_light {l : Launch} {E : ev_E} (hE : Eok E) (hm : eM E = 1) {a1 : Int} (ca1 : wr a1 = a1) {σ : st_S} {Q : Int → st_S → Prop} (h : wp_X10_light a1 σ Q) : cM l yX10_light cX10_light 2 (some .int) E 7 0 0 [vR E 0, vI a1] σ (qI E (gN σ + 0) Q) := by
  refine cM_of (lv := [(0, vR E 0), (1, vI a1)]) (by decide) hE (Nat.le_of_ble_eq_true rfl) (rfl) ?_
  intro X hX hc _ _ hr _ _
  subst hX
  have hh : 7 ≤ 7 := Nat.le_refl _
  have hh1 : 1 ≤ 7 := by omega
  replace h : wp_X2_kindle a1 σ (fun r5 s6 => wp_X10_told r5 s6 (fun r7 s8 => Q r7 s8)) := h
  refine j_aload_nR hc 0 dX10_light_0 rfl rfl ?_
  refine j_aload_nR hc 0 dX10_light_1 rfl rfl ?_
  refine j_getR (c' := 41) hc fl_RX10_66 rfl rfl (fun hv => (sv_k hv hm rfl)) dX10_light_2 ?_
  refine j_iload_n hc 1 dX10_light_5 rfl rfl ?_
  refine j_vI hc (k := 2) (by decide) (fun hv => Or.inl (sv_k hv hm rfl)) ml_RX10_229 mv_X2_kindle (As := [vI a1]) (c_X2_kindle (cx_E hc) hm ca1 h) rfl (by omega) (by decide) ⟨Nat.zero_le _, Nat.zero_le _⟩ (Nat.le_of_ble_eq_true rfl) rfl dX10_light_6 (fun r5 s6 cr5 h => ?_)
  refine j_vI hc (k := 10) (by decide) (fun hv => Or.inl (sv_k hv hm rfl)) ml_RX10_226 mv_X10_told (As := [vI r5]) (c_X10_told (cx_E hc) hm cr5 h) rfl (by omega) (by decide) ⟨Nat.zero_le _, Nat.zero_le _⟩ (Nat.le_of_ble_eq_true rfl) rfl dX10_light_9 (fun r7 s8 cr7 h => ?_)
  exact j_iret hc hr cr7 h dX10_light_12
-- LitStrangers.dark()I
theorem dX10_dark_0 : decode cX10_dark 0 = .ok (.aload_n 0, 1) := by decide +kernel
theorem dX10_dark_1 : decode cX10_dark 1 = .ok (.aload_n 0, 1) := by decide +kernel
theorem dX10_dark_2 : decode cX10_dark 2 = .ok (.getfield 66, 3) := by decide +kernel
theorem dX10_dark_5 : decode cX10_dark 5 = .ok (.invokevirtual 232, 3) := by decide +kernel
theorem dX10_dark_8 : decode cX10_dark 8 = .ok (.invokevirtual 226, 3) := by decide +kernel
theorem dX10_dark_11 : decode cX10_dark 11 = .ok (.ireturn, 1) := by decide +kernel
def wp_X10_dark  (σ : st_S) (Q : Int → st_S → Prop) : Prop := wp_X2_idle σ (fun r5 s6 => wp_X10_told r5 s6 (fun r7 s8 => Q r7 s8))
set_option maxRecDepth 20000 in
theorem c_X10_dark {l : Launch} {E : ev_E} (hE : Eok E) (hm : eM E = 1) {σ : st_S} {Q : Int → st_S → Prop} (h : wp_X10_dark σ Q) : cM l yX10_dark cX10_dark 1 (some .int) E 7 0 0 [vR E 0] σ (qI E (gN σ + 0) Q) := by
  refine cM_of (lv := [(0, vR E 0)]) (by decide) hE (Nat.le_of_ble_eq_true rfl) (rfl) ?_
  intro X hX hc _ _ hr _ _
  subst hX
  have hh : 7 ≤ 7 := Nat.le_refl _
  have hh1 : 1 ≤ 7 := by omega
  replace h : wp_X2_idle σ (fun r5 s6 => wp_X10_told r5 s6 (fun r7 s8 => Q r7 s8)) := h
  refine j_aload_nR hc 0 dX10_dark_0 rfl rfl ?_
  refine j_aload_nR hc 0 dX10_dark_1 rfl rfl ?_
  refine j_getR (c' := 41) hc fl_RX10_66 rfl rfl (fun hv => (sv_k hv hm rfl)) dX10_dark_2 ?_
  refine j_vI hc (k := 2) (by decide) (fun hv => Or.inl (sv_k hv hm rfl)) ml_RX10_232 mv_X2_idle (As := []) (c_X2_idle (cx_E hc) hm  h) rfl (by omega) (by decide) ⟨Nat.zero_le _, Nat.zero_le _⟩ (Nat.le_of_ble_eq_true rfl) rfl dX10_dark_5 (fun r5 s6 cr5 h => ?_)
  refine j_vI hc (k := 10) (by decide) (fun hv => Or.inl (sv_k hv hm rfl)) ml_RX10_226 mv_X10_told (As := [vI r5]) (c_X10_told (cx_E hc) hm cr5 h) rfl (by omega) (by decide) ⟨Nat.zero_le _, Nat.zero_le _⟩ (Nat.le_of_ble_eq_true rfl) rfl dX10_dark_8 (fun r7 s8 cr7 h => ?_)
  exact j_iret hc hr cr7 h dX10_dark_11
-- LitStrangers.undo()I
theorem dX10_undo_0 : decode cX10_undo 0 = .ok (.aload_n 0, 1) := by decide +kernel
theorem dX10_undo_1 : decode cX10_undo 1 = .ok (.getfield 63, 3) := by decide +kernel
theorem dX10_undo_4 : decode cX10_undo 4 = .ok (.aload_n 0, 1) := by decide +kernel
theorem dX10_undo_5 : decode cX10_undo 5 = .ok (.getfield 56, 3) := by decide +kernel
theorem dX10_undo_8 : decode cX10_undo 8 = .ok (.invokevirtual 236, 3) := by decide +kernel
theorem dX10_undo_11 : decode cX10_undo 11 = .ok (.istore_n 1, 1) := by decide +kernel
theorem dX10_undo_12 : decode cX10_undo 12 = .ok (.iload_n 1, 1) := by decide +kernel
theorem dX10_undo_13 : decode cX10_undo 13 = .ok (.iconst (-1), 1) := by decide +kernel
theorem dX10_undo_14 : decode cX10_undo 14 = .ok (.if_icmp .ne 12, 3) := by decide +kernel
theorem dX10_undo_17 : decode cX10_undo 17 = .ok (.aload_n 0, 1) := by decide +kernel
theorem dX10_undo_18 : decode cX10_undo 18 = .ok (.bipush (-3), 2) := by decide +kernel
theorem dX10_undo_20 : decode cX10_undo 20 = .ok (.invokevirtual 96, 3) := by decide +kernel
theorem dX10_undo_23 : decode cX10_undo 23 = .ok (.goto 8, 3) := by decide +kernel
theorem dX10_undo_26 : decode cX10_undo 26 = .ok (.aload_n 0, 1) := by decide +kernel
theorem dX10_undo_27 : decode cX10_undo 27 = .ok (.iload_n 1, 1) := by decide +kernel
theorem dX10_undo_28 : decode cX10_undo 28 = .ok (.invokevirtual 111, 3) := by decide +kernel
theorem dX10_undo_31 : decode cX10_undo 31 = .ok (.ireturn, 1) := by decide +kernel
def B_X10_undo_31 (Q : Int → st_S → Prop)   (v0 : Int) (σ : st_S) : Prop := Q v0 σ
def wp_X10_undo  (σ : st_S) (Q : Int → st_S → Prop) : Prop := wp_X4_takeBack σ (fun r8 s9 => (¬ r8 = (-1) → wp_X10_accept r8 s9 (fun r10 s11 => B_X10_undo_31 Q r10 s11)) ∧ (r8 = (-1) → wp_X10_refuse (-3) s9 (fun r12 s13 => B_X10_undo_31 Q r12 s13)))
set_option maxRecDepth 20000 in
theorem jb_X10_undo_31 {X : jj_X} {E : ev_E} {n0 hN : Nat} (hc : Cx X E cX10_undo 2 n0 hN RX10) (hm : eM E = 1) (hr : (xT X).sig.returnType = (some .int)) (hh : 4 ≤ hN) {Q : Int → st_S → Prop} {v0 : Int} (cv0 : wr v0 = v0) {σ : st_S} (h : B_X10_undo_31 Q v0 σ) : J X E 2 n0 0 0 (MQ (xB X) (qI E (n0 + 0) Q) (xA X) (xS X) 0 0 (eF E)) σ 31 [] [vI v0] := by
  have hh1 : 1 ≤ hN := by omega
  replace h : Q v0 σ := h
  exact j_iret hc hr cv0 h dX10_undo_31
set_option maxRecDepth 20000 in
theorem c_X10_undo {l : Launch} {E : ev_E} (hE : Eok E) (hm : eM E = 1) {σ : st_S} {Q : Int → st_S → Prop} (h : wp_X10_undo σ Q) : cM l yX10_undo cX10_undo 2 (some .int) E 4 0 0 [vR E 0] σ (qI E (gN σ + 0) Q) := by
  refine cM_of (lv := [(0, vR E 0)]) (by decide) hE (Nat.le_of_ble_eq_true rfl) (rfl) ?_
  intro X hX hc _ _ hr _ _
  subst hX
  have hh : 4 ≤ 4 := Nat.le_refl _
  have hh1 : 1 ≤ 4 := by omega
  replace h : wp_X4_takeBack σ (fun r8 s9 => (¬ r8 = (-1) → wp_X10_accept r8 s9 (fun r10 s11 => B_X10_undo_31 Q r10 s11)) ∧ (r8 = (-1) → wp_X10_refuse (-3) s9 (fun r12 s13 => B_X10_undo_31 Q r12 s13))) := h
  refine j_aload_nR hc 0 dX10_undo_0 rfl rfl ?_
  refine j_getR (c' := 39) hc fl_RX10_63 rfl rfl (fun hv => (sv_k hv hm rfl)) dX10_undo_1 ?_
  refine j_aload_nR hc 0 dX10_undo_4 rfl rfl ?_
  refine j_getR (c' := 25) hc fl_RX10_56 rfl rfl (fun hv => (sv_k hv hm rfl)) dX10_undo_5 ?_
  refine j_vI hc (k := 4) (by decide) (fun hv => Or.inl (sv_k hv hm rfl)) ml_RX10_236 mv_X4_takeBack (As := [vR E 25]) (c_X4_takeBack (cx_E hc) hm  h) rfl (by omega) (by decide) ⟨Nat.zero_le _, Nat.zero_le _⟩ (Nat.le_of_ble_eq_true rfl) rfl dX10_undo_8 (fun r8 s9 cr8 h => ?_)
  refine j_istore_n (lv' := [(1, vI r8), (0, vR E 0)]) hc dX10_undo_11 rfl (by decide) rfl ?_
  refine j_iload_n hc 0 dX10_undo_12 rfl rfl ?_
  refine j_iconst hc dX10_undo_13 ?_
  refine j_ic_ne hc cr8 (wlit (-1) (by decide)) (tgt := 26) dX10_undo_14 (by decide) (fun q14 => ?_) (fun q14 => ?_)
  · replace h := h.1 q14
    refine j_aload_nR hc 1 dX10_undo_26 rfl rfl ?_
    refine j_iload_n hc 0 dX10_undo_27 rfl rfl ?_
    refine j_vI hc (k := 10) (by decide) (fun hv => Or.inl (sv_k hv hm rfl)) ml_RX10_111 mv_X10_accept (As := [vI r8]) (c_X10_accept (cx_E hc) hm cr8 h) rfl (by omega) (by decide) ⟨Nat.zero_le _, Nat.zero_le _⟩ (Nat.le_of_ble_eq_true rfl) rfl dX10_undo_28 (fun r10 s11 cr10 h => ?_)
    refine j_sub (lv' := []) [] rfl ?_
    exact jb_X10_undo_31 hc hm hr hh cr10 h
  · replace h := h.2 q14
    refine j_aload_nR hc 1 dX10_undo_17 rfl rfl ?_
    refine j_bipush hc dX10_undo_18 (by decide) ?_
    refine j_vI hc (k := 10) (by decide) (fun hv => Or.inl (sv_k hv hm rfl)) ml_RX10_96 mv_X10_refuse (As := [vI (-3)]) (c_X10_refuse (cx_E hc) hm (wlit (-3) (by decide)) h) rfl (by omega) (by decide) ⟨Nat.zero_le _, Nat.zero_le _⟩ (Nat.le_of_ble_eq_true rfl) rfl dX10_undo_20 (fun r12 s13 cr12 h => ?_)
    refine j_goto (tgt := 31) hc dX10_undo_23 (by decide) ?_
    refine j_sub (lv' := []) [] rfl ?_
    exact jb_X10_undo_31 hc hm hr hh cr12 h
-- LitStrangers.last(I)I
theorem dX10_last_0 : decode cX10_last 0 = .ok (.aload_n 0, 1) := by decide +kernel
theorem dX10_last_1 : decode cX10_last 1 = .ok (.getfield 79, 3) := by decide +kernel
theorem dX10_last_4 : decode cX10_last 4 = .ok (.invokevirtual 240, 3) := by decide +kernel
theorem dX10_last_7 : decode cX10_last 7 = .ok (.aload_n 0, 1) := by decide +kernel
theorem dX10_last_8 : decode cX10_last 8 = .ok (.getfield 88, 3) := by decide +kernel
theorem dX10_last_11 : decode cX10_last 11 = .ok (.aload_n 0, 1) := by decide +kernel
theorem dX10_last_12 : decode cX10_last 12 = .ok (.getfield 79, 3) := by decide +kernel
theorem dX10_last_15 : decode cX10_last 15 = .ok (.getfield 243, 3) := by decide +kernel
theorem dX10_last_18 : decode cX10_last 18 = .ok (.invokevirtual 246, 3) := by decide +kernel
theorem dX10_last_21 : decode cX10_last 21 = .ok (.istore_n 2, 1) := by decide +kernel
theorem dX10_last_22 : decode cX10_last 22 = .ok (.iload_n 1, 1) := by decide +kernel
theorem dX10_last_23 : decode cX10_last 23 = .ok (.iconst (-1), 1) := by decide +kernel
theorem dX10_last_24 : decode cX10_last 24 = .ok (.if_icmp .ne 7, 3) := by decide +kernel
theorem dX10_last_27 : decode cX10_last 27 = .ok (.iload_n 2, 1) := by decide +kernel
theorem dX10_last_28 : decode cX10_last 28 = .ok (.goto 12, 3) := by decide +kernel
theorem dX10_last_31 : decode cX10_last 31 = .ok (.aload_n 0, 1) := by decide +kernel
theorem dX10_last_32 : decode cX10_last 32 = .ok (.getfield 88, 3) := by decide +kernel
theorem dX10_last_35 : decode cX10_last 35 = .ok (.iload_n 1, 1) := by decide +kernel
theorem dX10_last_36 : decode cX10_last 36 = .ok (.iload_n 2, 1) := by decide +kernel
theorem dX10_last_37 : decode cX10_last 37 = .ok (.invokevirtual 249, 3) := by decide +kernel
theorem dX10_last_40 : decode cX10_last 40 = .ok (.ireturn, 1) := by decide +kernel
def B_X10_last_40 (Q : Int → st_S → Prop)   (v0 : Int) (σ : st_S) : Prop := Q v0 σ
def wp_X10_last (a1 : Int) (σ : st_S) (Q : Int → st_S → Prop) : Prop := wp_X5_prepare σ (fun s10 => wp_X8_longest (gI s10 42 0) s10 (fun r12 s13 => (¬ a1 = (-1) → wp_X8_crewOf a1 r12 s13 (fun r14 s15 => B_X10_last_40 Q r14 s15)) ∧ (a1 = (-1) → B_X10_last_40 Q r12 s13)))
set_option maxRecDepth 20000 in
theorem jb_X10_last_40 {X : jj_X} {E : ev_E} {n0 hN : Nat} (hc : Cx X E cX10_last 3 n0 hN RX10) (hm : eM E = 1) (hr : (xT X).sig.returnType = (some .int)) (hh : 24 ≤ hN) {Q : Int → st_S → Prop} {v0 : Int} (cv0 : wr v0 = v0) {σ : st_S} (h : B_X10_last_40 Q v0 σ) : J X E 3 n0 0 0 (MQ (xB X) (qI E (n0 + 0) Q) (xA X) (xS X) 0 0 (eF E)) σ 40 [] [vI v0] := by
  have hh1 : 1 ≤ hN := by omega
  replace h : Q v0 σ := h
  exact j_iret hc hr cv0 h dX10_last_40
set_option maxRecDepth 20000 in
theorem c_X10_last {l : Launch} {E : ev_E} (hE : Eok E) (hm : eM E = 1) {a1 : Int} (ca1 : wr a1 = a1) {σ : st_S} {Q : Int → st_S → Prop} (h : wp_X10_last a1 σ Q) : cM l yX10_last cX10_last 3 (some .int) E 24 0 0 [vR E 0, vI a1] σ (qI E (gN σ + 0) Q) := by
  refine cM_of (lv := [(0, vR E 0), (1, vI a1)]) (by decide) hE (Nat.le_of_ble_eq_true rfl) (rfl) ?_
  intro X hX hc _ _ hr _ _
  subst hX
  have hh : 24 ≤ 24 := Nat.le_refl _
  have hh1 : 1 ≤ 24 := by omega
  replace h : wp_X5_prepare σ (fun s10 => wp_X8_longest (gI s10 42 0) s10 (fun r12 s13 => (¬ a1 = (-1) → wp_X8_crewOf a1 r12 s13 (fun r14 s15 => B_X10_last_40 Q r14 s15)) ∧ (a1 = (-1) → B_X10_last_40 Q r12 s13))) := h
  refine j_aload_nR hc 0 dX10_last_0 rfl rfl ?_
  refine j_getR (c' := 42) hc fl_RX10_79 rfl rfl (fun hv => (sv_k hv hm rfl)) dX10_last_1 ?_
  refine j_vV hc (k := 5) (by decide) (fun hv => Or.inl (sv_k hv hm rfl)) ml_RX10_240 mv_X5_prepare (As := []) (c_X5_prepare (cx_E hc) hm  h) rfl (by omega) (by decide) ⟨Nat.zero_le _, Nat.zero_le _⟩ (Nat.le_of_ble_eq_true rfl) rfl dX10_last_4 (fun s10 h => ?_)
  refine j_aload_nR hc 0 dX10_last_7 rfl rfl ?_
  refine j_getR (c' := 56) hc fl_RX10_88 rfl rfl (fun hv => (sv_k hv hm rfl)) dX10_last_8 ?_
  refine j_aload_nR hc 0 dX10_last_11 rfl rfl ?_
  refine j_getR (c' := 42) hc fl_RX10_79 rfl rfl (fun hv => (sv_k hv hm rfl)) dX10_last_12 ?_
  refine j_getI hc fl_RX10_243 (Or.inl rfl) (fun hv => Or.inl (sv_k hv hm rfl)) dX10_last_15 (fun cn11 => ?_)
  refine j_vI hc (k := 8) (by decide) (fun hv => Or.inl (sv_k hv hm rfl)) ml_RX10_246 mv_X8_longest (As := [vI (gI s10 42 0)]) (c_X8_longest (cx_E hc) hm cn11 h) rfl (by omega) (by decide) ⟨Nat.zero_le _, Nat.zero_le _⟩ (Nat.le_of_ble_eq_true rfl) rfl dX10_last_18 (fun r12 s13 cr12 h => ?_)
  refine j_istore_n (lv' := [(2, vI r12), (0, vR E 0), (1, vI a1)]) hc dX10_last_21 rfl (by decide) rfl ?_
  refine j_iload_n hc 2 dX10_last_22 rfl rfl ?_
  refine j_iconst hc dX10_last_23 ?_
  refine j_ic_ne hc ca1 (wlit (-1) (by decide)) (tgt := 31) dX10_last_24 (by decide) (fun q16 => ?_) (fun q16 => ?_)
  · replace h := h.1 q16
    refine j_aload_nR hc 1 dX10_last_31 rfl rfl ?_
    refine j_getR (c' := 56) hc fl_RX10_88 rfl rfl (fun hv => (sv_k hv hm rfl)) dX10_last_32 ?_
    refine j_iload_n hc 2 dX10_last_35 rfl rfl ?_
    refine j_iload_n hc 0 dX10_last_36 rfl rfl ?_
    refine j_vI hc (k := 8) (by decide) (fun hv => Or.inl (sv_k hv hm rfl)) ml_RX10_249 mv_X8_crewOf (As := [vI a1, vI r12]) (c_X8_crewOf (cx_E hc) hm ca1 cr12 h) rfl (by omega) (by decide) ⟨Nat.zero_le _, Nat.zero_le _⟩ (Nat.le_of_ble_eq_true rfl) rfl dX10_last_37 (fun r14 s15 cr14 h => ?_)
    refine j_sub (lv' := []) [] rfl ?_
    exact jb_X10_last_40 hc hm hr hh cr14 h
  · replace h := h.2 q16
    refine j_iload_n hc 0 dX10_last_27 rfl rfl ?_
    refine j_goto (tgt := 40) hc dX10_last_28 (by decide) ?_
    refine j_sub (lv' := []) [] rfl ?_
    exact jb_X10_last_40 hc hm hr hh cr12 h
-- LitStrangers.cheap(II)I
theorem dX10_cheap_0 : decode cX10_cheap 0 = .ok (.iload_n 1, 1) := by decide +kernel
theorem dX10_cheap_1 : decode cX10_cheap 1 = .ok (.iconst 1, 1) := by decide +kernel
theorem dX10_cheap_2 : decode cX10_cheap 2 = .ok (.if_icmp .lt 9, 3) := by decide +kernel
theorem dX10_cheap_5 : decode cX10_cheap 5 = .ok (.iload_n 1, 1) := by decide +kernel
theorem dX10_cheap_6 : decode cX10_cheap 6 = .ok (.bipush 10, 2) := by decide +kernel
theorem dX10_cheap_8 : decode cX10_cheap 8 = .ok (.if_icmp .le 5, 3) := by decide +kernel
theorem dX10_cheap_11 : decode cX10_cheap 11 = .ok (.iconst (-1), 1) := by decide +kernel
theorem dX10_cheap_12 : decode cX10_cheap 12 = .ok (.ireturn, 1) := by decide +kernel
theorem dX10_cheap_13 : decode cX10_cheap 13 = .ok (.aload_n 0, 1) := by decide +kernel
theorem dX10_cheap_14 : decode cX10_cheap 14 = .ok (.getfield 79, 3) := by decide +kernel
theorem dX10_cheap_17 : decode cX10_cheap 17 = .ok (.invokevirtual 240, 3) := by decide +kernel
theorem dX10_cheap_20 : decode cX10_cheap 20 = .ok (.aload_n 0, 1) := by decide +kernel
theorem dX10_cheap_21 : decode cX10_cheap 21 = .ok (.getfield 79, 3) := by decide +kernel
theorem dX10_cheap_24 : decode cX10_cheap 24 = .ok (.invokevirtual 252, 3) := by decide +kernel
theorem dX10_cheap_27 : decode cX10_cheap 27 = .ok (.aload_n 0, 1) := by decide +kernel
theorem dX10_cheap_28 : decode cX10_cheap 28 = .ok (.getfield 88, 3) := by decide +kernel
theorem dX10_cheap_31 : decode cX10_cheap 31 = .ok (.iload_n 1, 1) := by decide +kernel
theorem dX10_cheap_32 : decode cX10_cheap 32 = .ok (.invokevirtual 255, 3) := by decide +kernel
theorem dX10_cheap_35 : decode cX10_cheap 35 = .ok (.istore_n 3, 1) := by decide +kernel
theorem dX10_cheap_36 : decode cX10_cheap 36 = .ok (.iload_n 2, 1) := by decide +kernel
theorem dX10_cheap_37 : decode cX10_cheap 37 = .ok (.iconst (-1), 1) := by decide +kernel
theorem dX10_cheap_38 : decode cX10_cheap 38 = .ok (.if_icmp .eq 8, 3) := by decide +kernel
theorem dX10_cheap_41 : decode cX10_cheap 41 = .ok (.iload_n 3, 1) := by decide +kernel
theorem dX10_cheap_42 : decode cX10_cheap 42 = .ok (.iconst (-1), 1) := by decide +kernel
theorem dX10_cheap_43 : decode cX10_cheap 43 = .ok (.if_icmp .ne 5, 3) := by decide +kernel
theorem dX10_cheap_46 : decode cX10_cheap 46 = .ok (.iload_n 3, 1) := by decide +kernel
theorem dX10_cheap_47 : decode cX10_cheap 47 = .ok (.ireturn, 1) := by decide +kernel
theorem dX10_cheap_48 : decode cX10_cheap 48 = .ok (.aload_n 0, 1) := by decide +kernel
theorem dX10_cheap_49 : decode cX10_cheap 49 = .ok (.getfield 88, 3) := by decide +kernel
theorem dX10_cheap_52 : decode cX10_cheap 52 = .ok (.iload_n 2, 1) := by decide +kernel
theorem dX10_cheap_53 : decode cX10_cheap 53 = .ok (.iload_n 1, 1) := by decide +kernel
theorem dX10_cheap_54 : decode cX10_cheap 54 = .ok (.invokevirtual 249, 3) := by decide +kernel
theorem dX10_cheap_57 : decode cX10_cheap 57 = .ok (.ireturn, 1) := by decide +kernel
def B_X10_cheap_11 (Q : Int → st_S → Prop)    (σ : st_S) : Prop := Q (-1) σ
def B_X10_cheap_46 (Q : Int → st_S → Prop)   (l3 : Int) (σ : st_S) : Prop := Q l3 σ
def wp_X10_cheap (a1 : Int) (a2 : Int) (σ : st_S) (Q : Int → st_S → Prop) : Prop := (a1 < 1 → B_X10_cheap_11 Q σ) ∧ (¬ a1 < 1 → (a1 ≤ 10 → wp_X5_prepare σ (fun s11 => wp_X5_askPrices s11 (fun s13 => wp_X8_cheapest a1 s13 (fun r14 s15 => (a2 = (-1) → B_X10_cheap_46 Q r14 s15) ∧ (¬ a2 = (-1) → (¬ r14 = (-1) → wp_X8_crewOf a2 a1 s15 (fun r16 s17 => Q r16 s17)) ∧ (r14 = (-1) → B_X10_cheap_46 Q r14 s15)))))) ∧ (¬ a1 ≤ 10 → B_X10_cheap_11 Q σ))
set_option maxRecDepth 20000 in
theorem jb_X10_cheap_11 {X : jj_X} {E : ev_E} {n0 hN : Nat} (hc : Cx X E cX10_cheap 4 n0 hN RX10) (hm : eM E = 1) (hr : (xT X).sig.returnType = (some .int)) (hh : 24 ≤ hN) {Q : Int → st_S → Prop} {σ : st_S} (h : B_X10_cheap_11 Q σ) : J X E 4 n0 0 0 (MQ (xB X) (qI E (n0 + 0) Q) (xA X) (xS X) 0 0 (eF E)) σ 11 [] [] := by
  have hh1 : 1 ≤ hN := by omega
  replace h : Q (-1) σ := h
  refine j_iconst hc dX10_cheap_11 ?_
  exact j_iret hc hr (wlit (-1) (by decide)) h dX10_cheap_12
set_option maxRecDepth 20000 in
theorem jb_X10_cheap_46 {X : jj_X} {E : ev_E} {n0 hN : Nat} (hc : Cx X E cX10_cheap 4 n0 hN RX10) (hm : eM E = 1) (hr : (xT X).sig.returnType = (some .int)) (hh : 24 ≤ hN) {Q : Int → st_S → Prop} {l3 : Int} (cl3 : wr l3 = l3) {σ : st_S} (h : B_X10_cheap_46 Q l3 σ) : J X E 4 n0 0 0 (MQ (xB X) (qI E (n0 + 0) Q) (xA X) (xS X) 0 0 (eF E)) σ 46 [(3, vI l3)] [] := by
  have hh1 : 1 ≤ hN := by omega
  replace h : Q l3 σ := h
  refine j_iload_n hc 0 dX10_cheap_46 rfl rfl ?_
  exact j_iret hc hr cl3 h dX10_cheap_47
set_option maxRecDepth 20000 in
theorem c_X10_cheap {l : Launch} {E : ev_E} (hE : Eok E) (hm : eM E = 1) {a1 : Int} {a2 : Int} (ca1 : wr a1 = a1) (ca2 : wr a2 = a2) {σ : st_S} {Q : Int → st_S → Prop} (h : wp_X10_cheap a1 a2 σ Q) : cM l yX10_cheap cX10_cheap 4 (some .int) E 24 0 0 [vR E 0, vI a1, vI a2] σ (qI E (gN σ + 0) Q) := by
  refine cM_of (lv := [(0, vR E 0), (1, vI a1), (2, vI a2)]) (by decide) hE (Nat.le_of_ble_eq_true rfl) (rfl) ?_
  intro X hX hc _ _ hr _ _
  subst hX
  have hh : 24 ≤ 24 := Nat.le_refl _
  have hh1 : 1 ≤ 24 := by omega
  replace h : (a1 < 1 → B_X10_cheap_11 Q σ) ∧ (¬ a1 < 1 → (a1 ≤ 10 → wp_X5_prepare σ (fun s11 => wp_X5_askPrices s11 (fun s13 => wp_X8_cheapest a1 s13 (fun r14 s15 => (a2 = (-1) → B_X10_cheap_46 Q r14 s15) ∧ (¬ a2 = (-1) → (¬ r14 = (-1) → wp_X8_crewOf a2 a1 s15 (fun r16 s17 => Q r16 s17)) ∧ (r14 = (-1) → B_X10_cheap_46 Q r14 s15)))))) ∧ (¬ a1 ≤ 10 → B_X10_cheap_11 Q σ)) := h
  refine j_iload_n hc 1 dX10_cheap_0 rfl rfl ?_
  refine j_iconst hc dX10_cheap_1 ?_
  refine j_ic_lt hc ca1 (wlit 1 (by decide)) (tgt := 11) dX10_cheap_2 (by decide) (fun q21 => ?_) (fun q21 => ?_)
  · replace h := h.1 q21
    refine j_sub (lv' := []) [] rfl ?_
    exact jb_X10_cheap_11 hc hm hr hh h
  · replace h := h.2 q21
    refine j_iload_n hc 1 dX10_cheap_5 rfl rfl ?_
    refine j_bipush hc dX10_cheap_6 (by decide) ?_
    refine j_ic_le hc ca1 (wlit 10 (by decide)) (tgt := 13) dX10_cheap_8 (by decide) (fun q20 => ?_) (fun q20 => ?_)
    · replace h := h.1 q20
      refine j_aload_nR hc 0 dX10_cheap_13 rfl rfl ?_
      refine j_getR (c' := 42) hc fl_RX10_79 rfl rfl (fun hv => (sv_k hv hm rfl)) dX10_cheap_14 ?_
      refine j_vV hc (k := 5) (by decide) (fun hv => Or.inl (sv_k hv hm rfl)) ml_RX10_240 mv_X5_prepare (As := []) (c_X5_prepare (cx_E hc) hm  h) rfl (by omega) (by decide) ⟨Nat.zero_le _, Nat.zero_le _⟩ (Nat.le_of_ble_eq_true rfl) rfl dX10_cheap_17 (fun s11 h => ?_)
      refine j_aload_nR hc 0 dX10_cheap_20 rfl rfl ?_
      refine j_getR (c' := 42) hc fl_RX10_79 rfl rfl (fun hv => (sv_k hv hm rfl)) dX10_cheap_21 ?_
      refine j_vV hc (k := 5) (by decide) (fun hv => Or.inl (sv_k hv hm rfl)) ml_RX10_252 mv_X5_askPrices (As := []) (c_X5_askPrices (cx_E hc) hm  h) rfl (by omega) (by decide) ⟨Nat.zero_le _, Nat.zero_le _⟩ (Nat.le_of_ble_eq_true rfl) rfl dX10_cheap_24 (fun s13 h => ?_)
      refine j_aload_nR hc 0 dX10_cheap_27 rfl rfl ?_
      refine j_getR (c' := 56) hc fl_RX10_88 rfl rfl (fun hv => (sv_k hv hm rfl)) dX10_cheap_28 ?_
      refine j_iload_n hc 1 dX10_cheap_31 rfl rfl ?_
      refine j_vI hc (k := 8) (by decide) (fun hv => Or.inl (sv_k hv hm rfl)) ml_RX10_255 mv_X8_cheapest (As := [vI a1]) (c_X8_cheapest (cx_E hc) hm ca1 h) rfl (by omega) (by decide) ⟨Nat.zero_le _, Nat.zero_le _⟩ (Nat.le_of_ble_eq_true rfl) rfl dX10_cheap_32 (fun r14 s15 cr14 h => ?_)
      refine j_istore_n (lv' := [(3, vI r14), (0, vR E 0), (1, vI a1), (2, vI a2)]) hc dX10_cheap_35 rfl (by decide) rfl ?_
      refine j_iload_n hc 3 dX10_cheap_36 rfl rfl ?_
      refine j_iconst hc dX10_cheap_37 ?_
      refine j_ic_eq hc ca2 (wlit (-1) (by decide)) (tgt := 46) dX10_cheap_38 (by decide) (fun q19 => ?_) (fun q19 => ?_)
      · replace h := h.1 q19
        refine j_sub (lv' := [(3, vI r14)]) [0] rfl ?_
        exact jb_X10_cheap_46 hc hm hr hh cr14 h
      · replace h := h.2 q19
        refine j_iload_n hc 0 dX10_cheap_41 rfl rfl ?_
        refine j_iconst hc dX10_cheap_42 ?_
        refine j_ic_ne hc cr14 (wlit (-1) (by decide)) (tgt := 48) dX10_cheap_43 (by decide) (fun q18 => ?_) (fun q18 => ?_)
        · replace h := h.1 q18
          refine j_aload_nR hc 1 dX10_cheap_48 rfl rfl ?_
          refine j_getR (c' := 56) hc fl_RX10_88 rfl rfl (fun hv => (sv_k hv hm rfl)) dX10_cheap_49 ?_
          refine j_iload_n hc 3 dX10_cheap_52 rfl rfl ?_
          refine j_iload_n hc 2 dX10_cheap_53 rfl rfl ?_
          refine j_vI hc (k := 8) (by decide) (fun hv => Or.inl (sv_k hv hm rfl)) ml_RX10_249 mv_X8_crewOf (As := [vI a2, vI a1]) (c_X8_crewOf (cx_E hc) hm ca2 ca1 h) rfl (by omega) (by decide) ⟨Nat.zero_le _, Nat.zero_le _⟩ (Nat.le_of_ble_eq_true rfl) rfl dX10_cheap_54 (fun r16 s17 cr16 h => ?_)
          exact j_iret hc hr cr16 h dX10_cheap_57
        · replace h := h.2 q18
          refine j_sub (lv' := [(3, vI r14)]) [0] rfl ?_
          exact jb_X10_cheap_46 hc hm hr hh cr14 h
    · replace h := h.2 q20
      refine j_sub (lv' := []) [] rfl ?_
      exact jb_X10_cheap_11 hc hm hr hh h
-- LitStrangers.ways(I)J
theorem dX10_ways_0 : decode cX10_ways 0 = .ok (.iload_n 1, 1) := by decide +kernel
theorem dX10_ways_1 : decode cX10_ways 1 = .ok (.ifCond .lt 9, 3) := by decide +kernel
theorem dX10_ways_4 : decode cX10_ways 4 = .ok (.iload_n 1, 1) := by decide +kernel
theorem dX10_ways_5 : decode cX10_ways 5 = .ok (.bipush 10, 2) := by decide +kernel
theorem dX10_ways_7 : decode cX10_ways 7 = .ok (.if_icmp .le 7, 3) := by decide +kernel
theorem dX10_ways_10 : decode cX10_ways 10 = .ok (.ldc2_w 258, 3) := by decide +kernel
theorem dX10_ways_13 : decode cX10_ways 13 = .ok (.lreturn, 1) := by decide +kernel
theorem dX10_ways_14 : decode cX10_ways 14 = .ok (.aload_n 0, 1) := by decide +kernel
theorem dX10_ways_15 : decode cX10_ways 15 = .ok (.getfield 79, 3) := by decide +kernel
theorem dX10_ways_18 : decode cX10_ways 18 = .ok (.invokevirtual 240, 3) := by decide +kernel
theorem dX10_ways_21 : decode cX10_ways 21 = .ok (.aload_n 0, 1) := by decide +kernel
theorem dX10_ways_22 : decode cX10_ways 22 = .ok (.getfield 88, 3) := by decide +kernel
theorem dX10_ways_25 : decode cX10_ways 25 = .ok (.iload_n 1, 1) := by decide +kernel
theorem dX10_ways_26 : decode cX10_ways 26 = .ok (.invokevirtual 260, 3) := by decide +kernel
theorem dX10_ways_29 : decode cX10_ways 29 = .ok (.lreturn, 1) := by decide +kernel
def B_X10_ways_10 (Q : Int → st_S → Prop)    (σ : st_S) : Prop := Q (-1) σ
def wp_X10_ways (a1 : Int) (σ : st_S) (Q : Int → st_S → Prop) : Prop := (a1 < 0 → B_X10_ways_10 Q σ) ∧ (¬ a1 < 0 → (a1 ≤ 10 → wp_X5_prepare σ (fun s6 => wp_X8_rowsOf a1 s6 (fun r7 s8 => Q r7 s8))) ∧ (¬ a1 ≤ 10 → B_X10_ways_10 Q σ))
set_option maxRecDepth 20000 in
theorem jb_X10_ways_10 {X : jj_X} {E : ev_E} {n0 hN : Nat} (hc : Cx X E cX10_ways 2 n0 hN RX10) (hm : eM E = 1) (hr : (xT X).sig.returnType = (some .long)) (hh : 12 ≤ hN) {Q : Int → st_S → Prop} {σ : st_S} (h : B_X10_ways_10 Q σ) : J X E 2 n0 0 0 (MQ (xB X) (qL E (n0 + 0) Q) (xA X) (xS X) 0 0 (eF E)) σ 10 [] [] := by
  have hh1 : 1 ≤ hN := by omega
  replace h : Q (-1) σ := h
  refine j_ldc2 (x := (-1)) hc (by decide) kl_RX10_258 dX10_ways_10 ?_
  exact j_lret hc hr (llit (-1) (by decide)) h dX10_ways_13
set_option maxRecDepth 20000 in
theorem c_X10_ways {l : Launch} {E : ev_E} (hE : Eok E) (hm : eM E = 1) {a1 : Int} (ca1 : wr a1 = a1) {σ : st_S} {Q : Int → st_S → Prop} (h : wp_X10_ways a1 σ Q) : cM l yX10_ways cX10_ways 2 (some .long) E 12 0 0 [vR E 0, vI a1] σ (qL E (gN σ + 0) Q) := by
  refine cM_of (lv := [(0, vR E 0), (1, vI a1)]) (by decide) hE (Nat.le_of_ble_eq_true rfl) (rfl) ?_
  intro X hX hc _ _ hr _ _
  subst hX
  have hh : 12 ≤ 12 := Nat.le_refl _
  have hh1 : 1 ≤ 12 := by omega
  replace h : (a1 < 0 → B_X10_ways_10 Q σ) ∧ (¬ a1 < 0 → (a1 ≤ 10 → wp_X5_prepare σ (fun s6 => wp_X8_rowsOf a1 s6 (fun r7 s8 => Q r7 s8))) ∧ (¬ a1 ≤ 10 → B_X10_ways_10 Q σ)) := h
  refine j_iload_n hc 1 dX10_ways_0 rfl rfl ?_
  refine j_if_lt hc ca1 (tgt := 10) dX10_ways_1 (by decide) (fun q10 => ?_) (fun q10 => ?_)
  · replace h := h.1 q10
    refine j_sub (lv' := []) [] rfl ?_
    exact jb_X10_ways_10 hc hm hr hh h
  · replace h := h.2 q10
    refine j_iload_n hc 1 dX10_ways_4 rfl rfl ?_
    refine j_bipush hc dX10_ways_5 (by decide) ?_
    refine j_ic_le hc ca1 (wlit 10 (by decide)) (tgt := 14) dX10_ways_7 (by decide) (fun q9 => ?_) (fun q9 => ?_)
    · replace h := h.1 q9
      refine j_aload_nR hc 0 dX10_ways_14 rfl rfl ?_
      refine j_getR (c' := 42) hc fl_RX10_79 rfl rfl (fun hv => (sv_k hv hm rfl)) dX10_ways_15 ?_
      refine j_vV hc (k := 5) (by decide) (fun hv => Or.inl (sv_k hv hm rfl)) ml_RX10_240 mv_X5_prepare (As := []) (c_X5_prepare (cx_E hc) hm  h) rfl (by omega) (by decide) ⟨Nat.zero_le _, Nat.zero_le _⟩ (Nat.le_of_ble_eq_true rfl) rfl dX10_ways_18 (fun s6 h => ?_)
      refine j_aload_nR hc 0 dX10_ways_21 rfl rfl ?_
      refine j_getR (c' := 56) hc fl_RX10_88 rfl rfl (fun hv => (sv_k hv hm rfl)) dX10_ways_22 ?_
      refine j_iload_n hc 1 dX10_ways_25 rfl rfl ?_
      refine j_vL hc (k := 8) (by decide) (fun hv => Or.inl (sv_k hv hm rfl)) ml_RX10_260 mv_X8_rowsOf (As := [vI a1]) (c_X8_rowsOf (cx_E hc) hm ca1 h) rfl (by omega) (by decide) ⟨Nat.zero_le _, Nat.zero_le _⟩ (Nat.le_of_ble_eq_true rfl) rfl dX10_ways_26 (fun r7 s8 cr7 h => ?_)
      exact j_lret hc hr cr7 h dX10_ways_29
    · replace h := h.2 q9
      refine j_sub (lv' := []) [] rfl ?_
      exact jb_X10_ways_10 hc hm hr hh h
-- LitStrangers.late(I)I
theorem dX10_late_0 : decode cX10_late 0 = .ok (.aload_n 0, 1) := by decide +kernel
theorem dX10_late_1 : decode cX10_late 1 = .ok (.getfield 56, 3) := by decide +kernel
theorem dX10_late_4 : decode cX10_late 4 = .ok (.iload_n 1, 1) := by decide +kernel
theorem dX10_late_5 : decode cX10_late 5 = .ok (.invokevirtual 114, 3) := by decide +kernel
theorem dX10_late_8 : decode cX10_late 8 = .ok (.ifCond .ne 5, 3) := by decide +kernel
theorem dX10_late_11 : decode cX10_late 11 = .ok (.iconst (-1), 1) := by decide +kernel
theorem dX10_late_12 : decode cX10_late 12 = .ok (.ireturn, 1) := by decide +kernel
theorem dX10_late_13 : decode cX10_late 13 = .ok (.aload_n 0, 1) := by decide +kernel
theorem dX10_late_14 : decode cX10_late 14 = .ok (.getfield 79, 3) := by decide +kernel
theorem dX10_late_17 : decode cX10_late 17 = .ok (.invokevirtual 240, 3) := by decide +kernel
theorem dX10_late_20 : decode cX10_late 20 = .ok (.aload_n 0, 1) := by decide +kernel
theorem dX10_late_21 : decode cX10_late 21 = .ok (.getfield 88, 3) := by decide +kernel
theorem dX10_late_24 : decode cX10_late 24 = .ok (.iload_n 1, 1) := by decide +kernel
theorem dX10_late_25 : decode cX10_late 25 = .ok (.invokevirtual 264, 3) := by decide +kernel
theorem dX10_late_28 : decode cX10_late 28 = .ok (.ireturn, 1) := by decide +kernel
def wp_X10_late (a1 : Int) (σ : st_S) (Q : Int → st_S → Prop) : Prop := wp_X1_has a1 σ (fun r7 s8 => (¬ r7 = 0 → wp_X5_prepare s8 (fun s10 => wp_X8_latestOf a1 s10 (fun r11 s12 => Q r11 s12))) ∧ (r7 = 0 → Q (-1) s8))
set_option maxRecDepth 20000 in
theorem c_X10_late {l : Launch} {E : ev_E} (hE : Eok E) (hm : eM E = 1) {a1 : Int} (ca1 : wr a1 = a1) {σ : st_S} {Q : Int → st_S → Prop} (h : wp_X10_late a1 σ Q) : cM l yX10_late cX10_late 2 (some .int) E 25 0 0 [vR E 0, vI a1] σ (qI E (gN σ + 0) Q) := by
  refine cM_of (lv := [(0, vR E 0), (1, vI a1)]) (by decide) hE (Nat.le_of_ble_eq_true rfl) (rfl) ?_
  intro X hX hc _ _ hr _ _
  subst hX
  have hh : 25 ≤ 25 := Nat.le_refl _
  have hh1 : 1 ≤ 25 := by omega
  replace h : wp_X1_has a1 σ (fun r7 s8 => (¬ r7 = 0 → wp_X5_prepare s8 (fun s10 => wp_X8_latestOf a1 s10 (fun r11 s12 => Q r11 s12))) ∧ (r7 = 0 → Q (-1) s8)) := h
  refine j_aload_nR hc 0 dX10_late_0 rfl rfl ?_
  refine j_getR (c' := 25) hc fl_RX10_56 rfl rfl (fun hv => (sv_k hv hm rfl)) dX10_late_1 ?_
  refine j_iload_n hc 1 dX10_late_4 rfl rfl ?_
  refine j_vI hc (k := 1) (by decide) (fun hv => Or.inl (sv_k hv hm rfl)) ml_RX10_114 mv_X1_has (As := [vI a1]) (c_X1_has (cx_E hc) hm ca1 h) rfl (by omega) (by decide) ⟨Nat.zero_le _, Nat.zero_le _⟩ (Nat.le_of_ble_eq_true rfl) rfl dX10_late_5 (fun r7 s8 cr7 h => ?_)
  refine j_if_ne hc cr7 (tgt := 13) dX10_late_8 (by decide) (fun q13 => ?_) (fun q13 => ?_)
  · replace h := h.1 q13
    refine j_aload_nR hc 0 dX10_late_13 rfl rfl ?_
    refine j_getR (c' := 42) hc fl_RX10_79 rfl rfl (fun hv => (sv_k hv hm rfl)) dX10_late_14 ?_
    refine j_vV hc (k := 5) (by decide) (fun hv => Or.inl (sv_k hv hm rfl)) ml_RX10_240 mv_X5_prepare (As := []) (c_X5_prepare (cx_E hc) hm  h) rfl (by omega) (by decide) ⟨Nat.zero_le _, Nat.zero_le _⟩ (Nat.le_of_ble_eq_true rfl) rfl dX10_late_17 (fun s10 h => ?_)
    refine j_aload_nR hc 0 dX10_late_20 rfl rfl ?_
    refine j_getR (c' := 56) hc fl_RX10_88 rfl rfl (fun hv => (sv_k hv hm rfl)) dX10_late_21 ?_
    refine j_iload_n hc 1 dX10_late_24 rfl rfl ?_
    refine j_vI hc (k := 8) (by decide) (fun hv => Or.inl (sv_k hv hm rfl)) ml_RX10_264 mv_X8_latestOf (As := [vI a1]) (c_X8_latestOf (cx_E hc) hm ca1 h) rfl (by omega) (by decide) ⟨Nat.zero_le _, Nat.zero_le _⟩ (Nat.le_of_ble_eq_true rfl) rfl dX10_late_25 (fun r11 s12 cr11 h => ?_)
    exact j_iret hc hr cr11 h dX10_late_28
  · replace h := h.2 q13
    refine j_iconst hc dX10_late_11 ?_
    exact j_iret hc hr (wlit (-1) (by decide)) h dX10_late_12
-- LitStrangers.swaps(I)I
theorem dX10_swaps_0 : decode cX10_swaps 0 = .ok (.aload_n 0, 1) := by decide +kernel
theorem dX10_swaps_1 : decode cX10_swaps 1 = .ok (.getfield 79, 3) := by decide +kernel
theorem dX10_swaps_4 : decode cX10_swaps 4 = .ok (.invokevirtual 240, 3) := by decide +kernel
theorem dX10_swaps_7 : decode cX10_swaps 7 = .ok (.aload_n 0, 1) := by decide +kernel
theorem dX10_swaps_8 : decode cX10_swaps 8 = .ok (.getfield 88, 3) := by decide +kernel
theorem dX10_swaps_11 : decode cX10_swaps 11 = .ok (.invokevirtual 267, 3) := by decide +kernel
theorem dX10_swaps_14 : decode cX10_swaps 14 = .ok (.istore_n 2, 1) := by decide +kernel
theorem dX10_swaps_15 : decode cX10_swaps 15 = .ok (.iload_n 1, 1) := by decide +kernel
theorem dX10_swaps_16 : decode cX10_swaps 16 = .ok (.iconst (-1), 1) := by decide +kernel
theorem dX10_swaps_17 : decode cX10_swaps 17 = .ok (.if_icmp .ne 7, 3) := by decide +kernel
theorem dX10_swaps_20 : decode cX10_swaps 20 = .ok (.iload_n 2, 1) := by decide +kernel
theorem dX10_swaps_21 : decode cX10_swaps 21 = .ok (.goto 12, 3) := by decide +kernel
theorem dX10_swaps_24 : decode cX10_swaps 24 = .ok (.aload_n 0, 1) := by decide +kernel
theorem dX10_swaps_25 : decode cX10_swaps 25 = .ok (.getfield 88, 3) := by decide +kernel
theorem dX10_swaps_28 : decode cX10_swaps 28 = .ok (.iload_n 1, 1) := by decide +kernel
theorem dX10_swaps_29 : decode cX10_swaps 29 = .ok (.iload_n 2, 1) := by decide +kernel
theorem dX10_swaps_30 : decode cX10_swaps 30 = .ok (.invokevirtual 249, 3) := by decide +kernel
theorem dX10_swaps_33 : decode cX10_swaps 33 = .ok (.ireturn, 1) := by decide +kernel
def B_X10_swaps_33 (Q : Int → st_S → Prop)   (v0 : Int) (σ : st_S) : Prop := Q v0 σ
def wp_X10_swaps (a1 : Int) (σ : st_S) (Q : Int → st_S → Prop) : Prop := wp_X5_prepare σ (fun s9 => wp_X8_turns s9 (fun r10 s11 => (¬ a1 = (-1) → wp_X8_crewOf a1 r10 s11 (fun r12 s13 => B_X10_swaps_33 Q r12 s13)) ∧ (a1 = (-1) → B_X10_swaps_33 Q r10 s11)))
set_option maxRecDepth 20000 in
theorem jb_X10_swaps_33 {X : jj_X} {E : ev_E} {n0 hN : Nat} (hc : Cx X E cX10_swaps 3 n0 hN RX10) (hm : eM E = 1) (hr : (xT X).sig.returnType = (some .int)) (hh : 24 ≤ hN) {Q : Int → st_S → Prop} {v0 : Int} (cv0 : wr v0 = v0) {σ : st_S} (h : B_X10_swaps_33 Q v0 σ) : J X E 3 n0 0 0 (MQ (xB X) (qI E (n0 + 0) Q) (xA X) (xS X) 0 0 (eF E)) σ 33 [] [vI v0] := by
  have hh1 : 1 ≤ hN := by omega
  replace h : Q v0 σ := h
  exact j_iret hc hr cv0 h dX10_swaps_33
set_option maxRecDepth 20000 in
theorem c_X10_swaps {l : Launch} {E : ev_E} (hE : Eok E) (hm : eM E = 1) {a1 : Int} (ca1 : wr a1 = a1) {σ : st_S} {Q : Int → st_S → Prop} (h : wp_X10_swaps a1 σ Q) : cM l yX10_swaps cX10_swaps 3 (some .int) E 24 0 0 [vR E 0, vI a1] σ (qI E (gN σ + 0) Q) := by
  refine cM_of (lv := [(0, vR E 0), (1, vI a1)]) (by decide) hE (Nat.le_of_ble_eq_true rfl) (rfl) ?_
  intro X hX hc _ _ hr _ _
  subst hX
  have hh : 24 ≤ 24 := Nat.le_refl _
  have hh1 : 1 ≤ 24 := by omega
  replace h : wp_X5_prepare σ (fun s9 => wp_X8_turns s9 (fun r10 s11 => (¬ a1 = (-1) → wp_X8_crewOf a1 r10 s11 (fun r12 s13 => B_X10_swaps_33 Q r12 s13)) ∧ (a1 = (-1) → B_X10_swaps_33 Q r10 s11))) := h
  refine j_aload_nR hc 0 dX10_swaps_0 rfl rfl ?_
  refine j_getR (c' := 42) hc fl_RX10_79 rfl rfl (fun hv => (sv_k hv hm rfl)) dX10_swaps_1 ?_
  refine j_vV hc (k := 5) (by decide) (fun hv => Or.inl (sv_k hv hm rfl)) ml_RX10_240 mv_X5_prepare (As := []) (c_X5_prepare (cx_E hc) hm  h) rfl (by omega) (by decide) ⟨Nat.zero_le _, Nat.zero_le _⟩ (Nat.le_of_ble_eq_true rfl) rfl dX10_swaps_4 (fun s9 h => ?_)
  refine j_aload_nR hc 0 dX10_swaps_7 rfl rfl ?_
  refine j_getR (c' := 56) hc fl_RX10_88 rfl rfl (fun hv => (sv_k hv hm rfl)) dX10_swaps_8 ?_
  refine j_vI hc (k := 8) (by decide) (fun hv => Or.inl (sv_k hv hm rfl)) ml_RX10_267 mv_X8_turns (As := []) (c_X8_turns (cx_E hc) hm  h) rfl (by omega) (by decide) ⟨Nat.zero_le _, Nat.zero_le _⟩ (Nat.le_of_ble_eq_true rfl) rfl dX10_swaps_11 (fun r10 s11 cr10 h => ?_)
  refine j_istore_n (lv' := [(2, vI r10), (0, vR E 0), (1, vI a1)]) hc dX10_swaps_14 rfl (by decide) rfl ?_
  refine j_iload_n hc 2 dX10_swaps_15 rfl rfl ?_
  refine j_iconst hc dX10_swaps_16 ?_
  refine j_ic_ne hc ca1 (wlit (-1) (by decide)) (tgt := 24) dX10_swaps_17 (by decide) (fun q14 => ?_) (fun q14 => ?_)
  · replace h := h.1 q14
    refine j_aload_nR hc 1 dX10_swaps_24 rfl rfl ?_
    refine j_getR (c' := 56) hc fl_RX10_88 rfl rfl (fun hv => (sv_k hv hm rfl)) dX10_swaps_25 ?_
    refine j_iload_n hc 2 dX10_swaps_28 rfl rfl ?_
    refine j_iload_n hc 0 dX10_swaps_29 rfl rfl ?_
    refine j_vI hc (k := 8) (by decide) (fun hv => Or.inl (sv_k hv hm rfl)) ml_RX10_249 mv_X8_crewOf (As := [vI a1, vI r10]) (c_X8_crewOf (cx_E hc) hm ca1 cr10 h) rfl (by omega) (by decide) ⟨Nat.zero_le _, Nat.zero_le _⟩ (Nat.le_of_ble_eq_true rfl) rfl dX10_swaps_30 (fun r12 s13 cr12 h => ?_)
    refine j_sub (lv' := []) [] rfl ?_
    exact jb_X10_swaps_33 hc hm hr hh cr12 h
  · replace h := h.2 q14
    refine j_iload_n hc 0 dX10_swaps_20 rfl rfl ?_
    refine j_goto (tgt := 33) hc dX10_swaps_21 (by decide) ?_
    refine j_sub (lv' := []) [] rfl ?_
    exact jb_X10_swaps_33 hc hm hr hh cr10 h
-- LitStrangers.crews(I)I
theorem dX10_crews_0 : decode cX10_crews 0 = .ok (.aload_n 0, 1) := by decide +kernel
theorem dX10_crews_1 : decode cX10_crews 1 = .ok (.getfield 79, 3) := by decide +kernel
theorem dX10_crews_4 : decode cX10_crews 4 = .ok (.invokevirtual 240, 3) := by decide +kernel
theorem dX10_crews_7 : decode cX10_crews 7 = .ok (.aload_n 0, 1) := by decide +kernel
theorem dX10_crews_8 : decode cX10_crews 8 = .ok (.getfield 79, 3) := by decide +kernel
theorem dX10_crews_11 : decode cX10_crews 11 = .ok (.iconst 0, 1) := by decide +kernel
theorem dX10_crews_12 : decode cX10_crews 12 = .ok (.aload_n 0, 1) := by decide +kernel
theorem dX10_crews_13 : decode cX10_crews 13 = .ok (.getfield 56, 3) := by decide +kernel
theorem dX10_crews_16 : decode cX10_crews 16 = .ok (.invokevirtual 270, 3) := by decide +kernel
theorem dX10_crews_19 : decode cX10_crews 19 = .ok (.aload_n 0, 1) := by decide +kernel
theorem dX10_crews_20 : decode cX10_crews 20 = .ok (.getfield 79, 3) := by decide +kernel
theorem dX10_crews_23 : decode cX10_crews 23 = .ok (.getfield 273, 3) := by decide +kernel
theorem dX10_crews_26 : decode cX10_crews 26 = .ok (.invokevirtual 275, 3) := by decide +kernel
theorem dX10_crews_29 : decode cX10_crews 29 = .ok (.istore_n 2, 1) := by decide +kernel
theorem dX10_crews_30 : decode cX10_crews 30 = .ok (.iload_n 1, 1) := by decide +kernel
theorem dX10_crews_31 : decode cX10_crews 31 = .ok (.iconst (-1), 1) := by decide +kernel
theorem dX10_crews_32 : decode cX10_crews 32 = .ok (.if_icmp .ne 5, 3) := by decide +kernel
theorem dX10_crews_35 : decode cX10_crews 35 = .ok (.iload_n 2, 1) := by decide +kernel
theorem dX10_crews_36 : decode cX10_crews 36 = .ok (.ireturn, 1) := by decide +kernel
theorem dX10_crews_37 : decode cX10_crews 37 = .ok (.iload_n 1, 1) := by decide +kernel
theorem dX10_crews_38 : decode cX10_crews 38 = .ok (.ifCond .lt 20, 3) := by decide +kernel
theorem dX10_crews_41 : decode cX10_crews 41 = .ok (.iload_n 1, 1) := by decide +kernel
theorem dX10_crews_42 : decode cX10_crews 42 = .ok (.iload_n 2, 1) := by decide +kernel
theorem dX10_crews_43 : decode cX10_crews 43 = .ok (.if_icmp .ge 15, 3) := by decide +kernel
theorem dX10_crews_46 : decode cX10_crews 46 = .ok (.aload_n 0, 1) := by decide +kernel
theorem dX10_crews_47 : decode cX10_crews 47 = .ok (.getfield 79, 3) := by decide +kernel
theorem dX10_crews_50 : decode cX10_crews 50 = .ok (.iconst 0, 1) := by decide +kernel
theorem dX10_crews_51 : decode cX10_crews 51 = .ok (.iload_n 1, 1) := by decide +kernel
theorem dX10_crews_52 : decode cX10_crews 52 = .ok (.invokevirtual 278, 3) := by decide +kernel
theorem dX10_crews_55 : decode cX10_crews 55 = .ok (.goto 4, 3) := by decide +kernel
theorem dX10_crews_58 : decode cX10_crews 58 = .ok (.iconst (-1), 1) := by decide +kernel
theorem dX10_crews_59 : decode cX10_crews 59 = .ok (.ireturn, 1) := by decide +kernel
def B_X10_crews_59 (Q : Int → st_S → Prop)   (v0 : Int) (σ : st_S) : Prop := Q v0 σ
def B_X10_crews_58 (Q : Int → st_S → Prop)    (σ : st_S) : Prop := B_X10_crews_59 Q (-1) σ
def wp_X10_crews (a1 : Int) (σ : st_S) (Q : Int → st_S → Prop) : Prop := wp_X5_prepare σ (fun s12 => wp_X1_here s12 (fun r13 s14 => wp_X5_list 0 r13 (gI s14 42 1) s14 (fun r16 s17 => (¬ a1 = (-1) → (a1 < 0 → B_X10_crews_58 Q s17) ∧ (¬ a1 < 0 → (r16 ≤ a1 → B_X10_crews_58 Q s17) ∧ (¬ r16 ≤ a1 → wp_X5_crewAt 0 a1 s17 (fun r18 s19 => B_X10_crews_59 Q r18 s19)))) ∧ (a1 = (-1) → Q r16 s17))))
set_option maxRecDepth 20000 in
theorem jb_X10_crews_59 {X : jj_X} {E : ev_E} {n0 hN : Nat} (hc : Cx X E cX10_crews 3 n0 hN RX10) (hm : eM E = 1) (hr : (xT X).sig.returnType = (some .int)) (hh : 10 ≤ hN) {Q : Int → st_S → Prop} {v0 : Int} (cv0 : wr v0 = v0) {σ : st_S} (h : B_X10_crews_59 Q v0 σ) : J X E 3 n0 0 0 (MQ (xB X) (qI E (n0 + 0) Q) (xA X) (xS X) 0 0 (eF E)) σ 59 [] [vI v0] := by
  have hh1 : 1 ≤ hN := by omega
  replace h : Q v0 σ := h
  exact j_iret hc hr cv0 h dX10_crews_59
set_option maxRecDepth 20000 in
theorem jb_X10_crews_58 {X : jj_X} {E : ev_E} {n0 hN : Nat} (hc : Cx X E cX10_crews 3 n0 hN RX10) (hm : eM E = 1) (hr : (xT X).sig.returnType = (some .int)) (hh : 10 ≤ hN) {Q : Int → st_S → Prop} {σ : st_S} (h : B_X10_crews_58 Q σ) : J X E 3 n0 0 0 (MQ (xB X) (qI E (n0 + 0) Q) (xA X) (xS X) 0 0 (eF E)) σ 58 [] [] := by
  have hh1 : 1 ≤ hN := by omega
  replace h : B_X10_crews_59 Q (-1) σ := h
  refine j_iconst hc dX10_crews_58 ?_
  refine j_sub (lv' := []) [] rfl ?_
  exact jb_X10_crews_59 hc hm hr hh (wlit (-1) (by decide)) h
set_option maxRecDepth 20000 in
theorem c_X10_crews {l : Launch} {E : ev_E} (hE : Eok E) (hm : eM E = 1) {a1 : Int} (ca1 : wr a1 = a1) {σ : st_S} {Q : Int → st_S → Prop} (h : wp_X10_crews a1 σ Q) : cM l yX10_crews cX10_crews 3 (some .int) E 10 0 0 [vR E 0, vI a1] σ (qI E (gN σ + 0) Q) := by
  refine cM_of (lv := [(0, vR E 0), (1, vI a1)]) (by decide) hE (Nat.le_of_ble_eq_true rfl) (rfl) ?_
  intro X hX hc _ _ hr _ _
  subst hX
  have hh : 10 ≤ 10 := Nat.le_refl _
  have hh1 : 1 ≤ 10 := by omega
  replace h : wp_X5_prepare σ (fun s12 => wp_X1_here s12 (fun r13 s14 => wp_X5_list 0 r13 (gI s14 42 1) s14 (fun r16 s17 => (¬ a1 = (-1) → (a1 < 0 → B_X10_crews_58 Q s17) ∧ (¬ a1 < 0 → (r16 ≤ a1 → B_X10_crews_58 Q s17) ∧ (¬ r16 ≤ a1 → wp_X5_crewAt 0 a1 s17 (fun r18 s19 => B_X10_crews_59 Q r18 s19)))) ∧ (a1 = (-1) → Q r16 s17)))) := h
  refine j_aload_nR hc 0 dX10_crews_0 rfl rfl ?_
  refine j_getR (c' := 42) hc fl_RX10_79 rfl rfl (fun hv => (sv_k hv hm rfl)) dX10_crews_1 ?_
  refine j_vV hc (k := 5) (by decide) (fun hv => Or.inl (sv_k hv hm rfl)) ml_RX10_240 mv_X5_prepare (As := []) (c_X5_prepare (cx_E hc) hm  h) rfl (by omega) (by decide) ⟨Nat.zero_le _, Nat.zero_le _⟩ (Nat.le_of_ble_eq_true rfl) rfl dX10_crews_4 (fun s12 h => ?_)
  refine j_aload_nR hc 0 dX10_crews_7 rfl rfl ?_
  refine j_getR (c' := 42) hc fl_RX10_79 rfl rfl (fun hv => (sv_k hv hm rfl)) dX10_crews_8 ?_
  refine j_iconst hc dX10_crews_11 ?_
  refine j_aload_nR hc 0 dX10_crews_12 rfl rfl ?_
  refine j_getR (c' := 25) hc fl_RX10_56 rfl rfl (fun hv => (sv_k hv hm rfl)) dX10_crews_13 ?_
  refine j_vI hc (k := 1) (by decide) (fun hv => Or.inl (sv_k hv hm rfl)) ml_RX10_270 mv_X1_here (As := []) (c_X1_here (cx_E hc) hm  h) rfl (by omega) (by decide) ⟨Nat.zero_le _, Nat.zero_le _⟩ (Nat.le_of_ble_eq_true rfl) rfl dX10_crews_16 (fun r13 s14 cr13 h => ?_)
  refine j_aload_nR hc 0 dX10_crews_19 rfl rfl ?_
  refine j_getR (c' := 42) hc fl_RX10_79 rfl rfl (fun hv => (sv_k hv hm rfl)) dX10_crews_20 ?_
  refine j_getI hc fl_RX10_273 (Or.inl rfl) (fun hv => Or.inl (sv_k hv hm rfl)) dX10_crews_23 (fun cn15 => ?_)
  refine j_vI hc (k := 5) (by decide) (fun hv => Or.inl (sv_k hv hm rfl)) ml_RX10_275 mv_X5_list (As := [vI 0, vI r13, vI (gI s14 42 1)]) (c_X5_list (cx_E hc) hm (wlit 0 (by decide)) cr13 cn15 h) rfl (by omega) (by decide) ⟨Nat.zero_le _, Nat.zero_le _⟩ (Nat.le_of_ble_eq_true rfl) rfl dX10_crews_26 (fun r16 s17 cr16 h => ?_)
  refine j_istore_n (lv' := [(2, vI r16), (0, vR E 0), (1, vI a1)]) hc dX10_crews_29 rfl (by decide) rfl ?_
  refine j_iload_n hc 2 dX10_crews_30 rfl rfl ?_
  refine j_iconst hc dX10_crews_31 ?_
  refine j_ic_ne hc ca1 (wlit (-1) (by decide)) (tgt := 37) dX10_crews_32 (by decide) (fun q22 => ?_) (fun q22 => ?_)
  · replace h := h.1 q22
    refine j_iload_n hc 2 dX10_crews_37 rfl rfl ?_
    refine j_if_lt hc ca1 (tgt := 58) dX10_crews_38 (by decide) (fun q21 => ?_) (fun q21 => ?_)
    · replace h := h.1 q21
      refine j_sub (lv' := []) [] rfl ?_
      exact jb_X10_crews_58 hc hm hr hh h
    · replace h := h.2 q21
      refine j_iload_n hc 2 dX10_crews_41 rfl rfl ?_
      refine j_iload_n hc 0 dX10_crews_42 rfl rfl ?_
      refine j_ic_ge hc ca1 cr16 (tgt := 58) dX10_crews_43 (by decide) (fun q20 => ?_) (fun q20 => ?_)
      · replace h := h.1 q20
        refine j_sub (lv' := []) [] rfl ?_
        exact jb_X10_crews_58 hc hm hr hh h
      · replace h := h.2 q20
        refine j_aload_nR hc 1 dX10_crews_46 rfl rfl ?_
        refine j_getR (c' := 42) hc fl_RX10_79 rfl rfl (fun hv => (sv_k hv hm rfl)) dX10_crews_47 ?_
        refine j_iconst hc dX10_crews_50 ?_
        refine j_iload_n hc 2 dX10_crews_51 rfl rfl ?_
        refine j_vI hc (k := 5) (by decide) (fun hv => Or.inl (sv_k hv hm rfl)) ml_RX10_278 mv_X5_crewAt (As := [vI 0, vI a1]) (c_X5_crewAt (cx_E hc) hm (wlit 0 (by decide)) ca1 h) rfl (by omega) (by decide) ⟨Nat.zero_le _, Nat.zero_le _⟩ (Nat.le_of_ble_eq_true rfl) rfl dX10_crews_52 (fun r18 s19 cr18 h => ?_)
        refine j_goto (tgt := 59) hc dX10_crews_55 (by decide) ?_
        refine j_sub (lv' := []) [] rfl ?_
        exact jb_X10_crews_59 hc hm hr hh cr18 h
  · replace h := h.2 q22
    refine j_iload_n hc 0 dX10_crews_35 rfl rfl ?_
    exact j_iret hc hr cr16 h dX10_crews_36
-- LitStrangers.share(I)I
theorem dX10_share_0 : decode cX10_share 0 = .ok (.iload_n 1, 1) := by decide +kernel
theorem dX10_share_1 : decode cX10_share 1 = .ok (.ifCond .lt 8, 3) := by decide +kernel
theorem dX10_share_4 : decode cX10_share 4 = .ok (.iload_n 1, 1) := by decide +kernel
theorem dX10_share_5 : decode cX10_share 5 = .ok (.iconst 4, 1) := by decide +kernel
theorem dX10_share_6 : decode cX10_share 6 = .ok (.if_icmp .lt 5, 3) := by decide +kernel
theorem dX10_share_9 : decode cX10_share 9 = .ok (.iconst (-1), 1) := by decide +kernel
theorem dX10_share_10 : decode cX10_share 10 = .ok (.ireturn, 1) := by decide +kernel
theorem dX10_share_11 : decode cX10_share 11 = .ok (.aload_n 0, 1) := by decide +kernel
theorem dX10_share_12 : decode cX10_share 12 = .ok (.getfield 79, 3) := by decide +kernel
theorem dX10_share_15 : decode cX10_share 15 = .ok (.invokevirtual 240, 3) := by decide +kernel
theorem dX10_share_18 : decode cX10_share 18 = .ok (.aload_n 0, 1) := by decide +kernel
theorem dX10_share_19 : decode cX10_share 19 = .ok (.getfield 88, 3) := by decide +kernel
theorem dX10_share_22 : decode cX10_share 22 = .ok (.aload_n 0, 1) := by decide +kernel
theorem dX10_share_23 : decode cX10_share 23 = .ok (.getfield 79, 3) := by decide +kernel
theorem dX10_share_26 : decode cX10_share 26 = .ok (.getfield 243, 3) := by decide +kernel
theorem dX10_share_29 : decode cX10_share 29 = .ok (.invokevirtual 246, 3) := by decide +kernel
theorem dX10_share_32 : decode cX10_share 32 = .ok (.istore_n 2, 1) := by decide +kernel
theorem dX10_share_33 : decode cX10_share 33 = .ok (.iload_n 2, 1) := by decide +kernel
theorem dX10_share_34 : decode cX10_share 34 = .ok (.aload_n 0, 1) := by decide +kernel
theorem dX10_share_35 : decode cX10_share 35 = .ok (.getfield 88, 3) := by decide +kernel
theorem dX10_share_38 : decode cX10_share 38 = .ok (.aload_n 0, 1) := by decide +kernel
theorem dX10_share_39 : decode cX10_share 39 = .ok (.getfield 79, 3) := by decide +kernel
theorem dX10_share_42 : decode cX10_share 42 = .ok (.getfield 243, 3) := by decide +kernel
theorem dX10_share_45 : decode cX10_share 45 = .ok (.aload_n 0, 1) := by decide +kernel
theorem dX10_share_46 : decode cX10_share 46 = .ok (.getfield 56, 3) := by decide +kernel
theorem dX10_share_49 : decode cX10_share 49 = .ok (.iload_n 1, 1) := by decide +kernel
theorem dX10_share_50 : decode cX10_share 50 = .ok (.invokevirtual 281, 3) := by decide +kernel
theorem dX10_share_53 : decode cX10_share 53 = .ok (.iconst (-1), 1) := by decide +kernel
theorem dX10_share_54 : decode cX10_share 54 = .ok (.ixor, 1) := by decide +kernel
theorem dX10_share_55 : decode cX10_share 55 = .ok (.iand, 1) := by decide +kernel
theorem dX10_share_56 : decode cX10_share 56 = .ok (.invokevirtual 246, 3) := by decide +kernel
theorem dX10_share_59 : decode cX10_share 59 = .ok (.isub, 1) := by decide +kernel
theorem dX10_share_60 : decode cX10_share 60 = .ok (.ireturn, 1) := by decide +kernel
def B_X10_share_9 (Q : Int → st_S → Prop)    (σ : st_S) : Prop := Q (-1) σ
def wp_X10_share (a1 : Int) (σ : st_S) (Q : Int → st_S → Prop) : Prop := (a1 < 0 → B_X10_share_9 Q σ) ∧ (¬ a1 < 0 → (a1 < 4 → wp_X5_prepare σ (fun s13 => wp_X8_longest (gI s13 42 0) s13 (fun r15 s16 => wp_X1_peopleOf a1 s16 (fun r18 s19 => wp_X8_longest (o_and (gI s16 42 0) (o_xor r18 (-1))) s19 (fun r20 s21 => Q (wr (r15 - r20)) s21))))) ∧ (¬ a1 < 4 → B_X10_share_9 Q σ))
set_option maxRecDepth 20000 in
theorem jb_X10_share_9 {X : jj_X} {E : ev_E} {n0 hN : Nat} (hc : Cx X E cX10_share 3 n0 hN RX10) (hm : eM E = 1) (hr : (xT X).sig.returnType = (some .int)) (hh : 24 ≤ hN) {Q : Int → st_S → Prop} {σ : st_S} (h : B_X10_share_9 Q σ) : J X E 3 n0 0 0 (MQ (xB X) (qI E (n0 + 0) Q) (xA X) (xS X) 0 0 (eF E)) σ 9 [] [] := by
  have hh1 : 1 ≤ hN := by omega
  replace h : Q (-1) σ := h
  refine j_iconst hc dX10_share_9 ?_
  exact j_iret hc hr (wlit (-1) (by decide)) h dX10_share_10
set_option maxRecDepth 20000 in
theorem c_X10_share {l : Launch} {E : ev_E} (hE : Eok E) (hm : eM E = 1) {a1 : Int} (ca1 : wr a1 = a1) {σ : st_S} {Q : Int → st_S → Prop} (h : wp_X10_share a1 σ Q) : cM l yX10_share cX10_share 3 (some .int) E 24 0 0 [vR E 0, vI a1] σ (qI E (gN σ + 0) Q) := by
  refine cM_of (lv := [(0, vR E 0), (1, vI a1)]) (by decide) hE (Nat.le_of_ble_eq_true rfl) (rfl) ?_
  intro X hX hc _ _ hr _ _
  subst hX
  have hh : 24 ≤ 24 := Nat.le_refl _
  have hh1 : 1 ≤ 24 := by omega
  replace h : (a1 < 0 → B_X10_share_9 Q σ) ∧ (¬ a1 < 0 → (a1 < 4 → wp_X5_prepare σ (fun s13 => wp_X8_longest (gI s13 42 0) s13 (fun r15 s16 => wp_X1_peopleOf a1 s16 (fun r18 s19 => wp_X8_longest (o_and (gI s16 42 0) (o_xor r18 (-1))) s19 (fun r20 s21 => Q (wr (r15 - r20)) s21))))) ∧ (¬ a1 < 4 → B_X10_share_9 Q σ)) := h
  refine j_iload_n hc 1 dX10_share_0 rfl rfl ?_
  refine j_if_lt hc ca1 (tgt := 9) dX10_share_1 (by decide) (fun q23 => ?_) (fun q23 => ?_)
  · replace h := h.1 q23
    refine j_sub (lv' := []) [] rfl ?_
    exact jb_X10_share_9 hc hm hr hh h
  · replace h := h.2 q23
    refine j_iload_n hc 1 dX10_share_4 rfl rfl ?_
    refine j_iconst hc dX10_share_5 ?_
    refine j_ic_lt hc ca1 (wlit 4 (by decide)) (tgt := 11) dX10_share_6 (by decide) (fun q22 => ?_) (fun q22 => ?_)
    · replace h := h.1 q22
      refine j_aload_nR hc 0 dX10_share_11 rfl rfl ?_
      refine j_getR (c' := 42) hc fl_RX10_79 rfl rfl (fun hv => (sv_k hv hm rfl)) dX10_share_12 ?_
      refine j_vV hc (k := 5) (by decide) (fun hv => Or.inl (sv_k hv hm rfl)) ml_RX10_240 mv_X5_prepare (As := []) (c_X5_prepare (cx_E hc) hm  h) rfl (by omega) (by decide) ⟨Nat.zero_le _, Nat.zero_le _⟩ (Nat.le_of_ble_eq_true rfl) rfl dX10_share_15 (fun s13 h => ?_)
      refine j_aload_nR hc 0 dX10_share_18 rfl rfl ?_
      refine j_getR (c' := 56) hc fl_RX10_88 rfl rfl (fun hv => (sv_k hv hm rfl)) dX10_share_19 ?_
      refine j_aload_nR hc 0 dX10_share_22 rfl rfl ?_
      refine j_getR (c' := 42) hc fl_RX10_79 rfl rfl (fun hv => (sv_k hv hm rfl)) dX10_share_23 ?_
      refine j_getI hc fl_RX10_243 (Or.inl rfl) (fun hv => Or.inl (sv_k hv hm rfl)) dX10_share_26 (fun cn14 => ?_)
      refine j_vI hc (k := 8) (by decide) (fun hv => Or.inl (sv_k hv hm rfl)) ml_RX10_246 mv_X8_longest (As := [vI (gI s13 42 0)]) (c_X8_longest (cx_E hc) hm cn14 h) rfl (by omega) (by decide) ⟨Nat.zero_le _, Nat.zero_le _⟩ (Nat.le_of_ble_eq_true rfl) rfl dX10_share_29 (fun r15 s16 cr15 h => ?_)
      refine j_istore_n (lv' := [(2, vI r15), (0, vR E 0), (1, vI a1)]) hc dX10_share_32 rfl (by decide) rfl ?_
      refine j_iload_n hc 0 dX10_share_33 rfl rfl ?_
      refine j_aload_nR hc 1 dX10_share_34 rfl rfl ?_
      refine j_getR (c' := 56) hc fl_RX10_88 rfl rfl (fun hv => (sv_k hv hm rfl)) dX10_share_35 ?_
      refine j_aload_nR hc 1 dX10_share_38 rfl rfl ?_
      refine j_getR (c' := 42) hc fl_RX10_79 rfl rfl (fun hv => (sv_k hv hm rfl)) dX10_share_39 ?_
      refine j_getI hc fl_RX10_243 (Or.inl rfl) (fun hv => Or.inl (sv_k hv hm rfl)) dX10_share_42 (fun cn17 => ?_)
      refine j_aload_nR hc 1 dX10_share_45 rfl rfl ?_
      refine j_getR (c' := 25) hc fl_RX10_56 rfl rfl (fun hv => (sv_k hv hm rfl)) dX10_share_46 ?_
      refine j_iload_n hc 2 dX10_share_49 rfl rfl ?_
      refine j_vI hc (k := 1) (by decide) (fun hv => Or.inl (sv_k hv hm rfl)) ml_RX10_281 mv_X1_peopleOf (As := [vI a1]) (c_X1_peopleOf (cx_E hc) hm ca1 h) rfl (by omega) (by decide) ⟨Nat.zero_le _, Nat.zero_le _⟩ (Nat.le_of_ble_eq_true rfl) rfl dX10_share_50 (fun r18 s19 cr18 h => ?_)
      refine j_iconst hc dX10_share_53 ?_
      refine j_ixor hc dX10_share_54 ?_
      refine j_iand hc dX10_share_55 ?_
      refine j_vI hc (k := 8) (by decide) (fun hv => Or.inl (sv_k hv hm rfl)) ml_RX10_246 mv_X8_longest (As := [vI (o_and (gI s16 42 0) (o_xor r18 (-1)))]) (c_X8_longest (cx_E hc) hm (cn_and _ _) h) rfl (by omega) (by decide) ⟨Nat.zero_le _, Nat.zero_le _⟩ (Nat.le_of_ble_eq_true rfl) rfl dX10_share_56 (fun r20 s21 cr20 h => ?_)
      refine j_isub hc dX10_share_59 ?_
      refine j_w (fun y ey cy => ?_)
      subst ey
      exact j_iret hc hr cy h dX10_share_60
    · replace h := h.2 q22
      refine j_sub (lv' := []) [] rfl ?_
      exact jb_X10_share_9 hc hm hr hh h
-- LitStrangers.harm(I)I
theorem dX10_harm_0 : decode cX10_harm 0 = .ok (.aload_n 0, 1) := by decide +kernel
theorem dX10_harm_1 : decode cX10_harm 1 = .ok (.getfield 56, 3) := by decide +kernel
theorem dX10_harm_4 : decode cX10_harm 4 = .ok (.iload_n 1, 1) := by decide +kernel
theorem dX10_harm_5 : decode cX10_harm 5 = .ok (.invokevirtual 114, 3) := by decide +kernel
theorem dX10_harm_8 : decode cX10_harm 8 = .ok (.ifCond .eq 16, 3) := by decide +kernel
theorem dX10_harm_11 : decode cX10_harm 11 = .ok (.aload_n 0, 1) := by decide +kernel
theorem dX10_harm_12 : decode cX10_harm 12 = .ok (.getfield 56, 3) := by decide +kernel
theorem dX10_harm_15 : decode cX10_harm 15 = .ok (.getfield 118, 3) := by decide +kernel
theorem dX10_harm_18 : decode cX10_harm 18 = .ok (.iload_n 1, 1) := by decide +kernel
theorem dX10_harm_19 : decode cX10_harm 19 = .ok (.iaload, 1) := by decide +kernel
theorem dX10_harm_20 : decode cX10_harm 20 = .ok (.iconst 3, 1) := by decide +kernel
theorem dX10_harm_21 : decode cX10_harm 21 = .ok (.if_icmp .ne 5, 3) := by decide +kernel
theorem dX10_harm_24 : decode cX10_harm 24 = .ok (.iconst (-1), 1) := by decide +kernel
theorem dX10_harm_25 : decode cX10_harm 25 = .ok (.ireturn, 1) := by decide +kernel
theorem dX10_harm_26 : decode cX10_harm 26 = .ok (.iconst 0, 1) := by decide +kernel
theorem dX10_harm_27 : decode cX10_harm 27 = .ok (.istore_n 2, 1) := by decide +kernel
theorem dX10_harm_28 : decode cX10_harm 28 = .ok (.iconst 0, 1) := by decide +kernel
theorem dX10_harm_29 : decode cX10_harm 29 = .ok (.istore_n 3, 1) := by decide +kernel
theorem dX10_harm_30 : decode cX10_harm 30 = .ok (.iload_n 3, 1) := by decide +kernel
theorem dX10_harm_31 : decode cX10_harm 31 = .ok (.aload_n 0, 1) := by decide +kernel
theorem dX10_harm_32 : decode cX10_harm 32 = .ok (.getfield 56, 3) := by decide +kernel
theorem dX10_harm_35 : decode cX10_harm 35 = .ok (.getfield 100, 3) := by decide +kernel
theorem dX10_harm_38 : decode cX10_harm 38 = .ok (.if_icmp .ge 57, 3) := by decide +kernel
theorem dX10_harm_41 : decode cX10_harm 41 = .ok (.aload_n 0, 1) := by decide +kernel
theorem dX10_harm_42 : decode cX10_harm 42 = .ok (.getfield 56, 3) := by decide +kernel
theorem dX10_harm_45 : decode cX10_harm 45 = .ok (.iload_n 1, 1) := by decide +kernel
theorem dX10_harm_46 : decode cX10_harm 46 = .ok (.iload_n 3, 1) := by decide +kernel
theorem dX10_harm_47 : decode cX10_harm 47 = .ok (.invokevirtual 284, 3) := by decide +kernel
theorem dX10_harm_50 : decode cX10_harm 50 = .ok (.ifCond .eq 39, 3) := by decide +kernel
theorem dX10_harm_53 : decode cX10_harm 53 = .ok (.aload_n 0, 1) := by decide +kernel
theorem dX10_harm_54 : decode cX10_harm 54 = .ok (.getfield 56, 3) := by decide +kernel
theorem dX10_harm_57 : decode cX10_harm 57 = .ok (.getfield 118, 3) := by decide +kernel
theorem dX10_harm_60 : decode cX10_harm 60 = .ok (.iload_n 3, 1) := by decide +kernel
theorem dX10_harm_61 : decode cX10_harm 61 = .ok (.iaload, 1) := by decide +kernel
theorem dX10_harm_62 : decode cX10_harm 62 = .ok (.iconst 3, 1) := by decide +kernel
theorem dX10_harm_63 : decode cX10_harm 63 = .ok (.if_icmp .eq 26, 3) := by decide +kernel
theorem dX10_harm_66 : decode cX10_harm 66 = .ok (.iload_n 2, 1) := by decide +kernel
theorem dX10_harm_67 : decode cX10_harm 67 = .ok (.aload_n 0, 1) := by decide +kernel
theorem dX10_harm_68 : decode cX10_harm 68 = .ok (.getfield 59, 3) := by decide +kernel
theorem dX10_harm_71 : decode cX10_harm 71 = .ok (.iload_n 1, 1) := by decide +kernel
theorem dX10_harm_72 : decode cX10_harm 72 = .ok (.iload_n 3, 1) := by decide +kernel
theorem dX10_harm_73 : decode cX10_harm 73 = .ok (.invokevirtual 219, 3) := by decide +kernel
theorem dX10_harm_76 : decode cX10_harm 76 = .ok (.aload_n 0, 1) := by decide +kernel
theorem dX10_harm_77 : decode cX10_harm 77 = .ok (.getfield 56, 3) := by decide +kernel
theorem dX10_harm_80 : decode cX10_harm 80 = .ok (.iload_n 3, 1) := by decide +kernel
theorem dX10_harm_81 : decode cX10_harm 81 = .ok (.invokevirtual 133, 3) := by decide +kernel
theorem dX10_harm_84 : decode cX10_harm 84 = .ok (.invokestatic 288, 3) := by decide +kernel
theorem dX10_harm_87 : decode cX10_harm 87 = .ok (.iadd, 1) := by decide +kernel
theorem dX10_harm_88 : decode cX10_harm 88 = .ok (.istore_n 2, 1) := by decide +kernel
theorem dX10_harm_89 : decode cX10_harm 89 = .ok (.iinc 3 1, 3) := by decide +kernel
theorem dX10_harm_92 : decode cX10_harm 92 = .ok (.goto (-62), 3) := by decide +kernel
theorem dX10_harm_95 : decode cX10_harm 95 = .ok (.iload_n 2, 1) := by decide +kernel
theorem dX10_harm_96 : decode cX10_harm 96 = .ok (.ireturn, 1) := by decide +kernel
def B_X10_harm_24 (Q : Int → st_S → Prop)    (σ : st_S) : Prop := Q (-1) σ
def B_X10_harm_89 (Q : Int → st_S → Prop)  (k30 : Int → Int → Int → st_S → Prop) (l1 : Int) (l2 : Int) (l3 : Int) (σ : st_S) : Prop := ∀ x19 : Int, x19 = wr (l3 + 1) → k30 l1 l2 x19 σ
def L_X10_harm_30 (Q : Int → st_S → Prop)   : Nat → Int → Int → Int → st_S → Prop
  | 0 => fun _ _ _ _ => False
  | n + 1 => fun l1 l2 l3 σ => (gI σ 25 0 ≤ l3 → Q l2 σ) ∧ (¬ gI σ 25 0 ≤ l3 → wp_X1_talks l1 l3 σ (fun r21 s22 => (r21 = 0 → B_X10_harm_89 Q (L_X10_harm_30 Q n) l1 l2 l3 s22) ∧ (¬ r21 = 0 → ix l3 10 ∧ (gI s22 29 (Int.toNat l3) = 3 → B_X10_harm_89 Q (L_X10_harm_30 Q n) l1 l2 l3 s22) ∧ (¬ gI s22 29 (Int.toNat l3) = 3 → wp_X3_spoils l1 l3 s22 (fun r25 s26 => wp_X1_worth l3 s26 (fun r27 s28 => ∀ x30 : Int, x30 = wr (l2 + o_min r25 r27) → B_X10_harm_89 Q (L_X10_harm_30 Q n) l1 x30 l3 s28))))))
def wp_X10_harm (a1 : Int) (σ : st_S) (Q : Int → st_S → Prop) : Prop := wp_X1_has a1 σ (fun r34 s35 => (r34 = 0 → B_X10_harm_24 Q s35) ∧ (¬ r34 = 0 → ix a1 10 ∧ (¬ gI s35 29 (Int.toNat a1) = 3 → ∃ m30 : Nat, L_X10_harm_30 Q m30 a1 0 0 s35) ∧ (gI s35 29 (Int.toNat a1) = 3 → B_X10_harm_24 Q s35)))
set_option maxRecDepth 20000 in
theorem jb_X10_harm_24 {X : jj_X} {E : ev_E} {n0 hN : Nat} (hc : Cx X E cX10_harm 4 n0 hN RX10) (hm : eM E = 1) (hr : (xT X).sig.returnType = (some .int)) (hh : 5 ≤ hN) {Q : Int → st_S → Prop} {σ : st_S} (h : B_X10_harm_24 Q σ) : J X E 4 n0 0 0 (MQ (xB X) (qI E (n0 + 0) Q) (xA X) (xS X) 0 0 (eF E)) σ 24 [] [] := by
  have hh1 : 1 ≤ hN := by omega
  replace h : Q (-1) σ := h
  refine j_iconst hc dX10_harm_24 ?_
  exact j_iret hc hr (wlit (-1) (by decide)) h dX10_harm_25
set_option maxRecDepth 20000 in
theorem jb_X10_harm_89 {X : jj_X} {E : ev_E} {n0 hN : Nat} (hc : Cx X E cX10_harm 4 n0 hN RX10) (hm : eM E = 1) (hr : (xT X).sig.returnType = (some .int)) (hh : 5 ≤ hN) {Q : Int → st_S → Prop} {k30 : Int → Int → Int → st_S → Prop} (hk30 : ∀ {l1 : Int} {l2 : Int} {l3 : Int} (cl1 : wr l1 = l1) (cl2 : wr l2 = l2) (cl3 : wr l3 = l3) {σ : st_S}, k30 l1 l2 l3 σ → J X E 4 n0 0 0 (MQ (xB X) (qI E (n0 + 0) Q) (xA X) (xS X) 0 0 (eF E)) σ 30 [(0, vR E 0), (1, vI l1), (2, vI l2), (3, vI l3)] []) {l1 : Int} {l2 : Int} {l3 : Int} (cl1 : wr l1 = l1) (cl2 : wr l2 = l2) (cl3 : wr l3 = l3) {σ : st_S} (h : B_X10_harm_89 Q k30 l1 l2 l3 σ) : J X E 4 n0 0 0 (MQ (xB X) (qI E (n0 + 0) Q) (xA X) (xS X) 0 0 (eF E)) σ 89 [(0, vR E 0), (1, vI l1), (2, vI l2), (3, vI l3)] [] := by
  have hh1 : 1 ≤ hN := by omega
  replace h : ∀ x19 : Int, x19 = wr (l3 + 1) → k30 l1 l2 x19 σ := h
  obtain ⟨x19, ex19⟩ : ∃ y : Int, y = wr (l3 + 1) := ⟨_, rfl⟩
  have cx19 : wr x19 = x19 := by rw [ex19]; exact wr_wr _
  replace h := h x19 ex19
  refine j_iinc (lv' := [(3, vI x19), (0, vR E 0), (1, vI l1), (2, vI l2)]) hc 3 dX10_harm_89 rfl (by decide) ex19 rfl ?_
  refine j_goto (tgt := 30) hc dX10_harm_92 (by decide) ?_
  refine j_sub (lv' := [(0, vR E 0), (1, vI l1), (2, vI l2), (3, vI x19)]) [1, 2, 3, 0] rfl ?_
  exact hk30 cl1 cl2 cx19 h
set_option maxRecDepth 20000 in
theorem jl_X10_harm_30 {X : jj_X} {E : ev_E} {n0 hN : Nat} (hc : Cx X E cX10_harm 4 n0 hN RX10) (hm : eM E = 1) (hr : (xT X).sig.returnType = (some .int)) (hh : 5 ≤ hN) {Q : Int → st_S → Prop} : ∀ (n : Nat) {l1 : Int} {l2 : Int} {l3 : Int} (cl1 : wr l1 = l1) (cl2 : wr l2 = l2) (cl3 : wr l3 = l3) {σ : st_S}, L_X10_harm_30 Q n l1 l2 l3 σ → J X E 4 n0 0 0 (MQ (xB X) (qI E (n0 + 0) Q) (xA X) (xS X) 0 0 (eF E)) σ 30 [(0, vR E 0), (1, vI l1), (2, vI l2), (3, vI l3)] [] := by
  have hh1 : 1 ≤ hN := by omega
  intro n
  induction n with
  | zero => intro l1 l2 l3 cl1 cl2 cl3 σ h; exact h.elim
  | succ n ih =>
    intro l1 l2 l3 cl1 cl2 cl3 σ h
    have hk30 : ∀ {l1 : Int} {l2 : Int} {l3 : Int} (cl1 : wr l1 = l1) (cl2 : wr l2 = l2) (cl3 : wr l3 = l3) {σ : st_S}, L_X10_harm_30 Q n l1 l2 l3 σ → J X E 4 n0 0 0 (MQ (xB X) (qI E (n0 + 0) Q) (xA X) (xS X) 0 0 (eF E)) σ 30 [(0, vR E 0), (1, vI l1), (2, vI l2), (3, vI l3)] [] := ih
    replace h : (gI σ 25 0 ≤ l3 → Q l2 σ) ∧ (¬ gI σ 25 0 ≤ l3 → wp_X1_talks l1 l3 σ (fun r21 s22 => (r21 = 0 → B_X10_harm_89 Q (L_X10_harm_30 Q n) l1 l2 l3 s22) ∧ (¬ r21 = 0 → ix l3 10 ∧ (gI s22 29 (Int.toNat l3) = 3 → B_X10_harm_89 Q (L_X10_harm_30 Q n) l1 l2 l3 s22) ∧ (¬ gI s22 29 (Int.toNat l3) = 3 → wp_X3_spoils l1 l3 s22 (fun r25 s26 => wp_X1_worth l3 s26 (fun r27 s28 => ∀ x30 : Int, x30 = wr (l2 + o_min r25 r27) → B_X10_harm_89 Q (L_X10_harm_30 Q n) l1 x30 l3 s28)))))) := h
    refine j_iload_n hc 3 dX10_harm_30 rfl rfl ?_
    refine j_aload_nR hc 0 dX10_harm_31 rfl rfl ?_
    refine j_getR (c' := 25) hc fl_RX10_56 rfl rfl (fun hv => (sv_k hv hm rfl)) dX10_harm_32 ?_
    refine j_getI hc fl_RX10_100 (Or.inl rfl) (fun hv => Or.inl (sv_k hv hm rfl)) dX10_harm_35 (fun cn20 => ?_)
    refine j_ic_ge hc cl3 cn20 (tgt := 95) dX10_harm_38 (by decide) (fun q33 => ?_) (fun q33 => ?_)
    · replace h := h.1 q33
      refine j_iload_n hc 2 dX10_harm_95 rfl rfl ?_
      exact j_iret hc hr cl2 h dX10_harm_96
    · replace h := h.2 q33
      refine j_aload_nR hc 0 dX10_harm_41 rfl rfl ?_
      refine j_getR (c' := 25) hc fl_RX10_56 rfl rfl (fun hv => (sv_k hv hm rfl)) dX10_harm_42 ?_
      refine j_iload_n hc 1 dX10_harm_45 rfl rfl ?_
      refine j_iload_n hc 3 dX10_harm_46 rfl rfl ?_
      refine j_vI hc (k := 1) (by decide) (fun hv => Or.inl (sv_k hv hm rfl)) ml_RX10_284 mv_X1_talks (As := [vI l1, vI l3]) (c_X1_talks (cx_E hc) hm cl1 cl3 h) rfl (by omega) (by decide) ⟨Nat.zero_le _, Nat.zero_le _⟩ (Nat.le_of_ble_eq_true rfl) rfl dX10_harm_47 (fun r21 s22 cr21 h => ?_)
      refine j_if_eq hc cr21 (tgt := 89) dX10_harm_50 (by decide) (fun q32 => ?_) (fun q32 => ?_)
      · replace h := h.1 q32
        refine j_sub (lv' := [(0, vR E 0), (1, vI l1), (2, vI l2), (3, vI l3)]) [0, 1, 2, 3] rfl ?_
        exact jb_X10_harm_89 hc hm hr hh hk30 cl1 cl2 cl3 h
      · replace h := h.2 q32
        refine j_aload_nR hc 0 dX10_harm_53 rfl rfl ?_
        refine j_getR (c' := 25) hc fl_RX10_56 rfl rfl (fun hv => (sv_k hv hm rfl)) dX10_harm_54 ?_
        refine j_getR (c' := 29) hc fl_RX10_118 rfl rfl (fun hv => (sv_k hv hm rfl)) dX10_harm_57 ?_
        refine j_iload_n hc 3 dX10_harm_60 rfl rfl ?_
        obtain ⟨b23, h⟩ := h
        refine j_iald (jn := (Int.toNat l3)) hc (fun hv => sv_kl hv hm rfl) cl3 b23 rfl dX10_harm_61 (fun cn24 => ?_)
        refine j_iconst hc dX10_harm_62 ?_
        refine j_ic_eq hc cn24 (wlit 3 (by decide)) (tgt := 89) dX10_harm_63 (by decide) (fun q31 => ?_) (fun q31 => ?_)
        · replace h := h.1 q31
          refine j_sub (lv' := [(0, vR E 0), (1, vI l1), (2, vI l2), (3, vI l3)]) [0, 1, 2, 3] rfl ?_
          exact jb_X10_harm_89 hc hm hr hh hk30 cl1 cl2 cl3 h
        · replace h := h.2 q31
          refine j_iload_n hc 2 dX10_harm_66 rfl rfl ?_
          refine j_aload_nR hc 0 dX10_harm_67 rfl rfl ?_
          refine j_getR (c' := 35) hc fl_RX10_59 rfl rfl (fun hv => (sv_k hv hm rfl)) dX10_harm_68 ?_
          refine j_iload_n hc 1 dX10_harm_71 rfl rfl ?_
          refine j_iload_n hc 3 dX10_harm_72 rfl rfl ?_
          refine j_vI hc (k := 3) (by decide) (fun hv => Or.inl (sv_k hv hm rfl)) ml_RX10_219 mv_X3_spoils (As := [vI l1, vI l3]) (c_X3_spoils (cx_E hc) hm cl1 cl3 h) rfl (by omega) (by decide) ⟨Nat.zero_le _, Nat.zero_le _⟩ (Nat.le_of_ble_eq_true rfl) rfl dX10_harm_73 (fun r25 s26 cr25 h => ?_)
          refine j_aload_nR hc 0 dX10_harm_76 rfl rfl ?_
          refine j_getR (c' := 25) hc fl_RX10_56 rfl rfl (fun hv => (sv_k hv hm rfl)) dX10_harm_77 ?_
          refine j_iload_n hc 3 dX10_harm_80 rfl rfl ?_
          refine j_vI hc (k := 1) (by decide) (fun hv => Or.inl (sv_k hv hm rfl)) ml_RX10_133 mv_X1_worth (As := [vI l3]) (c_X1_worth (cx_E hc) hm cl3 h) rfl (by omega) (by decide) ⟨Nat.zero_le _, Nat.zero_le _⟩ (Nat.le_of_ble_eq_true rfl) rfl dX10_harm_81 (fun r27 s28 cr27 h => ?_)
          refine j_mmin hc mm_RX10_288 hh1 cr25 cr27 (Nat.le_of_ble_eq_true rfl) ⟨Nat.zero_le _, Nat.zero_le _⟩ dX10_harm_84 (fun cn29 => ?_)
          refine j_iadd hc dX10_harm_87 ?_
          refine j_w (fun x30 ex30 cx30 => ?_)
          replace h := h x30 ex30
          refine j_istore_n (lv' := [(2, vI x30), (0, vR E 0), (1, vI l1), (3, vI l3)]) hc dX10_harm_88 rfl (by decide) rfl ?_
          refine j_sub (lv' := [(0, vR E 0), (1, vI l1), (2, vI x30), (3, vI l3)]) [1, 2, 0, 3] rfl ?_
          exact jb_X10_harm_89 hc hm hr hh hk30 cl1 cx30 cl3 h
set_option maxRecDepth 20000 in
theorem c_X10_harm {l : Launch} {E : ev_E} (hE : Eok E) (hm : eM E = 1) {a1 : Int} (ca1 : wr a1 = a1) {σ : st_S} {Q : Int → st_S → Prop} (h : wp_X10_harm a1 σ Q) : cM l yX10_harm cX10_harm 4 (some .int) E 5 0 0 [vR E 0, vI a1] σ (qI E (gN σ + 0) Q) := by
  refine cM_of (lv := [(0, vR E 0), (1, vI a1)]) (by decide) hE (Nat.le_of_ble_eq_true rfl) (rfl) ?_
  intro X hX hc _ _ hr _ _
  subst hX
  have hh : 5 ≤ 5 := Nat.le_refl _
  have hh1 : 1 ≤ 5 := by omega
  replace h : wp_X1_has a1 σ (fun r34 s35 => (r34 = 0 → B_X10_harm_24 Q s35) ∧ (¬ r34 = 0 → ix a1 10 ∧ (¬ gI s35 29 (Int.toNat a1) = 3 → ∃ m30 : Nat, L_X10_harm_30 Q m30 a1 0 0 s35) ∧ (gI s35 29 (Int.toNat a1) = 3 → B_X10_harm_24 Q s35))) := h
  refine j_aload_nR hc 0 dX10_harm_0 rfl rfl ?_
  refine j_getR (c' := 25) hc fl_RX10_56 rfl rfl (fun hv => (sv_k hv hm rfl)) dX10_harm_1 ?_
  refine j_iload_n hc 1 dX10_harm_4 rfl rfl ?_
  refine j_vI hc (k := 1) (by decide) (fun hv => Or.inl (sv_k hv hm rfl)) ml_RX10_114 mv_X1_has (As := [vI a1]) (c_X1_has (cx_E hc) hm ca1 h) rfl (by omega) (by decide) ⟨Nat.zero_le _, Nat.zero_le _⟩ (Nat.le_of_ble_eq_true rfl) rfl dX10_harm_5 (fun r34 s35 cr34 h => ?_)
  refine j_if_eq hc cr34 (tgt := 24) dX10_harm_8 (by decide) (fun q39 => ?_) (fun q39 => ?_)
  · replace h := h.1 q39
    refine j_sub (lv' := []) [] rfl ?_
    exact jb_X10_harm_24 hc hm hr hh h
  · replace h := h.2 q39
    refine j_aload_nR hc 0 dX10_harm_11 rfl rfl ?_
    refine j_getR (c' := 25) hc fl_RX10_56 rfl rfl (fun hv => (sv_k hv hm rfl)) dX10_harm_12 ?_
    refine j_getR (c' := 29) hc fl_RX10_118 rfl rfl (fun hv => (sv_k hv hm rfl)) dX10_harm_15 ?_
    refine j_iload_n hc 1 dX10_harm_18 rfl rfl ?_
    obtain ⟨b36, h⟩ := h
    refine j_iald (jn := (Int.toNat a1)) hc (fun hv => sv_kl hv hm rfl) ca1 b36 rfl dX10_harm_19 (fun cn37 => ?_)
    refine j_iconst hc dX10_harm_20 ?_
    refine j_ic_ne hc cn37 (wlit 3 (by decide)) (tgt := 26) dX10_harm_21 (by decide) (fun q38 => ?_) (fun q38 => ?_)
    · replace h := h.1 q38
      refine j_iconst hc dX10_harm_26 ?_
      refine j_istore_n (lv' := [(2, vI 0), (0, vR E 0), (1, vI a1)]) hc dX10_harm_27 rfl (by decide) rfl ?_
      refine j_iconst hc dX10_harm_28 ?_
      refine j_istore_n (lv' := [(3, vI 0), (2, vI 0), (0, vR E 0), (1, vI a1)]) hc dX10_harm_29 rfl (by decide) rfl ?_
      obtain ⟨n30, h⟩ := h
      refine j_sub (lv' := [(0, vR E 0), (1, vI a1), (2, vI 0), (3, vI 0)]) [2, 3, 1, 0] rfl ?_
      exact jl_X10_harm_30 hc hm hr hh n30 ca1 (wlit 0 (by decide)) (wlit 0 (by decide)) h
    · replace h := h.2 q38
      refine j_sub (lv' := []) [] rfl ?_
      exact jb_X10_harm_24 hc hm hr hh h
-- LitStrangers.hush(II)I
theorem dX10_hush_0 : decode cX10_hush 0 = .ok (.iload_n 1, 1) := by decide +kernel
theorem dX10_hush_1 : decode cX10_hush 1 = .ok (.iconst 1, 1) := by decide +kernel
theorem dX10_hush_2 : decode cX10_hush 2 = .ok (.if_icmp .lt 18, 3) := by decide +kernel
theorem dX10_hush_5 : decode cX10_hush 5 = .ok (.iload_n 1, 1) := by decide +kernel
theorem dX10_hush_6 : decode cX10_hush 6 = .ok (.bipush 10, 2) := by decide +kernel
theorem dX10_hush_8 : decode cX10_hush 8 = .ok (.if_icmp .gt 12, 3) := by decide +kernel
theorem dX10_hush_11 : decode cX10_hush 11 = .ok (.iload_n 2, 1) := by decide +kernel
theorem dX10_hush_12 : decode cX10_hush 12 = .ok (.ifCond .lt 8, 3) := by decide +kernel
theorem dX10_hush_15 : decode cX10_hush 15 = .ok (.iload_n 2, 1) := by decide +kernel
theorem dX10_hush_16 : decode cX10_hush 16 = .ok (.iconst 2, 1) := by decide +kernel
theorem dX10_hush_17 : decode cX10_hush 17 = .ok (.if_icmp .le 5, 3) := by decide +kernel
theorem dX10_hush_20 : decode cX10_hush 20 = .ok (.iconst (-1), 1) := by decide +kernel
theorem dX10_hush_21 : decode cX10_hush 21 = .ok (.ireturn, 1) := by decide +kernel
theorem dX10_hush_22 : decode cX10_hush 22 = .ok (.aload_n 0, 1) := by decide +kernel
theorem dX10_hush_23 : decode cX10_hush 23 = .ok (.getfield 79, 3) := by decide +kernel
theorem dX10_hush_26 : decode cX10_hush 26 = .ok (.invokevirtual 240, 3) := by decide +kernel
theorem dX10_hush_29 : decode cX10_hush 29 = .ok (.iconst 0, 1) := by decide +kernel
theorem dX10_hush_30 : decode cX10_hush 30 = .ok (.istore_n 3, 1) := by decide +kernel
theorem dX10_hush_31 : decode cX10_hush 31 = .ok (.iload_n 3, 1) := by decide +kernel
theorem dX10_hush_32 : decode cX10_hush 32 = .ok (.iconst 2, 1) := by decide +kernel
theorem dX10_hush_33 : decode cX10_hush 33 = .ok (.if_icmp .gt 51, 3) := by decide +kernel
theorem dX10_hush_36 : decode cX10_hush 36 = .ok (.aload_n 0, 1) := by decide +kernel
theorem dX10_hush_37 : decode cX10_hush 37 = .ok (.getfield 88, 3) := by decide +kernel
theorem dX10_hush_40 : decode cX10_hush 40 = .ok (.iload_n 1, 1) := by decide +kernel
theorem dX10_hush_41 : decode cX10_hush 41 = .ok (.iload_n 3, 1) := by decide +kernel
theorem dX10_hush_42 : decode cX10_hush 42 = .ok (.invokevirtual 293, 3) := by decide +kernel
theorem dX10_hush_45 : decode cX10_hush 45 = .ok (.istore 4, 2) := by decide +kernel
theorem dX10_hush_47 : decode cX10_hush 47 = .ok (.iload 4, 2) := by decide +kernel
theorem dX10_hush_49 : decode cX10_hush 49 = .ok (.ifCond .le 29, 3) := by decide +kernel
theorem dX10_hush_52 : decode cX10_hush 52 = .ok (.iload_n 2, 1) := by decide +kernel
theorem dX10_hush_53 : decode cX10_hush 53 = .ok (.ifCond .ne 7, 3) := by decide +kernel
theorem dX10_hush_56 : decode cX10_hush 56 = .ok (.iload_n 3, 1) := by decide +kernel
theorem dX10_hush_57 : decode cX10_hush 57 = .ok (.goto 20, 3) := by decide +kernel
theorem dX10_hush_60 : decode cX10_hush 60 = .ok (.iload_n 2, 1) := by decide +kernel
theorem dX10_hush_61 : decode cX10_hush 61 = .ok (.iconst 1, 1) := by decide +kernel
theorem dX10_hush_62 : decode cX10_hush 62 = .ok (.if_icmp .ne 13, 3) := by decide +kernel
theorem dX10_hush_65 : decode cX10_hush 65 = .ok (.aload_n 0, 1) := by decide +kernel
theorem dX10_hush_66 : decode cX10_hush 66 = .ok (.getfield 88, 3) := by decide +kernel
theorem dX10_hush_69 : decode cX10_hush 69 = .ok (.getfield 296, 3) := by decide +kernel
theorem dX10_hush_72 : decode cX10_hush 72 = .ok (.goto 5, 3) := by decide +kernel
theorem dX10_hush_75 : decode cX10_hush 75 = .ok (.iload 4, 2) := by decide +kernel
theorem dX10_hush_77 : decode cX10_hush 77 = .ok (.ireturn, 1) := by decide +kernel
theorem dX10_hush_78 : decode cX10_hush 78 = .ok (.iinc 3 1, 3) := by decide +kernel
theorem dX10_hush_81 : decode cX10_hush 81 = .ok (.goto (-50), 3) := by decide +kernel
theorem dX10_hush_84 : decode cX10_hush 84 = .ok (.iconst (-1), 1) := by decide +kernel
theorem dX10_hush_85 : decode cX10_hush 85 = .ok (.ireturn, 1) := by decide +kernel
def B_X10_hush_20 (Q : Int → st_S → Prop)    (σ : st_S) : Prop := Q (-1) σ
def B_X10_hush_77 (Q : Int → st_S → Prop)   (v0 : Int) (σ : st_S) : Prop := Q v0 σ
def L_X10_hush_31 (Q : Int → st_S → Prop)   : Nat → Int → Int → Int → st_S → Prop
  | 0 => fun _ _ _ _ => False
  | n + 1 => fun l1 l2 l3 σ => (2 < l3 → Q (-1) σ) ∧ (¬ 2 < l3 → wp_X8_hushings l1 l3 σ (fun r9 s10 => (r9 ≤ 0 → ∀ x11 : Int, x11 = wr (l3 + 1) → (L_X10_hush_31 Q n) l1 l2 x11 s10) ∧ (¬ r9 ≤ 0 → (¬ l2 = 0 → (¬ l2 = 1 → B_X10_hush_77 Q r9 s10) ∧ (l2 = 1 → B_X10_hush_77 Q (gI s10 56 0) s10)) ∧ (l2 = 0 → B_X10_hush_77 Q l3 s10))))
def wp_X10_hush (a1 : Int) (a2 : Int) (σ : st_S) (Q : Int → st_S → Prop) : Prop := (a1 < 1 → B_X10_hush_20 Q σ) ∧ (¬ a1 < 1 → (10 < a1 → B_X10_hush_20 Q σ) ∧ (¬ 10 < a1 → (a2 < 0 → B_X10_hush_20 Q σ) ∧ (¬ a2 < 0 → (a2 ≤ 2 → wp_X5_prepare σ (fun s18 => ∃ m31 : Nat, L_X10_hush_31 Q m31 a1 a2 0 s18)) ∧ (¬ a2 ≤ 2 → B_X10_hush_20 Q σ))))
set_option maxRecDepth 20000 in
theorem jb_X10_hush_20 {X : jj_X} {E : ev_E} {n0 hN : Nat} (hc : Cx X E cX10_hush 5 n0 hN RX10) (hm : eM E = 1) (hr : (xT X).sig.returnType = (some .int)) (hh : 25 ≤ hN) {Q : Int → st_S → Prop} {σ : st_S} (h : B_X10_hush_20 Q σ) : J X E 5 n0 0 0 (MQ (xB X) (qI E (n0 + 0) Q) (xA X) (xS X) 0 0 (eF E)) σ 20 [] [] := by
  have hh1 : 1 ≤ hN := by omega
  replace h : Q (-1) σ := h
  refine j_iconst hc dX10_hush_20 ?_
  exact j_iret hc hr (wlit (-1) (by decide)) h dX10_hush_21
set_option maxRecDepth 20000 in
theorem jb_X10_hush_77 {X : jj_X} {E : ev_E} {n0 hN : Nat} (hc : Cx X E cX10_hush 5 n0 hN RX10) (hm : eM E = 1) (hr : (xT X).sig.returnType = (some .int)) (hh : 25 ≤ hN) {Q : Int → st_S → Prop} {v0 : Int} (cv0 : wr v0 = v0) {σ : st_S} (h : B_X10_hush_77 Q v0 σ) : J X E 5 n0 0 0 (MQ (xB X) (qI E (n0 + 0) Q) (xA X) (xS X) 0 0 (eF E)) σ 77 [] [vI v0] := by
  have hh1 : 1 ≤ hN := by omega
  replace h : Q v0 σ := h
  exact j_iret hc hr cv0 h dX10_hush_77
set_option maxRecDepth 20000 in
theorem jl_X10_hush_31 {X : jj_X} {E : ev_E} {n0 hN : Nat} (hc : Cx X E cX10_hush 5 n0 hN RX10) (hm : eM E = 1) (hr : (xT X).sig.returnType = (some .int)) (hh : 25 ≤ hN) {Q : Int → st_S → Prop} : ∀ (n : Nat) {l1 : Int} {l2 : Int} {l3 : Int} (cl1 : wr l1 = l1) (cl2 : wr l2 = l2) (cl3 : wr l3 = l3) {σ : st_S}, L_X10_hush_31 Q n l1 l2 l3 σ → J X E 5 n0 0 0 (MQ (xB X) (qI E (n0 + 0) Q) (xA X) (xS X) 0 0 (eF E)) σ 31 [(0, vR E 0), (1, vI l1), (2, vI l2), (3, vI l3)] [] := by
  have hh1 : 1 ≤ hN := by omega
  intro n
  induction n with
  | zero => intro l1 l2 l3 cl1 cl2 cl3 σ h; exact h.elim
  | succ n ih =>
    intro l1 l2 l3 cl1 cl2 cl3 σ h
    have hk31 : ∀ {l1 : Int} {l2 : Int} {l3 : Int} (cl1 : wr l1 = l1) (cl2 : wr l2 = l2) (cl3 : wr l3 = l3) {σ : st_S}, L_X10_hush_31 Q n l1 l2 l3 σ → J X E 5 n0 0 0 (MQ (xB X) (qI E (n0 + 0) Q) (xA X) (xS X) 0 0 (eF E)) σ 31 [(0, vR E 0), (1, vI l1), (2, vI l2), (3, vI l3)] [] := ih
    replace h : (2 < l3 → Q (-1) σ) ∧ (¬ 2 < l3 → wp_X8_hushings l1 l3 σ (fun r9 s10 => (r9 ≤ 0 → ∀ x11 : Int, x11 = wr (l3 + 1) → (L_X10_hush_31 Q n) l1 l2 x11 s10) ∧ (¬ r9 ≤ 0 → (¬ l2 = 0 → (¬ l2 = 1 → B_X10_hush_77 Q r9 s10) ∧ (l2 = 1 → B_X10_hush_77 Q (gI s10 56 0) s10)) ∧ (l2 = 0 → B_X10_hush_77 Q l3 s10)))) := h
    refine j_iload_n hc 3 dX10_hush_31 rfl rfl ?_
    refine j_iconst hc dX10_hush_32 ?_
    refine j_ic_gt hc cl3 (wlit 2 (by decide)) (tgt := 84) dX10_hush_33 (by decide) (fun q16 => ?_) (fun q16 => ?_)
    · replace h := h.1 q16
      refine j_iconst hc dX10_hush_84 ?_
      exact j_iret hc hr (wlit (-1) (by decide)) h dX10_hush_85
    · replace h := h.2 q16
      refine j_aload_nR hc 0 dX10_hush_36 rfl rfl ?_
      refine j_getR (c' := 56) hc fl_RX10_88 rfl rfl (fun hv => (sv_k hv hm rfl)) dX10_hush_37 ?_
      refine j_iload_n hc 1 dX10_hush_40 rfl rfl ?_
      refine j_iload_n hc 3 dX10_hush_41 rfl rfl ?_
      refine j_vI hc (k := 8) (by decide) (fun hv => Or.inl (sv_k hv hm rfl)) ml_RX10_293 mv_X8_hushings (As := [vI l1, vI l3]) (c_X8_hushings (cx_E hc) hm cl1 cl3 h) rfl (by omega) (by decide) ⟨Nat.zero_le _, Nat.zero_le _⟩ (Nat.le_of_ble_eq_true rfl) rfl dX10_hush_42 (fun r9 s10 cr9 h => ?_)
      refine j_istore (lv' := [(4, vI r9), (0, vR E 0), (1, vI l1), (2, vI l2), (3, vI l3)]) hc dX10_hush_45 (by decide) rfl ?_
      refine j_iload hc 0 dX10_hush_47 rfl ?_
      refine j_if_le hc cr9 (tgt := 78) dX10_hush_49 (by decide) (fun q15 => ?_) (fun q15 => ?_)
      · replace h := h.1 q15
        obtain ⟨x11, ex11⟩ : ∃ y : Int, y = wr (l3 + 1) := ⟨_, rfl⟩
        have cx11 : wr x11 = x11 := by rw [ex11]; exact wr_wr _
        replace h := h x11 ex11
        refine j_iinc (lv' := [(3, vI x11), (4, vI r9), (0, vR E 0), (1, vI l1), (2, vI l2)]) hc 4 dX10_hush_78 rfl (by decide) ex11 rfl ?_
        refine j_goto (tgt := 31) hc dX10_hush_81 (by decide) ?_
        refine j_sub (lv' := [(0, vR E 0), (1, vI l1), (2, vI l2), (3, vI x11)]) [2, 3, 4, 0] rfl ?_
        exact hk31 cl1 cl2 cx11 h
      · replace h := h.2 q15
        refine j_iload_n hc 3 dX10_hush_52 rfl rfl ?_
        refine j_if_ne hc cl2 (tgt := 60) dX10_hush_53 (by decide) (fun q14 => ?_) (fun q14 => ?_)
        · replace h := h.1 q14
          refine j_iload_n hc 3 dX10_hush_60 rfl rfl ?_
          refine j_iconst hc dX10_hush_61 ?_
          refine j_ic_ne hc cl2 (wlit 1 (by decide)) (tgt := 75) dX10_hush_62 (by decide) (fun q13 => ?_) (fun q13 => ?_)
          · replace h := h.1 q13
            refine j_iload hc 0 dX10_hush_75 rfl ?_
            refine j_sub (lv' := []) [] rfl ?_
            exact jb_X10_hush_77 hc hm hr hh cr9 h
          · replace h := h.2 q13
            refine j_aload_nR hc 1 dX10_hush_65 rfl rfl ?_
            refine j_getR (c' := 56) hc fl_RX10_88 rfl rfl (fun hv => (sv_k hv hm rfl)) dX10_hush_66 ?_
            refine j_getI hc fl_RX10_296 (Or.inl rfl) (fun hv => Or.inl (sv_k hv hm rfl)) dX10_hush_69 (fun cn12 => ?_)
            refine j_goto (tgt := 77) hc dX10_hush_72 (by decide) ?_
            refine j_sub (lv' := []) [] rfl ?_
            exact jb_X10_hush_77 hc hm hr hh cn12 h
        · replace h := h.2 q14
          refine j_iload_n hc 4 dX10_hush_56 rfl rfl ?_
          refine j_goto (tgt := 77) hc dX10_hush_57 (by decide) ?_
          refine j_sub (lv' := []) [] rfl ?_
          exact jb_X10_hush_77 hc hm hr hh cl3 h
set_option maxRecDepth 20000 in
theorem c_X10_hush {l : Launch} {E : ev_E} (hE : Eok E) (hm : eM E = 1) {a1 : Int} {a2 : Int} (ca1 : wr a1 = a1) (ca2 : wr a2 = a2) {σ : st_S} {Q : Int → st_S → Prop} (h : wp_X10_hush a1 a2 σ Q) : cM l yX10_hush cX10_hush 5 (some .int) E 25 0 0 [vR E 0, vI a1, vI a2] σ (qI E (gN σ + 0) Q) := by
  refine cM_of (lv := [(0, vR E 0), (1, vI a1), (2, vI a2)]) (by decide) hE (Nat.le_of_ble_eq_true rfl) (rfl) ?_
  intro X hX hc _ _ hr _ _
  subst hX
  have hh : 25 ≤ 25 := Nat.le_refl _
  have hh1 : 1 ≤ 25 := by omega
  replace h : (a1 < 1 → B_X10_hush_20 Q σ) ∧ (¬ a1 < 1 → (10 < a1 → B_X10_hush_20 Q σ) ∧ (¬ 10 < a1 → (a2 < 0 → B_X10_hush_20 Q σ) ∧ (¬ a2 < 0 → (a2 ≤ 2 → wp_X5_prepare σ (fun s18 => ∃ m31 : Nat, L_X10_hush_31 Q m31 a1 a2 0 s18)) ∧ (¬ a2 ≤ 2 → B_X10_hush_20 Q σ)))) := h
  refine j_iload_n hc 1 dX10_hush_0 rfl rfl ?_
  refine j_iconst hc dX10_hush_1 ?_
  refine j_ic_lt hc ca1 (wlit 1 (by decide)) (tgt := 20) dX10_hush_2 (by decide) (fun q22 => ?_) (fun q22 => ?_)
  · replace h := h.1 q22
    refine j_sub (lv' := []) [] rfl ?_
    exact jb_X10_hush_20 hc hm hr hh h
  · replace h := h.2 q22
    refine j_iload_n hc 1 dX10_hush_5 rfl rfl ?_
    refine j_bipush hc dX10_hush_6 (by decide) ?_
    refine j_ic_gt hc ca1 (wlit 10 (by decide)) (tgt := 20) dX10_hush_8 (by decide) (fun q21 => ?_) (fun q21 => ?_)
    · replace h := h.1 q21
      refine j_sub (lv' := []) [] rfl ?_
      exact jb_X10_hush_20 hc hm hr hh h
    · replace h := h.2 q21
      refine j_iload_n hc 2 dX10_hush_11 rfl rfl ?_
      refine j_if_lt hc ca2 (tgt := 20) dX10_hush_12 (by decide) (fun q20 => ?_) (fun q20 => ?_)
      · replace h := h.1 q20
        refine j_sub (lv' := []) [] rfl ?_
        exact jb_X10_hush_20 hc hm hr hh h
      · replace h := h.2 q20
        refine j_iload_n hc 2 dX10_hush_15 rfl rfl ?_
        refine j_iconst hc dX10_hush_16 ?_
        refine j_ic_le hc ca2 (wlit 2 (by decide)) (tgt := 22) dX10_hush_17 (by decide) (fun q19 => ?_) (fun q19 => ?_)
        · replace h := h.1 q19
          refine j_aload_nR hc 0 dX10_hush_22 rfl rfl ?_
          refine j_getR (c' := 42) hc fl_RX10_79 rfl rfl (fun hv => (sv_k hv hm rfl)) dX10_hush_23 ?_
          refine j_vV hc (k := 5) (by decide) (fun hv => Or.inl (sv_k hv hm rfl)) ml_RX10_240 mv_X5_prepare (As := []) (c_X5_prepare (cx_E hc) hm  h) rfl (by omega) (by decide) ⟨Nat.zero_le _, Nat.zero_le _⟩ (Nat.le_of_ble_eq_true rfl) rfl dX10_hush_26 (fun s18 h => ?_)
          refine j_iconst hc dX10_hush_29 ?_
          refine j_istore_n (lv' := [(3, vI 0), (0, vR E 0), (1, vI a1), (2, vI a2)]) hc dX10_hush_30 rfl (by decide) rfl ?_
          obtain ⟨n31, h⟩ := h
          refine j_sub (lv' := [(0, vR E 0), (1, vI a1), (2, vI a2), (3, vI 0)]) [1, 2, 3, 0] rfl ?_
          exact jl_X10_hush_31 hc hm hr hh n31 ca1 ca2 (wlit 0 (by decide)) h
        · replace h := h.2 q19
          refine j_sub (lv' := []) [] rfl ?_
          exact jb_X10_hush_20 hc hm hr hh h
-- LitStrangers.who(I)I
theorem dX10_who_0 : decode cX10_who 0 = .ok (.iload_n 1, 1) := by decide +kernel
theorem dX10_who_1 : decode cX10_who 1 = .ok (.ifCond .lt 9, 3) := by decide +kernel
theorem dX10_who_4 : decode cX10_who 4 = .ok (.iload_n 1, 1) := by decide +kernel
theorem dX10_who_5 : decode cX10_who 5 = .ok (.bipush 10, 2) := by decide +kernel
theorem dX10_who_7 : decode cX10_who 7 = .ok (.if_icmp .le 5, 3) := by decide +kernel
theorem dX10_who_10 : decode cX10_who 10 = .ok (.iconst (-1), 1) := by decide +kernel
theorem dX10_who_11 : decode cX10_who 11 = .ok (.ireturn, 1) := by decide +kernel
theorem dX10_who_12 : decode cX10_who 12 = .ok (.aload_n 0, 1) := by decide +kernel
theorem dX10_who_13 : decode cX10_who 13 = .ok (.getfield 79, 3) := by decide +kernel
theorem dX10_who_16 : decode cX10_who 16 = .ok (.invokevirtual 240, 3) := by decide +kernel
theorem dX10_who_19 : decode cX10_who 19 = .ok (.iconst 0, 1) := by decide +kernel
theorem dX10_who_20 : decode cX10_who 20 = .ok (.istore_n 2, 1) := by decide +kernel
theorem dX10_who_21 : decode cX10_who 21 = .ok (.iconst 0, 1) := by decide +kernel
theorem dX10_who_22 : decode cX10_who 22 = .ok (.istore_n 3, 1) := by decide +kernel
theorem dX10_who_23 : decode cX10_who 23 = .ok (.iload_n 3, 1) := by decide +kernel
theorem dX10_who_24 : decode cX10_who 24 = .ok (.aload_n 0, 1) := by decide +kernel
theorem dX10_who_25 : decode cX10_who 25 = .ok (.getfield 56, 3) := by decide +kernel
theorem dX10_who_28 : decode cX10_who 28 = .ok (.getfield 100, 3) := by decide +kernel
theorem dX10_who_31 : decode cX10_who 31 = .ok (.if_icmp .ge 55, 3) := by decide +kernel
theorem dX10_who_34 : decode cX10_who 34 = .ok (.iconst 1, 1) := by decide +kernel
theorem dX10_who_35 : decode cX10_who 35 = .ok (.iload_n 3, 1) := by decide +kernel
theorem dX10_who_36 : decode cX10_who 36 = .ok (.ishl, 1) := by decide +kernel
theorem dX10_who_37 : decode cX10_who 37 = .ok (.istore 4, 2) := by decide +kernel
theorem dX10_who_39 : decode cX10_who 39 = .ok (.aload_n 0, 1) := by decide +kernel
theorem dX10_who_40 : decode cX10_who 40 = .ok (.getfield 79, 3) := by decide +kernel
theorem dX10_who_43 : decode cX10_who 43 = .ok (.getfield 243, 3) := by decide +kernel
theorem dX10_who_46 : decode cX10_who 46 = .ok (.iload 4, 2) := by decide +kernel
theorem dX10_who_48 : decode cX10_who 48 = .ok (.iand, 1) := by decide +kernel
theorem dX10_who_49 : decode cX10_who 49 = .ok (.ifCond .eq 31, 3) := by decide +kernel
theorem dX10_who_52 : decode cX10_who 52 = .ok (.aload_n 0, 1) := by decide +kernel
theorem dX10_who_53 : decode cX10_who 53 = .ok (.getfield 88, 3) := by decide +kernel
theorem dX10_who_56 : decode cX10_who 56 = .ok (.aload_n 0, 1) := by decide +kernel
theorem dX10_who_57 : decode cX10_who 57 = .ok (.getfield 79, 3) := by decide +kernel
theorem dX10_who_60 : decode cX10_who 60 = .ok (.getfield 243, 3) := by decide +kernel
theorem dX10_who_63 : decode cX10_who 63 = .ok (.iload 4, 2) := by decide +kernel
theorem dX10_who_65 : decode cX10_who 65 = .ok (.iconst (-1), 1) := by decide +kernel
theorem dX10_who_66 : decode cX10_who 66 = .ok (.ixor, 1) := by decide +kernel
theorem dX10_who_67 : decode cX10_who 67 = .ok (.iand, 1) := by decide +kernel
theorem dX10_who_68 : decode cX10_who 68 = .ok (.invokevirtual 246, 3) := by decide +kernel
theorem dX10_who_71 : decode cX10_who 71 = .ok (.iload_n 1, 1) := by decide +kernel
theorem dX10_who_72 : decode cX10_who 72 = .ok (.if_icmp .ne 8, 3) := by decide +kernel
theorem dX10_who_75 : decode cX10_who 75 = .ok (.iload_n 2, 1) := by decide +kernel
theorem dX10_who_76 : decode cX10_who 76 = .ok (.iload 4, 2) := by decide +kernel
theorem dX10_who_78 : decode cX10_who 78 = .ok (.ior, 1) := by decide +kernel
theorem dX10_who_79 : decode cX10_who 79 = .ok (.istore_n 2, 1) := by decide +kernel
theorem dX10_who_80 : decode cX10_who 80 = .ok (.iinc 3 1, 3) := by decide +kernel
theorem dX10_who_83 : decode cX10_who 83 = .ok (.goto (-60), 3) := by decide +kernel
theorem dX10_who_86 : decode cX10_who 86 = .ok (.iload_n 2, 1) := by decide +kernel
theorem dX10_who_87 : decode cX10_who 87 = .ok (.ireturn, 1) := by decide +kernel
def B_X10_who_10 (Q : Int → st_S → Prop)    (σ : st_S) : Prop := Q (-1) σ
def B_X10_who_80 (Q : Int → st_S → Prop)  (k23 : Int → Int → Int → st_S → Prop) (l1 : Int) (l2 : Int) (l3 : Int) (σ : st_S) : Prop := ∀ x13 : Int, x13 = wr (l3 + 1) → k23 l1 l2 x13 σ
def L_X10_who_23 (Q : Int → st_S → Prop)   : Nat → Int → Int → Int → st_S → Prop
  | 0 => fun _ _ _ _ => False
  | n + 1 => fun l1 l2 l3 σ => (gI σ 25 0 ≤ l3 → Q l2 σ) ∧ (¬ gI σ 25 0 ≤ l3 → ∀ x15 : Int, x15 = o_shl 1 l3 → (o_and (gI σ 42 0) x15 = 0 → B_X10_who_80 Q (L_X10_who_23 Q n) l1 l2 l3 σ) ∧ (¬ o_and (gI σ 42 0) x15 = 0 → wp_X8_longest (o_and (gI σ 42 0) (o_xor x15 (-1))) σ (fun r18 s19 => (¬ r18 = l1 → B_X10_who_80 Q (L_X10_who_23 Q n) l1 l2 l3 s19) ∧ (r18 = l1 → ∀ x20 : Int, x20 = o_or l2 x15 → B_X10_who_80 Q (L_X10_who_23 Q n) l1 x20 l3 s19))))
def wp_X10_who (a1 : Int) (σ : st_S) (Q : Int → st_S → Prop) : Prop := (a1 < 0 → B_X10_who_10 Q σ) ∧ (¬ a1 < 0 → (a1 ≤ 10 → wp_X5_prepare σ (fun s25 => ∃ m23 : Nat, L_X10_who_23 Q m23 a1 0 0 s25)) ∧ (¬ a1 ≤ 10 → B_X10_who_10 Q σ))
set_option maxRecDepth 20000 in
theorem jb_X10_who_10 {X : jj_X} {E : ev_E} {n0 hN : Nat} (hc : Cx X E cX10_who 5 n0 hN RX10) (hm : eM E = 1) (hr : (xT X).sig.returnType = (some .int)) (hh : 24 ≤ hN) {Q : Int → st_S → Prop} {σ : st_S} (h : B_X10_who_10 Q σ) : J X E 5 n0 0 0 (MQ (xB X) (qI E (n0 + 0) Q) (xA X) (xS X) 0 0 (eF E)) σ 10 [] [] := by
  have hh1 : 1 ≤ hN := by omega
  replace h : Q (-1) σ := h
  refine j_iconst hc dX10_who_10 ?_
  exact j_iret hc hr (wlit (-1) (by decide)) h dX10_who_11
set_option maxRecDepth 20000 in
theorem jb_X10_who_80 {X : jj_X} {E : ev_E} {n0 hN : Nat} (hc : Cx X E cX10_who 5 n0 hN RX10) (hm : eM E = 1) (hr : (xT X).sig.returnType = (some .int)) (hh : 24 ≤ hN) {Q : Int → st_S → Prop} {k23 : Int → Int → Int → st_S → Prop} (hk23 : ∀ {l1 : Int} {l2 : Int} {l3 : Int} (cl1 : wr l1 = l1) (cl2 : wr l2 = l2) (cl3 : wr l3 = l3) {σ : st_S}, k23 l1 l2 l3 σ → J X E 5 n0 0 0 (MQ (xB X) (qI E (n0 + 0) Q) (xA X) (xS X) 0 0 (eF E)) σ 23 [(0, vR E 0), (1, vI l1), (2, vI l2), (3, vI l3)] []) {l1 : Int} {l2 : Int} {l3 : Int} (cl1 : wr l1 = l1) (cl2 : wr l2 = l2) (cl3 : wr l3 = l3) {σ : st_S} (h : B_X10_who_80 Q k23 l1 l2 l3 σ) : J X E 5 n0 0 0 (MQ (xB X) (qI E (n0 + 0) Q) (xA X) (xS X) 0 0 (eF E)) σ 80 [(0, vR E 0), (1, vI l1), (2, vI l2), (3, vI l3)] [] := by
  have hh1 : 1 ≤ hN := by omega
  replace h : ∀ x13 : Int, x13 = wr (l3 + 1) → k23 l1 l2 x13 σ := h
  obtain ⟨x13, ex13⟩ : ∃ y : Int, y = wr (l3 + 1) := ⟨_, rfl⟩
  have cx13 : wr x13 = x13 := by rw [ex13]; exact wr_wr _
  replace h := h x13 ex13
  refine j_iinc (lv' := [(3, vI x13), (0, vR E 0), (1, vI l1), (2, vI l2)]) hc 3 dX10_who_80 rfl (by decide) ex13 rfl ?_
  refine j_goto (tgt := 23) hc dX10_who_83 (by decide) ?_
  refine j_sub (lv' := [(0, vR E 0), (1, vI l1), (2, vI l2), (3, vI x13)]) [1, 2, 3, 0] rfl ?_
  exact hk23 cl1 cl2 cx13 h
set_option maxRecDepth 20000 in
theorem jl_X10_who_23 {X : jj_X} {E : ev_E} {n0 hN : Nat} (hc : Cx X E cX10_who 5 n0 hN RX10) (hm : eM E = 1) (hr : (xT X).sig.returnType = (some .int)) (hh : 24 ≤ hN) {Q : Int → st_S → Prop} : ∀ (n : Nat) {l1 : Int} {l2 : Int} {l3 : Int} (cl1 : wr l1 = l1) (cl2 : wr l2 = l2) (cl3 : wr l3 = l3) {σ : st_S}, L_X10_who_23 Q n l1 l2 l3 σ → J X E 5 n0 0 0 (MQ (xB X) (qI E (n0 + 0) Q) (xA X) (xS X) 0 0 (eF E)) σ 23 [(0, vR E 0), (1, vI l1), (2, vI l2), (3, vI l3)] [] := by
  have hh1 : 1 ≤ hN := by omega
  intro n
  induction n with
  | zero => intro l1 l2 l3 cl1 cl2 cl3 σ h; exact h.elim
  | succ n ih =>
    intro l1 l2 l3 cl1 cl2 cl3 σ h
    have hk23 : ∀ {l1 : Int} {l2 : Int} {l3 : Int} (cl1 : wr l1 = l1) (cl2 : wr l2 = l2) (cl3 : wr l3 = l3) {σ : st_S}, L_X10_who_23 Q n l1 l2 l3 σ → J X E 5 n0 0 0 (MQ (xB X) (qI E (n0 + 0) Q) (xA X) (xS X) 0 0 (eF E)) σ 23 [(0, vR E 0), (1, vI l1), (2, vI l2), (3, vI l3)] [] := ih
    replace h : (gI σ 25 0 ≤ l3 → Q l2 σ) ∧ (¬ gI σ 25 0 ≤ l3 → ∀ x15 : Int, x15 = o_shl 1 l3 → (o_and (gI σ 42 0) x15 = 0 → B_X10_who_80 Q (L_X10_who_23 Q n) l1 l2 l3 σ) ∧ (¬ o_and (gI σ 42 0) x15 = 0 → wp_X8_longest (o_and (gI σ 42 0) (o_xor x15 (-1))) σ (fun r18 s19 => (¬ r18 = l1 → B_X10_who_80 Q (L_X10_who_23 Q n) l1 l2 l3 s19) ∧ (r18 = l1 → ∀ x20 : Int, x20 = o_or l2 x15 → B_X10_who_80 Q (L_X10_who_23 Q n) l1 x20 l3 s19)))) := h
    refine j_iload_n hc 3 dX10_who_23 rfl rfl ?_
    refine j_aload_nR hc 0 dX10_who_24 rfl rfl ?_
    refine j_getR (c' := 25) hc fl_RX10_56 rfl rfl (fun hv => (sv_k hv hm rfl)) dX10_who_25 ?_
    refine j_getI hc fl_RX10_100 (Or.inl rfl) (fun hv => Or.inl (sv_k hv hm rfl)) dX10_who_28 (fun cn14 => ?_)
    refine j_ic_ge hc cl3 cn14 (tgt := 86) dX10_who_31 (by decide) (fun q23 => ?_) (fun q23 => ?_)
    · replace h := h.1 q23
      refine j_iload_n hc 2 dX10_who_86 rfl rfl ?_
      exact j_iret hc hr cl2 h dX10_who_87
    · replace h := h.2 q23
      refine j_iconst hc dX10_who_34 ?_
      refine j_iload_n hc 3 dX10_who_35 rfl rfl ?_
      refine j_ishl hc dX10_who_36 ?_
      refine j_c (cn_shl _ _) (fun x15 ex15 cx15 => ?_)
      replace h := h x15 ex15
      refine j_istore (lv' := [(4, vI x15), (0, vR E 0), (1, vI l1), (2, vI l2), (3, vI l3)]) hc dX10_who_37 (by decide) rfl ?_
      refine j_aload_nR hc 1 dX10_who_39 rfl rfl ?_
      refine j_getR (c' := 42) hc fl_RX10_79 rfl rfl (fun hv => (sv_k hv hm rfl)) dX10_who_40 ?_
      refine j_getI hc fl_RX10_243 (Or.inl rfl) (fun hv => Or.inl (sv_k hv hm rfl)) dX10_who_43 (fun cn16 => ?_)
      refine j_iload hc 0 dX10_who_46 rfl ?_
      refine j_iand hc dX10_who_48 ?_
      refine j_if_eq hc (cn_and _ _) (tgt := 80) dX10_who_49 (by decide) (fun q22 => ?_) (fun q22 => ?_)
      · replace h := h.1 q22
        refine j_sub (lv' := [(0, vR E 0), (1, vI l1), (2, vI l2), (3, vI l3)]) [1, 2, 3, 4] rfl ?_
        exact jb_X10_who_80 hc hm hr hh hk23 cl1 cl2 cl3 h
      · replace h := h.2 q22
        refine j_aload_nR hc 1 dX10_who_52 rfl rfl ?_
        refine j_getR (c' := 56) hc fl_RX10_88 rfl rfl (fun hv => (sv_k hv hm rfl)) dX10_who_53 ?_
        refine j_aload_nR hc 1 dX10_who_56 rfl rfl ?_
        refine j_getR (c' := 42) hc fl_RX10_79 rfl rfl (fun hv => (sv_k hv hm rfl)) dX10_who_57 ?_
        refine j_getI hc fl_RX10_243 (Or.inl rfl) (fun hv => Or.inl (sv_k hv hm rfl)) dX10_who_60 (fun cn17 => ?_)
        refine j_iload hc 0 dX10_who_63 rfl ?_
        refine j_iconst hc dX10_who_65 ?_
        refine j_ixor hc dX10_who_66 ?_
        refine j_iand hc dX10_who_67 ?_
        refine j_vI hc (k := 8) (by decide) (fun hv => Or.inl (sv_k hv hm rfl)) ml_RX10_246 mv_X8_longest (As := [vI (o_and (gI σ 42 0) (o_xor x15 (-1)))]) (c_X8_longest (cx_E hc) hm (cn_and _ _) h) rfl (by omega) (by decide) ⟨Nat.zero_le _, Nat.zero_le _⟩ (Nat.le_of_ble_eq_true rfl) rfl dX10_who_68 (fun r18 s19 cr18 h => ?_)
        refine j_iload_n hc 2 dX10_who_71 rfl rfl ?_
        refine j_ic_ne hc cr18 cl1 (tgt := 80) dX10_who_72 (by decide) (fun q21 => ?_) (fun q21 => ?_)
        · replace h := h.1 q21
          refine j_sub (lv' := [(0, vR E 0), (1, vI l1), (2, vI l2), (3, vI l3)]) [1, 2, 3, 4] rfl ?_
          exact jb_X10_who_80 hc hm hr hh hk23 cl1 cl2 cl3 h
        · replace h := h.2 q21
          refine j_iload_n hc 3 dX10_who_75 rfl rfl ?_
          refine j_iload hc 0 dX10_who_76 rfl ?_
          refine j_ior hc dX10_who_78 ?_
          refine j_c (cn_or _ _) (fun x20 ex20 cx20 => ?_)
          replace h := h x20 ex20
          refine j_istore_n (lv' := [(2, vI x20), (4, vI x15), (0, vR E 0), (1, vI l1), (3, vI l3)]) hc dX10_who_79 rfl (by decide) rfl ?_
          refine j_sub (lv' := [(0, vR E 0), (1, vI l1), (2, vI x20), (3, vI l3)]) [2, 3, 0, 4] rfl ?_
          exact jb_X10_who_80 hc hm hr hh hk23 cl1 cx20 cl3 h
set_option maxRecDepth 20000 in
theorem c_X10_who {l : Launch} {E : ev_E} (hE : Eok E) (hm : eM E = 1) {a1 : Int} (ca1 : wr a1 = a1) {σ : st_S} {Q : Int → st_S → Prop} (h : wp_X10_who a1 σ Q) : cM l yX10_who cX10_who 5 (some .int) E 24 0 0 [vR E 0, vI a1] σ (qI E (gN σ + 0) Q) := by
  refine cM_of (lv := [(0, vR E 0), (1, vI a1)]) (by decide) hE (Nat.le_of_ble_eq_true rfl) (rfl) ?_
  intro X hX hc _ _ hr _ _
  subst hX
  have hh : 24 ≤ 24 := Nat.le_refl _
  have hh1 : 1 ≤ 24 := by omega
  replace h : (a1 < 0 → B_X10_who_10 Q σ) ∧ (¬ a1 < 0 → (a1 ≤ 10 → wp_X5_prepare σ (fun s25 => ∃ m23 : Nat, L_X10_who_23 Q m23 a1 0 0 s25)) ∧ (¬ a1 ≤ 10 → B_X10_who_10 Q σ)) := h
  refine j_iload_n hc 1 dX10_who_0 rfl rfl ?_
  refine j_if_lt hc ca1 (tgt := 10) dX10_who_1 (by decide) (fun q27 => ?_) (fun q27 => ?_)
  · replace h := h.1 q27
    refine j_sub (lv' := []) [] rfl ?_
    exact jb_X10_who_10 hc hm hr hh h
  · replace h := h.2 q27
    refine j_iload_n hc 1 dX10_who_4 rfl rfl ?_
    refine j_bipush hc dX10_who_5 (by decide) ?_
    refine j_ic_le hc ca1 (wlit 10 (by decide)) (tgt := 12) dX10_who_7 (by decide) (fun q26 => ?_) (fun q26 => ?_)
    · replace h := h.1 q26
      refine j_aload_nR hc 0 dX10_who_12 rfl rfl ?_
      refine j_getR (c' := 42) hc fl_RX10_79 rfl rfl (fun hv => (sv_k hv hm rfl)) dX10_who_13 ?_
      refine j_vV hc (k := 5) (by decide) (fun hv => Or.inl (sv_k hv hm rfl)) ml_RX10_240 mv_X5_prepare (As := []) (c_X5_prepare (cx_E hc) hm  h) rfl (by omega) (by decide) ⟨Nat.zero_le _, Nat.zero_le _⟩ (Nat.le_of_ble_eq_true rfl) rfl dX10_who_16 (fun s25 h => ?_)
      refine j_iconst hc dX10_who_19 ?_
      refine j_istore_n (lv' := [(2, vI 0), (0, vR E 0), (1, vI a1)]) hc dX10_who_20 rfl (by decide) rfl ?_
      refine j_iconst hc dX10_who_21 ?_
      refine j_istore_n (lv' := [(3, vI 0), (2, vI 0), (0, vR E 0), (1, vI a1)]) hc dX10_who_22 rfl (by decide) rfl ?_
      obtain ⟨n23, h⟩ := h
      refine j_sub (lv' := [(0, vR E 0), (1, vI a1), (2, vI 0), (3, vI 0)]) [2, 3, 1, 0] rfl ?_
      exact jl_X10_who_23 hc hm hr hh n23 ca1 (wlit 0 (by decide)) (wlit 0 (by decide)) h
    · replace h := h.2 q26
      refine j_sub (lv' := []) [] rfl ?_
      exact jb_X10_who_10 hc hm hr hh h
-- LitStrangers.winter(II)I
theorem dX10_winter_0 : decode cX10_winter 0 = .ok (.iload_n 1, 1) := by decide +kernel
theorem dX10_winter_1 : decode cX10_winter 1 = .ok (.ifCond .lt 21, 3) := by decide +kernel
theorem dX10_winter_4 : decode cX10_winter 4 = .ok (.iload_n 1, 1) := by decide +kernel
theorem dX10_winter_5 : decode cX10_winter 5 = .ok (.ldc_w 299, 3) := by decide +kernel
theorem dX10_winter_8 : decode cX10_winter 8 = .ok (.if_icmp .gt 14, 3) := by decide +kernel
theorem dX10_winter_11 : decode cX10_winter 11 = .ok (.iload_n 2, 1) := by decide +kernel
theorem dX10_winter_12 : decode cX10_winter 12 = .ok (.iconst 1, 1) := by decide +kernel
theorem dX10_winter_13 : decode cX10_winter 13 = .ok (.if_icmp .lt 9, 3) := by decide +kernel
theorem dX10_winter_16 : decode cX10_winter 16 = .ok (.iload_n 2, 1) := by decide +kernel
theorem dX10_winter_17 : decode cX10_winter 17 = .ok (.bipush 60, 2) := by decide +kernel
theorem dX10_winter_19 : decode cX10_winter 19 = .ok (.if_icmp .le 9, 3) := by decide +kernel
theorem dX10_winter_22 : decode cX10_winter 22 = .ok (.aload_n 0, 1) := by decide +kernel
theorem dX10_winter_23 : decode cX10_winter 23 = .ok (.iconst (-1), 1) := by decide +kernel
theorem dX10_winter_24 : decode cX10_winter 24 = .ok (.invokevirtual 96, 3) := by decide +kernel
theorem dX10_winter_27 : decode cX10_winter 27 = .ok (.ireturn, 1) := by decide +kernel
theorem dX10_winter_28 : decode cX10_winter 28 = .ok (.aload_n 0, 1) := by decide +kernel
theorem dX10_winter_29 : decode cX10_winter 29 = .ok (.getfield 79, 3) := by decide +kernel
theorem dX10_winter_32 : decode cX10_winter 32 = .ok (.invokevirtual 240, 3) := by decide +kernel
theorem dX10_winter_35 : decode cX10_winter 35 = .ok (.aload_n 0, 1) := by decide +kernel
theorem dX10_winter_36 : decode cX10_winter 36 = .ok (.iload_n 2, 1) := by decide +kernel
theorem dX10_winter_37 : decode cX10_winter 37 = .ok (.putfield 300, 3) := by decide +kernel
theorem dX10_winter_40 : decode cX10_winter 40 = .ok (.aload_n 0, 1) := by decide +kernel
theorem dX10_winter_41 : decode cX10_winter 41 = .ok (.aload_n 0, 1) := by decide +kernel
theorem dX10_winter_42 : decode cX10_winter 42 = .ok (.getfield 79, 3) := by decide +kernel
theorem dX10_winter_45 : decode cX10_winter 45 = .ok (.iload_n 1, 1) := by decide +kernel
theorem dX10_winter_46 : decode cX10_winter 46 = .ok (.iload_n 2, 1) := by decide +kernel
theorem dX10_winter_47 : decode cX10_winter 47 = .ok (.aload_n 0, 1) := by decide +kernel
theorem dX10_winter_48 : decode cX10_winter 48 = .ok (.getfield 34, 3) := by decide +kernel
theorem dX10_winter_51 : decode cX10_winter 51 = .ok (.invokevirtual 303, 3) := by decide +kernel
theorem dX10_winter_54 : decode cX10_winter 54 = .ok (.invokevirtual 111, 3) := by decide +kernel
theorem dX10_winter_57 : decode cX10_winter 57 = .ok (.ireturn, 1) := by decide +kernel
def B_X10_winter_22 (Q : Int → st_S → Prop)    (σ : st_S) : Prop := wp_X10_refuse (-1) σ (fun r11 s12 => Q r11 s12)
def wp_X10_winter (a1 : Int) (a2 : Int) (σ : st_S) (Q : Int → st_S → Prop) : Prop := (a1 < 0 → B_X10_winter_22 Q σ) ∧ (¬ a1 < 0 → (1000000 < a1 → B_X10_winter_22 Q σ) ∧ (¬ 1000000 < a1 → (a2 < 1 → B_X10_winter_22 Q σ) ∧ (¬ a2 < 1 → (a2 ≤ 60 → wp_X5_prepare σ (fun s14 => ∀ s15 : st_S, s15 = sI s14 0 12 a2 → wp_X5_winterBy a1 a2 s15 (fun r16 s17 => wp_X10_accept r16 s17 (fun r18 s19 => Q r18 s19)))) ∧ (¬ a2 ≤ 60 → B_X10_winter_22 Q σ))))
set_option maxRecDepth 20000 in
theorem jb_X10_winter_22 {X : jj_X} {E : ev_E} {n0 hN : Nat} (hc : Cx X E cX10_winter 3 n0 hN RX10) (hm : eM E = 1) (hr : (xT X).sig.returnType = (some .int)) (hh : 10 ≤ hN) {Q : Int → st_S → Prop} {σ : st_S} (h : B_X10_winter_22 Q σ) : J X E 3 n0 0 0 (MQ (xB X) (qI E (n0 + 0) Q) (xA X) (xS X) 0 0 (eF E)) σ 22 [(0, vR E 0)] [] := by
  have hh1 : 1 ≤ hN := by omega
  replace h : wp_X10_refuse (-1) σ (fun r11 s12 => Q r11 s12) := h
  refine j_aload_nR hc 0 dX10_winter_22 rfl rfl ?_
  refine j_iconst hc dX10_winter_23 ?_
  refine j_vI hc (k := 10) (by decide) (fun hv => Or.inl (sv_k hv hm rfl)) ml_RX10_96 mv_X10_refuse (As := [vI (-1)]) (c_X10_refuse (cx_E hc) hm (wlit (-1) (by decide)) h) rfl (by omega) (by decide) ⟨Nat.zero_le _, Nat.zero_le _⟩ (Nat.le_of_ble_eq_true rfl) rfl dX10_winter_24 (fun r11 s12 cr11 h => ?_)
  exact j_iret hc hr cr11 h dX10_winter_27
set_option maxRecDepth 20000 in
theorem c_X10_winter {l : Launch} {E : ev_E} (hE : Eok E) (hm : eM E = 1) {a1 : Int} {a2 : Int} (ca1 : wr a1 = a1) (ca2 : wr a2 = a2) {σ : st_S} {Q : Int → st_S → Prop} (h : wp_X10_winter a1 a2 σ Q) : cM l yX10_winter cX10_winter 3 (some .int) E 10 0 0 [vR E 0, vI a1, vI a2] σ (qI E (gN σ + 0) Q) := by
  refine cM_of (lv := [(0, vR E 0), (1, vI a1), (2, vI a2)]) (by decide) hE (Nat.le_of_ble_eq_true rfl) (rfl) ?_
  intro X hX hc _ _ hr _ _
  subst hX
  have hh : 10 ≤ 10 := Nat.le_refl _
  have hh1 : 1 ≤ 10 := by omega
  replace h : (a1 < 0 → B_X10_winter_22 Q σ) ∧ (¬ a1 < 0 → (1000000 < a1 → B_X10_winter_22 Q σ) ∧ (¬ 1000000 < a1 → (a2 < 1 → B_X10_winter_22 Q σ) ∧ (¬ a2 < 1 → (a2 ≤ 60 → wp_X5_prepare σ (fun s14 => ∀ s15 : st_S, s15 = sI s14 0 12 a2 → wp_X5_winterBy a1 a2 s15 (fun r16 s17 => wp_X10_accept r16 s17 (fun r18 s19 => Q r18 s19)))) ∧ (¬ a2 ≤ 60 → B_X10_winter_22 Q σ)))) := h
  refine j_iload_n hc 1 dX10_winter_0 rfl rfl ?_
  refine j_if_lt hc ca1 (tgt := 22) dX10_winter_1 (by decide) (fun q23 => ?_) (fun q23 => ?_)
  · replace h := h.1 q23
    refine j_sub (lv' := [(0, vR E 0)]) [0] rfl ?_
    exact jb_X10_winter_22 hc hm hr hh h
  · replace h := h.2 q23
    refine j_iload_n hc 1 dX10_winter_4 rfl rfl ?_
    refine j_ldcw (x := 1000000) hc (by decide) kc_RX10_299 dX10_winter_5 ?_
    refine j_ic_gt hc ca1 (wlit 1000000 (by decide)) (tgt := 22) dX10_winter_8 (by decide) (fun q22 => ?_) (fun q22 => ?_)
    · replace h := h.1 q22
      refine j_sub (lv' := [(0, vR E 0)]) [0] rfl ?_
      exact jb_X10_winter_22 hc hm hr hh h
    · replace h := h.2 q22
      refine j_iload_n hc 2 dX10_winter_11 rfl rfl ?_
      refine j_iconst hc dX10_winter_12 ?_
      refine j_ic_lt hc ca2 (wlit 1 (by decide)) (tgt := 22) dX10_winter_13 (by decide) (fun q21 => ?_) (fun q21 => ?_)
      · replace h := h.1 q21
        refine j_sub (lv' := [(0, vR E 0)]) [0] rfl ?_
        exact jb_X10_winter_22 hc hm hr hh h
      · replace h := h.2 q21
        refine j_iload_n hc 2 dX10_winter_16 rfl rfl ?_
        refine j_bipush hc dX10_winter_17 (by decide) ?_
        refine j_ic_le hc ca2 (wlit 60 (by decide)) (tgt := 28) dX10_winter_19 (by decide) (fun q20 => ?_) (fun q20 => ?_)
        · replace h := h.1 q20
          refine j_aload_nR hc 0 dX10_winter_28 rfl rfl ?_
          refine j_getR (c' := 42) hc fl_RX10_79 rfl rfl (fun hv => (sv_k hv hm rfl)) dX10_winter_29 ?_
          refine j_vV hc (k := 5) (by decide) (fun hv => Or.inl (sv_k hv hm rfl)) ml_RX10_240 mv_X5_prepare (As := []) (c_X5_prepare (cx_E hc) hm  h) rfl (by omega) (by decide) ⟨Nat.zero_le _, Nat.zero_le _⟩ (Nat.le_of_ble_eq_true rfl) rfl dX10_winter_32 (fun s14 h => ?_)
          refine j_aload_nR hc 0 dX10_winter_35 rfl rfl ?_
          refine j_iload_n hc 2 dX10_winter_36 rfl rfl ?_
          refine j_putI hc fl_RX10_300 rfl rfl (fun hv => Or.inl (sv_k hv hm rfl)) ca2 dX10_winter_37 (fun s15 es15 => ?_)
          replace h := h s15 es15
          refine j_aload_nR hc 0 dX10_winter_40 rfl rfl ?_
          refine j_aload_nR hc 0 dX10_winter_41 rfl rfl ?_
          refine j_getR (c' := 42) hc fl_RX10_79 rfl rfl (fun hv => (sv_k hv hm rfl)) dX10_winter_42 ?_
          refine j_iload_n hc 1 dX10_winter_45 rfl rfl ?_
          refine j_iload_n hc 2 dX10_winter_46 rfl rfl ?_
          refine j_aload_nR hc 0 dX10_winter_47 rfl rfl ?_
          refine j_getR (c' := 23) hc fl_RX10_34 rfl rfl (fun hv => (sv_k hv hm rfl)) dX10_winter_48 ?_
          refine j_vI hc (k := 5) (by decide) (fun hv => Or.inl (sv_k hv hm rfl)) ml_RX10_303 mv_X5_winterBy (As := [vI a1, vI a2, vR E 23]) (c_X5_winterBy (cx_E hc) hm ca1 ca2 h) rfl (by omega) (by decide) ⟨Nat.zero_le _, Nat.zero_le _⟩ (Nat.le_of_ble_eq_true rfl) rfl dX10_winter_51 (fun r16 s17 cr16 h => ?_)
          refine j_vI hc (k := 10) (by decide) (fun hv => Or.inl (sv_k hv hm rfl)) ml_RX10_111 mv_X10_accept (As := [vI r16]) (c_X10_accept (cx_E hc) hm cr16 h) rfl (by omega) (by decide) ⟨Nat.zero_le _, Nat.zero_le _⟩ (Nat.le_of_ble_eq_true rfl) rfl dX10_winter_54 (fun r18 s19 cr18 h => ?_)
          exact j_iret hc hr cr18 h dX10_winter_57
        · replace h := h.2 q20
          refine j_sub (lv' := [(0, vR E 0)]) [0] rfl ?_
          exact jb_X10_winter_22 hc hm hr hh h
-- LitStrangers.drawn(I)I
theorem dX10_drawn_0 : decode cX10_drawn 0 = .ok (.iload_n 1, 1) := by decide +kernel
theorem dX10_drawn_1 : decode cX10_drawn 1 = .ok (.ifCond .lt 20, 3) := by decide +kernel
theorem dX10_drawn_4 : decode cX10_drawn 4 = .ok (.iload_n 1, 1) := by decide +kernel
theorem dX10_drawn_5 : decode cX10_drawn 5 = .ok (.aload_n 0, 1) := by decide +kernel
theorem dX10_drawn_6 : decode cX10_drawn 6 = .ok (.getfield 300, 3) := by decide +kernel
theorem dX10_drawn_9 : decode cX10_drawn 9 = .ok (.if_icmp .ge 12, 3) := by decide +kernel
theorem dX10_drawn_12 : decode cX10_drawn 12 = .ok (.aload_n 0, 1) := by decide +kernel
theorem dX10_drawn_13 : decode cX10_drawn 13 = .ok (.getfield 34, 3) := by decide +kernel
theorem dX10_drawn_16 : decode cX10_drawn 16 = .ok (.iload_n 1, 1) := by decide +kernel
theorem dX10_drawn_17 : decode cX10_drawn 17 = .ok (.iaload, 1) := by decide +kernel
theorem dX10_drawn_18 : decode cX10_drawn 18 = .ok (.goto 4, 3) := by decide +kernel
theorem dX10_drawn_21 : decode cX10_drawn 21 = .ok (.iconst (-1), 1) := by decide +kernel
theorem dX10_drawn_22 : decode cX10_drawn 22 = .ok (.ireturn, 1) := by decide +kernel
def B_X10_drawn_22 (Q : Int → st_S → Prop)   (v0 : Int) (σ : st_S) : Prop := Q v0 σ
def B_X10_drawn_21 (Q : Int → st_S → Prop)    (σ : st_S) : Prop := B_X10_drawn_22 Q (-1) σ
def wp_X10_drawn (a1 : Int) (σ : st_S) (Q : Int → st_S → Prop) : Prop := (a1 < 0 → B_X10_drawn_21 Q σ) ∧ (¬ a1 < 0 → (gI σ 0 12 ≤ a1 → B_X10_drawn_21 Q σ) ∧ (¬ gI σ 0 12 ≤ a1 → ix a1 60 ∧ B_X10_drawn_22 Q (gI σ 23 (Int.toNat a1)) σ))
set_option maxRecDepth 20000 in
theorem jb_X10_drawn_22 {X : jj_X} {E : ev_E} {n0 hN : Nat} (hc : Cx X E cX10_drawn 2 n0 hN RX10) (hm : eM E = 1) (hr : (xT X).sig.returnType = (some .int)) (hh : 1 ≤ hN) {Q : Int → st_S → Prop} {v0 : Int} (cv0 : wr v0 = v0) {σ : st_S} (h : B_X10_drawn_22 Q v0 σ) : J X E 2 n0 0 0 (MQ (xB X) (qI E (n0 + 0) Q) (xA X) (xS X) 0 0 (eF E)) σ 22 [] [vI v0] := by
  have hh1 : 1 ≤ hN := by omega
  replace h : Q v0 σ := h
  exact j_iret hc hr cv0 h dX10_drawn_22
set_option maxRecDepth 20000 in
theorem jb_X10_drawn_21 {X : jj_X} {E : ev_E} {n0 hN : Nat} (hc : Cx X E cX10_drawn 2 n0 hN RX10) (hm : eM E = 1) (hr : (xT X).sig.returnType = (some .int)) (hh : 1 ≤ hN) {Q : Int → st_S → Prop} {σ : st_S} (h : B_X10_drawn_21 Q σ) : J X E 2 n0 0 0 (MQ (xB X) (qI E (n0 + 0) Q) (xA X) (xS X) 0 0 (eF E)) σ 21 [] [] := by
  have hh1 : 1 ≤ hN := by omega
  replace h : B_X10_drawn_22 Q (-1) σ := h
  refine j_iconst hc dX10_drawn_21 ?_
  refine j_sub (lv' := []) [] rfl ?_
  exact jb_X10_drawn_22 hc hm hr hh (wlit (-1) (by decide)) h
set_option maxRecDepth 20000 in
theorem c_X10_drawn {l : Launch} {E : ev_E} (hE : Eok E) (hm : eM E = 1) {a1 : Int} (ca1 : wr a1 = a1) {σ : st_S} {Q : Int → st_S → Prop} (h : wp_X10_drawn a1 σ Q) : cM l yX10_drawn cX10_drawn 2 (some .int) E 1 0 0 [vR E 0, vI a1] σ (qI E (gN σ + 0) Q) := by
  refine cM_of (lv := [(0, vR E 0), (1, vI a1)]) (by decide) hE (Nat.le_of_ble_eq_true rfl) (rfl) ?_
  intro X hX hc _ _ hr _ _
  subst hX
  have hh : 1 ≤ 1 := Nat.le_refl _
  have hh1 : 1 ≤ 1 := by omega
  replace h : (a1 < 0 → B_X10_drawn_21 Q σ) ∧ (¬ a1 < 0 → (gI σ 0 12 ≤ a1 → B_X10_drawn_21 Q σ) ∧ (¬ gI σ 0 12 ≤ a1 → ix a1 60 ∧ B_X10_drawn_22 Q (gI σ 23 (Int.toNat a1)) σ)) := h
  refine j_iload_n hc 1 dX10_drawn_0 rfl rfl ?_
  refine j_if_lt hc ca1 (tgt := 21) dX10_drawn_1 (by decide) (fun q8 => ?_) (fun q8 => ?_)
  · replace h := h.1 q8
    refine j_sub (lv' := []) [] rfl ?_
    exact jb_X10_drawn_21 hc hm hr hh h
  · replace h := h.2 q8
    refine j_iload_n hc 1 dX10_drawn_4 rfl rfl ?_
    refine j_aload_nR hc 0 dX10_drawn_5 rfl rfl ?_
    refine j_getI hc fl_RX10_300 (Or.inl rfl) (fun hv => Or.inl (sv_k hv hm rfl)) dX10_drawn_6 (fun cn4 => ?_)
    refine j_ic_ge hc ca1 cn4 (tgt := 21) dX10_drawn_9 (by decide) (fun q7 => ?_) (fun q7 => ?_)
    · replace h := h.1 q7
      refine j_sub (lv' := []) [] rfl ?_
      exact jb_X10_drawn_21 hc hm hr hh h
    · replace h := h.2 q7
      refine j_aload_nR hc 0 dX10_drawn_12 rfl rfl ?_
      refine j_getR (c' := 23) hc fl_RX10_34 rfl rfl (fun hv => (sv_k hv hm rfl)) dX10_drawn_13 ?_
      refine j_iload_n hc 1 dX10_drawn_16 rfl rfl ?_
      obtain ⟨b5, h⟩ := h
      refine j_iald (jn := (Int.toNat a1)) hc (fun hv => sv_kl hv hm rfl) ca1 b5 rfl dX10_drawn_17 (fun cn6 => ?_)
      refine j_goto (tgt := 22) hc dX10_drawn_18 (by decide) ?_
      refine j_sub (lv' := []) [] rfl ?_
      exact jb_X10_drawn_22 hc hm hr hh cn6 h
-- LitStrangers.back(I)I
theorem dX10_back_0 : decode cX10_back 0 = .ok (.iload_n 1, 1) := by decide +kernel
theorem dX10_back_1 : decode cX10_back 1 = .ok (.ifCond .lt 8, 3) := by decide +kernel
theorem dX10_back_4 : decode cX10_back 4 = .ok (.iload_n 1, 1) := by decide +kernel
theorem dX10_back_5 : decode cX10_back 5 = .ok (.iconst 2, 1) := by decide +kernel
theorem dX10_back_6 : decode cX10_back 6 = .ok (.if_icmp .lt 9, 3) := by decide +kernel
theorem dX10_back_9 : decode cX10_back 9 = .ok (.aload_n 0, 1) := by decide +kernel
theorem dX10_back_10 : decode cX10_back 10 = .ok (.iconst (-1), 1) := by decide +kernel
theorem dX10_back_11 : decode cX10_back 11 = .ok (.invokevirtual 96, 3) := by decide +kernel
theorem dX10_back_14 : decode cX10_back 14 = .ok (.ireturn, 1) := by decide +kernel
theorem dX10_back_15 : decode cX10_back 15 = .ok (.aload_n 0, 1) := by decide +kernel
theorem dX10_back_16 : decode cX10_back 16 = .ok (.getfield 16, 3) := by decide +kernel
theorem dX10_back_19 : decode cX10_back 19 = .ok (.iload_n 1, 1) := by decide +kernel
theorem dX10_back_20 : decode cX10_back 20 = .ok (.aaload, 1) := by decide +kernel
theorem dX10_back_21 : decode cX10_back 21 = .ok (.astore_n 2, 1) := by decide +kernel
theorem dX10_back_22 : decode cX10_back 22 = .ok (.aload_n 2, 1) := by decide +kernel
theorem dX10_back_23 : decode cX10_back 23 = .ok (.ifnonnull 10, 3) := by decide +kernel
theorem dX10_back_26 : decode cX10_back 26 = .ok (.aload_n 0, 1) := by decide +kernel
theorem dX10_back_27 : decode cX10_back 27 = .ok (.bipush (-2), 2) := by decide +kernel
theorem dX10_back_29 : decode cX10_back 29 = .ok (.invokevirtual 96, 3) := by decide +kernel
theorem dX10_back_32 : decode cX10_back 32 = .ok (.ireturn, 1) := by decide +kernel
theorem dX10_back_33 : decode cX10_back 33 = .ok (.aload_n 0, 1) := by decide +kernel
theorem dX10_back_34 : decode cX10_back 34 = .ok (.getfield 56, 3) := by decide +kernel
theorem dX10_back_37 : decode cX10_back 37 = .ok (.aload_n 2, 1) := by decide +kernel
theorem dX10_back_38 : decode cX10_back 38 = .ok (.invokevirtual 191, 3) := by decide +kernel
theorem dX10_back_41 : decode cX10_back 41 = .ok (.aload_n 0, 1) := by decide +kernel
theorem dX10_back_42 : decode cX10_back 42 = .ok (.getfield 63, 3) := by decide +kernel
theorem dX10_back_45 : decode cX10_back 45 = .ok (.invokevirtual 104, 3) := by decide +kernel
theorem dX10_back_48 : decode cX10_back 48 = .ok (.aload_n 0, 1) := by decide +kernel
theorem dX10_back_49 : decode cX10_back 49 = .ok (.iconst 0, 1) := by decide +kernel
theorem dX10_back_50 : decode cX10_back 50 = .ok (.invokevirtual 111, 3) := by decide +kernel
theorem dX10_back_53 : decode cX10_back 53 = .ok (.ireturn, 1) := by decide +kernel
def B_X10_back_9 (Q : Int → st_S → Prop)    (σ : st_S) : Prop := wp_X10_refuse (-1) σ (fun r13 s14 => Q r13 s14)
def wp_X10_back (a1 : Int) (σ : st_S) (Q : Int → st_S → Prop) : Prop := (a1 < 0 → B_X10_back_9 Q σ) ∧ (¬ a1 < 0 → (a1 < 2 → ix a1 2 ∧ ∀ o16 : Option Nat, o16 = gR σ 11 (Int.toNat a1) → (o16 = none → wp_X10_refuse (-2) σ (fun r18 s19 => Q r18 s19)) ∧ (∀ t17 : Nat, o16 = some t17 → wp_X1_copyFrom 25 t17 σ (fun s21 => wp_X4_clear s21 (fun s23 => wp_X10_accept 0 s23 (fun r24 s25 => Q r24 s25))))) ∧ (¬ a1 < 2 → B_X10_back_9 Q σ))
set_option maxRecDepth 20000 in
theorem jb_X10_back_9 {X : jj_X} {E : ev_E} {n0 hN : Nat} (hc : Cx X E cX10_back 3 n0 hN RX10) (hm : eM E = 1) (hr : (xT X).sig.returnType = (some .int)) (hh : 2 ≤ hN) {Q : Int → st_S → Prop} {σ : st_S} (h : B_X10_back_9 Q σ) : J X E 3 n0 0 0 (MQ (xB X) (qI E (n0 + 0) Q) (xA X) (xS X) 0 0 (eF E)) σ 9 [(0, vR E 0)] [] := by
  have hh1 : 1 ≤ hN := by omega
  replace h : wp_X10_refuse (-1) σ (fun r13 s14 => Q r13 s14) := h
  refine j_aload_nR hc 0 dX10_back_9 rfl rfl ?_
  refine j_iconst hc dX10_back_10 ?_
  refine j_vI hc (k := 10) (by decide) (fun hv => Or.inl (sv_k hv hm rfl)) ml_RX10_96 mv_X10_refuse (As := [vI (-1)]) (c_X10_refuse (cx_E hc) hm (wlit (-1) (by decide)) h) rfl (by omega) (by decide) ⟨Nat.zero_le _, Nat.zero_le _⟩ (Nat.le_of_ble_eq_true rfl) rfl dX10_back_11 (fun r13 s14 cr13 h => ?_)
  exact j_iret hc hr cr13 h dX10_back_14
set_option maxRecDepth 20000 in
theorem c_X10_back {l : Launch} {E : ev_E} (hE : Eok E) (hm : eM E = 1) {a1 : Int} (ca1 : wr a1 = a1) {σ : st_S} {Q : Int → st_S → Prop} (h : wp_X10_back a1 σ Q) : cM l yX10_back cX10_back 3 (some .int) E 2 0 0 [vR E 0, vI a1] σ (qI E (gN σ + 0) Q) := by
  refine cM_of (lv := [(0, vR E 0), (1, vI a1)]) (by decide) hE (Nat.le_of_ble_eq_true rfl) (rfl) ?_
  intro X hX hc _ _ hr _ _
  subst hX
  have hh : 2 ≤ 2 := Nat.le_refl _
  have hh1 : 1 ≤ 2 := by omega
  replace h : (a1 < 0 → B_X10_back_9 Q σ) ∧ (¬ a1 < 0 → (a1 < 2 → ix a1 2 ∧ ∀ o16 : Option Nat, o16 = gR σ 11 (Int.toNat a1) → (o16 = none → wp_X10_refuse (-2) σ (fun r18 s19 => Q r18 s19)) ∧ (∀ t17 : Nat, o16 = some t17 → wp_X1_copyFrom 25 t17 σ (fun s21 => wp_X4_clear s21 (fun s23 => wp_X10_accept 0 s23 (fun r24 s25 => Q r24 s25))))) ∧ (¬ a1 < 2 → B_X10_back_9 Q σ)) := h
  refine j_iload_n hc 1 dX10_back_0 rfl rfl ?_
  refine j_if_lt hc ca1 (tgt := 9) dX10_back_1 (by decide) (fun q27 => ?_) (fun q27 => ?_)
  · replace h := h.1 q27
    refine j_sub (lv' := [(0, vR E 0)]) [0] rfl ?_
    exact jb_X10_back_9 hc hm hr hh h
  · replace h := h.2 q27
    refine j_iload_n hc 1 dX10_back_4 rfl rfl ?_
    refine j_iconst hc dX10_back_5 ?_
    refine j_ic_lt hc ca1 (wlit 2 (by decide)) (tgt := 15) dX10_back_6 (by decide) (fun q26 => ?_) (fun q26 => ?_)
    · replace h := h.1 q26
      refine j_aload_nR hc 0 dX10_back_15 rfl rfl ?_
      refine j_getR (c' := 11) hc fl_RX10_16 rfl rfl (fun hv => (sv_k hv hm rfl)) dX10_back_16 ?_
      refine j_iload_n hc 1 dX10_back_19 rfl rfl ?_
      obtain ⟨b15, h⟩ := h
      refine j_aald (jn := (Int.toNat a1)) hc 5 (by decide) (fun hv => sv_kl hv hm rfl) ca1 b15 rfl dX10_back_20 ?_
      refine j_nmo (fun o16 eo16 => ?_)
      replace h := h o16 eo16
      refine j_astore_nO (lv' := [(2, vO E o16), (0, vR E 0), (1, vI a1)]) hc dX10_back_21 rfl (by decide) rfl ?_
      refine j_aload_nO hc 0 dX10_back_22 rfl rfl ?_
      refine j_ifnonnull (tgt := 33) hc dX10_back_23 (by decide) (fun t17 et17 => ?_) (fun et17 => ?_)
      · replace h := h.2 t17 et17
        subst et17
        refine j_aload_nR hc 1 dX10_back_33 rfl rfl ?_
        refine j_getR (c' := 25) hc fl_RX10_56 rfl rfl (fun hv => (sv_k hv hm rfl)) dX10_back_34 ?_
        refine j_aload_nR hc 0 dX10_back_37 rfl rfl ?_
        refine j_vV hc (k := 1) (by decide) (fun hv => Or.inl (sv_k hv hm rfl)) ml_RX10_191 mv_X1_copyFrom (As := [vR E t17]) (c_X1_copyFrom (cx_E hc) hm  h) rfl (by omega) (by decide) ⟨Nat.zero_le _, Nat.zero_le _⟩ (Nat.le_of_ble_eq_true rfl) rfl dX10_back_38 (fun s21 h => ?_)
        refine j_aload_nR hc 1 dX10_back_41 rfl rfl ?_
        refine j_getR (c' := 39) hc fl_RX10_63 rfl rfl (fun hv => (sv_k hv hm rfl)) dX10_back_42 ?_
        refine j_vV hc (k := 4) (by decide) (fun hv => Or.inl (sv_k hv hm rfl)) ml_RX10_104 mv_X4_clear (As := []) (c_X4_clear (cx_E hc) hm  h) rfl (by omega) (by decide) ⟨Nat.zero_le _, Nat.zero_le _⟩ (Nat.le_of_ble_eq_true rfl) rfl dX10_back_45 (fun s23 h => ?_)
        refine j_aload_nR hc 1 dX10_back_48 rfl rfl ?_
        refine j_iconst hc dX10_back_49 ?_
        refine j_vI hc (k := 10) (by decide) (fun hv => Or.inl (sv_k hv hm rfl)) ml_RX10_111 mv_X10_accept (As := [vI 0]) (c_X10_accept (cx_E hc) hm (wlit 0 (by decide)) h) rfl (by omega) (by decide) ⟨Nat.zero_le _, Nat.zero_le _⟩ (Nat.le_of_ble_eq_true rfl) rfl dX10_back_50 (fun r24 s25 cr24 h => ?_)
        exact j_iret hc hr cr24 h dX10_back_53
      · replace h := h.1 et17
        subst et17
        refine j_aload_nR hc 1 dX10_back_26 rfl rfl ?_
        refine j_bipush hc dX10_back_27 (by decide) ?_
        refine j_vI hc (k := 10) (by decide) (fun hv => Or.inl (sv_k hv hm rfl)) ml_RX10_96 mv_X10_refuse (As := [vI (-2)]) (c_X10_refuse (cx_E hc) hm (wlit (-2) (by decide)) h) rfl (by omega) (by decide) ⟨Nat.zero_le _, Nat.zero_le _⟩ (Nat.le_of_ble_eq_true rfl) rfl dX10_back_29 (fun r18 s19 cr18 h => ?_)
        exact j_iret hc hr cr18 h dX10_back_32
    · replace h := h.2 q26
      refine j_sub (lv' := [(0, vR E 0)]) [0] rfl ?_
      exact jb_X10_back_9 hc hm hr hh h
-- LitStrangers.count(I)I
theorem dX10_count_0 : decode cX10_count 0 = .ok (.iload_n 1, 1) := by decide +kernel
theorem dX10_count_1 : decode cX10_count 1 = .ok (.tableswitch 188 0 16 #[83, 91, 99, 107, 115, 123, 131, 139, 147, 147, 147, 157, 157, 167, 175, 175, 175], 83) := by decide +kernel
theorem dX10_count_84 : decode cX10_count 84 = .ok (.aload_n 0, 1) := by decide +kernel
theorem dX10_count_85 : decode cX10_count 85 = .ok (.getfield 56, 3) := by decide +kernel
theorem dX10_count_88 : decode cX10_count 88 = .ok (.getfield 100, 3) := by decide +kernel
theorem dX10_count_91 : decode cX10_count 91 = .ok (.ireturn, 1) := by decide +kernel
theorem dX10_count_92 : decode cX10_count 92 = .ok (.aload_n 0, 1) := by decide +kernel
theorem dX10_count_93 : decode cX10_count 93 = .ok (.getfield 56, 3) := by decide +kernel
theorem dX10_count_96 : decode cX10_count 96 = .ok (.invokevirtual 307, 3) := by decide +kernel
theorem dX10_count_99 : decode cX10_count 99 = .ok (.ireturn, 1) := by decide +kernel
theorem dX10_count_100 : decode cX10_count 100 = .ok (.aload_n 0, 1) := by decide +kernel
theorem dX10_count_101 : decode cX10_count 101 = .ok (.getfield 56, 3) := by decide +kernel
theorem dX10_count_104 : decode cX10_count 104 = .ok (.getfield 310, 3) := by decide +kernel
theorem dX10_count_107 : decode cX10_count 107 = .ok (.ireturn, 1) := by decide +kernel
theorem dX10_count_108 : decode cX10_count 108 = .ok (.aload_n 0, 1) := by decide +kernel
theorem dX10_count_109 : decode cX10_count 109 = .ok (.getfield 56, 3) := by decide +kernel
theorem dX10_count_112 : decode cX10_count 112 = .ok (.getfield 313, 3) := by decide +kernel
theorem dX10_count_115 : decode cX10_count 115 = .ok (.ireturn, 1) := by decide +kernel
theorem dX10_count_116 : decode cX10_count 116 = .ok (.aload_n 0, 1) := by decide +kernel
theorem dX10_count_117 : decode cX10_count 117 = .ok (.getfield 56, 3) := by decide +kernel
theorem dX10_count_120 : decode cX10_count 120 = .ok (.getfield 316, 3) := by decide +kernel
theorem dX10_count_123 : decode cX10_count 123 = .ok (.ireturn, 1) := by decide +kernel
theorem dX10_count_124 : decode cX10_count 124 = .ok (.aload_n 0, 1) := by decide +kernel
theorem dX10_count_125 : decode cX10_count 125 = .ok (.getfield 56, 3) := by decide +kernel
theorem dX10_count_128 : decode cX10_count 128 = .ok (.getfield 168, 3) := by decide +kernel
theorem dX10_count_131 : decode cX10_count 131 = .ok (.ireturn, 1) := by decide +kernel
theorem dX10_count_132 : decode cX10_count 132 = .ok (.aload_n 0, 1) := by decide +kernel
theorem dX10_count_133 : decode cX10_count 133 = .ok (.getfield 63, 3) := by decide +kernel
theorem dX10_count_136 : decode cX10_count 136 = .ok (.getfield 319, 3) := by decide +kernel
theorem dX10_count_139 : decode cX10_count 139 = .ok (.ireturn, 1) := by decide +kernel
theorem dX10_count_140 : decode cX10_count 140 = .ok (.aload_n 0, 1) := by decide +kernel
theorem dX10_count_141 : decode cX10_count 141 = .ok (.getfield 23, 3) := by decide +kernel
theorem dX10_count_144 : decode cX10_count 144 = .ok (.getfield 152, 3) := by decide +kernel
theorem dX10_count_147 : decode cX10_count 147 = .ok (.ireturn, 1) := by decide +kernel
theorem dX10_count_148 : decode cX10_count 148 = .ok (.aload_n 0, 1) := by decide +kernel
theorem dX10_count_149 : decode cX10_count 149 = .ok (.getfield 38, 3) := by decide +kernel
theorem dX10_count_152 : decode cX10_count 152 = .ok (.iload_n 1, 1) := by decide +kernel
theorem dX10_count_153 : decode cX10_count 153 = .ok (.bipush 7, 2) := by decide +kernel
theorem dX10_count_155 : decode cX10_count 155 = .ok (.isub, 1) := by decide +kernel
theorem dX10_count_156 : decode cX10_count 156 = .ok (.iaload, 1) := by decide +kernel
theorem dX10_count_157 : decode cX10_count 157 = .ok (.ireturn, 1) := by decide +kernel
theorem dX10_count_158 : decode cX10_count 158 = .ok (.aload_n 0, 1) := by decide +kernel
theorem dX10_count_159 : decode cX10_count 159 = .ok (.getfield 38, 3) := by decide +kernel
theorem dX10_count_162 : decode cX10_count 162 = .ok (.iload_n 1, 1) := by decide +kernel
theorem dX10_count_163 : decode cX10_count 163 = .ok (.bipush 6, 2) := by decide +kernel
theorem dX10_count_165 : decode cX10_count 165 = .ok (.isub, 1) := by decide +kernel
theorem dX10_count_166 : decode cX10_count 166 = .ok (.iaload, 1) := by decide +kernel
theorem dX10_count_167 : decode cX10_count 167 = .ok (.ireturn, 1) := by decide +kernel
theorem dX10_count_168 : decode cX10_count 168 = .ok (.aload_n 0, 1) := by decide +kernel
theorem dX10_count_169 : decode cX10_count 169 = .ok (.getfield 56, 3) := by decide +kernel
theorem dX10_count_172 : decode cX10_count 172 = .ok (.getfield 204, 3) := by decide +kernel
theorem dX10_count_175 : decode cX10_count 175 = .ok (.ireturn, 1) := by decide +kernel
theorem dX10_count_176 : decode cX10_count 176 = .ok (.aload_n 0, 1) := by decide +kernel
theorem dX10_count_177 : decode cX10_count 177 = .ok (.getfield 56, 3) := by decide +kernel
theorem dX10_count_180 : decode cX10_count 180 = .ok (.getfield 149, 3) := by decide +kernel
theorem dX10_count_183 : decode cX10_count 183 = .ok (.iload_n 1, 1) := by decide +kernel
theorem dX10_count_184 : decode cX10_count 184 = .ok (.bipush 14, 2) := by decide +kernel
theorem dX10_count_186 : decode cX10_count 186 = .ok (.isub, 1) := by decide +kernel
theorem dX10_count_187 : decode cX10_count 187 = .ok (.iaload, 1) := by decide +kernel
theorem dX10_count_188 : decode cX10_count 188 = .ok (.ireturn, 1) := by decide +kernel
theorem dX10_count_189 : decode cX10_count 189 = .ok (.iconst (-1), 1) := by decide +kernel
theorem dX10_count_190 : decode cX10_count 190 = .ok (.ireturn, 1) := by decide +kernel
def wp_X10_count (a1 : Int) (σ : st_S) (Q : Int → st_S → Prop) : Prop := (a1 = 0 → Q (gI σ 25 0) σ) ∧ (a1 = 1 → wp_X1_pairs σ (fun r18 s19 => Q r18 s19)) ∧ (a1 = 2 → Q (gI σ 25 12) σ) ∧ (a1 = 3 → Q (gI σ 25 13) σ) ∧ (a1 = 4 → Q (gI σ 25 14) σ) ∧ (a1 = 5 → Q (gI σ 25 10) σ) ∧ (a1 = 6 → Q (gI σ 39 0) σ) ∧ (a1 = 7 → Q (gI σ 12 1) σ) ∧ (a1 = 8 → ix (wr (a1 - 7)) 7 ∧ Q (gI σ 24 (Int.toNat (wr (a1 - 7)))) σ) ∧ (a1 = 9 → ix (wr (a1 - 7)) 7 ∧ Q (gI σ 24 (Int.toNat (wr (a1 - 7)))) σ) ∧ (a1 = 10 → ix (wr (a1 - 7)) 7 ∧ Q (gI σ 24 (Int.toNat (wr (a1 - 7)))) σ) ∧ (a1 = 11 → ix (wr (a1 - 6)) 7 ∧ Q (gI σ 24 (Int.toNat (wr (a1 - 6)))) σ) ∧ (a1 = 12 → ix (wr (a1 - 6)) 7 ∧ Q (gI σ 24 (Int.toNat (wr (a1 - 6)))) σ) ∧ (a1 = 13 → Q (gI σ 25 11) σ) ∧ (a1 = 14 → ix (wr (a1 - 14)) 3 ∧ Q (gI σ 33 (Int.toNat (wr (a1 - 14)))) σ) ∧ (a1 = 15 → ix (wr (a1 - 14)) 3 ∧ Q (gI σ 33 (Int.toNat (wr (a1 - 14)))) σ) ∧ (a1 = 16 → ix (wr (a1 - 14)) 3 ∧ Q (gI σ 33 (Int.toNat (wr (a1 - 14)))) σ) ∧ (a1 < 0 ∨ 16 < a1 → Q (-1) σ)
set_option maxRecDepth 20000 in
theorem c_X10_count {l : Launch} {E : ev_E} (hE : Eok E) (hm : eM E = 1) {a1 : Int} (ca1 : wr a1 = a1) {σ : st_S} {Q : Int → st_S → Prop} (h : wp_X10_count a1 σ Q) : cM l yX10_count cX10_count 2 (some .int) E 3 0 0 [vR E 0, vI a1] σ (qI E (gN σ + 0) Q) := by
  refine cM_of (lv := [(0, vR E 0), (1, vI a1)]) (by decide) hE (Nat.le_of_ble_eq_true rfl) (rfl) ?_
  intro X hX hc _ _ hr _ _
  subst hX
  have hh : 3 ≤ 3 := Nat.le_refl _
  have hh1 : 1 ≤ 3 := by omega
  replace h : (a1 = 0 → Q (gI σ 25 0) σ) ∧ (a1 = 1 → wp_X1_pairs σ (fun r18 s19 => Q r18 s19)) ∧ (a1 = 2 → Q (gI σ 25 12) σ) ∧ (a1 = 3 → Q (gI σ 25 13) σ) ∧ (a1 = 4 → Q (gI σ 25 14) σ) ∧ (a1 = 5 → Q (gI σ 25 10) σ) ∧ (a1 = 6 → Q (gI σ 39 0) σ) ∧ (a1 = 7 → Q (gI σ 12 1) σ) ∧ (a1 = 8 → ix (wr (a1 - 7)) 7 ∧ Q (gI σ 24 (Int.toNat (wr (a1 - 7)))) σ) ∧ (a1 = 9 → ix (wr (a1 - 7)) 7 ∧ Q (gI σ 24 (Int.toNat (wr (a1 - 7)))) σ) ∧ (a1 = 10 → ix (wr (a1 - 7)) 7 ∧ Q (gI σ 24 (Int.toNat (wr (a1 - 7)))) σ) ∧ (a1 = 11 → ix (wr (a1 - 6)) 7 ∧ Q (gI σ 24 (Int.toNat (wr (a1 - 6)))) σ) ∧ (a1 = 12 → ix (wr (a1 - 6)) 7 ∧ Q (gI σ 24 (Int.toNat (wr (a1 - 6)))) σ) ∧ (a1 = 13 → Q (gI σ 25 11) σ) ∧ (a1 = 14 → ix (wr (a1 - 14)) 3 ∧ Q (gI σ 33 (Int.toNat (wr (a1 - 14)))) σ) ∧ (a1 = 15 → ix (wr (a1 - 14)) 3 ∧ Q (gI σ 33 (Int.toNat (wr (a1 - 14)))) σ) ∧ (a1 = 16 → ix (wr (a1 - 14)) 3 ∧ Q (gI σ 33 (Int.toNat (wr (a1 - 14)))) σ) ∧ (a1 < 0 ∨ 16 < a1 → Q (-1) σ) := h
  refine j_iload_n hc 1 dX10_count_0 rfl rfl ?_
  rcases Decidable.em (a1 = 0) with q0 | q0
  · replace h := h.1 q0
    refine j_ts (tgt := 84) (off := 83) hc ca1 dX10_count_1 0 q0 (by decide) (by decide) (by decide) (by decide) ?_
    refine j_aload_nR hc 0 dX10_count_84 rfl rfl ?_
    refine j_getR (c' := 25) hc fl_RX10_56 rfl rfl (fun hv => (sv_k hv hm rfl)) dX10_count_85 ?_
    refine j_getI hc fl_RX10_100 (Or.inl rfl) (fun hv => Or.inl (sv_k hv hm rfl)) dX10_count_88 (fun cn17 => ?_)
    exact j_iret hc hr cn17 h dX10_count_91
  · rcases Decidable.em (a1 = 1) with q1 | q1
    · replace h := h.2.1 q1
      refine j_ts (tgt := 92) (off := 91) hc ca1 dX10_count_1 1 q1 (by decide) (by decide) (by decide) (by decide) ?_
      refine j_aload_nR hc 0 dX10_count_92 rfl rfl ?_
      refine j_getR (c' := 25) hc fl_RX10_56 rfl rfl (fun hv => (sv_k hv hm rfl)) dX10_count_93 ?_
      refine j_vI hc (k := 1) (by decide) (fun hv => Or.inl (sv_k hv hm rfl)) ml_RX10_307 mv_X1_pairs (As := []) (c_X1_pairs (cx_E hc) hm  h) rfl (by omega) (by decide) ⟨Nat.zero_le _, Nat.zero_le _⟩ (Nat.le_of_ble_eq_true rfl) rfl dX10_count_96 (fun r18 s19 cr18 h => ?_)
      exact j_iret hc hr cr18 h dX10_count_99
    · rcases Decidable.em (a1 = 2) with q2 | q2
      · replace h := h.2.2.1 q2
        refine j_ts (tgt := 100) (off := 99) hc ca1 dX10_count_1 2 q2 (by decide) (by decide) (by decide) (by decide) ?_
        refine j_aload_nR hc 0 dX10_count_100 rfl rfl ?_
        refine j_getR (c' := 25) hc fl_RX10_56 rfl rfl (fun hv => (sv_k hv hm rfl)) dX10_count_101 ?_
        refine j_getI hc fl_RX10_310 (Or.inl rfl) (fun hv => Or.inl (sv_k hv hm rfl)) dX10_count_104 (fun cn20 => ?_)
        exact j_iret hc hr cn20 h dX10_count_107
      · rcases Decidable.em (a1 = 3) with q3 | q3
        · replace h := h.2.2.2.1 q3
          refine j_ts (tgt := 108) (off := 107) hc ca1 dX10_count_1 3 q3 (by decide) (by decide) (by decide) (by decide) ?_
          refine j_aload_nR hc 0 dX10_count_108 rfl rfl ?_
          refine j_getR (c' := 25) hc fl_RX10_56 rfl rfl (fun hv => (sv_k hv hm rfl)) dX10_count_109 ?_
          refine j_getI hc fl_RX10_313 (Or.inl rfl) (fun hv => Or.inl (sv_k hv hm rfl)) dX10_count_112 (fun cn21 => ?_)
          exact j_iret hc hr cn21 h dX10_count_115
        · rcases Decidable.em (a1 = 4) with q4 | q4
          · replace h := h.2.2.2.2.1 q4
            refine j_ts (tgt := 116) (off := 115) hc ca1 dX10_count_1 4 q4 (by decide) (by decide) (by decide) (by decide) ?_
            refine j_aload_nR hc 0 dX10_count_116 rfl rfl ?_
            refine j_getR (c' := 25) hc fl_RX10_56 rfl rfl (fun hv => (sv_k hv hm rfl)) dX10_count_117 ?_
            refine j_getI hc fl_RX10_316 (Or.inl rfl) (fun hv => Or.inl (sv_k hv hm rfl)) dX10_count_120 (fun cn22 => ?_)
            exact j_iret hc hr cn22 h dX10_count_123
          · rcases Decidable.em (a1 = 5) with q5 | q5
            · replace h := h.2.2.2.2.2.1 q5
              refine j_ts (tgt := 124) (off := 123) hc ca1 dX10_count_1 5 q5 (by decide) (by decide) (by decide) (by decide) ?_
              refine j_aload_nR hc 0 dX10_count_124 rfl rfl ?_
              refine j_getR (c' := 25) hc fl_RX10_56 rfl rfl (fun hv => (sv_k hv hm rfl)) dX10_count_125 ?_
              refine j_getI hc fl_RX10_168 (Or.inl rfl) (fun hv => Or.inl (sv_k hv hm rfl)) dX10_count_128 (fun cn23 => ?_)
              exact j_iret hc hr cn23 h dX10_count_131
            · rcases Decidable.em (a1 = 6) with q6 | q6
              · replace h := h.2.2.2.2.2.2.1 q6
                refine j_ts (tgt := 132) (off := 131) hc ca1 dX10_count_1 6 q6 (by decide) (by decide) (by decide) (by decide) ?_
                refine j_aload_nR hc 0 dX10_count_132 rfl rfl ?_
                refine j_getR (c' := 39) hc fl_RX10_63 rfl rfl (fun hv => (sv_k hv hm rfl)) dX10_count_133 ?_
                refine j_getI hc fl_RX10_319 (Or.inl rfl) (fun hv => Or.inl (sv_k hv hm rfl)) dX10_count_136 (fun cn24 => ?_)
                exact j_iret hc hr cn24 h dX10_count_139
              · rcases Decidable.em (a1 = 7) with q7 | q7
                · replace h := h.2.2.2.2.2.2.2.1 q7
                  refine j_ts (tgt := 140) (off := 139) hc ca1 dX10_count_1 7 q7 (by decide) (by decide) (by decide) (by decide) ?_
                  refine j_aload_nR hc 0 dX10_count_140 rfl rfl ?_
                  refine j_getR (c' := 12) hc fl_RX10_23 rfl rfl (fun hv => (sv_k hv hm rfl)) dX10_count_141 ?_
                  refine j_getI hc fl_RX10_152 (Or.inl rfl) (fun hv => Or.inl (sv_k hv hm rfl)) dX10_count_144 (fun cn25 => ?_)
                  exact j_iret hc hr cn25 h dX10_count_147
                · rcases Decidable.em (a1 = 8) with q8 | q8
                  · replace h := h.2.2.2.2.2.2.2.2.1 q8
                    refine j_ts (tgt := 148) (off := 147) hc ca1 dX10_count_1 8 q8 (by decide) (by decide) (by decide) (by decide) ?_
                    refine j_aload_nR hc 0 dX10_count_148 rfl rfl ?_
                    refine j_getR (c' := 24) hc fl_RX10_38 rfl rfl (fun hv => (sv_k hv hm rfl)) dX10_count_149 ?_
                    refine j_iload_n hc 1 dX10_count_152 rfl rfl ?_
                    refine j_bipush hc dX10_count_153 (by decide) ?_
                    refine j_isub hc dX10_count_155 ?_
                    obtain ⟨b26, h⟩ := h
                    refine j_iald (jn := (Int.toNat (wr (a1 - 7)))) hc (fun hv => sv_kl hv hm rfl) rfl b26 rfl dX10_count_156 (fun cn27 => ?_)
                    exact j_iret hc hr cn27 h dX10_count_157
                  · rcases Decidable.em (a1 = 9) with q9 | q9
                    · replace h := h.2.2.2.2.2.2.2.2.2.1 q9
                      refine j_ts (tgt := 148) (off := 147) hc ca1 dX10_count_1 9 q9 (by decide) (by decide) (by decide) (by decide) ?_
                      refine j_aload_nR hc 0 dX10_count_148 rfl rfl ?_
                      refine j_getR (c' := 24) hc fl_RX10_38 rfl rfl (fun hv => (sv_k hv hm rfl)) dX10_count_149 ?_
                      refine j_iload_n hc 1 dX10_count_152 rfl rfl ?_
                      refine j_bipush hc dX10_count_153 (by decide) ?_
                      refine j_isub hc dX10_count_155 ?_
                      obtain ⟨b28, h⟩ := h
                      refine j_iald (jn := (Int.toNat (wr (a1 - 7)))) hc (fun hv => sv_kl hv hm rfl) rfl b28 rfl dX10_count_156 (fun cn29 => ?_)
                      exact j_iret hc hr cn29 h dX10_count_157
                    · rcases Decidable.em (a1 = 10) with q10 | q10
                      · replace h := h.2.2.2.2.2.2.2.2.2.2.1 q10
                        refine j_ts (tgt := 148) (off := 147) hc ca1 dX10_count_1 10 q10 (by decide) (by decide) (by decide) (by decide) ?_
                        refine j_aload_nR hc 0 dX10_count_148 rfl rfl ?_
                        refine j_getR (c' := 24) hc fl_RX10_38 rfl rfl (fun hv => (sv_k hv hm rfl)) dX10_count_149 ?_
                        refine j_iload_n hc 1 dX10_count_152 rfl rfl ?_
                        refine j_bipush hc dX10_count_153 (by decide) ?_
                        refine j_isub hc dX10_count_155 ?_
                        obtain ⟨b30, h⟩ := h
                        refine j_iald (jn := (Int.toNat (wr (a1 - 7)))) hc (fun hv => sv_kl hv hm rfl) rfl b30 rfl dX10_count_156 (fun cn31 => ?_)
                        exact j_iret hc hr cn31 h dX10_count_157
                      · rcases Decidable.em (a1 = 11) with q11 | q11
                        · replace h := h.2.2.2.2.2.2.2.2.2.2.2.1 q11
                          refine j_ts (tgt := 158) (off := 157) hc ca1 dX10_count_1 11 q11 (by decide) (by decide) (by decide) (by decide) ?_
                          refine j_aload_nR hc 0 dX10_count_158 rfl rfl ?_
                          refine j_getR (c' := 24) hc fl_RX10_38 rfl rfl (fun hv => (sv_k hv hm rfl)) dX10_count_159 ?_
                          refine j_iload_n hc 1 dX10_count_162 rfl rfl ?_
                          refine j_bipush hc dX10_count_163 (by decide) ?_
                          refine j_isub hc dX10_count_165 ?_
                          obtain ⟨b32, h⟩ := h
                          refine j_iald (jn := (Int.toNat (wr (a1 - 6)))) hc (fun hv => sv_kl hv hm rfl) rfl b32 rfl dX10_count_166 (fun cn33 => ?_)
                          exact j_iret hc hr cn33 h dX10_count_167
                        · rcases Decidable.em (a1 = 12) with q12 | q12
                          · replace h := h.2.2.2.2.2.2.2.2.2.2.2.2.1 q12
                            refine j_ts (tgt := 158) (off := 157) hc ca1 dX10_count_1 12 q12 (by decide) (by decide) (by decide) (by decide) ?_
                            refine j_aload_nR hc 0 dX10_count_158 rfl rfl ?_
                            refine j_getR (c' := 24) hc fl_RX10_38 rfl rfl (fun hv => (sv_k hv hm rfl)) dX10_count_159 ?_
                            refine j_iload_n hc 1 dX10_count_162 rfl rfl ?_
                            refine j_bipush hc dX10_count_163 (by decide) ?_
                            refine j_isub hc dX10_count_165 ?_
                            obtain ⟨b34, h⟩ := h
                            refine j_iald (jn := (Int.toNat (wr (a1 - 6)))) hc (fun hv => sv_kl hv hm rfl) rfl b34 rfl dX10_count_166 (fun cn35 => ?_)
                            exact j_iret hc hr cn35 h dX10_count_167
                          · rcases Decidable.em (a1 = 13) with q13 | q13
                            · replace h := h.2.2.2.2.2.2.2.2.2.2.2.2.2.1 q13
                              refine j_ts (tgt := 168) (off := 167) hc ca1 dX10_count_1 13 q13 (by decide) (by decide) (by decide) (by decide) ?_
                              refine j_aload_nR hc 0 dX10_count_168 rfl rfl ?_
                              refine j_getR (c' := 25) hc fl_RX10_56 rfl rfl (fun hv => (sv_k hv hm rfl)) dX10_count_169 ?_
                              refine j_getI hc fl_RX10_204 (Or.inl rfl) (fun hv => Or.inl (sv_k hv hm rfl)) dX10_count_172 (fun cn36 => ?_)
                              exact j_iret hc hr cn36 h dX10_count_175
                            · rcases Decidable.em (a1 = 14) with q14 | q14
                              · replace h := h.2.2.2.2.2.2.2.2.2.2.2.2.2.2.1 q14
                                refine j_ts (tgt := 176) (off := 175) hc ca1 dX10_count_1 14 q14 (by decide) (by decide) (by decide) (by decide) ?_
                                refine j_aload_nR hc 0 dX10_count_176 rfl rfl ?_
                                refine j_getR (c' := 25) hc fl_RX10_56 rfl rfl (fun hv => (sv_k hv hm rfl)) dX10_count_177 ?_
                                refine j_getR (c' := 33) hc fl_RX10_149 rfl rfl (fun hv => (sv_k hv hm rfl)) dX10_count_180 ?_
                                refine j_iload_n hc 1 dX10_count_183 rfl rfl ?_
                                refine j_bipush hc dX10_count_184 (by decide) ?_
                                refine j_isub hc dX10_count_186 ?_
                                obtain ⟨b37, h⟩ := h
                                refine j_iald (jn := (Int.toNat (wr (a1 - 14)))) hc (fun hv => sv_kl hv hm rfl) rfl b37 rfl dX10_count_187 (fun cn38 => ?_)
                                exact j_iret hc hr cn38 h dX10_count_188
                              · rcases Decidable.em (a1 = 15) with q15 | q15
                                · replace h := h.2.2.2.2.2.2.2.2.2.2.2.2.2.2.2.1 q15
                                  refine j_ts (tgt := 176) (off := 175) hc ca1 dX10_count_1 15 q15 (by decide) (by decide) (by decide) (by decide) ?_
                                  refine j_aload_nR hc 0 dX10_count_176 rfl rfl ?_
                                  refine j_getR (c' := 25) hc fl_RX10_56 rfl rfl (fun hv => (sv_k hv hm rfl)) dX10_count_177 ?_
                                  refine j_getR (c' := 33) hc fl_RX10_149 rfl rfl (fun hv => (sv_k hv hm rfl)) dX10_count_180 ?_
                                  refine j_iload_n hc 1 dX10_count_183 rfl rfl ?_
                                  refine j_bipush hc dX10_count_184 (by decide) ?_
                                  refine j_isub hc dX10_count_186 ?_
                                  obtain ⟨b39, h⟩ := h
                                  refine j_iald (jn := (Int.toNat (wr (a1 - 14)))) hc (fun hv => sv_kl hv hm rfl) rfl b39 rfl dX10_count_187 (fun cn40 => ?_)
                                  exact j_iret hc hr cn40 h dX10_count_188
                                · rcases Decidable.em (a1 = 16) with q16 | q16
                                  · replace h := h.2.2.2.2.2.2.2.2.2.2.2.2.2.2.2.2.1 q16
                                    refine j_ts (tgt := 176) (off := 175) hc ca1 dX10_count_1 16 q16 (by decide) (by decide) (by decide) (by decide) ?_
                                    refine j_aload_nR hc 0 dX10_count_176 rfl rfl ?_
                                    refine j_getR (c' := 25) hc fl_RX10_56 rfl rfl (fun hv => (sv_k hv hm rfl)) dX10_count_177 ?_
                                    refine j_getR (c' := 33) hc fl_RX10_149 rfl rfl (fun hv => (sv_k hv hm rfl)) dX10_count_180 ?_
                                    refine j_iload_n hc 1 dX10_count_183 rfl rfl ?_
                                    refine j_bipush hc dX10_count_184 (by decide) ?_
                                    refine j_isub hc dX10_count_186 ?_
                                    obtain ⟨b41, h⟩ := h
                                    refine j_iald (jn := (Int.toNat (wr (a1 - 14)))) hc (fun hv => sv_kl hv hm rfl) rfl b41 rfl dX10_count_187 (fun cn42 => ?_)
                                    exact j_iret hc hr cn42 h dX10_count_188
                                  · have qd : a1 < 0 ∨ 16 < a1 := by omega
                                    replace h := h.2.2.2.2.2.2.2.2.2.2.2.2.2.2.2.2.2 qd
                                    refine j_td (tgt := 189) hc ca1 dX10_count_1 qd (by decide) ?_
                                    refine j_iconst hc dX10_count_189 ?_
                                    exact j_iret hc hr (wlit (-1) (by decide)) h dX10_count_190
-- LitStrangers.status()I
theorem dX10_status_0 : decode cX10_status 0 = .ok (.aload_n 0, 1) := by decide +kernel
theorem dX10_status_1 : decode cX10_status 1 = .ok (.getfield 320, 3) := by decide +kernel
theorem dX10_status_4 : decode cX10_status 4 = .ok (.ireturn, 1) := by decide +kernel
def wp_X10_status  (σ : st_S) (Q : Int → st_S → Prop) : Prop := Q (gI σ 0 14) σ
set_option maxRecDepth 20000 in
theorem c_X10_status {l : Launch} {E : ev_E} (hE : Eok E) (hm : eM E = 1) {σ : st_S} {Q : Int → st_S → Prop} (h : wp_X10_status σ Q) : cM l yX10_status cX10_status 1 (some .int) E 1 0 0 [vR E 0] σ (qI E (gN σ + 0) Q) := by
  refine cM_of (lv := [(0, vR E 0)]) (by decide) hE (Nat.le_of_ble_eq_true rfl) (rfl) ?_
  intro X hX hc _ _ hr _ _
  subst hX
  have hh : 1 ≤ 1 := Nat.le_refl _
  have hh1 : 1 ≤ 1 := by omega
  replace h : Q (gI σ 0 14) σ := h
  refine j_aload_nR hc 0 dX10_status_0 rfl rfl ?_
  refine j_getI hc fl_RX10_320 (Or.inl rfl) (fun hv => Or.inl (sv_k hv hm rfl)) dX10_status_1 (fun cn2 => ?_)
  exact j_iret hc hr cn2 h dX10_status_4
