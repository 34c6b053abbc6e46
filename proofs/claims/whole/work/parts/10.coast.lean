-- LitStrangers$Abacus.join(IJJ)J
theorem dX0_join_0 : decode cX0_join 0 = .ok (.iload_n 0, 1) := by decide +kernel
theorem dX0_join_1 : decode cX0_join 1 = .ok (.tableswitch 111 2 8 #[43, 47, 51, 55, 71, 87, 99], 43) := by decide +kernel
theorem dX0_join_44 : decode cX0_join 44 = .ok (.lload_n 1, 1) := by decide +kernel
theorem dX0_join_45 : decode cX0_join 45 = .ok (.lload_n 3, 1) := by decide +kernel
theorem dX0_join_46 : decode cX0_join 46 = .ok (.ladd, 1) := by decide +kernel
theorem dX0_join_47 : decode cX0_join 47 = .ok (.lreturn, 1) := by decide +kernel
theorem dX0_join_48 : decode cX0_join 48 = .ok (.lload_n 1, 1) := by decide +kernel
theorem dX0_join_49 : decode cX0_join 49 = .ok (.lload_n 3, 1) := by decide +kernel
theorem dX0_join_50 : decode cX0_join 50 = .ok (.lsub, 1) := by decide +kernel
theorem dX0_join_51 : decode cX0_join 51 = .ok (.lreturn, 1) := by decide +kernel
theorem dX0_join_52 : decode cX0_join 52 = .ok (.lload_n 1, 1) := by decide +kernel
theorem dX0_join_53 : decode cX0_join 53 = .ok (.lload_n 3, 1) := by decide +kernel
theorem dX0_join_54 : decode cX0_join 54 = .ok (.lmul, 1) := by decide +kernel
theorem dX0_join_55 : decode cX0_join 55 = .ok (.lreturn, 1) := by decide +kernel
theorem dX0_join_56 : decode cX0_join 56 = .ok (.lload_n 3, 1) := by decide +kernel
theorem dX0_join_57 : decode cX0_join 57 = .ok (.lconst 0, 1) := by decide +kernel
theorem dX0_join_58 : decode cX0_join 58 = .ok (.lcmp, 1) := by decide +kernel
theorem dX0_join_59 : decode cX0_join 59 = .ok (.ifCond .ne 9, 3) := by decide +kernel
theorem dX0_join_62 : decode cX0_join 62 = .ok (.ldc2_w 37, 3) := by decide +kernel
theorem dX0_join_65 : decode cX0_join 65 = .ok (.goto 6, 3) := by decide +kernel
theorem dX0_join_68 : decode cX0_join 68 = .ok (.lload_n 1, 1) := by decide +kernel
theorem dX0_join_69 : decode cX0_join 69 = .ok (.lload_n 3, 1) := by decide +kernel
theorem dX0_join_70 : decode cX0_join 70 = .ok (.ldiv, 1) := by decide +kernel
theorem dX0_join_71 : decode cX0_join 71 = .ok (.lreturn, 1) := by decide +kernel
theorem dX0_join_72 : decode cX0_join 72 = .ok (.lload_n 3, 1) := by decide +kernel
theorem dX0_join_73 : decode cX0_join 73 = .ok (.lconst 0, 1) := by decide +kernel
theorem dX0_join_74 : decode cX0_join 74 = .ok (.lcmp, 1) := by decide +kernel
theorem dX0_join_75 : decode cX0_join 75 = .ok (.ifCond .ne 9, 3) := by decide +kernel
theorem dX0_join_78 : decode cX0_join 78 = .ok (.ldc2_w 37, 3) := by decide +kernel
theorem dX0_join_81 : decode cX0_join 81 = .ok (.goto 6, 3) := by decide +kernel
theorem dX0_join_84 : decode cX0_join 84 = .ok (.lload_n 1, 1) := by decide +kernel
theorem dX0_join_85 : decode cX0_join 85 = .ok (.lload_n 3, 1) := by decide +kernel
theorem dX0_join_86 : decode cX0_join 86 = .ok (.lrem, 1) := by decide +kernel
theorem dX0_join_87 : decode cX0_join 87 = .ok (.lreturn, 1) := by decide +kernel
theorem dX0_join_88 : decode cX0_join 88 = .ok (.lload_n 1, 1) := by decide +kernel
theorem dX0_join_89 : decode cX0_join 89 = .ok (.lload_n 3, 1) := by decide +kernel
theorem dX0_join_90 : decode cX0_join 90 = .ok (.lcmp, 1) := by decide +kernel
theorem dX0_join_91 : decode cX0_join 91 = .ok (.ifCond .ge 7, 3) := by decide +kernel
theorem dX0_join_94 : decode cX0_join 94 = .ok (.lconst 1, 1) := by decide +kernel
theorem dX0_join_95 : decode cX0_join 95 = .ok (.goto 4, 3) := by decide +kernel
theorem dX0_join_98 : decode cX0_join 98 = .ok (.lconst 0, 1) := by decide +kernel
theorem dX0_join_99 : decode cX0_join 99 = .ok (.lreturn, 1) := by decide +kernel
theorem dX0_join_100 : decode cX0_join 100 = .ok (.lload_n 1, 1) := by decide +kernel
theorem dX0_join_101 : decode cX0_join 101 = .ok (.lload_n 3, 1) := by decide +kernel
theorem dX0_join_102 : decode cX0_join 102 = .ok (.lcmp, 1) := by decide +kernel
theorem dX0_join_103 : decode cX0_join 103 = .ok (.ifCond .le 7, 3) := by decide +kernel
theorem dX0_join_106 : decode cX0_join 106 = .ok (.lconst 1, 1) := by decide +kernel
theorem dX0_join_107 : decode cX0_join 107 = .ok (.goto 4, 3) := by decide +kernel
theorem dX0_join_110 : decode cX0_join 110 = .ok (.lconst 0, 1) := by decide +kernel
theorem dX0_join_111 : decode cX0_join 111 = .ok (.lreturn, 1) := by decide +kernel
theorem dX0_join_112 : decode cX0_join 112 = .ok (.lload_n 1, 1) := by decide +kernel
theorem dX0_join_113 : decode cX0_join 113 = .ok (.lload_n 3, 1) := by decide +kernel
theorem dX0_join_114 : decode cX0_join 114 = .ok (.lcmp, 1) := by decide +kernel
theorem dX0_join_115 : decode cX0_join 115 = .ok (.ifCond .ne 7, 3) := by decide +kernel
theorem dX0_join_118 : decode cX0_join 118 = .ok (.lconst 1, 1) := by decide +kernel
theorem dX0_join_119 : decode cX0_join 119 = .ok (.goto 4, 3) := by decide +kernel
theorem dX0_join_122 : decode cX0_join 122 = .ok (.lconst 0, 1) := by decide +kernel
theorem dX0_join_123 : decode cX0_join 123 = .ok (.lreturn, 1) := by decide +kernel
def B_X0_join_71 (Q : Int → st_S → Prop)   (v0 : Int) (σ : st_S) : Prop := Q v0 σ
def B_X0_join_87 (Q : Int → st_S → Prop)   (v0 : Int) (σ : st_S) : Prop := Q v0 σ
def B_X0_join_99 (Q : Int → st_S → Prop)   (v0 : Int) (σ : st_S) : Prop := Q v0 σ
def B_X0_join_111 (Q : Int → st_S → Prop)   (v0 : Int) (σ : st_S) : Prop := Q v0 σ
def B_X0_join_123 (Q : Int → st_S → Prop)   (v0 : Int) (σ : st_S) : Prop := Q v0 σ
def wp_X0_join (a1 : Int) (a2 : Int) (a3 : Int) (σ : st_S) (Q : Int → st_S → Prop) : Prop := (a1 = 2 → Q (wl (a2 + a3)) σ) ∧ (a1 = 3 → Q (wl (a2 - a3)) σ) ∧ (a1 = 4 → Q (wl (a2 * a3)) σ) ∧ (a1 = 5 → (¬ p_cmp a3 0 = 0 → ¬ a3 = 0 ∧ B_X0_join_71 Q (p_div a2 a3) σ) ∧ (p_cmp a3 0 = 0 → B_X0_join_71 Q 1000000001 σ)) ∧ (a1 = 6 → (¬ p_cmp a3 0 = 0 → ¬ a3 = 0 ∧ B_X0_join_87 Q (p_rem a2 a3) σ) ∧ (p_cmp a3 0 = 0 → B_X0_join_87 Q 1000000001 σ)) ∧ (a1 = 7 → (0 ≤ p_cmp a2 a3 → B_X0_join_99 Q 0 σ) ∧ (¬ 0 ≤ p_cmp a2 a3 → B_X0_join_99 Q 1 σ)) ∧ (a1 = 8 → (p_cmp a2 a3 ≤ 0 → B_X0_join_111 Q 0 σ) ∧ (¬ p_cmp a2 a3 ≤ 0 → B_X0_join_111 Q 1 σ)) ∧ (a1 < 2 ∨ 8 < a1 → (¬ p_cmp a2 a3 = 0 → B_X0_join_123 Q 0 σ) ∧ (p_cmp a2 a3 = 0 → B_X0_join_123 Q 1 σ))
set_option maxRecDepth 20000 in
theorem jb_X0_join_71 {X : jj_X} {E : ev_E} {n0 hN : Nat} (hc : Cx X E cX0_join 5 n0 hN RX0) (hm : eM E = 1) (hr : (xT X).sig.returnType = (some .long)) (hh : 1 ≤ hN) {Q : Int → st_S → Prop} {v0 : Int} (cv0 : wl v0 = v0) {σ : st_S} (h : B_X0_join_71 Q v0 σ) : J X E 5 n0 0 0 (MQ (xB X) (qL E (n0 + 0) Q) (xA X) (xS X) 0 0 (eF E)) σ 71 [] [vL v0] := by
  have hh1 : 1 ≤ hN := by omega
  replace h : Q v0 σ := h
  exact j_lret hc hr cv0 h dX0_join_71
set_option maxRecDepth 20000 in
theorem jb_X0_join_87 {X : jj_X} {E : ev_E} {n0 hN : Nat} (hc : Cx X E cX0_join 5 n0 hN RX0) (hm : eM E = 1) (hr : (xT X).sig.returnType = (some .long)) (hh : 1 ≤ hN) {Q : Int → st_S → Prop} {v0 : Int} (cv0 : wl v0 = v0) {σ : st_S} (h : B_X0_join_87 Q v0 σ) : J X E 5 n0 0 0 (MQ (xB X) (qL E (n0 + 0) Q) (xA X) (xS X) 0 0 (eF E)) σ 87 [] [vL v0] := by
  have hh1 : 1 ≤ hN := by omega
  replace h : Q v0 σ := h
  exact j_lret hc hr cv0 h dX0_join_87
set_option maxRecDepth 20000 in
theorem jb_X0_join_99 {X : jj_X} {E : ev_E} {n0 hN : Nat} (hc : Cx X E cX0_join 5 n0 hN RX0) (hm : eM E = 1) (hr : (xT X).sig.returnType = (some .long)) (hh : 1 ≤ hN) {Q : Int → st_S → Prop} {v0 : Int} (cv0 : wl v0 = v0) {σ : st_S} (h : B_X0_join_99 Q v0 σ) : J X E 5 n0 0 0 (MQ (xB X) (qL E (n0 + 0) Q) (xA X) (xS X) 0 0 (eF E)) σ 99 [] [vL v0] := by
  have hh1 : 1 ≤ hN := by omega
  replace h : Q v0 σ := h
  exact j_lret hc hr cv0 h dX0_join_99
set_option maxRecDepth 20000 in
theorem jb_X0_join_111 {X : jj_X} {E : ev_E} {n0 hN : Nat} (hc : Cx X E cX0_join 5 n0 hN RX0) (hm : eM E = 1) (hr : (xT X).sig.returnType = (some .long)) (hh : 1 ≤ hN) {Q : Int → st_S → Prop} {v0 : Int} (cv0 : wl v0 = v0) {σ : st_S} (h : B_X0_join_111 Q v0 σ) : J X E 5 n0 0 0 (MQ (xB X) (qL E (n0 + 0) Q) (xA X) (xS X) 0 0 (eF E)) σ 111 [] [vL v0] := by
  have hh1 : 1 ≤ hN := by omega
  replace h : Q v0 σ := h
  exact j_lret hc hr cv0 h dX0_join_111
set_option maxRecDepth 20000 in
theorem jb_X0_join_123 {X : jj_X} {E : ev_E} {n0 hN : Nat} (hc : Cx X E cX0_join 5 n0 hN RX0) (hm : eM E = 1) (hr : (xT X).sig.returnType = (some .long)) (hh : 1 ≤ hN) {Q : Int → st_S → Prop} {v0 : Int} (cv0 : wl v0 = v0) {σ : st_S} (h : B_X0_join_123 Q v0 σ) : J X E 5 n0 0 0 (MQ (xB X) (qL E (n0 + 0) Q) (xA X) (xS X) 0 0 (eF E)) σ 123 [] [vL v0] := by
  have hh1 : 1 ≤ hN := by omega
  replace h : Q v0 σ := h
  exact j_lret hc hr cv0 h dX0_join_123
set_option maxRecDepth 20000 in
theorem c_X0_join {l : Launch} {E : ev_E} (hE : Eok E) (hm : eM E = 1) {a1 : Int} {a2 : Int} {a3 : Int} (ca1 : wr a1 = a1) (ca2 : wl a2 = a2) (ca3 : wl a3 = a3) {σ : st_S} {Q : Int → st_S → Prop} (h : wp_X0_join a1 a2 a3 σ Q) : cM l yX0_join cX0_join 5 (some .long) E 1 0 0 [vI a1, vL a2, vL a3] σ (qL E (gN σ + 0) Q) := by
  refine cM_of (lv := [(0, vI a1), (1, vL a2), (3, vL a3)]) (by decide) hE (Nat.le_of_ble_eq_true rfl) (rfl) ?_
  intro X hX hc _ _ hr _ _
  subst hX
  have hh : 1 ≤ 1 := Nat.le_refl _
  have hh1 : 1 ≤ 1 := by omega
  replace h : (a1 = 2 → Q (wl (a2 + a3)) σ) ∧ (a1 = 3 → Q (wl (a2 - a3)) σ) ∧ (a1 = 4 → Q (wl (a2 * a3)) σ) ∧ (a1 = 5 → (¬ p_cmp a3 0 = 0 → ¬ a3 = 0 ∧ B_X0_join_71 Q (p_div a2 a3) σ) ∧ (p_cmp a3 0 = 0 → B_X0_join_71 Q 1000000001 σ)) ∧ (a1 = 6 → (¬ p_cmp a3 0 = 0 → ¬ a3 = 0 ∧ B_X0_join_87 Q (p_rem a2 a3) σ) ∧ (p_cmp a3 0 = 0 → B_X0_join_87 Q 1000000001 σ)) ∧ (a1 = 7 → (0 ≤ p_cmp a2 a3 → B_X0_join_99 Q 0 σ) ∧ (¬ 0 ≤ p_cmp a2 a3 → B_X0_join_99 Q 1 σ)) ∧ (a1 = 8 → (p_cmp a2 a3 ≤ 0 → B_X0_join_111 Q 0 σ) ∧ (¬ p_cmp a2 a3 ≤ 0 → B_X0_join_111 Q 1 σ)) ∧ (a1 < 2 ∨ 8 < a1 → (¬ p_cmp a2 a3 = 0 → B_X0_join_123 Q 0 σ) ∧ (p_cmp a2 a3 = 0 → B_X0_join_123 Q 1 σ)) := h
  refine j_iload_n hc 0 dX0_join_0 rfl rfl ?_
  rcases Decidable.em (a1 = 2) with q0 | q0
  · replace h := h.1 q0
    refine j_ts (tgt := 44) (off := 43) hc ca1 dX0_join_1 2 q0 (by decide) (by decide) (by decide) (by decide) ?_
    refine j_lload_n hc 1 dX0_join_44 rfl rfl ?_
    refine j_lload_n hc 2 dX0_join_45 rfl rfl ?_
    refine j_ladd hc dX0_join_46 ?_
    refine j_wl (fun y ey cy => ?_)
    subst ey
    exact j_lret hc hr cy h dX0_join_47
  · rcases Decidable.em (a1 = 3) with q1 | q1
    · replace h := h.2.1 q1
      refine j_ts (tgt := 48) (off := 47) hc ca1 dX0_join_1 3 q1 (by decide) (by decide) (by decide) (by decide) ?_
      refine j_lload_n hc 1 dX0_join_48 rfl rfl ?_
      refine j_lload_n hc 2 dX0_join_49 rfl rfl ?_
      refine j_lsub hc dX0_join_50 ?_
      refine j_wl (fun y ey cy => ?_)
      subst ey
      exact j_lret hc hr cy h dX0_join_51
    · rcases Decidable.em (a1 = 4) with q2 | q2
      · replace h := h.2.2.1 q2
        refine j_ts (tgt := 52) (off := 51) hc ca1 dX0_join_1 4 q2 (by decide) (by decide) (by decide) (by decide) ?_
        refine j_lload_n hc 1 dX0_join_52 rfl rfl ?_
        refine j_lload_n hc 2 dX0_join_53 rfl rfl ?_
        refine j_lmul hc dX0_join_54 ?_
        refine j_wl (fun y ey cy => ?_)
        subst ey
        exact j_lret hc hr cy h dX0_join_55
      · rcases Decidable.em (a1 = 5) with q3 | q3
        · replace h := h.2.2.2.1 q3
          refine j_ts (tgt := 56) (off := 55) hc ca1 dX0_join_1 5 q3 (by decide) (by decide) (by decide) (by decide) ?_
          refine j_lload_n hc 2 dX0_join_56 rfl rfl ?_
          refine j_lconst (x := 0) hc dX0_join_57 rfl ?_
          refine j_lcmp hc dX0_join_58 ?_
          refine j_if_ne hc (cn_cmp _ _) (tgt := 68) dX0_join_59 (by decide) (fun q4 => ?_) (fun q4 => ?_)
          · replace h := h.1 q4
            refine j_lload_n hc 1 dX0_join_68 rfl rfl ?_
            refine j_lload_n hc 2 dX0_join_69 rfl rfl ?_
            obtain ⟨z3, h⟩ := h
            refine j_ldiv hc dX0_join_70 (by rw [ca3]; exact z3) ?_
            refine j_sub (lv' := []) [] rfl ?_
            exact jb_X0_join_71 hc hm hr hh (cl_div _ _) h
          · replace h := h.2 q4
            refine j_ldc2 (x := 1000000001) hc (by decide) kl_RX0_37 dX0_join_62 ?_
            refine j_goto (tgt := 71) hc dX0_join_65 (by decide) ?_
            refine j_sub (lv' := []) [] rfl ?_
            exact jb_X0_join_71 hc hm hr hh (llit 1000000001 (by decide)) h
        · rcases Decidable.em (a1 = 6) with q4 | q4
          · replace h := h.2.2.2.2.1 q4
            refine j_ts (tgt := 72) (off := 71) hc ca1 dX0_join_1 6 q4 (by decide) (by decide) (by decide) (by decide) ?_
            refine j_lload_n hc 2 dX0_join_72 rfl rfl ?_
            refine j_lconst (x := 0) hc dX0_join_73 rfl ?_
            refine j_lcmp hc dX0_join_74 ?_
            refine j_if_ne hc (cn_cmp _ _) (tgt := 84) dX0_join_75 (by decide) (fun q6 => ?_) (fun q6 => ?_)
            · replace h := h.1 q6
              refine j_lload_n hc 1 dX0_join_84 rfl rfl ?_
              refine j_lload_n hc 2 dX0_join_85 rfl rfl ?_
              obtain ⟨z5, h⟩ := h
              refine j_lrem hc dX0_join_86 (by rw [ca3]; exact z5) ?_
              refine j_sub (lv' := []) [] rfl ?_
              exact jb_X0_join_87 hc hm hr hh (cl_rem _ _) h
            · replace h := h.2 q6
              refine j_ldc2 (x := 1000000001) hc (by decide) kl_RX0_37 dX0_join_78 ?_
              refine j_goto (tgt := 87) hc dX0_join_81 (by decide) ?_
              refine j_sub (lv' := []) [] rfl ?_
              exact jb_X0_join_87 hc hm hr hh (llit 1000000001 (by decide)) h
          · rcases Decidable.em (a1 = 7) with q5 | q5
            · replace h := h.2.2.2.2.2.1 q5
              refine j_ts (tgt := 88) (off := 87) hc ca1 dX0_join_1 7 q5 (by decide) (by decide) (by decide) (by decide) ?_
              refine j_lload_n hc 1 dX0_join_88 rfl rfl ?_
              refine j_lload_n hc 2 dX0_join_89 rfl rfl ?_
              refine j_lcmp hc dX0_join_90 ?_
              refine j_if_ge hc (cn_cmp _ _) (tgt := 98) dX0_join_91 (by decide) (fun q7 => ?_) (fun q7 => ?_)
              · replace h := h.1 q7
                refine j_lconst (x := 0) hc dX0_join_98 rfl ?_
                refine j_sub (lv' := []) [] rfl ?_
                exact jb_X0_join_99 hc hm hr hh (llit 0 (by decide)) h
              · replace h := h.2 q7
                refine j_lconst (x := 1) hc dX0_join_94 rfl ?_
                refine j_goto (tgt := 99) hc dX0_join_95 (by decide) ?_
                refine j_sub (lv' := []) [] rfl ?_
                exact jb_X0_join_99 hc hm hr hh (llit 1 (by decide)) h
            · rcases Decidable.em (a1 = 8) with q6 | q6
              · replace h := h.2.2.2.2.2.2.1 q6
                refine j_ts (tgt := 100) (off := 99) hc ca1 dX0_join_1 8 q6 (by decide) (by decide) (by decide) (by decide) ?_
                refine j_lload_n hc 1 dX0_join_100 rfl rfl ?_
                refine j_lload_n hc 2 dX0_join_101 rfl rfl ?_
                refine j_lcmp hc dX0_join_102 ?_
                refine j_if_le hc (cn_cmp _ _) (tgt := 110) dX0_join_103 (by decide) (fun q8 => ?_) (fun q8 => ?_)
                · replace h := h.1 q8
                  refine j_lconst (x := 0) hc dX0_join_110 rfl ?_
                  refine j_sub (lv' := []) [] rfl ?_
                  exact jb_X0_join_111 hc hm hr hh (llit 0 (by decide)) h
                · replace h := h.2 q8
                  refine j_lconst (x := 1) hc dX0_join_106 rfl ?_
                  refine j_goto (tgt := 111) hc dX0_join_107 (by decide) ?_
                  refine j_sub (lv' := []) [] rfl ?_
                  exact jb_X0_join_111 hc hm hr hh (llit 1 (by decide)) h
              · have qd : a1 < 2 ∨ 8 < a1 := by omega
                replace h := h.2.2.2.2.2.2.2 qd
                refine j_td (tgt := 112) hc ca1 dX0_join_1 qd (by decide) ?_
                refine j_lload_n hc 1 dX0_join_112 rfl rfl ?_
                refine j_lload_n hc 2 dX0_join_113 rfl rfl ?_
                refine j_lcmp hc dX0_join_114 ?_
                refine j_if_ne hc (cn_cmp _ _) (tgt := 122) dX0_join_115 (by decide) (fun q9 => ?_) (fun q9 => ?_)
                · replace h := h.1 q9
                  refine j_lconst (x := 0) hc dX0_join_122 rfl ?_
                  refine j_sub (lv' := []) [] rfl ?_
                  exact jb_X0_join_123 hc hm hr hh (llit 0 (by decide)) h
                · replace h := h.2 q9
                  refine j_lconst (x := 1) hc dX0_join_118 rfl ?_
                  refine j_goto (tgt := 123) hc dX0_join_119 (by decide) ?_
                  refine j_sub (lv' := []) [] rfl ?_
                  exact jb_X0_join_123 hc hm hr hh (llit 1 (by decide)) h
-- LitStrangers$Abacus.solve(LLitStrangers$Text;II)Z
theorem dX0_solve_0 : decode cX0_solve 0 = .ok (.iconst 0, 1) := by decide +kernel
theorem dX0_solve_1 : decode cX0_solve 1 = .ok (.istore 4, 2) := by decide +kernel
theorem dX0_solve_3 : decode cX0_solve 3 = .ok (.iload_n 2, 1) := by decide +kernel
theorem dX0_solve_4 : decode cX0_solve 4 = .ok (.istore 5, 2) := by decide +kernel
theorem dX0_solve_6 : decode cX0_solve 6 = .ok (.iload_n 2, 1) := by decide +kernel
theorem dX0_solve_7 : decode cX0_solve 7 = .ok (.istore 6, 2) := by decide +kernel
theorem dX0_solve_9 : decode cX0_solve 9 = .ok (.iload 6, 2) := by decide +kernel
theorem dX0_solve_11 : decode cX0_solve 11 = .ok (.iload_n 3, 1) := by decide +kernel
theorem dX0_solve_12 : decode cX0_solve 12 = .ok (.if_icmp .ge 302, 3) := by decide +kernel
theorem dX0_solve_15 : decode cX0_solve 15 = .ok (.iload 6, 2) := by decide +kernel
theorem dX0_solve_17 : decode cX0_solve 17 = .ok (.aload_n 1, 1) := by decide +kernel
theorem dX0_solve_18 : decode cX0_solve 18 = .ok (.getfield 16, 3) := by decide +kernel
theorem dX0_solve_21 : decode cX0_solve 21 = .ok (.if_icmp .ge 293, 3) := by decide +kernel
theorem dX0_solve_24 : decode cX0_solve 24 = .ok (.iload 6, 2) := by decide +kernel
theorem dX0_solve_26 : decode cX0_solve 26 = .ok (.iload 5, 2) := by decide +kernel
theorem dX0_solve_28 : decode cX0_solve 28 = .ok (.if_icmp .ge 6, 3) := by decide +kernel
theorem dX0_solve_31 : decode cX0_solve 31 = .ok (.goto 277, 3) := by decide +kernel
theorem dX0_solve_34 : decode cX0_solve 34 = .ok (.aload_n 1, 1) := by decide +kernel
theorem dX0_solve_35 : decode cX0_solve 35 = .ok (.getfield 22, 3) := by decide +kernel
theorem dX0_solve_38 : decode cX0_solve 38 = .ok (.iload 6, 2) := by decide +kernel
theorem dX0_solve_40 : decode cX0_solve 40 = .ok (.iaload, 1) := by decide +kernel
theorem dX0_solve_41 : decode cX0_solve 41 = .ok (.bipush 16, 2) := by decide +kernel
theorem dX0_solve_43 : decode cX0_solve 43 = .ok (.ishr, 1) := by decide +kernel
theorem dX0_solve_44 : decode cX0_solve 44 = .ok (.istore 7, 2) := by decide +kernel
theorem dX0_solve_46 : decode cX0_solve 46 = .ok (.aload_n 1, 1) := by decide +kernel
theorem dX0_solve_47 : decode cX0_solve 47 = .ok (.getfield 22, 3) := by decide +kernel
theorem dX0_solve_50 : decode cX0_solve 50 = .ok (.iload 6, 2) := by decide +kernel
theorem dX0_solve_52 : decode cX0_solve 52 = .ok (.iaload, 1) := by decide +kernel
theorem dX0_solve_53 : decode cX0_solve 53 = .ok (.ldc 25, 2) := by decide +kernel
theorem dX0_solve_55 : decode cX0_solve 55 = .ok (.iand, 1) := by decide +kernel
theorem dX0_solve_56 : decode cX0_solve 56 = .ok (.istore 8, 2) := by decide +kernel
theorem dX0_solve_58 : decode cX0_solve 58 = .ok (.iload 7, 2) := by decide +kernel
theorem dX0_solve_60 : decode cX0_solve 60 = .ok (.ifCond .eq 9, 3) := by decide +kernel
theorem dX0_solve_63 : decode cX0_solve 63 = .ok (.iload 7, 2) := by decide +kernel
theorem dX0_solve_65 : decode cX0_solve 65 = .ok (.iconst 1, 1) := by decide +kernel
theorem dX0_solve_66 : decode cX0_solve 66 = .ok (.if_icmp .ne 55, 3) := by decide +kernel
theorem dX0_solve_69 : decode cX0_solve 69 = .ok (.iload 4, 2) := by decide +kernel
theorem dX0_solve_71 : decode cX0_solve 71 = .ok (.bipush 64, 2) := by decide +kernel
theorem dX0_solve_73 : decode cX0_solve 73 = .ok (.if_icmp .ge 16, 3) := by decide +kernel
theorem dX0_solve_76 : decode cX0_solve 76 = .ok (.iload 7, 2) := by decide +kernel
theorem dX0_solve_78 : decode cX0_solve 78 = .ok (.iconst 1, 1) := by decide +kernel
theorem dX0_solve_79 : decode cX0_solve 79 = .ok (.if_icmp .ne 12, 3) := by decide +kernel
theorem dX0_solve_82 : decode cX0_solve 82 = .ok (.iload 8, 2) := by decide +kernel
theorem dX0_solve_84 : decode cX0_solve 84 = .ok (.bipush 25, 2) := by decide +kernel
theorem dX0_solve_86 : decode cX0_solve 86 = .ok (.if_icmp .lt 5, 3) := by decide +kernel
theorem dX0_solve_89 : decode cX0_solve 89 = .ok (.iconst 0, 1) := by decide +kernel
theorem dX0_solve_90 : decode cX0_solve 90 = .ok (.ireturn, 1) := by decide +kernel
theorem dX0_solve_91 : decode cX0_solve 91 = .ok (.aload_n 0, 1) := by decide +kernel
theorem dX0_solve_92 : decode cX0_solve 92 = .ok (.getfield 13, 3) := by decide +kernel
theorem dX0_solve_95 : decode cX0_solve 95 = .ok (.iload 4, 2) := by decide +kernel
theorem dX0_solve_97 : decode cX0_solve 97 = .ok (.iload 7, 2) := by decide +kernel
theorem dX0_solve_99 : decode cX0_solve 99 = .ok (.ifCond .ne 8, 3) := by decide +kernel
theorem dX0_solve_102 : decode cX0_solve 102 = .ok (.iload 8, 2) := by decide +kernel
theorem dX0_solve_104 : decode cX0_solve 104 = .ok (.goto 10, 3) := by decide +kernel
theorem dX0_solve_107 : decode cX0_solve 107 = .ok (.aload_n 0, 1) := by decide +kernel
theorem dX0_solve_108 : decode cX0_solve 108 = .ok (.getfield 9, 3) := by decide +kernel
theorem dX0_solve_111 : decode cX0_solve 111 = .ok (.iload 8, 2) := by decide +kernel
theorem dX0_solve_113 : decode cX0_solve 113 = .ok (.iaload, 1) := by decide +kernel
theorem dX0_solve_114 : decode cX0_solve 114 = .ok (.iastore, 1) := by decide +kernel
theorem dX0_solve_115 : decode cX0_solve 115 = .ok (.iinc 4 1, 3) := by decide +kernel
theorem dX0_solve_118 : decode cX0_solve 118 = .ok (.goto 190, 3) := by decide +kernel
theorem dX0_solve_121 : decode cX0_solve 121 = .ok (.iload 4, 2) := by decide +kernel
theorem dX0_solve_123 : decode cX0_solve 123 = .ok (.iload 7, 2) := by decide +kernel
theorem dX0_solve_125 : decode cX0_solve 125 = .ok (.bipush 10, 2) := by decide +kernel
theorem dX0_solve_127 : decode cX0_solve 127 = .ok (.if_icmp .ge 7, 3) := by decide +kernel
theorem dX0_solve_130 : decode cX0_solve 130 = .ok (.iconst 2, 1) := by decide +kernel
theorem dX0_solve_131 : decode cX0_solve 131 = .ok (.goto 4, 3) := by decide +kernel
theorem dX0_solve_134 : decode cX0_solve 134 = .ok (.iconst 1, 1) := by decide +kernel
theorem dX0_solve_135 : decode cX0_solve 135 = .ok (.if_icmp .ge 5, 3) := by decide +kernel
theorem dX0_solve_138 : decode cX0_solve 138 = .ok (.iconst 0, 1) := by decide +kernel
theorem dX0_solve_139 : decode cX0_solve 139 = .ok (.ireturn, 1) := by decide +kernel
theorem dX0_solve_140 : decode cX0_solve 140 = .ok (.aload_n 0, 1) := by decide +kernel
theorem dX0_solve_141 : decode cX0_solve 141 = .ok (.getfield 13, 3) := by decide +kernel
theorem dX0_solve_144 : decode cX0_solve 144 = .ok (.iload 4, 2) := by decide +kernel
theorem dX0_solve_146 : decode cX0_solve 146 = .ok (.iconst 1, 1) := by decide +kernel
theorem dX0_solve_147 : decode cX0_solve 147 = .ok (.isub, 1) := by decide +kernel
theorem dX0_solve_148 : decode cX0_solve 148 = .ok (.iaload, 1) := by decide +kernel
theorem dX0_solve_149 : decode cX0_solve 149 = .ok (.istore 9, 2) := by decide +kernel
theorem dX0_solve_151 : decode cX0_solve 151 = .ok (.iload 7, 2) := by decide +kernel
theorem dX0_solve_153 : decode cX0_solve 153 = .ok (.bipush 10, 2) := by decide +kernel
theorem dX0_solve_155 : decode cX0_solve 155 = .ok (.if_icmp .ne 19, 3) := by decide +kernel
theorem dX0_solve_158 : decode cX0_solve 158 = .ok (.aload_n 0, 1) := by decide +kernel
theorem dX0_solve_159 : decode cX0_solve 159 = .ok (.getfield 13, 3) := by decide +kernel
theorem dX0_solve_162 : decode cX0_solve 162 = .ok (.iload 4, 2) := by decide +kernel
theorem dX0_solve_164 : decode cX0_solve 164 = .ok (.iconst 1, 1) := by decide +kernel
theorem dX0_solve_165 : decode cX0_solve 165 = .ok (.isub, 1) := by decide +kernel
theorem dX0_solve_166 : decode cX0_solve 166 = .ok (.iconst 1, 1) := by decide +kernel
theorem dX0_solve_167 : decode cX0_solve 167 = .ok (.iload 9, 2) := by decide +kernel
theorem dX0_solve_169 : decode cX0_solve 169 = .ok (.isub, 1) := by decide +kernel
theorem dX0_solve_170 : decode cX0_solve 170 = .ok (.iastore, 1) := by decide +kernel
theorem dX0_solve_171 : decode cX0_solve 171 = .ok (.goto 137, 3) := by decide +kernel
theorem dX0_solve_174 : decode cX0_solve 174 = .ok (.iload 7, 2) := by decide +kernel
theorem dX0_solve_176 : decode cX0_solve 176 = .ok (.bipush 11, 2) := by decide +kernel
theorem dX0_solve_178 : decode cX0_solve 178 = .ok (.if_icmp .eq 10, 3) := by decide +kernel
theorem dX0_solve_181 : decode cX0_solve 181 = .ok (.iload 7, 2) := by decide +kernel
theorem dX0_solve_183 : decode cX0_solve 183 = .ok (.bipush 12, 2) := by decide +kernel
theorem dX0_solve_185 : decode cX0_solve 185 = .ok (.if_icmp .ne 68, 3) := by decide +kernel
theorem dX0_solve_188 : decode cX0_solve 188 = .ok (.iload 9, 2) := by decide +kernel
theorem dX0_solve_190 : decode cX0_solve 190 = .ok (.iconst 1, 1) := by decide +kernel
theorem dX0_solve_191 : decode cX0_solve 191 = .ok (.if_icmp .ne 7, 3) := by decide +kernel
theorem dX0_solve_194 : decode cX0_solve 194 = .ok (.iconst 1, 1) := by decide +kernel
theorem dX0_solve_195 : decode cX0_solve 195 = .ok (.goto 4, 3) := by decide +kernel
theorem dX0_solve_198 : decode cX0_solve 198 = .ok (.iconst 0, 1) := by decide +kernel
theorem dX0_solve_199 : decode cX0_solve 199 = .ok (.iload 7, 2) := by decide +kernel
theorem dX0_solve_201 : decode cX0_solve 201 = .ok (.bipush 11, 2) := by decide +kernel
theorem dX0_solve_203 : decode cX0_solve 203 = .ok (.if_icmp .ne 7, 3) := by decide +kernel
theorem dX0_solve_206 : decode cX0_solve 206 = .ok (.iconst 1, 1) := by decide +kernel
theorem dX0_solve_207 : decode cX0_solve 207 = .ok (.goto 4, 3) := by decide +kernel
theorem dX0_solve_210 : decode cX0_solve 210 = .ok (.iconst 0, 1) := by decide +kernel
theorem dX0_solve_211 : decode cX0_solve 211 = .ok (.if_icmp .ne 7, 3) := by decide +kernel
theorem dX0_solve_214 : decode cX0_solve 214 = .ok (.iconst 1, 1) := by decide +kernel
theorem dX0_solve_215 : decode cX0_solve 215 = .ok (.goto 4, 3) := by decide +kernel
theorem dX0_solve_218 : decode cX0_solve 218 = .ok (.iconst 0, 1) := by decide +kernel
theorem dX0_solve_219 : decode cX0_solve 219 = .ok (.istore 10, 2) := by decide +kernel
theorem dX0_solve_221 : decode cX0_solve 221 = .ok (.iload 10, 2) := by decide +kernel
theorem dX0_solve_223 : decode cX0_solve 223 = .ok (.ifCond .eq 8, 3) := by decide +kernel
theorem dX0_solve_226 : decode cX0_solve 226 = .ok (.iload 8, 2) := by decide +kernel
theorem dX0_solve_228 : decode cX0_solve 228 = .ok (.goto 5, 3) := by decide +kernel
theorem dX0_solve_231 : decode cX0_solve 231 = .ok (.iload 5, 2) := by decide +kernel
theorem dX0_solve_233 : decode cX0_solve 233 = .ok (.istore 5, 2) := by decide +kernel
theorem dX0_solve_235 : decode cX0_solve 235 = .ok (.iload 4, 2) := by decide +kernel
theorem dX0_solve_237 : decode cX0_solve 237 = .ok (.iload 10, 2) := by decide +kernel
theorem dX0_solve_239 : decode cX0_solve 239 = .ok (.ifCond .eq 7, 3) := by decide +kernel
theorem dX0_solve_242 : decode cX0_solve 242 = .ok (.iconst 0, 1) := by decide +kernel
theorem dX0_solve_243 : decode cX0_solve 243 = .ok (.goto 4, 3) := by decide +kernel
theorem dX0_solve_246 : decode cX0_solve 246 = .ok (.iconst 1, 1) := by decide +kernel
theorem dX0_solve_247 : decode cX0_solve 247 = .ok (.isub, 1) := by decide +kernel
theorem dX0_solve_248 : decode cX0_solve 248 = .ok (.istore 4, 2) := by decide +kernel
theorem dX0_solve_250 : decode cX0_solve 250 = .ok (.goto 58, 3) := by decide +kernel
theorem dX0_solve_253 : decode cX0_solve 253 = .ok (.iload 7, 2) := by decide +kernel
theorem dX0_solve_255 : decode cX0_solve 255 = .ok (.aload_n 0, 1) := by decide +kernel
theorem dX0_solve_256 : decode cX0_solve 256 = .ok (.getfield 13, 3) := by decide +kernel
theorem dX0_solve_259 : decode cX0_solve 259 = .ok (.iload 4, 2) := by decide +kernel
theorem dX0_solve_261 : decode cX0_solve 261 = .ok (.iconst 2, 1) := by decide +kernel
theorem dX0_solve_262 : decode cX0_solve 262 = .ok (.isub, 1) := by decide +kernel
theorem dX0_solve_263 : decode cX0_solve 263 = .ok (.iaload, 1) := by decide +kernel
theorem dX0_solve_264 : decode cX0_solve 264 = .ok (.i2l, 1) := by decide +kernel
theorem dX0_solve_265 : decode cX0_solve 265 = .ok (.iload 9, 2) := by decide +kernel
theorem dX0_solve_267 : decode cX0_solve 267 = .ok (.i2l, 1) := by decide +kernel
theorem dX0_solve_268 : decode cX0_solve 268 = .ok (.invokestatic 26, 3) := by decide +kernel
theorem dX0_solve_271 : decode cX0_solve 271 = .ok (.lstore 10, 2) := by decide +kernel
theorem dX0_solve_273 : decode cX0_solve 273 = .ok (.lload 10, 2) := by decide +kernel
theorem dX0_solve_275 : decode cX0_solve 275 = .ok (.ldc2_w 30, 3) := by decide +kernel
theorem dX0_solve_278 : decode cX0_solve 278 = .ok (.lcmp, 1) := by decide +kernel
theorem dX0_solve_279 : decode cX0_solve 279 = .ok (.ifCond .lt 12, 3) := by decide +kernel
theorem dX0_solve_282 : decode cX0_solve 282 = .ok (.lload 10, 2) := by decide +kernel
theorem dX0_solve_284 : decode cX0_solve 284 = .ok (.ldc2_w 32, 3) := by decide +kernel
theorem dX0_solve_287 : decode cX0_solve 287 = .ok (.lcmp, 1) := by decide +kernel
theorem dX0_solve_288 : decode cX0_solve 288 = .ok (.ifCond .le 5, 3) := by decide +kernel
theorem dX0_solve_291 : decode cX0_solve 291 = .ok (.iconst 0, 1) := by decide +kernel
theorem dX0_solve_292 : decode cX0_solve 292 = .ok (.ireturn, 1) := by decide +kernel
theorem dX0_solve_293 : decode cX0_solve 293 = .ok (.iinc 4 (-1), 3) := by decide +kernel
theorem dX0_solve_296 : decode cX0_solve 296 = .ok (.aload_n 0, 1) := by decide +kernel
theorem dX0_solve_297 : decode cX0_solve 297 = .ok (.getfield 13, 3) := by decide +kernel
theorem dX0_solve_300 : decode cX0_solve 300 = .ok (.iload 4, 2) := by decide +kernel
theorem dX0_solve_302 : decode cX0_solve 302 = .ok (.iconst 1, 1) := by decide +kernel
theorem dX0_solve_303 : decode cX0_solve 303 = .ok (.isub, 1) := by decide +kernel
theorem dX0_solve_304 : decode cX0_solve 304 = .ok (.lload 10, 2) := by decide +kernel
theorem dX0_solve_306 : decode cX0_solve 306 = .ok (.l2i, 1) := by decide +kernel
theorem dX0_solve_307 : decode cX0_solve 307 = .ok (.iastore, 1) := by decide +kernel
theorem dX0_solve_308 : decode cX0_solve 308 = .ok (.iinc 6 1, 3) := by decide +kernel
theorem dX0_solve_311 : decode cX0_solve 311 = .ok (.goto (-302), 3) := by decide +kernel
theorem dX0_solve_314 : decode cX0_solve 314 = .ok (.aload_n 0, 1) := by decide +kernel
theorem dX0_solve_315 : decode cX0_solve 315 = .ok (.iload 4, 2) := by decide +kernel
theorem dX0_solve_317 : decode cX0_solve 317 = .ok (.ifCond .le 15, 3) := by decide +kernel
theorem dX0_solve_320 : decode cX0_solve 320 = .ok (.aload_n 0, 1) := by decide +kernel
theorem dX0_solve_321 : decode cX0_solve 321 = .ok (.getfield 13, 3) := by decide +kernel
theorem dX0_solve_324 : decode cX0_solve 324 = .ok (.iload 4, 2) := by decide +kernel
theorem dX0_solve_326 : decode cX0_solve 326 = .ok (.iconst 1, 1) := by decide +kernel
theorem dX0_solve_327 : decode cX0_solve 327 = .ok (.isub, 1) := by decide +kernel
theorem dX0_solve_328 : decode cX0_solve 328 = .ok (.iaload, 1) := by decide +kernel
theorem dX0_solve_329 : decode cX0_solve 329 = .ok (.goto 4, 3) := by decide +kernel
theorem dX0_solve_332 : decode cX0_solve 332 = .ok (.iconst 0, 1) := by decide +kernel
theorem dX0_solve_333 : decode cX0_solve 333 = .ok (.putfield 34, 3) := by decide +kernel
theorem dX0_solve_336 : decode cX0_solve 336 = .ok (.iconst 1, 1) := by decide +kernel
theorem dX0_solve_337 : decode cX0_solve 337 = .ok (.ireturn, 1) := by decide +kernel
def B_X0_solve_89 (Q : Int → st_S → Prop)    (σ : st_S) : Prop := Q 0 σ
def B_X0_solve_308 (Q : Int → st_S → Prop)  (k9 : Nat → Nat → Int → Int → Int → Int → st_S → Prop) (l0 : Nat) (l1 : Nat) (l3 : Int) (l4 : Int) (l5 : Int) (l6 : Int) (σ : st_S) : Prop := ∀ x60 : Int, x60 = wr (l6 + 1) → k9 l0 l1 l3 l4 l5 x60 σ
def B_X0_solve_114 (Q : Int → st_S → Prop)  (k9 : Nat → Nat → Int → Int → Int → Int → st_S → Prop) (l0 : Nat) (l1 : Nat) (l3 : Int) (l4 : Int) (l5 : Int) (l6 : Int) (v0 : Int) (v1 : Int) (v2 : Nat) (σ : st_S) : Prop := gK σ v2 = 0 ∧ ix (wr v1) (gL σ v2) ∧ ∀ s63 : st_S, s63 = sI σ v2 (Int.toNat (wr v1)) v0 → ∀ x64 : Int, x64 = wr (l4 + 1) → B_X0_solve_308 Q k9 l0 l1 l3 x64 l5 l6 s63
def B_X0_solve_91 (Q : Int → st_S → Prop)  (k9 : Nat → Nat → Int → Int → Int → Int → st_S → Prop) (l0 : Nat) (l1 : Nat) (l3 : Int) (l4 : Int) (l5 : Int) (l6 : Int) (l7 : Int) (l8 : Int) (σ : st_S) : Prop := gK σ l0 = 16 + 0 ∧ (¬ l7 = 0 → ix l8 25 ∧ B_X0_solve_114 Q k9 l0 l1 l3 l4 l5 l6 (gI σ (l0 + 1) (Int.toNat l8)) l4 (l0 + 2) σ) ∧ (l7 = 0 → B_X0_solve_114 Q k9 l0 l1 l3 l4 l5 l6 l8 l4 (l0 + 2) σ)
def B_X0_solve_69 (Q : Int → st_S → Prop)  (k9 : Nat → Nat → Int → Int → Int → Int → st_S → Prop) (l0 : Nat) (l1 : Nat) (l3 : Int) (l4 : Int) (l5 : Int) (l6 : Int) (l7 : Int) (l8 : Int) (σ : st_S) : Prop := (64 ≤ l4 → B_X0_solve_89 Q σ) ∧ (¬ 64 ≤ l4 → (¬ l7 = 1 → B_X0_solve_91 Q k9 l0 l1 l3 l4 l5 l6 l7 l8 σ) ∧ (l7 = 1 → (l8 < 25 → B_X0_solve_91 Q k9 l0 l1 l3 l4 l5 l6 l7 l8 σ) ∧ (¬ l8 < 25 → B_X0_solve_89 Q σ)))
def B_X0_solve_247 (Q : Int → st_S → Prop)  (k9 : Nat → Nat → Int → Int → Int → Int → st_S → Prop) (l0 : Nat) (l1 : Nat) (l3 : Int) (l5 : Int) (l6 : Int) (v0 : Int) (v1 : Int) (σ : st_S) : Prop := ∀ x72 : Int, x72 = wr (v1 - v0) → B_X0_solve_308 Q k9 l0 l1 l3 x72 l5 l6 σ
def B_X0_solve_233 (Q : Int → st_S → Prop)  (k9 : Nat → Nat → Int → Int → Int → Int → st_S → Prop) (l0 : Nat) (l1 : Nat) (l3 : Int) (l4 : Int) (l6 : Int) (l10 : Int) (v0 : Int) (σ : st_S) : Prop := (l10 = 0 → B_X0_solve_247 Q k9 l0 l1 l3 v0 l6 1 l4 σ) ∧ (¬ l10 = 0 → B_X0_solve_247 Q k9 l0 l1 l3 v0 l6 0 l4 σ)
def B_X0_solve_219 (Q : Int → st_S → Prop)  (k9 : Nat → Nat → Int → Int → Int → Int → st_S → Prop) (l0 : Nat) (l1 : Nat) (l3 : Int) (l4 : Int) (l5 : Int) (l6 : Int) (l8 : Int) (v0 : Int) (σ : st_S) : Prop := (v0 = 0 → B_X0_solve_233 Q k9 l0 l1 l3 l4 l6 v0 l5 σ) ∧ (¬ v0 = 0 → B_X0_solve_233 Q k9 l0 l1 l3 l4 l6 v0 l8 σ)
def B_X0_solve_211 (Q : Int → st_S → Prop)  (k9 : Nat → Nat → Int → Int → Int → Int → st_S → Prop) (l0 : Nat) (l1 : Nat) (l3 : Int) (l4 : Int) (l5 : Int) (l6 : Int) (l8 : Int) (v0 : Int) (v1 : Int) (σ : st_S) : Prop := (¬ wr v1 = v0 → B_X0_solve_219 Q k9 l0 l1 l3 l4 l5 l6 l8 0 σ) ∧ (wr v1 = v0 → B_X0_solve_219 Q k9 l0 l1 l3 l4 l5 l6 l8 1 σ)
def B_X0_solve_199 (Q : Int → st_S → Prop)  (k9 : Nat → Nat → Int → Int → Int → Int → st_S → Prop) (l0 : Nat) (l1 : Nat) (l3 : Int) (l4 : Int) (l5 : Int) (l6 : Int) (l7 : Int) (l8 : Int) (v0 : Int) (σ : st_S) : Prop := (¬ l7 = 11 → B_X0_solve_211 Q k9 l0 l1 l3 l4 l5 l6 l8 0 v0 σ) ∧ (l7 = 11 → B_X0_solve_211 Q k9 l0 l1 l3 l4 l5 l6 l8 1 v0 σ)
def B_X0_solve_188 (Q : Int → st_S → Prop)  (k9 : Nat → Nat → Int → Int → Int → Int → st_S → Prop) (l0 : Nat) (l1 : Nat) (l3 : Int) (l4 : Int) (l5 : Int) (l6 : Int) (l7 : Int) (l8 : Int) (l9 : Int) (σ : st_S) : Prop := (¬ l9 = 1 → B_X0_solve_199 Q k9 l0 l1 l3 l4 l5 l6 l7 l8 0 σ) ∧ (l9 = 1 → B_X0_solve_199 Q k9 l0 l1 l3 l4 l5 l6 l7 l8 1 σ)
def B_X0_solve_291 (Q : Int → st_S → Prop)    (σ : st_S) : Prop := Q 0 σ
def B_X0_solve_135 (Q : Int → st_S → Prop)  (k9 : Nat → Nat → Int → Int → Int → Int → st_S → Prop) (l0 : Nat) (l1 : Nat) (l3 : Int) (l4 : Int) (l5 : Int) (l6 : Int) (l7 : Int) (l8 : Int) (v0 : Int) (v1 : Int) (σ : st_S) : Prop := (v0 ≤ wr v1 → gK σ l0 = 16 + 0 ∧ ix (wr (l4 - 1)) 64 ∧ ∀ x81 : Int, x81 = gI σ (l0 + 2) (Int.toNat (wr (l4 - 1))) → (¬ l7 = 10 → (l7 = 11 → B_X0_solve_188 Q k9 l0 l1 l3 l4 l5 l6 l7 l8 x81 σ) ∧ (¬ l7 = 11 → (¬ l7 = 12 → ix (wr (l4 - 2)) 64 ∧ wp_X0_join l7 (gI σ (l0 + 2) (Int.toNat (wr (l4 - 2)))) x81 σ (fun r84 s85 => (p_cmp r84 (-1000000000) < 0 → B_X0_solve_291 Q s85) ∧ (¬ p_cmp r84 (-1000000000) < 0 → (p_cmp r84 1000000000 ≤ 0 → ∀ x86 : Int, x86 = wr (l4 + (-1)) → gK s85 l0 = 16 + 0 ∧ ix (wr (x86 - 1)) 64 ∧ ∀ s89 : st_S, s89 = sI s85 (l0 + 2) (Int.toNat (wr (x86 - 1))) (o_l2i r84) → B_X0_solve_308 Q k9 l0 l1 l3 x86 l5 l6 s89) ∧ (¬ p_cmp r84 1000000000 ≤ 0 → B_X0_solve_291 Q s85)))) ∧ (l7 = 12 → B_X0_solve_188 Q k9 l0 l1 l3 l4 l5 l6 l7 l8 x81 σ))) ∧ (l7 = 10 → ∀ x94 : Int, x94 = wr (1 - x81) → ix (wr (l4 - 1)) 64 ∧ ∀ s96 : st_S, s96 = sI σ (l0 + 2) (Int.toNat (wr (l4 - 1))) x94 → B_X0_solve_308 Q k9 l0 l1 l3 l4 l5 l6 s96)) ∧ (¬ v0 ≤ wr v1 → Q 0 σ)
def B_X0_solve_333 (Q : Int → st_S → Prop)   (v0 : Int) (v1 : Nat) (σ : st_S) : Prop := gK σ v1 = 16 + 0 ∧ ∀ s100 : st_S, s100 = sI σ v1 1 v0 → Q 1 s100
def B_X0_solve_314 (Q : Int → st_S → Prop)   (l0 : Nat) (l4 : Int) (σ : st_S) : Prop := (l4 ≤ 0 → B_X0_solve_333 Q 0 l0 σ) ∧ (¬ l4 ≤ 0 → gK σ l0 = 16 + 0 ∧ ix (wr (l4 - 1)) 64 ∧ B_X0_solve_333 Q (gI σ (l0 + 2) (Int.toNat (wr (l4 - 1)))) l0 σ)
def L_X0_solve_9 (Q : Int → st_S → Prop)   : Nat → Nat → Nat → Int → Int → Int → Int → st_S → Prop
  | 0 => fun _ _ _ _ _ _ _ => False
  | n + 1 => fun l0 l1 l3 l4 l5 l6 σ => (l3 ≤ l6 → B_X0_solve_314 Q l0 l4 σ) ∧ (¬ l3 ≤ l6 → gK σ l1 = 16 + 9 ∧ (gI σ l1 6 ≤ l6 → B_X0_solve_314 Q l0 l4 σ) ∧ (¬ gI σ l1 6 ≤ l6 → (l5 ≤ l6 → ix l6 (gL σ (l1 + 1)) ∧ ∀ x109 : Int, x109 = o_shr (gI σ (l1 + 1) (Int.toNat l6)) 16 → ix l6 (gL σ (l1 + 1)) ∧ ∀ x112 : Int, x112 = o_and (gI σ (l1 + 1) (Int.toNat l6)) 65535 → (x109 = 0 → B_X0_solve_69 Q (L_X0_solve_9 Q n) l0 l1 l3 l4 l5 l6 x109 x112 σ) ∧ (¬ x109 = 0 → (¬ x109 = 1 → (10 ≤ x109 → B_X0_solve_135 Q (L_X0_solve_9 Q n) l0 l1 l3 l4 l5 l6 x109 x112 1 l4 σ) ∧ (¬ 10 ≤ x109 → B_X0_solve_135 Q (L_X0_solve_9 Q n) l0 l1 l3 l4 l5 l6 x109 x112 2 l4 σ)) ∧ (x109 = 1 → B_X0_solve_69 Q (L_X0_solve_9 Q n) l0 l1 l3 l4 l5 l6 x109 x112 σ))) ∧ (¬ l5 ≤ l6 → B_X0_solve_308 Q (L_X0_solve_9 Q n) l0 l1 l3 l4 l5 l6 σ)))
def wp_X0_solve (t : Nat) (a1 : Nat) (a2 : Int) (a3 : Int) (σ : st_S) (Q : Int → st_S → Prop) : Prop := ∃ m9 : Nat, L_X0_solve_9 Q m9 t a1 a3 0 a2 a2 σ
set_option maxRecDepth 20000 in
theorem jb_X0_solve_89 {X : jj_X} {E : ev_E} {n0 hN : Nat} (hc : Cx X E cX0_solve 12 n0 hN RX0) (hm : eM E = 1) (hr : (xT X).sig.returnType = (some .boolean)) (hh : 2 ≤ hN) {Q : Int → st_S → Prop} {σ : st_S} (h : B_X0_solve_89 Q σ) : J X E 12 n0 0 0 (MQ (xB X) (qI E (n0 + 0) Q) (xA X) (xS X) 0 0 (eF E)) σ 89 [] [] := by
  have hh1 : 1 ≤ hN := by omega
  replace h : Q 0 σ := h
  refine j_iconst hc dX0_solve_89 ?_
  exact j_zret hc hr (nar_bool (Or.inl rfl)) (by decide) h dX0_solve_90
set_option maxRecDepth 20000 in
theorem jb_X0_solve_308 {X : jj_X} {E : ev_E} {n0 hN : Nat} (hc : Cx X E cX0_solve 12 n0 hN RX0) (hm : eM E = 1) (hr : (xT X).sig.returnType = (some .boolean)) (hh : 2 ≤ hN) {Q : Int → st_S → Prop} {k9 : Nat → Nat → Int → Int → Int → Int → st_S → Prop} (hk9 : ∀ {l0 : Nat} {l1 : Nat} {l3 : Int} {l4 : Int} {l5 : Int} {l6 : Int} (cl3 : wr l3 = l3) (cl4 : wr l4 = l4) (cl5 : wr l5 = l5) (cl6 : wr l6 = l6) {σ : st_S}, k9 l0 l1 l3 l4 l5 l6 σ → J X E 12 n0 0 0 (MQ (xB X) (qI E (n0 + 0) Q) (xA X) (xS X) 0 0 (eF E)) σ 9 [(0, vR E l0), (1, vR E l1), (3, vI l3), (4, vI l4), (5, vI l5), (6, vI l6)] []) {l0 : Nat} {l1 : Nat} {l3 : Int} {l4 : Int} {l5 : Int} {l6 : Int} (cl3 : wr l3 = l3) (cl4 : wr l4 = l4) (cl5 : wr l5 = l5) (cl6 : wr l6 = l6) {σ : st_S} (h : B_X0_solve_308 Q k9 l0 l1 l3 l4 l5 l6 σ) : J X E 12 n0 0 0 (MQ (xB X) (qI E (n0 + 0) Q) (xA X) (xS X) 0 0 (eF E)) σ 308 [(0, vR E l0), (1, vR E l1), (3, vI l3), (4, vI l4), (5, vI l5), (6, vI l6)] [] := by
  have hh1 : 1 ≤ hN := by omega
  replace h : ∀ x60 : Int, x60 = wr (l6 + 1) → k9 l0 l1 l3 l4 l5 x60 σ := h
  obtain ⟨x60, ex60⟩ : ∃ y : Int, y = wr (l6 + 1) := ⟨_, rfl⟩
  have cx60 : wr x60 = x60 := by rw [ex60]; exact wr_wr _
  replace h := h x60 ex60
  refine j_iinc (lv' := [(6, vI x60), (0, vR E l0), (1, vR E l1), (3, vI l3), (4, vI l4), (5, vI l5)]) hc 5 dX0_solve_308 rfl (by decide) ex60 rfl ?_
  refine j_goto (tgt := 9) hc dX0_solve_311 (by decide) ?_
  refine j_sub (lv' := [(0, vR E l0), (1, vR E l1), (3, vI l3), (4, vI l4), (5, vI l5), (6, vI x60)]) [1, 2, 3, 4, 5, 0] rfl ?_
  exact hk9 cl3 cl4 cl5 cx60 h
set_option maxRecDepth 20000 in
theorem jb_X0_solve_114 {X : jj_X} {E : ev_E} {n0 hN : Nat} (hc : Cx X E cX0_solve 12 n0 hN RX0) (hm : eM E = 1) (hr : (xT X).sig.returnType = (some .boolean)) (hh : 2 ≤ hN) {Q : Int → st_S → Prop} {k9 : Nat → Nat → Int → Int → Int → Int → st_S → Prop} (hk9 : ∀ {l0 : Nat} {l1 : Nat} {l3 : Int} {l4 : Int} {l5 : Int} {l6 : Int} (cl3 : wr l3 = l3) (cl4 : wr l4 = l4) (cl5 : wr l5 = l5) (cl6 : wr l6 = l6) {σ : st_S}, k9 l0 l1 l3 l4 l5 l6 σ → J X E 12 n0 0 0 (MQ (xB X) (qI E (n0 + 0) Q) (xA X) (xS X) 0 0 (eF E)) σ 9 [(0, vR E l0), (1, vR E l1), (3, vI l3), (4, vI l4), (5, vI l5), (6, vI l6)] []) {l0 : Nat} {l1 : Nat} {l3 : Int} {l4 : Int} {l5 : Int} {l6 : Int} {v0 : Int} {v1 : Int} {v2 : Nat} (cl3 : wr l3 = l3) (cl4 : wr l4 = l4) (cl5 : wr l5 = l5) (cl6 : wr l6 = l6) (cv0 : wr v0 = v0) {σ : st_S} (h : B_X0_solve_114 Q k9 l0 l1 l3 l4 l5 l6 v0 v1 v2 σ) : J X E 12 n0 0 0 (MQ (xB X) (qI E (n0 + 0) Q) (xA X) (xS X) 0 0 (eF E)) σ 114 [(0, vR E l0), (1, vR E l1), (3, vI l3), (4, vI l4), (5, vI l5), (6, vI l6)] [vI v0, vI v1, vR E v2] := by
  have hh1 : 1 ≤ hN := by omega
  replace h : gK σ v2 = 0 ∧ ix (wr v1) (gL σ v2) ∧ ∀ s63 : st_S, s63 = sI σ v2 (Int.toNat (wr v1)) v0 → ∀ x64 : Int, x64 = wr (l4 + 1) → B_X0_solve_308 Q k9 l0 l1 l3 x64 l5 l6 s63 := h
  obtain ⟨f61, h⟩ := h
  obtain ⟨b62, h⟩ := h
  refine j_iast (jn := (Int.toNat (wr v1))) hc (fun _ => ⟨f61, rfl⟩) rfl b62 rfl cv0 dX0_solve_114 (fun s63 es63 => ?_)
  replace h := h s63 es63
  obtain ⟨x64, ex64⟩ : ∃ y : Int, y = wr (l4 + 1) := ⟨_, rfl⟩
  have cx64 : wr x64 = x64 := by rw [ex64]; exact wr_wr _
  replace h := h x64 ex64
  refine j_iinc (lv' := [(4, vI x64), (0, vR E l0), (1, vR E l1), (3, vI l3), (5, vI l5), (6, vI l6)]) hc 3 dX0_solve_115 rfl (by decide) ex64 rfl ?_
  refine j_goto (tgt := 308) hc dX0_solve_118 (by decide) ?_
  refine j_sub (lv' := [(0, vR E l0), (1, vR E l1), (3, vI l3), (4, vI x64), (5, vI l5), (6, vI l6)]) [1, 2, 3, 0, 4, 5] rfl ?_
  exact jb_X0_solve_308 hc hm hr hh hk9 cl3 cx64 cl5 cl6 h
set_option maxRecDepth 20000 in
theorem jb_X0_solve_91 {X : jj_X} {E : ev_E} {n0 hN : Nat} (hc : Cx X E cX0_solve 12 n0 hN RX0) (hm : eM E = 1) (hr : (xT X).sig.returnType = (some .boolean)) (hh : 2 ≤ hN) {Q : Int → st_S → Prop} {k9 : Nat → Nat → Int → Int → Int → Int → st_S → Prop} (hk9 : ∀ {l0 : Nat} {l1 : Nat} {l3 : Int} {l4 : Int} {l5 : Int} {l6 : Int} (cl3 : wr l3 = l3) (cl4 : wr l4 = l4) (cl5 : wr l5 = l5) (cl6 : wr l6 = l6) {σ : st_S}, k9 l0 l1 l3 l4 l5 l6 σ → J X E 12 n0 0 0 (MQ (xB X) (qI E (n0 + 0) Q) (xA X) (xS X) 0 0 (eF E)) σ 9 [(0, vR E l0), (1, vR E l1), (3, vI l3), (4, vI l4), (5, vI l5), (6, vI l6)] []) {l0 : Nat} {l1 : Nat} {l3 : Int} {l4 : Int} {l5 : Int} {l6 : Int} {l7 : Int} {l8 : Int} (cl3 : wr l3 = l3) (cl4 : wr l4 = l4) (cl5 : wr l5 = l5) (cl6 : wr l6 = l6) (cl7 : wr l7 = l7) (cl8 : wr l8 = l8) {σ : st_S} (h : B_X0_solve_91 Q k9 l0 l1 l3 l4 l5 l6 l7 l8 σ) : J X E 12 n0 0 0 (MQ (xB X) (qI E (n0 + 0) Q) (xA X) (xS X) 0 0 (eF E)) σ 91 [(0, vR E l0), (1, vR E l1), (3, vI l3), (4, vI l4), (5, vI l5), (6, vI l6), (7, vI l7), (8, vI l8)] [] := by
  have hh1 : 1 ≤ hN := by omega
  replace h : gK σ l0 = 16 + 0 ∧ (¬ l7 = 0 → ix l8 25 ∧ B_X0_solve_114 Q k9 l0 l1 l3 l4 l5 l6 (gI σ (l0 + 1) (Int.toNat l8)) l4 (l0 + 2) σ) ∧ (l7 = 0 → B_X0_solve_114 Q k9 l0 l1 l3 l4 l5 l6 l8 l4 (l0 + 2) σ) := h
  refine j_aload_nR hc 0 dX0_solve_91 rfl rfl ?_
  obtain ⟨f65, h⟩ := h
  refine j_getR (c' := (l0 + 2)) hc fl_RX0_13 rfl rfl (fun _ => f65) dX0_solve_92 ?_
  refine j_iload hc 3 dX0_solve_95 rfl ?_
  refine j_iload hc 6 dX0_solve_97 rfl ?_
  refine j_if_ne hc cl7 (tgt := 107) dX0_solve_99 (by decide) (fun q68 => ?_) (fun q68 => ?_)
  · replace h := h.1 q68
    refine j_aload_nR hc 0 dX0_solve_107 rfl rfl ?_
    refine j_getR (c' := (l0 + 1)) hc fl_RX0_9 rfl rfl (fun _ => f65) dX0_solve_108 ?_
    refine j_iload hc 7 dX0_solve_111 rfl ?_
    obtain ⟨b66, h⟩ := h
    refine j_iald (jn := (Int.toNat l8)) hc (fun hv => sv_b hv f65 (by decide) rfl) cl8 b66 rfl dX0_solve_113 (fun cn67 => ?_)
    refine j_sub (lv' := [(0, vR E l0), (1, vR E l1), (3, vI l3), (4, vI l4), (5, vI l5), (6, vI l6)]) [0, 1, 2, 3, 4, 5] rfl ?_
    exact jb_X0_solve_114 hc hm hr hh hk9 cl3 cl4 cl5 cl6 cn67 h
  · replace h := h.2 q68
    refine j_iload hc 7 dX0_solve_102 rfl ?_
    refine j_goto (tgt := 114) hc dX0_solve_104 (by decide) ?_
    refine j_sub (lv' := [(0, vR E l0), (1, vR E l1), (3, vI l3), (4, vI l4), (5, vI l5), (6, vI l6)]) [0, 1, 2, 3, 4, 5] rfl ?_
    exact jb_X0_solve_114 hc hm hr hh hk9 cl3 cl4 cl5 cl6 cl8 h
set_option maxRecDepth 20000 in
theorem jb_X0_solve_69 {X : jj_X} {E : ev_E} {n0 hN : Nat} (hc : Cx X E cX0_solve 12 n0 hN RX0) (hm : eM E = 1) (hr : (xT X).sig.returnType = (some .boolean)) (hh : 2 ≤ hN) {Q : Int → st_S → Prop} {k9 : Nat → Nat → Int → Int → Int → Int → st_S → Prop} (hk9 : ∀ {l0 : Nat} {l1 : Nat} {l3 : Int} {l4 : Int} {l5 : Int} {l6 : Int} (cl3 : wr l3 = l3) (cl4 : wr l4 = l4) (cl5 : wr l5 = l5) (cl6 : wr l6 = l6) {σ : st_S}, k9 l0 l1 l3 l4 l5 l6 σ → J X E 12 n0 0 0 (MQ (xB X) (qI E (n0 + 0) Q) (xA X) (xS X) 0 0 (eF E)) σ 9 [(0, vR E l0), (1, vR E l1), (3, vI l3), (4, vI l4), (5, vI l5), (6, vI l6)] []) {l0 : Nat} {l1 : Nat} {l3 : Int} {l4 : Int} {l5 : Int} {l6 : Int} {l7 : Int} {l8 : Int} (cl3 : wr l3 = l3) (cl4 : wr l4 = l4) (cl5 : wr l5 = l5) (cl6 : wr l6 = l6) (cl7 : wr l7 = l7) (cl8 : wr l8 = l8) {σ : st_S} (h : B_X0_solve_69 Q k9 l0 l1 l3 l4 l5 l6 l7 l8 σ) : J X E 12 n0 0 0 (MQ (xB X) (qI E (n0 + 0) Q) (xA X) (xS X) 0 0 (eF E)) σ 69 [(0, vR E l0), (1, vR E l1), (3, vI l3), (4, vI l4), (5, vI l5), (6, vI l6), (7, vI l7), (8, vI l8)] [] := by
  have hh1 : 1 ≤ hN := by omega
  replace h : (64 ≤ l4 → B_X0_solve_89 Q σ) ∧ (¬ 64 ≤ l4 → (¬ l7 = 1 → B_X0_solve_91 Q k9 l0 l1 l3 l4 l5 l6 l7 l8 σ) ∧ (l7 = 1 → (l8 < 25 → B_X0_solve_91 Q k9 l0 l1 l3 l4 l5 l6 l7 l8 σ) ∧ (¬ l8 < 25 → B_X0_solve_89 Q σ))) := h
  refine j_iload hc 3 dX0_solve_69 rfl ?_
  refine j_bipush hc dX0_solve_71 (by decide) ?_
  refine j_ic_ge hc cl4 (wlit 64 (by decide)) (tgt := 89) dX0_solve_73 (by decide) (fun q71 => ?_) (fun q71 => ?_)
  · replace h := h.1 q71
    refine j_sub (lv' := []) [] rfl ?_
    exact jb_X0_solve_89 hc hm hr hh h
  · replace h := h.2 q71
    refine j_iload hc 6 dX0_solve_76 rfl ?_
    refine j_iconst hc dX0_solve_78 ?_
    refine j_ic_ne hc cl7 (wlit 1 (by decide)) (tgt := 91) dX0_solve_79 (by decide) (fun q70 => ?_) (fun q70 => ?_)
    · replace h := h.1 q70
      refine j_sub (lv' := [(0, vR E l0), (1, vR E l1), (3, vI l3), (4, vI l4), (5, vI l5), (6, vI l6), (7, vI l7), (8, vI l8)]) [0, 1, 2, 3, 4, 5, 6, 7] rfl ?_
      exact jb_X0_solve_91 hc hm hr hh hk9 cl3 cl4 cl5 cl6 cl7 cl8 h
    · replace h := h.2 q70
      refine j_iload hc 7 dX0_solve_82 rfl ?_
      refine j_bipush hc dX0_solve_84 (by decide) ?_
      refine j_ic_lt hc cl8 (wlit 25 (by decide)) (tgt := 91) dX0_solve_86 (by decide) (fun q69 => ?_) (fun q69 => ?_)
      · replace h := h.1 q69
        refine j_sub (lv' := [(0, vR E l0), (1, vR E l1), (3, vI l3), (4, vI l4), (5, vI l5), (6, vI l6), (7, vI l7), (8, vI l8)]) [0, 1, 2, 3, 4, 5, 6, 7] rfl ?_
        exact jb_X0_solve_91 hc hm hr hh hk9 cl3 cl4 cl5 cl6 cl7 cl8 h
      · replace h := h.2 q69
        refine j_sub (lv' := []) [] rfl ?_
        exact jb_X0_solve_89 hc hm hr hh h
set_option maxRecDepth 20000 in
theorem jb_X0_solve_247 {X : jj_X} {E : ev_E} {n0 hN : Nat} (hc : Cx X E cX0_solve 12 n0 hN RX0) (hm : eM E = 1) (hr : (xT X).sig.returnType = (some .boolean)) (hh : 2 ≤ hN) {Q : Int → st_S → Prop} {k9 : Nat → Nat → Int → Int → Int → Int → st_S → Prop} (hk9 : ∀ {l0 : Nat} {l1 : Nat} {l3 : Int} {l4 : Int} {l5 : Int} {l6 : Int} (cl3 : wr l3 = l3) (cl4 : wr l4 = l4) (cl5 : wr l5 = l5) (cl6 : wr l6 = l6) {σ : st_S}, k9 l0 l1 l3 l4 l5 l6 σ → J X E 12 n0 0 0 (MQ (xB X) (qI E (n0 + 0) Q) (xA X) (xS X) 0 0 (eF E)) σ 9 [(0, vR E l0), (1, vR E l1), (3, vI l3), (4, vI l4), (5, vI l5), (6, vI l6)] []) {l0 : Nat} {l1 : Nat} {l3 : Int} {l5 : Int} {l6 : Int} {v0 : Int} {v1 : Int} (cl3 : wr l3 = l3) (cl5 : wr l5 = l5) (cl6 : wr l6 = l6) (cv0 : wr v0 = v0) {σ : st_S} (h : B_X0_solve_247 Q k9 l0 l1 l3 l5 l6 v0 v1 σ) : J X E 12 n0 0 0 (MQ (xB X) (qI E (n0 + 0) Q) (xA X) (xS X) 0 0 (eF E)) σ 247 [(0, vR E l0), (1, vR E l1), (3, vI l3), (5, vI l5), (6, vI l6)] [vI v0, vI v1] := by
  have hh1 : 1 ≤ hN := by omega
  replace h : ∀ x72 : Int, x72 = wr (v1 - v0) → B_X0_solve_308 Q k9 l0 l1 l3 x72 l5 l6 σ := h
  refine j_isub hc dX0_solve_247 ?_
  refine j_w (fun x72 ex72 cx72 => ?_)
  replace h := h x72 ex72
  refine j_istore (lv' := [(4, vI x72), (0, vR E l0), (1, vR E l1), (3, vI l3), (5, vI l5), (6, vI l6)]) hc dX0_solve_248 (by decide) rfl ?_
  refine j_goto (tgt := 308) hc dX0_solve_250 (by decide) ?_
  refine j_sub (lv' := [(0, vR E l0), (1, vR E l1), (3, vI l3), (4, vI x72), (5, vI l5), (6, vI l6)]) [1, 2, 3, 0, 4, 5] rfl ?_
  exact jb_X0_solve_308 hc hm hr hh hk9 cl3 cx72 cl5 cl6 h
set_option maxRecDepth 20000 in
theorem jb_X0_solve_233 {X : jj_X} {E : ev_E} {n0 hN : Nat} (hc : Cx X E cX0_solve 12 n0 hN RX0) (hm : eM E = 1) (hr : (xT X).sig.returnType = (some .boolean)) (hh : 2 ≤ hN) {Q : Int → st_S → Prop} {k9 : Nat → Nat → Int → Int → Int → Int → st_S → Prop} (hk9 : ∀ {l0 : Nat} {l1 : Nat} {l3 : Int} {l4 : Int} {l5 : Int} {l6 : Int} (cl3 : wr l3 = l3) (cl4 : wr l4 = l4) (cl5 : wr l5 = l5) (cl6 : wr l6 = l6) {σ : st_S}, k9 l0 l1 l3 l4 l5 l6 σ → J X E 12 n0 0 0 (MQ (xB X) (qI E (n0 + 0) Q) (xA X) (xS X) 0 0 (eF E)) σ 9 [(0, vR E l0), (1, vR E l1), (3, vI l3), (4, vI l4), (5, vI l5), (6, vI l6)] []) {l0 : Nat} {l1 : Nat} {l3 : Int} {l4 : Int} {l6 : Int} {l10 : Int} {v0 : Int} (cl3 : wr l3 = l3) (cl4 : wr l4 = l4) (cl6 : wr l6 = l6) (cl10 : wr l10 = l10) (cv0 : wr v0 = v0) {σ : st_S} (h : B_X0_solve_233 Q k9 l0 l1 l3 l4 l6 l10 v0 σ) : J X E 12 n0 0 0 (MQ (xB X) (qI E (n0 + 0) Q) (xA X) (xS X) 0 0 (eF E)) σ 233 [(0, vR E l0), (1, vR E l1), (3, vI l3), (4, vI l4), (6, vI l6), (10, vI l10)] [vI v0] := by
  have hh1 : 1 ≤ hN := by omega
  replace h : (l10 = 0 → B_X0_solve_247 Q k9 l0 l1 l3 v0 l6 1 l4 σ) ∧ (¬ l10 = 0 → B_X0_solve_247 Q k9 l0 l1 l3 v0 l6 0 l4 σ) := h
  refine j_istore (lv' := [(5, vI v0), (0, vR E l0), (1, vR E l1), (3, vI l3), (4, vI l4), (6, vI l6), (10, vI l10)]) hc dX0_solve_233 (by decide) rfl ?_
  refine j_iload hc 4 dX0_solve_235 rfl ?_
  refine j_iload hc 6 dX0_solve_237 rfl ?_
  refine j_if_eq hc cl10 (tgt := 246) dX0_solve_239 (by decide) (fun q73 => ?_) (fun q73 => ?_)
  · replace h := h.1 q73
    refine j_iconst hc dX0_solve_246 ?_
    refine j_sub (lv' := [(0, vR E l0), (1, vR E l1), (3, vI l3), (5, vI v0), (6, vI l6)]) [1, 2, 3, 0, 5] rfl ?_
    exact jb_X0_solve_247 hc hm hr hh hk9 cl3 cv0 cl6 (wlit 1 (by decide)) h
  · replace h := h.2 q73
    refine j_iconst hc dX0_solve_242 ?_
    refine j_goto (tgt := 247) hc dX0_solve_243 (by decide) ?_
    refine j_sub (lv' := [(0, vR E l0), (1, vR E l1), (3, vI l3), (5, vI v0), (6, vI l6)]) [1, 2, 3, 0, 5] rfl ?_
    exact jb_X0_solve_247 hc hm hr hh hk9 cl3 cv0 cl6 (wlit 0 (by decide)) h
set_option maxRecDepth 20000 in
theorem jb_X0_solve_219 {X : jj_X} {E : ev_E} {n0 hN : Nat} (hc : Cx X E cX0_solve 12 n0 hN RX0) (hm : eM E = 1) (hr : (xT X).sig.returnType = (some .boolean)) (hh : 2 ≤ hN) {Q : Int → st_S → Prop} {k9 : Nat → Nat → Int → Int → Int → Int → st_S → Prop} (hk9 : ∀ {l0 : Nat} {l1 : Nat} {l3 : Int} {l4 : Int} {l5 : Int} {l6 : Int} (cl3 : wr l3 = l3) (cl4 : wr l4 = l4) (cl5 : wr l5 = l5) (cl6 : wr l6 = l6) {σ : st_S}, k9 l0 l1 l3 l4 l5 l6 σ → J X E 12 n0 0 0 (MQ (xB X) (qI E (n0 + 0) Q) (xA X) (xS X) 0 0 (eF E)) σ 9 [(0, vR E l0), (1, vR E l1), (3, vI l3), (4, vI l4), (5, vI l5), (6, vI l6)] []) {l0 : Nat} {l1 : Nat} {l3 : Int} {l4 : Int} {l5 : Int} {l6 : Int} {l8 : Int} {v0 : Int} (cl3 : wr l3 = l3) (cl4 : wr l4 = l4) (cl5 : wr l5 = l5) (cl6 : wr l6 = l6) (cl8 : wr l8 = l8) (cv0 : wr v0 = v0) {σ : st_S} (h : B_X0_solve_219 Q k9 l0 l1 l3 l4 l5 l6 l8 v0 σ) : J X E 12 n0 0 0 (MQ (xB X) (qI E (n0 + 0) Q) (xA X) (xS X) 0 0 (eF E)) σ 219 [(0, vR E l0), (1, vR E l1), (3, vI l3), (4, vI l4), (5, vI l5), (6, vI l6), (8, vI l8)] [vI v0] := by
  have hh1 : 1 ≤ hN := by omega
  replace h : (v0 = 0 → B_X0_solve_233 Q k9 l0 l1 l3 l4 l6 v0 l5 σ) ∧ (¬ v0 = 0 → B_X0_solve_233 Q k9 l0 l1 l3 l4 l6 v0 l8 σ) := h
  refine j_istore (lv' := [(10, vI v0), (0, vR E l0), (1, vR E l1), (3, vI l3), (4, vI l4), (5, vI l5), (6, vI l6), (8, vI l8)]) hc dX0_solve_219 (by decide) rfl ?_
  refine j_iload hc 0 dX0_solve_221 rfl ?_
  refine j_if_eq hc cv0 (tgt := 231) dX0_solve_223 (by decide) (fun q74 => ?_) (fun q74 => ?_)
  · replace h := h.1 q74
    refine j_iload hc 5 dX0_solve_231 rfl ?_
    refine j_sub (lv' := [(0, vR E l0), (1, vR E l1), (3, vI l3), (4, vI l4), (6, vI l6), (10, vI v0)]) [1, 2, 3, 4, 6, 0] rfl ?_
    exact jb_X0_solve_233 hc hm hr hh hk9 cl3 cl4 cl6 cv0 cl5 h
  · replace h := h.2 q74
    refine j_iload hc 7 dX0_solve_226 rfl ?_
    refine j_goto (tgt := 233) hc dX0_solve_228 (by decide) ?_
    refine j_sub (lv' := [(0, vR E l0), (1, vR E l1), (3, vI l3), (4, vI l4), (6, vI l6), (10, vI v0)]) [1, 2, 3, 4, 6, 0] rfl ?_
    exact jb_X0_solve_233 hc hm hr hh hk9 cl3 cl4 cl6 cv0 cl8 h
set_option maxRecDepth 20000 in
theorem jb_X0_solve_211 {X : jj_X} {E : ev_E} {n0 hN : Nat} (hc : Cx X E cX0_solve 12 n0 hN RX0) (hm : eM E = 1) (hr : (xT X).sig.returnType = (some .boolean)) (hh : 2 ≤ hN) {Q : Int → st_S → Prop} {k9 : Nat → Nat → Int → Int → Int → Int → st_S → Prop} (hk9 : ∀ {l0 : Nat} {l1 : Nat} {l3 : Int} {l4 : Int} {l5 : Int} {l6 : Int} (cl3 : wr l3 = l3) (cl4 : wr l4 = l4) (cl5 : wr l5 = l5) (cl6 : wr l6 = l6) {σ : st_S}, k9 l0 l1 l3 l4 l5 l6 σ → J X E 12 n0 0 0 (MQ (xB X) (qI E (n0 + 0) Q) (xA X) (xS X) 0 0 (eF E)) σ 9 [(0, vR E l0), (1, vR E l1), (3, vI l3), (4, vI l4), (5, vI l5), (6, vI l6)] []) {l0 : Nat} {l1 : Nat} {l3 : Int} {l4 : Int} {l5 : Int} {l6 : Int} {l8 : Int} {v0 : Int} {v1 : Int} (cl3 : wr l3 = l3) (cl4 : wr l4 = l4) (cl5 : wr l5 = l5) (cl6 : wr l6 = l6) (cl8 : wr l8 = l8) (cv0 : wr v0 = v0) {σ : st_S} (h : B_X0_solve_211 Q k9 l0 l1 l3 l4 l5 l6 l8 v0 v1 σ) : J X E 12 n0 0 0 (MQ (xB X) (qI E (n0 + 0) Q) (xA X) (xS X) 0 0 (eF E)) σ 211 [(0, vR E l0), (1, vR E l1), (3, vI l3), (4, vI l4), (5, vI l5), (6, vI l6), (8, vI l8)] [vI v0, vI v1] := by
  have hh1 : 1 ≤ hN := by omega
  replace h : (¬ wr v1 = v0 → B_X0_solve_219 Q k9 l0 l1 l3 l4 l5 l6 l8 0 σ) ∧ (wr v1 = v0 → B_X0_solve_219 Q k9 l0 l1 l3 l4 l5 l6 l8 1 σ) := h
  refine j_ic_ne hc rfl cv0 (tgt := 218) dX0_solve_211 (by decide) (fun q75 => ?_) (fun q75 => ?_)
  · replace h := h.1 q75
    refine j_iconst hc dX0_solve_218 ?_
    refine j_sub (lv' := [(0, vR E l0), (1, vR E l1), (3, vI l3), (4, vI l4), (5, vI l5), (6, vI l6), (8, vI l8)]) [0, 1, 2, 3, 4, 5, 6] rfl ?_
    exact jb_X0_solve_219 hc hm hr hh hk9 cl3 cl4 cl5 cl6 cl8 (wlit 0 (by decide)) h
  · replace h := h.2 q75
    refine j_iconst hc dX0_solve_214 ?_
    refine j_goto (tgt := 219) hc dX0_solve_215 (by decide) ?_
    refine j_sub (lv' := [(0, vR E l0), (1, vR E l1), (3, vI l3), (4, vI l4), (5, vI l5), (6, vI l6), (8, vI l8)]) [0, 1, 2, 3, 4, 5, 6] rfl ?_
    exact jb_X0_solve_219 hc hm hr hh hk9 cl3 cl4 cl5 cl6 cl8 (wlit 1 (by decide)) h
set_option maxRecDepth 20000 in
theorem jb_X0_solve_199 {X : jj_X} {E : ev_E} {n0 hN : Nat} (hc : Cx X E cX0_solve 12 n0 hN RX0) (hm : eM E = 1) (hr : (xT X).sig.returnType = (some .boolean)) (hh : 2 ≤ hN) {Q : Int → st_S → Prop} {k9 : Nat → Nat → Int → Int → Int → Int → st_S → Prop} (hk9 : ∀ {l0 : Nat} {l1 : Nat} {l3 : Int} {l4 : Int} {l5 : Int} {l6 : Int} (cl3 : wr l3 = l3) (cl4 : wr l4 = l4) (cl5 : wr l5 = l5) (cl6 : wr l6 = l6) {σ : st_S}, k9 l0 l1 l3 l4 l5 l6 σ → J X E 12 n0 0 0 (MQ (xB X) (qI E (n0 + 0) Q) (xA X) (xS X) 0 0 (eF E)) σ 9 [(0, vR E l0), (1, vR E l1), (3, vI l3), (4, vI l4), (5, vI l5), (6, vI l6)] []) {l0 : Nat} {l1 : Nat} {l3 : Int} {l4 : Int} {l5 : Int} {l6 : Int} {l7 : Int} {l8 : Int} {v0 : Int} (cl3 : wr l3 = l3) (cl4 : wr l4 = l4) (cl5 : wr l5 = l5) (cl6 : wr l6 = l6) (cl7 : wr l7 = l7) (cl8 : wr l8 = l8) (cv0 : wr v0 = v0) {σ : st_S} (h : B_X0_solve_199 Q k9 l0 l1 l3 l4 l5 l6 l7 l8 v0 σ) : J X E 12 n0 0 0 (MQ (xB X) (qI E (n0 + 0) Q) (xA X) (xS X) 0 0 (eF E)) σ 199 [(0, vR E l0), (1, vR E l1), (3, vI l3), (4, vI l4), (5, vI l5), (6, vI l6), (7, vI l7), (8, vI l8)] [vI v0] := by
  have hh1 : 1 ≤ hN := by omega
  replace h : (¬ l7 = 11 → B_X0_solve_211 Q k9 l0 l1 l3 l4 l5 l6 l8 0 v0 σ) ∧ (l7 = 11 → B_X0_solve_211 Q k9 l0 l1 l3 l4 l5 l6 l8 1 v0 σ) := h
  refine j_iload hc 6 dX0_solve_199 rfl ?_
  refine j_bipush hc dX0_solve_201 (by decide) ?_
  refine j_ic_ne hc cl7 (wlit 11 (by decide)) (tgt := 210) dX0_solve_203 (by decide) (fun q76 => ?_) (fun q76 => ?_)
  · replace h := h.1 q76
    refine j_iconst hc dX0_solve_210 ?_
    refine j_sub (lv' := [(0, vR E l0), (1, vR E l1), (3, vI l3), (4, vI l4), (5, vI l5), (6, vI l6), (8, vI l8)]) [0, 1, 2, 3, 4, 5, 7] rfl ?_
    exact jb_X0_solve_211 hc hm hr hh hk9 cl3 cl4 cl5 cl6 cl8 (wlit 0 (by decide)) h
  · replace h := h.2 q76
    refine j_iconst hc dX0_solve_206 ?_
    refine j_goto (tgt := 211) hc dX0_solve_207 (by decide) ?_
    refine j_sub (lv' := [(0, vR E l0), (1, vR E l1), (3, vI l3), (4, vI l4), (5, vI l5), (6, vI l6), (8, vI l8)]) [0, 1, 2, 3, 4, 5, 7] rfl ?_
    exact jb_X0_solve_211 hc hm hr hh hk9 cl3 cl4 cl5 cl6 cl8 (wlit 1 (by decide)) h
set_option maxRecDepth 20000 in
theorem jb_X0_solve_188 {X : jj_X} {E : ev_E} {n0 hN : Nat} (hc : Cx X E cX0_solve 12 n0 hN RX0) (hm : eM E = 1) (hr : (xT X).sig.returnType = (some .boolean)) (hh : 2 ≤ hN) {Q : Int → st_S → Prop} {k9 : Nat → Nat → Int → Int → Int → Int → st_S → Prop} (hk9 : ∀ {l0 : Nat} {l1 : Nat} {l3 : Int} {l4 : Int} {l5 : Int} {l6 : Int} (cl3 : wr l3 = l3) (cl4 : wr l4 = l4) (cl5 : wr l5 = l5) (cl6 : wr l6 = l6) {σ : st_S}, k9 l0 l1 l3 l4 l5 l6 σ → J X E 12 n0 0 0 (MQ (xB X) (qI E (n0 + 0) Q) (xA X) (xS X) 0 0 (eF E)) σ 9 [(0, vR E l0), (1, vR E l1), (3, vI l3), (4, vI l4), (5, vI l5), (6, vI l6)] []) {l0 : Nat} {l1 : Nat} {l3 : Int} {l4 : Int} {l5 : Int} {l6 : Int} {l7 : Int} {l8 : Int} {l9 : Int} (cl3 : wr l3 = l3) (cl4 : wr l4 = l4) (cl5 : wr l5 = l5) (cl6 : wr l6 = l6) (cl7 : wr l7 = l7) (cl8 : wr l8 = l8) (cl9 : wr l9 = l9) {σ : st_S} (h : B_X0_solve_188 Q k9 l0 l1 l3 l4 l5 l6 l7 l8 l9 σ) : J X E 12 n0 0 0 (MQ (xB X) (qI E (n0 + 0) Q) (xA X) (xS X) 0 0 (eF E)) σ 188 [(0, vR E l0), (1, vR E l1), (3, vI l3), (4, vI l4), (5, vI l5), (6, vI l6), (7, vI l7), (8, vI l8), (9, vI l9)] [] := by
  have hh1 : 1 ≤ hN := by omega
  replace h : (¬ l9 = 1 → B_X0_solve_199 Q k9 l0 l1 l3 l4 l5 l6 l7 l8 0 σ) ∧ (l9 = 1 → B_X0_solve_199 Q k9 l0 l1 l3 l4 l5 l6 l7 l8 1 σ) := h
  refine j_iload hc 8 dX0_solve_188 rfl ?_
  refine j_iconst hc dX0_solve_190 ?_
  refine j_ic_ne hc cl9 (wlit 1 (by decide)) (tgt := 198) dX0_solve_191 (by decide) (fun q77 => ?_) (fun q77 => ?_)
  · replace h := h.1 q77
    refine j_iconst hc dX0_solve_198 ?_
    refine j_sub (lv' := [(0, vR E l0), (1, vR E l1), (3, vI l3), (4, vI l4), (5, vI l5), (6, vI l6), (7, vI l7), (8, vI l8)]) [0, 1, 2, 3, 4, 5, 6, 7] rfl ?_
    exact jb_X0_solve_199 hc hm hr hh hk9 cl3 cl4 cl5 cl6 cl7 cl8 (wlit 0 (by decide)) h
  · replace h := h.2 q77
    refine j_iconst hc dX0_solve_194 ?_
    refine j_goto (tgt := 199) hc dX0_solve_195 (by decide) ?_
    refine j_sub (lv' := [(0, vR E l0), (1, vR E l1), (3, vI l3), (4, vI l4), (5, vI l5), (6, vI l6), (7, vI l7), (8, vI l8)]) [0, 1, 2, 3, 4, 5, 6, 7] rfl ?_
    exact jb_X0_solve_199 hc hm hr hh hk9 cl3 cl4 cl5 cl6 cl7 cl8 (wlit 1 (by decide)) h
set_option maxRecDepth 20000 in
theorem jb_X0_solve_291 {X : jj_X} {E : ev_E} {n0 hN : Nat} (hc : Cx X E cX0_solve 12 n0 hN RX0) (hm : eM E = 1) (hr : (xT X).sig.returnType = (some .boolean)) (hh : 2 ≤ hN) {Q : Int → st_S → Prop} {σ : st_S} (h : B_X0_solve_291 Q σ) : J X E 12 n0 0 0 (MQ (xB X) (qI E (n0 + 0) Q) (xA X) (xS X) 0 0 (eF E)) σ 291 [] [] := by
  have hh1 : 1 ≤ hN := by omega
  replace h : Q 0 σ := h
  refine j_iconst hc dX0_solve_291 ?_
  exact j_zret hc hr (nar_bool (Or.inl rfl)) (by decide) h dX0_solve_292
set_option maxRecDepth 20000 in
theorem jb_X0_solve_135 {X : jj_X} {E : ev_E} {n0 hN : Nat} (hc : Cx X E cX0_solve 12 n0 hN RX0) (hm : eM E = 1) (hr : (xT X).sig.returnType = (some .boolean)) (hh : 2 ≤ hN) {Q : Int → st_S → Prop} {k9 : Nat → Nat → Int → Int → Int → Int → st_S → Prop} (hk9 : ∀ {l0 : Nat} {l1 : Nat} {l3 : Int} {l4 : Int} {l5 : Int} {l6 : Int} (cl3 : wr l3 = l3) (cl4 : wr l4 = l4) (cl5 : wr l5 = l5) (cl6 : wr l6 = l6) {σ : st_S}, k9 l0 l1 l3 l4 l5 l6 σ → J X E 12 n0 0 0 (MQ (xB X) (qI E (n0 + 0) Q) (xA X) (xS X) 0 0 (eF E)) σ 9 [(0, vR E l0), (1, vR E l1), (3, vI l3), (4, vI l4), (5, vI l5), (6, vI l6)] []) {l0 : Nat} {l1 : Nat} {l3 : Int} {l4 : Int} {l5 : Int} {l6 : Int} {l7 : Int} {l8 : Int} {v0 : Int} {v1 : Int} (cl3 : wr l3 = l3) (cl4 : wr l4 = l4) (cl5 : wr l5 = l5) (cl6 : wr l6 = l6) (cl7 : wr l7 = l7) (cl8 : wr l8 = l8) (cv0 : wr v0 = v0) {σ : st_S} (h : B_X0_solve_135 Q k9 l0 l1 l3 l4 l5 l6 l7 l8 v0 v1 σ) : J X E 12 n0 0 0 (MQ (xB X) (qI E (n0 + 0) Q) (xA X) (xS X) 0 0 (eF E)) σ 135 [(0, vR E l0), (1, vR E l1), (3, vI l3), (4, vI l4), (5, vI l5), (6, vI l6), (7, vI l7), (8, vI l8)] [vI v0, vI v1] := by
  have hh1 : 1 ≤ hN := by omega
  replace h : (v0 ≤ wr v1 → gK σ l0 = 16 + 0 ∧ ix (wr (l4 - 1)) 64 ∧ ∀ x81 : Int, x81 = gI σ (l0 + 2) (Int.toNat (wr (l4 - 1))) → (¬ l7 = 10 → (l7 = 11 → B_X0_solve_188 Q k9 l0 l1 l3 l4 l5 l6 l7 l8 x81 σ) ∧ (¬ l7 = 11 → (¬ l7 = 12 → ix (wr (l4 - 2)) 64 ∧ wp_X0_join l7 (gI σ (l0 + 2) (Int.toNat (wr (l4 - 2)))) x81 σ (fun r84 s85 => (p_cmp r84 (-1000000000) < 0 → B_X0_solve_291 Q s85) ∧ (¬ p_cmp r84 (-1000000000) < 0 → (p_cmp r84 1000000000 ≤ 0 → ∀ x86 : Int, x86 = wr (l4 + (-1)) → gK s85 l0 = 16 + 0 ∧ ix (wr (x86 - 1)) 64 ∧ ∀ s89 : st_S, s89 = sI s85 (l0 + 2) (Int.toNat (wr (x86 - 1))) (o_l2i r84) → B_X0_solve_308 Q k9 l0 l1 l3 x86 l5 l6 s89) ∧ (¬ p_cmp r84 1000000000 ≤ 0 → B_X0_solve_291 Q s85)))) ∧ (l7 = 12 → B_X0_solve_188 Q k9 l0 l1 l3 l4 l5 l6 l7 l8 x81 σ))) ∧ (l7 = 10 → ∀ x94 : Int, x94 = wr (1 - x81) → ix (wr (l4 - 1)) 64 ∧ ∀ s96 : st_S, s96 = sI σ (l0 + 2) (Int.toNat (wr (l4 - 1))) x94 → B_X0_solve_308 Q k9 l0 l1 l3 l4 l5 l6 s96)) ∧ (¬ v0 ≤ wr v1 → Q 0 σ) := h
  refine j_ic_ge hc rfl cv0 (tgt := 140) dX0_solve_135 (by decide) (fun q98 => ?_) (fun q98 => ?_)
  · replace h := h.1 q98
    refine j_aload_nR hc 0 dX0_solve_140 rfl rfl ?_
    obtain ⟨f78, h⟩ := h
    refine j_getR (c' := (l0 + 2)) hc fl_RX0_13 rfl rfl (fun _ => f78) dX0_solve_141 ?_
    refine j_iload hc 3 dX0_solve_144 rfl ?_
    refine j_iconst hc dX0_solve_146 ?_
    refine j_isub hc dX0_solve_147 ?_
    obtain ⟨b79, h⟩ := h
    refine j_iald (jn := (Int.toNat (wr (l4 - 1)))) hc (fun hv => sv_b hv f78 (by decide) rfl) rfl b79 rfl dX0_solve_148 (fun cn80 => ?_)
    refine j_c cn80 (fun x81 ex81 cx81 => ?_)
    replace h := h x81 ex81
    refine j_istore (lv' := [(9, vI x81), (0, vR E l0), (1, vR E l1), (3, vI l3), (4, vI l4), (5, vI l5), (6, vI l6), (7, vI l7), (8, vI l8)]) hc dX0_solve_149 (by decide) rfl ?_
    refine j_iload hc 7 dX0_solve_151 rfl ?_
    refine j_bipush hc dX0_solve_153 (by decide) ?_
    refine j_ic_ne hc cl7 (wlit 10 (by decide)) (tgt := 174) dX0_solve_155 (by decide) (fun q97 => ?_) (fun q97 => ?_)
    · replace h := h.1 q97
      refine j_iload hc 7 dX0_solve_174 rfl ?_
      refine j_bipush hc dX0_solve_176 (by decide) ?_
      refine j_ic_eq hc cl7 (wlit 11 (by decide)) (tgt := 188) dX0_solve_178 (by decide) (fun q93 => ?_) (fun q93 => ?_)
      · replace h := h.1 q93
        refine j_sub (lv' := [(0, vR E l0), (1, vR E l1), (3, vI l3), (4, vI l4), (5, vI l5), (6, vI l6), (7, vI l7), (8, vI l8), (9, vI x81)]) [1, 2, 3, 4, 5, 6, 7, 8, 0] rfl ?_
        exact jb_X0_solve_188 hc hm hr hh hk9 cl3 cl4 cl5 cl6 cl7 cl8 cx81 h
      · replace h := h.2 q93
        refine j_iload hc 7 dX0_solve_181 rfl ?_
        refine j_bipush hc dX0_solve_183 (by decide) ?_
        refine j_ic_ne hc cl7 (wlit 12 (by decide)) (tgt := 253) dX0_solve_185 (by decide) (fun q92 => ?_) (fun q92 => ?_)
        · replace h := h.1 q92
          refine j_iload hc 7 dX0_solve_253 rfl ?_
          refine j_aload_nR hc 1 dX0_solve_255 rfl rfl ?_
          refine j_getR (c' := (l0 + 2)) hc fl_RX0_13 rfl rfl (fun _ => f78) dX0_solve_256 ?_
          refine j_iload hc 4 dX0_solve_259 rfl ?_
          refine j_iconst hc dX0_solve_261 ?_
          refine j_isub hc dX0_solve_262 ?_
          obtain ⟨b82, h⟩ := h
          refine j_iald (jn := (Int.toNat (wr (l4 - 2)))) hc (fun hv => sv_b hv f78 (by decide) rfl) rfl b82 rfl dX0_solve_263 (fun cn83 => ?_)
          refine j_i2l hc cn83 dX0_solve_264 ?_
          refine j_iload hc 0 dX0_solve_265 rfl ?_
          refine j_i2l hc cx81 dX0_solve_267 ?_
          refine j_sL hc ml_RX0_26 mv_X0_join (As := [vI l7, vL (gI σ (l0 + 2) (Int.toNat (wr (l4 - 2)))), vL x81]) (c_X0_join (cx_E hc) hm cl7 (cn_wl cn83) (cn_wl cx81) h) rfl (by omega) (by decide) ⟨Nat.zero_le _, Nat.zero_le _⟩ (Nat.le_of_ble_eq_true rfl) rfl dX0_solve_268 (fun r84 s85 cr84 h => ?_)
          refine j_lstore (lv' := [(10, vL r84), (9, vI x81), (0, vR E l0), (1, vR E l1), (3, vI l3), (4, vI l4), (5, vI l5), (6, vI l6), (7, vI l7), (8, vI l8)]) hc dX0_solve_271 (by decide) rfl ?_
          refine j_lload hc 0 dX0_solve_273 rfl ?_
          refine j_ldc2 (x := (-1000000000)) hc (by decide) kl_RX0_30 dX0_solve_275 ?_
          refine j_lcmp hc dX0_solve_278 ?_
          refine j_if_lt hc (cn_cmp _ _) (tgt := 291) dX0_solve_279 (by decide) (fun q91 => ?_) (fun q91 => ?_)
          · replace h := h.1 q91
            refine j_sub (lv' := []) [] rfl ?_
            exact jb_X0_solve_291 hc hm hr hh h
          · replace h := h.2 q91
            refine j_lload hc 0 dX0_solve_282 rfl ?_
            refine j_ldc2 (x := 1000000000) hc (by decide) kl_RX0_32 dX0_solve_284 ?_
            refine j_lcmp hc dX0_solve_287 ?_
            refine j_if_le hc (cn_cmp _ _) (tgt := 293) dX0_solve_288 (by decide) (fun q90 => ?_) (fun q90 => ?_)
            · replace h := h.1 q90
              obtain ⟨x86, ex86⟩ : ∃ y : Int, y = wr (l4 + (-1)) := ⟨_, rfl⟩
              have cx86 : wr x86 = x86 := by rw [ex86]; exact wr_wr _
              replace h := h x86 ex86
              refine j_iinc (lv' := [(4, vI x86), (10, vL r84), (9, vI x81), (0, vR E l0), (1, vR E l1), (3, vI l3), (5, vI l5), (6, vI l6), (7, vI l7), (8, vI l8)]) hc 5 dX0_solve_293 rfl (by decide) ex86 rfl ?_
              refine j_aload_nR hc 3 dX0_solve_296 rfl rfl ?_
              obtain ⟨f87, h⟩ := h
              refine j_getR (c' := (l0 + 2)) hc fl_RX0_13 rfl rfl (fun _ => f87) dX0_solve_297 ?_
              refine j_iload hc 0 dX0_solve_300 rfl ?_
              refine j_iconst hc dX0_solve_302 ?_
              refine j_isub hc dX0_solve_303 ?_
              refine j_lload hc 1 dX0_solve_304 rfl ?_
              refine j_l2i hc dX0_solve_306 ?_
              obtain ⟨b88, h⟩ := h
              refine j_iast (jn := (Int.toNat (wr (x86 - 1)))) hc (fun hv => sv_b hv f87 (by decide) rfl) rfl b88 rfl (cn_l2i _) dX0_solve_307 (fun s89 es89 => ?_)
              replace h := h s89 es89
              refine j_sub (lv' := [(0, vR E l0), (1, vR E l1), (3, vI l3), (4, vI x86), (5, vI l5), (6, vI l6)]) [3, 4, 5, 0, 6, 7] rfl ?_
              exact jb_X0_solve_308 hc hm hr hh hk9 cl3 cx86 cl5 cl6 h
            · replace h := h.2 q90
              refine j_sub (lv' := []) [] rfl ?_
              exact jb_X0_solve_291 hc hm hr hh h
        · replace h := h.2 q92
          refine j_sub (lv' := [(0, vR E l0), (1, vR E l1), (3, vI l3), (4, vI l4), (5, vI l5), (6, vI l6), (7, vI l7), (8, vI l8), (9, vI x81)]) [1, 2, 3, 4, 5, 6, 7, 8, 0] rfl ?_
          exact jb_X0_solve_188 hc hm hr hh hk9 cl3 cl4 cl5 cl6 cl7 cl8 cx81 h
    · replace h := h.2 q97
      refine j_aload_nR hc 1 dX0_solve_158 rfl rfl ?_
      refine j_getR (c' := (l0 + 2)) hc fl_RX0_13 rfl rfl (fun _ => f78) dX0_solve_159 ?_
      refine j_iload hc 4 dX0_solve_162 rfl ?_
      refine j_iconst hc dX0_solve_164 ?_
      refine j_isub hc dX0_solve_165 ?_
      refine j_iconst hc dX0_solve_166 ?_
      refine j_iload hc 0 dX0_solve_167 rfl ?_
      refine j_isub hc dX0_solve_169 ?_
      refine j_w (fun x94 ex94 cx94 => ?_)
      replace h := h x94 ex94
      obtain ⟨b95, h⟩ := h
      refine j_iast (jn := (Int.toNat (wr (l4 - 1)))) hc (fun hv => sv_b hv f78 (by decide) rfl) rfl b95 rfl cx94 dX0_solve_170 (fun s96 es96 => ?_)
      replace h := h s96 es96
      refine j_goto (tgt := 308) hc dX0_solve_171 (by decide) ?_
      refine j_sub (lv' := [(0, vR E l0), (1, vR E l1), (3, vI l3), (4, vI l4), (5, vI l5), (6, vI l6)]) [1, 2, 3, 4, 5, 6] rfl ?_
      exact jb_X0_solve_308 hc hm hr hh hk9 cl3 cl4 cl5 cl6 h
  · replace h := h.2 q98
    refine j_iconst hc dX0_solve_138 ?_
    exact j_zret hc hr (nar_bool (Or.inl rfl)) (by decide) h dX0_solve_139
set_option maxRecDepth 20000 in
theorem jb_X0_solve_333 {X : jj_X} {E : ev_E} {n0 hN : Nat} (hc : Cx X E cX0_solve 12 n0 hN RX0) (hm : eM E = 1) (hr : (xT X).sig.returnType = (some .boolean)) (hh : 2 ≤ hN) {Q : Int → st_S → Prop} {v0 : Int} {v1 : Nat} (cv0 : wr v0 = v0) {σ : st_S} (h : B_X0_solve_333 Q v0 v1 σ) : J X E 12 n0 0 0 (MQ (xB X) (qI E (n0 + 0) Q) (xA X) (xS X) 0 0 (eF E)) σ 333 [] [vI v0, vR E v1] := by
  have hh1 : 1 ≤ hN := by omega
  replace h : gK σ v1 = 16 + 0 ∧ ∀ s100 : st_S, s100 = sI σ v1 1 v0 → Q 1 s100 := h
  obtain ⟨f99, h⟩ := h
  refine j_putI hc fl_RX0_34 rfl rfl (fun _ => Or.inl f99) cv0 dX0_solve_333 (fun s100 es100 => ?_)
  replace h := h s100 es100
  refine j_iconst hc dX0_solve_336 ?_
  exact j_zret hc hr (nar_bool (Or.inr rfl)) (by decide) h dX0_solve_337
set_option maxRecDepth 20000 in
theorem jb_X0_solve_314 {X : jj_X} {E : ev_E} {n0 hN : Nat} (hc : Cx X E cX0_solve 12 n0 hN RX0) (hm : eM E = 1) (hr : (xT X).sig.returnType = (some .boolean)) (hh : 2 ≤ hN) {Q : Int → st_S → Prop} {l0 : Nat} {l4 : Int} (cl4 : wr l4 = l4) {σ : st_S} (h : B_X0_solve_314 Q l0 l4 σ) : J X E 12 n0 0 0 (MQ (xB X) (qI E (n0 + 0) Q) (xA X) (xS X) 0 0 (eF E)) σ 314 [(0, vR E l0), (4, vI l4)] [] := by
  have hh1 : 1 ≤ hN := by omega
  replace h : (l4 ≤ 0 → B_X0_solve_333 Q 0 l0 σ) ∧ (¬ l4 ≤ 0 → gK σ l0 = 16 + 0 ∧ ix (wr (l4 - 1)) 64 ∧ B_X0_solve_333 Q (gI σ (l0 + 2) (Int.toNat (wr (l4 - 1)))) l0 σ) := h
  refine j_aload_nR hc 0 dX0_solve_314 rfl rfl ?_
  refine j_iload hc 1 dX0_solve_315 rfl ?_
  refine j_if_le hc cl4 (tgt := 332) dX0_solve_317 (by decide) (fun q104 => ?_) (fun q104 => ?_)
  · replace h := h.1 q104
    refine j_iconst hc dX0_solve_332 ?_
    refine j_sub (lv' := []) [] rfl ?_
    exact jb_X0_solve_333 hc hm hr hh (wlit 0 (by decide)) h
  · replace h := h.2 q104
    refine j_aload_nR hc 0 dX0_solve_320 rfl rfl ?_
    obtain ⟨f101, h⟩ := h
    refine j_getR (c' := (l0 + 2)) hc fl_RX0_13 rfl rfl (fun _ => f101) dX0_solve_321 ?_
    refine j_iload hc 1 dX0_solve_324 rfl ?_
    refine j_iconst hc dX0_solve_326 ?_
    refine j_isub hc dX0_solve_327 ?_
    obtain ⟨b102, h⟩ := h
    refine j_iald (jn := (Int.toNat (wr (l4 - 1)))) hc (fun hv => sv_b hv f101 (by decide) rfl) rfl b102 rfl dX0_solve_328 (fun cn103 => ?_)
    refine j_goto (tgt := 333) hc dX0_solve_329 (by decide) ?_
    refine j_sub (lv' := []) [] rfl ?_
    exact jb_X0_solve_333 hc hm hr hh cn103 h
set_option maxRecDepth 20000 in
theorem jl_X0_solve_9 {X : jj_X} {E : ev_E} {n0 hN : Nat} (hc : Cx X E cX0_solve 12 n0 hN RX0) (hm : eM E = 1) (hr : (xT X).sig.returnType = (some .boolean)) (hh : 2 ≤ hN) {Q : Int → st_S → Prop} : ∀ (n : Nat) {l0 : Nat} {l1 : Nat} {l3 : Int} {l4 : Int} {l5 : Int} {l6 : Int} (cl3 : wr l3 = l3) (cl4 : wr l4 = l4) (cl5 : wr l5 = l5) (cl6 : wr l6 = l6) {σ : st_S}, L_X0_solve_9 Q n l0 l1 l3 l4 l5 l6 σ → J X E 12 n0 0 0 (MQ (xB X) (qI E (n0 + 0) Q) (xA X) (xS X) 0 0 (eF E)) σ 9 [(0, vR E l0), (1, vR E l1), (3, vI l3), (4, vI l4), (5, vI l5), (6, vI l6)] [] := by
  have hh1 : 1 ≤ hN := by omega
  intro n
  induction n with
  | zero => intro l0 l1 l3 l4 l5 l6 cl3 cl4 cl5 cl6 σ h; exact h.elim
  | succ n ih =>
    intro l0 l1 l3 l4 l5 l6 cl3 cl4 cl5 cl6 σ h
    have hk9 : ∀ {l0 : Nat} {l1 : Nat} {l3 : Int} {l4 : Int} {l5 : Int} {l6 : Int} (cl3 : wr l3 = l3) (cl4 : wr l4 = l4) (cl5 : wr l5 = l5) (cl6 : wr l6 = l6) {σ : st_S}, L_X0_solve_9 Q n l0 l1 l3 l4 l5 l6 σ → J X E 12 n0 0 0 (MQ (xB X) (qI E (n0 + 0) Q) (xA X) (xS X) 0 0 (eF E)) σ 9 [(0, vR E l0), (1, vR E l1), (3, vI l3), (4, vI l4), (5, vI l5), (6, vI l6)] [] := ih
    replace h : (l3 ≤ l6 → B_X0_solve_314 Q l0 l4 σ) ∧ (¬ l3 ≤ l6 → gK σ l1 = 16 + 9 ∧ (gI σ l1 6 ≤ l6 → B_X0_solve_314 Q l0 l4 σ) ∧ (¬ gI σ l1 6 ≤ l6 → (l5 ≤ l6 → ix l6 (gL σ (l1 + 1)) ∧ ∀ x109 : Int, x109 = o_shr (gI σ (l1 + 1) (Int.toNat l6)) 16 → ix l6 (gL σ (l1 + 1)) ∧ ∀ x112 : Int, x112 = o_and (gI σ (l1 + 1) (Int.toNat l6)) 65535 → (x109 = 0 → B_X0_solve_69 Q (L_X0_solve_9 Q n) l0 l1 l3 l4 l5 l6 x109 x112 σ) ∧ (¬ x109 = 0 → (¬ x109 = 1 → (10 ≤ x109 → B_X0_solve_135 Q (L_X0_solve_9 Q n) l0 l1 l3 l4 l5 l6 x109 x112 1 l4 σ) ∧ (¬ 10 ≤ x109 → B_X0_solve_135 Q (L_X0_solve_9 Q n) l0 l1 l3 l4 l5 l6 x109 x112 2 l4 σ)) ∧ (x109 = 1 → B_X0_solve_69 Q (L_X0_solve_9 Q n) l0 l1 l3 l4 l5 l6 x109 x112 σ))) ∧ (¬ l5 ≤ l6 → B_X0_solve_308 Q (L_X0_solve_9 Q n) l0 l1 l3 l4 l5 l6 σ))) := h
    refine j_iload hc 5 dX0_solve_9 rfl ?_
    refine j_iload_n hc 2 dX0_solve_11 rfl rfl ?_
    refine j_ic_ge hc cl6 cl3 (tgt := 314) dX0_solve_12 (by decide) (fun q118 => ?_) (fun q118 => ?_)
    · replace h := h.1 q118
      refine j_sub (lv' := [(0, vR E l0), (4, vI l4)]) [0, 3] rfl ?_
      exact jb_X0_solve_314 hc hm hr hh cl4 h
    · replace h := h.2 q118
      refine j_iload hc 5 dX0_solve_15 rfl ?_
      refine j_aload_nR hc 1 dX0_solve_17 rfl rfl ?_
      obtain ⟨f105, h⟩ := h
      refine j_getI hc fl_RX0_16 (Or.inl rfl) (fun _ => Or.inl f105) dX0_solve_18 (fun cn106 => ?_)
      refine j_ic_ge hc cl6 cn106 (tgt := 314) dX0_solve_21 (by decide) (fun q117 => ?_) (fun q117 => ?_)
      · replace h := h.1 q117
        refine j_sub (lv' := [(0, vR E l0), (4, vI l4)]) [0, 3] rfl ?_
        exact jb_X0_solve_314 hc hm hr hh cl4 h
      · replace h := h.2 q117
        refine j_iload hc 5 dX0_solve_24 rfl ?_
        refine j_iload hc 4 dX0_solve_26 rfl ?_
        refine j_ic_ge hc cl6 cl5 (tgt := 34) dX0_solve_28 (by decide) (fun q116 => ?_) (fun q116 => ?_)
        · replace h := h.1 q116
          refine j_aload_nR hc 1 dX0_solve_34 rfl rfl ?_
          refine j_getR (c' := (l1 + 1)) hc fl_RX0_22 rfl rfl (fun _ => f105) dX0_solve_35 ?_
          refine j_iload hc 5 dX0_solve_38 rfl ?_
          obtain ⟨b107, h⟩ := h
          refine j_iald (jn := (Int.toNat l6)) hc (fun hv => sv_bn hv f105 (by decide) rfl) cl6 b107 rfl dX0_solve_40 (fun cn108 => ?_)
          refine j_bipush hc dX0_solve_41 (by decide) ?_
          refine j_ishr hc dX0_solve_43 ?_
          refine j_c (cn_shr _ _) (fun x109 ex109 cx109 => ?_)
          replace h := h x109 ex109
          refine j_istore (lv' := [(7, vI x109), (0, vR E l0), (1, vR E l1), (3, vI l3), (4, vI l4), (5, vI l5), (6, vI l6)]) hc dX0_solve_44 (by decide) rfl ?_
          refine j_aload_nR hc 2 dX0_solve_46 rfl rfl ?_
          refine j_getR (c' := (l1 + 1)) hc fl_RX0_22 rfl rfl (fun _ => f105) dX0_solve_47 ?_
          refine j_iload hc 6 dX0_solve_50 rfl ?_
          obtain ⟨b110, h⟩ := h
          refine j_iald (jn := (Int.toNat l6)) hc (fun hv => sv_bn hv f105 (by decide) rfl) cl6 b110 rfl dX0_solve_52 (fun cn111 => ?_)
          refine j_ldc (x := 65535) hc (by decide) kc_RX0_25 dX0_solve_53 ?_
          refine j_iand hc dX0_solve_55 ?_
          refine j_c (cn_and _ _) (fun x112 ex112 cx112 => ?_)
          replace h := h x112 ex112
          refine j_istore (lv' := [(8, vI x112), (7, vI x109), (0, vR E l0), (1, vR E l1), (3, vI l3), (4, vI l4), (5, vI l5), (6, vI l6)]) hc dX0_solve_56 (by decide) rfl ?_
          refine j_iload hc 1 dX0_solve_58 rfl ?_
          refine j_if_eq hc cx109 (tgt := 69) dX0_solve_60 (by decide) (fun q115 => ?_) (fun q115 => ?_)
          · replace h := h.1 q115
            refine j_sub (lv' := [(0, vR E l0), (1, vR E l1), (3, vI l3), (4, vI l4), (5, vI l5), (6, vI l6), (7, vI x109), (8, vI x112)]) [2, 3, 4, 5, 6, 7, 1, 0] rfl ?_
            exact jb_X0_solve_69 hc hm hr hh hk9 cl3 cl4 cl5 cl6 cx109 cx112 h
          · replace h := h.2 q115
            refine j_iload hc 1 dX0_solve_63 rfl ?_
            refine j_iconst hc dX0_solve_65 ?_
            refine j_ic_ne hc cx109 (wlit 1 (by decide)) (tgt := 121) dX0_solve_66 (by decide) (fun q114 => ?_) (fun q114 => ?_)
            · replace h := h.1 q114
              refine j_iload hc 5 dX0_solve_121 rfl ?_
              refine j_iload hc 1 dX0_solve_123 rfl ?_
              refine j_bipush hc dX0_solve_125 (by decide) ?_
              refine j_ic_ge hc cx109 (wlit 10 (by decide)) (tgt := 134) dX0_solve_127 (by decide) (fun q113 => ?_) (fun q113 => ?_)
              · replace h := h.1 q113
                refine j_iconst hc dX0_solve_134 ?_
                refine j_sub (lv' := [(0, vR E l0), (1, vR E l1), (3, vI l3), (4, vI l4), (5, vI l5), (6, vI l6), (7, vI x109), (8, vI x112)]) [2, 3, 4, 5, 6, 7, 1, 0] rfl ?_
                exact jb_X0_solve_135 hc hm hr hh hk9 cl3 cl4 cl5 cl6 cx109 cx112 (wlit 1 (by decide)) h
              · replace h := h.2 q113
                refine j_iconst hc dX0_solve_130 ?_
                refine j_goto (tgt := 135) hc dX0_solve_131 (by decide) ?_
                refine j_sub (lv' := [(0, vR E l0), (1, vR E l1), (3, vI l3), (4, vI l4), (5, vI l5), (6, vI l6), (7, vI x109), (8, vI x112)]) [2, 3, 4, 5, 6, 7, 1, 0] rfl ?_
                exact jb_X0_solve_135 hc hm hr hh hk9 cl3 cl4 cl5 cl6 cx109 cx112 (wlit 2 (by decide)) h
            · replace h := h.2 q114
              refine j_sub (lv' := [(0, vR E l0), (1, vR E l1), (3, vI l3), (4, vI l4), (5, vI l5), (6, vI l6), (7, vI x109), (8, vI x112)]) [2, 3, 4, 5, 6, 7, 1, 0] rfl ?_
              exact jb_X0_solve_69 hc hm hr hh hk9 cl3 cl4 cl5 cl6 cx109 cx112 h
        · replace h := h.2 q116
          refine j_goto (tgt := 308) hc dX0_solve_31 (by decide) ?_
          refine j_sub (lv' := [(0, vR E l0), (1, vR E l1), (3, vI l3), (4, vI l4), (5, vI l5), (6, vI l6)]) [0, 1, 2, 3, 4, 5] rfl ?_
          exact jb_X0_solve_308 hc hm hr hh hk9 cl3 cl4 cl5 cl6 h
set_option maxRecDepth 20000 in
theorem c_X0_solve {l : Launch} {E : ev_E} (hE : Eok E) (hm : eM E = 1) {t : Nat} {a1 : Nat} {a2 : Int} {a3 : Int} (ca2 : wr a2 = a2) (ca3 : wr a3 = a3) {σ : st_S} {Q : Int → st_S → Prop} (h : wp_X0_solve t a1 a2 a3 σ Q) : cM l yX0_solve cX0_solve 12 (some .boolean) E 2 0 0 [vR E t, vR E a1, vI a2, vI a3] σ (qI E (gN σ + 0) Q) := by
  refine cM_of (lv := [(0, vR E t), (1, vR E a1), (2, vI a2), (3, vI a3)]) (by decide) hE (Nat.le_of_ble_eq_true rfl) (rfl) ?_
  intro X hX hc _ _ hr _ _
  subst hX
  have hh : 2 ≤ 2 := Nat.le_refl _
  have hh1 : 1 ≤ 2 := by omega
  replace h : ∃ m9 : Nat, L_X0_solve_9 Q m9 t a1 a3 0 a2 a2 σ := h
  refine j_iconst hc dX0_solve_0 ?_
  refine j_istore (lv' := [(4, vI 0), (0, vR E t), (1, vR E a1), (2, vI a2), (3, vI a3)]) hc dX0_solve_1 (by decide) rfl ?_
  refine j_iload_n hc 3 dX0_solve_3 rfl rfl ?_
  refine j_istore (lv' := [(5, vI a2), (4, vI 0), (0, vR E t), (1, vR E a1), (2, vI a2), (3, vI a3)]) hc dX0_solve_4 (by decide) rfl ?_
  refine j_iload_n hc 4 dX0_solve_6 rfl rfl ?_
  refine j_istore (lv' := [(6, vI a2), (5, vI a2), (4, vI 0), (0, vR E t), (1, vR E a1), (2, vI a2), (3, vI a3)]) hc dX0_solve_7 (by decide) rfl ?_
  obtain ⟨n9, h⟩ := h
  refine j_sub (lv' := [(0, vR E t), (1, vR E a1), (3, vI a3), (4, vI 0), (5, vI a2), (6, vI a2)]) [3, 4, 6, 2, 1, 0] rfl ?_
  exact jl_X0_solve_9 hc hm hr hh n9 ca3 (wlit 0 (by decide)) ca2 ca2 h
-- LitStrangers$Coast.copyFrom(LLitStrangers$Coast;)V
theorem dX1_copyFrom_0 : decode cX1_copyFrom 0 = .ok (.aload_n 0, 1) := by decide +kernel
theorem dX1_copyFrom_1 : decode cX1_copyFrom 1 = .ok (.aload_n 1, 1) := by decide +kernel
theorem dX1_copyFrom_2 : decode cX1_copyFrom 2 = .ok (.getfield 46, 3) := by decide +kernel
theorem dX1_copyFrom_5 : decode cX1_copyFrom 5 = .ok (.putfield 46, 3) := by decide +kernel
theorem dX1_copyFrom_8 : decode cX1_copyFrom 8 = .ok (.aload_n 1, 1) := by decide +kernel
theorem dX1_copyFrom_9 : decode cX1_copyFrom 9 = .ok (.getfield 9, 3) := by decide +kernel
theorem dX1_copyFrom_12 : decode cX1_copyFrom 12 = .ok (.iconst 0, 1) := by decide +kernel
theorem dX1_copyFrom_13 : decode cX1_copyFrom 13 = .ok (.aload_n 0, 1) := by decide +kernel
theorem dX1_copyFrom_14 : decode cX1_copyFrom 14 = .ok (.getfield 9, 3) := by decide +kernel
theorem dX1_copyFrom_17 : decode cX1_copyFrom 17 = .ok (.iconst 0, 1) := by decide +kernel
theorem dX1_copyFrom_18 : decode cX1_copyFrom 18 = .ok (.bipush 10, 2) := by decide +kernel
theorem dX1_copyFrom_20 : decode cX1_copyFrom 20 = .ok (.invokestatic 49, 3) := by decide +kernel
theorem dX1_copyFrom_23 : decode cX1_copyFrom 23 = .ok (.aload_n 1, 1) := by decide +kernel
theorem dX1_copyFrom_24 : decode cX1_copyFrom 24 = .ok (.getfield 15, 3) := by decide +kernel
theorem dX1_copyFrom_27 : decode cX1_copyFrom 27 = .ok (.iconst 0, 1) := by decide +kernel
theorem dX1_copyFrom_28 : decode cX1_copyFrom 28 = .ok (.aload_n 0, 1) := by decide +kernel
theorem dX1_copyFrom_29 : decode cX1_copyFrom 29 = .ok (.getfield 15, 3) := by decide +kernel
theorem dX1_copyFrom_32 : decode cX1_copyFrom 32 = .ok (.iconst 0, 1) := by decide +kernel
theorem dX1_copyFrom_33 : decode cX1_copyFrom 33 = .ok (.bipush 10, 2) := by decide +kernel
theorem dX1_copyFrom_35 : decode cX1_copyFrom 35 = .ok (.invokestatic 49, 3) := by decide +kernel
theorem dX1_copyFrom_38 : decode cX1_copyFrom 38 = .ok (.aload_n 1, 1) := by decide +kernel
theorem dX1_copyFrom_39 : decode cX1_copyFrom 39 = .ok (.getfield 18, 3) := by decide +kernel
theorem dX1_copyFrom_42 : decode cX1_copyFrom 42 = .ok (.iconst 0, 1) := by decide +kernel
theorem dX1_copyFrom_43 : decode cX1_copyFrom 43 = .ok (.aload_n 0, 1) := by decide +kernel
theorem dX1_copyFrom_44 : decode cX1_copyFrom 44 = .ok (.getfield 18, 3) := by decide +kernel
theorem dX1_copyFrom_47 : decode cX1_copyFrom 47 = .ok (.iconst 0, 1) := by decide +kernel
theorem dX1_copyFrom_48 : decode cX1_copyFrom 48 = .ok (.bipush 10, 2) := by decide +kernel
theorem dX1_copyFrom_50 : decode cX1_copyFrom 50 = .ok (.invokestatic 49, 3) := by decide +kernel
theorem dX1_copyFrom_53 : decode cX1_copyFrom 53 = .ok (.aload_n 1, 1) := by decide +kernel
theorem dX1_copyFrom_54 : decode cX1_copyFrom 54 = .ok (.getfield 21, 3) := by decide +kernel
theorem dX1_copyFrom_57 : decode cX1_copyFrom 57 = .ok (.iconst 0, 1) := by decide +kernel
theorem dX1_copyFrom_58 : decode cX1_copyFrom 58 = .ok (.aload_n 0, 1) := by decide +kernel
theorem dX1_copyFrom_59 : decode cX1_copyFrom 59 = .ok (.getfield 21, 3) := by decide +kernel
theorem dX1_copyFrom_62 : decode cX1_copyFrom 62 = .ok (.iconst 0, 1) := by decide +kernel
theorem dX1_copyFrom_63 : decode cX1_copyFrom 63 = .ok (.bipush 10, 2) := by decide +kernel
theorem dX1_copyFrom_65 : decode cX1_copyFrom 65 = .ok (.invokestatic 49, 3) := by decide +kernel
theorem dX1_copyFrom_68 : decode cX1_copyFrom 68 = .ok (.aload_n 1, 1) := by decide +kernel
theorem dX1_copyFrom_69 : decode cX1_copyFrom 69 = .ok (.getfield 24, 3) := by decide +kernel
theorem dX1_copyFrom_72 : decode cX1_copyFrom 72 = .ok (.iconst 0, 1) := by decide +kernel
theorem dX1_copyFrom_73 : decode cX1_copyFrom 73 = .ok (.aload_n 0, 1) := by decide +kernel
theorem dX1_copyFrom_74 : decode cX1_copyFrom 74 = .ok (.getfield 24, 3) := by decide +kernel
theorem dX1_copyFrom_77 : decode cX1_copyFrom 77 = .ok (.iconst 0, 1) := by decide +kernel
theorem dX1_copyFrom_78 : decode cX1_copyFrom 78 = .ok (.bipush 10, 2) := by decide +kernel
theorem dX1_copyFrom_80 : decode cX1_copyFrom 80 = .ok (.invokestatic 49, 3) := by decide +kernel
theorem dX1_copyFrom_83 : decode cX1_copyFrom 83 = .ok (.aload_n 1, 1) := by decide +kernel
theorem dX1_copyFrom_84 : decode cX1_copyFrom 84 = .ok (.getfield 27, 3) := by decide +kernel
theorem dX1_copyFrom_87 : decode cX1_copyFrom 87 = .ok (.iconst 0, 1) := by decide +kernel
theorem dX1_copyFrom_88 : decode cX1_copyFrom 88 = .ok (.aload_n 0, 1) := by decide +kernel
theorem dX1_copyFrom_89 : decode cX1_copyFrom 89 = .ok (.getfield 27, 3) := by decide +kernel
theorem dX1_copyFrom_92 : decode cX1_copyFrom 92 = .ok (.iconst 0, 1) := by decide +kernel
theorem dX1_copyFrom_93 : decode cX1_copyFrom 93 = .ok (.bipush 10, 2) := by decide +kernel
theorem dX1_copyFrom_95 : decode cX1_copyFrom 95 = .ok (.invokestatic 49, 3) := by decide +kernel
theorem dX1_copyFrom_98 : decode cX1_copyFrom 98 = .ok (.aload_n 1, 1) := by decide +kernel
theorem dX1_copyFrom_99 : decode cX1_copyFrom 99 = .ok (.getfield 30, 3) := by decide +kernel
theorem dX1_copyFrom_102 : decode cX1_copyFrom 102 = .ok (.iconst 0, 1) := by decide +kernel
theorem dX1_copyFrom_103 : decode cX1_copyFrom 103 = .ok (.aload_n 0, 1) := by decide +kernel
theorem dX1_copyFrom_104 : decode cX1_copyFrom 104 = .ok (.getfield 30, 3) := by decide +kernel
theorem dX1_copyFrom_107 : decode cX1_copyFrom 107 = .ok (.iconst 0, 1) := by decide +kernel
theorem dX1_copyFrom_108 : decode cX1_copyFrom 108 = .ok (.bipush 100, 2) := by decide +kernel
theorem dX1_copyFrom_110 : decode cX1_copyFrom 110 = .ok (.invokestatic 49, 3) := by decide +kernel
theorem dX1_copyFrom_113 : decode cX1_copyFrom 113 = .ok (.aload_n 1, 1) := by decide +kernel
theorem dX1_copyFrom_114 : decode cX1_copyFrom 114 = .ok (.getfield 33, 3) := by decide +kernel
theorem dX1_copyFrom_117 : decode cX1_copyFrom 117 = .ok (.iconst 0, 1) := by decide +kernel
theorem dX1_copyFrom_118 : decode cX1_copyFrom 118 = .ok (.aload_n 0, 1) := by decide +kernel
theorem dX1_copyFrom_119 : decode cX1_copyFrom 119 = .ok (.getfield 33, 3) := by decide +kernel
theorem dX1_copyFrom_122 : decode cX1_copyFrom 122 = .ok (.iconst 0, 1) := by decide +kernel
theorem dX1_copyFrom_123 : decode cX1_copyFrom 123 = .ok (.iconst 3, 1) := by decide +kernel
theorem dX1_copyFrom_124 : decode cX1_copyFrom 124 = .ok (.invokestatic 49, 3) := by decide +kernel
theorem dX1_copyFrom_127 : decode cX1_copyFrom 127 = .ok (.iconst 0, 1) := by decide +kernel
theorem dX1_copyFrom_128 : decode cX1_copyFrom 128 = .ok (.istore_n 2, 1) := by decide +kernel
theorem dX1_copyFrom_129 : decode cX1_copyFrom 129 = .ok (.iload_n 2, 1) := by decide +kernel
theorem dX1_copyFrom_130 : decode cX1_copyFrom 130 = .ok (.bipush 6, 2) := by decide +kernel
theorem dX1_copyFrom_132 : decode cX1_copyFrom 132 = .ok (.if_icmp .ge 21, 3) := by decide +kernel
theorem dX1_copyFrom_135 : decode cX1_copyFrom 135 = .ok (.aload_n 0, 1) := by decide +kernel
theorem dX1_copyFrom_136 : decode cX1_copyFrom 136 = .ok (.getfield 38, 3) := by decide +kernel
theorem dX1_copyFrom_139 : decode cX1_copyFrom 139 = .ok (.iload_n 2, 1) := by decide +kernel
theorem dX1_copyFrom_140 : decode cX1_copyFrom 140 = .ok (.aload_n 1, 1) := by decide +kernel
theorem dX1_copyFrom_141 : decode cX1_copyFrom 141 = .ok (.getfield 38, 3) := by decide +kernel
theorem dX1_copyFrom_144 : decode cX1_copyFrom 144 = .ok (.iload_n 2, 1) := by decide +kernel
theorem dX1_copyFrom_145 : decode cX1_copyFrom 145 = .ok (.aaload, 1) := by decide +kernel
theorem dX1_copyFrom_146 : decode cX1_copyFrom 146 = .ok (.aastore, 1) := by decide +kernel
theorem dX1_copyFrom_147 : decode cX1_copyFrom 147 = .ok (.iinc 2 1, 3) := by decide +kernel
theorem dX1_copyFrom_150 : decode cX1_copyFrom 150 = .ok (.goto (-21), 3) := by decide +kernel
theorem dX1_copyFrom_153 : decode cX1_copyFrom 153 = .ok (.aload_n 0, 1) := by decide +kernel
theorem dX1_copyFrom_154 : decode cX1_copyFrom 154 = .ok (.aload_n 1, 1) := by decide +kernel
theorem dX1_copyFrom_155 : decode cX1_copyFrom 155 = .ok (.getfield 55, 3) := by decide +kernel
theorem dX1_copyFrom_158 : decode cX1_copyFrom 158 = .ok (.putfield 55, 3) := by decide +kernel
theorem dX1_copyFrom_161 : decode cX1_copyFrom 161 = .ok (.aload_n 0, 1) := by decide +kernel
theorem dX1_copyFrom_162 : decode cX1_copyFrom 162 = .ok (.aload_n 1, 1) := by decide +kernel
theorem dX1_copyFrom_163 : decode cX1_copyFrom 163 = .ok (.getfield 42, 3) := by decide +kernel
theorem dX1_copyFrom_166 : decode cX1_copyFrom 166 = .ok (.putfield 42, 3) := by decide +kernel
theorem dX1_copyFrom_169 : decode cX1_copyFrom 169 = .ok (.aload_n 0, 1) := by decide +kernel
theorem dX1_copyFrom_170 : decode cX1_copyFrom 170 = .ok (.aload_n 1, 1) := by decide +kernel
theorem dX1_copyFrom_171 : decode cX1_copyFrom 171 = .ok (.getfield 58, 3) := by decide +kernel
theorem dX1_copyFrom_174 : decode cX1_copyFrom 174 = .ok (.putfield 58, 3) := by decide +kernel
theorem dX1_copyFrom_177 : decode cX1_copyFrom 177 = .ok (.aload_n 0, 1) := by decide +kernel
theorem dX1_copyFrom_178 : decode cX1_copyFrom 178 = .ok (.aload_n 1, 1) := by decide +kernel
theorem dX1_copyFrom_179 : decode cX1_copyFrom 179 = .ok (.getfield 61, 3) := by decide +kernel
theorem dX1_copyFrom_182 : decode cX1_copyFrom 182 = .ok (.putfield 61, 3) := by decide +kernel
theorem dX1_copyFrom_185 : decode cX1_copyFrom 185 = .ok (.aload_n 0, 1) := by decide +kernel
theorem dX1_copyFrom_186 : decode cX1_copyFrom 186 = .ok (.aload_n 1, 1) := by decide +kernel
theorem dX1_copyFrom_187 : decode cX1_copyFrom 187 = .ok (.getfield 64, 3) := by decide +kernel
theorem dX1_copyFrom_190 : decode cX1_copyFrom 190 = .ok (.putfield 64, 3) := by decide +kernel
theorem dX1_copyFrom_193 : decode cX1_copyFrom 193 = .ok (.return_, 1) := by decide +kernel
def L_X1_copyFrom_129 (Q : st_S → Prop)   : Nat → Nat → Nat → Int → st_S → Prop
  | 0 => fun _ _ _ _ => False
  | n + 1 => fun l0 l1 l2 σ => (6 ≤ l2 → gK σ l1 = 16 + 1 ∧ gK σ l0 = 16 + 1 ∧ ∀ s84 : st_S, s84 = sI σ l0 10 (gI σ l1 10) → ∀ s86 : st_S, s86 = sI s84 l0 11 (gI s84 l1 11) → ∀ s88 : st_S, s88 = sI s86 l0 12 (gI s86 l1 12) → ∀ s90 : st_S, s90 = sI s88 l0 13 (gI s88 l1 13) → ∀ s92 : st_S, s92 = sI s90 l0 14 (gI s90 l1 14) → Q s92) ∧ (¬ 6 ≤ l2 → gK σ l0 = 16 + 1 ∧ gK σ l1 = 16 + 1 ∧ ix l2 6 ∧ ix l2 6 ∧ (∀ t, gR σ (l1 + 9) (Int.toNat l2) = some t → gK σ t = 16 + 9) ∧ ∀ s97 : st_S, s97 = sR σ (l0 + 9) (Int.toNat l2) (gR σ (l1 + 9) (Int.toNat l2)) → ∀ x99 : Int, x99 = wr (l2 + 1) → (L_X1_copyFrom_129 Q n) l0 l1 x99 s97)
def wp_X1_copyFrom (t : Nat) (a1 : Nat) (σ : st_S) (Q : st_S → Prop) : Prop := gK σ a1 = 16 + 1 ∧ gK σ t = 16 + 1 ∧ ∀ s104 : st_S, s104 = sI σ t 0 (gI σ a1 0) → ∀ s105 : st_S, s105 = sC s104 (a1 + 1) 0 (t + 1) 0 10 → ∀ s107 : st_S, s107 = sC s105 (a1 + 2) 0 (t + 2) 0 10 → ∀ s109 : st_S, s109 = sC s107 (a1 + 3) 0 (t + 3) 0 10 → ∀ s111 : st_S, s111 = sC s109 (a1 + 4) 0 (t + 4) 0 10 → ∀ s113 : st_S, s113 = sC s111 (a1 + 5) 0 (t + 5) 0 10 → ∀ s115 : st_S, s115 = sC s113 (a1 + 6) 0 (t + 6) 0 10 → ∀ s117 : st_S, s117 = sC s115 (a1 + 7) 0 (t + 7) 0 100 → ∀ s119 : st_S, s119 = sC s117 (a1 + 8) 0 (t + 8) 0 3 → ∃ m129 : Nat, L_X1_copyFrom_129 Q m129 t a1 0 s119
set_option maxRecDepth 20000 in
theorem jl_X1_copyFrom_129 {X : jj_X} {E : ev_E} {n0 hN : Nat} (hc : Cx X E cX1_copyFrom 3 n0 hN RX1) (hm : eM E = 1) (hr : (xT X).sig.returnType = none) (hh : 1 ≤ hN) {Q : st_S → Prop} : ∀ (n : Nat) {l0 : Nat} {l1 : Nat} {l2 : Int} (cl2 : wr l2 = l2) {σ : st_S}, L_X1_copyFrom_129 Q n l0 l1 l2 σ → J X E 3 n0 0 0 (MQ (xB X) (qV E (n0 + 0) Q) (xA X) (xS X) 0 0 (eF E)) σ 129 [(0, vR E l0), (1, vR E l1), (2, vI l2)] [] := by
  have hh1 : 1 ≤ hN := by omega
  intro n
  induction n with
  | zero => intro l0 l1 l2 cl2 σ h; exact h.elim
  | succ n ih =>
    intro l0 l1 l2 cl2 σ h
    have hk129 : ∀ {l0 : Nat} {l1 : Nat} {l2 : Int} (cl2 : wr l2 = l2) {σ : st_S}, L_X1_copyFrom_129 Q n l0 l1 l2 σ → J X E 3 n0 0 0 (MQ (xB X) (qV E (n0 + 0) Q) (xA X) (xS X) 0 0 (eF E)) σ 129 [(0, vR E l0), (1, vR E l1), (2, vI l2)] [] := ih
    replace h : (6 ≤ l2 → gK σ l1 = 16 + 1 ∧ gK σ l0 = 16 + 1 ∧ ∀ s84 : st_S, s84 = sI σ l0 10 (gI σ l1 10) → ∀ s86 : st_S, s86 = sI s84 l0 11 (gI s84 l1 11) → ∀ s88 : st_S, s88 = sI s86 l0 12 (gI s86 l1 12) → ∀ s90 : st_S, s90 = sI s88 l0 13 (gI s88 l1 13) → ∀ s92 : st_S, s92 = sI s90 l0 14 (gI s90 l1 14) → Q s92) ∧ (¬ 6 ≤ l2 → gK σ l0 = 16 + 1 ∧ gK σ l1 = 16 + 1 ∧ ix l2 6 ∧ ix l2 6 ∧ (∀ t, gR σ (l1 + 9) (Int.toNat l2) = some t → gK σ t = 16 + 9) ∧ ∀ s97 : st_S, s97 = sR σ (l0 + 9) (Int.toNat l2) (gR σ (l1 + 9) (Int.toNat l2)) → ∀ x99 : Int, x99 = wr (l2 + 1) → (L_X1_copyFrom_129 Q n) l0 l1 x99 s97) := h
    refine j_iload_n hc 2 dX1_copyFrom_129 rfl rfl ?_
    refine j_bipush hc dX1_copyFrom_130 (by decide) ?_
    refine j_ic_ge hc cl2 (wlit 6 (by decide)) (tgt := 153) dX1_copyFrom_132 (by decide) (fun q100 => ?_) (fun q100 => ?_)
    · replace h := h.1 q100
      refine j_aload_nR hc 0 dX1_copyFrom_153 rfl rfl ?_
      refine j_aload_nR hc 1 dX1_copyFrom_154 rfl rfl ?_
      obtain ⟨f81, h⟩ := h
      refine j_getI hc fl_RX1_55 (Or.inl rfl) (fun _ => Or.inl f81) dX1_copyFrom_155 (fun cn82 => ?_)
      obtain ⟨f83, h⟩ := h
      refine j_putI hc fl_RX1_55 rfl rfl (fun _ => Or.inl f83) cn82 dX1_copyFrom_158 (fun s84 es84 => ?_)
      replace h := h s84 es84
      refine j_aload_nR hc 0 dX1_copyFrom_161 rfl rfl ?_
      refine j_aload_nR hc 1 dX1_copyFrom_162 rfl rfl ?_
      refine j_getI hc fl_RX1_42 (Or.inl rfl) (fun _ => Or.inl (kI (Or.inl ⟨_, _, _, es84⟩) f81)) dX1_copyFrom_163 (fun cn85 => ?_)
      refine j_putI hc fl_RX1_42 rfl rfl (fun _ => Or.inl (kI (Or.inl ⟨_, _, _, es84⟩) f83)) cn85 dX1_copyFrom_166 (fun s86 es86 => ?_)
      replace h := h s86 es86
      refine j_aload_nR hc 0 dX1_copyFrom_169 rfl rfl ?_
      refine j_aload_nR hc 1 dX1_copyFrom_170 rfl rfl ?_
      refine j_getI hc fl_RX1_58 (Or.inl rfl) (fun _ => Or.inl (kI (Or.inl ⟨_, _, _, es86⟩) (kI (Or.inl ⟨_, _, _, es84⟩) f81))) dX1_copyFrom_171 (fun cn87 => ?_)
      refine j_putI hc fl_RX1_58 rfl rfl (fun _ => Or.inl (kI (Or.inl ⟨_, _, _, es86⟩) (kI (Or.inl ⟨_, _, _, es84⟩) f83))) cn87 dX1_copyFrom_174 (fun s88 es88 => ?_)
      replace h := h s88 es88
      refine j_aload_nR hc 0 dX1_copyFrom_177 rfl rfl ?_
      refine j_aload_nR hc 1 dX1_copyFrom_178 rfl rfl ?_
      refine j_getI hc fl_RX1_61 (Or.inl rfl) (fun _ => Or.inl (kI (Or.inl ⟨_, _, _, es88⟩) (kI (Or.inl ⟨_, _, _, es86⟩) (kI (Or.inl ⟨_, _, _, es84⟩) f81)))) dX1_copyFrom_179 (fun cn89 => ?_)
      refine j_putI hc fl_RX1_61 rfl rfl (fun _ => Or.inl (kI (Or.inl ⟨_, _, _, es88⟩) (kI (Or.inl ⟨_, _, _, es86⟩) (kI (Or.inl ⟨_, _, _, es84⟩) f83)))) cn89 dX1_copyFrom_182 (fun s90 es90 => ?_)
      replace h := h s90 es90
      refine j_aload_nR hc 0 dX1_copyFrom_185 rfl rfl ?_
      refine j_aload_nR hc 1 dX1_copyFrom_186 rfl rfl ?_
      refine j_getI hc fl_RX1_64 (Or.inl rfl) (fun _ => Or.inl (kI (Or.inl ⟨_, _, _, es90⟩) (kI (Or.inl ⟨_, _, _, es88⟩) (kI (Or.inl ⟨_, _, _, es86⟩) (kI (Or.inl ⟨_, _, _, es84⟩) f81))))) dX1_copyFrom_187 (fun cn91 => ?_)
      refine j_putI hc fl_RX1_64 rfl rfl (fun _ => Or.inl (kI (Or.inl ⟨_, _, _, es90⟩) (kI (Or.inl ⟨_, _, _, es88⟩) (kI (Or.inl ⟨_, _, _, es86⟩) (kI (Or.inl ⟨_, _, _, es84⟩) f83))))) cn91 dX1_copyFrom_190 (fun s92 es92 => ?_)
      replace h := h s92 es92
      exact j_vret hc hr h dX1_copyFrom_193
    · replace h := h.2 q100
      refine j_aload_nR hc 0 dX1_copyFrom_135 rfl rfl ?_
      obtain ⟨f93, h⟩ := h
      refine j_getR (c' := (l0 + 9)) hc fl_RX1_38 rfl rfl (fun _ => f93) dX1_copyFrom_136 ?_
      refine j_iload_n hc 2 dX1_copyFrom_139 rfl rfl ?_
      refine j_aload_nR hc 1 dX1_copyFrom_140 rfl rfl ?_
      obtain ⟨f94, h⟩ := h
      refine j_getR (c' := (l1 + 9)) hc fl_RX1_38 rfl rfl (fun _ => f94) dX1_copyFrom_141 ?_
      refine j_iload_n hc 2 dX1_copyFrom_144 rfl rfl ?_
      obtain ⟨b95, h⟩ := h
      refine j_aald (jn := (Int.toNat l2)) hc 4 (by decide) (fun hv => sv_b hv f94 (by decide) rfl) cl2 b95 rfl dX1_copyFrom_145 ?_
      obtain ⟨b96, h⟩ := h
      obtain ⟨z98, h⟩ := h
      refine j_aastO (jn := (Int.toNat l2)) hc 4 9 (by decide) (fun hv => sv_b hv f93 (by decide) rfl) z98 cl2 b96 rfl dX1_copyFrom_146 (fun s97 es97 => ?_)
      replace h := h s97 es97
      obtain ⟨x99, ex99⟩ : ∃ y : Int, y = wr (l2 + 1) := ⟨_, rfl⟩
      have cx99 : wr x99 = x99 := by rw [ex99]; exact wr_wr _
      replace h := h x99 ex99
      refine j_iinc (lv' := [(2, vI x99), (0, vR E l0), (1, vR E l1)]) hc 2 dX1_copyFrom_147 rfl (by decide) ex99 rfl ?_
      refine j_goto (tgt := 129) hc dX1_copyFrom_150 (by decide) ?_
      refine j_sub (lv' := [(0, vR E l0), (1, vR E l1), (2, vI x99)]) [1, 2, 0] rfl ?_
      exact hk129 cx99 h
set_option maxRecDepth 20000 in
theorem c_X1_copyFrom {l : Launch} {E : ev_E} (hE : Eok E) (hm : eM E = 1) {t : Nat} {a1 : Nat} {σ : st_S} {Q : st_S → Prop} (h : wp_X1_copyFrom t a1 σ Q) : cM l yX1_copyFrom cX1_copyFrom 3 none E 1 0 0 [vR E t, vR E a1] σ (qV E (gN σ + 0) Q) := by
  refine cM_of (lv := [(0, vR E t), (1, vR E a1)]) (by decide) hE (Nat.le_of_ble_eq_true rfl) (rfl) ?_
  intro X hX hc _ _ hr _ _
  subst hX
  have hh : 1 ≤ 1 := Nat.le_refl _
  have hh1 : 1 ≤ 1 := by omega
  replace h : gK σ a1 = 16 + 1 ∧ gK σ t = 16 + 1 ∧ ∀ s104 : st_S, s104 = sI σ t 0 (gI σ a1 0) → ∀ s105 : st_S, s105 = sC s104 (a1 + 1) 0 (t + 1) 0 10 → ∀ s107 : st_S, s107 = sC s105 (a1 + 2) 0 (t + 2) 0 10 → ∀ s109 : st_S, s109 = sC s107 (a1 + 3) 0 (t + 3) 0 10 → ∀ s111 : st_S, s111 = sC s109 (a1 + 4) 0 (t + 4) 0 10 → ∀ s113 : st_S, s113 = sC s111 (a1 + 5) 0 (t + 5) 0 10 → ∀ s115 : st_S, s115 = sC s113 (a1 + 6) 0 (t + 6) 0 10 → ∀ s117 : st_S, s117 = sC s115 (a1 + 7) 0 (t + 7) 0 100 → ∀ s119 : st_S, s119 = sC s117 (a1 + 8) 0 (t + 8) 0 3 → ∃ m129 : Nat, L_X1_copyFrom_129 Q m129 t a1 0 s119 := h
  refine j_aload_nR hc 0 dX1_copyFrom_0 rfl rfl ?_
  refine j_aload_nR hc 1 dX1_copyFrom_1 rfl rfl ?_
  obtain ⟨f101, h⟩ := h
  refine j_getI hc fl_RX1_46 (Or.inl rfl) (fun _ => Or.inl f101) dX1_copyFrom_2 (fun cn102 => ?_)
  obtain ⟨f103, h⟩ := h
  refine j_putI hc fl_RX1_46 rfl rfl (fun _ => Or.inl f103) cn102 dX1_copyFrom_5 (fun s104 es104 => ?_)
  replace h := h s104 es104
  refine j_aload_nR hc 1 dX1_copyFrom_8 rfl rfl ?_
  refine j_getR (c' := (a1 + 1)) hc fl_RX1_9 rfl rfl (fun _ => (kI (Or.inl ⟨_, _, _, es104⟩) f101)) dX1_copyFrom_9 ?_
  refine j_iconst hc dX1_copyFrom_12 ?_
  refine j_aload_nR hc 0 dX1_copyFrom_13 rfl rfl ?_
  refine j_getR (c' := (t + 1)) hc fl_RX1_9 rfl rfl (fun _ => (kI (Or.inl ⟨_, _, _, es104⟩) f103)) dX1_copyFrom_14 ?_
  refine j_iconst hc dX1_copyFrom_17 ?_
  refine j_bipush hc dX1_copyFrom_18 (by decide) ?_
  refine j_copy hc mc_RX1_49 hh1 (fun hv => sv_b hv (kI (Or.inl ⟨_, _, _, es104⟩) f101) (by decide) rfl) (fun hv => sv_b hv (kI (Or.inl ⟨_, _, _, es104⟩) f103) (by decide) rfl) (wlit 0 (by decide)) (wlit 0 (by decide)) (wlit 10 (by decide)) (by unfold cpOk; omega) (Nat.le_of_ble_eq_true rfl) dX1_copyFrom_20 (fun s105 es105 => ?_)
  replace h := h s105 es105
  refine j_aload_nR hc 1 dX1_copyFrom_23 rfl rfl ?_
  refine j_getR (c' := (a1 + 2)) hc fl_RX1_15 rfl rfl (fun _ => (kC es105 (kI (Or.inl ⟨_, _, _, es104⟩) f101))) dX1_copyFrom_24 ?_
  refine j_iconst hc dX1_copyFrom_27 ?_
  refine j_aload_nR hc 0 dX1_copyFrom_28 rfl rfl ?_
  refine j_getR (c' := (t + 2)) hc fl_RX1_15 rfl rfl (fun _ => (kC es105 (kI (Or.inl ⟨_, _, _, es104⟩) f103))) dX1_copyFrom_29 ?_
  refine j_iconst hc dX1_copyFrom_32 ?_
  refine j_bipush hc dX1_copyFrom_33 (by decide) ?_
  refine j_copy hc mc_RX1_49 hh1 (fun hv => sv_b hv (kC es105 (kI (Or.inl ⟨_, _, _, es104⟩) f101)) (by decide) rfl) (fun hv => sv_b hv (kC es105 (kI (Or.inl ⟨_, _, _, es104⟩) f103)) (by decide) rfl) (wlit 0 (by decide)) (wlit 0 (by decide)) (wlit 10 (by decide)) (by unfold cpOk; omega) (Nat.le_of_ble_eq_true rfl) dX1_copyFrom_35 (fun s107 es107 => ?_)
  replace h := h s107 es107
  refine j_aload_nR hc 1 dX1_copyFrom_38 rfl rfl ?_
  refine j_getR (c' := (a1 + 3)) hc fl_RX1_18 rfl rfl (fun _ => (kC es107 (kC es105 (kI (Or.inl ⟨_, _, _, es104⟩) f101)))) dX1_copyFrom_39 ?_
  refine j_iconst hc dX1_copyFrom_42 ?_
  refine j_aload_nR hc 0 dX1_copyFrom_43 rfl rfl ?_
  refine j_getR (c' := (t + 3)) hc fl_RX1_18 rfl rfl (fun _ => (kC es107 (kC es105 (kI (Or.inl ⟨_, _, _, es104⟩) f103)))) dX1_copyFrom_44 ?_
  refine j_iconst hc dX1_copyFrom_47 ?_
  refine j_bipush hc dX1_copyFrom_48 (by decide) ?_
  refine j_copy hc mc_RX1_49 hh1 (fun hv => sv_b hv (kC es107 (kC es105 (kI (Or.inl ⟨_, _, _, es104⟩) f101))) (by decide) rfl) (fun hv => sv_b hv (kC es107 (kC es105 (kI (Or.inl ⟨_, _, _, es104⟩) f103))) (by decide) rfl) (wlit 0 (by decide)) (wlit 0 (by decide)) (wlit 10 (by decide)) (by unfold cpOk; omega) (Nat.le_of_ble_eq_true rfl) dX1_copyFrom_50 (fun s109 es109 => ?_)
  replace h := h s109 es109
  refine j_aload_nR hc 1 dX1_copyFrom_53 rfl rfl ?_
  refine j_getR (c' := (a1 + 4)) hc fl_RX1_21 rfl rfl (fun _ => (kC es109 (kC es107 (kC es105 (kI (Or.inl ⟨_, _, _, es104⟩) f101))))) dX1_copyFrom_54 ?_
  refine j_iconst hc dX1_copyFrom_57 ?_
  refine j_aload_nR hc 0 dX1_copyFrom_58 rfl rfl ?_
  refine j_getR (c' := (t + 4)) hc fl_RX1_21 rfl rfl (fun _ => (kC es109 (kC es107 (kC es105 (kI (Or.inl ⟨_, _, _, es104⟩) f103))))) dX1_copyFrom_59 ?_
  refine j_iconst hc dX1_copyFrom_62 ?_
  refine j_bipush hc dX1_copyFrom_63 (by decide) ?_
  refine j_copy hc mc_RX1_49 hh1 (fun hv => sv_b hv (kC es109 (kC es107 (kC es105 (kI (Or.inl ⟨_, _, _, es104⟩) f101)))) (by decide) rfl) (fun hv => sv_b hv (kC es109 (kC es107 (kC es105 (kI (Or.inl ⟨_, _, _, es104⟩) f103)))) (by decide) rfl) (wlit 0 (by decide)) (wlit 0 (by decide)) (wlit 10 (by decide)) (by unfold cpOk; omega) (Nat.le_of_ble_eq_true rfl) dX1_copyFrom_65 (fun s111 es111 => ?_)
  replace h := h s111 es111
  refine j_aload_nR hc 1 dX1_copyFrom_68 rfl rfl ?_
  refine j_getR (c' := (a1 + 5)) hc fl_RX1_24 rfl rfl (fun _ => (kC es111 (kC es109 (kC es107 (kC es105 (kI (Or.inl ⟨_, _, _, es104⟩) f101)))))) dX1_copyFrom_69 ?_
  refine j_iconst hc dX1_copyFrom_72 ?_
  refine j_aload_nR hc 0 dX1_copyFrom_73 rfl rfl ?_
  refine j_getR (c' := (t + 5)) hc fl_RX1_24 rfl rfl (fun _ => (kC es111 (kC es109 (kC es107 (kC es105 (kI (Or.inl ⟨_, _, _, es104⟩) f103)))))) dX1_copyFrom_74 ?_
  refine j_iconst hc dX1_copyFrom_77 ?_
  refine j_bipush hc dX1_copyFrom_78 (by decide) ?_
  refine j_copy hc mc_RX1_49 hh1 (fun hv => sv_b hv (kC es111 (kC es109 (kC es107 (kC es105 (kI (Or.inl ⟨_, _, _, es104⟩) f101))))) (by decide) rfl) (fun hv => sv_b hv (kC es111 (kC es109 (kC es107 (kC es105 (kI (Or.inl ⟨_, _, _, es104⟩) f103))))) (by decide) rfl) (wlit 0 (by decide)) (wlit 0 (by decide)) (wlit 10 (by decide)) (by unfold cpOk; omega) (Nat.le_of_ble_eq_true rfl) dX1_copyFrom_80 (fun s113 es113 => ?_)
  replace h := h s113 es113
  refine j_aload_nR hc 1 dX1_copyFrom_83 rfl rfl ?_
  refine j_getR (c' := (a1 + 6)) hc fl_RX1_27 rfl rfl (fun _ => (kC es113 (kC es111 (kC es109 (kC es107 (kC es105 (kI (Or.inl ⟨_, _, _, es104⟩) f101))))))) dX1_copyFrom_84 ?_
  refine j_iconst hc dX1_copyFrom_87 ?_
  refine j_aload_nR hc 0 dX1_copyFrom_88 rfl rfl ?_
  refine j_getR (c' := (t + 6)) hc fl_RX1_27 rfl rfl (fun _ => (kC es113 (kC es111 (kC es109 (kC es107 (kC es105 (kI (Or.inl ⟨_, _, _, es104⟩) f103))))))) dX1_copyFrom_89 ?_
  refine j_iconst hc dX1_copyFrom_92 ?_
  refine j_bipush hc dX1_copyFrom_93 (by decide) ?_
  refine j_copy hc mc_RX1_49 hh1 (fun hv => sv_b hv (kC es113 (kC es111 (kC es109 (kC es107 (kC es105 (kI (Or.inl ⟨_, _, _, es104⟩) f101)))))) (by decide) rfl) (fun hv => sv_b hv (kC es113 (kC es111 (kC es109 (kC es107 (kC es105 (kI (Or.inl ⟨_, _, _, es104⟩) f103)))))) (by decide) rfl) (wlit 0 (by decide)) (wlit 0 (by decide)) (wlit 10 (by decide)) (by unfold cpOk; omega) (Nat.le_of_ble_eq_true rfl) dX1_copyFrom_95 (fun s115 es115 => ?_)
  replace h := h s115 es115
  refine j_aload_nR hc 1 dX1_copyFrom_98 rfl rfl ?_
  refine j_getR (c' := (a1 + 7)) hc fl_RX1_30 rfl rfl (fun _ => (kC es115 (kC es113 (kC es111 (kC es109 (kC es107 (kC es105 (kI (Or.inl ⟨_, _, _, es104⟩) f101)))))))) dX1_copyFrom_99 ?_
  refine j_iconst hc dX1_copyFrom_102 ?_
  refine j_aload_nR hc 0 dX1_copyFrom_103 rfl rfl ?_
  refine j_getR (c' := (t + 7)) hc fl_RX1_30 rfl rfl (fun _ => (kC es115 (kC es113 (kC es111 (kC es109 (kC es107 (kC es105 (kI (Or.inl ⟨_, _, _, es104⟩) f103)))))))) dX1_copyFrom_104 ?_
  refine j_iconst hc dX1_copyFrom_107 ?_
  refine j_bipush hc dX1_copyFrom_108 (by decide) ?_
  refine j_copy hc mc_RX1_49 hh1 (fun hv => sv_b hv (kC es115 (kC es113 (kC es111 (kC es109 (kC es107 (kC es105 (kI (Or.inl ⟨_, _, _, es104⟩) f101))))))) (by decide) rfl) (fun hv => sv_b hv (kC es115 (kC es113 (kC es111 (kC es109 (kC es107 (kC es105 (kI (Or.inl ⟨_, _, _, es104⟩) f103))))))) (by decide) rfl) (wlit 0 (by decide)) (wlit 0 (by decide)) (wlit 100 (by decide)) (by unfold cpOk; omega) (Nat.le_of_ble_eq_true rfl) dX1_copyFrom_110 (fun s117 es117 => ?_)
  replace h := h s117 es117
  refine j_aload_nR hc 1 dX1_copyFrom_113 rfl rfl ?_
  refine j_getR (c' := (a1 + 8)) hc fl_RX1_33 rfl rfl (fun _ => (kC es117 (kC es115 (kC es113 (kC es111 (kC es109 (kC es107 (kC es105 (kI (Or.inl ⟨_, _, _, es104⟩) f101))))))))) dX1_copyFrom_114 ?_
  refine j_iconst hc dX1_copyFrom_117 ?_
  refine j_aload_nR hc 0 dX1_copyFrom_118 rfl rfl ?_
  refine j_getR (c' := (t + 8)) hc fl_RX1_33 rfl rfl (fun _ => (kC es117 (kC es115 (kC es113 (kC es111 (kC es109 (kC es107 (kC es105 (kI (Or.inl ⟨_, _, _, es104⟩) f103))))))))) dX1_copyFrom_119 ?_
  refine j_iconst hc dX1_copyFrom_122 ?_
  refine j_iconst hc dX1_copyFrom_123 ?_
  refine j_copy hc mc_RX1_49 hh1 (fun hv => sv_b hv (kC es117 (kC es115 (kC es113 (kC es111 (kC es109 (kC es107 (kC es105 (kI (Or.inl ⟨_, _, _, es104⟩) f101)))))))) (by decide) rfl) (fun hv => sv_b hv (kC es117 (kC es115 (kC es113 (kC es111 (kC es109 (kC es107 (kC es105 (kI (Or.inl ⟨_, _, _, es104⟩) f103)))))))) (by decide) rfl) (wlit 0 (by decide)) (wlit 0 (by decide)) (wlit 3 (by decide)) (by unfold cpOk; omega) (Nat.le_of_ble_eq_true rfl) dX1_copyFrom_124 (fun s119 es119 => ?_)
  replace h := h s119 es119
  refine j_iconst hc dX1_copyFrom_127 ?_
  refine j_istore_n (lv' := [(2, vI 0), (0, vR E t), (1, vR E a1)]) hc dX1_copyFrom_128 rfl (by decide) rfl ?_
  obtain ⟨n129, h⟩ := h
  refine j_sub (lv' := [(0, vR E t), (1, vR E a1), (2, vI 0)]) [1, 2, 0] rfl ?_
  exact jl_X1_copyFrom_129 hc hm hr hh n129 (wlit 0 (by decide)) h
-- LitStrangers$Coast.has(I)Z
theorem dX1_has_0 : decode cX1_has 0 = .ok (.iload_n 1, 1) := by decide +kernel
theorem dX1_has_1 : decode cX1_has 1 = .ok (.ifCond .lt 21, 3) := by decide +kernel
theorem dX1_has_4 : decode cX1_has 4 = .ok (.iload_n 1, 1) := by decide +kernel
theorem dX1_has_5 : decode cX1_has 5 = .ok (.aload_n 0, 1) := by decide +kernel
theorem dX1_has_6 : decode cX1_has 6 = .ok (.getfield 46, 3) := by decide +kernel
theorem dX1_has_9 : decode cX1_has 9 = .ok (.if_icmp .ge 13, 3) := by decide +kernel
theorem dX1_has_12 : decode cX1_has 12 = .ok (.iload_n 1, 1) := by decide +kernel
theorem dX1_has_13 : decode cX1_has 13 = .ok (.bipush 10, 2) := by decide +kernel
theorem dX1_has_15 : decode cX1_has 15 = .ok (.if_icmp .ge 7, 3) := by decide +kernel
theorem dX1_has_18 : decode cX1_has 18 = .ok (.iconst 1, 1) := by decide +kernel
theorem dX1_has_19 : decode cX1_has 19 = .ok (.goto 4, 3) := by decide +kernel
theorem dX1_has_22 : decode cX1_has 22 = .ok (.iconst 0, 1) := by decide +kernel
theorem dX1_has_23 : decode cX1_has 23 = .ok (.ireturn, 1) := by decide +kernel
def B_X1_has_23 (Q : Int → st_S → Prop)   (v0 : Int) (σ : st_S) : Prop := (v0 = 0 ∨ v0 = 1) ∧ Q v0 σ
def B_X1_has_22 (Q : Int → st_S → Prop)    (σ : st_S) : Prop := B_X1_has_23 Q 0 σ
def wp_X1_has (a1 : Int) (σ : st_S) (Q : Int → st_S → Prop) : Prop := (a1 < 0 → B_X1_has_22 Q σ) ∧ (¬ a1 < 0 → (gI σ 25 0 ≤ a1 → B_X1_has_22 Q σ) ∧ (¬ gI σ 25 0 ≤ a1 → (10 ≤ a1 → B_X1_has_22 Q σ) ∧ (¬ 10 ≤ a1 → B_X1_has_23 Q 1 σ)))
set_option maxRecDepth 20000 in
theorem jb_X1_has_23 {X : jj_X} {E : ev_E} {n0 hN : Nat} (hc : Cx X E cX1_has 2 n0 hN RX1) (hm : eM E = 1) (hr : (xT X).sig.returnType = (some .boolean)) (hh : 1 ≤ hN) {Q : Int → st_S → Prop} {v0 : Int} (cv0 : wr v0 = v0) {σ : st_S} (h : B_X1_has_23 Q v0 σ) : J X E 2 n0 0 0 (MQ (xB X) (qI E (n0 + 0) Q) (xA X) (xS X) 0 0 (eF E)) σ 23 [] [vI v0] := by
  have hh1 : 1 ≤ hN := by omega
  replace h : (v0 = 0 ∨ v0 = 1) ∧ Q v0 σ := h
  exact j_zret hc hr (nar_bool h.1) (by rcases h.1 with e | e <;> (rw [e]; decide)) h.2 dX1_has_23
set_option maxRecDepth 20000 in
theorem jb_X1_has_22 {X : jj_X} {E : ev_E} {n0 hN : Nat} (hc : Cx X E cX1_has 2 n0 hN RX1) (hm : eM E = 1) (hr : (xT X).sig.returnType = (some .boolean)) (hh : 1 ≤ hN) {Q : Int → st_S → Prop} {σ : st_S} (h : B_X1_has_22 Q σ) : J X E 2 n0 0 0 (MQ (xB X) (qI E (n0 + 0) Q) (xA X) (xS X) 0 0 (eF E)) σ 22 [] [] := by
  have hh1 : 1 ≤ hN := by omega
  replace h : B_X1_has_23 Q 0 σ := h
  refine j_iconst hc dX1_has_22 ?_
  refine j_sub (lv' := []) [] rfl ?_
  exact jb_X1_has_23 hc hm hr hh (wlit 0 (by decide)) h
set_option maxRecDepth 20000 in
theorem c_X1_has {l : Launch} {E : ev_E} (hE : Eok E) (hm : eM E = 1) {a1 : Int} (ca1 : wr a1 = a1) {σ : st_S} {Q : Int → st_S → Prop} (h : wp_X1_has a1 σ Q) : cM l yX1_has cX1_has 2 (some .boolean) E 1 0 0 [vR E 25, vI a1] σ (qI E (gN σ + 0) Q) := by
  refine cM_of (lv := [(0, vR E 25), (1, vI a1)]) (by decide) hE (Nat.le_of_ble_eq_true rfl) (rfl) ?_
  intro X hX hc _ _ hr _ _
  subst hX
  have hh : 1 ≤ 1 := Nat.le_refl _
  have hh1 : 1 ≤ 1 := by omega
  replace h : (a1 < 0 → B_X1_has_22 Q σ) ∧ (¬ a1 < 0 → (gI σ 25 0 ≤ a1 → B_X1_has_22 Q σ) ∧ (¬ gI σ 25 0 ≤ a1 → (10 ≤ a1 → B_X1_has_22 Q σ) ∧ (¬ 10 ≤ a1 → B_X1_has_23 Q 1 σ))) := h
  refine j_iload_n hc 1 dX1_has_0 rfl rfl ?_
  refine j_if_lt hc ca1 (tgt := 22) dX1_has_1 (by decide) (fun q5 => ?_) (fun q5 => ?_)
  · replace h := h.1 q5
    refine j_sub (lv' := []) [] rfl ?_
    exact jb_X1_has_22 hc hm hr hh h
  · replace h := h.2 q5
    refine j_iload_n hc 1 dX1_has_4 rfl rfl ?_
    refine j_aload_nR hc 0 dX1_has_5 rfl rfl ?_
    refine j_getI hc fl_RX1_46 (Or.inl rfl) (fun hv => Or.inl (sv_k hv hm rfl)) dX1_has_6 (fun cn2 => ?_)
    refine j_ic_ge hc ca1 cn2 (tgt := 22) dX1_has_9 (by decide) (fun q4 => ?_) (fun q4 => ?_)
    · replace h := h.1 q4
      refine j_sub (lv' := []) [] rfl ?_
      exact jb_X1_has_22 hc hm hr hh h
    · replace h := h.2 q4
      refine j_iload_n hc 1 dX1_has_12 rfl rfl ?_
      refine j_bipush hc dX1_has_13 (by decide) ?_
      refine j_ic_ge hc ca1 (wlit 10 (by decide)) (tgt := 22) dX1_has_15 (by decide) (fun q3 => ?_) (fun q3 => ?_)
      · replace h := h.1 q3
        refine j_sub (lv' := []) [] rfl ?_
        exact jb_X1_has_22 hc hm hr hh h
      · replace h := h.2 q3
        refine j_iconst hc dX1_has_18 ?_
        refine j_goto (tgt := 23) hc dX1_has_19 (by decide) ?_
        refine j_sub (lv' := []) [] rfl ?_
        exact jb_X1_has_23 hc hm hr hh (wlit 1 (by decide)) h
-- LitStrangers$Coast.join(III)I
theorem dX1_join_0 : decode cX1_join 0 = .ok (.aload_n 0, 1) := by decide +kernel
theorem dX1_join_1 : decode cX1_join 1 = .ok (.getfield 46, 3) := by decide +kernel
theorem dX1_join_4 : decode cX1_join 4 = .ok (.ifCond .lt 12, 3) := by decide +kernel
theorem dX1_join_7 : decode cX1_join 7 = .ok (.aload_n 0, 1) := by decide +kernel
theorem dX1_join_8 : decode cX1_join 8 = .ok (.getfield 46, 3) := by decide +kernel
theorem dX1_join_11 : decode cX1_join 11 = .ok (.bipush 10, 2) := by decide +kernel
theorem dX1_join_13 : decode cX1_join 13 = .ok (.if_icmp .lt 6, 3) := by decide +kernel
theorem dX1_join_16 : decode cX1_join 16 = .ok (.bipush (-5), 2) := by decide +kernel
theorem dX1_join_18 : decode cX1_join 18 = .ok (.ireturn, 1) := by decide +kernel
theorem dX1_join_19 : decode cX1_join 19 = .ok (.aload_n 0, 1) := by decide +kernel
theorem dX1_join_20 : decode cX1_join 20 = .ok (.getfield 9, 3) := by decide +kernel
theorem dX1_join_23 : decode cX1_join 23 = .ok (.aload_n 0, 1) := by decide +kernel
theorem dX1_join_24 : decode cX1_join 24 = .ok (.getfield 46, 3) := by decide +kernel
theorem dX1_join_27 : decode cX1_join 27 = .ok (.iload_n 1, 1) := by decide +kernel
theorem dX1_join_28 : decode cX1_join 28 = .ok (.iastore, 1) := by decide +kernel
theorem dX1_join_29 : decode cX1_join 29 = .ok (.aload_n 0, 1) := by decide +kernel
theorem dX1_join_30 : decode cX1_join 30 = .ok (.getfield 15, 3) := by decide +kernel
theorem dX1_join_33 : decode cX1_join 33 = .ok (.aload_n 0, 1) := by decide +kernel
theorem dX1_join_34 : decode cX1_join 34 = .ok (.getfield 46, 3) := by decide +kernel
theorem dX1_join_37 : decode cX1_join 37 = .ok (.iload_n 2, 1) := by decide +kernel
theorem dX1_join_38 : decode cX1_join 38 = .ok (.iastore, 1) := by decide +kernel
theorem dX1_join_39 : decode cX1_join 39 = .ok (.aload_n 0, 1) := by decide +kernel
theorem dX1_join_40 : decode cX1_join 40 = .ok (.getfield 18, 3) := by decide +kernel
theorem dX1_join_43 : decode cX1_join 43 = .ok (.aload_n 0, 1) := by decide +kernel
theorem dX1_join_44 : decode cX1_join 44 = .ok (.getfield 46, 3) := by decide +kernel
theorem dX1_join_47 : decode cX1_join 47 = .ok (.iload_n 3, 1) := by decide +kernel
theorem dX1_join_48 : decode cX1_join 48 = .ok (.iastore, 1) := by decide +kernel
theorem dX1_join_49 : decode cX1_join 49 = .ok (.aload_n 0, 1) := by decide +kernel
theorem dX1_join_50 : decode cX1_join 50 = .ok (.getfield 21, 3) := by decide +kernel
theorem dX1_join_53 : decode cX1_join 53 = .ok (.aload_n 0, 1) := by decide +kernel
theorem dX1_join_54 : decode cX1_join 54 = .ok (.getfield 46, 3) := by decide +kernel
theorem dX1_join_57 : decode cX1_join 57 = .ok (.iconst 0, 1) := by decide +kernel
theorem dX1_join_58 : decode cX1_join 58 = .ok (.iastore, 1) := by decide +kernel
theorem dX1_join_59 : decode cX1_join 59 = .ok (.aload_n 0, 1) := by decide +kernel
theorem dX1_join_60 : decode cX1_join 60 = .ok (.getfield 24, 3) := by decide +kernel
theorem dX1_join_63 : decode cX1_join 63 = .ok (.aload_n 0, 1) := by decide +kernel
theorem dX1_join_64 : decode cX1_join 64 = .ok (.getfield 46, 3) := by decide +kernel
theorem dX1_join_67 : decode cX1_join 67 = .ok (.iconst 0, 1) := by decide +kernel
theorem dX1_join_68 : decode cX1_join 68 = .ok (.iastore, 1) := by decide +kernel
theorem dX1_join_69 : decode cX1_join 69 = .ok (.aload_n 0, 1) := by decide +kernel
theorem dX1_join_70 : decode cX1_join 70 = .ok (.getfield 27, 3) := by decide +kernel
theorem dX1_join_73 : decode cX1_join 73 = .ok (.aload_n 0, 1) := by decide +kernel
theorem dX1_join_74 : decode cX1_join 74 = .ok (.getfield 46, 3) := by decide +kernel
theorem dX1_join_77 : decode cX1_join 77 = .ok (.iconst 0, 1) := by decide +kernel
theorem dX1_join_78 : decode cX1_join 78 = .ok (.iastore, 1) := by decide +kernel
theorem dX1_join_79 : decode cX1_join 79 = .ok (.aload_n 0, 1) := by decide +kernel
theorem dX1_join_80 : decode cX1_join 80 = .ok (.dup, 1) := by decide +kernel
theorem dX1_join_81 : decode cX1_join 81 = .ok (.getfield 46, 3) := by decide +kernel
theorem dX1_join_84 : decode cX1_join 84 = .ok (.iconst 1, 1) := by decide +kernel
theorem dX1_join_85 : decode cX1_join 85 = .ok (.iadd, 1) := by decide +kernel
theorem dX1_join_86 : decode cX1_join 86 = .ok (.putfield 46, 3) := by decide +kernel
theorem dX1_join_89 : decode cX1_join 89 = .ok (.aload_n 0, 1) := by decide +kernel
theorem dX1_join_90 : decode cX1_join 90 = .ok (.getfield 46, 3) := by decide +kernel
theorem dX1_join_93 : decode cX1_join 93 = .ok (.iconst 1, 1) := by decide +kernel
theorem dX1_join_94 : decode cX1_join 94 = .ok (.isub, 1) := by decide +kernel
theorem dX1_join_95 : decode cX1_join 95 = .ok (.ireturn, 1) := by decide +kernel
def B_X1_join_16 (Q : Int → st_S → Prop)    (σ : st_S) : Prop := Q (-5) σ
def wp_X1_join (a1 : Int) (a2 : Int) (a3 : Int) (σ : st_S) (Q : Int → st_S → Prop) : Prop := (gI σ 25 0 < 0 → B_X1_join_16 Q σ) ∧ (¬ gI σ 25 0 < 0 → (gI σ 25 0 < 10 → ix (gI σ 25 0) 10 ∧ ∀ s35 : st_S, s35 = sI σ 26 (Int.toNat (gI σ 25 0)) a1 → ix (gI s35 25 0) 10 ∧ ∀ s38 : st_S, s38 = sI s35 27 (Int.toNat (gI s35 25 0)) a2 → ix (gI s38 25 0) 10 ∧ ∀ s41 : st_S, s41 = sI s38 28 (Int.toNat (gI s38 25 0)) a3 → ix (gI s41 25 0) 10 ∧ ∀ s44 : st_S, s44 = sI s41 29 (Int.toNat (gI s41 25 0)) 0 → ix (gI s44 25 0) 10 ∧ ∀ s47 : st_S, s47 = sI s44 30 (Int.toNat (gI s44 25 0)) 0 → ix (gI s47 25 0) 10 ∧ ∀ s50 : st_S, s50 = sI s47 31 (Int.toNat (gI s47 25 0)) 0 → ∀ x52 : Int, x52 = wr (gI s50 25 0 + 1) → ∀ s53 : st_S, s53 = sI s50 25 0 x52 → Q (wr (gI s53 25 0 - 1)) s53) ∧ (¬ gI σ 25 0 < 10 → B_X1_join_16 Q σ))
set_option maxRecDepth 20000 in
theorem jb_X1_join_16 {X : jj_X} {E : ev_E} {n0 hN : Nat} (hc : Cx X E cX1_join 4 n0 hN RX1) (hm : eM E = 1) (hr : (xT X).sig.returnType = (some .int)) (hh : 1 ≤ hN) {Q : Int → st_S → Prop} {σ : st_S} (h : B_X1_join_16 Q σ) : J X E 4 n0 0 0 (MQ (xB X) (qI E (n0 + 0) Q) (xA X) (xS X) 0 0 (eF E)) σ 16 [] [] := by
  have hh1 : 1 ≤ hN := by omega
  replace h : Q (-5) σ := h
  refine j_bipush hc dX1_join_16 (by decide) ?_
  exact j_iret hc hr (wlit (-5) (by decide)) h dX1_join_18
set_option maxRecDepth 20000 in
theorem c_X1_join {l : Launch} {E : ev_E} (hE : Eok E) (hm : eM E = 1) {a1 : Int} {a2 : Int} {a3 : Int} (ca1 : wr a1 = a1) (ca2 : wr a2 = a2) (ca3 : wr a3 = a3) {σ : st_S} {Q : Int → st_S → Prop} (h : wp_X1_join a1 a2 a3 σ Q) : cM l yX1_join cX1_join 4 (some .int) E 1 0 0 [vR E 25, vI a1, vI a2, vI a3] σ (qI E (gN σ + 0) Q) := by
  refine cM_of (lv := [(0, vR E 25), (1, vI a1), (2, vI a2), (3, vI a3)]) (by decide) hE (Nat.le_of_ble_eq_true rfl) (rfl) ?_
  intro X hX hc _ _ hr _ _
  subst hX
  have hh : 1 ≤ 1 := Nat.le_refl _
  have hh1 : 1 ≤ 1 := by omega
  replace h : (gI σ 25 0 < 0 → B_X1_join_16 Q σ) ∧ (¬ gI σ 25 0 < 0 → (gI σ 25 0 < 10 → ix (gI σ 25 0) 10 ∧ ∀ s35 : st_S, s35 = sI σ 26 (Int.toNat (gI σ 25 0)) a1 → ix (gI s35 25 0) 10 ∧ ∀ s38 : st_S, s38 = sI s35 27 (Int.toNat (gI s35 25 0)) a2 → ix (gI s38 25 0) 10 ∧ ∀ s41 : st_S, s41 = sI s38 28 (Int.toNat (gI s38 25 0)) a3 → ix (gI s41 25 0) 10 ∧ ∀ s44 : st_S, s44 = sI s41 29 (Int.toNat (gI s41 25 0)) 0 → ix (gI s44 25 0) 10 ∧ ∀ s47 : st_S, s47 = sI s44 30 (Int.toNat (gI s44 25 0)) 0 → ix (gI s47 25 0) 10 ∧ ∀ s50 : st_S, s50 = sI s47 31 (Int.toNat (gI s47 25 0)) 0 → ∀ x52 : Int, x52 = wr (gI s50 25 0 + 1) → ∀ s53 : st_S, s53 = sI s50 25 0 x52 → Q (wr (gI s53 25 0 - 1)) s53) ∧ (¬ gI σ 25 0 < 10 → B_X1_join_16 Q σ)) := h
  refine j_aload_nR hc 0 dX1_join_0 rfl rfl ?_
  refine j_getI hc fl_RX1_46 (Or.inl rfl) (fun hv => Or.inl (sv_k hv hm rfl)) dX1_join_1 (fun cn31 => ?_)
  refine j_if_lt hc cn31 (tgt := 16) dX1_join_4 (by decide) (fun q56 => ?_) (fun q56 => ?_)
  · replace h := h.1 q56
    refine j_sub (lv' := []) [] rfl ?_
    exact jb_X1_join_16 hc hm hr hh h
  · replace h := h.2 q56
    refine j_aload_nR hc 0 dX1_join_7 rfl rfl ?_
    refine j_getI hc fl_RX1_46 (Or.inl rfl) (fun hv => Or.inl (sv_k hv hm rfl)) dX1_join_8 (fun cn32 => ?_)
    refine j_bipush hc dX1_join_11 (by decide) ?_
    refine j_ic_lt hc cn32 (wlit 10 (by decide)) (tgt := 19) dX1_join_13 (by decide) (fun q55 => ?_) (fun q55 => ?_)
    · replace h := h.1 q55
      refine j_aload_nR hc 0 dX1_join_19 rfl rfl ?_
      refine j_getR (c' := 26) hc fl_RX1_9 rfl rfl (fun hv => (sv_k hv hm rfl)) dX1_join_20 ?_
      refine j_aload_nR hc 0 dX1_join_23 rfl rfl ?_
      refine j_getI hc fl_RX1_46 (Or.inl rfl) (fun hv => Or.inl (sv_k hv hm rfl)) dX1_join_24 (fun cn33 => ?_)
      refine j_iload_n hc 1 dX1_join_27 rfl rfl ?_
      obtain ⟨b34, h⟩ := h
      refine j_iast (jn := (Int.toNat (gI σ 25 0))) hc (fun hv => sv_kl hv hm rfl) cn33 b34 rfl ca1 dX1_join_28 (fun s35 es35 => ?_)
      replace h := h s35 es35
      refine j_aload_nR hc 0 dX1_join_29 rfl rfl ?_
      refine j_getR (c' := 27) hc fl_RX1_15 rfl rfl (fun hv => (sv_k hv hm rfl)) dX1_join_30 ?_
      refine j_aload_nR hc 0 dX1_join_33 rfl rfl ?_
      refine j_getI hc fl_RX1_46 (Or.inl rfl) (fun hv => Or.inl (sv_k hv hm rfl)) dX1_join_34 (fun cn36 => ?_)
      refine j_iload_n hc 2 dX1_join_37 rfl rfl ?_
      obtain ⟨b37, h⟩ := h
      refine j_iast (jn := (Int.toNat (gI s35 25 0))) hc (fun hv => sv_kl hv hm rfl) cn36 b37 rfl ca2 dX1_join_38 (fun s38 es38 => ?_)
      replace h := h s38 es38
      refine j_aload_nR hc 0 dX1_join_39 rfl rfl ?_
      refine j_getR (c' := 28) hc fl_RX1_18 rfl rfl (fun hv => (sv_k hv hm rfl)) dX1_join_40 ?_
      refine j_aload_nR hc 0 dX1_join_43 rfl rfl ?_
      refine j_getI hc fl_RX1_46 (Or.inl rfl) (fun hv => Or.inl (sv_k hv hm rfl)) dX1_join_44 (fun cn39 => ?_)
      refine j_iload_n hc 3 dX1_join_47 rfl rfl ?_
      obtain ⟨b40, h⟩ := h
      refine j_iast (jn := (Int.toNat (gI s38 25 0))) hc (fun hv => sv_kl hv hm rfl) cn39 b40 rfl ca3 dX1_join_48 (fun s41 es41 => ?_)
      replace h := h s41 es41
      refine j_aload_nR hc 0 dX1_join_49 rfl rfl ?_
      refine j_getR (c' := 29) hc fl_RX1_21 rfl rfl (fun hv => (sv_k hv hm rfl)) dX1_join_50 ?_
      refine j_aload_nR hc 0 dX1_join_53 rfl rfl ?_
      refine j_getI hc fl_RX1_46 (Or.inl rfl) (fun hv => Or.inl (sv_k hv hm rfl)) dX1_join_54 (fun cn42 => ?_)
      refine j_iconst hc dX1_join_57 ?_
      obtain ⟨b43, h⟩ := h
      refine j_iast (jn := (Int.toNat (gI s41 25 0))) hc (fun hv => sv_kl hv hm rfl) cn42 b43 rfl (wlit 0 (by decide)) dX1_join_58 (fun s44 es44 => ?_)
      replace h := h s44 es44
      refine j_aload_nR hc 0 dX1_join_59 rfl rfl ?_
      refine j_getR (c' := 30) hc fl_RX1_24 rfl rfl (fun hv => (sv_k hv hm rfl)) dX1_join_60 ?_
      refine j_aload_nR hc 0 dX1_join_63 rfl rfl ?_
      refine j_getI hc fl_RX1_46 (Or.inl rfl) (fun hv => Or.inl (sv_k hv hm rfl)) dX1_join_64 (fun cn45 => ?_)
      refine j_iconst hc dX1_join_67 ?_
      obtain ⟨b46, h⟩ := h
      refine j_iast (jn := (Int.toNat (gI s44 25 0))) hc (fun hv => sv_kl hv hm rfl) cn45 b46 rfl (wlit 0 (by decide)) dX1_join_68 (fun s47 es47 => ?_)
      replace h := h s47 es47
      refine j_aload_nR hc 0 dX1_join_69 rfl rfl ?_
      refine j_getR (c' := 31) hc fl_RX1_27 rfl rfl (fun hv => (sv_k hv hm rfl)) dX1_join_70 ?_
      refine j_aload_nR hc 0 dX1_join_73 rfl rfl ?_
      refine j_getI hc fl_RX1_46 (Or.inl rfl) (fun hv => Or.inl (sv_k hv hm rfl)) dX1_join_74 (fun cn48 => ?_)
      refine j_iconst hc dX1_join_77 ?_
      obtain ⟨b49, h⟩ := h
      refine j_iast (jn := (Int.toNat (gI s47 25 0))) hc (fun hv => sv_kl hv hm rfl) cn48 b49 rfl (wlit 0 (by decide)) dX1_join_78 (fun s50 es50 => ?_)
      replace h := h s50 es50
      refine j_aload_nR hc 0 dX1_join_79 rfl rfl ?_
      refine j_dup hc dX1_join_80 rfl ?_
      refine j_getI hc fl_RX1_46 (Or.inl rfl) (fun hv => Or.inl (sv_k hv hm rfl)) dX1_join_81 (fun cn51 => ?_)
      refine j_iconst hc dX1_join_84 ?_
      refine j_iadd hc dX1_join_85 ?_
      refine j_w (fun x52 ex52 cx52 => ?_)
      replace h := h x52 ex52
      refine j_putI hc fl_RX1_46 rfl rfl (fun hv => Or.inl (sv_k hv hm rfl)) cx52 dX1_join_86 (fun s53 es53 => ?_)
      replace h := h s53 es53
      refine j_aload_nR hc 0 dX1_join_89 rfl rfl ?_
      refine j_getI hc fl_RX1_46 (Or.inl rfl) (fun hv => Or.inl (sv_k hv hm rfl)) dX1_join_90 (fun cn54 => ?_)
      refine j_iconst hc dX1_join_93 ?_
      refine j_isub hc dX1_join_94 ?_
      refine j_w (fun y ey cy => ?_)
      subst ey
      exact j_iret hc hr cy h dX1_join_95
    · replace h := h.2 q55
      refine j_sub (lv' := []) [] rfl ?_
      exact jb_X1_join_16 hc hm hr hh h
-- LitStrangers$Coast.worth(I)I
theorem dX1_worth_0 : decode cX1_worth 0 = .ok (.aload_n 0, 1) := by decide +kernel
theorem dX1_worth_1 : decode cX1_worth 1 = .ok (.getfield 21, 3) := by decide +kernel
theorem dX1_worth_4 : decode cX1_worth 4 = .ok (.iload_n 1, 1) := by decide +kernel
theorem dX1_worth_5 : decode cX1_worth 5 = .ok (.iaload, 1) := by decide +kernel
theorem dX1_worth_6 : decode cX1_worth 6 = .ok (.iconst 3, 1) := by decide +kernel
theorem dX1_worth_7 : decode cX1_worth 7 = .ok (.if_icmp .ne 7, 3) := by decide +kernel
theorem dX1_worth_10 : decode cX1_worth 10 = .ok (.iconst 0, 1) := by decide +kernel
theorem dX1_worth_11 : decode cX1_worth 11 = .ok (.goto 11, 3) := by decide +kernel
theorem dX1_worth_14 : decode cX1_worth 14 = .ok (.iconst 2, 1) := by decide +kernel
theorem dX1_worth_15 : decode cX1_worth 15 = .ok (.aload_n 0, 1) := by decide +kernel
theorem dX1_worth_16 : decode cX1_worth 16 = .ok (.getfield 18, 3) := by decide +kernel
theorem dX1_worth_19 : decode cX1_worth 19 = .ok (.iload_n 1, 1) := by decide +kernel
theorem dX1_worth_20 : decode cX1_worth 20 = .ok (.iaload, 1) := by decide +kernel
theorem dX1_worth_21 : decode cX1_worth 21 = .ok (.isub, 1) := by decide +kernel
theorem dX1_worth_22 : decode cX1_worth 22 = .ok (.ireturn, 1) := by decide +kernel
def B_X1_worth_22 (Q : Int → st_S → Prop)   (v0 : Int) (σ : st_S) : Prop := Q v0 σ
def wp_X1_worth (a1 : Int) (σ : st_S) (Q : Int → st_S → Prop) : Prop := ix a1 10 ∧ (¬ gI σ 29 (Int.toNat a1) = 3 → ix a1 10 ∧ ∀ x9 : Int, x9 = wr (2 - gI σ 28 (Int.toNat a1)) → B_X1_worth_22 Q x9 σ) ∧ (gI σ 29 (Int.toNat a1) = 3 → B_X1_worth_22 Q 0 σ)
set_option maxRecDepth 20000 in
theorem jb_X1_worth_22 {X : jj_X} {E : ev_E} {n0 hN : Nat} (hc : Cx X E cX1_worth 2 n0 hN RX1) (hm : eM E = 1) (hr : (xT X).sig.returnType = (some .int)) (hh : 1 ≤ hN) {Q : Int → st_S → Prop} {v0 : Int} (cv0 : wr v0 = v0) {σ : st_S} (h : B_X1_worth_22 Q v0 σ) : J X E 2 n0 0 0 (MQ (xB X) (qI E (n0 + 0) Q) (xA X) (xS X) 0 0 (eF E)) σ 22 [] [vI v0] := by
  have hh1 : 1 ≤ hN := by omega
  replace h : Q v0 σ := h
  exact j_iret hc hr cv0 h dX1_worth_22
set_option maxRecDepth 20000 in
theorem c_X1_worth {l : Launch} {E : ev_E} (hE : Eok E) (hm : eM E = 1) {a1 : Int} (ca1 : wr a1 = a1) {σ : st_S} {Q : Int → st_S → Prop} (h : wp_X1_worth a1 σ Q) : cM l yX1_worth cX1_worth 2 (some .int) E 1 0 0 [vR E 25, vI a1] σ (qI E (gN σ + 0) Q) := by
  refine cM_of (lv := [(0, vR E 25), (1, vI a1)]) (by decide) hE (Nat.le_of_ble_eq_true rfl) (rfl) ?_
  intro X hX hc _ _ hr _ _
  subst hX
  have hh : 1 ≤ 1 := Nat.le_refl _
  have hh1 : 1 ≤ 1 := by omega
  replace h : ix a1 10 ∧ (¬ gI σ 29 (Int.toNat a1) = 3 → ix a1 10 ∧ ∀ x9 : Int, x9 = wr (2 - gI σ 28 (Int.toNat a1)) → B_X1_worth_22 Q x9 σ) ∧ (gI σ 29 (Int.toNat a1) = 3 → B_X1_worth_22 Q 0 σ) := h
  refine j_aload_nR hc 0 dX1_worth_0 rfl rfl ?_
  refine j_getR (c' := 29) hc fl_RX1_21 rfl rfl (fun hv => (sv_k hv hm rfl)) dX1_worth_1 ?_
  refine j_iload_n hc 1 dX1_worth_4 rfl rfl ?_
  obtain ⟨b5, h⟩ := h
  refine j_iald (jn := (Int.toNat a1)) hc (fun hv => sv_kl hv hm rfl) ca1 b5 rfl dX1_worth_5 (fun cn6 => ?_)
  refine j_iconst hc dX1_worth_6 ?_
  refine j_ic_ne hc cn6 (wlit 3 (by decide)) (tgt := 14) dX1_worth_7 (by decide) (fun q10 => ?_) (fun q10 => ?_)
  · replace h := h.1 q10
    refine j_iconst hc dX1_worth_14 ?_
    refine j_aload_nR hc 0 dX1_worth_15 rfl rfl ?_
    refine j_getR (c' := 28) hc fl_RX1_18 rfl rfl (fun hv => (sv_k hv hm rfl)) dX1_worth_16 ?_
    refine j_iload_n hc 1 dX1_worth_19 rfl rfl ?_
    obtain ⟨b7, h⟩ := h
    refine j_iald (jn := (Int.toNat a1)) hc (fun hv => sv_kl hv hm rfl) ca1 b7 rfl dX1_worth_20 (fun cn8 => ?_)
    refine j_isub hc dX1_worth_21 ?_
    refine j_w (fun x9 ex9 cx9 => ?_)
    replace h := h x9 ex9
    refine j_sub (lv' := []) [] rfl ?_
    exact jb_X1_worth_22 hc hm hr hh cx9 h
  · replace h := h.2 q10
    refine j_iconst hc dX1_worth_10 ?_
    refine j_goto (tgt := 22) hc dX1_worth_11 (by decide) ?_
    refine j_sub (lv' := []) [] rfl ?_
    exact jb_X1_worth_22 hc hm hr hh (wlit 0 (by decide)) h
-- LitStrangers$Coast.talks(II)Z
theorem dX1_talks_0 : decode cX1_talks 0 = .ok (.aload_n 0, 1) := by decide +kernel
theorem dX1_talks_1 : decode cX1_talks 1 = .ok (.getfield 27, 3) := by decide +kernel
theorem dX1_talks_4 : decode cX1_talks 4 = .ok (.iload_n 1, 1) := by decide +kernel
theorem dX1_talks_5 : decode cX1_talks 5 = .ok (.iaload, 1) := by decide +kernel
theorem dX1_talks_6 : decode cX1_talks 6 = .ok (.iload_n 2, 1) := by decide +kernel
theorem dX1_talks_7 : decode cX1_talks 7 = .ok (.ishr, 1) := by decide +kernel
theorem dX1_talks_8 : decode cX1_talks 8 = .ok (.iconst 1, 1) := by decide +kernel
theorem dX1_talks_9 : decode cX1_talks 9 = .ok (.iand, 1) := by decide +kernel
theorem dX1_talks_10 : decode cX1_talks 10 = .ok (.ifCond .eq 7, 3) := by decide +kernel
theorem dX1_talks_13 : decode cX1_talks 13 = .ok (.iconst 1, 1) := by decide +kernel
theorem dX1_talks_14 : decode cX1_talks 14 = .ok (.goto 4, 3) := by decide +kernel
theorem dX1_talks_17 : decode cX1_talks 17 = .ok (.iconst 0, 1) := by decide +kernel
theorem dX1_talks_18 : decode cX1_talks 18 = .ok (.ireturn, 1) := by decide +kernel
def B_X1_talks_18 (Q : Int → st_S → Prop)   (v0 : Int) (σ : st_S) : Prop := (v0 = 0 ∨ v0 = 1) ∧ Q v0 σ
def wp_X1_talks (a1 : Int) (a2 : Int) (σ : st_S) (Q : Int → st_S → Prop) : Prop := ix a1 10 ∧ (o_and (o_shr (gI σ 31 (Int.toNat a1)) a2) 1 = 0 → B_X1_talks_18 Q 0 σ) ∧ (¬ o_and (o_shr (gI σ 31 (Int.toNat a1)) a2) 1 = 0 → B_X1_talks_18 Q 1 σ)
set_option maxRecDepth 20000 in
theorem jb_X1_talks_18 {X : jj_X} {E : ev_E} {n0 hN : Nat} (hc : Cx X E cX1_talks 3 n0 hN RX1) (hm : eM E = 1) (hr : (xT X).sig.returnType = (some .boolean)) (hh : 1 ≤ hN) {Q : Int → st_S → Prop} {v0 : Int} (cv0 : wr v0 = v0) {σ : st_S} (h : B_X1_talks_18 Q v0 σ) : J X E 3 n0 0 0 (MQ (xB X) (qI E (n0 + 0) Q) (xA X) (xS X) 0 0 (eF E)) σ 18 [] [vI v0] := by
  have hh1 : 1 ≤ hN := by omega
  replace h : (v0 = 0 ∨ v0 = 1) ∧ Q v0 σ := h
  exact j_zret hc hr (nar_bool h.1) (by rcases h.1 with e | e <;> (rw [e]; decide)) h.2 dX1_talks_18
set_option maxRecDepth 20000 in
theorem c_X1_talks {l : Launch} {E : ev_E} (hE : Eok E) (hm : eM E = 1) {a1 : Int} {a2 : Int} (ca1 : wr a1 = a1) (ca2 : wr a2 = a2) {σ : st_S} {Q : Int → st_S → Prop} (h : wp_X1_talks a1 a2 σ Q) : cM l yX1_talks cX1_talks 3 (some .boolean) E 1 0 0 [vR E 25, vI a1, vI a2] σ (qI E (gN σ + 0) Q) := by
  refine cM_of (lv := [(0, vR E 25), (1, vI a1), (2, vI a2)]) (by decide) hE (Nat.le_of_ble_eq_true rfl) (rfl) ?_
  intro X hX hc _ _ hr _ _
  subst hX
  have hh : 1 ≤ 1 := Nat.le_refl _
  have hh1 : 1 ≤ 1 := by omega
  replace h : ix a1 10 ∧ (o_and (o_shr (gI σ 31 (Int.toNat a1)) a2) 1 = 0 → B_X1_talks_18 Q 0 σ) ∧ (¬ o_and (o_shr (gI σ 31 (Int.toNat a1)) a2) 1 = 0 → B_X1_talks_18 Q 1 σ) := h
  refine j_aload_nR hc 0 dX1_talks_0 rfl rfl ?_
  refine j_getR (c' := 31) hc fl_RX1_27 rfl rfl (fun hv => (sv_k hv hm rfl)) dX1_talks_1 ?_
  refine j_iload_n hc 1 dX1_talks_4 rfl rfl ?_
  obtain ⟨b3, h⟩ := h
  refine j_iald (jn := (Int.toNat a1)) hc (fun hv => sv_kl hv hm rfl) ca1 b3 rfl dX1_talks_5 (fun cn4 => ?_)
  refine j_iload_n hc 2 dX1_talks_6 rfl rfl ?_
  refine j_ishr hc dX1_talks_7 ?_
  refine j_iconst hc dX1_talks_8 ?_
  refine j_iand hc dX1_talks_9 ?_
  refine j_if_eq hc (cn_and _ _) (tgt := 17) dX1_talks_10 (by decide) (fun q5 => ?_) (fun q5 => ?_)
  · replace h := h.1 q5
    refine j_iconst hc dX1_talks_17 ?_
    refine j_sub (lv' := []) [] rfl ?_
    exact jb_X1_talks_18 hc hm hr hh (wlit 0 (by decide)) h
  · replace h := h.2 q5
    refine j_iconst hc dX1_talks_13 ?_
    refine j_goto (tgt := 18) hc dX1_talks_14 (by decide) ?_
    refine j_sub (lv' := []) [] rfl ?_
    exact jb_X1_talks_18 hc hm hr hh (wlit 1 (by decide)) h
-- LitStrangers$Coast.fogOn(I)I
theorem dX1_fogOn_0 : decode cX1_fogOn 0 = .ok (.iload_n 1, 1) := by decide +kernel
theorem dX1_fogOn_1 : decode cX1_fogOn 1 = .ok (.ifCond .lt 18, 3) := by decide +kernel
theorem dX1_fogOn_4 : decode cX1_fogOn 4 = .ok (.iload_n 1, 1) := by decide +kernel
theorem dX1_fogOn_5 : decode cX1_fogOn 5 = .ok (.bipush 100, 2) := by decide +kernel
theorem dX1_fogOn_7 : decode cX1_fogOn 7 = .ok (.if_icmp .ge 12, 3) := by decide +kernel
theorem dX1_fogOn_10 : decode cX1_fogOn 10 = .ok (.aload_n 0, 1) := by decide +kernel
theorem dX1_fogOn_11 : decode cX1_fogOn 11 = .ok (.getfield 30, 3) := by decide +kernel
theorem dX1_fogOn_14 : decode cX1_fogOn 14 = .ok (.iload_n 1, 1) := by decide +kernel
theorem dX1_fogOn_15 : decode cX1_fogOn 15 = .ok (.iaload, 1) := by decide +kernel
theorem dX1_fogOn_16 : decode cX1_fogOn 16 = .ok (.goto 4, 3) := by decide +kernel
theorem dX1_fogOn_19 : decode cX1_fogOn 19 = .ok (.iconst 0, 1) := by decide +kernel
theorem dX1_fogOn_20 : decode cX1_fogOn 20 = .ok (.ireturn, 1) := by decide +kernel
def B_X1_fogOn_20 (Q : Int → st_S → Prop)   (v0 : Int) (σ : st_S) : Prop := Q v0 σ
def B_X1_fogOn_19 (Q : Int → st_S → Prop)    (σ : st_S) : Prop := B_X1_fogOn_20 Q 0 σ
def wp_X1_fogOn (a1 : Int) (σ : st_S) (Q : Int → st_S → Prop) : Prop := (a1 < 0 → B_X1_fogOn_19 Q σ) ∧ (¬ a1 < 0 → (100 ≤ a1 → B_X1_fogOn_19 Q σ) ∧ (¬ 100 ≤ a1 → ix a1 100 ∧ B_X1_fogOn_20 Q (gI σ 32 (Int.toNat a1)) σ))
set_option maxRecDepth 20000 in
theorem jb_X1_fogOn_20 {X : jj_X} {E : ev_E} {n0 hN : Nat} (hc : Cx X E cX1_fogOn 2 n0 hN RX1) (hm : eM E = 1) (hr : (xT X).sig.returnType = (some .int)) (hh : 1 ≤ hN) {Q : Int → st_S → Prop} {v0 : Int} (cv0 : wr v0 = v0) {σ : st_S} (h : B_X1_fogOn_20 Q v0 σ) : J X E 2 n0 0 0 (MQ (xB X) (qI E (n0 + 0) Q) (xA X) (xS X) 0 0 (eF E)) σ 20 [] [vI v0] := by
  have hh1 : 1 ≤ hN := by omega
  replace h : Q v0 σ := h
  exact j_iret hc hr cv0 h dX1_fogOn_20
set_option maxRecDepth 20000 in
theorem jb_X1_fogOn_19 {X : jj_X} {E : ev_E} {n0 hN : Nat} (hc : Cx X E cX1_fogOn 2 n0 hN RX1) (hm : eM E = 1) (hr : (xT X).sig.returnType = (some .int)) (hh : 1 ≤ hN) {Q : Int → st_S → Prop} {σ : st_S} (h : B_X1_fogOn_19 Q σ) : J X E 2 n0 0 0 (MQ (xB X) (qI E (n0 + 0) Q) (xA X) (xS X) 0 0 (eF E)) σ 19 [] [] := by
  have hh1 : 1 ≤ hN := by omega
  replace h : B_X1_fogOn_20 Q 0 σ := h
  refine j_iconst hc dX1_fogOn_19 ?_
  refine j_sub (lv' := []) [] rfl ?_
  exact jb_X1_fogOn_20 hc hm hr hh (wlit 0 (by decide)) h
set_option maxRecDepth 20000 in
theorem c_X1_fogOn {l : Launch} {E : ev_E} (hE : Eok E) (hm : eM E = 1) {a1 : Int} (ca1 : wr a1 = a1) {σ : st_S} {Q : Int → st_S → Prop} (h : wp_X1_fogOn a1 σ Q) : cM l yX1_fogOn cX1_fogOn 2 (some .int) E 1 0 0 [vR E 25, vI a1] σ (qI E (gN σ + 0) Q) := by
  refine cM_of (lv := [(0, vR E 25), (1, vI a1)]) (by decide) hE (Nat.le_of_ble_eq_true rfl) (rfl) ?_
  intro X hX hc _ _ hr _ _
  subst hX
  have hh : 1 ≤ 1 := Nat.le_refl _
  have hh1 : 1 ≤ 1 := by omega
  replace h : (a1 < 0 → B_X1_fogOn_19 Q σ) ∧ (¬ a1 < 0 → (100 ≤ a1 → B_X1_fogOn_19 Q σ) ∧ (¬ 100 ≤ a1 → ix a1 100 ∧ B_X1_fogOn_20 Q (gI σ 32 (Int.toNat a1)) σ)) := h
  refine j_iload_n hc 1 dX1_fogOn_0 rfl rfl ?_
  refine j_if_lt hc ca1 (tgt := 19) dX1_fogOn_1 (by decide) (fun q6 => ?_) (fun q6 => ?_)
  · replace h := h.1 q6
    refine j_sub (lv' := []) [] rfl ?_
    exact jb_X1_fogOn_19 hc hm hr hh h
  · replace h := h.2 q6
    refine j_iload_n hc 1 dX1_fogOn_4 rfl rfl ?_
    refine j_bipush hc dX1_fogOn_5 (by decide) ?_
    refine j_ic_ge hc ca1 (wlit 100 (by decide)) (tgt := 19) dX1_fogOn_7 (by decide) (fun q5 => ?_) (fun q5 => ?_)
    · replace h := h.1 q5
      refine j_sub (lv' := []) [] rfl ?_
      exact jb_X1_fogOn_19 hc hm hr hh h
    · replace h := h.2 q5
      refine j_aload_nR hc 0 dX1_fogOn_10 rfl rfl ?_
      refine j_getR (c' := 32) hc fl_RX1_30 rfl rfl (fun hv => (sv_k hv hm rfl)) dX1_fogOn_11 ?_
      refine j_iload_n hc 1 dX1_fogOn_14 rfl rfl ?_
      obtain ⟨b3, h⟩ := h
      refine j_iald (jn := (Int.toNat a1)) hc (fun hv => sv_kl hv hm rfl) ca1 b3 rfl dX1_fogOn_15 (fun cn4 => ?_)
      refine j_goto (tgt := 20) hc dX1_fogOn_16 (by decide) ?_
      refine j_sub (lv' := []) [] rfl ?_
      exact jb_X1_fogOn_20 hc hm hr hh cn4 h
-- LitStrangers$Coast.anyOnRoad()Z
theorem dX1_anyOnRoad_0 : decode cX1_anyOnRoad 0 = .ok (.iconst 0, 1) := by decide +kernel
theorem dX1_anyOnRoad_1 : decode cX1_anyOnRoad 1 = .ok (.istore_n 1, 1) := by decide +kernel
theorem dX1_anyOnRoad_2 : decode cX1_anyOnRoad 2 = .ok (.iload_n 1, 1) := by decide +kernel
theorem dX1_anyOnRoad_3 : decode cX1_anyOnRoad 3 = .ok (.aload_n 0, 1) := by decide +kernel
theorem dX1_anyOnRoad_4 : decode cX1_anyOnRoad 4 = .ok (.getfield 46, 3) := by decide +kernel
theorem dX1_anyOnRoad_7 : decode cX1_anyOnRoad 7 = .ok (.if_icmp .ge 21, 3) := by decide +kernel
theorem dX1_anyOnRoad_10 : decode cX1_anyOnRoad 10 = .ok (.aload_n 0, 1) := by decide +kernel
theorem dX1_anyOnRoad_11 : decode cX1_anyOnRoad 11 = .ok (.getfield 21, 3) := by decide +kernel
theorem dX1_anyOnRoad_14 : decode cX1_anyOnRoad 14 = .ok (.iload_n 1, 1) := by decide +kernel
theorem dX1_anyOnRoad_15 : decode cX1_anyOnRoad 15 = .ok (.iaload, 1) := by decide +kernel
theorem dX1_anyOnRoad_16 : decode cX1_anyOnRoad 16 = .ok (.iconst 1, 1) := by decide +kernel
theorem dX1_anyOnRoad_17 : decode cX1_anyOnRoad 17 = .ok (.if_icmp .ne 5, 3) := by decide +kernel
theorem dX1_anyOnRoad_20 : decode cX1_anyOnRoad 20 = .ok (.iconst 1, 1) := by decide +kernel
theorem dX1_anyOnRoad_21 : decode cX1_anyOnRoad 21 = .ok (.ireturn, 1) := by decide +kernel
theorem dX1_anyOnRoad_22 : decode cX1_anyOnRoad 22 = .ok (.iinc 1 1, 3) := by decide +kernel
theorem dX1_anyOnRoad_25 : decode cX1_anyOnRoad 25 = .ok (.goto (-23), 3) := by decide +kernel
theorem dX1_anyOnRoad_28 : decode cX1_anyOnRoad 28 = .ok (.iconst 0, 1) := by decide +kernel
theorem dX1_anyOnRoad_29 : decode cX1_anyOnRoad 29 = .ok (.ireturn, 1) := by decide +kernel
def L_X1_anyOnRoad_2 (Q : Int → st_S → Prop)   : Nat → Int → st_S → Prop
  | 0 => fun _ _ => False
  | n + 1 => fun l1 σ => (gI σ 25 0 ≤ l1 → Q 0 σ) ∧ (¬ gI σ 25 0 ≤ l1 → ix l1 10 ∧ (¬ gI σ 29 (Int.toNat l1) = 1 → ∀ x9 : Int, x9 = wr (l1 + 1) → (L_X1_anyOnRoad_2 Q n) x9 σ) ∧ (gI σ 29 (Int.toNat l1) = 1 → Q 1 σ))
def wp_X1_anyOnRoad  (σ : st_S) (Q : Int → st_S → Prop) : Prop := ∃ m2 : Nat, L_X1_anyOnRoad_2 Q m2 0 σ
set_option maxRecDepth 20000 in
theorem jl_X1_anyOnRoad_2 {X : jj_X} {E : ev_E} {n0 hN : Nat} (hc : Cx X E cX1_anyOnRoad 2 n0 hN RX1) (hm : eM E = 1) (hr : (xT X).sig.returnType = (some .boolean)) (hh : 1 ≤ hN) {Q : Int → st_S → Prop} : ∀ (n : Nat) {l1 : Int} (cl1 : wr l1 = l1) {σ : st_S}, L_X1_anyOnRoad_2 Q n l1 σ → J X E 2 n0 0 0 (MQ (xB X) (qI E (n0 + 0) Q) (xA X) (xS X) 0 0 (eF E)) σ 2 [(0, vR E 25), (1, vI l1)] [] := by
  have hh1 : 1 ≤ hN := by omega
  intro n
  induction n with
  | zero => intro l1 cl1 σ h; exact h.elim
  | succ n ih =>
    intro l1 cl1 σ h
    have hk2 : ∀ {l1 : Int} (cl1 : wr l1 = l1) {σ : st_S}, L_X1_anyOnRoad_2 Q n l1 σ → J X E 2 n0 0 0 (MQ (xB X) (qI E (n0 + 0) Q) (xA X) (xS X) 0 0 (eF E)) σ 2 [(0, vR E 25), (1, vI l1)] [] := ih
    replace h : (gI σ 25 0 ≤ l1 → Q 0 σ) ∧ (¬ gI σ 25 0 ≤ l1 → ix l1 10 ∧ (¬ gI σ 29 (Int.toNat l1) = 1 → ∀ x9 : Int, x9 = wr (l1 + 1) → (L_X1_anyOnRoad_2 Q n) x9 σ) ∧ (gI σ 29 (Int.toNat l1) = 1 → Q 1 σ)) := h
    refine j_iload_n hc 1 dX1_anyOnRoad_2 rfl rfl ?_
    refine j_aload_nR hc 0 dX1_anyOnRoad_3 rfl rfl ?_
    refine j_getI hc fl_RX1_46 (Or.inl rfl) (fun hv => Or.inl (sv_k hv hm rfl)) dX1_anyOnRoad_4 (fun cn6 => ?_)
    refine j_ic_ge hc cl1 cn6 (tgt := 28) dX1_anyOnRoad_7 (by decide) (fun q11 => ?_) (fun q11 => ?_)
    · replace h := h.1 q11
      refine j_iconst hc dX1_anyOnRoad_28 ?_
      exact j_zret hc hr (nar_bool (Or.inl rfl)) (by decide) h dX1_anyOnRoad_29
    · replace h := h.2 q11
      refine j_aload_nR hc 0 dX1_anyOnRoad_10 rfl rfl ?_
      refine j_getR (c' := 29) hc fl_RX1_21 rfl rfl (fun hv => (sv_k hv hm rfl)) dX1_anyOnRoad_11 ?_
      refine j_iload_n hc 1 dX1_anyOnRoad_14 rfl rfl ?_
      obtain ⟨b7, h⟩ := h
      refine j_iald (jn := (Int.toNat l1)) hc (fun hv => sv_kl hv hm rfl) cl1 b7 rfl dX1_anyOnRoad_15 (fun cn8 => ?_)
      refine j_iconst hc dX1_anyOnRoad_16 ?_
      refine j_ic_ne hc cn8 (wlit 1 (by decide)) (tgt := 22) dX1_anyOnRoad_17 (by decide) (fun q10 => ?_) (fun q10 => ?_)
      · replace h := h.1 q10
        obtain ⟨x9, ex9⟩ : ∃ y : Int, y = wr (l1 + 1) := ⟨_, rfl⟩
        have cx9 : wr x9 = x9 := by rw [ex9]; exact wr_wr _
        replace h := h x9 ex9
        refine j_iinc (lv' := [(1, vI x9), (0, vR E 25)]) hc 1 dX1_anyOnRoad_22 rfl (by decide) ex9 rfl ?_
        refine j_goto (tgt := 2) hc dX1_anyOnRoad_25 (by decide) ?_
        refine j_sub (lv' := [(0, vR E 25), (1, vI x9)]) [1, 0] rfl ?_
        exact hk2 cx9 h
      · replace h := h.2 q10
        refine j_iconst hc dX1_anyOnRoad_20 ?_
        exact j_zret hc hr (nar_bool (Or.inr rfl)) (by decide) h dX1_anyOnRoad_21
set_option maxRecDepth 20000 in
theorem c_X1_anyOnRoad {l : Launch} {E : ev_E} (hE : Eok E) (hm : eM E = 1) {σ : st_S} {Q : Int → st_S → Prop} (h : wp_X1_anyOnRoad σ Q) : cM l yX1_anyOnRoad cX1_anyOnRoad 2 (some .boolean) E 1 0 0 [vR E 25] σ (qI E (gN σ + 0) Q) := by
  refine cM_of (lv := [(0, vR E 25)]) (by decide) hE (Nat.le_of_ble_eq_true rfl) (rfl) ?_
  intro X hX hc _ _ hr _ _
  subst hX
  have hh : 1 ≤ 1 := Nat.le_refl _
  have hh1 : 1 ≤ 1 := by omega
  replace h : ∃ m2 : Nat, L_X1_anyOnRoad_2 Q m2 0 σ := h
  refine j_iconst hc dX1_anyOnRoad_0 ?_
  refine j_istore_n (lv' := [(1, vI 0), (0, vR E 25)]) hc dX1_anyOnRoad_1 rfl (by decide) rfl ?_
  obtain ⟨n2, h⟩ := h
  refine j_sub (lv' := [(0, vR E 25), (1, vI 0)]) [1, 0] rfl ?_
  exact jl_X1_anyOnRoad_2 hc hm hr hh n2 (wlit 0 (by decide)) h
-- LitStrangers$Coast.here()I
theorem dX1_here_0 : decode cX1_here 0 = .ok (.iconst 0, 1) := by decide +kernel
theorem dX1_here_1 : decode cX1_here 1 = .ok (.istore_n 1, 1) := by decide +kernel
theorem dX1_here_2 : decode cX1_here 2 = .ok (.iconst 0, 1) := by decide +kernel
theorem dX1_here_3 : decode cX1_here 3 = .ok (.istore_n 2, 1) := by decide +kernel
theorem dX1_here_4 : decode cX1_here 4 = .ok (.iload_n 2, 1) := by decide +kernel
theorem dX1_here_5 : decode cX1_here 5 = .ok (.aload_n 0, 1) := by decide +kernel
theorem dX1_here_6 : decode cX1_here 6 = .ok (.getfield 46, 3) := by decide +kernel
theorem dX1_here_9 : decode cX1_here 9 = .ok (.if_icmp .ge 25, 3) := by decide +kernel
theorem dX1_here_12 : decode cX1_here 12 = .ok (.aload_n 0, 1) := by decide +kernel
theorem dX1_here_13 : decode cX1_here 13 = .ok (.getfield 21, 3) := by decide +kernel
theorem dX1_here_16 : decode cX1_here 16 = .ok (.iload_n 2, 1) := by decide +kernel
theorem dX1_here_17 : decode cX1_here 17 = .ok (.iaload, 1) := by decide +kernel
theorem dX1_here_18 : decode cX1_here 18 = .ok (.iconst 2, 1) := by decide +kernel
theorem dX1_here_19 : decode cX1_here 19 = .ok (.if_icmp .ne 9, 3) := by decide +kernel
theorem dX1_here_22 : decode cX1_here 22 = .ok (.iload_n 1, 1) := by decide +kernel
theorem dX1_here_23 : decode cX1_here 23 = .ok (.iconst 1, 1) := by decide +kernel
theorem dX1_here_24 : decode cX1_here 24 = .ok (.iload_n 2, 1) := by decide +kernel
theorem dX1_here_25 : decode cX1_here 25 = .ok (.ishl, 1) := by decide +kernel
theorem dX1_here_26 : decode cX1_here 26 = .ok (.ior, 1) := by decide +kernel
theorem dX1_here_27 : decode cX1_here 27 = .ok (.istore_n 1, 1) := by decide +kernel
theorem dX1_here_28 : decode cX1_here 28 = .ok (.iinc 2 1, 3) := by decide +kernel
theorem dX1_here_31 : decode cX1_here 31 = .ok (.goto (-27), 3) := by decide +kernel
theorem dX1_here_34 : decode cX1_here 34 = .ok (.iload_n 1, 1) := by decide +kernel
theorem dX1_here_35 : decode cX1_here 35 = .ok (.ireturn, 1) := by decide +kernel
def B_X1_here_28 (Q : Int → st_S → Prop)  (k4 : Int → Int → st_S → Prop) (l1 : Int) (l2 : Int) (σ : st_S) : Prop := ∀ x8 : Int, x8 = wr (l2 + 1) → k4 l1 x8 σ
def L_X1_here_4 (Q : Int → st_S → Prop)   : Nat → Int → Int → st_S → Prop
  | 0 => fun _ _ _ => False
  | n + 1 => fun l1 l2 σ => (gI σ 25 0 ≤ l2 → Q l1 σ) ∧ (¬ gI σ 25 0 ≤ l2 → ix l2 10 ∧ (¬ gI σ 29 (Int.toNat l2) = 2 → B_X1_here_28 Q (L_X1_here_4 Q n) l1 l2 σ) ∧ (gI σ 29 (Int.toNat l2) = 2 → ∀ x12 : Int, x12 = o_or l1 (o_shl 1 l2) → B_X1_here_28 Q (L_X1_here_4 Q n) x12 l2 σ))
def wp_X1_here  (σ : st_S) (Q : Int → st_S → Prop) : Prop := ∃ m4 : Nat, L_X1_here_4 Q m4 0 0 σ
set_option maxRecDepth 20000 in
theorem jb_X1_here_28 {X : jj_X} {E : ev_E} {n0 hN : Nat} (hc : Cx X E cX1_here 3 n0 hN RX1) (hm : eM E = 1) (hr : (xT X).sig.returnType = (some .int)) (hh : 1 ≤ hN) {Q : Int → st_S → Prop} {k4 : Int → Int → st_S → Prop} (hk4 : ∀ {l1 : Int} {l2 : Int} (cl1 : wr l1 = l1) (cl2 : wr l2 = l2) {σ : st_S}, k4 l1 l2 σ → J X E 3 n0 0 0 (MQ (xB X) (qI E (n0 + 0) Q) (xA X) (xS X) 0 0 (eF E)) σ 4 [(0, vR E 25), (1, vI l1), (2, vI l2)] []) {l1 : Int} {l2 : Int} (cl1 : wr l1 = l1) (cl2 : wr l2 = l2) {σ : st_S} (h : B_X1_here_28 Q k4 l1 l2 σ) : J X E 3 n0 0 0 (MQ (xB X) (qI E (n0 + 0) Q) (xA X) (xS X) 0 0 (eF E)) σ 28 [(0, vR E 25), (1, vI l1), (2, vI l2)] [] := by
  have hh1 : 1 ≤ hN := by omega
  replace h : ∀ x8 : Int, x8 = wr (l2 + 1) → k4 l1 x8 σ := h
  obtain ⟨x8, ex8⟩ : ∃ y : Int, y = wr (l2 + 1) := ⟨_, rfl⟩
  have cx8 : wr x8 = x8 := by rw [ex8]; exact wr_wr _
  replace h := h x8 ex8
  refine j_iinc (lv' := [(2, vI x8), (0, vR E 25), (1, vI l1)]) hc 2 dX1_here_28 rfl (by decide) ex8 rfl ?_
  refine j_goto (tgt := 4) hc dX1_here_31 (by decide) ?_
  refine j_sub (lv' := [(0, vR E 25), (1, vI l1), (2, vI x8)]) [1, 2, 0] rfl ?_
  exact hk4 cl1 cx8 h
set_option maxRecDepth 20000 in
theorem jl_X1_here_4 {X : jj_X} {E : ev_E} {n0 hN : Nat} (hc : Cx X E cX1_here 3 n0 hN RX1) (hm : eM E = 1) (hr : (xT X).sig.returnType = (some .int)) (hh : 1 ≤ hN) {Q : Int → st_S → Prop} : ∀ (n : Nat) {l1 : Int} {l2 : Int} (cl1 : wr l1 = l1) (cl2 : wr l2 = l2) {σ : st_S}, L_X1_here_4 Q n l1 l2 σ → J X E 3 n0 0 0 (MQ (xB X) (qI E (n0 + 0) Q) (xA X) (xS X) 0 0 (eF E)) σ 4 [(0, vR E 25), (1, vI l1), (2, vI l2)] [] := by
  have hh1 : 1 ≤ hN := by omega
  intro n
  induction n with
  | zero => intro l1 l2 cl1 cl2 σ h; exact h.elim
  | succ n ih =>
    intro l1 l2 cl1 cl2 σ h
    have hk4 : ∀ {l1 : Int} {l2 : Int} (cl1 : wr l1 = l1) (cl2 : wr l2 = l2) {σ : st_S}, L_X1_here_4 Q n l1 l2 σ → J X E 3 n0 0 0 (MQ (xB X) (qI E (n0 + 0) Q) (xA X) (xS X) 0 0 (eF E)) σ 4 [(0, vR E 25), (1, vI l1), (2, vI l2)] [] := ih
    replace h : (gI σ 25 0 ≤ l2 → Q l1 σ) ∧ (¬ gI σ 25 0 ≤ l2 → ix l2 10 ∧ (¬ gI σ 29 (Int.toNat l2) = 2 → B_X1_here_28 Q (L_X1_here_4 Q n) l1 l2 σ) ∧ (gI σ 29 (Int.toNat l2) = 2 → ∀ x12 : Int, x12 = o_or l1 (o_shl 1 l2) → B_X1_here_28 Q (L_X1_here_4 Q n) x12 l2 σ)) := h
    refine j_iload_n hc 2 dX1_here_4 rfl rfl ?_
    refine j_aload_nR hc 0 dX1_here_5 rfl rfl ?_
    refine j_getI hc fl_RX1_46 (Or.inl rfl) (fun hv => Or.inl (sv_k hv hm rfl)) dX1_here_6 (fun cn9 => ?_)
    refine j_ic_ge hc cl2 cn9 (tgt := 34) dX1_here_9 (by decide) (fun q14 => ?_) (fun q14 => ?_)
    · replace h := h.1 q14
      refine j_iload_n hc 1 dX1_here_34 rfl rfl ?_
      exact j_iret hc hr cl1 h dX1_here_35
    · replace h := h.2 q14
      refine j_aload_nR hc 0 dX1_here_12 rfl rfl ?_
      refine j_getR (c' := 29) hc fl_RX1_21 rfl rfl (fun hv => (sv_k hv hm rfl)) dX1_here_13 ?_
      refine j_iload_n hc 2 dX1_here_16 rfl rfl ?_
      obtain ⟨b10, h⟩ := h
      refine j_iald (jn := (Int.toNat l2)) hc (fun hv => sv_kl hv hm rfl) cl2 b10 rfl dX1_here_17 (fun cn11 => ?_)
      refine j_iconst hc dX1_here_18 ?_
      refine j_ic_ne hc cn11 (wlit 2 (by decide)) (tgt := 28) dX1_here_19 (by decide) (fun q13 => ?_) (fun q13 => ?_)
      · replace h := h.1 q13
        refine j_sub (lv' := [(0, vR E 25), (1, vI l1), (2, vI l2)]) [0, 1, 2] rfl ?_
        exact jb_X1_here_28 hc hm hr hh hk4 cl1 cl2 h
      · replace h := h.2 q13
        refine j_iload_n hc 1 dX1_here_22 rfl rfl ?_
        refine j_iconst hc dX1_here_23 ?_
        refine j_iload_n hc 2 dX1_here_24 rfl rfl ?_
        refine j_ishl hc dX1_here_25 ?_
        refine j_ior hc dX1_here_26 ?_
        refine j_c (cn_or _ _) (fun x12 ex12 cx12 => ?_)
        replace h := h x12 ex12
        refine j_istore_n (lv' := [(1, vI x12), (0, vR E 25), (2, vI l2)]) hc dX1_here_27 rfl (by decide) rfl ?_
        refine j_sub (lv' := [(0, vR E 25), (1, vI x12), (2, vI l2)]) [1, 0, 2] rfl ?_
        exact jb_X1_here_28 hc hm hr hh hk4 cx12 cl2 h
set_option maxRecDepth 20000 in
theorem c_X1_here {l : Launch} {E : ev_E} (hE : Eok E) (hm : eM E = 1) {σ : st_S} {Q : Int → st_S → Prop} (h : wp_X1_here σ Q) : cM l yX1_here cX1_here 3 (some .int) E 1 0 0 [vR E 25] σ (qI E (gN σ + 0) Q) := by
  refine cM_of (lv := [(0, vR E 25)]) (by decide) hE (Nat.le_of_ble_eq_true rfl) (rfl) ?_
  intro X hX hc _ _ hr _ _
  subst hX
  have hh : 1 ≤ 1 := Nat.le_refl _
  have hh1 : 1 ≤ 1 := by omega
  replace h : ∃ m4 : Nat, L_X1_here_4 Q m4 0 0 σ := h
  refine j_iconst hc dX1_here_0 ?_
  refine j_istore_n (lv' := [(1, vI 0), (0, vR E 25)]) hc dX1_here_1 rfl (by decide) rfl ?_
  refine j_iconst hc dX1_here_2 ?_
  refine j_istore_n (lv' := [(2, vI 0), (1, vI 0), (0, vR E 25)]) hc dX1_here_3 rfl (by decide) rfl ?_
  obtain ⟨n4, h⟩ := h
  refine j_sub (lv' := [(0, vR E 25), (1, vI 0), (2, vI 0)]) [2, 1, 0] rfl ?_
  exact jl_X1_here_4 hc hm hr hh n4 (wlit 0 (by decide)) (wlit 0 (by decide)) h
-- LitStrangers$Coast.peopleOf(I)I
theorem dX1_peopleOf_0 : decode cX1_peopleOf 0 = .ok (.iconst 0, 1) := by decide +kernel
theorem dX1_peopleOf_1 : decode cX1_peopleOf 1 = .ok (.istore_n 2, 1) := by decide +kernel
theorem dX1_peopleOf_2 : decode cX1_peopleOf 2 = .ok (.iconst 0, 1) := by decide +kernel
theorem dX1_peopleOf_3 : decode cX1_peopleOf 3 = .ok (.istore_n 3, 1) := by decide +kernel
theorem dX1_peopleOf_4 : decode cX1_peopleOf 4 = .ok (.iload_n 3, 1) := by decide +kernel
theorem dX1_peopleOf_5 : decode cX1_peopleOf 5 = .ok (.aload_n 0, 1) := by decide +kernel
theorem dX1_peopleOf_6 : decode cX1_peopleOf 6 = .ok (.getfield 46, 3) := by decide +kernel
theorem dX1_peopleOf_9 : decode cX1_peopleOf 9 = .ok (.if_icmp .ge 25, 3) := by decide +kernel
theorem dX1_peopleOf_12 : decode cX1_peopleOf 12 = .ok (.aload_n 0, 1) := by decide +kernel
theorem dX1_peopleOf_13 : decode cX1_peopleOf 13 = .ok (.getfield 15, 3) := by decide +kernel
theorem dX1_peopleOf_16 : decode cX1_peopleOf 16 = .ok (.iload_n 3, 1) := by decide +kernel
theorem dX1_peopleOf_17 : decode cX1_peopleOf 17 = .ok (.iaload, 1) := by decide +kernel
theorem dX1_peopleOf_18 : decode cX1_peopleOf 18 = .ok (.iload_n 1, 1) := by decide +kernel
theorem dX1_peopleOf_19 : decode cX1_peopleOf 19 = .ok (.if_icmp .ne 9, 3) := by decide +kernel
theorem dX1_peopleOf_22 : decode cX1_peopleOf 22 = .ok (.iload_n 2, 1) := by decide +kernel
theorem dX1_peopleOf_23 : decode cX1_peopleOf 23 = .ok (.iconst 1, 1) := by decide +kernel
theorem dX1_peopleOf_24 : decode cX1_peopleOf 24 = .ok (.iload_n 3, 1) := by decide +kernel
theorem dX1_peopleOf_25 : decode cX1_peopleOf 25 = .ok (.ishl, 1) := by decide +kernel
theorem dX1_peopleOf_26 : decode cX1_peopleOf 26 = .ok (.ior, 1) := by decide +kernel
theorem dX1_peopleOf_27 : decode cX1_peopleOf 27 = .ok (.istore_n 2, 1) := by decide +kernel
theorem dX1_peopleOf_28 : decode cX1_peopleOf 28 = .ok (.iinc 3 1, 3) := by decide +kernel
theorem dX1_peopleOf_31 : decode cX1_peopleOf 31 = .ok (.goto (-27), 3) := by decide +kernel
theorem dX1_peopleOf_34 : decode cX1_peopleOf 34 = .ok (.iload_n 2, 1) := by decide +kernel
theorem dX1_peopleOf_35 : decode cX1_peopleOf 35 = .ok (.ireturn, 1) := by decide +kernel
def B_X1_peopleOf_28 (Q : Int → st_S → Prop)  (k4 : Int → Int → Int → st_S → Prop) (l1 : Int) (l2 : Int) (l3 : Int) (σ : st_S) : Prop := ∀ x8 : Int, x8 = wr (l3 + 1) → k4 l1 l2 x8 σ
def L_X1_peopleOf_4 (Q : Int → st_S → Prop)   : Nat → Int → Int → Int → st_S → Prop
  | 0 => fun _ _ _ _ => False
  | n + 1 => fun l1 l2 l3 σ => (gI σ 25 0 ≤ l3 → Q l2 σ) ∧ (¬ gI σ 25 0 ≤ l3 → ix l3 10 ∧ (¬ gI σ 27 (Int.toNat l3) = l1 → B_X1_peopleOf_28 Q (L_X1_peopleOf_4 Q n) l1 l2 l3 σ) ∧ (gI σ 27 (Int.toNat l3) = l1 → ∀ x12 : Int, x12 = o_or l2 (o_shl 1 l3) → B_X1_peopleOf_28 Q (L_X1_peopleOf_4 Q n) l1 x12 l3 σ))
def wp_X1_peopleOf (a1 : Int) (σ : st_S) (Q : Int → st_S → Prop) : Prop := ∃ m4 : Nat, L_X1_peopleOf_4 Q m4 a1 0 0 σ
set_option maxRecDepth 20000 in
theorem jb_X1_peopleOf_28 {X : jj_X} {E : ev_E} {n0 hN : Nat} (hc : Cx X E cX1_peopleOf 4 n0 hN RX1) (hm : eM E = 1) (hr : (xT X).sig.returnType = (some .int)) (hh : 1 ≤ hN) {Q : Int → st_S → Prop} {k4 : Int → Int → Int → st_S → Prop} (hk4 : ∀ {l1 : Int} {l2 : Int} {l3 : Int} (cl1 : wr l1 = l1) (cl2 : wr l2 = l2) (cl3 : wr l3 = l3) {σ : st_S}, k4 l1 l2 l3 σ → J X E 4 n0 0 0 (MQ (xB X) (qI E (n0 + 0) Q) (xA X) (xS X) 0 0 (eF E)) σ 4 [(0, vR E 25), (1, vI l1), (2, vI l2), (3, vI l3)] []) {l1 : Int} {l2 : Int} {l3 : Int} (cl1 : wr l1 = l1) (cl2 : wr l2 = l2) (cl3 : wr l3 = l3) {σ : st_S} (h : B_X1_peopleOf_28 Q k4 l1 l2 l3 σ) : J X E 4 n0 0 0 (MQ (xB X) (qI E (n0 + 0) Q) (xA X) (xS X) 0 0 (eF E)) σ 28 [(0, vR E 25), (1, vI l1), (2, vI l2), (3, vI l3)] [] := by
  have hh1 : 1 ≤ hN := by omega
  replace h : ∀ x8 : Int, x8 = wr (l3 + 1) → k4 l1 l2 x8 σ := h
  obtain ⟨x8, ex8⟩ : ∃ y : Int, y = wr (l3 + 1) := ⟨_, rfl⟩
  have cx8 : wr x8 = x8 := by rw [ex8]; exact wr_wr _
  replace h := h x8 ex8
  refine j_iinc (lv' := [(3, vI x8), (0, vR E 25), (1, vI l1), (2, vI l2)]) hc 3 dX1_peopleOf_28 rfl (by decide) ex8 rfl ?_
  refine j_goto (tgt := 4) hc dX1_peopleOf_31 (by decide) ?_
  refine j_sub (lv' := [(0, vR E 25), (1, vI l1), (2, vI l2), (3, vI x8)]) [1, 2, 3, 0] rfl ?_
  exact hk4 cl1 cl2 cx8 h
set_option maxRecDepth 20000 in
theorem jl_X1_peopleOf_4 {X : jj_X} {E : ev_E} {n0 hN : Nat} (hc : Cx X E cX1_peopleOf 4 n0 hN RX1) (hm : eM E = 1) (hr : (xT X).sig.returnType = (some .int)) (hh : 1 ≤ hN) {Q : Int → st_S → Prop} : ∀ (n : Nat) {l1 : Int} {l2 : Int} {l3 : Int} (cl1 : wr l1 = l1) (cl2 : wr l2 = l2) (cl3 : wr l3 = l3) {σ : st_S}, L_X1_peopleOf_4 Q n l1 l2 l3 σ → J X E 4 n0 0 0 (MQ (xB X) (qI E (n0 + 0) Q) (xA X) (xS X) 0 0 (eF E)) σ 4 [(0, vR E 25), (1, vI l1), (2, vI l2), (3, vI l3)] [] := by
  have hh1 : 1 ≤ hN := by omega
  intro n
  induction n with
  | zero => intro l1 l2 l3 cl1 cl2 cl3 σ h; exact h.elim
  | succ n ih =>
    intro l1 l2 l3 cl1 cl2 cl3 σ h
    have hk4 : ∀ {l1 : Int} {l2 : Int} {l3 : Int} (cl1 : wr l1 = l1) (cl2 : wr l2 = l2) (cl3 : wr l3 = l3) {σ : st_S}, L_X1_peopleOf_4 Q n l1 l2 l3 σ → J X E 4 n0 0 0 (MQ (xB X) (qI E (n0 + 0) Q) (xA X) (xS X) 0 0 (eF E)) σ 4 [(0, vR E 25), (1, vI l1), (2, vI l2), (3, vI l3)] [] := ih
    replace h : (gI σ 25 0 ≤ l3 → Q l2 σ) ∧ (¬ gI σ 25 0 ≤ l3 → ix l3 10 ∧ (¬ gI σ 27 (Int.toNat l3) = l1 → B_X1_peopleOf_28 Q (L_X1_peopleOf_4 Q n) l1 l2 l3 σ) ∧ (gI σ 27 (Int.toNat l3) = l1 → ∀ x12 : Int, x12 = o_or l2 (o_shl 1 l3) → B_X1_peopleOf_28 Q (L_X1_peopleOf_4 Q n) l1 x12 l3 σ)) := h
    refine j_iload_n hc 3 dX1_peopleOf_4 rfl rfl ?_
    refine j_aload_nR hc 0 dX1_peopleOf_5 rfl rfl ?_
    refine j_getI hc fl_RX1_46 (Or.inl rfl) (fun hv => Or.inl (sv_k hv hm rfl)) dX1_peopleOf_6 (fun cn9 => ?_)
    refine j_ic_ge hc cl3 cn9 (tgt := 34) dX1_peopleOf_9 (by decide) (fun q14 => ?_) (fun q14 => ?_)
    · replace h := h.1 q14
      refine j_iload_n hc 2 dX1_peopleOf_34 rfl rfl ?_
      exact j_iret hc hr cl2 h dX1_peopleOf_35
    · replace h := h.2 q14
      refine j_aload_nR hc 0 dX1_peopleOf_12 rfl rfl ?_
      refine j_getR (c' := 27) hc fl_RX1_15 rfl rfl (fun hv => (sv_k hv hm rfl)) dX1_peopleOf_13 ?_
      refine j_iload_n hc 3 dX1_peopleOf_16 rfl rfl ?_
      obtain ⟨b10, h⟩ := h
      refine j_iald (jn := (Int.toNat l3)) hc (fun hv => sv_kl hv hm rfl) cl3 b10 rfl dX1_peopleOf_17 (fun cn11 => ?_)
      refine j_iload_n hc 1 dX1_peopleOf_18 rfl rfl ?_
      refine j_ic_ne hc cn11 cl1 (tgt := 28) dX1_peopleOf_19 (by decide) (fun q13 => ?_) (fun q13 => ?_)
      · replace h := h.1 q13
        refine j_sub (lv' := [(0, vR E 25), (1, vI l1), (2, vI l2), (3, vI l3)]) [0, 1, 2, 3] rfl ?_
        exact jb_X1_peopleOf_28 hc hm hr hh hk4 cl1 cl2 cl3 h
      · replace h := h.2 q13
        refine j_iload_n hc 2 dX1_peopleOf_22 rfl rfl ?_
        refine j_iconst hc dX1_peopleOf_23 ?_
        refine j_iload_n hc 3 dX1_peopleOf_24 rfl rfl ?_
        refine j_ishl hc dX1_peopleOf_25 ?_
        refine j_ior hc dX1_peopleOf_26 ?_
        refine j_c (cn_or _ _) (fun x12 ex12 cx12 => ?_)
        replace h := h x12 ex12
        refine j_istore_n (lv' := [(2, vI x12), (0, vR E 25), (1, vI l1), (3, vI l3)]) hc dX1_peopleOf_27 rfl (by decide) rfl ?_
        refine j_sub (lv' := [(0, vR E 25), (1, vI l1), (2, vI x12), (3, vI l3)]) [1, 2, 0, 3] rfl ?_
        exact jb_X1_peopleOf_28 hc hm hr hh hk4 cl1 cx12 cl3 h
set_option maxRecDepth 20000 in
theorem c_X1_peopleOf {l : Launch} {E : ev_E} (hE : Eok E) (hm : eM E = 1) {a1 : Int} (ca1 : wr a1 = a1) {σ : st_S} {Q : Int → st_S → Prop} (h : wp_X1_peopleOf a1 σ Q) : cM l yX1_peopleOf cX1_peopleOf 4 (some .int) E 1 0 0 [vR E 25, vI a1] σ (qI E (gN σ + 0) Q) := by
  refine cM_of (lv := [(0, vR E 25), (1, vI a1)]) (by decide) hE (Nat.le_of_ble_eq_true rfl) (rfl) ?_
  intro X hX hc _ _ hr _ _
  subst hX
  have hh : 1 ≤ 1 := Nat.le_refl _
  have hh1 : 1 ≤ 1 := by omega
  replace h : ∃ m4 : Nat, L_X1_peopleOf_4 Q m4 a1 0 0 σ := h
  refine j_iconst hc dX1_peopleOf_0 ?_
  refine j_istore_n (lv' := [(2, vI 0), (0, vR E 25), (1, vI a1)]) hc dX1_peopleOf_1 rfl (by decide) rfl ?_
  refine j_iconst hc dX1_peopleOf_2 ?_
  refine j_istore_n (lv' := [(3, vI 0), (2, vI 0), (0, vR E 25), (1, vI a1)]) hc dX1_peopleOf_3 rfl (by decide) rfl ?_
  obtain ⟨n4, h⟩ := h
  refine j_sub (lv' := [(0, vR E 25), (1, vI a1), (2, vI 0), (3, vI 0)]) [2, 3, 1, 0] rfl ?_
  exact jl_X1_peopleOf_4 hc hm hr hh n4 ca1 (wlit 0 (by decide)) (wlit 0 (by decide)) h
-- java/lang/Integer.bitCount(I)I
theorem dJ6_bitCount_0f7a4_0 : decode cJ6_bitCount_0f7a4 0 = .ok (.iload_n 0, 1) := by decide +kernel
theorem dJ6_bitCount_0f7a4_1 : decode cJ6_bitCount_0f7a4 1 = .ok (.iload_n 0, 1) := by decide +kernel
theorem dJ6_bitCount_0f7a4_2 : decode cJ6_bitCount_0f7a4 2 = .ok (.iconst 1, 1) := by decide +kernel
theorem dJ6_bitCount_0f7a4_3 : decode cJ6_bitCount_0f7a4 3 = .ok (.iushr, 1) := by decide +kernel
theorem dJ6_bitCount_0f7a4_4 : decode cJ6_bitCount_0f7a4 4 = .ok (.ldc_w 265, 3) := by decide +kernel
theorem dJ6_bitCount_0f7a4_7 : decode cJ6_bitCount_0f7a4 7 = .ok (.iand, 1) := by decide +kernel
theorem dJ6_bitCount_0f7a4_8 : decode cJ6_bitCount_0f7a4 8 = .ok (.isub, 1) := by decide +kernel
theorem dJ6_bitCount_0f7a4_9 : decode cJ6_bitCount_0f7a4 9 = .ok (.istore_n 0, 1) := by decide +kernel
theorem dJ6_bitCount_0f7a4_10 : decode cJ6_bitCount_0f7a4 10 = .ok (.iload_n 0, 1) := by decide +kernel
theorem dJ6_bitCount_0f7a4_11 : decode cJ6_bitCount_0f7a4 11 = .ok (.ldc_w 266, 3) := by decide +kernel
theorem dJ6_bitCount_0f7a4_14 : decode cJ6_bitCount_0f7a4 14 = .ok (.iand, 1) := by decide +kernel
theorem dJ6_bitCount_0f7a4_15 : decode cJ6_bitCount_0f7a4 15 = .ok (.iload_n 0, 1) := by decide +kernel
theorem dJ6_bitCount_0f7a4_16 : decode cJ6_bitCount_0f7a4 16 = .ok (.iconst 2, 1) := by decide +kernel
theorem dJ6_bitCount_0f7a4_17 : decode cJ6_bitCount_0f7a4 17 = .ok (.iushr, 1) := by decide +kernel
theorem dJ6_bitCount_0f7a4_18 : decode cJ6_bitCount_0f7a4 18 = .ok (.ldc_w 266, 3) := by decide +kernel
theorem dJ6_bitCount_0f7a4_21 : decode cJ6_bitCount_0f7a4 21 = .ok (.iand, 1) := by decide +kernel
theorem dJ6_bitCount_0f7a4_22 : decode cJ6_bitCount_0f7a4 22 = .ok (.iadd, 1) := by decide +kernel
theorem dJ6_bitCount_0f7a4_23 : decode cJ6_bitCount_0f7a4 23 = .ok (.istore_n 0, 1) := by decide +kernel
theorem dJ6_bitCount_0f7a4_24 : decode cJ6_bitCount_0f7a4 24 = .ok (.iload_n 0, 1) := by decide +kernel
theorem dJ6_bitCount_0f7a4_25 : decode cJ6_bitCount_0f7a4 25 = .ok (.iload_n 0, 1) := by decide +kernel
theorem dJ6_bitCount_0f7a4_26 : decode cJ6_bitCount_0f7a4 26 = .ok (.iconst 4, 1) := by decide +kernel
theorem dJ6_bitCount_0f7a4_27 : decode cJ6_bitCount_0f7a4 27 = .ok (.iushr, 1) := by decide +kernel
theorem dJ6_bitCount_0f7a4_28 : decode cJ6_bitCount_0f7a4 28 = .ok (.iadd, 1) := by decide +kernel
theorem dJ6_bitCount_0f7a4_29 : decode cJ6_bitCount_0f7a4 29 = .ok (.ldc_w 267, 3) := by decide +kernel
theorem dJ6_bitCount_0f7a4_32 : decode cJ6_bitCount_0f7a4 32 = .ok (.iand, 1) := by decide +kernel
theorem dJ6_bitCount_0f7a4_33 : decode cJ6_bitCount_0f7a4 33 = .ok (.istore_n 0, 1) := by decide +kernel
theorem dJ6_bitCount_0f7a4_34 : decode cJ6_bitCount_0f7a4 34 = .ok (.iload_n 0, 1) := by decide +kernel
theorem dJ6_bitCount_0f7a4_35 : decode cJ6_bitCount_0f7a4 35 = .ok (.iload_n 0, 1) := by decide +kernel
theorem dJ6_bitCount_0f7a4_36 : decode cJ6_bitCount_0f7a4 36 = .ok (.bipush 8, 2) := by decide +kernel
theorem dJ6_bitCount_0f7a4_38 : decode cJ6_bitCount_0f7a4 38 = .ok (.iushr, 1) := by decide +kernel
theorem dJ6_bitCount_0f7a4_39 : decode cJ6_bitCount_0f7a4 39 = .ok (.iadd, 1) := by decide +kernel
theorem dJ6_bitCount_0f7a4_40 : decode cJ6_bitCount_0f7a4 40 = .ok (.istore_n 0, 1) := by decide +kernel
theorem dJ6_bitCount_0f7a4_41 : decode cJ6_bitCount_0f7a4 41 = .ok (.iload_n 0, 1) := by decide +kernel
theorem dJ6_bitCount_0f7a4_42 : decode cJ6_bitCount_0f7a4 42 = .ok (.iload_n 0, 1) := by decide +kernel
theorem dJ6_bitCount_0f7a4_43 : decode cJ6_bitCount_0f7a4 43 = .ok (.bipush 16, 2) := by decide +kernel
theorem dJ6_bitCount_0f7a4_45 : decode cJ6_bitCount_0f7a4 45 = .ok (.iushr, 1) := by decide +kernel
theorem dJ6_bitCount_0f7a4_46 : decode cJ6_bitCount_0f7a4 46 = .ok (.iadd, 1) := by decide +kernel
theorem dJ6_bitCount_0f7a4_47 : decode cJ6_bitCount_0f7a4 47 = .ok (.istore_n 0, 1) := by decide +kernel
theorem dJ6_bitCount_0f7a4_48 : decode cJ6_bitCount_0f7a4 48 = .ok (.iload_n 0, 1) := by decide +kernel
theorem dJ6_bitCount_0f7a4_49 : decode cJ6_bitCount_0f7a4 49 = .ok (.bipush 63, 2) := by decide +kernel
theorem dJ6_bitCount_0f7a4_51 : decode cJ6_bitCount_0f7a4 51 = .ok (.iand, 1) := by decide +kernel
theorem dJ6_bitCount_0f7a4_52 : decode cJ6_bitCount_0f7a4 52 = .ok (.ireturn, 1) := by decide +kernel
def wp_J6_bitCount_0f7a4 (a1 : Int) (σ : st_S) (Q : Int → st_S → Prop) : Prop := ∀ x6 : Int, x6 = wr (a1 - o_and (o_ushr a1 1) 1431655765) → ∀ x7 : Int, x7 = wr (o_and x6 858993459 + o_and (o_ushr x6 2) 858993459) → ∀ x8 : Int, x8 = o_and (x7 + o_ushr x7 4) 252645135 → ∀ x9 : Int, x9 = wr (x8 + o_ushr x8 8) → ∀ x10 : Int, x10 = wr (x9 + o_ushr x9 16) → Q (o_and x10 63) σ
set_option maxRecDepth 20000 in
theorem c_J6_bitCount_0f7a4 {l : Launch} {E : ev_E} (hE : Eok E) {a1 : Int} (ca1 : wr a1 = a1) {σ : st_S} {Q : Int → st_S → Prop} (h : wp_J6_bitCount_0f7a4 a1 σ Q) : cM l yJ6_bitCount_0f7a4 cJ6_bitCount_0f7a4 1 (some .int) E 1 0 0 [vI a1] σ (qI E (gN σ + 0) Q) := by
  refine cM_of (lv := [(0, vI a1)]) (by decide) hE (Nat.le_of_ble_eq_true rfl) (rfl) ?_
  intro X hX hc _ _ hr _ _
  subst hX
  have hh : 1 ≤ 1 := Nat.le_refl _
  have hh1 : 1 ≤ 1 := by omega
  replace h : ∀ x6 : Int, x6 = wr (a1 - o_and (o_ushr a1 1) 1431655765) → ∀ x7 : Int, x7 = wr (o_and x6 858993459 + o_and (o_ushr x6 2) 858993459) → ∀ x8 : Int, x8 = o_and (x7 + o_ushr x7 4) 252645135 → ∀ x9 : Int, x9 = wr (x8 + o_ushr x8 8) → ∀ x10 : Int, x10 = wr (x9 + o_ushr x9 16) → Q (o_and x10 63) σ := h
  refine j_iload_n hc 0 dJ6_bitCount_0f7a4_0 rfl rfl ?_
  refine j_iload_n hc 0 dJ6_bitCount_0f7a4_1 rfl rfl ?_
  refine j_iconst hc dJ6_bitCount_0f7a4_2 ?_
  refine j_iushr hc dJ6_bitCount_0f7a4_3 ?_
  refine j_ldcw (x := 1431655765) hc (by decide) kc_RJ6_265 dJ6_bitCount_0f7a4_4 ?_
  refine j_iand hc dJ6_bitCount_0f7a4_7 ?_
  refine j_isub hc dJ6_bitCount_0f7a4_8 ?_
  refine j_w (fun x6 ex6 cx6 => ?_)
  replace h := h x6 ex6
  refine j_istore_n (lv' := [(0, vI x6)]) hc dJ6_bitCount_0f7a4_9 rfl (by decide) rfl ?_
  refine j_iload_n hc 0 dJ6_bitCount_0f7a4_10 rfl rfl ?_
  refine j_ldcw (x := 858993459) hc (by decide) kc_RJ6_266 dJ6_bitCount_0f7a4_11 ?_
  refine j_iand hc dJ6_bitCount_0f7a4_14 ?_
  refine j_iload_n hc 0 dJ6_bitCount_0f7a4_15 rfl rfl ?_
  refine j_iconst hc dJ6_bitCount_0f7a4_16 ?_
  refine j_iushr hc dJ6_bitCount_0f7a4_17 ?_
  refine j_ldcw (x := 858993459) hc (by decide) kc_RJ6_266 dJ6_bitCount_0f7a4_18 ?_
  refine j_iand hc dJ6_bitCount_0f7a4_21 ?_
  refine j_iadd hc dJ6_bitCount_0f7a4_22 ?_
  refine j_w (fun x7 ex7 cx7 => ?_)
  replace h := h x7 ex7
  refine j_istore_n (lv' := [(0, vI x7)]) hc dJ6_bitCount_0f7a4_23 rfl (by decide) rfl ?_
  refine j_iload_n hc 0 dJ6_bitCount_0f7a4_24 rfl rfl ?_
  refine j_iload_n hc 0 dJ6_bitCount_0f7a4_25 rfl rfl ?_
  refine j_iconst hc dJ6_bitCount_0f7a4_26 ?_
  refine j_iushr hc dJ6_bitCount_0f7a4_27 ?_
  refine j_iadd hc dJ6_bitCount_0f7a4_28 ?_
  refine j_ldcw (x := 252645135) hc (by decide) kc_RJ6_267 dJ6_bitCount_0f7a4_29 ?_
  refine j_iand hc dJ6_bitCount_0f7a4_32 ?_
  refine j_c (cn_and _ _) (fun x8 ex8 cx8 => ?_)
  replace h := h x8 ex8
  refine j_istore_n (lv' := [(0, vI x8)]) hc dJ6_bitCount_0f7a4_33 rfl (by decide) rfl ?_
  refine j_iload_n hc 0 dJ6_bitCount_0f7a4_34 rfl rfl ?_
  refine j_iload_n hc 0 dJ6_bitCount_0f7a4_35 rfl rfl ?_
  refine j_bipush hc dJ6_bitCount_0f7a4_36 (by decide) ?_
  refine j_iushr hc dJ6_bitCount_0f7a4_38 ?_
  refine j_iadd hc dJ6_bitCount_0f7a4_39 ?_
  refine j_w (fun x9 ex9 cx9 => ?_)
  replace h := h x9 ex9
  refine j_istore_n (lv' := [(0, vI x9)]) hc dJ6_bitCount_0f7a4_40 rfl (by decide) rfl ?_
  refine j_iload_n hc 0 dJ6_bitCount_0f7a4_41 rfl rfl ?_
  refine j_iload_n hc 0 dJ6_bitCount_0f7a4_42 rfl rfl ?_
  refine j_bipush hc dJ6_bitCount_0f7a4_43 (by decide) ?_
  refine j_iushr hc dJ6_bitCount_0f7a4_45 ?_
  refine j_iadd hc dJ6_bitCount_0f7a4_46 ?_
  refine j_w (fun x10 ex10 cx10 => ?_)
  replace h := h x10 ex10
  refine j_istore_n (lv' := [(0, vI x10)]) hc dJ6_bitCount_0f7a4_47 rfl (by decide) rfl ?_
  refine j_iload_n hc 0 dJ6_bitCount_0f7a4_48 rfl rfl ?_
  refine j_bipush hc dJ6_bitCount_0f7a4_49 (by decide) ?_
  refine j_iand hc dJ6_bitCount_0f7a4_51 ?_
  exact j_iret hc hr (cn_and _ _) h dJ6_bitCount_0f7a4_52
-- LitStrangers$Coast.pairs()I
theorem dX1_pairs_0 : decode cX1_pairs 0 = .ok (.iconst 0, 1) := by decide +kernel
theorem dX1_pairs_1 : decode cX1_pairs 1 = .ok (.istore_n 1, 1) := by decide +kernel
theorem dX1_pairs_2 : decode cX1_pairs 2 = .ok (.iconst 0, 1) := by decide +kernel
theorem dX1_pairs_3 : decode cX1_pairs 3 = .ok (.istore_n 2, 1) := by decide +kernel
theorem dX1_pairs_4 : decode cX1_pairs 4 = .ok (.iload_n 2, 1) := by decide +kernel
theorem dX1_pairs_5 : decode cX1_pairs 5 = .ok (.aload_n 0, 1) := by decide +kernel
theorem dX1_pairs_6 : decode cX1_pairs 6 = .ok (.getfield 46, 3) := by decide +kernel
theorem dX1_pairs_9 : decode cX1_pairs 9 = .ok (.if_icmp .ge 21, 3) := by decide +kernel
theorem dX1_pairs_12 : decode cX1_pairs 12 = .ok (.iload_n 1, 1) := by decide +kernel
theorem dX1_pairs_13 : decode cX1_pairs 13 = .ok (.aload_n 0, 1) := by decide +kernel
theorem dX1_pairs_14 : decode cX1_pairs 14 = .ok (.getfield 27, 3) := by decide +kernel
theorem dX1_pairs_17 : decode cX1_pairs 17 = .ok (.iload_n 2, 1) := by decide +kernel
theorem dX1_pairs_18 : decode cX1_pairs 18 = .ok (.iaload, 1) := by decide +kernel
theorem dX1_pairs_19 : decode cX1_pairs 19 = .ok (.invokestatic 67, 3) := by decide +kernel
theorem dX1_pairs_22 : decode cX1_pairs 22 = .ok (.iadd, 1) := by decide +kernel
theorem dX1_pairs_23 : decode cX1_pairs 23 = .ok (.istore_n 1, 1) := by decide +kernel
theorem dX1_pairs_24 : decode cX1_pairs 24 = .ok (.iinc 2 1, 3) := by decide +kernel
theorem dX1_pairs_27 : decode cX1_pairs 27 = .ok (.goto (-23), 3) := by decide +kernel
theorem dX1_pairs_30 : decode cX1_pairs 30 = .ok (.iload_n 1, 1) := by decide +kernel
theorem dX1_pairs_31 : decode cX1_pairs 31 = .ok (.iconst 2, 1) := by decide +kernel
theorem dX1_pairs_32 : decode cX1_pairs 32 = .ok (.idiv, 1) := by decide +kernel
theorem dX1_pairs_33 : decode cX1_pairs 33 = .ok (.ireturn, 1) := by decide +kernel
def L_X1_pairs_4 (Q : Int → st_S → Prop)   : Nat → Int → Int → st_S → Prop
  | 0 => fun _ _ _ => False
  | n + 1 => fun l1 l2 σ => (gI σ 25 0 ≤ l2 → Q (o_div l1 2) σ) ∧ (¬ gI σ 25 0 ≤ l2 → ix l2 10 ∧ wp_J6_bitCount_0f7a4 (gI σ 31 (Int.toNat l2)) σ (fun r14 s15 => ∀ x16 : Int, x16 = wr (l1 + r14) → ∀ x17 : Int, x17 = wr (l2 + 1) → (L_X1_pairs_4 Q n) x16 x17 s15))
def wp_X1_pairs  (σ : st_S) (Q : Int → st_S → Prop) : Prop := ∃ m4 : Nat, L_X1_pairs_4 Q m4 0 0 σ
set_option maxRecDepth 20000 in
theorem jl_X1_pairs_4 {X : jj_X} {E : ev_E} {n0 hN : Nat} (hc : Cx X E cX1_pairs 3 n0 hN RX1) (hm : eM E = 1) (hr : (xT X).sig.returnType = (some .int)) (hh : 2 ≤ hN) {Q : Int → st_S → Prop} : ∀ (n : Nat) {l1 : Int} {l2 : Int} (cl1 : wr l1 = l1) (cl2 : wr l2 = l2) {σ : st_S}, L_X1_pairs_4 Q n l1 l2 σ → J X E 3 n0 0 0 (MQ (xB X) (qI E (n0 + 0) Q) (xA X) (xS X) 0 0 (eF E)) σ 4 [(0, vR E 25), (1, vI l1), (2, vI l2)] [] := by
  have hh1 : 1 ≤ hN := by omega
  intro n
  induction n with
  | zero => intro l1 l2 cl1 cl2 σ h; exact h.elim
  | succ n ih =>
    intro l1 l2 cl1 cl2 σ h
    have hk4 : ∀ {l1 : Int} {l2 : Int} (cl1 : wr l1 = l1) (cl2 : wr l2 = l2) {σ : st_S}, L_X1_pairs_4 Q n l1 l2 σ → J X E 3 n0 0 0 (MQ (xB X) (qI E (n0 + 0) Q) (xA X) (xS X) 0 0 (eF E)) σ 4 [(0, vR E 25), (1, vI l1), (2, vI l2)] [] := ih
    replace h : (gI σ 25 0 ≤ l2 → Q (o_div l1 2) σ) ∧ (¬ gI σ 25 0 ≤ l2 → ix l2 10 ∧ wp_J6_bitCount_0f7a4 (gI σ 31 (Int.toNat l2)) σ (fun r14 s15 => ∀ x16 : Int, x16 = wr (l1 + r14) → ∀ x17 : Int, x17 = wr (l2 + 1) → (L_X1_pairs_4 Q n) x16 x17 s15)) := h
    refine j_iload_n hc 2 dX1_pairs_4 rfl rfl ?_
    refine j_aload_nR hc 0 dX1_pairs_5 rfl rfl ?_
    refine j_getI hc fl_RX1_46 (Or.inl rfl) (fun hv => Or.inl (sv_k hv hm rfl)) dX1_pairs_6 (fun cn11 => ?_)
    refine j_ic_ge hc cl2 cn11 (tgt := 30) dX1_pairs_9 (by decide) (fun q18 => ?_) (fun q18 => ?_)
    · replace h := h.1 q18
      refine j_iload_n hc 1 dX1_pairs_30 rfl rfl ?_
      refine j_iconst hc dX1_pairs_31 ?_
      refine j_idiv hc dX1_pairs_32 (by decide) ?_
      exact j_iret hc hr (cn_div _ _) h dX1_pairs_33
    · replace h := h.2 q18
      refine j_iload_n hc 1 dX1_pairs_12 rfl rfl ?_
      refine j_aload_nR hc 0 dX1_pairs_13 rfl rfl ?_
      refine j_getR (c' := 31) hc fl_RX1_27 rfl rfl (fun hv => (sv_k hv hm rfl)) dX1_pairs_14 ?_
      refine j_iload_n hc 2 dX1_pairs_17 rfl rfl ?_
      obtain ⟨b12, h⟩ := h
      refine j_iald (jn := (Int.toNat l2)) hc (fun hv => sv_kl hv hm rfl) cl2 b12 rfl dX1_pairs_18 (fun cn13 => ?_)
      refine j_sI hc ml_RX1_67 mv_J6_bitCount_0f7a4 (As := [vI (gI σ 31 (Int.toNat l2))]) (c_J6_bitCount_0f7a4 (cx_E hc) cn13 h) rfl (by omega) (by decide) ⟨Nat.zero_le _, Nat.zero_le _⟩ (Nat.le_of_ble_eq_true rfl) rfl dX1_pairs_19 (fun r14 s15 cr14 h => ?_)
      refine j_iadd hc dX1_pairs_22 ?_
      refine j_w (fun x16 ex16 cx16 => ?_)
      replace h := h x16 ex16
      refine j_istore_n (lv' := [(1, vI x16), (0, vR E 25), (2, vI l2)]) hc dX1_pairs_23 rfl (by decide) rfl ?_
      obtain ⟨x17, ex17⟩ : ∃ y : Int, y = wr (l2 + 1) := ⟨_, rfl⟩
      have cx17 : wr x17 = x17 := by rw [ex17]; exact wr_wr _
      replace h := h x17 ex17
      refine j_iinc (lv' := [(2, vI x17), (1, vI x16), (0, vR E 25)]) hc 2 dX1_pairs_24 rfl (by decide) ex17 rfl ?_
      refine j_goto (tgt := 4) hc dX1_pairs_27 (by decide) ?_
      refine j_sub (lv' := [(0, vR E 25), (1, vI x16), (2, vI x17)]) [2, 1, 0] rfl ?_
      exact hk4 cx16 cx17 h
set_option maxRecDepth 20000 in
theorem c_X1_pairs {l : Launch} {E : ev_E} (hE : Eok E) (hm : eM E = 1) {σ : st_S} {Q : Int → st_S → Prop} (h : wp_X1_pairs σ Q) : cM l yX1_pairs cX1_pairs 3 (some .int) E 2 0 0 [vR E 25] σ (qI E (gN σ + 0) Q) := by
  refine cM_of (lv := [(0, vR E 25)]) (by decide) hE (Nat.le_of_ble_eq_true rfl) (rfl) ?_
  intro X hX hc _ _ hr _ _
  subst hX
  have hh : 2 ≤ 2 := Nat.le_refl _
  have hh1 : 1 ≤ 2 := by omega
  replace h : ∃ m4 : Nat, L_X1_pairs_4 Q m4 0 0 σ := h
  refine j_iconst hc dX1_pairs_0 ?_
  refine j_istore_n (lv' := [(1, vI 0), (0, vR E 25)]) hc dX1_pairs_1 rfl (by decide) rfl ?_
  refine j_iconst hc dX1_pairs_2 ?_
  refine j_istore_n (lv' := [(2, vI 0), (1, vI 0), (0, vR E 25)]) hc dX1_pairs_3 rfl (by decide) rfl ?_
  obtain ⟨n4, h⟩ := h
  refine j_sub (lv' := [(0, vR E 25), (1, vI 0), (2, vI 0)]) [2, 1, 0] rfl ?_
  exact jl_X1_pairs_4 hc hm hr hh n4 (wlit 0 (by decide)) (wlit 0 (by decide)) h
-- LitStrangers$Judge.setPerson(IIII)V
theorem dX3_setPerson_0 : decode cX3_setPerson 0 = .ok (.aload_n 0, 1) := by decide +kernel
theorem dX3_setPerson_1 : decode cX3_setPerson 1 = .ok (.getfield 12, 3) := by decide +kernel
theorem dX3_setPerson_4 : decode cX3_setPerson 4 = .ok (.getfield 40, 3) := by decide +kernel
theorem dX3_setPerson_7 : decode cX3_setPerson 7 = .ok (.astore 5, 2) := by decide +kernel
theorem dX3_setPerson_9 : decode cX3_setPerson 9 = .ok (.aload 5, 2) := by decide +kernel
theorem dX3_setPerson_11 : decode cX3_setPerson 11 = .ok (.iconst 0, 1) := by decide +kernel
theorem dX3_setPerson_12 : decode cX3_setPerson 12 = .ok (.iload_n 1, 1) := by decide +kernel
theorem dX3_setPerson_13 : decode cX3_setPerson 13 = .ok (.iastore, 1) := by decide +kernel
theorem dX3_setPerson_14 : decode cX3_setPerson 14 = .ok (.aload 5, 2) := by decide +kernel
theorem dX3_setPerson_16 : decode cX3_setPerson 16 = .ok (.iconst 1, 1) := by decide +kernel
theorem dX3_setPerson_17 : decode cX3_setPerson 17 = .ok (.aload_n 0, 1) := by decide +kernel
theorem dX3_setPerson_18 : decode cX3_setPerson 18 = .ok (.getfield 18, 3) := by decide +kernel
theorem dX3_setPerson_21 : decode cX3_setPerson 21 = .ok (.getfield 26, 3) := by decide +kernel
theorem dX3_setPerson_24 : decode cX3_setPerson 24 = .ok (.iload_n 1, 1) := by decide +kernel
theorem dX3_setPerson_25 : decode cX3_setPerson 25 = .ok (.iaload, 1) := by decide +kernel
theorem dX3_setPerson_26 : decode cX3_setPerson 26 = .ok (.iastore, 1) := by decide +kernel
theorem dX3_setPerson_27 : decode cX3_setPerson 27 = .ok (.aload 5, 2) := by decide +kernel
theorem dX3_setPerson_29 : decode cX3_setPerson 29 = .ok (.iconst 2, 1) := by decide +kernel
theorem dX3_setPerson_30 : decode cX3_setPerson 30 = .ok (.aload_n 0, 1) := by decide +kernel
theorem dX3_setPerson_31 : decode cX3_setPerson 31 = .ok (.getfield 18, 3) := by decide +kernel
theorem dX3_setPerson_34 : decode cX3_setPerson 34 = .ok (.getfield 43, 3) := by decide +kernel
theorem dX3_setPerson_37 : decode cX3_setPerson 37 = .ok (.iload_n 1, 1) := by decide +kernel
theorem dX3_setPerson_38 : decode cX3_setPerson 38 = .ok (.iaload, 1) := by decide +kernel
theorem dX3_setPerson_39 : decode cX3_setPerson 39 = .ok (.iastore, 1) := by decide +kernel
theorem dX3_setPerson_40 : decode cX3_setPerson 40 = .ok (.aload 5, 2) := by decide +kernel
theorem dX3_setPerson_42 : decode cX3_setPerson 42 = .ok (.iconst 3, 1) := by decide +kernel
theorem dX3_setPerson_43 : decode cX3_setPerson 43 = .ok (.iload_n 2, 1) := by decide +kernel
theorem dX3_setPerson_44 : decode cX3_setPerson 44 = .ok (.iastore, 1) := by decide +kernel
theorem dX3_setPerson_45 : decode cX3_setPerson 45 = .ok (.aload 5, 2) := by decide +kernel
theorem dX3_setPerson_47 : decode cX3_setPerson 47 = .ok (.iconst 4, 1) := by decide +kernel
theorem dX3_setPerson_48 : decode cX3_setPerson 48 = .ok (.iconst (-1), 1) := by decide +kernel
theorem dX3_setPerson_49 : decode cX3_setPerson 49 = .ok (.iastore, 1) := by decide +kernel
theorem dX3_setPerson_50 : decode cX3_setPerson 50 = .ok (.aload 5, 2) := by decide +kernel
theorem dX3_setPerson_52 : decode cX3_setPerson 52 = .ok (.iconst 5, 1) := by decide +kernel
theorem dX3_setPerson_53 : decode cX3_setPerson 53 = .ok (.iconst (-1), 1) := by decide +kernel
theorem dX3_setPerson_54 : decode cX3_setPerson 54 = .ok (.iastore, 1) := by decide +kernel
theorem dX3_setPerson_55 : decode cX3_setPerson 55 = .ok (.aload 5, 2) := by decide +kernel
theorem dX3_setPerson_57 : decode cX3_setPerson 57 = .ok (.bipush 6, 2) := by decide +kernel
theorem dX3_setPerson_59 : decode cX3_setPerson 59 = .ok (.iconst (-1), 1) := by decide +kernel
theorem dX3_setPerson_60 : decode cX3_setPerson 60 = .ok (.iastore, 1) := by decide +kernel
theorem dX3_setPerson_61 : decode cX3_setPerson 61 = .ok (.aload 5, 2) := by decide +kernel
theorem dX3_setPerson_63 : decode cX3_setPerson 63 = .ok (.bipush 7, 2) := by decide +kernel
theorem dX3_setPerson_65 : decode cX3_setPerson 65 = .ok (.iload_n 3, 1) := by decide +kernel
theorem dX3_setPerson_66 : decode cX3_setPerson 66 = .ok (.iastore, 1) := by decide +kernel
theorem dX3_setPerson_67 : decode cX3_setPerson 67 = .ok (.aload 5, 2) := by decide +kernel
theorem dX3_setPerson_69 : decode cX3_setPerson 69 = .ok (.bipush 8, 2) := by decide +kernel
theorem dX3_setPerson_71 : decode cX3_setPerson 71 = .ok (.iload 4, 2) := by decide +kernel
theorem dX3_setPerson_73 : decode cX3_setPerson 73 = .ok (.iastore, 1) := by decide +kernel
theorem dX3_setPerson_74 : decode cX3_setPerson 74 = .ok (.aload 5, 2) := by decide +kernel
theorem dX3_setPerson_76 : decode cX3_setPerson 76 = .ok (.bipush 9, 2) := by decide +kernel
theorem dX3_setPerson_78 : decode cX3_setPerson 78 = .ok (.aload_n 0, 1) := by decide +kernel
theorem dX3_setPerson_79 : decode cX3_setPerson 79 = .ok (.getfield 18, 3) := by decide +kernel
theorem dX3_setPerson_82 : decode cX3_setPerson 82 = .ok (.getfield 46, 3) := by decide +kernel
theorem dX3_setPerson_85 : decode cX3_setPerson 85 = .ok (.iconst 2, 1) := by decide +kernel
theorem dX3_setPerson_86 : decode cX3_setPerson 86 = .ok (.iaload, 1) := by decide +kernel
theorem dX3_setPerson_87 : decode cX3_setPerson 87 = .ok (.iastore, 1) := by decide +kernel
theorem dX3_setPerson_88 : decode cX3_setPerson 88 = .ok (.return_, 1) := by decide +kernel
def wp_X3_setPerson (a1 : Int) (a2 : Int) (a3 : Int) (a4 : Int) (σ : st_S) (Q : st_S → Prop) : Prop := ∀ s37 : st_S, s37 = sI σ 37 0 a1 → ix a1 10 ∧ ∀ s40 : st_S, s40 = sI s37 37 1 (gI s37 26 (Int.toNat a1)) → ix a1 10 ∧ ∀ s43 : st_S, s43 = sI s40 37 2 (gI s40 27 (Int.toNat a1)) → ∀ s44 : st_S, s44 = sI s43 37 3 a2 → ∀ s45 : st_S, s45 = sI s44 37 4 (-1) → ∀ s46 : st_S, s46 = sI s45 37 5 (-1) → ∀ s47 : st_S, s47 = sI s46 37 6 (-1) → ∀ s48 : st_S, s48 = sI s47 37 7 a3 → ∀ s49 : st_S, s49 = sI s48 37 8 a4 → ∀ s51 : st_S, s51 = sI s49 37 9 (gI s49 33 2) → Q s51
set_option maxRecDepth 20000 in
theorem c_X3_setPerson {l : Launch} {E : ev_E} (hE : Eok E) (hm : eM E = 1) {a1 : Int} {a2 : Int} {a3 : Int} {a4 : Int} (ca1 : wr a1 = a1) (ca2 : wr a2 = a2) (ca3 : wr a3 = a3) (ca4 : wr a4 = a4) {σ : st_S} {Q : st_S → Prop} (h : wp_X3_setPerson a1 a2 a3 a4 σ Q) : cM l yX3_setPerson cX3_setPerson 6 none E 1 0 0 [vR E 35, vI a1, vI a2, vI a3, vI a4] σ (qV E (gN σ + 0) Q) := by
  refine cM_of (lv := [(0, vR E 35), (1, vI a1), (2, vI a2), (3, vI a3), (4, vI a4)]) (by decide) hE (Nat.le_of_ble_eq_true rfl) (rfl) ?_
  intro X hX hc _ _ hr _ _
  subst hX
  have hh : 1 ≤ 1 := Nat.le_refl _
  have hh1 : 1 ≤ 1 := by omega
  replace h : ∀ s37 : st_S, s37 = sI σ 37 0 a1 → ix a1 10 ∧ ∀ s40 : st_S, s40 = sI s37 37 1 (gI s37 26 (Int.toNat a1)) → ix a1 10 ∧ ∀ s43 : st_S, s43 = sI s40 37 2 (gI s40 27 (Int.toNat a1)) → ∀ s44 : st_S, s44 = sI s43 37 3 a2 → ∀ s45 : st_S, s45 = sI s44 37 4 (-1) → ∀ s46 : st_S, s46 = sI s45 37 5 (-1) → ∀ s47 : st_S, s47 = sI s46 37 6 (-1) → ∀ s48 : st_S, s48 = sI s47 37 7 a3 → ∀ s49 : st_S, s49 = sI s48 37 8 a4 → ∀ s51 : st_S, s51 = sI s49 37 9 (gI s49 33 2) → Q s51 := h
  refine j_aload_nR hc 0 dX3_setPerson_0 rfl rfl ?_
  refine j_getR (c' := 36) hc fl_RX3_12 rfl rfl (fun hv => (sv_k hv hm rfl)) dX3_setPerson_1 ?_
  refine j_getR (c' := 37) hc fl_RX3_40 rfl rfl (fun hv => (sv_k hv hm rfl)) dX3_setPerson_4 ?_
  refine j_astoreR (lv' := [(5, vR E 37), (0, vR E 35), (1, vI a1), (2, vI a2), (3, vI a3), (4, vI a4)]) hc dX3_setPerson_7 (by decide) rfl ?_
  refine j_aloadR hc 0 dX3_setPerson_9 rfl ?_
  refine j_iconst hc dX3_setPerson_11 ?_
  refine j_iload_n hc 2 dX3_setPerson_12 rfl rfl ?_
  refine j_iast (jn := 0) hc (fun hv => sv_kl hv hm rfl) (wlit 0 (by decide)) ⟨by decide, by decide⟩ rfl ca1 dX3_setPerson_13 (fun s37 es37 => ?_)
  replace h := h s37 es37
  refine j_aloadR hc 0 dX3_setPerson_14 rfl ?_
  refine j_iconst hc dX3_setPerson_16 ?_
  refine j_aload_nR hc 1 dX3_setPerson_17 rfl rfl ?_
  refine j_getR (c' := 25) hc fl_RX3_18 rfl rfl (fun hv => (sv_k hv hm rfl)) dX3_setPerson_18 ?_
  refine j_getR (c' := 26) hc fl_RX3_26 rfl rfl (fun hv => (sv_k hv hm rfl)) dX3_setPerson_21 ?_
  refine j_iload_n hc 2 dX3_setPerson_24 rfl rfl ?_
  obtain ⟨b38, h⟩ := h
  refine j_iald (jn := (Int.toNat a1)) hc (fun hv => sv_kl hv hm rfl) ca1 b38 rfl dX3_setPerson_25 (fun cn39 => ?_)
  refine j_iast (jn := 1) hc (fun hv => sv_kl hv hm rfl) (wlit 1 (by decide)) ⟨by decide, by decide⟩ rfl cn39 dX3_setPerson_26 (fun s40 es40 => ?_)
  replace h := h s40 es40
  refine j_aloadR hc 0 dX3_setPerson_27 rfl ?_
  refine j_iconst hc dX3_setPerson_29 ?_
  refine j_aload_nR hc 1 dX3_setPerson_30 rfl rfl ?_
  refine j_getR (c' := 25) hc fl_RX3_18 rfl rfl (fun hv => (sv_k hv hm rfl)) dX3_setPerson_31 ?_
  refine j_getR (c' := 27) hc fl_RX3_43 rfl rfl (fun hv => (sv_k hv hm rfl)) dX3_setPerson_34 ?_
  refine j_iload_n hc 2 dX3_setPerson_37 rfl rfl ?_
  obtain ⟨b41, h⟩ := h
  refine j_iald (jn := (Int.toNat a1)) hc (fun hv => sv_kl hv hm rfl) ca1 b41 rfl dX3_setPerson_38 (fun cn42 => ?_)
  refine j_iast (jn := 2) hc (fun hv => sv_kl hv hm rfl) (wlit 2 (by decide)) ⟨by decide, by decide⟩ rfl cn42 dX3_setPerson_39 (fun s43 es43 => ?_)
  replace h := h s43 es43
  refine j_aloadR hc 0 dX3_setPerson_40 rfl ?_
  refine j_iconst hc dX3_setPerson_42 ?_
  refine j_iload_n hc 3 dX3_setPerson_43 rfl rfl ?_
  refine j_iast (jn := 3) hc (fun hv => sv_kl hv hm rfl) (wlit 3 (by decide)) ⟨by decide, by decide⟩ rfl ca2 dX3_setPerson_44 (fun s44 es44 => ?_)
  replace h := h s44 es44
  refine j_aloadR hc 0 dX3_setPerson_45 rfl ?_
  refine j_iconst hc dX3_setPerson_47 ?_
  refine j_iconst hc dX3_setPerson_48 ?_
  refine j_iast (jn := 4) hc (fun hv => sv_kl hv hm rfl) (wlit 4 (by decide)) ⟨by decide, by decide⟩ rfl (wlit (-1) (by decide)) dX3_setPerson_49 (fun s45 es45 => ?_)
  replace h := h s45 es45
  refine j_aloadR hc 0 dX3_setPerson_50 rfl ?_
  refine j_iconst hc dX3_setPerson_52 ?_
  refine j_iconst hc dX3_setPerson_53 ?_
  refine j_iast (jn := 5) hc (fun hv => sv_kl hv hm rfl) (wlit 5 (by decide)) ⟨by decide, by decide⟩ rfl (wlit (-1) (by decide)) dX3_setPerson_54 (fun s46 es46 => ?_)
  replace h := h s46 es46
  refine j_aloadR hc 0 dX3_setPerson_55 rfl ?_
  refine j_bipush hc dX3_setPerson_57 (by decide) ?_
  refine j_iconst hc dX3_setPerson_59 ?_
  refine j_iast (jn := 6) hc (fun hv => sv_kl hv hm rfl) (wlit 6 (by decide)) ⟨by decide, by decide⟩ rfl (wlit (-1) (by decide)) dX3_setPerson_60 (fun s47 es47 => ?_)
  replace h := h s47 es47
  refine j_aloadR hc 0 dX3_setPerson_61 rfl ?_
  refine j_bipush hc dX3_setPerson_63 (by decide) ?_
  refine j_iload_n hc 4 dX3_setPerson_65 rfl rfl ?_
  refine j_iast (jn := 7) hc (fun hv => sv_kl hv hm rfl) (wlit 7 (by decide)) ⟨by decide, by decide⟩ rfl ca3 dX3_setPerson_66 (fun s48 es48 => ?_)
  replace h := h s48 es48
  refine j_aloadR hc 0 dX3_setPerson_67 rfl ?_
  refine j_bipush hc dX3_setPerson_69 (by decide) ?_
  refine j_iload hc 5 dX3_setPerson_71 rfl ?_
  refine j_iast (jn := 8) hc (fun hv => sv_kl hv hm rfl) (wlit 8 (by decide)) ⟨by decide, by decide⟩ rfl ca4 dX3_setPerson_73 (fun s49 es49 => ?_)
  replace h := h s49 es49
  refine j_aloadR hc 0 dX3_setPerson_74 rfl ?_
  refine j_bipush hc dX3_setPerson_76 (by decide) ?_
  refine j_aload_nR hc 1 dX3_setPerson_78 rfl rfl ?_
  refine j_getR (c' := 25) hc fl_RX3_18 rfl rfl (fun hv => (sv_k hv hm rfl)) dX3_setPerson_79 ?_
  refine j_getR (c' := 33) hc fl_RX3_46 rfl rfl (fun hv => (sv_k hv hm rfl)) dX3_setPerson_82 ?_
  refine j_iconst hc dX3_setPerson_85 ?_
  refine j_iald (jn := 2) hc (fun hv => sv_kl hv hm rfl) (wlit 2 (by decide)) ⟨by decide, by decide⟩ rfl dX3_setPerson_86 (fun cn50 => ?_)
  refine j_iast (jn := 9) hc (fun hv => sv_kl hv hm rfl) (wlit 9 (by decide)) ⟨by decide, by decide⟩ rfl cn50 dX3_setPerson_87 (fun s51 es51 => ?_)
  replace h := h s51 es51
  exact j_vret hc hr h dX3_setPerson_88
-- LitStrangers$Judge.setNow(I)V
theorem dX3_setNow_0 : decode cX3_setNow 0 = .ok (.aload_n 0, 1) := by decide +kernel
theorem dX3_setNow_1 : decode cX3_setNow 1 = .ok (.getfield 18, 3) := by decide +kernel
theorem dX3_setNow_4 : decode cX3_setNow 4 = .ok (.getfield 46, 3) := by decide +kernel
theorem dX3_setNow_7 : decode cX3_setNow 7 = .ok (.iconst 0, 1) := by decide +kernel
theorem dX3_setNow_8 : decode cX3_setNow 8 = .ok (.iaload, 1) := by decide +kernel
theorem dX3_setNow_9 : decode cX3_setNow 9 = .ok (.istore_n 2, 1) := by decide +kernel
theorem dX3_setNow_10 : decode cX3_setNow 10 = .ok (.aload_n 0, 1) := by decide +kernel
theorem dX3_setNow_11 : decode cX3_setNow 11 = .ok (.iload_n 1, 1) := by decide +kernel
theorem dX3_setNow_12 : decode cX3_setNow 12 = .ok (.aload_n 0, 1) := by decide +kernel
theorem dX3_setNow_13 : decode cX3_setNow 13 = .ok (.getfield 18, 3) := by decide +kernel
theorem dX3_setNow_16 : decode cX3_setNow 16 = .ok (.getfield 49, 3) := by decide +kernel
theorem dX3_setNow_19 : decode cX3_setNow 19 = .ok (.iload_n 1, 1) := by decide +kernel
theorem dX3_setNow_20 : decode cX3_setNow 20 = .ok (.iaload, 1) := by decide +kernel
theorem dX3_setNow_21 : decode cX3_setNow 21 = .ok (.iload_n 2, 1) := by decide +kernel
theorem dX3_setNow_22 : decode cX3_setNow 22 = .ok (.aload_n 0, 1) := by decide +kernel
theorem dX3_setNow_23 : decode cX3_setNow 23 = .ok (.getfield 18, 3) := by decide +kernel
theorem dX3_setNow_26 : decode cX3_setNow 26 = .ok (.iload_n 2, 1) := by decide +kernel
theorem dX3_setNow_27 : decode cX3_setNow 27 = .ok (.invokevirtual 52, 3) := by decide +kernel
theorem dX3_setNow_30 : decode cX3_setNow 30 = .ok (.invokevirtual 36, 3) := by decide +kernel
theorem dX3_setNow_33 : decode cX3_setNow 33 = .ok (.return_, 1) := by decide +kernel
def wp_X3_setNow (a1 : Int) (σ : st_S) (Q : st_S → Prop) : Prop := ∀ x11 : Int, x11 = gI σ 33 0 → ix a1 10 ∧ wp_X1_fogOn x11 σ (fun r14 s15 => wp_X3_setPerson a1 (gI σ 28 (Int.toNat a1)) x11 r14 s15 (fun s17 => Q s17))
set_option maxRecDepth 20000 in
theorem c_X3_setNow {l : Launch} {E : ev_E} (hE : Eok E) (hm : eM E = 1) {a1 : Int} (ca1 : wr a1 = a1) {σ : st_S} {Q : st_S → Prop} (h : wp_X3_setNow a1 σ Q) : cM l yX3_setNow cX3_setNow 3 none E 2 0 0 [vR E 35, vI a1] σ (qV E (gN σ + 0) Q) := by
  refine cM_of (lv := [(0, vR E 35), (1, vI a1)]) (by decide) hE (Nat.le_of_ble_eq_true rfl) (rfl) ?_
  intro X hX hc _ _ hr _ _
  subst hX
  have hh : 2 ≤ 2 := Nat.le_refl _
  have hh1 : 1 ≤ 2 := by omega
  replace h : ∀ x11 : Int, x11 = gI σ 33 0 → ix a1 10 ∧ wp_X1_fogOn x11 σ (fun r14 s15 => wp_X3_setPerson a1 (gI σ 28 (Int.toNat a1)) x11 r14 s15 (fun s17 => Q s17)) := h
  refine j_aload_nR hc 0 dX3_setNow_0 rfl rfl ?_
  refine j_getR (c' := 25) hc fl_RX3_18 rfl rfl (fun hv => (sv_k hv hm rfl)) dX3_setNow_1 ?_
  refine j_getR (c' := 33) hc fl_RX3_46 rfl rfl (fun hv => (sv_k hv hm rfl)) dX3_setNow_4 ?_
  refine j_iconst hc dX3_setNow_7 ?_
  refine j_iald (jn := 0) hc (fun hv => sv_kl hv hm rfl) (wlit 0 (by decide)) ⟨by decide, by decide⟩ rfl dX3_setNow_8 (fun cn10 => ?_)
  refine j_c cn10 (fun x11 ex11 cx11 => ?_)
  replace h := h x11 ex11
  refine j_istore_n (lv' := [(2, vI x11), (0, vR E 35), (1, vI a1)]) hc dX3_setNow_9 rfl (by decide) rfl ?_
  refine j_aload_nR hc 1 dX3_setNow_10 rfl rfl ?_
  refine j_iload_n hc 2 dX3_setNow_11 rfl rfl ?_
  refine j_aload_nR hc 1 dX3_setNow_12 rfl rfl ?_
  refine j_getR (c' := 25) hc fl_RX3_18 rfl rfl (fun hv => (sv_k hv hm rfl)) dX3_setNow_13 ?_
  refine j_getR (c' := 28) hc fl_RX3_49 rfl rfl (fun hv => (sv_k hv hm rfl)) dX3_setNow_16 ?_
  refine j_iload_n hc 2 dX3_setNow_19 rfl rfl ?_
  obtain ⟨b12, h⟩ := h
  refine j_iald (jn := (Int.toNat a1)) hc (fun hv => sv_kl hv hm rfl) ca1 b12 rfl dX3_setNow_20 (fun cn13 => ?_)
  refine j_iload_n hc 0 dX3_setNow_21 rfl rfl ?_
  refine j_aload_nR hc 1 dX3_setNow_22 rfl rfl ?_
  refine j_getR (c' := 25) hc fl_RX3_18 rfl rfl (fun hv => (sv_k hv hm rfl)) dX3_setNow_23 ?_
  refine j_iload_n hc 0 dX3_setNow_26 rfl rfl ?_
  refine j_vI hc (k := 1) (by decide) (fun hv => Or.inl (sv_k hv hm rfl)) ml_RX3_52 mv_X1_fogOn (As := [vI x11]) (c_X1_fogOn (cx_E hc) hm cx11 h) rfl (by omega) (by decide) ⟨Nat.zero_le _, Nat.zero_le _⟩ (Nat.le_of_ble_eq_true rfl) rfl dX3_setNow_27 (fun r14 s15 cr14 h => ?_)
  refine j_vV hc (k := 3) (by decide) (fun hv => Or.inl (sv_k hv hm rfl)) ml_RX3_36 mv_X3_setPerson (As := [vI a1, vI (gI σ 28 (Int.toNat a1)), vI x11, vI r14]) (c_X3_setPerson (cx_E hc) hm ca1 cn13 cx11 cr14 h) rfl (by omega) (by decide) ⟨Nat.zero_le _, Nat.zero_le _⟩ (Nat.le_of_ble_eq_true rfl) rfl dX3_setNow_30 (fun s17 h => ?_)
  exact j_vret hc hr h dX3_setNow_33
-- LitStrangers$Judge.tells(III)I
theorem dX3_tells_0 : decode cX3_tells 0 = .ok (.aload_n 0, 1) := by decide +kernel
theorem dX3_tells_1 : decode cX3_tells 1 = .ok (.getfield 18, 3) := by decide +kernel
theorem dX3_tells_4 : decode cX3_tells 4 = .ok (.getfield 56, 3) := by decide +kernel
theorem dX3_tells_7 : decode cX3_tells 7 = .ok (.istore 4, 2) := by decide +kernel
theorem dX3_tells_9 : decode cX3_tells 9 = .ok (.iload 4, 2) := by decide +kernel
theorem dX3_tells_11 : decode cX3_tells 11 = .ok (.ifCond .lt 23, 3) := by decide +kernel
theorem dX3_tells_14 : decode cX3_tells 14 = .ok (.iload 4, 2) := by decide +kernel
theorem dX3_tells_16 : decode cX3_tells 16 = .ok (.bipush 6, 2) := by decide +kernel
theorem dX3_tells_18 : decode cX3_tells 18 = .ok (.if_icmp .ge 16, 3) := by decide +kernel
theorem dX3_tells_21 : decode cX3_tells 21 = .ok (.aload_n 0, 1) := by decide +kernel
theorem dX3_tells_22 : decode cX3_tells 22 = .ok (.getfield 18, 3) := by decide +kernel
theorem dX3_tells_25 : decode cX3_tells 25 = .ok (.getfield 60, 3) := by decide +kernel
theorem dX3_tells_28 : decode cX3_tells 28 = .ok (.iload 4, 2) := by decide +kernel
theorem dX3_tells_30 : decode cX3_tells 30 = .ok (.aaload, 1) := by decide +kernel
theorem dX3_tells_31 : decode cX3_tells 31 = .ok (.goto 4, 3) := by decide +kernel
theorem dX3_tells_34 : decode cX3_tells 34 = .ok (.aconst_null, 1) := by decide +kernel
theorem dX3_tells_35 : decode cX3_tells 35 = .ok (.astore 5, 2) := by decide +kernel
theorem dX3_tells_37 : decode cX3_tells 37 = .ok (.iload_n 2, 1) := by decide +kernel
theorem dX3_tells_38 : decode cX3_tells 38 = .ok (.istore 6, 2) := by decide +kernel
theorem dX3_tells_40 : decode cX3_tells 40 = .ok (.aload 5, 2) := by decide +kernel
theorem dX3_tells_42 : decode cX3_tells 42 = .ok (.ifnonnull 6, 3) := by decide +kernel
theorem dX3_tells_45 : decode cX3_tells 45 = .ok (.iload 6, 2) := by decide +kernel
theorem dX3_tells_47 : decode cX3_tells 47 = .ok (.ireturn, 1) := by decide +kernel
theorem dX3_tells_48 : decode cX3_tells 48 = .ok (.iconst 0, 1) := by decide +kernel
theorem dX3_tells_49 : decode cX3_tells 49 = .ok (.istore 7, 2) := by decide +kernel
theorem dX3_tells_51 : decode cX3_tells 51 = .ok (.iload 7, 2) := by decide +kernel
theorem dX3_tells_53 : decode cX3_tells 53 = .ok (.aload 5, 2) := by decide +kernel
theorem dX3_tells_55 : decode cX3_tells 55 = .ok (.getfield 64, 3) := by decide +kernel
theorem dX3_tells_58 : decode cX3_tells 58 = .ok (.if_icmp .ge 133, 3) := by decide +kernel
theorem dX3_tells_61 : decode cX3_tells 61 = .ok (.aload 5, 2) := by decide +kernel
theorem dX3_tells_63 : decode cX3_tells 63 = .ok (.getfield 69, 3) := by decide +kernel
theorem dX3_tells_66 : decode cX3_tells 66 = .ok (.iload 7, 2) := by decide +kernel
theorem dX3_tells_68 : decode cX3_tells 68 = .ok (.iaload, 1) := by decide +kernel
theorem dX3_tells_69 : decode cX3_tells 69 = .ok (.iload_n 1, 1) := by decide +kernel
theorem dX3_tells_70 : decode cX3_tells 70 = .ok (.if_icmp .eq 6, 3) := by decide +kernel
theorem dX3_tells_73 : decode cX3_tells 73 = .ok (.goto 112, 3) := by decide +kernel
theorem dX3_tells_76 : decode cX3_tells 76 = .ok (.aload 5, 2) := by decide +kernel
theorem dX3_tells_78 : decode cX3_tells 78 = .ok (.getfield 72, 3) := by decide +kernel
theorem dX3_tells_81 : decode cX3_tells 81 = .ok (.iload 7, 2) := by decide +kernel
theorem dX3_tells_83 : decode cX3_tells 83 = .ok (.iaload, 1) := by decide +kernel
theorem dX3_tells_84 : decode cX3_tells 84 = .ok (.istore 8, 2) := by decide +kernel
theorem dX3_tells_86 : decode cX3_tells 86 = .ok (.iload 8, 2) := by decide +kernel
theorem dX3_tells_88 : decode cX3_tells 88 = .ok (.aload 5, 2) := by decide +kernel
theorem dX3_tells_90 : decode cX3_tells 90 = .ok (.getfield 75, 3) := by decide +kernel
theorem dX3_tells_93 : decode cX3_tells 93 = .ok (.iload 7, 2) := by decide +kernel
theorem dX3_tells_95 : decode cX3_tells 95 = .ok (.iaload, 1) := by decide +kernel
theorem dX3_tells_96 : decode cX3_tells 96 = .ok (.if_icmp .ge 39, 3) := by decide +kernel
theorem dX3_tells_99 : decode cX3_tells 99 = .ok (.aload_n 0, 1) := by decide +kernel
theorem dX3_tells_100 : decode cX3_tells 100 = .ok (.getfield 12, 3) := by decide +kernel
theorem dX3_tells_103 : decode cX3_tells 103 = .ok (.aload 5, 2) := by decide +kernel
theorem dX3_tells_105 : decode cX3_tells 105 = .ok (.iload 8, 2) := by decide +kernel
theorem dX3_tells_107 : decode cX3_tells 107 = .ok (.aload 5, 2) := by decide +kernel
theorem dX3_tells_109 : decode cX3_tells 109 = .ok (.getfield 75, 3) := by decide +kernel
theorem dX3_tells_112 : decode cX3_tells 112 = .ok (.iload 7, 2) := by decide +kernel
theorem dX3_tells_114 : decode cX3_tells 114 = .ok (.iaload, 1) := by decide +kernel
theorem dX3_tells_115 : decode cX3_tells 115 = .ok (.invokevirtual 78, 3) := by decide +kernel
theorem dX3_tells_118 : decode cX3_tells 118 = .ok (.ifCond .eq 67, 3) := by decide +kernel
theorem dX3_tells_121 : decode cX3_tells 121 = .ok (.aload_n 0, 1) := by decide +kernel
theorem dX3_tells_122 : decode cX3_tells 122 = .ok (.getfield 12, 3) := by decide +kernel
theorem dX3_tells_125 : decode cX3_tells 125 = .ok (.getfield 82, 3) := by decide +kernel
theorem dX3_tells_128 : decode cX3_tells 128 = .ok (.iconst 1, 1) := by decide +kernel
theorem dX3_tells_129 : decode cX3_tells 129 = .ok (.if_icmp .eq 6, 3) := by decide +kernel
theorem dX3_tells_132 : decode cX3_tells 132 = .ok (.goto 53, 3) := by decide +kernel
theorem dX3_tells_135 : decode cX3_tells 135 = .ok (.iload_n 1, 1) := by decide +kernel
theorem dX3_tells_136 : decode cX3_tells 136 = .ok (.iconst 4, 1) := by decide +kernel
theorem dX3_tells_137 : decode cX3_tells 137 = .ok (.if_icmp .ne 9, 3) := by decide +kernel
theorem dX3_tells_140 : decode cX3_tells 140 = .ok (.iconst 1, 1) := by decide +kernel
theorem dX3_tells_141 : decode cX3_tells 141 = .ok (.istore 6, 2) := by decide +kernel
theorem dX3_tells_143 : decode cX3_tells 143 = .ok (.goto 42, 3) := by decide +kernel
theorem dX3_tells_146 : decode cX3_tells 146 = .ok (.aload_n 0, 1) := by decide +kernel
theorem dX3_tells_147 : decode cX3_tells 147 = .ok (.getfield 12, 3) := by decide +kernel
theorem dX3_tells_150 : decode cX3_tells 150 = .ok (.aload 5, 2) := by decide +kernel
theorem dX3_tells_152 : decode cX3_tells 152 = .ok (.aload 5, 2) := by decide +kernel
theorem dX3_tells_154 : decode cX3_tells 154 = .ok (.getfield 85, 3) := by decide +kernel
theorem dX3_tells_157 : decode cX3_tells 157 = .ok (.iload 7, 2) := by decide +kernel
theorem dX3_tells_159 : decode cX3_tells 159 = .ok (.iaload, 1) := by decide +kernel
theorem dX3_tells_160 : decode cX3_tells 160 = .ok (.iload 8, 2) := by decide +kernel
theorem dX3_tells_162 : decode cX3_tells 162 = .ok (.invokevirtual 78, 3) := by decide +kernel
theorem dX3_tells_165 : decode cX3_tells 165 = .ok (.ifCond .eq 20, 3) := by decide +kernel
theorem dX3_tells_168 : decode cX3_tells 168 = .ok (.iconst 0, 1) := by decide +kernel
theorem dX3_tells_169 : decode cX3_tells 169 = .ok (.iload_n 3, 1) := by decide +kernel
theorem dX3_tells_170 : decode cX3_tells 170 = .ok (.aload_n 0, 1) := by decide +kernel
theorem dX3_tells_171 : decode cX3_tells 171 = .ok (.getfield 12, 3) := by decide +kernel
theorem dX3_tells_174 : decode cX3_tells 174 = .ok (.getfield 82, 3) := by decide +kernel
theorem dX3_tells_177 : decode cX3_tells 177 = .ok (.invokestatic 88, 3) := by decide +kernel
theorem dX3_tells_180 : decode cX3_tells 180 = .ok (.invokestatic 94, 3) := by decide +kernel
theorem dX3_tells_183 : decode cX3_tells 183 = .ok (.istore 6, 2) := by decide +kernel
theorem dX3_tells_185 : decode cX3_tells 185 = .ok (.iinc 7 1, 3) := by decide +kernel
theorem dX3_tells_188 : decode cX3_tells 188 = .ok (.goto (-137), 3) := by decide +kernel
theorem dX3_tells_191 : decode cX3_tells 191 = .ok (.iload 6, 2) := by decide +kernel
theorem dX3_tells_193 : decode cX3_tells 193 = .ok (.ireturn, 1) := by decide +kernel
def B_X3_tells_185 (Q : Int → st_S → Prop)  (k51 : Int → Int → Nat → Int → Int → st_S → Prop) (l1 : Int) (l3 : Int) (l5 : Nat) (l6 : Int) (l7 : Int) (σ : st_S) : Prop := ∀ x41 : Int, x41 = wr (l7 + 1) → k51 l1 l3 l5 l6 x41 σ
def B_X3_tells_135 (Q : Int → st_S → Prop)  (k51 : Int → Int → Nat → Int → Int → st_S → Prop) (l1 : Int) (l3 : Int) (l5 : Nat) (l6 : Int) (l7 : Int) (l8 : Int) (σ : st_S) : Prop := (¬ l1 = 4 → gK σ l5 = 16 + 9 ∧ ix l7 (gL σ (l5 + 3)) ∧ wp_X0_solve 36 l5 (gI σ (l5 + 3) (Int.toNat l7)) l8 σ (fun r45 s46 => (r45 = 0 → B_X3_tells_185 Q k51 l1 l3 l5 l6 l7 s46) ∧ (¬ r45 = 0 → ∀ x50 : Int, x50 = o_max 0 (o_min l3 (gI s46 36 1)) → B_X3_tells_185 Q k51 l1 l3 l5 x50 l7 s46))) ∧ (l1 = 4 → B_X3_tells_185 Q k51 l1 l3 l5 1 l7 σ)
def L_X3_tells_51 (Q : Int → st_S → Prop)   : Nat → Int → Int → Nat → Int → Int → st_S → Prop
  | 0 => fun _ _ _ _ _ _ => False
  | n + 1 => fun l1 l3 l5 l6 l7 σ => gK σ l5 = 16 + 9 ∧ (gI σ l5 7 ≤ l7 → Q l6 σ) ∧ (¬ gI σ l5 7 ≤ l7 → ix l7 (gL σ (l5 + 2)) ∧ (gI σ (l5 + 2) (Int.toNat l7) = l1 → ix l7 (gL σ (l5 + 4)) ∧ ∀ x59 : Int, x59 = gI σ (l5 + 4) (Int.toNat l7) → ix l7 (gL σ (l5 + 5)) ∧ (gI σ (l5 + 5) (Int.toNat l7) ≤ x59 → B_X3_tells_135 Q (L_X3_tells_51 Q n) l1 l3 l5 l6 l7 x59 σ) ∧ (¬ gI σ (l5 + 5) (Int.toNat l7) ≤ x59 → ix l7 (gL σ (l5 + 5)) ∧ wp_X0_solve 36 l5 x59 (gI σ (l5 + 5) (Int.toNat l7)) σ (fun r64 s65 => (r64 = 0 → B_X3_tells_185 Q (L_X3_tells_51 Q n) l1 l3 l5 l6 l7 s65) ∧ (¬ r64 = 0 → (gI s65 36 1 = 1 → B_X3_tells_135 Q (L_X3_tells_51 Q n) l1 l3 l5 l6 l7 x59 s65) ∧ (¬ gI s65 36 1 = 1 → B_X3_tells_185 Q (L_X3_tells_51 Q n) l1 l3 l5 l6 l7 s65))))) ∧ (¬ gI σ (l5 + 2) (Int.toNat l7) = l1 → B_X3_tells_185 Q (L_X3_tells_51 Q n) l1 l3 l5 l6 l7 σ))
def B_X3_tells_35 (Q : Int → st_S → Prop)   (l1 : Int) (l2 : Int) (l3 : Int) (v0 : (Option Nat)) (σ : st_S) : Prop := (v0 = none → Q l2 σ) ∧ (∀ t72 : Nat, v0 = some t72 → ∃ m51 : Nat, L_X3_tells_51 Q m51 l1 l3 t72 l2 0 σ)
def B_X3_tells_34 (Q : Int → st_S → Prop)   (l1 : Int) (l2 : Int) (l3 : Int) (σ : st_S) : Prop := B_X3_tells_35 Q l1 l2 l3 none σ
def wp_X3_tells (a1 : Int) (a2 : Int) (a3 : Int) (σ : st_S) (Q : Int → st_S → Prop) : Prop := ∀ x74 : Int, x74 = gI σ 25 11 → (x74 < 0 → B_X3_tells_34 Q a1 a2 a3 σ) ∧ (¬ x74 < 0 → (6 ≤ x74 → B_X3_tells_34 Q a1 a2 a3 σ) ∧ (¬ 6 ≤ x74 → ix x74 6 ∧ B_X3_tells_35 Q a1 a2 a3 (gR σ 34 (Int.toNat x74)) σ))
set_option maxRecDepth 20000 in
theorem jb_X3_tells_185 {X : jj_X} {E : ev_E} {n0 hN : Nat} (hc : Cx X E cX3_tells 9 n0 hN RX3) (hm : eM E = 1) (hr : (xT X).sig.returnType = (some .int)) (hh : 3 ≤ hN) {Q : Int → st_S → Prop} {k51 : Int → Int → Nat → Int → Int → st_S → Prop} (hk51 : ∀ {l1 : Int} {l3 : Int} {l5 : Nat} {l6 : Int} {l7 : Int} (cl1 : wr l1 = l1) (cl3 : wr l3 = l3) (cl6 : wr l6 = l6) (cl7 : wr l7 = l7) {σ : st_S}, k51 l1 l3 l5 l6 l7 σ → J X E 9 n0 0 0 (MQ (xB X) (qI E (n0 + 0) Q) (xA X) (xS X) 0 0 (eF E)) σ 51 [(0, vR E 35), (1, vI l1), (3, vI l3), (5, vR E l5), (6, vI l6), (7, vI l7)] []) {l1 : Int} {l3 : Int} {l5 : Nat} {l6 : Int} {l7 : Int} (cl1 : wr l1 = l1) (cl3 : wr l3 = l3) (cl6 : wr l6 = l6) (cl7 : wr l7 = l7) {σ : st_S} (h : B_X3_tells_185 Q k51 l1 l3 l5 l6 l7 σ) : J X E 9 n0 0 0 (MQ (xB X) (qI E (n0 + 0) Q) (xA X) (xS X) 0 0 (eF E)) σ 185 [(0, vR E 35), (1, vI l1), (3, vI l3), (5, vR E l5), (6, vI l6), (7, vI l7)] [] := by
  have hh1 : 1 ≤ hN := by omega
  replace h : ∀ x41 : Int, x41 = wr (l7 + 1) → k51 l1 l3 l5 l6 x41 σ := h
  obtain ⟨x41, ex41⟩ : ∃ y : Int, y = wr (l7 + 1) := ⟨_, rfl⟩
  have cx41 : wr x41 = x41 := by rw [ex41]; exact wr_wr _
  replace h := h x41 ex41
  refine j_iinc (lv' := [(7, vI x41), (0, vR E 35), (1, vI l1), (3, vI l3), (5, vR E l5), (6, vI l6)]) hc 5 dX3_tells_185 rfl (by decide) ex41 rfl ?_
  refine j_goto (tgt := 51) hc dX3_tells_188 (by decide) ?_
  refine j_sub (lv' := [(0, vR E 35), (1, vI l1), (3, vI l3), (5, vR E l5), (6, vI l6), (7, vI x41)]) [1, 2, 3, 4, 5, 0] rfl ?_
  exact hk51 cl1 cl3 cl6 cx41 h
set_option maxRecDepth 20000 in
theorem jb_X3_tells_135 {X : jj_X} {E : ev_E} {n0 hN : Nat} (hc : Cx X E cX3_tells 9 n0 hN RX3) (hm : eM E = 1) (hr : (xT X).sig.returnType = (some .int)) (hh : 3 ≤ hN) {Q : Int → st_S → Prop} {k51 : Int → Int → Nat → Int → Int → st_S → Prop} (hk51 : ∀ {l1 : Int} {l3 : Int} {l5 : Nat} {l6 : Int} {l7 : Int} (cl1 : wr l1 = l1) (cl3 : wr l3 = l3) (cl6 : wr l6 = l6) (cl7 : wr l7 = l7) {σ : st_S}, k51 l1 l3 l5 l6 l7 σ → J X E 9 n0 0 0 (MQ (xB X) (qI E (n0 + 0) Q) (xA X) (xS X) 0 0 (eF E)) σ 51 [(0, vR E 35), (1, vI l1), (3, vI l3), (5, vR E l5), (6, vI l6), (7, vI l7)] []) {l1 : Int} {l3 : Int} {l5 : Nat} {l6 : Int} {l7 : Int} {l8 : Int} (cl1 : wr l1 = l1) (cl3 : wr l3 = l3) (cl6 : wr l6 = l6) (cl7 : wr l7 = l7) (cl8 : wr l8 = l8) {σ : st_S} (h : B_X3_tells_135 Q k51 l1 l3 l5 l6 l7 l8 σ) : J X E 9 n0 0 0 (MQ (xB X) (qI E (n0 + 0) Q) (xA X) (xS X) 0 0 (eF E)) σ 135 [(0, vR E 35), (1, vI l1), (3, vI l3), (5, vR E l5), (6, vI l6), (7, vI l7), (8, vI l8)] [] := by
  have hh1 : 1 ≤ hN := by omega
  replace h : (¬ l1 = 4 → gK σ l5 = 16 + 9 ∧ ix l7 (gL σ (l5 + 3)) ∧ wp_X0_solve 36 l5 (gI σ (l5 + 3) (Int.toNat l7)) l8 σ (fun r45 s46 => (r45 = 0 → B_X3_tells_185 Q k51 l1 l3 l5 l6 l7 s46) ∧ (¬ r45 = 0 → ∀ x50 : Int, x50 = o_max 0 (o_min l3 (gI s46 36 1)) → B_X3_tells_185 Q k51 l1 l3 l5 x50 l7 s46))) ∧ (l1 = 4 → B_X3_tells_185 Q k51 l1 l3 l5 1 l7 σ) := h
  refine j_iload_n hc 1 dX3_tells_135 rfl rfl ?_
  refine j_iconst hc dX3_tells_136 ?_
  refine j_ic_ne hc cl1 (wlit 4 (by decide)) (tgt := 146) dX3_tells_137 (by decide) (fun q52 => ?_) (fun q52 => ?_)
  · replace h := h.1 q52
    refine j_aload_nR hc 0 dX3_tells_146 rfl rfl ?_
    refine j_getR (c' := 36) hc fl_RX3_12 rfl rfl (fun hv => (sv_k hv hm rfl)) dX3_tells_147 ?_
    refine j_aloadR hc 3 dX3_tells_150 rfl ?_
    refine j_aloadR hc 3 dX3_tells_152 rfl ?_
    obtain ⟨f42, h⟩ := h
    refine j_getR (c' := (l5 + 3)) hc fl_RX3_85 rfl rfl (fun _ => f42) dX3_tells_154 ?_
    refine j_iload hc 5 dX3_tells_157 rfl ?_
    obtain ⟨b43, h⟩ := h
    refine j_iald (jn := (Int.toNat l7)) hc (fun hv => sv_bn hv f42 (by decide) rfl) cl7 b43 rfl dX3_tells_159 (fun cn44 => ?_)
    refine j_iload hc 6 dX3_tells_160 rfl ?_
    refine j_vI hc (k := 0) (by decide) (fun hv => Or.inl (sv_k hv hm rfl)) ml_RX3_78 mv_X0_solve (As := [vR E l5, vI (gI σ (l5 + 3) (Int.toNat l7)), vI l8]) (c_X0_solve (cx_E hc) hm cn44 cl8 h) rfl (by omega) (by decide) ⟨Nat.zero_le _, Nat.zero_le _⟩ (Nat.le_of_ble_eq_true rfl) rfl dX3_tells_162 (fun r45 s46 cr45 h => ?_)
    refine j_if_eq hc cr45 (tgt := 185) dX3_tells_165 (by decide) (fun q51 => ?_) (fun q51 => ?_)
    · replace h := h.1 q51
      refine j_sub (lv' := [(0, vR E 35), (1, vI l1), (3, vI l3), (5, vR E l5), (6, vI l6), (7, vI l7)]) [0, 1, 2, 3, 4, 5] rfl ?_
      exact jb_X3_tells_185 hc hm hr hh hk51 cl1 cl3 cl6 cl7 h
    · replace h := h.2 q51
      refine j_iconst hc dX3_tells_168 ?_
      refine j_iload_n hc 2 dX3_tells_169 rfl rfl ?_
      refine j_aload_nR hc 0 dX3_tells_170 rfl rfl ?_
      refine j_getR (c' := 36) hc fl_RX3_12 rfl rfl (fun hv => (sv_k hv hm rfl)) dX3_tells_171 ?_
      refine j_getI hc fl_RX3_82 (Or.inl rfl) (fun hv => Or.inl (sv_k hv hm rfl)) dX3_tells_174 (fun cn47 => ?_)
      refine j_mmin hc mm_RX3_88 hh1 cl3 cn47 (Nat.le_of_ble_eq_true rfl) ⟨Nat.zero_le _, Nat.zero_le _⟩ dX3_tells_177 (fun cn48 => ?_)
      refine j_mmax hc mm_RX3_94 hh1 (wlit 0 (by decide)) cn48 (Nat.le_of_ble_eq_true rfl) ⟨Nat.zero_le _, Nat.zero_le _⟩ dX3_tells_180 (fun cn49 => ?_)
      refine j_c cn49 (fun x50 ex50 cx50 => ?_)
      replace h := h x50 ex50
      refine j_istore (lv' := [(6, vI x50), (0, vR E 35), (1, vI l1), (3, vI l3), (5, vR E l5), (7, vI l7), (8, vI l8)]) hc dX3_tells_183 (by decide) rfl ?_
      refine j_sub (lv' := [(0, vR E 35), (1, vI l1), (3, vI l3), (5, vR E l5), (6, vI x50), (7, vI l7)]) [1, 2, 3, 4, 0, 5] rfl ?_
      exact jb_X3_tells_185 hc hm hr hh hk51 cl1 cl3 cx50 cl7 h
  · replace h := h.2 q52
    refine j_iconst hc dX3_tells_140 ?_
    refine j_istore (lv' := [(6, vI 1), (0, vR E 35), (1, vI l1), (3, vI l3), (5, vR E l5), (7, vI l7), (8, vI l8)]) hc dX3_tells_141 (by decide) rfl ?_
    refine j_goto (tgt := 185) hc dX3_tells_143 (by decide) ?_
    refine j_sub (lv' := [(0, vR E 35), (1, vI l1), (3, vI l3), (5, vR E l5), (6, vI 1), (7, vI l7)]) [1, 2, 3, 4, 0, 5] rfl ?_
    exact jb_X3_tells_185 hc hm hr hh hk51 cl1 cl3 (wlit 1 (by decide)) cl7 h
set_option maxRecDepth 20000 in
theorem jl_X3_tells_51 {X : jj_X} {E : ev_E} {n0 hN : Nat} (hc : Cx X E cX3_tells 9 n0 hN RX3) (hm : eM E = 1) (hr : (xT X).sig.returnType = (some .int)) (hh : 3 ≤ hN) {Q : Int → st_S → Prop} : ∀ (n : Nat) {l1 : Int} {l3 : Int} {l5 : Nat} {l6 : Int} {l7 : Int} (cl1 : wr l1 = l1) (cl3 : wr l3 = l3) (cl6 : wr l6 = l6) (cl7 : wr l7 = l7) {σ : st_S}, L_X3_tells_51 Q n l1 l3 l5 l6 l7 σ → J X E 9 n0 0 0 (MQ (xB X) (qI E (n0 + 0) Q) (xA X) (xS X) 0 0 (eF E)) σ 51 [(0, vR E 35), (1, vI l1), (3, vI l3), (5, vR E l5), (6, vI l6), (7, vI l7)] [] := by
  have hh1 : 1 ≤ hN := by omega
  intro n
  induction n with
  | zero => intro l1 l3 l5 l6 l7 cl1 cl3 cl6 cl7 σ h; exact h.elim
  | succ n ih =>
    intro l1 l3 l5 l6 l7 cl1 cl3 cl6 cl7 σ h
    have hk51 : ∀ {l1 : Int} {l3 : Int} {l5 : Nat} {l6 : Int} {l7 : Int} (cl1 : wr l1 = l1) (cl3 : wr l3 = l3) (cl6 : wr l6 = l6) (cl7 : wr l7 = l7) {σ : st_S}, L_X3_tells_51 Q n l1 l3 l5 l6 l7 σ → J X E 9 n0 0 0 (MQ (xB X) (qI E (n0 + 0) Q) (xA X) (xS X) 0 0 (eF E)) σ 51 [(0, vR E 35), (1, vI l1), (3, vI l3), (5, vR E l5), (6, vI l6), (7, vI l7)] [] := ih
    replace h : gK σ l5 = 16 + 9 ∧ (gI σ l5 7 ≤ l7 → Q l6 σ) ∧ (¬ gI σ l5 7 ≤ l7 → ix l7 (gL σ (l5 + 2)) ∧ (gI σ (l5 + 2) (Int.toNat l7) = l1 → ix l7 (gL σ (l5 + 4)) ∧ ∀ x59 : Int, x59 = gI σ (l5 + 4) (Int.toNat l7) → ix l7 (gL σ (l5 + 5)) ∧ (gI σ (l5 + 5) (Int.toNat l7) ≤ x59 → B_X3_tells_135 Q (L_X3_tells_51 Q n) l1 l3 l5 l6 l7 x59 σ) ∧ (¬ gI σ (l5 + 5) (Int.toNat l7) ≤ x59 → ix l7 (gL σ (l5 + 5)) ∧ wp_X0_solve 36 l5 x59 (gI σ (l5 + 5) (Int.toNat l7)) σ (fun r64 s65 => (r64 = 0 → B_X3_tells_185 Q (L_X3_tells_51 Q n) l1 l3 l5 l6 l7 s65) ∧ (¬ r64 = 0 → (gI s65 36 1 = 1 → B_X3_tells_135 Q (L_X3_tells_51 Q n) l1 l3 l5 l6 l7 x59 s65) ∧ (¬ gI s65 36 1 = 1 → B_X3_tells_185 Q (L_X3_tells_51 Q n) l1 l3 l5 l6 l7 s65))))) ∧ (¬ gI σ (l5 + 2) (Int.toNat l7) = l1 → B_X3_tells_185 Q (L_X3_tells_51 Q n) l1 l3 l5 l6 l7 σ)) := h
    refine j_iload hc 5 dX3_tells_51 rfl ?_
    refine j_aloadR hc 3 dX3_tells_53 rfl ?_
    obtain ⟨f53, h⟩ := h
    refine j_getI hc fl_RX3_64 (Or.inl rfl) (fun _ => Or.inl f53) dX3_tells_55 (fun cn54 => ?_)
    refine j_ic_ge hc cl7 cn54 (tgt := 191) dX3_tells_58 (by decide) (fun q71 => ?_) (fun q71 => ?_)
    · replace h := h.1 q71
      refine j_iload hc 4 dX3_tells_191 rfl ?_
      exact j_iret hc hr cl6 h dX3_tells_193
    · replace h := h.2 q71
      refine j_aloadR hc 3 dX3_tells_61 rfl ?_
      refine j_getR (c' := (l5 + 2)) hc fl_RX3_69 rfl rfl (fun _ => f53) dX3_tells_63 ?_
      refine j_iload hc 5 dX3_tells_66 rfl ?_
      obtain ⟨b55, h⟩ := h
      refine j_iald (jn := (Int.toNat l7)) hc (fun hv => sv_bn hv f53 (by decide) rfl) cl7 b55 rfl dX3_tells_68 (fun cn56 => ?_)
      refine j_iload_n hc 1 dX3_tells_69 rfl rfl ?_
      refine j_ic_eq hc cn56 cl1 (tgt := 76) dX3_tells_70 (by decide) (fun q70 => ?_) (fun q70 => ?_)
      · replace h := h.1 q70
        refine j_aloadR hc 3 dX3_tells_76 rfl ?_
        refine j_getR (c' := (l5 + 4)) hc fl_RX3_72 rfl rfl (fun _ => f53) dX3_tells_78 ?_
        refine j_iload hc 5 dX3_tells_81 rfl ?_
        obtain ⟨b57, h⟩ := h
        refine j_iald (jn := (Int.toNat l7)) hc (fun hv => sv_bn hv f53 (by decide) rfl) cl7 b57 rfl dX3_tells_83 (fun cn58 => ?_)
        refine j_c cn58 (fun x59 ex59 cx59 => ?_)
        replace h := h x59 ex59
        refine j_istore (lv' := [(8, vI x59), (0, vR E 35), (1, vI l1), (3, vI l3), (5, vR E l5), (6, vI l6), (7, vI l7)]) hc dX3_tells_84 (by decide) rfl ?_
        refine j_iload hc 0 dX3_tells_86 rfl ?_
        refine j_aloadR hc 4 dX3_tells_88 rfl ?_
        refine j_getR (c' := (l5 + 5)) hc fl_RX3_75 rfl rfl (fun _ => f53) dX3_tells_90 ?_
        refine j_iload hc 6 dX3_tells_93 rfl ?_
        obtain ⟨b60, h⟩ := h
        refine j_iald (jn := (Int.toNat l7)) hc (fun hv => sv_bn hv f53 (by decide) rfl) cl7 b60 rfl dX3_tells_95 (fun cn61 => ?_)
        refine j_ic_ge hc cx59 cn61 (tgt := 135) dX3_tells_96 (by decide) (fun q69 => ?_) (fun q69 => ?_)
        · replace h := h.1 q69
          refine j_sub (lv' := [(0, vR E 35), (1, vI l1), (3, vI l3), (5, vR E l5), (6, vI l6), (7, vI l7), (8, vI x59)]) [1, 2, 3, 4, 5, 6, 0] rfl ?_
          exact jb_X3_tells_135 hc hm hr hh hk51 cl1 cl3 cl6 cl7 cx59 h
        · replace h := h.2 q69
          refine j_aload_nR hc 1 dX3_tells_99 rfl rfl ?_
          refine j_getR (c' := 36) hc fl_RX3_12 rfl rfl (fun hv => (sv_k hv hm rfl)) dX3_tells_100 ?_
          refine j_aloadR hc 4 dX3_tells_103 rfl ?_
          refine j_iload hc 0 dX3_tells_105 rfl ?_
          refine j_aloadR hc 4 dX3_tells_107 rfl ?_
          refine j_getR (c' := (l5 + 5)) hc fl_RX3_75 rfl rfl (fun _ => f53) dX3_tells_109 ?_
          refine j_iload hc 6 dX3_tells_112 rfl ?_
          obtain ⟨b62, h⟩ := h
          refine j_iald (jn := (Int.toNat l7)) hc (fun hv => sv_bn hv f53 (by decide) rfl) cl7 b62 rfl dX3_tells_114 (fun cn63 => ?_)
          refine j_vI hc (k := 0) (by decide) (fun hv => Or.inl (sv_k hv hm rfl)) ml_RX3_78 mv_X0_solve (As := [vR E l5, vI x59, vI (gI σ (l5 + 5) (Int.toNat l7))]) (c_X0_solve (cx_E hc) hm cx59 cn63 h) rfl (by omega) (by decide) ⟨Nat.zero_le _, Nat.zero_le _⟩ (Nat.le_of_ble_eq_true rfl) rfl dX3_tells_115 (fun r64 s65 cr64 h => ?_)
          refine j_if_eq hc cr64 (tgt := 185) dX3_tells_118 (by decide) (fun q68 => ?_) (fun q68 => ?_)
          · replace h := h.1 q68
            refine j_sub (lv' := [(0, vR E 35), (1, vI l1), (3, vI l3), (5, vR E l5), (6, vI l6), (7, vI l7)]) [1, 2, 3, 4, 5, 6] rfl ?_
            exact jb_X3_tells_185 hc hm hr hh hk51 cl1 cl3 cl6 cl7 h
          · replace h := h.2 q68
            refine j_aload_nR hc 1 dX3_tells_121 rfl rfl ?_
            refine j_getR (c' := 36) hc fl_RX3_12 rfl rfl (fun hv => (sv_k hv hm rfl)) dX3_tells_122 ?_
            refine j_getI hc fl_RX3_82 (Or.inl rfl) (fun hv => Or.inl (sv_k hv hm rfl)) dX3_tells_125 (fun cn66 => ?_)
            refine j_iconst hc dX3_tells_128 ?_
            refine j_ic_eq hc cn66 (wlit 1 (by decide)) (tgt := 135) dX3_tells_129 (by decide) (fun q67 => ?_) (fun q67 => ?_)
            · replace h := h.1 q67
              refine j_sub (lv' := [(0, vR E 35), (1, vI l1), (3, vI l3), (5, vR E l5), (6, vI l6), (7, vI l7), (8, vI x59)]) [1, 2, 3, 4, 5, 6, 0] rfl ?_
              exact jb_X3_tells_135 hc hm hr hh hk51 cl1 cl3 cl6 cl7 cx59 h
            · replace h := h.2 q67
              refine j_goto (tgt := 185) hc dX3_tells_132 (by decide) ?_
              refine j_sub (lv' := [(0, vR E 35), (1, vI l1), (3, vI l3), (5, vR E l5), (6, vI l6), (7, vI l7)]) [1, 2, 3, 4, 5, 6] rfl ?_
              exact jb_X3_tells_185 hc hm hr hh hk51 cl1 cl3 cl6 cl7 h
      · replace h := h.2 q70
        refine j_goto (tgt := 185) hc dX3_tells_73 (by decide) ?_
        refine j_sub (lv' := [(0, vR E 35), (1, vI l1), (3, vI l3), (5, vR E l5), (6, vI l6), (7, vI l7)]) [0, 1, 2, 3, 4, 5] rfl ?_
        exact jb_X3_tells_185 hc hm hr hh hk51 cl1 cl3 cl6 cl7 h
set_option maxRecDepth 20000 in
theorem jb_X3_tells_35 {X : jj_X} {E : ev_E} {n0 hN : Nat} (hc : Cx X E cX3_tells 9 n0 hN RX3) (hm : eM E = 1) (hr : (xT X).sig.returnType = (some .int)) (hh : 3 ≤ hN) {Q : Int → st_S → Prop} {l1 : Int} {l2 : Int} {l3 : Int} {v0 : (Option Nat)} (cl1 : wr l1 = l1) (cl2 : wr l2 = l2) (cl3 : wr l3 = l3) {σ : st_S} (h : B_X3_tells_35 Q l1 l2 l3 v0 σ) : J X E 9 n0 0 0 (MQ (xB X) (qI E (n0 + 0) Q) (xA X) (xS X) 0 0 (eF E)) σ 35 [(0, vR E 35), (1, vI l1), (2, vI l2), (3, vI l3)] [vO E v0] := by
  have hh1 : 1 ≤ hN := by omega
  replace h : (v0 = none → Q l2 σ) ∧ (∀ t72 : Nat, v0 = some t72 → ∃ m51 : Nat, L_X3_tells_51 Q m51 l1 l3 t72 l2 0 σ) := h
  refine j_astoreO (lv' := [(5, vO E v0), (0, vR E 35), (1, vI l1), (2, vI l2), (3, vI l3)]) hc dX3_tells_35 (by decide) rfl ?_
  refine j_iload_n hc 3 dX3_tells_37 rfl rfl ?_
  refine j_istore (lv' := [(6, vI l2), (5, vO E v0), (0, vR E 35), (1, vI l1), (2, vI l2), (3, vI l3)]) hc dX3_tells_38 (by decide) (by cases v0 <;> rfl) ?_
  refine j_aloadO hc 1 dX3_tells_40 rfl ?_
  refine j_ifnonnull (tgt := 48) hc dX3_tells_42 (by decide) (fun t72 et72 => ?_) (fun et72 => ?_)
  · replace h := h.2 t72 et72
    subst et72
    refine j_iconst hc dX3_tells_48 ?_
    refine j_istore (lv' := [(7, vI 0), (6, vI l2), (5, vR E t72), (0, vR E 35), (1, vI l1), (2, vI l2), (3, vI l3)]) hc dX3_tells_49 (by decide) rfl ?_
    obtain ⟨n51, h⟩ := h
    refine j_sub (lv' := [(0, vR E 35), (1, vI l1), (3, vI l3), (5, vR E t72), (6, vI l2), (7, vI 0)]) [3, 4, 6, 2, 1, 0] rfl ?_
    exact jl_X3_tells_51 hc hm hr hh n51 cl1 cl3 cl2 (wlit 0 (by decide)) h
  · replace h := h.1 et72
    subst et72
    refine j_iload hc 0 dX3_tells_45 rfl ?_
    exact j_iret hc hr cl2 h dX3_tells_47
set_option maxRecDepth 20000 in
theorem jb_X3_tells_34 {X : jj_X} {E : ev_E} {n0 hN : Nat} (hc : Cx X E cX3_tells 9 n0 hN RX3) (hm : eM E = 1) (hr : (xT X).sig.returnType = (some .int)) (hh : 3 ≤ hN) {Q : Int → st_S → Prop} {l1 : Int} {l2 : Int} {l3 : Int} (cl1 : wr l1 = l1) (cl2 : wr l2 = l2) (cl3 : wr l3 = l3) {σ : st_S} (h : B_X3_tells_34 Q l1 l2 l3 σ) : J X E 9 n0 0 0 (MQ (xB X) (qI E (n0 + 0) Q) (xA X) (xS X) 0 0 (eF E)) σ 34 [(0, vR E 35), (1, vI l1), (2, vI l2), (3, vI l3)] [] := by
  have hh1 : 1 ≤ hN := by omega
  replace h : B_X3_tells_35 Q l1 l2 l3 none σ := h
  refine j_null hc dX3_tells_34 ?_
  refine j_sub (lv' := [(0, vR E 35), (1, vI l1), (2, vI l2), (3, vI l3)]) [0, 1, 2, 3] rfl ?_
  exact jb_X3_tells_35 hc hm hr hh cl1 cl2 cl3 h
set_option maxRecDepth 20000 in
theorem c_X3_tells {l : Launch} {E : ev_E} (hE : Eok E) (hm : eM E = 1) {a1 : Int} {a2 : Int} {a3 : Int} (ca1 : wr a1 = a1) (ca2 : wr a2 = a2) (ca3 : wr a3 = a3) {σ : st_S} {Q : Int → st_S → Prop} (h : wp_X3_tells a1 a2 a3 σ Q) : cM l yX3_tells cX3_tells 9 (some .int) E 3 0 0 [vR E 35, vI a1, vI a2, vI a3] σ (qI E (gN σ + 0) Q) := by
  refine cM_of (lv := [(0, vR E 35), (1, vI a1), (2, vI a2), (3, vI a3)]) (by decide) hE (Nat.le_of_ble_eq_true rfl) (rfl) ?_
  intro X hX hc _ _ hr _ _
  subst hX
  have hh : 3 ≤ 3 := Nat.le_refl _
  have hh1 : 1 ≤ 3 := by omega
  replace h : ∀ x74 : Int, x74 = gI σ 25 11 → (x74 < 0 → B_X3_tells_34 Q a1 a2 a3 σ) ∧ (¬ x74 < 0 → (6 ≤ x74 → B_X3_tells_34 Q a1 a2 a3 σ) ∧ (¬ 6 ≤ x74 → ix x74 6 ∧ B_X3_tells_35 Q a1 a2 a3 (gR σ 34 (Int.toNat x74)) σ)) := h
  refine j_aload_nR hc 0 dX3_tells_0 rfl rfl ?_
  refine j_getR (c' := 25) hc fl_RX3_18 rfl rfl (fun hv => (sv_k hv hm rfl)) dX3_tells_1 ?_
  refine j_getI hc fl_RX3_56 (Or.inl rfl) (fun hv => Or.inl (sv_k hv hm rfl)) dX3_tells_4 (fun cn73 => ?_)
  refine j_c cn73 (fun x74 ex74 cx74 => ?_)
  replace h := h x74 ex74
  refine j_istore (lv' := [(4, vI x74), (0, vR E 35), (1, vI a1), (2, vI a2), (3, vI a3)]) hc dX3_tells_7 (by decide) rfl ?_
  refine j_iload hc 0 dX3_tells_9 rfl ?_
  refine j_if_lt hc cx74 (tgt := 34) dX3_tells_11 (by decide) (fun q77 => ?_) (fun q77 => ?_)
  · replace h := h.1 q77
    refine j_sub (lv' := [(0, vR E 35), (1, vI a1), (2, vI a2), (3, vI a3)]) [1, 2, 3, 4] rfl ?_
    exact jb_X3_tells_34 hc hm hr hh ca1 ca2 ca3 h
  · replace h := h.2 q77
    refine j_iload hc 0 dX3_tells_14 rfl ?_
    refine j_bipush hc dX3_tells_16 (by decide) ?_
    refine j_ic_ge hc cx74 (wlit 6 (by decide)) (tgt := 34) dX3_tells_18 (by decide) (fun q76 => ?_) (fun q76 => ?_)
    · replace h := h.1 q76
      refine j_sub (lv' := [(0, vR E 35), (1, vI a1), (2, vI a2), (3, vI a3)]) [1, 2, 3, 4] rfl ?_
      exact jb_X3_tells_34 hc hm hr hh ca1 ca2 ca3 h
    · replace h := h.2 q76
      refine j_aload_nR hc 1 dX3_tells_21 rfl rfl ?_
      refine j_getR (c' := 25) hc fl_RX3_18 rfl rfl (fun hv => (sv_k hv hm rfl)) dX3_tells_22 ?_
      refine j_getR (c' := 34) hc fl_RX3_60 rfl rfl (fun hv => (sv_k hv hm rfl)) dX3_tells_25 ?_
      refine j_iload hc 0 dX3_tells_28 rfl ?_
      obtain ⟨b75, h⟩ := h
      refine j_aald (jn := (Int.toNat x74)) hc 4 (by decide) (fun hv => sv_kl hv hm rfl) cx74 b75 rfl dX3_tells_30 ?_
      refine j_goto (tgt := 35) hc dX3_tells_31 (by decide) ?_
      refine j_sub (lv' := [(0, vR E 35), (1, vI a1), (2, vI a2), (3, vI a3)]) [1, 2, 3, 4] rfl ?_
      exact jb_X3_tells_35 hc hm hr hh ca1 ca2 ca3 h
-- LitStrangers$Judge.costs(I)I
theorem dX3_costs_0 : decode cX3_costs 0 = .ok (.aload_n 0, 1) := by decide +kernel
theorem dX3_costs_1 : decode cX3_costs 1 = .ok (.iload_n 1, 1) := by decide +kernel
theorem dX3_costs_2 : decode cX3_costs 2 = .ok (.invokevirtual 22, 3) := by decide +kernel
theorem dX3_costs_5 : decode cX3_costs 5 = .ok (.aload_n 0, 1) := by decide +kernel
theorem dX3_costs_6 : decode cX3_costs 6 = .ok (.iconst 1, 1) := by decide +kernel
theorem dX3_costs_7 : decode cX3_costs 7 = .ok (.aload_n 0, 1) := by decide +kernel
theorem dX3_costs_8 : decode cX3_costs 8 = .ok (.getfield 18, 3) := by decide +kernel
theorem dX3_costs_11 : decode cX3_costs 11 = .ok (.getfield 26, 3) := by decide +kernel
theorem dX3_costs_14 : decode cX3_costs 14 = .ok (.iload_n 1, 1) := by decide +kernel
theorem dX3_costs_15 : decode cX3_costs 15 = .ok (.iaload, 1) := by decide +kernel
theorem dX3_costs_16 : decode cX3_costs 16 = .ok (.sipush 999, 3) := by decide +kernel
theorem dX3_costs_19 : decode cX3_costs 19 = .ok (.invokevirtual 32, 3) := by decide +kernel
theorem dX3_costs_22 : decode cX3_costs 22 = .ok (.ireturn, 1) := by decide +kernel
def wp_X3_costs (a1 : Int) (σ : st_S) (Q : Int → st_S → Prop) : Prop := wp_X3_setNow a1 σ (fun s8 => ix a1 10 ∧ wp_X3_tells 1 (gI s8 26 (Int.toNat a1)) 999 s8 (fun r11 s12 => Q r11 s12))
set_option maxRecDepth 20000 in
theorem c_X3_costs {l : Launch} {E : ev_E} (hE : Eok E) (hm : eM E = 1) {a1 : Int} (ca1 : wr a1 = a1) {σ : st_S} {Q : Int → st_S → Prop} (h : wp_X3_costs a1 σ Q) : cM l yX3_costs cX3_costs 2 (some .int) E 4 0 0 [vR E 35, vI a1] σ (qI E (gN σ + 0) Q) := by
  refine cM_of (lv := [(0, vR E 35), (1, vI a1)]) (by decide) hE (Nat.le_of_ble_eq_true rfl) (rfl) ?_
  intro X hX hc _ _ hr _ _
  subst hX
  have hh : 4 ≤ 4 := Nat.le_refl _
  have hh1 : 1 ≤ 4 := by omega
  replace h : wp_X3_setNow a1 σ (fun s8 => ix a1 10 ∧ wp_X3_tells 1 (gI s8 26 (Int.toNat a1)) 999 s8 (fun r11 s12 => Q r11 s12)) := h
  refine j_aload_nR hc 0 dX3_costs_0 rfl rfl ?_
  refine j_iload_n hc 1 dX3_costs_1 rfl rfl ?_
  refine j_vV hc (k := 3) (by decide) (fun hv => Or.inl (sv_k hv hm rfl)) ml_RX3_22 mv_X3_setNow (As := [vI a1]) (c_X3_setNow (cx_E hc) hm ca1 h) rfl (by omega) (by decide) ⟨Nat.zero_le _, Nat.zero_le _⟩ (Nat.le_of_ble_eq_true rfl) rfl dX3_costs_2 (fun s8 h => ?_)
  refine j_aload_nR hc 0 dX3_costs_5 rfl rfl ?_
  refine j_iconst hc dX3_costs_6 ?_
  refine j_aload_nR hc 0 dX3_costs_7 rfl rfl ?_
  refine j_getR (c' := 25) hc fl_RX3_18 rfl rfl (fun hv => (sv_k hv hm rfl)) dX3_costs_8 ?_
  refine j_getR (c' := 26) hc fl_RX3_26 rfl rfl (fun hv => (sv_k hv hm rfl)) dX3_costs_11 ?_
  refine j_iload_n hc 1 dX3_costs_14 rfl rfl ?_
  obtain ⟨b9, h⟩ := h
  refine j_iald (jn := (Int.toNat a1)) hc (fun hv => sv_kl hv hm rfl) ca1 b9 rfl dX3_costs_15 (fun cn10 => ?_)
  refine j_sipush hc dX3_costs_16 (by decide) ?_
  refine j_vI hc (k := 3) (by decide) (fun hv => Or.inl (sv_k hv hm rfl)) ml_RX3_32 mv_X3_tells (As := [vI 1, vI (gI s8 26 (Int.toNat a1)), vI 999]) (c_X3_tells (cx_E hc) hm (wlit 1 (by decide)) cn10 (wlit 999 (by decide)) h) rfl (by omega) (by decide) ⟨Nat.zero_le _, Nat.zero_le _⟩ (Nat.le_of_ble_eq_true rfl) rfl dX3_costs_19 (fun r11 s12 cr11 h => ?_)
  exact j_iret hc hr cr11 h dX3_costs_22
-- LitStrangers$Judge.takes(I)I
theorem dX3_takes_0 : decode cX3_takes 0 = .ok (.aload_n 0, 1) := by decide +kernel
theorem dX3_takes_1 : decode cX3_takes 1 = .ok (.iload_n 1, 1) := by decide +kernel
theorem dX3_takes_2 : decode cX3_takes 2 = .ok (.invokevirtual 22, 3) := by decide +kernel
theorem dX3_takes_5 : decode cX3_takes 5 = .ok (.aload_n 0, 1) := by decide +kernel
theorem dX3_takes_6 : decode cX3_takes 6 = .ok (.iconst 0, 1) := by decide +kernel
theorem dX3_takes_7 : decode cX3_takes 7 = .ok (.aload_n 0, 1) := by decide +kernel
theorem dX3_takes_8 : decode cX3_takes 8 = .ok (.getfield 18, 3) := by decide +kernel
theorem dX3_takes_11 : decode cX3_takes 11 = .ok (.getfield 26, 3) := by decide +kernel
theorem dX3_takes_14 : decode cX3_takes 14 = .ok (.iload_n 1, 1) := by decide +kernel
theorem dX3_takes_15 : decode cX3_takes 15 = .ok (.iaload, 1) := by decide +kernel
theorem dX3_takes_16 : decode cX3_takes 16 = .ok (.bipush 60, 2) := by decide +kernel
theorem dX3_takes_18 : decode cX3_takes 18 = .ok (.invokevirtual 32, 3) := by decide +kernel
theorem dX3_takes_21 : decode cX3_takes 21 = .ok (.ireturn, 1) := by decide +kernel
def wp_X3_takes (a1 : Int) (σ : st_S) (Q : Int → st_S → Prop) : Prop := wp_X3_setNow a1 σ (fun s8 => ix a1 10 ∧ wp_X3_tells 0 (gI s8 26 (Int.toNat a1)) 60 s8 (fun r11 s12 => Q r11 s12))
set_option maxRecDepth 20000 in
theorem c_X3_takes {l : Launch} {E : ev_E} (hE : Eok E) (hm : eM E = 1) {a1 : Int} (ca1 : wr a1 = a1) {σ : st_S} {Q : Int → st_S → Prop} (h : wp_X3_takes a1 σ Q) : cM l yX3_takes cX3_takes 2 (some .int) E 4 0 0 [vR E 35, vI a1] σ (qI E (gN σ + 0) Q) := by
  refine cM_of (lv := [(0, vR E 35), (1, vI a1)]) (by decide) hE (Nat.le_of_ble_eq_true rfl) (rfl) ?_
  intro X hX hc _ _ hr _ _
  subst hX
  have hh : 4 ≤ 4 := Nat.le_refl _
  have hh1 : 1 ≤ 4 := by omega
  replace h : wp_X3_setNow a1 σ (fun s8 => ix a1 10 ∧ wp_X3_tells 0 (gI s8 26 (Int.toNat a1)) 60 s8 (fun r11 s12 => Q r11 s12)) := h
  refine j_aload_nR hc 0 dX3_takes_0 rfl rfl ?_
  refine j_iload_n hc 1 dX3_takes_1 rfl rfl ?_
  refine j_vV hc (k := 3) (by decide) (fun hv => Or.inl (sv_k hv hm rfl)) ml_RX3_22 mv_X3_setNow (As := [vI a1]) (c_X3_setNow (cx_E hc) hm ca1 h) rfl (by omega) (by decide) ⟨Nat.zero_le _, Nat.zero_le _⟩ (Nat.le_of_ble_eq_true rfl) rfl dX3_takes_2 (fun s8 h => ?_)
  refine j_aload_nR hc 0 dX3_takes_5 rfl rfl ?_
  refine j_iconst hc dX3_takes_6 ?_
  refine j_aload_nR hc 0 dX3_takes_7 rfl rfl ?_
  refine j_getR (c' := 25) hc fl_RX3_18 rfl rfl (fun hv => (sv_k hv hm rfl)) dX3_takes_8 ?_
  refine j_getR (c' := 26) hc fl_RX3_26 rfl rfl (fun hv => (sv_k hv hm rfl)) dX3_takes_11 ?_
  refine j_iload_n hc 1 dX3_takes_14 rfl rfl ?_
  obtain ⟨b9, h⟩ := h
  refine j_iald (jn := (Int.toNat a1)) hc (fun hv => sv_kl hv hm rfl) ca1 b9 rfl dX3_takes_15 (fun cn10 => ?_)
  refine j_bipush hc dX3_takes_16 (by decide) ?_
  refine j_vI hc (k := 3) (by decide) (fun hv => Or.inl (sv_k hv hm rfl)) ml_RX3_32 mv_X3_tells (As := [vI 0, vI (gI s8 26 (Int.toNat a1)), vI 60]) (c_X3_tells (cx_E hc) hm (wlit 0 (by decide)) cn10 (wlit 60 (by decide)) h) rfl (by omega) (by decide) ⟨Nat.zero_le _, Nat.zero_le _⟩ (Nat.le_of_ble_eq_true rfl) rfl dX3_takes_18 (fun r11 s12 cr11 h => ?_)
  exact j_iret hc hr cr11 h dX3_takes_21
-- java/lang/Math.floorMod(II)I
theorem dJ9_floorMod_7cf53_0 : decode cJ9_floorMod_7cf53 0 = .ok (.iload_n 0, 1) := by decide +kernel
theorem dJ9_floorMod_7cf53_1 : decode cJ9_floorMod_7cf53 1 = .ok (.iload_n 1, 1) := by decide +kernel
theorem dJ9_floorMod_7cf53_2 : decode cJ9_floorMod_7cf53 2 = .ok (.irem, 1) := by decide +kernel
theorem dJ9_floorMod_7cf53_3 : decode cJ9_floorMod_7cf53 3 = .ok (.istore_n 2, 1) := by decide +kernel
theorem dJ9_floorMod_7cf53_4 : decode cJ9_floorMod_7cf53 4 = .ok (.iload_n 0, 1) := by decide +kernel
theorem dJ9_floorMod_7cf53_5 : decode cJ9_floorMod_7cf53 5 = .ok (.iload_n 1, 1) := by decide +kernel
theorem dJ9_floorMod_7cf53_6 : decode cJ9_floorMod_7cf53 6 = .ok (.ixor, 1) := by decide +kernel
theorem dJ9_floorMod_7cf53_7 : decode cJ9_floorMod_7cf53 7 = .ok (.ifCond .ge 11, 3) := by decide +kernel
theorem dJ9_floorMod_7cf53_10 : decode cJ9_floorMod_7cf53 10 = .ok (.iload_n 2, 1) := by decide +kernel
theorem dJ9_floorMod_7cf53_11 : decode cJ9_floorMod_7cf53 11 = .ok (.ifCond .eq 7, 3) := by decide +kernel
theorem dJ9_floorMod_7cf53_14 : decode cJ9_floorMod_7cf53 14 = .ok (.iload_n 2, 1) := by decide +kernel
theorem dJ9_floorMod_7cf53_15 : decode cJ9_floorMod_7cf53 15 = .ok (.iload_n 1, 1) := by decide +kernel
theorem dJ9_floorMod_7cf53_16 : decode cJ9_floorMod_7cf53 16 = .ok (.iadd, 1) := by decide +kernel
theorem dJ9_floorMod_7cf53_17 : decode cJ9_floorMod_7cf53 17 = .ok (.ireturn, 1) := by decide +kernel
theorem dJ9_floorMod_7cf53_18 : decode cJ9_floorMod_7cf53 18 = .ok (.iload_n 2, 1) := by decide +kernel
theorem dJ9_floorMod_7cf53_19 : decode cJ9_floorMod_7cf53 19 = .ok (.ireturn, 1) := by decide +kernel
def B_J9_floorMod_7cf53_18 (Q : Int → st_S → Prop)   (l2 : Int) (σ : st_S) : Prop := Q l2 σ
def wp_J9_floorMod_7cf53 (a1 : Int) (a2 : Int) (σ : st_S) (Q : Int → st_S → Prop) : Prop := ¬ a2 = 0 ∧ ∀ x4 : Int, x4 = o_rem a1 a2 → (0 ≤ o_xor a1 a2 → B_J9_floorMod_7cf53_18 Q x4 σ) ∧ (¬ 0 ≤ o_xor a1 a2 → (x4 = 0 → B_J9_floorMod_7cf53_18 Q x4 σ) ∧ (¬ x4 = 0 → Q (wr (x4 + a2)) σ))
set_option maxRecDepth 20000 in
theorem jb_J9_floorMod_7cf53_18 {X : jj_X} {E : ev_E} {n0 hN : Nat} (hc : Cx X E cJ9_floorMod_7cf53 3 n0 hN RJ9) (hr : (xT X).sig.returnType = (some .int)) (hh : 1 ≤ hN) {Q : Int → st_S → Prop} {l2 : Int} (cl2 : wr l2 = l2) {σ : st_S} (h : B_J9_floorMod_7cf53_18 Q l2 σ) : J X E 3 n0 0 0 (MQ (xB X) (qI E (n0 + 0) Q) (xA X) (xS X) 0 0 (eF E)) σ 18 [(2, vI l2)] [] := by
  have hh1 : 1 ≤ hN := by omega
  replace h : Q l2 σ := h
  refine j_iload_n hc 0 dJ9_floorMod_7cf53_18 rfl rfl ?_
  exact j_iret hc hr cl2 h dJ9_floorMod_7cf53_19
set_option maxRecDepth 20000 in
theorem c_J9_floorMod_7cf53 {l : Launch} {E : ev_E} (hE : Eok E) {a1 : Int} {a2 : Int} (ca1 : wr a1 = a1) (ca2 : wr a2 = a2) {σ : st_S} {Q : Int → st_S → Prop} (h : wp_J9_floorMod_7cf53 a1 a2 σ Q) : cM l yJ9_floorMod_7cf53 cJ9_floorMod_7cf53 3 (some .int) E 1 0 0 [vI a1, vI a2] σ (qI E (gN σ + 0) Q) := by
  refine cM_ofF (lv := [(0, vI a1), (1, vI a2)]) (by decide +kernel) hE (Nat.le_of_ble_eq_true rfl) (rfl) ?_
  intro X hX hc _ _ hr _ _
  subst hX
  have hh : 1 ≤ 1 := Nat.le_refl _
  have hh1 : 1 ≤ 1 := by omega
  replace h : ¬ a2 = 0 ∧ ∀ x4 : Int, x4 = o_rem a1 a2 → (0 ≤ o_xor a1 a2 → B_J9_floorMod_7cf53_18 Q x4 σ) ∧ (¬ 0 ≤ o_xor a1 a2 → (x4 = 0 → B_J9_floorMod_7cf53_18 Q x4 σ) ∧ (¬ x4 = 0 → Q (wr (x4 + a2)) σ)) := h
  refine j_iload_n hc 0 dJ9_floorMod_7cf53_0 rfl rfl ?_
  refine j_iload_n hc 1 dJ9_floorMod_7cf53_1 rfl rfl ?_
  obtain ⟨z3, h⟩ := h
  refine j_irem hc dJ9_floorMod_7cf53_2 (by rw [ca2]; exact z3) ?_
  refine j_c (cn_rem _ _) (fun x4 ex4 cx4 => ?_)
  replace h := h x4 ex4
  refine j_istore_n (lv' := [(2, vI x4), (0, vI a1), (1, vI a2)]) hc dJ9_floorMod_7cf53_3 rfl (by decide) rfl ?_
  refine j_iload_n hc 1 dJ9_floorMod_7cf53_4 rfl rfl ?_
  refine j_iload_n hc 2 dJ9_floorMod_7cf53_5 rfl rfl ?_
  refine j_ixor hc dJ9_floorMod_7cf53_6 ?_
  refine j_if_ge hc (cn_xor _ _) (tgt := 18) dJ9_floorMod_7cf53_7 (by decide) (fun q6 => ?_) (fun q6 => ?_)
  · replace h := h.1 q6
    refine j_sub (lv' := [(2, vI x4)]) [0] rfl ?_
    exact jb_J9_floorMod_7cf53_18 hc hr hh cx4 h
  · replace h := h.2 q6
    refine j_iload_n hc 0 dJ9_floorMod_7cf53_10 rfl rfl ?_
    refine j_if_eq hc cx4 (tgt := 18) dJ9_floorMod_7cf53_11 (by decide) (fun q5 => ?_) (fun q5 => ?_)
    · replace h := h.1 q5
      refine j_sub (lv' := [(2, vI x4)]) [0] rfl ?_
      exact jb_J9_floorMod_7cf53_18 hc hr hh cx4 h
    · replace h := h.2 q5
      refine j_iload_n hc 0 dJ9_floorMod_7cf53_14 rfl rfl ?_
      refine j_iload_n hc 2 dJ9_floorMod_7cf53_15 rfl rfl ?_
      refine j_iadd hc dJ9_floorMod_7cf53_16 ?_
      refine j_w (fun y ey cy => ?_)
      subst ey
      exact j_iret hc hr cy h dJ9_floorMod_7cf53_17
-- LitStrangers$Log.placeOf(I)I
theorem dX4_placeOf_0 : decode cX4_placeOf 0 = .ok (.aload_n 0, 1) := by decide +kernel
theorem dX4_placeOf_1 : decode cX4_placeOf 1 = .ok (.getfield 19, 3) := by decide +kernel
theorem dX4_placeOf_4 : decode cX4_placeOf 4 = .ok (.iload_n 1, 1) := by decide +kernel
theorem dX4_placeOf_5 : decode cX4_placeOf 5 = .ok (.iadd, 1) := by decide +kernel
theorem dX4_placeOf_6 : decode cX4_placeOf 6 = .ok (.bipush 16, 2) := by decide +kernel
theorem dX4_placeOf_8 : decode cX4_placeOf 8 = .ok (.invokestatic 55, 3) := by decide +kernel
theorem dX4_placeOf_11 : decode cX4_placeOf 11 = .ok (.bipush 35, 2) := by decide +kernel
theorem dX4_placeOf_13 : decode cX4_placeOf 13 = .ok (.imul, 1) := by decide +kernel
theorem dX4_placeOf_14 : decode cX4_placeOf 14 = .ok (.ireturn, 1) := by decide +kernel
def wp_X4_placeOf (a1 : Int) (σ : st_S) (Q : Int → st_S → Prop) : Prop := wp_J9_floorMod_7cf53 (wr (gI σ 39 1 + a1)) 16 σ (fun r5 s6 => Q (wr (r5 * 35)) s6)
set_option maxRecDepth 20000 in
theorem c_X4_placeOf {l : Launch} {E : ev_E} (hE : Eok E) (hm : eM E = 1) {a1 : Int} (ca1 : wr a1 = a1) {σ : st_S} {Q : Int → st_S → Prop} (h : wp_X4_placeOf a1 σ Q) : cM l yX4_placeOf cX4_placeOf 2 (some .int) E 2 0 0 [vR E 39, vI a1] σ (qI E (gN σ + 0) Q) := by
  refine cM_of (lv := [(0, vR E 39), (1, vI a1)]) (by decide) hE (Nat.le_of_ble_eq_true rfl) (rfl) ?_
  intro X hX hc _ _ hr _ _
  subst hX
  have hh : 2 ≤ 2 := Nat.le_refl _
  have hh1 : 1 ≤ 2 := by omega
  replace h : wp_J9_floorMod_7cf53 (wr (gI σ 39 1 + a1)) 16 σ (fun r5 s6 => Q (wr (r5 * 35)) s6) := h
  refine j_aload_nR hc 0 dX4_placeOf_0 rfl rfl ?_
  refine j_getI hc fl_RX4_19 (Or.inl rfl) (fun hv => Or.inl (sv_k hv hm rfl)) dX4_placeOf_1 (fun cn4 => ?_)
  refine j_iload_n hc 1 dX4_placeOf_4 rfl rfl ?_
  refine j_iadd hc dX4_placeOf_5 ?_
  refine j_bipush hc dX4_placeOf_6 (by decide) ?_
  refine j_sI hc ml_RX4_55 mv_J9_floorMod_7cf53 (As := [vI (wr (gI σ 39 1 + a1)), vI 16]) (c_J9_floorMod_7cf53 (cx_E hc) (wr_wr _) (wlit 16 (by decide)) h) rfl (by omega) (by decide) ⟨Nat.zero_le _, Nat.zero_le _⟩ (Nat.le_of_ble_eq_true rfl) (by simp only [vI_wr, vL_wl]; rfl) dX4_placeOf_8 (fun r5 s6 cr5 h => ?_)
  refine j_bipush hc dX4_placeOf_11 (by decide) ?_
  refine j_imul hc dX4_placeOf_13 ?_
  refine j_w (fun y ey cy => ?_)
  subst ey
  exact j_iret hc hr cy h dX4_placeOf_14
-- LitStrangers$Log.keep(ILLitStrangers$Coast;)V
theorem dX4_keep_0 : decode cX4_keep 0 = .ok (.aload_n 0, 1) := by decide +kernel
theorem dX4_keep_1 : decode cX4_keep 1 = .ok (.getfield 15, 3) := by decide +kernel
theorem dX4_keep_4 : decode cX4_keep 4 = .ok (.bipush 16, 2) := by decide +kernel
theorem dX4_keep_6 : decode cX4_keep 6 = .ok (.if_icmp .lt 22, 3) := by decide +kernel
theorem dX4_keep_9 : decode cX4_keep 9 = .ok (.aload_n 0, 1) := by decide +kernel
theorem dX4_keep_10 : decode cX4_keep 10 = .ok (.aload_n 0, 1) := by decide +kernel
theorem dX4_keep_11 : decode cX4_keep 11 = .ok (.getfield 19, 3) := by decide +kernel
theorem dX4_keep_14 : decode cX4_keep 14 = .ok (.iconst 1, 1) := by decide +kernel
theorem dX4_keep_15 : decode cX4_keep 15 = .ok (.iadd, 1) := by decide +kernel
theorem dX4_keep_16 : decode cX4_keep 16 = .ok (.bipush 16, 2) := by decide +kernel
theorem dX4_keep_18 : decode cX4_keep 18 = .ok (.irem, 1) := by decide +kernel
theorem dX4_keep_19 : decode cX4_keep 19 = .ok (.putfield 19, 3) := by decide +kernel
theorem dX4_keep_22 : decode cX4_keep 22 = .ok (.aload_n 0, 1) := by decide +kernel
theorem dX4_keep_23 : decode cX4_keep 23 = .ok (.bipush 15, 2) := by decide +kernel
theorem dX4_keep_25 : decode cX4_keep 25 = .ok (.putfield 15, 3) := by decide +kernel
theorem dX4_keep_28 : decode cX4_keep 28 = .ok (.aload_n 0, 1) := by decide +kernel
theorem dX4_keep_29 : decode cX4_keep 29 = .ok (.aload_n 0, 1) := by decide +kernel
theorem dX4_keep_30 : decode cX4_keep 30 = .ok (.getfield 15, 3) := by decide +kernel
theorem dX4_keep_33 : decode cX4_keep 33 = .ok (.invokevirtual 28, 3) := by decide +kernel
theorem dX4_keep_36 : decode cX4_keep 36 = .ok (.istore_n 3, 1) := by decide +kernel
theorem dX4_keep_37 : decode cX4_keep 37 = .ok (.aload_n 0, 1) := by decide +kernel
theorem dX4_keep_38 : decode cX4_keep 38 = .ok (.dup, 1) := by decide +kernel
theorem dX4_keep_39 : decode cX4_keep 39 = .ok (.getfield 15, 3) := by decide +kernel
theorem dX4_keep_42 : decode cX4_keep 42 = .ok (.iconst 1, 1) := by decide +kernel
theorem dX4_keep_43 : decode cX4_keep 43 = .ok (.iadd, 1) := by decide +kernel
theorem dX4_keep_44 : decode cX4_keep 44 = .ok (.putfield 15, 3) := by decide +kernel
theorem dX4_keep_47 : decode cX4_keep 47 = .ok (.aload_n 0, 1) := by decide +kernel
theorem dX4_keep_48 : decode cX4_keep 48 = .ok (.getfield 11, 3) := by decide +kernel
theorem dX4_keep_51 : decode cX4_keep 51 = .ok (.iload_n 3, 1) := by decide +kernel
theorem dX4_keep_52 : decode cX4_keep 52 = .ok (.iload_n 1, 1) := by decide +kernel
theorem dX4_keep_53 : decode cX4_keep 53 = .ok (.iastore, 1) := by decide +kernel
theorem dX4_keep_54 : decode cX4_keep 54 = .ok (.aload_n 0, 1) := by decide +kernel
theorem dX4_keep_55 : decode cX4_keep 55 = .ok (.getfield 11, 3) := by decide +kernel
theorem dX4_keep_58 : decode cX4_keep 58 = .ok (.iload_n 3, 1) := by decide +kernel
theorem dX4_keep_59 : decode cX4_keep 59 = .ok (.iconst 1, 1) := by decide +kernel
theorem dX4_keep_60 : decode cX4_keep 60 = .ok (.iadd, 1) := by decide +kernel
theorem dX4_keep_61 : decode cX4_keep 61 = .ok (.aload_n 2, 1) := by decide +kernel
theorem dX4_keep_62 : decode cX4_keep 62 = .ok (.getfield 32, 3) := by decide +kernel
theorem dX4_keep_65 : decode cX4_keep 65 = .ok (.iconst 0, 1) := by decide +kernel
theorem dX4_keep_66 : decode cX4_keep 66 = .ok (.iaload, 1) := by decide +kernel
theorem dX4_keep_67 : decode cX4_keep 67 = .ok (.iastore, 1) := by decide +kernel
theorem dX4_keep_68 : decode cX4_keep 68 = .ok (.aload_n 0, 1) := by decide +kernel
theorem dX4_keep_69 : decode cX4_keep 69 = .ok (.getfield 11, 3) := by decide +kernel
theorem dX4_keep_72 : decode cX4_keep 72 = .ok (.iload_n 3, 1) := by decide +kernel
theorem dX4_keep_73 : decode cX4_keep 73 = .ok (.iconst 2, 1) := by decide +kernel
theorem dX4_keep_74 : decode cX4_keep 74 = .ok (.iadd, 1) := by decide +kernel
theorem dX4_keep_75 : decode cX4_keep 75 = .ok (.aload_n 2, 1) := by decide +kernel
theorem dX4_keep_76 : decode cX4_keep 76 = .ok (.getfield 37, 3) := by decide +kernel
theorem dX4_keep_79 : decode cX4_keep 79 = .ok (.iastore, 1) := by decide +kernel
theorem dX4_keep_80 : decode cX4_keep 80 = .ok (.aload_n 0, 1) := by decide +kernel
theorem dX4_keep_81 : decode cX4_keep 81 = .ok (.getfield 11, 3) := by decide +kernel
theorem dX4_keep_84 : decode cX4_keep 84 = .ok (.iload_n 3, 1) := by decide +kernel
theorem dX4_keep_85 : decode cX4_keep 85 = .ok (.iconst 3, 1) := by decide +kernel
theorem dX4_keep_86 : decode cX4_keep 86 = .ok (.iadd, 1) := by decide +kernel
theorem dX4_keep_87 : decode cX4_keep 87 = .ok (.aload_n 2, 1) := by decide +kernel
theorem dX4_keep_88 : decode cX4_keep 88 = .ok (.getfield 40, 3) := by decide +kernel
theorem dX4_keep_91 : decode cX4_keep 91 = .ok (.iastore, 1) := by decide +kernel
theorem dX4_keep_92 : decode cX4_keep 92 = .ok (.aload_n 0, 1) := by decide +kernel
theorem dX4_keep_93 : decode cX4_keep 93 = .ok (.getfield 11, 3) := by decide +kernel
theorem dX4_keep_96 : decode cX4_keep 96 = .ok (.iload_n 3, 1) := by decide +kernel
theorem dX4_keep_97 : decode cX4_keep 97 = .ok (.iconst 4, 1) := by decide +kernel
theorem dX4_keep_98 : decode cX4_keep 98 = .ok (.iadd, 1) := by decide +kernel
theorem dX4_keep_99 : decode cX4_keep 99 = .ok (.aload_n 2, 1) := by decide +kernel
theorem dX4_keep_100 : decode cX4_keep 100 = .ok (.getfield 43, 3) := by decide +kernel
theorem dX4_keep_103 : decode cX4_keep 103 = .ok (.iastore, 1) := by decide +kernel
theorem dX4_keep_104 : decode cX4_keep 104 = .ok (.aload_n 2, 1) := by decide +kernel
theorem dX4_keep_105 : decode cX4_keep 105 = .ok (.getfield 46, 3) := by decide +kernel
theorem dX4_keep_108 : decode cX4_keep 108 = .ok (.iconst 0, 1) := by decide +kernel
theorem dX4_keep_109 : decode cX4_keep 109 = .ok (.aload_n 0, 1) := by decide +kernel
theorem dX4_keep_110 : decode cX4_keep 110 = .ok (.getfield 11, 3) := by decide +kernel
theorem dX4_keep_113 : decode cX4_keep 113 = .ok (.iload_n 3, 1) := by decide +kernel
theorem dX4_keep_114 : decode cX4_keep 114 = .ok (.iconst 5, 1) := by decide +kernel
theorem dX4_keep_115 : decode cX4_keep 115 = .ok (.iadd, 1) := by decide +kernel
theorem dX4_keep_116 : decode cX4_keep 116 = .ok (.bipush 10, 2) := by decide +kernel
theorem dX4_keep_118 : decode cX4_keep 118 = .ok (.invokestatic 22, 3) := by decide +kernel
theorem dX4_keep_121 : decode cX4_keep 121 = .ok (.aload_n 2, 1) := by decide +kernel
theorem dX4_keep_122 : decode cX4_keep 122 = .ok (.getfield 49, 3) := by decide +kernel
theorem dX4_keep_125 : decode cX4_keep 125 = .ok (.iconst 0, 1) := by decide +kernel
theorem dX4_keep_126 : decode cX4_keep 126 = .ok (.aload_n 0, 1) := by decide +kernel
theorem dX4_keep_127 : decode cX4_keep 127 = .ok (.getfield 11, 3) := by decide +kernel
theorem dX4_keep_130 : decode cX4_keep 130 = .ok (.iload_n 3, 1) := by decide +kernel
theorem dX4_keep_131 : decode cX4_keep 131 = .ok (.iconst 5, 1) := by decide +kernel
theorem dX4_keep_132 : decode cX4_keep 132 = .ok (.iadd, 1) := by decide +kernel
theorem dX4_keep_133 : decode cX4_keep 133 = .ok (.bipush 10, 2) := by decide +kernel
theorem dX4_keep_135 : decode cX4_keep 135 = .ok (.iadd, 1) := by decide +kernel
theorem dX4_keep_136 : decode cX4_keep 136 = .ok (.bipush 10, 2) := by decide +kernel
theorem dX4_keep_138 : decode cX4_keep 138 = .ok (.invokestatic 22, 3) := by decide +kernel
theorem dX4_keep_141 : decode cX4_keep 141 = .ok (.aload_n 2, 1) := by decide +kernel
theorem dX4_keep_142 : decode cX4_keep 142 = .ok (.getfield 52, 3) := by decide +kernel
theorem dX4_keep_145 : decode cX4_keep 145 = .ok (.iconst 0, 1) := by decide +kernel
theorem dX4_keep_146 : decode cX4_keep 146 = .ok (.aload_n 0, 1) := by decide +kernel
theorem dX4_keep_147 : decode cX4_keep 147 = .ok (.getfield 11, 3) := by decide +kernel
theorem dX4_keep_150 : decode cX4_keep 150 = .ok (.iload_n 3, 1) := by decide +kernel
theorem dX4_keep_151 : decode cX4_keep 151 = .ok (.iconst 5, 1) := by decide +kernel
theorem dX4_keep_152 : decode cX4_keep 152 = .ok (.iadd, 1) := by decide +kernel
theorem dX4_keep_153 : decode cX4_keep 153 = .ok (.bipush 20, 2) := by decide +kernel
theorem dX4_keep_155 : decode cX4_keep 155 = .ok (.iadd, 1) := by decide +kernel
theorem dX4_keep_156 : decode cX4_keep 156 = .ok (.bipush 10, 2) := by decide +kernel
theorem dX4_keep_158 : decode cX4_keep 158 = .ok (.invokestatic 22, 3) := by decide +kernel
theorem dX4_keep_161 : decode cX4_keep 161 = .ok (.return_, 1) := by decide +kernel
def B_X4_keep_28 (Q : st_S → Prop)   (l1 : Int) (σ : st_S) : Prop := wp_X4_placeOf (gI σ 39 0) σ (fun r42 s43 => ∀ x45 : Int, x45 = wr (gI s43 39 0 + 1) → ∀ s46 : st_S, s46 = sI s43 39 0 x45 → ix r42 560 ∧ ∀ s48 : st_S, s48 = sI s46 40 (Int.toNat r42) l1 → ix (wr (r42 + 1)) 560 ∧ ∀ s51 : st_S, s51 = sI s48 40 (Int.toNat (wr (r42 + 1))) (gI s48 33 0) → ix (wr (r42 + 2)) 560 ∧ ∀ s54 : st_S, s54 = sI s51 40 (Int.toNat (wr (r42 + 2))) (gI s51 25 12) → ix (wr (r42 + 3)) 560 ∧ ∀ s57 : st_S, s57 = sI s54 40 (Int.toNat (wr (r42 + 3))) (gI s54 25 13) → ix (wr (r42 + 4)) 560 ∧ ∀ s60 : st_S, s60 = sI s57 40 (Int.toNat (wr (r42 + 4))) (gI s57 25 14) → cpOk 0 (wr (r42 + 5)) 10 10 560 ∧ ∀ s61 : st_S, s61 = sC s60 28 0 40 (wr (r42 + 5)) 10 → cpOk 0 (wr ((r42 + 5) + 10)) 10 10 560 ∧ ∀ s63 : st_S, s63 = sC s61 29 0 40 (wr ((r42 + 5) + 10)) 10 → cpOk 0 (wr ((r42 + 5) + 20)) 10 10 560 ∧ ∀ s65 : st_S, s65 = sC s63 30 0 40 (wr ((r42 + 5) + 20)) 10 → Q s65)
def wp_X4_keep (a1 : Int) (σ : st_S) (Q : st_S → Prop) : Prop := (gI σ 39 0 < 16 → B_X4_keep_28 Q a1 σ) ∧ (¬ gI σ 39 0 < 16 → ∀ s69 : st_S, s69 = sI σ 39 1 (o_rem (gI σ 39 1 + 1) 16) → ∀ s70 : st_S, s70 = sI s69 39 0 15 → B_X4_keep_28 Q a1 s70)
set_option maxRecDepth 20000 in
theorem jb_X4_keep_28 {X : jj_X} {E : ev_E} {n0 hN : Nat} (hc : Cx X E cX4_keep 4 n0 hN RX4) (hm : eM E = 1) (hr : (xT X).sig.returnType = none) (hh : 3 ≤ hN) {Q : st_S → Prop} {l1 : Int} (cl1 : wr l1 = l1) {σ : st_S} (h : B_X4_keep_28 Q l1 σ) : J X E 4 n0 0 0 (MQ (xB X) (qV E (n0 + 0) Q) (xA X) (xS X) 0 0 (eF E)) σ 28 [(0, vR E 39), (1, vI l1), (2, vR E 25)] [] := by
  have hh1 : 1 ≤ hN := by omega
  replace h : wp_X4_placeOf (gI σ 39 0) σ (fun r42 s43 => ∀ x45 : Int, x45 = wr (gI s43 39 0 + 1) → ∀ s46 : st_S, s46 = sI s43 39 0 x45 → ix r42 560 ∧ ∀ s48 : st_S, s48 = sI s46 40 (Int.toNat r42) l1 → ix (wr (r42 + 1)) 560 ∧ ∀ s51 : st_S, s51 = sI s48 40 (Int.toNat (wr (r42 + 1))) (gI s48 33 0) → ix (wr (r42 + 2)) 560 ∧ ∀ s54 : st_S, s54 = sI s51 40 (Int.toNat (wr (r42 + 2))) (gI s51 25 12) → ix (wr (r42 + 3)) 560 ∧ ∀ s57 : st_S, s57 = sI s54 40 (Int.toNat (wr (r42 + 3))) (gI s54 25 13) → ix (wr (r42 + 4)) 560 ∧ ∀ s60 : st_S, s60 = sI s57 40 (Int.toNat (wr (r42 + 4))) (gI s57 25 14) → cpOk 0 (wr (r42 + 5)) 10 10 560 ∧ ∀ s61 : st_S, s61 = sC s60 28 0 40 (wr (r42 + 5)) 10 → cpOk 0 (wr ((r42 + 5) + 10)) 10 10 560 ∧ ∀ s63 : st_S, s63 = sC s61 29 0 40 (wr ((r42 + 5) + 10)) 10 → cpOk 0 (wr ((r42 + 5) + 20)) 10 10 560 ∧ ∀ s65 : st_S, s65 = sC s63 30 0 40 (wr ((r42 + 5) + 20)) 10 → Q s65) := h
  refine j_aload_nR hc 0 dX4_keep_28 rfl rfl ?_
  refine j_aload_nR hc 0 dX4_keep_29 rfl rfl ?_
  refine j_getI hc fl_RX4_15 (Or.inl rfl) (fun hv => Or.inl (sv_k hv hm rfl)) dX4_keep_30 (fun cn41 => ?_)
  refine j_vI hc (k := 4) (by decide) (fun hv => Or.inl (sv_k hv hm rfl)) ml_RX4_28 mv_X4_placeOf (As := [vI (gI σ 39 0)]) (c_X4_placeOf (cx_E hc) hm cn41 h) rfl (by omega) (by decide) ⟨Nat.zero_le _, Nat.zero_le _⟩ (Nat.le_of_ble_eq_true rfl) rfl dX4_keep_33 (fun r42 s43 cr42 h => ?_)
  refine j_istore_n (lv' := [(3, vI r42), (0, vR E 39), (1, vI l1), (2, vR E 25)]) hc dX4_keep_36 rfl (by decide) rfl ?_
  refine j_aload_nR hc 1 dX4_keep_37 rfl rfl ?_
  refine j_dup hc dX4_keep_38 rfl ?_
  refine j_getI hc fl_RX4_15 (Or.inl rfl) (fun hv => Or.inl (sv_k hv hm rfl)) dX4_keep_39 (fun cn44 => ?_)
  refine j_iconst hc dX4_keep_42 ?_
  refine j_iadd hc dX4_keep_43 ?_
  refine j_w (fun x45 ex45 cx45 => ?_)
  replace h := h x45 ex45
  refine j_putI hc fl_RX4_15 rfl rfl (fun hv => Or.inl (sv_k hv hm rfl)) cx45 dX4_keep_44 (fun s46 es46 => ?_)
  replace h := h s46 es46
  refine j_aload_nR hc 1 dX4_keep_47 rfl rfl ?_
  refine j_getR (c' := 40) hc fl_RX4_11 rfl rfl (fun hv => (sv_k hv hm rfl)) dX4_keep_48 ?_
  refine j_iload_n hc 0 dX4_keep_51 rfl rfl ?_
  refine j_iload_n hc 2 dX4_keep_52 rfl rfl ?_
  obtain ⟨b47, h⟩ := h
  refine j_iast (jn := (Int.toNat r42)) hc (fun hv => sv_kl hv hm rfl) cr42 b47 rfl cl1 dX4_keep_53 (fun s48 es48 => ?_)
  replace h := h s48 es48
  refine j_aload_nR hc 1 dX4_keep_54 rfl rfl ?_
  refine j_getR (c' := 40) hc fl_RX4_11 rfl rfl (fun hv => (sv_k hv hm rfl)) dX4_keep_55 ?_
  refine j_iload_n hc 0 dX4_keep_58 rfl rfl ?_
  refine j_iconst hc dX4_keep_59 ?_
  refine j_iadd hc dX4_keep_60 ?_
  refine j_aload_nR hc 3 dX4_keep_61 rfl rfl ?_
  refine j_getR (c' := 33) hc fl_RX4_32 rfl rfl (fun hv => (sv_k hv hm rfl)) dX4_keep_62 ?_
  refine j_iconst hc dX4_keep_65 ?_
  refine j_iald (jn := 0) hc (fun hv => sv_kl hv hm rfl) (wlit 0 (by decide)) ⟨by decide, by decide⟩ rfl dX4_keep_66 (fun cn49 => ?_)
  obtain ⟨b50, h⟩ := h
  refine j_iast (jn := (Int.toNat (wr (r42 + 1)))) hc (fun hv => sv_kl hv hm rfl) rfl b50 rfl cn49 dX4_keep_67 (fun s51 es51 => ?_)
  replace h := h s51 es51
  refine j_aload_nR hc 1 dX4_keep_68 rfl rfl ?_
  refine j_getR (c' := 40) hc fl_RX4_11 rfl rfl (fun hv => (sv_k hv hm rfl)) dX4_keep_69 ?_
  refine j_iload_n hc 0 dX4_keep_72 rfl rfl ?_
  refine j_iconst hc dX4_keep_73 ?_
  refine j_iadd hc dX4_keep_74 ?_
  refine j_aload_nR hc 3 dX4_keep_75 rfl rfl ?_
  refine j_getI hc fl_RX4_37 (Or.inl rfl) (fun hv => Or.inl (sv_k hv hm rfl)) dX4_keep_76 (fun cn52 => ?_)
  obtain ⟨b53, h⟩ := h
  refine j_iast (jn := (Int.toNat (wr (r42 + 2)))) hc (fun hv => sv_kl hv hm rfl) rfl b53 rfl cn52 dX4_keep_79 (fun s54 es54 => ?_)
  replace h := h s54 es54
  refine j_aload_nR hc 1 dX4_keep_80 rfl rfl ?_
  refine j_getR (c' := 40) hc fl_RX4_11 rfl rfl (fun hv => (sv_k hv hm rfl)) dX4_keep_81 ?_
  refine j_iload_n hc 0 dX4_keep_84 rfl rfl ?_
  refine j_iconst hc dX4_keep_85 ?_
  refine j_iadd hc dX4_keep_86 ?_
  refine j_aload_nR hc 3 dX4_keep_87 rfl rfl ?_
  refine j_getI hc fl_RX4_40 (Or.inl rfl) (fun hv => Or.inl (sv_k hv hm rfl)) dX4_keep_88 (fun cn55 => ?_)
  obtain ⟨b56, h⟩ := h
  refine j_iast (jn := (Int.toNat (wr (r42 + 3)))) hc (fun hv => sv_kl hv hm rfl) rfl b56 rfl cn55 dX4_keep_91 (fun s57 es57 => ?_)
  replace h := h s57 es57
  refine j_aload_nR hc 1 dX4_keep_92 rfl rfl ?_
  refine j_getR (c' := 40) hc fl_RX4_11 rfl rfl (fun hv => (sv_k hv hm rfl)) dX4_keep_93 ?_
  refine j_iload_n hc 0 dX4_keep_96 rfl rfl ?_
  refine j_iconst hc dX4_keep_97 ?_
  refine j_iadd hc dX4_keep_98 ?_
  refine j_aload_nR hc 3 dX4_keep_99 rfl rfl ?_
  refine j_getI hc fl_RX4_43 (Or.inl rfl) (fun hv => Or.inl (sv_k hv hm rfl)) dX4_keep_100 (fun cn58 => ?_)
  obtain ⟨b59, h⟩ := h
  refine j_iast (jn := (Int.toNat (wr (r42 + 4)))) hc (fun hv => sv_kl hv hm rfl) rfl b59 rfl cn58 dX4_keep_103 (fun s60 es60 => ?_)
  replace h := h s60 es60
  refine j_aload_nR hc 3 dX4_keep_104 rfl rfl ?_
  refine j_getR (c' := 28) hc fl_RX4_46 rfl rfl (fun hv => (sv_k hv hm rfl)) dX4_keep_105 ?_
  refine j_iconst hc dX4_keep_108 ?_
  refine j_aload_nR hc 1 dX4_keep_109 rfl rfl ?_
  refine j_getR (c' := 40) hc fl_RX4_11 rfl rfl (fun hv => (sv_k hv hm rfl)) dX4_keep_110 ?_
  refine j_iload_n hc 0 dX4_keep_113 rfl rfl ?_
  refine j_iconst hc dX4_keep_114 ?_
  refine j_iadd hc dX4_keep_115 ?_
  refine j_bipush hc dX4_keep_116 (by decide) ?_
  obtain ⟨b62, h⟩ := h
  refine j_copy hc mc_RX4_22 hh1 (fun hv => sv_kl hv hm rfl) (fun hv => sv_kl hv hm rfl) (wlit 0 (by decide)) rfl (wlit 10 (by decide)) b62 (Nat.le_of_ble_eq_true rfl) dX4_keep_118 (fun s61 es61 => ?_)
  replace h := h s61 es61
  refine j_aload_nR hc 3 dX4_keep_121 rfl rfl ?_
  refine j_getR (c' := 29) hc fl_RX4_49 rfl rfl (fun hv => (sv_k hv hm rfl)) dX4_keep_122 ?_
  refine j_iconst hc dX4_keep_125 ?_
  refine j_aload_nR hc 1 dX4_keep_126 rfl rfl ?_
  refine j_getR (c' := 40) hc fl_RX4_11 rfl rfl (fun hv => (sv_k hv hm rfl)) dX4_keep_127 ?_
  refine j_iload_n hc 0 dX4_keep_130 rfl rfl ?_
  refine j_iconst hc dX4_keep_131 ?_
  refine j_iadd hc dX4_keep_132 ?_
  refine j_bipush hc dX4_keep_133 (by decide) ?_
  refine j_iadd hc dX4_keep_135 ?_
  refine j_bipush hc dX4_keep_136 (by decide) ?_
  obtain ⟨b64, h⟩ := h
  refine j_copy hc mc_RX4_22 hh1 (fun hv => sv_kl hv hm rfl) (fun hv => sv_kl hv hm rfl) (wlit 0 (by decide)) rfl (wlit 10 (by decide)) b64 (Nat.le_of_ble_eq_true rfl) dX4_keep_138 (fun s63 es63 => ?_)
  replace h := h s63 es63
  refine j_aload_nR hc 3 dX4_keep_141 rfl rfl ?_
  refine j_getR (c' := 30) hc fl_RX4_52 rfl rfl (fun hv => (sv_k hv hm rfl)) dX4_keep_142 ?_
  refine j_iconst hc dX4_keep_145 ?_
  refine j_aload_nR hc 1 dX4_keep_146 rfl rfl ?_
  refine j_getR (c' := 40) hc fl_RX4_11 rfl rfl (fun hv => (sv_k hv hm rfl)) dX4_keep_147 ?_
  refine j_iload_n hc 0 dX4_keep_150 rfl rfl ?_
  refine j_iconst hc dX4_keep_151 ?_
  refine j_iadd hc dX4_keep_152 ?_
  refine j_bipush hc dX4_keep_153 (by decide) ?_
  refine j_iadd hc dX4_keep_155 ?_
  refine j_bipush hc dX4_keep_156 (by decide) ?_
  obtain ⟨b66, h⟩ := h
  refine j_copy hc mc_RX4_22 hh1 (fun hv => sv_kl hv hm rfl) (fun hv => sv_kl hv hm rfl) (wlit 0 (by decide)) rfl (wlit 10 (by decide)) b66 (Nat.le_of_ble_eq_true rfl) dX4_keep_158 (fun s65 es65 => ?_)
  replace h := h s65 es65
  exact j_vret hc hr h dX4_keep_161
set_option maxRecDepth 20000 in
theorem c_X4_keep {l : Launch} {E : ev_E} (hE : Eok E) (hm : eM E = 1) {a1 : Int} (ca1 : wr a1 = a1) {σ : st_S} {Q : st_S → Prop} (h : wp_X4_keep a1 σ Q) : cM l yX4_keep cX4_keep 4 none E 3 0 0 [vR E 39, vI a1, vR E 25] σ (qV E (gN σ + 0) Q) := by
  refine cM_of (lv := [(0, vR E 39), (1, vI a1), (2, vR E 25)]) (by decide) hE (Nat.le_of_ble_eq_true rfl) (rfl) ?_
  intro X hX hc _ _ hr _ _
  subst hX
  have hh : 3 ≤ 3 := Nat.le_refl _
  have hh1 : 1 ≤ 3 := by omega
  replace h : (gI σ 39 0 < 16 → B_X4_keep_28 Q a1 σ) ∧ (¬ gI σ 39 0 < 16 → ∀ s69 : st_S, s69 = sI σ 39 1 (o_rem (gI σ 39 1 + 1) 16) → ∀ s70 : st_S, s70 = sI s69 39 0 15 → B_X4_keep_28 Q a1 s70) := h
  refine j_aload_nR hc 0 dX4_keep_0 rfl rfl ?_
  refine j_getI hc fl_RX4_15 (Or.inl rfl) (fun hv => Or.inl (sv_k hv hm rfl)) dX4_keep_1 (fun cn67 => ?_)
  refine j_bipush hc dX4_keep_4 (by decide) ?_
  refine j_ic_lt hc cn67 (wlit 16 (by decide)) (tgt := 28) dX4_keep_6 (by decide) (fun q71 => ?_) (fun q71 => ?_)
  · replace h := h.1 q71
    refine j_sub (lv' := [(0, vR E 39), (1, vI a1), (2, vR E 25)]) [0, 1, 2] rfl ?_
    exact jb_X4_keep_28 hc hm hr hh ca1 h
  · replace h := h.2 q71
    refine j_aload_nR hc 0 dX4_keep_9 rfl rfl ?_
    refine j_aload_nR hc 0 dX4_keep_10 rfl rfl ?_
    refine j_getI hc fl_RX4_19 (Or.inl rfl) (fun hv => Or.inl (sv_k hv hm rfl)) dX4_keep_11 (fun cn68 => ?_)
    refine j_iconst hc dX4_keep_14 ?_
    refine j_iadd hc dX4_keep_15 ?_
    refine j_bipush hc dX4_keep_16 (by decide) ?_
    refine j_irem hc dX4_keep_18 (by decide) ?_
    refine j_putI hc fl_RX4_19 rfl rfl (fun hv => Or.inl (sv_k hv hm rfl)) (cn_rem _ _) dX4_keep_19 (fun s69 es69 => ?_)
    replace h := h s69 es69
    refine j_aload_nR hc 0 dX4_keep_22 rfl rfl ?_
    refine j_bipush hc dX4_keep_23 (by decide) ?_
    refine j_putI hc fl_RX4_15 rfl rfl (fun hv => Or.inl (sv_k hv hm rfl)) (wlit 15 (by decide)) dX4_keep_25 (fun s70 es70 => ?_)
    replace h := h s70 es70
    refine j_sub (lv' := [(0, vR E 39), (1, vI a1), (2, vR E 25)]) [0, 1, 2] rfl ?_
    exact jb_X4_keep_28 hc hm hr hh ca1 h
-- LitStrangers$Judge.lodges(I)I
theorem dX3_lodges_0 : decode cX3_lodges 0 = .ok (.aload_n 0, 1) := by decide +kernel
theorem dX3_lodges_1 : decode cX3_lodges 1 = .ok (.iload_n 1, 1) := by decide +kernel
theorem dX3_lodges_2 : decode cX3_lodges 2 = .ok (.invokevirtual 22, 3) := by decide +kernel
theorem dX3_lodges_5 : decode cX3_lodges 5 = .ok (.aload_n 0, 1) := by decide +kernel
theorem dX3_lodges_6 : decode cX3_lodges 6 = .ok (.iconst 2, 1) := by decide +kernel
theorem dX3_lodges_7 : decode cX3_lodges 7 = .ok (.iconst 1, 1) := by decide +kernel
theorem dX3_lodges_8 : decode cX3_lodges 8 = .ok (.bipush 99, 2) := by decide +kernel
theorem dX3_lodges_10 : decode cX3_lodges 10 = .ok (.invokevirtual 32, 3) := by decide +kernel
theorem dX3_lodges_13 : decode cX3_lodges 13 = .ok (.ireturn, 1) := by decide +kernel
def wp_X3_lodges (a1 : Int) (σ : st_S) (Q : Int → st_S → Prop) : Prop := wp_X3_setNow a1 σ (fun s6 => wp_X3_tells 2 1 99 s6 (fun r7 s8 => Q r7 s8))
set_option maxRecDepth 20000 in
theorem c_X3_lodges {l : Launch} {E : ev_E} (hE : Eok E) (hm : eM E = 1) {a1 : Int} (ca1 : wr a1 = a1) {σ : st_S} {Q : Int → st_S → Prop} (h : wp_X3_lodges a1 σ Q) : cM l yX3_lodges cX3_lodges 2 (some .int) E 4 0 0 [vR E 35, vI a1] σ (qI E (gN σ + 0) Q) := by
  refine cM_of (lv := [(0, vR E 35), (1, vI a1)]) (by decide) hE (Nat.le_of_ble_eq_true rfl) (rfl) ?_
  intro X hX hc _ _ hr _ _
  subst hX
  have hh : 4 ≤ 4 := Nat.le_refl _
  have hh1 : 1 ≤ 4 := by omega
  replace h : wp_X3_setNow a1 σ (fun s6 => wp_X3_tells 2 1 99 s6 (fun r7 s8 => Q r7 s8)) := h
  refine j_aload_nR hc 0 dX3_lodges_0 rfl rfl ?_
  refine j_iload_n hc 1 dX3_lodges_1 rfl rfl ?_
  refine j_vV hc (k := 3) (by decide) (fun hv => Or.inl (sv_k hv hm rfl)) ml_RX3_22 mv_X3_setNow (As := [vI a1]) (c_X3_setNow (cx_E hc) hm ca1 h) rfl (by omega) (by decide) ⟨Nat.zero_le _, Nat.zero_le _⟩ (Nat.le_of_ble_eq_true rfl) rfl dX3_lodges_2 (fun s6 h => ?_)
  refine j_aload_nR hc 0 dX3_lodges_5 rfl rfl ?_
  refine j_iconst hc dX3_lodges_6 ?_
  refine j_iconst hc dX3_lodges_7 ?_
  refine j_bipush hc dX3_lodges_8 (by decide) ?_
  refine j_vI hc (k := 3) (by decide) (fun hv => Or.inl (sv_k hv hm rfl)) ml_RX3_32 mv_X3_tells (As := [vI 2, vI 1, vI 99]) (c_X3_tells (cx_E hc) hm (wlit 2 (by decide)) (wlit 1 (by decide)) (wlit 99 (by decide)) h) rfl (by omega) (by decide) ⟨Nat.zero_le _, Nat.zero_le _⟩ (Nat.le_of_ble_eq_true rfl) rfl dX3_lodges_10 (fun r7 s8 cr7 h => ?_)
  exact j_iret hc hr cr7 h dX3_lodges_13
-- LitStrangers$Judge.spoils(II)I
theorem dX3_spoils_0 : decode cX3_spoils 0 = .ok (.aload_n 0, 1) := by decide +kernel
theorem dX3_spoils_1 : decode cX3_spoils 1 = .ok (.iload_n 1, 1) := by decide +kernel
theorem dX3_spoils_2 : decode cX3_spoils 2 = .ok (.iconst (-1), 1) := by decide +kernel
theorem dX3_spoils_3 : decode cX3_spoils 3 = .ok (.iconst (-1), 1) := by decide +kernel
theorem dX3_spoils_4 : decode cX3_spoils 4 = .ok (.iconst (-1), 1) := by decide +kernel
theorem dX3_spoils_5 : decode cX3_spoils 5 = .ok (.invokevirtual 36, 3) := by decide +kernel
theorem dX3_spoils_8 : decode cX3_spoils 8 = .ok (.aload_n 0, 1) := by decide +kernel
theorem dX3_spoils_9 : decode cX3_spoils 9 = .ok (.getfield 12, 3) := by decide +kernel
theorem dX3_spoils_12 : decode cX3_spoils 12 = .ok (.getfield 40, 3) := by decide +kernel
theorem dX3_spoils_15 : decode cX3_spoils 15 = .ok (.iconst 4, 1) := by decide +kernel
theorem dX3_spoils_16 : decode cX3_spoils 16 = .ok (.iload_n 2, 1) := by decide +kernel
theorem dX3_spoils_17 : decode cX3_spoils 17 = .ok (.iastore, 1) := by decide +kernel
theorem dX3_spoils_18 : decode cX3_spoils 18 = .ok (.aload_n 0, 1) := by decide +kernel
theorem dX3_spoils_19 : decode cX3_spoils 19 = .ok (.getfield 12, 3) := by decide +kernel
theorem dX3_spoils_22 : decode cX3_spoils 22 = .ok (.getfield 40, 3) := by decide +kernel
theorem dX3_spoils_25 : decode cX3_spoils 25 = .ok (.iconst 5, 1) := by decide +kernel
theorem dX3_spoils_26 : decode cX3_spoils 26 = .ok (.aload_n 0, 1) := by decide +kernel
theorem dX3_spoils_27 : decode cX3_spoils 27 = .ok (.getfield 18, 3) := by decide +kernel
theorem dX3_spoils_30 : decode cX3_spoils 30 = .ok (.getfield 43, 3) := by decide +kernel
theorem dX3_spoils_33 : decode cX3_spoils 33 = .ok (.iload_n 2, 1) := by decide +kernel
theorem dX3_spoils_34 : decode cX3_spoils 34 = .ok (.iaload, 1) := by decide +kernel
theorem dX3_spoils_35 : decode cX3_spoils 35 = .ok (.iastore, 1) := by decide +kernel
theorem dX3_spoils_36 : decode cX3_spoils 36 = .ok (.aload_n 0, 1) := by decide +kernel
theorem dX3_spoils_37 : decode cX3_spoils 37 = .ok (.getfield 12, 3) := by decide +kernel
theorem dX3_spoils_40 : decode cX3_spoils 40 = .ok (.getfield 40, 3) := by decide +kernel
theorem dX3_spoils_43 : decode cX3_spoils 43 = .ok (.bipush 6, 2) := by decide +kernel
theorem dX3_spoils_45 : decode cX3_spoils 45 = .ok (.aload_n 0, 1) := by decide +kernel
theorem dX3_spoils_46 : decode cX3_spoils 46 = .ok (.getfield 18, 3) := by decide +kernel
theorem dX3_spoils_49 : decode cX3_spoils 49 = .ok (.getfield 26, 3) := by decide +kernel
theorem dX3_spoils_52 : decode cX3_spoils 52 = .ok (.iload_n 2, 1) := by decide +kernel
theorem dX3_spoils_53 : decode cX3_spoils 53 = .ok (.iaload, 1) := by decide +kernel
theorem dX3_spoils_54 : decode cX3_spoils 54 = .ok (.iastore, 1) := by decide +kernel
theorem dX3_spoils_55 : decode cX3_spoils 55 = .ok (.aload_n 0, 1) := by decide +kernel
theorem dX3_spoils_56 : decode cX3_spoils 56 = .ok (.iconst 3, 1) := by decide +kernel
theorem dX3_spoils_57 : decode cX3_spoils 57 = .ok (.iconst 1, 1) := by decide +kernel
theorem dX3_spoils_58 : decode cX3_spoils 58 = .ok (.iconst 2, 1) := by decide +kernel
theorem dX3_spoils_59 : decode cX3_spoils 59 = .ok (.invokevirtual 32, 3) := by decide +kernel
theorem dX3_spoils_62 : decode cX3_spoils 62 = .ok (.ireturn, 1) := by decide +kernel
def wp_X3_spoils (a1 : Int) (a2 : Int) (σ : st_S) (Q : Int → st_S → Prop) : Prop := wp_X3_setPerson a1 (-1) (-1) (-1) σ (fun s19 => ∀ s20 : st_S, s20 = sI s19 37 4 a2 → ix a2 10 ∧ ∀ s23 : st_S, s23 = sI s20 37 5 (gI s20 27 (Int.toNat a2)) → ix a2 10 ∧ ∀ s26 : st_S, s26 = sI s23 37 6 (gI s23 26 (Int.toNat a2)) → wp_X3_tells 3 1 2 s26 (fun r27 s28 => Q r27 s28))
set_option maxRecDepth 20000 in
theorem c_X3_spoils {l : Launch} {E : ev_E} (hE : Eok E) (hm : eM E = 1) {a1 : Int} {a2 : Int} (ca1 : wr a1 = a1) (ca2 : wr a2 = a2) {σ : st_S} {Q : Int → st_S → Prop} (h : wp_X3_spoils a1 a2 σ Q) : cM l yX3_spoils cX3_spoils 3 (some .int) E 4 0 0 [vR E 35, vI a1, vI a2] σ (qI E (gN σ + 0) Q) := by
  refine cM_of (lv := [(0, vR E 35), (1, vI a1), (2, vI a2)]) (by decide) hE (Nat.le_of_ble_eq_true rfl) (rfl) ?_
  intro X hX hc _ _ hr _ _
  subst hX
  have hh : 4 ≤ 4 := Nat.le_refl _
  have hh1 : 1 ≤ 4 := by omega
  replace h : wp_X3_setPerson a1 (-1) (-1) (-1) σ (fun s19 => ∀ s20 : st_S, s20 = sI s19 37 4 a2 → ix a2 10 ∧ ∀ s23 : st_S, s23 = sI s20 37 5 (gI s20 27 (Int.toNat a2)) → ix a2 10 ∧ ∀ s26 : st_S, s26 = sI s23 37 6 (gI s23 26 (Int.toNat a2)) → wp_X3_tells 3 1 2 s26 (fun r27 s28 => Q r27 s28)) := h
  refine j_aload_nR hc 0 dX3_spoils_0 rfl rfl ?_
  refine j_iload_n hc 1 dX3_spoils_1 rfl rfl ?_
  refine j_iconst hc dX3_spoils_2 ?_
  refine j_iconst hc dX3_spoils_3 ?_
  refine j_iconst hc dX3_spoils_4 ?_
  refine j_vV hc (k := 3) (by decide) (fun hv => Or.inl (sv_k hv hm rfl)) ml_RX3_36 mv_X3_setPerson (As := [vI a1, vI (-1), vI (-1), vI (-1)]) (c_X3_setPerson (cx_E hc) hm ca1 (wlit (-1) (by decide)) (wlit (-1) (by decide)) (wlit (-1) (by decide)) h) rfl (by omega) (by decide) ⟨Nat.zero_le _, Nat.zero_le _⟩ (Nat.le_of_ble_eq_true rfl) rfl dX3_spoils_5 (fun s19 h => ?_)
  refine j_aload_nR hc 0 dX3_spoils_8 rfl rfl ?_
  refine j_getR (c' := 36) hc fl_RX3_12 rfl rfl (fun hv => (sv_k hv hm rfl)) dX3_spoils_9 ?_
  refine j_getR (c' := 37) hc fl_RX3_40 rfl rfl (fun hv => (sv_k hv hm rfl)) dX3_spoils_12 ?_
  refine j_iconst hc dX3_spoils_15 ?_
  refine j_iload_n hc 2 dX3_spoils_16 rfl rfl ?_
  refine j_iast (jn := 4) hc (fun hv => sv_kl hv hm rfl) (wlit 4 (by decide)) ⟨by decide, by decide⟩ rfl ca2 dX3_spoils_17 (fun s20 es20 => ?_)
  replace h := h s20 es20
  refine j_aload_nR hc 0 dX3_spoils_18 rfl rfl ?_
  refine j_getR (c' := 36) hc fl_RX3_12 rfl rfl (fun hv => (sv_k hv hm rfl)) dX3_spoils_19 ?_
  refine j_getR (c' := 37) hc fl_RX3_40 rfl rfl (fun hv => (sv_k hv hm rfl)) dX3_spoils_22 ?_
  refine j_iconst hc dX3_spoils_25 ?_
  refine j_aload_nR hc 0 dX3_spoils_26 rfl rfl ?_
  refine j_getR (c' := 25) hc fl_RX3_18 rfl rfl (fun hv => (sv_k hv hm rfl)) dX3_spoils_27 ?_
  refine j_getR (c' := 27) hc fl_RX3_43 rfl rfl (fun hv => (sv_k hv hm rfl)) dX3_spoils_30 ?_
  refine j_iload_n hc 2 dX3_spoils_33 rfl rfl ?_
  obtain ⟨b21, h⟩ := h
  refine j_iald (jn := (Int.toNat a2)) hc (fun hv => sv_kl hv hm rfl) ca2 b21 rfl dX3_spoils_34 (fun cn22 => ?_)
  refine j_iast (jn := 5) hc (fun hv => sv_kl hv hm rfl) (wlit 5 (by decide)) ⟨by decide, by decide⟩ rfl cn22 dX3_spoils_35 (fun s23 es23 => ?_)
  replace h := h s23 es23
  refine j_aload_nR hc 0 dX3_spoils_36 rfl rfl ?_
  refine j_getR (c' := 36) hc fl_RX3_12 rfl rfl (fun hv => (sv_k hv hm rfl)) dX3_spoils_37 ?_
  refine j_getR (c' := 37) hc fl_RX3_40 rfl rfl (fun hv => (sv_k hv hm rfl)) dX3_spoils_40 ?_
  refine j_bipush hc dX3_spoils_43 (by decide) ?_
  refine j_aload_nR hc 0 dX3_spoils_45 rfl rfl ?_
  refine j_getR (c' := 25) hc fl_RX3_18 rfl rfl (fun hv => (sv_k hv hm rfl)) dX3_spoils_46 ?_
  refine j_getR (c' := 26) hc fl_RX3_26 rfl rfl (fun hv => (sv_k hv hm rfl)) dX3_spoils_49 ?_
  refine j_iload_n hc 2 dX3_spoils_52 rfl rfl ?_
  obtain ⟨b24, h⟩ := h
  refine j_iald (jn := (Int.toNat a2)) hc (fun hv => sv_kl hv hm rfl) ca2 b24 rfl dX3_spoils_53 (fun cn25 => ?_)
  refine j_iast (jn := 6) hc (fun hv => sv_kl hv hm rfl) (wlit 6 (by decide)) ⟨by decide, by decide⟩ rfl cn25 dX3_spoils_54 (fun s26 es26 => ?_)
  replace h := h s26 es26
  refine j_aload_nR hc 0 dX3_spoils_55 rfl rfl ?_
  refine j_iconst hc dX3_spoils_56 ?_
  refine j_iconst hc dX3_spoils_57 ?_
  refine j_iconst hc dX3_spoils_58 ?_
  refine j_vI hc (k := 3) (by decide) (fun hv => Or.inl (sv_k hv hm rfl)) ml_RX3_32 mv_X3_tells (As := [vI 3, vI 1, vI 2]) (c_X3_tells (cx_E hc) hm (wlit 3 (by decide)) (wlit 1 (by decide)) (wlit 2 (by decide)) h) rfl (by omega) (by decide) ⟨Nat.zero_le _, Nat.zero_le _⟩ (Nat.le_of_ble_eq_true rfl) rfl dX3_spoils_59 (fun r27 s28 cr27 h => ?_)
  exact j_iret hc hr cr27 h dX3_spoils_62
-- LitStrangers$Judge.barsNow(I)Z
theorem dX3_barsNow_0 : decode cX3_barsNow 0 = .ok (.aload_n 0, 1) := by decide +kernel
theorem dX3_barsNow_1 : decode cX3_barsNow 1 = .ok (.iload_n 1, 1) := by decide +kernel
theorem dX3_barsNow_2 : decode cX3_barsNow 2 = .ok (.invokevirtual 22, 3) := by decide +kernel
theorem dX3_barsNow_5 : decode cX3_barsNow 5 = .ok (.aload_n 0, 1) := by decide +kernel
theorem dX3_barsNow_6 : decode cX3_barsNow 6 = .ok (.iconst 4, 1) := by decide +kernel
theorem dX3_barsNow_7 : decode cX3_barsNow 7 = .ok (.iconst 0, 1) := by decide +kernel
theorem dX3_barsNow_8 : decode cX3_barsNow 8 = .ok (.iconst 1, 1) := by decide +kernel
theorem dX3_barsNow_9 : decode cX3_barsNow 9 = .ok (.invokevirtual 32, 3) := by decide +kernel
theorem dX3_barsNow_12 : decode cX3_barsNow 12 = .ok (.iconst 1, 1) := by decide +kernel
theorem dX3_barsNow_13 : decode cX3_barsNow 13 = .ok (.if_icmp .ne 7, 3) := by decide +kernel
theorem dX3_barsNow_16 : decode cX3_barsNow 16 = .ok (.iconst 1, 1) := by decide +kernel
theorem dX3_barsNow_17 : decode cX3_barsNow 17 = .ok (.goto 4, 3) := by decide +kernel
theorem dX3_barsNow_20 : decode cX3_barsNow 20 = .ok (.iconst 0, 1) := by decide +kernel
theorem dX3_barsNow_21 : decode cX3_barsNow 21 = .ok (.ireturn, 1) := by decide +kernel
def B_X3_barsNow_21 (Q : Int → st_S → Prop)   (v0 : Int) (σ : st_S) : Prop := (v0 = 0 ∨ v0 = 1) ∧ Q v0 σ
def wp_X3_barsNow (a1 : Int) (σ : st_S) (Q : Int → st_S → Prop) : Prop := wp_X3_setNow a1 σ (fun s6 => wp_X3_tells 4 0 1 s6 (fun r7 s8 => (¬ r7 = 1 → B_X3_barsNow_21 Q 0 s8) ∧ (r7 = 1 → B_X3_barsNow_21 Q 1 s8)))
set_option maxRecDepth 20000 in
theorem jb_X3_barsNow_21 {X : jj_X} {E : ev_E} {n0 hN : Nat} (hc : Cx X E cX3_barsNow 2 n0 hN RX3) (hm : eM E = 1) (hr : (xT X).sig.returnType = (some .boolean)) (hh : 4 ≤ hN) {Q : Int → st_S → Prop} {v0 : Int} (cv0 : wr v0 = v0) {σ : st_S} (h : B_X3_barsNow_21 Q v0 σ) : J X E 2 n0 0 0 (MQ (xB X) (qI E (n0 + 0) Q) (xA X) (xS X) 0 0 (eF E)) σ 21 [] [vI v0] := by
  have hh1 : 1 ≤ hN := by omega
  replace h : (v0 = 0 ∨ v0 = 1) ∧ Q v0 σ := h
  exact j_zret hc hr (nar_bool h.1) (by rcases h.1 with e | e <;> (rw [e]; decide)) h.2 dX3_barsNow_21
set_option maxRecDepth 20000 in
theorem c_X3_barsNow {l : Launch} {E : ev_E} (hE : Eok E) (hm : eM E = 1) {a1 : Int} (ca1 : wr a1 = a1) {σ : st_S} {Q : Int → st_S → Prop} (h : wp_X3_barsNow a1 σ Q) : cM l yX3_barsNow cX3_barsNow 2 (some .boolean) E 4 0 0 [vR E 35, vI a1] σ (qI E (gN σ + 0) Q) := by
  refine cM_of (lv := [(0, vR E 35), (1, vI a1)]) (by decide) hE (Nat.le_of_ble_eq_true rfl) (rfl) ?_
  intro X hX hc _ _ hr _ _
  subst hX
  have hh : 4 ≤ 4 := Nat.le_refl _
  have hh1 : 1 ≤ 4 := by omega
  replace h : wp_X3_setNow a1 σ (fun s6 => wp_X3_tells 4 0 1 s6 (fun r7 s8 => (¬ r7 = 1 → B_X3_barsNow_21 Q 0 s8) ∧ (r7 = 1 → B_X3_barsNow_21 Q 1 s8))) := h
  refine j_aload_nR hc 0 dX3_barsNow_0 rfl rfl ?_
  refine j_iload_n hc 1 dX3_barsNow_1 rfl rfl ?_
  refine j_vV hc (k := 3) (by decide) (fun hv => Or.inl (sv_k hv hm rfl)) ml_RX3_22 mv_X3_setNow (As := [vI a1]) (c_X3_setNow (cx_E hc) hm ca1 h) rfl (by omega) (by decide) ⟨Nat.zero_le _, Nat.zero_le _⟩ (Nat.le_of_ble_eq_true rfl) rfl dX3_barsNow_2 (fun s6 h => ?_)
  refine j_aload_nR hc 0 dX3_barsNow_5 rfl rfl ?_
  refine j_iconst hc dX3_barsNow_6 ?_
  refine j_iconst hc dX3_barsNow_7 ?_
  refine j_iconst hc dX3_barsNow_8 ?_
  refine j_vI hc (k := 3) (by decide) (fun hv => Or.inl (sv_k hv hm rfl)) ml_RX3_32 mv_X3_tells (As := [vI 4, vI 0, vI 1]) (c_X3_tells (cx_E hc) hm (wlit 4 (by decide)) (wlit 0 (by decide)) (wlit 1 (by decide)) h) rfl (by omega) (by decide) ⟨Nat.zero_le _, Nat.zero_le _⟩ (Nat.le_of_ble_eq_true rfl) rfl dX3_barsNow_9 (fun r7 s8 cr7 h => ?_)
  refine j_iconst hc dX3_barsNow_12 ?_
  refine j_ic_ne hc cr7 (wlit 1 (by decide)) (tgt := 20) dX3_barsNow_13 (by decide) (fun q9 => ?_) (fun q9 => ?_)
  · replace h := h.1 q9
    refine j_iconst hc dX3_barsNow_20 ?_
    refine j_sub (lv' := []) [] rfl ?_
    exact jb_X3_barsNow_21 hc hm hr hh (wlit 0 (by decide)) h
  · replace h := h.2 q9
    refine j_iconst hc dX3_barsNow_16 ?_
    refine j_goto (tgt := 21) hc dX3_barsNow_17 (by decide) ?_
    refine j_sub (lv' := []) [] rfl ?_
    exact jb_X3_barsNow_21 hc hm hr hh (wlit 1 (by decide)) h
-- LitStrangers$Judge.bars(IIII)Z
theorem dX3_bars_0 : decode cX3_bars 0 = .ok (.aload_n 0, 1) := by decide +kernel
theorem dX3_bars_1 : decode cX3_bars 1 = .ok (.iload_n 1, 1) := by decide +kernel
theorem dX3_bars_2 : decode cX3_bars 2 = .ok (.iload_n 2, 1) := by decide +kernel
theorem dX3_bars_3 : decode cX3_bars 3 = .ok (.iload_n 3, 1) := by decide +kernel
theorem dX3_bars_4 : decode cX3_bars 4 = .ok (.iload 4, 2) := by decide +kernel
theorem dX3_bars_6 : decode cX3_bars 6 = .ok (.invokevirtual 36, 3) := by decide +kernel
theorem dX3_bars_9 : decode cX3_bars 9 = .ok (.aload_n 0, 1) := by decide +kernel
theorem dX3_bars_10 : decode cX3_bars 10 = .ok (.iconst 4, 1) := by decide +kernel
theorem dX3_bars_11 : decode cX3_bars 11 = .ok (.iconst 0, 1) := by decide +kernel
theorem dX3_bars_12 : decode cX3_bars 12 = .ok (.iconst 1, 1) := by decide +kernel
theorem dX3_bars_13 : decode cX3_bars 13 = .ok (.invokevirtual 32, 3) := by decide +kernel
theorem dX3_bars_16 : decode cX3_bars 16 = .ok (.iconst 1, 1) := by decide +kernel
theorem dX3_bars_17 : decode cX3_bars 17 = .ok (.if_icmp .ne 7, 3) := by decide +kernel
theorem dX3_bars_20 : decode cX3_bars 20 = .ok (.iconst 1, 1) := by decide +kernel
theorem dX3_bars_21 : decode cX3_bars 21 = .ok (.goto 4, 3) := by decide +kernel
theorem dX3_bars_24 : decode cX3_bars 24 = .ok (.iconst 0, 1) := by decide +kernel
theorem dX3_bars_25 : decode cX3_bars 25 = .ok (.ireturn, 1) := by decide +kernel
def B_X3_bars_25 (Q : Int → st_S → Prop)   (v0 : Int) (σ : st_S) : Prop := (v0 = 0 ∨ v0 = 1) ∧ Q v0 σ
def wp_X3_bars (a1 : Int) (a2 : Int) (a3 : Int) (a4 : Int) (σ : st_S) (Q : Int → st_S → Prop) : Prop := wp_X3_setPerson a1 a2 a3 a4 σ (fun s6 => wp_X3_tells 4 0 1 s6 (fun r7 s8 => (¬ r7 = 1 → B_X3_bars_25 Q 0 s8) ∧ (r7 = 1 → B_X3_bars_25 Q 1 s8)))
set_option maxRecDepth 20000 in
theorem jb_X3_bars_25 {X : jj_X} {E : ev_E} {n0 hN : Nat} (hc : Cx X E cX3_bars 5 n0 hN RX3) (hm : eM E = 1) (hr : (xT X).sig.returnType = (some .boolean)) (hh : 4 ≤ hN) {Q : Int → st_S → Prop} {v0 : Int} (cv0 : wr v0 = v0) {σ : st_S} (h : B_X3_bars_25 Q v0 σ) : J X E 5 n0 0 0 (MQ (xB X) (qI E (n0 + 0) Q) (xA X) (xS X) 0 0 (eF E)) σ 25 [] [vI v0] := by
  have hh1 : 1 ≤ hN := by omega
  replace h : (v0 = 0 ∨ v0 = 1) ∧ Q v0 σ := h
  exact j_zret hc hr (nar_bool h.1) (by rcases h.1 with e | e <;> (rw [e]; decide)) h.2 dX3_bars_25
set_option maxRecDepth 20000 in
theorem c_X3_bars {l : Launch} {E : ev_E} (hE : Eok E) (hm : eM E = 1) {a1 : Int} {a2 : Int} {a3 : Int} {a4 : Int} (ca1 : wr a1 = a1) (ca2 : wr a2 = a2) (ca3 : wr a3 = a3) (ca4 : wr a4 = a4) {σ : st_S} {Q : Int → st_S → Prop} (h : wp_X3_bars a1 a2 a3 a4 σ Q) : cM l yX3_bars cX3_bars 5 (some .boolean) E 4 0 0 [vR E 35, vI a1, vI a2, vI a3, vI a4] σ (qI E (gN σ + 0) Q) := by
  refine cM_of (lv := [(0, vR E 35), (1, vI a1), (2, vI a2), (3, vI a3), (4, vI a4)]) (by decide) hE (Nat.le_of_ble_eq_true rfl) (rfl) ?_
  intro X hX hc _ _ hr _ _
  subst hX
  have hh : 4 ≤ 4 := Nat.le_refl _
  have hh1 : 1 ≤ 4 := by omega
  replace h : wp_X3_setPerson a1 a2 a3 a4 σ (fun s6 => wp_X3_tells 4 0 1 s6 (fun r7 s8 => (¬ r7 = 1 → B_X3_bars_25 Q 0 s8) ∧ (r7 = 1 → B_X3_bars_25 Q 1 s8))) := h
  refine j_aload_nR hc 0 dX3_bars_0 rfl rfl ?_
  refine j_iload_n hc 1 dX3_bars_1 rfl rfl ?_
  refine j_iload_n hc 2 dX3_bars_2 rfl rfl ?_
  refine j_iload_n hc 3 dX3_bars_3 rfl rfl ?_
  refine j_iload hc 4 dX3_bars_4 rfl ?_
  refine j_vV hc (k := 3) (by decide) (fun hv => Or.inl (sv_k hv hm rfl)) ml_RX3_36 mv_X3_setPerson (As := [vI a1, vI a2, vI a3, vI a4]) (c_X3_setPerson (cx_E hc) hm ca1 ca2 ca3 ca4 h) rfl (by omega) (by decide) ⟨Nat.zero_le _, Nat.zero_le _⟩ (Nat.le_of_ble_eq_true rfl) rfl dX3_bars_6 (fun s6 h => ?_)
  refine j_aload_nR hc 0 dX3_bars_9 rfl rfl ?_
  refine j_iconst hc dX3_bars_10 ?_
  refine j_iconst hc dX3_bars_11 ?_
  refine j_iconst hc dX3_bars_12 ?_
  refine j_vI hc (k := 3) (by decide) (fun hv => Or.inl (sv_k hv hm rfl)) ml_RX3_32 mv_X3_tells (As := [vI 4, vI 0, vI 1]) (c_X3_tells (cx_E hc) hm (wlit 4 (by decide)) (wlit 0 (by decide)) (wlit 1 (by decide)) h) rfl (by omega) (by decide) ⟨Nat.zero_le _, Nat.zero_le _⟩ (Nat.le_of_ble_eq_true rfl) rfl dX3_bars_13 (fun r7 s8 cr7 h => ?_)
  refine j_iconst hc dX3_bars_16 ?_
  refine j_ic_ne hc cr7 (wlit 1 (by decide)) (tgt := 24) dX3_bars_17 (by decide) (fun q9 => ?_) (fun q9 => ?_)
  · replace h := h.1 q9
    refine j_iconst hc dX3_bars_24 ?_
    refine j_sub (lv' := []) [] rfl ?_
    exact jb_X3_bars_25 hc hm hr hh (wlit 0 (by decide)) h
  · replace h := h.2 q9
    refine j_iconst hc dX3_bars_20 ?_
    refine j_goto (tgt := 25) hc dX3_bars_21 (by decide) ?_
    refine j_sub (lv' := []) [] rfl ?_
    exact jb_X3_bars_25 hc hm hr hh (wlit 1 (by decide)) h
-- LitStrangers$Log.clear()V
theorem dX4_clear_0 : decode cX4_clear 0 = .ok (.aload_n 0, 1) := by decide +kernel
theorem dX4_clear_1 : decode cX4_clear 1 = .ok (.iconst 0, 1) := by decide +kernel
theorem dX4_clear_2 : decode cX4_clear 2 = .ok (.putfield 15, 3) := by decide +kernel
theorem dX4_clear_5 : decode cX4_clear 5 = .ok (.aload_n 0, 1) := by decide +kernel
theorem dX4_clear_6 : decode cX4_clear 6 = .ok (.iconst 0, 1) := by decide +kernel
theorem dX4_clear_7 : decode cX4_clear 7 = .ok (.putfield 19, 3) := by decide +kernel
theorem dX4_clear_10 : decode cX4_clear 10 = .ok (.return_, 1) := by decide +kernel
def wp_X4_clear  (σ : st_S) (Q : st_S → Prop) : Prop := ∀ s5 : st_S, s5 = sI σ 39 0 0 → ∀ s6 : st_S, s6 = sI s5 39 1 0 → Q s6
set_option maxRecDepth 20000 in
theorem c_X4_clear {l : Launch} {E : ev_E} (hE : Eok E) (hm : eM E = 1) {σ : st_S} {Q : st_S → Prop} (h : wp_X4_clear σ Q) : cM l yX4_clear cX4_clear 1 none E 1 0 0 [vR E 39] σ (qV E (gN σ + 0) Q) := by
  refine cM_of (lv := [(0, vR E 39)]) (by decide) hE (Nat.le_of_ble_eq_true rfl) (rfl) ?_
  intro X hX hc _ _ hr _ _
  subst hX
  have hh : 1 ≤ 1 := Nat.le_refl _
  have hh1 : 1 ≤ 1 := by omega
  replace h : ∀ s5 : st_S, s5 = sI σ 39 0 0 → ∀ s6 : st_S, s6 = sI s5 39 1 0 → Q s6 := h
  refine j_aload_nR hc 0 dX4_clear_0 rfl rfl ?_
  refine j_iconst hc dX4_clear_1 ?_
  refine j_putI hc fl_RX4_15 rfl rfl (fun hv => Or.inl (sv_k hv hm rfl)) (wlit 0 (by decide)) dX4_clear_2 (fun s5 es5 => ?_)
  replace h := h s5 es5
  refine j_aload_nR hc 0 dX4_clear_5 rfl rfl ?_
  refine j_iconst hc dX4_clear_6 ?_
  refine j_putI hc fl_RX4_19 rfl rfl (fun hv => Or.inl (sv_k hv hm rfl)) (wlit 0 (by decide)) dX4_clear_7 (fun s6 es6 => ?_)
  replace h := h s6 es6
  exact j_vret hc hr h dX4_clear_10
-- LitStrangers$Log.copyFrom(LLitStrangers$Log;)V
theorem dX4_copyFrom_0 : decode cX4_copyFrom 0 = .ok (.aload_n 0, 1) := by decide +kernel
theorem dX4_copyFrom_1 : decode cX4_copyFrom 1 = .ok (.aload_n 1, 1) := by decide +kernel
theorem dX4_copyFrom_2 : decode cX4_copyFrom 2 = .ok (.getfield 15, 3) := by decide +kernel
theorem dX4_copyFrom_5 : decode cX4_copyFrom 5 = .ok (.putfield 15, 3) := by decide +kernel
theorem dX4_copyFrom_8 : decode cX4_copyFrom 8 = .ok (.aload_n 0, 1) := by decide +kernel
theorem dX4_copyFrom_9 : decode cX4_copyFrom 9 = .ok (.aload_n 1, 1) := by decide +kernel
theorem dX4_copyFrom_10 : decode cX4_copyFrom 10 = .ok (.getfield 19, 3) := by decide +kernel
theorem dX4_copyFrom_13 : decode cX4_copyFrom 13 = .ok (.putfield 19, 3) := by decide +kernel
theorem dX4_copyFrom_16 : decode cX4_copyFrom 16 = .ok (.aload_n 1, 1) := by decide +kernel
theorem dX4_copyFrom_17 : decode cX4_copyFrom 17 = .ok (.getfield 11, 3) := by decide +kernel
theorem dX4_copyFrom_20 : decode cX4_copyFrom 20 = .ok (.iconst 0, 1) := by decide +kernel
theorem dX4_copyFrom_21 : decode cX4_copyFrom 21 = .ok (.aload_n 0, 1) := by decide +kernel
theorem dX4_copyFrom_22 : decode cX4_copyFrom 22 = .ok (.getfield 11, 3) := by decide +kernel
theorem dX4_copyFrom_25 : decode cX4_copyFrom 25 = .ok (.iconst 0, 1) := by decide +kernel
theorem dX4_copyFrom_26 : decode cX4_copyFrom 26 = .ok (.sipush 560, 3) := by decide +kernel
theorem dX4_copyFrom_29 : decode cX4_copyFrom 29 = .ok (.invokestatic 22, 3) := by decide +kernel
theorem dX4_copyFrom_32 : decode cX4_copyFrom 32 = .ok (.return_, 1) := by decide +kernel
def wp_X4_copyFrom (t : Nat) (a1 : Nat) (σ : st_S) (Q : st_S → Prop) : Prop := gK σ a1 = 16 + 4 ∧ gK σ t = 16 + 4 ∧ ∀ s19 : st_S, s19 = sI σ t 0 (gI σ a1 0) → ∀ s21 : st_S, s21 = sI s19 t 1 (gI s19 a1 1) → ∀ s22 : st_S, s22 = sC s21 (a1 + 1) 0 (t + 1) 0 560 → Q s22
set_option maxRecDepth 20000 in
theorem c_X4_copyFrom {l : Launch} {E : ev_E} (hE : Eok E) (hm : eM E = 1) {t : Nat} {a1 : Nat} {σ : st_S} {Q : st_S → Prop} (h : wp_X4_copyFrom t a1 σ Q) : cM l yX4_copyFrom cX4_copyFrom 2 none E 1 0 0 [vR E t, vR E a1] σ (qV E (gN σ + 0) Q) := by
  refine cM_of (lv := [(0, vR E t), (1, vR E a1)]) (by decide) hE (Nat.le_of_ble_eq_true rfl) (rfl) ?_
  intro X hX hc _ _ hr _ _
  subst hX
  have hh : 1 ≤ 1 := Nat.le_refl _
  have hh1 : 1 ≤ 1 := by omega
  replace h : gK σ a1 = 16 + 4 ∧ gK σ t = 16 + 4 ∧ ∀ s19 : st_S, s19 = sI σ t 0 (gI σ a1 0) → ∀ s21 : st_S, s21 = sI s19 t 1 (gI s19 a1 1) → ∀ s22 : st_S, s22 = sC s21 (a1 + 1) 0 (t + 1) 0 560 → Q s22 := h
  refine j_aload_nR hc 0 dX4_copyFrom_0 rfl rfl ?_
  refine j_aload_nR hc 1 dX4_copyFrom_1 rfl rfl ?_
  obtain ⟨f16, h⟩ := h
  refine j_getI hc fl_RX4_15 (Or.inl rfl) (fun _ => Or.inl f16) dX4_copyFrom_2 (fun cn17 => ?_)
  obtain ⟨f18, h⟩ := h
  refine j_putI hc fl_RX4_15 rfl rfl (fun _ => Or.inl f18) cn17 dX4_copyFrom_5 (fun s19 es19 => ?_)
  replace h := h s19 es19
  refine j_aload_nR hc 0 dX4_copyFrom_8 rfl rfl ?_
  refine j_aload_nR hc 1 dX4_copyFrom_9 rfl rfl ?_
  refine j_getI hc fl_RX4_19 (Or.inl rfl) (fun _ => Or.inl (kI (Or.inl ⟨_, _, _, es19⟩) f16)) dX4_copyFrom_10 (fun cn20 => ?_)
  refine j_putI hc fl_RX4_19 rfl rfl (fun _ => Or.inl (kI (Or.inl ⟨_, _, _, es19⟩) f18)) cn20 dX4_copyFrom_13 (fun s21 es21 => ?_)
  replace h := h s21 es21
  refine j_aload_nR hc 1 dX4_copyFrom_16 rfl rfl ?_
  refine j_getR (c' := (a1 + 1)) hc fl_RX4_11 rfl rfl (fun _ => (kI (Or.inl ⟨_, _, _, es21⟩) (kI (Or.inl ⟨_, _, _, es19⟩) f16))) dX4_copyFrom_17 ?_
  refine j_iconst hc dX4_copyFrom_20 ?_
  refine j_aload_nR hc 0 dX4_copyFrom_21 rfl rfl ?_
  refine j_getR (c' := (t + 1)) hc fl_RX4_11 rfl rfl (fun _ => (kI (Or.inl ⟨_, _, _, es21⟩) (kI (Or.inl ⟨_, _, _, es19⟩) f18))) dX4_copyFrom_22 ?_
  refine j_iconst hc dX4_copyFrom_25 ?_
  refine j_sipush hc dX4_copyFrom_26 (by decide) ?_
  refine j_copy hc mc_RX4_22 hh1 (fun hv => sv_b hv (kI (Or.inl ⟨_, _, _, es21⟩) (kI (Or.inl ⟨_, _, _, es19⟩) f16)) (by decide) rfl) (fun hv => sv_b hv (kI (Or.inl ⟨_, _, _, es21⟩) (kI (Or.inl ⟨_, _, _, es19⟩) f18)) (by decide) rfl) (wlit 0 (by decide)) (wlit 0 (by decide)) (wlit 560 (by decide)) (by unfold cpOk; omega) (Nat.le_of_ble_eq_true rfl) dX4_copyFrom_29 (fun s22 es22 => ?_)
  replace h := h s22 es22
  exact j_vret hc hr h dX4_copyFrom_32
-- LitStrangers$Log.takeBack(LLitStrangers$Coast;)I
theorem dX4_takeBack_0 : decode cX4_takeBack 0 = .ok (.aload_n 0, 1) := by decide +kernel
theorem dX4_takeBack_1 : decode cX4_takeBack 1 = .ok (.getfield 15, 3) := by decide +kernel
theorem dX4_takeBack_4 : decode cX4_takeBack 4 = .ok (.ifCond .gt 5, 3) := by decide +kernel
theorem dX4_takeBack_7 : decode cX4_takeBack 7 = .ok (.iconst (-1), 1) := by decide +kernel
theorem dX4_takeBack_8 : decode cX4_takeBack 8 = .ok (.ireturn, 1) := by decide +kernel
theorem dX4_takeBack_9 : decode cX4_takeBack 9 = .ok (.aload_n 0, 1) := by decide +kernel
theorem dX4_takeBack_10 : decode cX4_takeBack 10 = .ok (.dup, 1) := by decide +kernel
theorem dX4_takeBack_11 : decode cX4_takeBack 11 = .ok (.getfield 15, 3) := by decide +kernel
theorem dX4_takeBack_14 : decode cX4_takeBack 14 = .ok (.iconst 1, 1) := by decide +kernel
theorem dX4_takeBack_15 : decode cX4_takeBack 15 = .ok (.isub, 1) := by decide +kernel
theorem dX4_takeBack_16 : decode cX4_takeBack 16 = .ok (.putfield 15, 3) := by decide +kernel
theorem dX4_takeBack_19 : decode cX4_takeBack 19 = .ok (.aload_n 0, 1) := by decide +kernel
theorem dX4_takeBack_20 : decode cX4_takeBack 20 = .ok (.aload_n 0, 1) := by decide +kernel
theorem dX4_takeBack_21 : decode cX4_takeBack 21 = .ok (.getfield 15, 3) := by decide +kernel
theorem dX4_takeBack_24 : decode cX4_takeBack 24 = .ok (.invokevirtual 28, 3) := by decide +kernel
theorem dX4_takeBack_27 : decode cX4_takeBack 27 = .ok (.istore_n 2, 1) := by decide +kernel
theorem dX4_takeBack_28 : decode cX4_takeBack 28 = .ok (.aload_n 1, 1) := by decide +kernel
theorem dX4_takeBack_29 : decode cX4_takeBack 29 = .ok (.getfield 32, 3) := by decide +kernel
theorem dX4_takeBack_32 : decode cX4_takeBack 32 = .ok (.iconst 0, 1) := by decide +kernel
theorem dX4_takeBack_33 : decode cX4_takeBack 33 = .ok (.aload_n 0, 1) := by decide +kernel
theorem dX4_takeBack_34 : decode cX4_takeBack 34 = .ok (.getfield 11, 3) := by decide +kernel
theorem dX4_takeBack_37 : decode cX4_takeBack 37 = .ok (.iload_n 2, 1) := by decide +kernel
theorem dX4_takeBack_38 : decode cX4_takeBack 38 = .ok (.iconst 1, 1) := by decide +kernel
theorem dX4_takeBack_39 : decode cX4_takeBack 39 = .ok (.iadd, 1) := by decide +kernel
theorem dX4_takeBack_40 : decode cX4_takeBack 40 = .ok (.iaload, 1) := by decide +kernel
theorem dX4_takeBack_41 : decode cX4_takeBack 41 = .ok (.iastore, 1) := by decide +kernel
theorem dX4_takeBack_42 : decode cX4_takeBack 42 = .ok (.aload_n 1, 1) := by decide +kernel
theorem dX4_takeBack_43 : decode cX4_takeBack 43 = .ok (.aload_n 0, 1) := by decide +kernel
theorem dX4_takeBack_44 : decode cX4_takeBack 44 = .ok (.getfield 11, 3) := by decide +kernel
theorem dX4_takeBack_47 : decode cX4_takeBack 47 = .ok (.iload_n 2, 1) := by decide +kernel
theorem dX4_takeBack_48 : decode cX4_takeBack 48 = .ok (.iconst 2, 1) := by decide +kernel
theorem dX4_takeBack_49 : decode cX4_takeBack 49 = .ok (.iadd, 1) := by decide +kernel
theorem dX4_takeBack_50 : decode cX4_takeBack 50 = .ok (.iaload, 1) := by decide +kernel
theorem dX4_takeBack_51 : decode cX4_takeBack 51 = .ok (.putfield 37, 3) := by decide +kernel
theorem dX4_takeBack_54 : decode cX4_takeBack 54 = .ok (.aload_n 1, 1) := by decide +kernel
theorem dX4_takeBack_55 : decode cX4_takeBack 55 = .ok (.aload_n 0, 1) := by decide +kernel
theorem dX4_takeBack_56 : decode cX4_takeBack 56 = .ok (.getfield 11, 3) := by decide +kernel
theorem dX4_takeBack_59 : decode cX4_takeBack 59 = .ok (.iload_n 2, 1) := by decide +kernel
theorem dX4_takeBack_60 : decode cX4_takeBack 60 = .ok (.iconst 3, 1) := by decide +kernel
theorem dX4_takeBack_61 : decode cX4_takeBack 61 = .ok (.iadd, 1) := by decide +kernel
theorem dX4_takeBack_62 : decode cX4_takeBack 62 = .ok (.iaload, 1) := by decide +kernel
theorem dX4_takeBack_63 : decode cX4_takeBack 63 = .ok (.putfield 40, 3) := by decide +kernel
theorem dX4_takeBack_66 : decode cX4_takeBack 66 = .ok (.aload_n 1, 1) := by decide +kernel
theorem dX4_takeBack_67 : decode cX4_takeBack 67 = .ok (.aload_n 0, 1) := by decide +kernel
theorem dX4_takeBack_68 : decode cX4_takeBack 68 = .ok (.getfield 11, 3) := by decide +kernel
theorem dX4_takeBack_71 : decode cX4_takeBack 71 = .ok (.iload_n 2, 1) := by decide +kernel
theorem dX4_takeBack_72 : decode cX4_takeBack 72 = .ok (.iconst 4, 1) := by decide +kernel
theorem dX4_takeBack_73 : decode cX4_takeBack 73 = .ok (.iadd, 1) := by decide +kernel
theorem dX4_takeBack_74 : decode cX4_takeBack 74 = .ok (.iaload, 1) := by decide +kernel
theorem dX4_takeBack_75 : decode cX4_takeBack 75 = .ok (.putfield 43, 3) := by decide +kernel
theorem dX4_takeBack_78 : decode cX4_takeBack 78 = .ok (.aload_n 0, 1) := by decide +kernel
theorem dX4_takeBack_79 : decode cX4_takeBack 79 = .ok (.getfield 11, 3) := by decide +kernel
theorem dX4_takeBack_82 : decode cX4_takeBack 82 = .ok (.iload_n 2, 1) := by decide +kernel
theorem dX4_takeBack_83 : decode cX4_takeBack 83 = .ok (.iconst 5, 1) := by decide +kernel
theorem dX4_takeBack_84 : decode cX4_takeBack 84 = .ok (.iadd, 1) := by decide +kernel
theorem dX4_takeBack_85 : decode cX4_takeBack 85 = .ok (.aload_n 1, 1) := by decide +kernel
theorem dX4_takeBack_86 : decode cX4_takeBack 86 = .ok (.getfield 46, 3) := by decide +kernel
theorem dX4_takeBack_89 : decode cX4_takeBack 89 = .ok (.iconst 0, 1) := by decide +kernel
theorem dX4_takeBack_90 : decode cX4_takeBack 90 = .ok (.bipush 10, 2) := by decide +kernel
theorem dX4_takeBack_92 : decode cX4_takeBack 92 = .ok (.invokestatic 22, 3) := by decide +kernel
theorem dX4_takeBack_95 : decode cX4_takeBack 95 = .ok (.aload_n 0, 1) := by decide +kernel
theorem dX4_takeBack_96 : decode cX4_takeBack 96 = .ok (.getfield 11, 3) := by decide +kernel
theorem dX4_takeBack_99 : decode cX4_takeBack 99 = .ok (.iload_n 2, 1) := by decide +kernel
theorem dX4_takeBack_100 : decode cX4_takeBack 100 = .ok (.iconst 5, 1) := by decide +kernel
theorem dX4_takeBack_101 : decode cX4_takeBack 101 = .ok (.iadd, 1) := by decide +kernel
theorem dX4_takeBack_102 : decode cX4_takeBack 102 = .ok (.bipush 10, 2) := by decide +kernel
theorem dX4_takeBack_104 : decode cX4_takeBack 104 = .ok (.iadd, 1) := by decide +kernel
theorem dX4_takeBack_105 : decode cX4_takeBack 105 = .ok (.aload_n 1, 1) := by decide +kernel
theorem dX4_takeBack_106 : decode cX4_takeBack 106 = .ok (.getfield 49, 3) := by decide +kernel
theorem dX4_takeBack_109 : decode cX4_takeBack 109 = .ok (.iconst 0, 1) := by decide +kernel
theorem dX4_takeBack_110 : decode cX4_takeBack 110 = .ok (.bipush 10, 2) := by decide +kernel
theorem dX4_takeBack_112 : decode cX4_takeBack 112 = .ok (.invokestatic 22, 3) := by decide +kernel
theorem dX4_takeBack_115 : decode cX4_takeBack 115 = .ok (.aload_n 0, 1) := by decide +kernel
theorem dX4_takeBack_116 : decode cX4_takeBack 116 = .ok (.getfield 11, 3) := by decide +kernel
theorem dX4_takeBack_119 : decode cX4_takeBack 119 = .ok (.iload_n 2, 1) := by decide +kernel
theorem dX4_takeBack_120 : decode cX4_takeBack 120 = .ok (.iconst 5, 1) := by decide +kernel
theorem dX4_takeBack_121 : decode cX4_takeBack 121 = .ok (.iadd, 1) := by decide +kernel
theorem dX4_takeBack_122 : decode cX4_takeBack 122 = .ok (.bipush 20, 2) := by decide +kernel
theorem dX4_takeBack_124 : decode cX4_takeBack 124 = .ok (.iadd, 1) := by decide +kernel
theorem dX4_takeBack_125 : decode cX4_takeBack 125 = .ok (.aload_n 1, 1) := by decide +kernel
theorem dX4_takeBack_126 : decode cX4_takeBack 126 = .ok (.getfield 52, 3) := by decide +kernel
theorem dX4_takeBack_129 : decode cX4_takeBack 129 = .ok (.iconst 0, 1) := by decide +kernel
theorem dX4_takeBack_130 : decode cX4_takeBack 130 = .ok (.bipush 10, 2) := by decide +kernel
theorem dX4_takeBack_132 : decode cX4_takeBack 132 = .ok (.invokestatic 22, 3) := by decide +kernel
theorem dX4_takeBack_135 : decode cX4_takeBack 135 = .ok (.aload_n 0, 1) := by decide +kernel
theorem dX4_takeBack_136 : decode cX4_takeBack 136 = .ok (.getfield 11, 3) := by decide +kernel
theorem dX4_takeBack_139 : decode cX4_takeBack 139 = .ok (.iload_n 2, 1) := by decide +kernel
theorem dX4_takeBack_140 : decode cX4_takeBack 140 = .ok (.iaload, 1) := by decide +kernel
theorem dX4_takeBack_141 : decode cX4_takeBack 141 = .ok (.ireturn, 1) := by decide +kernel
def wp_X4_takeBack  (σ : st_S) (Q : Int → st_S → Prop) : Prop := (0 < gI σ 39 0 → ∀ x36 : Int, x36 = wr (gI σ 39 0 - 1) → ∀ s37 : st_S, s37 = sI σ 39 0 x36 → wp_X4_placeOf (gI s37 39 0) s37 (fun r39 s40 => ix (wr (r39 + 1)) 560 ∧ ∀ s43 : st_S, s43 = sI s40 33 0 (gI s40 40 (Int.toNat (wr (r39 + 1)))) → ix (wr (r39 + 2)) 560 ∧ ∀ s46 : st_S, s46 = sI s43 25 12 (gI s43 40 (Int.toNat (wr (r39 + 2)))) → ix (wr (r39 + 3)) 560 ∧ ∀ s49 : st_S, s49 = sI s46 25 13 (gI s46 40 (Int.toNat (wr (r39 + 3)))) → ix (wr (r39 + 4)) 560 ∧ ∀ s52 : st_S, s52 = sI s49 25 14 (gI s49 40 (Int.toNat (wr (r39 + 4)))) → cpOk (wr (r39 + 5)) 0 10 560 10 ∧ ∀ s53 : st_S, s53 = sC s52 40 (wr (r39 + 5)) 28 0 10 → cpOk (wr ((r39 + 5) + 10)) 0 10 560 10 ∧ ∀ s55 : st_S, s55 = sC s53 40 (wr ((r39 + 5) + 10)) 29 0 10 → cpOk (wr ((r39 + 5) + 20)) 0 10 560 10 ∧ ∀ s57 : st_S, s57 = sC s55 40 (wr ((r39 + 5) + 20)) 30 0 10 → ix r39 560 ∧ Q (gI s57 40 (Int.toNat r39)) s57)) ∧ (¬ 0 < gI σ 39 0 → Q (-1) σ)
set_option maxRecDepth 20000 in
theorem c_X4_takeBack {l : Launch} {E : ev_E} (hE : Eok E) (hm : eM E = 1) {σ : st_S} {Q : Int → st_S → Prop} (h : wp_X4_takeBack σ Q) : cM l yX4_takeBack cX4_takeBack 3 (some .int) E 3 0 0 [vR E 39, vR E 25] σ (qI E (gN σ + 0) Q) := by
  refine cM_of (lv := [(0, vR E 39), (1, vR E 25)]) (by decide) hE (Nat.le_of_ble_eq_true rfl) (rfl) ?_
  intro X hX hc _ _ hr _ _
  subst hX
  have hh : 3 ≤ 3 := Nat.le_refl _
  have hh1 : 1 ≤ 3 := by omega
  replace h : (0 < gI σ 39 0 → ∀ x36 : Int, x36 = wr (gI σ 39 0 - 1) → ∀ s37 : st_S, s37 = sI σ 39 0 x36 → wp_X4_placeOf (gI s37 39 0) s37 (fun r39 s40 => ix (wr (r39 + 1)) 560 ∧ ∀ s43 : st_S, s43 = sI s40 33 0 (gI s40 40 (Int.toNat (wr (r39 + 1)))) → ix (wr (r39 + 2)) 560 ∧ ∀ s46 : st_S, s46 = sI s43 25 12 (gI s43 40 (Int.toNat (wr (r39 + 2)))) → ix (wr (r39 + 3)) 560 ∧ ∀ s49 : st_S, s49 = sI s46 25 13 (gI s46 40 (Int.toNat (wr (r39 + 3)))) → ix (wr (r39 + 4)) 560 ∧ ∀ s52 : st_S, s52 = sI s49 25 14 (gI s49 40 (Int.toNat (wr (r39 + 4)))) → cpOk (wr (r39 + 5)) 0 10 560 10 ∧ ∀ s53 : st_S, s53 = sC s52 40 (wr (r39 + 5)) 28 0 10 → cpOk (wr ((r39 + 5) + 10)) 0 10 560 10 ∧ ∀ s55 : st_S, s55 = sC s53 40 (wr ((r39 + 5) + 10)) 29 0 10 → cpOk (wr ((r39 + 5) + 20)) 0 10 560 10 ∧ ∀ s57 : st_S, s57 = sC s55 40 (wr ((r39 + 5) + 20)) 30 0 10 → ix r39 560 ∧ Q (gI s57 40 (Int.toNat r39)) s57)) ∧ (¬ 0 < gI σ 39 0 → Q (-1) σ) := h
  refine j_aload_nR hc 0 dX4_takeBack_0 rfl rfl ?_
  refine j_getI hc fl_RX4_15 (Or.inl rfl) (fun hv => Or.inl (sv_k hv hm rfl)) dX4_takeBack_1 (fun cn34 => ?_)
  refine j_if_gt hc cn34 (tgt := 9) dX4_takeBack_4 (by decide) (fun q61 => ?_) (fun q61 => ?_)
  · replace h := h.1 q61
    refine j_aload_nR hc 0 dX4_takeBack_9 rfl rfl ?_
    refine j_dup hc dX4_takeBack_10 rfl ?_
    refine j_getI hc fl_RX4_15 (Or.inl rfl) (fun hv => Or.inl (sv_k hv hm rfl)) dX4_takeBack_11 (fun cn35 => ?_)
    refine j_iconst hc dX4_takeBack_14 ?_
    refine j_isub hc dX4_takeBack_15 ?_
    refine j_w (fun x36 ex36 cx36 => ?_)
    replace h := h x36 ex36
    refine j_putI hc fl_RX4_15 rfl rfl (fun hv => Or.inl (sv_k hv hm rfl)) cx36 dX4_takeBack_16 (fun s37 es37 => ?_)
    replace h := h s37 es37
    refine j_aload_nR hc 0 dX4_takeBack_19 rfl rfl ?_
    refine j_aload_nR hc 0 dX4_takeBack_20 rfl rfl ?_
    refine j_getI hc fl_RX4_15 (Or.inl rfl) (fun hv => Or.inl (sv_k hv hm rfl)) dX4_takeBack_21 (fun cn38 => ?_)
    refine j_vI hc (k := 4) (by decide) (fun hv => Or.inl (sv_k hv hm rfl)) ml_RX4_28 mv_X4_placeOf (As := [vI (gI s37 39 0)]) (c_X4_placeOf (cx_E hc) hm cn38 h) rfl (by omega) (by decide) ⟨Nat.zero_le _, Nat.zero_le _⟩ (Nat.le_of_ble_eq_true rfl) rfl dX4_takeBack_24 (fun r39 s40 cr39 h => ?_)
    refine j_istore_n (lv' := [(2, vI r39), (0, vR E 39), (1, vR E 25)]) hc dX4_takeBack_27 rfl (by decide) rfl ?_
    refine j_aload_nR hc 2 dX4_takeBack_28 rfl rfl ?_
    refine j_getR (c' := 33) hc fl_RX4_32 rfl rfl (fun hv => (sv_k hv hm rfl)) dX4_takeBack_29 ?_
    refine j_iconst hc dX4_takeBack_32 ?_
    refine j_aload_nR hc 1 dX4_takeBack_33 rfl rfl ?_
    refine j_getR (c' := 40) hc fl_RX4_11 rfl rfl (fun hv => (sv_k hv hm rfl)) dX4_takeBack_34 ?_
    refine j_iload_n hc 0 dX4_takeBack_37 rfl rfl ?_
    refine j_iconst hc dX4_takeBack_38 ?_
    refine j_iadd hc dX4_takeBack_39 ?_
    obtain ⟨b41, h⟩ := h
    refine j_iald (jn := (Int.toNat (wr (r39 + 1)))) hc (fun hv => sv_kl hv hm rfl) rfl b41 rfl dX4_takeBack_40 (fun cn42 => ?_)
    refine j_iast (jn := 0) hc (fun hv => sv_kl hv hm rfl) (wlit 0 (by decide)) ⟨by decide, by decide⟩ rfl cn42 dX4_takeBack_41 (fun s43 es43 => ?_)
    replace h := h s43 es43
    refine j_aload_nR hc 2 dX4_takeBack_42 rfl rfl ?_
    refine j_aload_nR hc 1 dX4_takeBack_43 rfl rfl ?_
    refine j_getR (c' := 40) hc fl_RX4_11 rfl rfl (fun hv => (sv_k hv hm rfl)) dX4_takeBack_44 ?_
    refine j_iload_n hc 0 dX4_takeBack_47 rfl rfl ?_
    refine j_iconst hc dX4_takeBack_48 ?_
    refine j_iadd hc dX4_takeBack_49 ?_
    obtain ⟨b44, h⟩ := h
    refine j_iald (jn := (Int.toNat (wr (r39 + 2)))) hc (fun hv => sv_kl hv hm rfl) rfl b44 rfl dX4_takeBack_50 (fun cn45 => ?_)
    refine j_putI hc fl_RX4_37 rfl rfl (fun hv => Or.inl (sv_k hv hm rfl)) cn45 dX4_takeBack_51 (fun s46 es46 => ?_)
    replace h := h s46 es46
    refine j_aload_nR hc 2 dX4_takeBack_54 rfl rfl ?_
    refine j_aload_nR hc 1 dX4_takeBack_55 rfl rfl ?_
    refine j_getR (c' := 40) hc fl_RX4_11 rfl rfl (fun hv => (sv_k hv hm rfl)) dX4_takeBack_56 ?_
    refine j_iload_n hc 0 dX4_takeBack_59 rfl rfl ?_
    refine j_iconst hc dX4_takeBack_60 ?_
    refine j_iadd hc dX4_takeBack_61 ?_
    obtain ⟨b47, h⟩ := h
    refine j_iald (jn := (Int.toNat (wr (r39 + 3)))) hc (fun hv => sv_kl hv hm rfl) rfl b47 rfl dX4_takeBack_62 (fun cn48 => ?_)
    refine j_putI hc fl_RX4_40 rfl rfl (fun hv => Or.inl (sv_k hv hm rfl)) cn48 dX4_takeBack_63 (fun s49 es49 => ?_)
    replace h := h s49 es49
    refine j_aload_nR hc 2 dX4_takeBack_66 rfl rfl ?_
    refine j_aload_nR hc 1 dX4_takeBack_67 rfl rfl ?_
    refine j_getR (c' := 40) hc fl_RX4_11 rfl rfl (fun hv => (sv_k hv hm rfl)) dX4_takeBack_68 ?_
    refine j_iload_n hc 0 dX4_takeBack_71 rfl rfl ?_
    refine j_iconst hc dX4_takeBack_72 ?_
    refine j_iadd hc dX4_takeBack_73 ?_
    obtain ⟨b50, h⟩ := h
    refine j_iald (jn := (Int.toNat (wr (r39 + 4)))) hc (fun hv => sv_kl hv hm rfl) rfl b50 rfl dX4_takeBack_74 (fun cn51 => ?_)
    refine j_putI hc fl_RX4_43 rfl rfl (fun hv => Or.inl (sv_k hv hm rfl)) cn51 dX4_takeBack_75 (fun s52 es52 => ?_)
    replace h := h s52 es52
    refine j_aload_nR hc 1 dX4_takeBack_78 rfl rfl ?_
    refine j_getR (c' := 40) hc fl_RX4_11 rfl rfl (fun hv => (sv_k hv hm rfl)) dX4_takeBack_79 ?_
    refine j_iload_n hc 0 dX4_takeBack_82 rfl rfl ?_
    refine j_iconst hc dX4_takeBack_83 ?_
    refine j_iadd hc dX4_takeBack_84 ?_
    refine j_aload_nR hc 2 dX4_takeBack_85 rfl rfl ?_
    refine j_getR (c' := 28) hc fl_RX4_46 rfl rfl (fun hv => (sv_k hv hm rfl)) dX4_takeBack_86 ?_
    refine j_iconst hc dX4_takeBack_89 ?_
    refine j_bipush hc dX4_takeBack_90 (by decide) ?_
    obtain ⟨b54, h⟩ := h
    refine j_copy hc mc_RX4_22 hh1 (fun hv => sv_kl hv hm rfl) (fun hv => sv_kl hv hm rfl) rfl (wlit 0 (by decide)) (wlit 10 (by decide)) b54 (Nat.le_of_ble_eq_true rfl) dX4_takeBack_92 (fun s53 es53 => ?_)
    replace h := h s53 es53
    refine j_aload_nR hc 1 dX4_takeBack_95 rfl rfl ?_
    refine j_getR (c' := 40) hc fl_RX4_11 rfl rfl (fun hv => (sv_k hv hm rfl)) dX4_takeBack_96 ?_
    refine j_iload_n hc 0 dX4_takeBack_99 rfl rfl ?_
    refine j_iconst hc dX4_takeBack_100 ?_
    refine j_iadd hc dX4_takeBack_101 ?_
    refine j_bipush hc dX4_takeBack_102 (by decide) ?_
    refine j_iadd hc dX4_takeBack_104 ?_
    refine j_aload_nR hc 2 dX4_takeBack_105 rfl rfl ?_
    refine j_getR (c' := 29) hc fl_RX4_49 rfl rfl (fun hv => (sv_k hv hm rfl)) dX4_takeBack_106 ?_
    refine j_iconst hc dX4_takeBack_109 ?_
    refine j_bipush hc dX4_takeBack_110 (by decide) ?_
    obtain ⟨b56, h⟩ := h
    refine j_copy hc mc_RX4_22 hh1 (fun hv => sv_kl hv hm rfl) (fun hv => sv_kl hv hm rfl) rfl (wlit 0 (by decide)) (wlit 10 (by decide)) b56 (Nat.le_of_ble_eq_true rfl) dX4_takeBack_112 (fun s55 es55 => ?_)
    replace h := h s55 es55
    refine j_aload_nR hc 1 dX4_takeBack_115 rfl rfl ?_
    refine j_getR (c' := 40) hc fl_RX4_11 rfl rfl (fun hv => (sv_k hv hm rfl)) dX4_takeBack_116 ?_
    refine j_iload_n hc 0 dX4_takeBack_119 rfl rfl ?_
    refine j_iconst hc dX4_takeBack_120 ?_
    refine j_iadd hc dX4_takeBack_121 ?_
    refine j_bipush hc dX4_takeBack_122 (by decide) ?_
    refine j_iadd hc dX4_takeBack_124 ?_
    refine j_aload_nR hc 2 dX4_takeBack_125 rfl rfl ?_
    refine j_getR (c' := 30) hc fl_RX4_52 rfl rfl (fun hv => (sv_k hv hm rfl)) dX4_takeBack_126 ?_
    refine j_iconst hc dX4_takeBack_129 ?_
    refine j_bipush hc dX4_takeBack_130 (by decide) ?_
    obtain ⟨b58, h⟩ := h
    refine j_copy hc mc_RX4_22 hh1 (fun hv => sv_kl hv hm rfl) (fun hv => sv_kl hv hm rfl) rfl (wlit 0 (by decide)) (wlit 10 (by decide)) b58 (Nat.le_of_ble_eq_true rfl) dX4_takeBack_132 (fun s57 es57 => ?_)
    replace h := h s57 es57
    refine j_aload_nR hc 1 dX4_takeBack_135 rfl rfl ?_
    refine j_getR (c' := 40) hc fl_RX4_11 rfl rfl (fun hv => (sv_k hv hm rfl)) dX4_takeBack_136 ?_
    refine j_iload_n hc 0 dX4_takeBack_139 rfl rfl ?_
    obtain ⟨b59, h⟩ := h
    refine j_iald (jn := (Int.toNat r39)) hc (fun hv => sv_kl hv hm rfl) cr39 b59 rfl dX4_takeBack_140 (fun cn60 => ?_)
    exact j_iret hc hr cn60 h dX4_takeBack_141
  · replace h := h.2 q61
    refine j_iconst hc dX4_takeBack_7 ?_
    exact j_iret hc hr (wlit (-1) (by decide)) h dX4_takeBack_8
-- java/lang/String.coder()B
theorem dJ0_coder_7d493_0 : decode cJ0_coder_7d493 0 = .ok (.getstatic 38, 3) := by decide +kernel
theorem dJ0_coder_7d493_3 : decode cJ0_coder_7d493 3 = .ok (.ifCond .eq 10, 3) := by decide +kernel
theorem dJ0_coder_7d493_6 : decode cJ0_coder_7d493 6 = .ok (.aload_n 0, 1) := by decide +kernel
theorem dJ0_coder_7d493_7 : decode cJ0_coder_7d493 7 = .ok (.getfield 15, 3) := by decide +kernel
theorem dJ0_coder_7d493_10 : decode cJ0_coder_7d493 10 = .ok (.goto 4, 3) := by decide +kernel
theorem dJ0_coder_7d493_13 : decode cJ0_coder_7d493 13 = .ok (.iconst 1, 1) := by decide +kernel
theorem dJ0_coder_7d493_14 : decode cJ0_coder_7d493 14 = .ok (.ireturn, 1) := by decide +kernel
def B_J0_coder_7d493_14 (Q : Int → st_S → Prop)   (v0 : Int) (σ : st_S) : Prop := (v0 = 0 ∨ v0 = 1) ∧ Q v0 σ
def wp_J0_coder_7d493 (t : Nat) (σ : st_S) (Q : Int → st_S → Prop) : Prop := ((1 : Int) = 0 → B_J0_coder_7d493_14 Q 1 σ) ∧ (¬ (1 : Int) = 0 → t < sNum ∧ B_J0_coder_7d493_14 Q 0 σ)
set_option maxRecDepth 20000 in
theorem jb_J0_coder_7d493_14 {X : jj_X} {E : ev_E} {n0 hN : Nat} (hc : Cx X E cJ0_coder_7d493 1 n0 hN RJ0) (hr : (xT X).sig.returnType = (some .byte)) (hh : 1 ≤ hN) {Q : Int → st_S → Prop} {v0 : Int} (cv0 : wr v0 = v0) {σ : st_S} (h : B_J0_coder_7d493_14 Q v0 σ) : J X E 1 n0 0 0 (MQ (xB X) (qI E (n0 + 0) Q) (xA X) (xS X) 0 0 (eF E)) σ 14 [] [vI v0] := by
  have hh1 : 1 ≤ hN := by omega
  replace h : (v0 = 0 ∨ v0 = 1) ∧ Q v0 σ := h
  exact j_zret hc hr (nar_byte h.1) (by rcases h.1 with e | e <;> (rw [e]; decide)) h.2 dJ0_coder_7d493_14
set_option maxRecDepth 20000 in
theorem c_J0_coder_7d493 {l : Launch} {E : ev_E} (hE : Eok E) {t : Nat} {σ : st_S} {Q : Int → st_S → Prop} (h : wp_J0_coder_7d493 t σ Q) : cM l yJ0_coder_7d493 cJ0_coder_7d493 1 (some .byte) E 1 0 0 [vS E t] σ (qI E (gN σ + 0) Q) := by
  refine cM_of (lv := [(0, vS E t)]) (by decide) hE (Nat.le_of_ble_eq_true rfl) (rfl) ?_
  intro X hX hc _ _ hr _ _
  subst hX
  have hh : 1 ≤ 1 := Nat.le_refl _
  have hh1 : 1 ≤ 1 := by omega
  replace h : ((1 : Int) = 0 → B_J0_coder_7d493_14 Q 1 σ) ∧ (¬ (1 : Int) = 0 → t < sNum ∧ B_J0_coder_7d493_14 Q 0 σ) := h
  refine j_getC hc gl_RJ0_38 dJ0_coder_7d493_0 ?_
  refine j_if_eq hc (wlit 1 (by decide)) (tgt := 13) dJ0_coder_7d493_3 (by decide) (fun q3 => ?_) (fun q3 => ?_)
  · replace h := h.1 q3
    refine j_iconst hc dJ0_coder_7d493_13 ?_
    refine j_sub (lv' := []) [] rfl ?_
    exact jb_J0_coder_7d493_14 hc hr hh (wlit 1 (by decide)) h
  · replace h := h.2 q3
    refine j_aload_nS hc 0 dJ0_coder_7d493_6 rfl rfl ?_
    obtain ⟨b2, h⟩ := h
    refine j_scod hc gl_RJ0_15 b2 dJ0_coder_7d493_7 ?_
    refine j_goto (tgt := 14) hc dJ0_coder_7d493_10 (by decide) ?_
    refine j_sub (lv' := []) [] rfl ?_
    exact jb_J0_coder_7d493_14 hc hr hh (wlit 0 (by decide)) h
-- java/lang/String.length()I
theorem dJ0_length_8abf5_0 : decode cJ0_length_8abf5 0 = .ok (.aload_n 0, 1) := by decide +kernel
theorem dJ0_length_8abf5_1 : decode cJ0_length_8abf5 1 = .ok (.getfield 9, 3) := by decide +kernel
theorem dJ0_length_8abf5_4 : decode cJ0_length_8abf5 4 = .ok (.arraylength, 1) := by decide +kernel
theorem dJ0_length_8abf5_5 : decode cJ0_length_8abf5 5 = .ok (.aload_n 0, 1) := by decide +kernel
theorem dJ0_length_8abf5_6 : decode cJ0_length_8abf5 6 = .ok (.invokevirtual 335, 3) := by decide +kernel
theorem dJ0_length_8abf5_9 : decode cJ0_length_8abf5 9 = .ok (.ishr, 1) := by decide +kernel
theorem dJ0_length_8abf5_10 : decode cJ0_length_8abf5 10 = .ok (.ireturn, 1) := by decide +kernel
def wp_J0_length_8abf5 (t : Nat) (σ : st_S) (Q : Int → st_S → Prop) : Prop := t < sNum ∧ t < sNum ∧ t < sNum ∧ wp_J0_coder_7d493 t σ (fun r9 s10 => Q (o_shr (sLn t) r9) s10)
set_option maxRecDepth 20000 in
theorem c_J0_length_8abf5 {l : Launch} {E : ev_E} (hE : Eok E) {t : Nat} {σ : st_S} {Q : Int → st_S → Prop} (h : wp_J0_length_8abf5 t σ Q) : cM l yJ0_length_8abf5 cJ0_length_8abf5 1 (some .int) E 2 0 0 [vS E t] σ (qI E (gN σ + 0) Q) := by
  refine cM_of (lv := [(0, vS E t)]) (by decide) hE (Nat.le_of_ble_eq_true rfl) (rfl) ?_
  intro X hX hc _ _ hr _ _
  subst hX
  have hh : 2 ≤ 2 := Nat.le_refl _
  have hh1 : 1 ≤ 2 := by omega
  replace h : t < sNum ∧ t < sNum ∧ t < sNum ∧ wp_J0_coder_7d493 t σ (fun r9 s10 => Q (o_shr (sLn t) r9) s10) := h
  refine j_aload_nS hc 0 dJ0_length_8abf5_0 rfl rfl ?_
  obtain ⟨b6, h⟩ := h
  refine j_sval hc gl_RJ0_9 b6 dJ0_length_8abf5_1 ?_
  obtain ⟨b7, h⟩ := h
  refine j_vlen hc b7 dJ0_length_8abf5_4 (fun cn8 => ?_)
  refine j_aload_nS hc 0 dJ0_length_8abf5_5 rfl rfl ?_
  obtain ⟨b11, h⟩ := h
  refine j_wI hc b11 ml_RJ0_335 mv_J0_coder_7d493 (As := []) (c_J0_coder_7d493 (cx_E hc)  h) rfl (by omega) (by decide) ⟨Nat.zero_le _, Nat.zero_le _⟩ (Nat.le_of_ble_eq_true rfl) rfl dJ0_length_8abf5_6 (fun r9 s10 cr9 h => ?_)
  refine j_ishr hc dJ0_length_8abf5_9 ?_
  exact j_iret hc hr (cn_shr _ _) h dJ0_length_8abf5_10
-- java/lang/String.isLatin1()Z
theorem dJ0_isLatin1_aae02_0 : decode cJ0_isLatin1_aae02 0 = .ok (.getstatic 38, 3) := by decide +kernel
theorem dJ0_isLatin1_aae02_3 : decode cJ0_isLatin1_aae02 3 = .ok (.ifCond .eq 14, 3) := by decide +kernel
theorem dJ0_isLatin1_aae02_6 : decode cJ0_isLatin1_aae02 6 = .ok (.aload_n 0, 1) := by decide +kernel
theorem dJ0_isLatin1_aae02_7 : decode cJ0_isLatin1_aae02 7 = .ok (.getfield 15, 3) := by decide +kernel
theorem dJ0_isLatin1_aae02_10 : decode cJ0_isLatin1_aae02 10 = .ok (.ifCond .ne 7, 3) := by decide +kernel
theorem dJ0_isLatin1_aae02_13 : decode cJ0_isLatin1_aae02 13 = .ok (.iconst 1, 1) := by decide +kernel
theorem dJ0_isLatin1_aae02_14 : decode cJ0_isLatin1_aae02 14 = .ok (.goto 4, 3) := by decide +kernel
theorem dJ0_isLatin1_aae02_17 : decode cJ0_isLatin1_aae02 17 = .ok (.iconst 0, 1) := by decide +kernel
theorem dJ0_isLatin1_aae02_18 : decode cJ0_isLatin1_aae02 18 = .ok (.ireturn, 1) := by decide +kernel
def B_J0_isLatin1_aae02_18 (Q : Int → st_S → Prop)   (v0 : Int) (σ : st_S) : Prop := (v0 = 0 ∨ v0 = 1) ∧ Q v0 σ
def B_J0_isLatin1_aae02_17 (Q : Int → st_S → Prop)    (σ : st_S) : Prop := B_J0_isLatin1_aae02_18 Q 0 σ
def wp_J0_isLatin1_aae02 (t : Nat) (σ : st_S) (Q : Int → st_S → Prop) : Prop := ((1 : Int) = 0 → B_J0_isLatin1_aae02_17 Q σ) ∧ (¬ (1 : Int) = 0 → t < sNum ∧ (¬ (0 : Int) = 0 → B_J0_isLatin1_aae02_17 Q σ) ∧ ((0 : Int) = 0 → B_J0_isLatin1_aae02_18 Q 1 σ))
set_option maxRecDepth 20000 in
theorem jb_J0_isLatin1_aae02_18 {X : jj_X} {E : ev_E} {n0 hN : Nat} (hc : Cx X E cJ0_isLatin1_aae02 1 n0 hN RJ0) (hr : (xT X).sig.returnType = (some .boolean)) (hh : 1 ≤ hN) {Q : Int → st_S → Prop} {v0 : Int} (cv0 : wr v0 = v0) {σ : st_S} (h : B_J0_isLatin1_aae02_18 Q v0 σ) : J X E 1 n0 0 0 (MQ (xB X) (qI E (n0 + 0) Q) (xA X) (xS X) 0 0 (eF E)) σ 18 [] [vI v0] := by
  have hh1 : 1 ≤ hN := by omega
  replace h : (v0 = 0 ∨ v0 = 1) ∧ Q v0 σ := h
  exact j_zret hc hr (nar_bool h.1) (by rcases h.1 with e | e <;> (rw [e]; decide)) h.2 dJ0_isLatin1_aae02_18
set_option maxRecDepth 20000 in
theorem jb_J0_isLatin1_aae02_17 {X : jj_X} {E : ev_E} {n0 hN : Nat} (hc : Cx X E cJ0_isLatin1_aae02 1 n0 hN RJ0) (hr : (xT X).sig.returnType = (some .boolean)) (hh : 1 ≤ hN) {Q : Int → st_S → Prop} {σ : st_S} (h : B_J0_isLatin1_aae02_17 Q σ) : J X E 1 n0 0 0 (MQ (xB X) (qI E (n0 + 0) Q) (xA X) (xS X) 0 0 (eF E)) σ 17 [] [] := by
  have hh1 : 1 ≤ hN := by omega
  replace h : B_J0_isLatin1_aae02_18 Q 0 σ := h
  refine j_iconst hc dJ0_isLatin1_aae02_17 ?_
  refine j_sub (lv' := []) [] rfl ?_
  exact jb_J0_isLatin1_aae02_18 hc hr hh (wlit 0 (by decide)) h
set_option maxRecDepth 20000 in
theorem c_J0_isLatin1_aae02 {l : Launch} {E : ev_E} (hE : Eok E) {t : Nat} {σ : st_S} {Q : Int → st_S → Prop} (h : wp_J0_isLatin1_aae02 t σ Q) : cM l yJ0_isLatin1_aae02 cJ0_isLatin1_aae02 1 (some .boolean) E 1 0 0 [vS E t] σ (qI E (gN σ + 0) Q) := by
  refine cM_of (lv := [(0, vS E t)]) (by decide) hE (Nat.le_of_ble_eq_true rfl) (rfl) ?_
  intro X hX hc _ _ hr _ _
  subst hX
  have hh : 1 ≤ 1 := Nat.le_refl _
  have hh1 : 1 ≤ 1 := by omega
  replace h : ((1 : Int) = 0 → B_J0_isLatin1_aae02_17 Q σ) ∧ (¬ (1 : Int) = 0 → t < sNum ∧ (¬ (0 : Int) = 0 → B_J0_isLatin1_aae02_17 Q σ) ∧ ((0 : Int) = 0 → B_J0_isLatin1_aae02_18 Q 1 σ)) := h
  refine j_getC hc gl_RJ0_38 dJ0_isLatin1_aae02_0 ?_
  refine j_if_eq hc (wlit 1 (by decide)) (tgt := 17) dJ0_isLatin1_aae02_3 (by decide) (fun q4 => ?_) (fun q4 => ?_)
  · replace h := h.1 q4
    refine j_sub (lv' := []) [] rfl ?_
    exact jb_J0_isLatin1_aae02_17 hc hr hh h
  · replace h := h.2 q4
    refine j_aload_nS hc 0 dJ0_isLatin1_aae02_6 rfl rfl ?_
    obtain ⟨b2, h⟩ := h
    refine j_scod hc gl_RJ0_15 b2 dJ0_isLatin1_aae02_7 ?_
    refine j_if_ne hc (wlit 0 (by decide)) (tgt := 17) dJ0_isLatin1_aae02_10 (by decide) (fun q3 => ?_) (fun q3 => ?_)
    · replace h := h.1 q3
      refine j_sub (lv' := []) [] rfl ?_
      exact jb_J0_isLatin1_aae02_17 hc hr hh h
    · replace h := h.2 q3
      refine j_iconst hc dJ0_isLatin1_aae02_13 ?_
      refine j_goto (tgt := 18) hc dJ0_isLatin1_aae02_14 (by decide) ?_
      refine j_sub (lv' := []) [] rfl ?_
      exact jb_J0_isLatin1_aae02_18 hc hr hh (wlit 1 (by decide)) h
-- jdk/internal/util/Preconditions.checkIndex(IILjava/util/function/BiFunction;)I
theorem dJ3_checkIndex_8e157_0 : decode cJ3_checkIndex_8e157 0 = .ok (.iload_n 0, 1) := by decide +kernel
theorem dJ3_checkIndex_8e157_1 : decode cJ3_checkIndex_8e157 1 = .ok (.ifCond .lt 8, 3) := by decide +kernel
theorem dJ3_checkIndex_8e157_4 : decode cJ3_checkIndex_8e157 4 = .ok (.iload_n 0, 1) := by decide +kernel
theorem dJ3_checkIndex_8e157_5 : decode cJ3_checkIndex_8e157 5 = .ok (.iload_n 1, 1) := by decide +kernel
theorem dJ3_checkIndex_8e157_6 : decode cJ3_checkIndex_8e157 6 = .ok (.if_icmp .lt 10, 3) := by decide +kernel
theorem dJ3_checkIndex_8e157_9 : decode cJ3_checkIndex_8e157 9 = .ok (.aload_n 2, 1) := by decide +kernel
theorem dJ3_checkIndex_8e157_10 : decode cJ3_checkIndex_8e157 10 = .ok (.iload_n 0, 1) := by decide +kernel
theorem dJ3_checkIndex_8e157_11 : decode cJ3_checkIndex_8e157 11 = .ok (.iload_n 1, 1) := by decide +kernel
theorem dJ3_checkIndex_8e157_12 : decode cJ3_checkIndex_8e157 12 = .ok (.invokestatic 95, 3) := by decide +kernel
theorem dJ3_checkIndex_8e157_15 : decode cJ3_checkIndex_8e157 15 = .ok (.athrow, 1) := by decide +kernel
theorem dJ3_checkIndex_8e157_16 : decode cJ3_checkIndex_8e157 16 = .ok (.iload_n 0, 1) := by decide +kernel
theorem dJ3_checkIndex_8e157_17 : decode cJ3_checkIndex_8e157 17 = .ok (.ireturn, 1) := by decide +kernel
def B_J3_checkIndex_8e157_9 (Q : Int → st_S → Prop)   (l0 : Int) (l1 : Int) (l2 : (Option Nat)) (σ : st_S) : Prop := False
def wp_J3_checkIndex_8e157 (a1 : Int) (a2 : Int) (a3 : (Option Nat)) (σ : st_S) (Q : Int → st_S → Prop) : Prop := (a1 < 0 → B_J3_checkIndex_8e157_9 Q a1 a2 a3 σ) ∧ (¬ a1 < 0 → (a1 < a2 → Q a1 σ) ∧ (¬ a1 < a2 → B_J3_checkIndex_8e157_9 Q a1 a2 a3 σ))
set_option maxRecDepth 20000 in
theorem jb_J3_checkIndex_8e157_9 {X : jj_X} {E : ev_E} {n0 hN : Nat} (hc : Cx X E cJ3_checkIndex_8e157 3 n0 hN RJ3) (hr : (xT X).sig.returnType = (some .int)) (hh : 1 ≤ hN) {Q : Int → st_S → Prop} {l0 : Int} {l1 : Int} {l2 : (Option Nat)} (cl0 : wr l0 = l0) (cl1 : wr l1 = l1) {σ : st_S} (h : B_J3_checkIndex_8e157_9 Q l0 l1 l2 σ) : J X E 3 n0 0 0 (MQ (xB X) (qI E (n0 + 0) Q) (xA X) (xS X) 0 0 (eF E)) σ 9 [(0, vI l0), (1, vI l1), (2, va_rf l2)] [] := by
  have hh1 : 1 ≤ hN := by omega
  replace h : False := h
  exact h.elim
set_option maxRecDepth 20000 in
theorem c_J3_checkIndex_8e157 {l : Launch} {E : ev_E} (hE : Eok E) {a1 : Int} {a2 : Int} {a3 : (Option Nat)} (ca1 : wr a1 = a1) (ca2 : wr a2 = a2) {σ : st_S} {Q : Int → st_S → Prop} (h : wp_J3_checkIndex_8e157 a1 a2 a3 σ Q) : cM l yJ3_checkIndex_8e157 cJ3_checkIndex_8e157 3 (some .int) E 1 0 0 [vI a1, vI a2, va_rf a3] σ (qI E (gN σ + 0) Q) := by
  refine cM_of (lv := [(0, vI a1), (1, vI a2), (2, va_rf a3)]) (by decide) hE (by cases a3 <;> exact Nat.le_of_ble_eq_true rfl) (by cases a3 <;> exact rfl) ?_
  intro X hX hc _ _ hr _ _
  subst hX
  have hh : 1 ≤ 1 := Nat.le_refl _
  have hh1 : 1 ≤ 1 := by omega
  replace h : (a1 < 0 → B_J3_checkIndex_8e157_9 Q a1 a2 a3 σ) ∧ (¬ a1 < 0 → (a1 < a2 → Q a1 σ) ∧ (¬ a1 < a2 → B_J3_checkIndex_8e157_9 Q a1 a2 a3 σ)) := h
  refine j_iload_n hc 0 dJ3_checkIndex_8e157_0 rfl rfl ?_
  refine j_if_lt hc ca1 (tgt := 9) dJ3_checkIndex_8e157_1 (by decide) (fun q2 => ?_) (fun q2 => ?_)
  · replace h := h.1 q2
    refine j_sub (lv' := [(0, vI a1), (1, vI a2), (2, va_rf a3)]) [0, 1, 2] rfl ?_
    exact jb_J3_checkIndex_8e157_9 hc hr hh ca1 ca2 h
  · replace h := h.2 q2
    refine j_iload_n hc 0 dJ3_checkIndex_8e157_4 rfl rfl ?_
    refine j_iload_n hc 1 dJ3_checkIndex_8e157_5 rfl rfl ?_
    refine j_ic_lt hc ca1 ca2 (tgt := 16) dJ3_checkIndex_8e157_6 (by decide) (fun q1 => ?_) (fun q1 => ?_)
    · replace h := h.1 q1
      refine j_iload_n hc 0 dJ3_checkIndex_8e157_16 rfl rfl ?_
      exact j_iret hc hr ca1 h dJ3_checkIndex_8e157_17
    · replace h := h.2 q1
      refine j_sub (lv' := [(0, vI a1), (1, vI a2), (2, va_rf a3)]) [0, 1, 2] rfl ?_
      exact jb_J3_checkIndex_8e157_9 hc hr hh ca1 ca2 h
-- java/lang/String.checkIndex(II)V
theorem dJ0_checkIndex_df160_0 : decode cJ0_checkIndex_df160 0 = .ok (.iload_n 0, 1) := by decide +kernel
theorem dJ0_checkIndex_df160_1 : decode cJ0_checkIndex_df160 1 = .ok (.iload_n 1, 1) := by decide +kernel
theorem dJ0_checkIndex_df160_2 : decode cJ0_checkIndex_df160 2 = .ok (.getstatic 1053, 3) := by decide +kernel
theorem dJ0_checkIndex_df160_5 : decode cJ0_checkIndex_df160 5 = .ok (.invokestatic 1059, 3) := by decide +kernel
theorem dJ0_checkIndex_df160_8 : decode cJ0_checkIndex_df160 8 = .ok (.pop, 1) := by decide +kernel
theorem dJ0_checkIndex_df160_9 : decode cJ0_checkIndex_df160 9 = .ok (.return_, 1) := by decide +kernel
def wp_J0_checkIndex_df160 (a1 : Int) (a2 : Int) (σ : st_S) (Q : st_S → Prop) : Prop := ∀ f4 : Option Nat, wp_J3_checkIndex_8e157 a1 a2 f4 σ (fun r5 s6 => Q s6)
set_option maxRecDepth 20000 in
theorem c_J0_checkIndex_df160 {l : Launch} {E : ev_E} (hE : Eok E) {a1 : Int} {a2 : Int} (ca1 : wr a1 = a1) (ca2 : wr a2 = a2) {σ : st_S} {Q : st_S → Prop} (h : wp_J0_checkIndex_df160 a1 a2 σ Q) : cM l yJ0_checkIndex_df160 cJ0_checkIndex_df160 2 none E 2 0 0 [vI a1, vI a2] σ (qV E (gN σ + 0) Q) := by
  refine cM_of (lv := [(0, vI a1), (1, vI a2)]) (by decide) hE (Nat.le_of_ble_eq_true rfl) (rfl) ?_
  intro X hX hc _ _ hr _ _
  subst hX
  have hh : 2 ≤ 2 := Nat.le_refl _
  have hh1 : 1 ≤ 2 := by omega
  replace h : ∀ f4 : Option Nat, wp_J3_checkIndex_8e157 a1 a2 f4 σ (fun r5 s6 => Q s6) := h
  refine j_iload_n hc 0 dJ0_checkIndex_df160_0 rfl rfl ?_
  refine j_iload_n hc 1 dJ0_checkIndex_df160_1 rfl rfl ?_
  refine j_getFm hc gl_RJ0_1053 dJ0_checkIndex_df160_2 (fun f4 => ?_)
  replace h := h f4
  refine j_sI hc ml_RJ0_1059 mv_J3_checkIndex_8e157 (As := [vI a1, vI a2, va_rf f4]) (c_J3_checkIndex_8e157 (cx_E hc) ca1 ca2 h) rfl (by omega) (by decide) ⟨Nat.zero_le _, Nat.zero_le _⟩ (Nat.le_of_ble_eq_true rfl) rfl dJ0_checkIndex_df160_5 (fun r5 s6 cr5 h => ?_)
  refine j_pop hc dJ0_checkIndex_df160_8 rfl ?_
  exact j_vret hc hr h dJ0_checkIndex_df160_9
-- java/lang/StringLatin1.charAt([BI)C
theorem dJ1_charAt_3b067_0 : decode cJ1_charAt_3b067 0 = .ok (.iload_n 1, 1) := by decide +kernel
theorem dJ1_charAt_3b067_1 : decode cJ1_charAt_3b067 1 = .ok (.aload_n 0, 1) := by decide +kernel
theorem dJ1_charAt_3b067_2 : decode cJ1_charAt_3b067 2 = .ok (.arraylength, 1) := by decide +kernel
theorem dJ1_charAt_3b067_3 : decode cJ1_charAt_3b067 3 = .ok (.invokestatic 9, 3) := by decide +kernel
theorem dJ1_charAt_3b067_6 : decode cJ1_charAt_3b067 6 = .ok (.aload_n 0, 1) := by decide +kernel
theorem dJ1_charAt_3b067_7 : decode cJ1_charAt_3b067 7 = .ok (.iload_n 1, 1) := by decide +kernel
theorem dJ1_charAt_3b067_8 : decode cJ1_charAt_3b067 8 = .ok (.baload, 1) := by decide +kernel
theorem dJ1_charAt_3b067_9 : decode cJ1_charAt_3b067 9 = .ok (.sipush 255, 3) := by decide +kernel
theorem dJ1_charAt_3b067_12 : decode cJ1_charAt_3b067 12 = .ok (.iand, 1) := by decide +kernel
theorem dJ1_charAt_3b067_13 : decode cJ1_charAt_3b067 13 = .ok (.i2c, 1) := by decide +kernel
theorem dJ1_charAt_3b067_14 : decode cJ1_charAt_3b067 14 = .ok (.ireturn, 1) := by decide +kernel
def wp_J1_charAt_3b067 (a1 : Nat) (a2 : Int) (σ : st_S) (Q : Int → st_S → Prop) : Prop := a1 < sNum ∧ wp_J0_checkIndex_df160 a2 (sLn a1) σ (fun s10 => (a1 < sNum ∧ ix a2 (sLen.getD a1 0)) ∧ Q (o_i2c (o_and (sBy a1 (Int.toNat a2)) 255)) s10)
set_option maxRecDepth 20000 in
theorem c_J1_charAt_3b067 {l : Launch} {E : ev_E} (hE : Eok E) {a1 : Nat} {a2 : Int} (ca2 : wr a2 = a2) {σ : st_S} {Q : Int → st_S → Prop} (h : wp_J1_charAt_3b067 a1 a2 σ Q) : cM l yJ1_charAt_3b067 cJ1_charAt_3b067 2 (some .char) E 3 0 0 [vV E a1, vI a2] σ (qI E (gN σ + 0) Q) := by
  refine cM_of (lv := [(0, vV E a1), (1, vI a2)]) (by decide) hE (Nat.le_of_ble_eq_true rfl) (rfl) ?_
  intro X hX hc _ _ hr _ _
  subst hX
  have hh : 3 ≤ 3 := Nat.le_refl _
  have hh1 : 1 ≤ 3 := by omega
  replace h : a1 < sNum ∧ wp_J0_checkIndex_df160 a2 (sLn a1) σ (fun s10 => (a1 < sNum ∧ ix a2 (sLen.getD a1 0)) ∧ Q (o_i2c (o_and (sBy a1 (Int.toNat a2)) 255)) s10) := h
  refine j_iload_n hc 1 dJ1_charAt_3b067_0 rfl rfl ?_
  refine j_aload_nV hc 0 dJ1_charAt_3b067_1 rfl rfl ?_
  obtain ⟨b7, h⟩ := h
  refine j_vlen hc b7 dJ1_charAt_3b067_2 (fun cn8 => ?_)
  refine j_sV hc ml_RJ1_9 mv_J0_checkIndex_df160 (As := [vI a2, vI (sLn a1)]) (c_J0_checkIndex_df160 (cx_E hc) ca2 cn8 h) rfl (by omega) (by decide) ⟨Nat.zero_le _, Nat.zero_le _⟩ (Nat.le_of_ble_eq_true rfl) rfl dJ1_charAt_3b067_3 (fun s10 h => ?_)
  refine j_aload_nV hc 0 dJ1_charAt_3b067_6 rfl rfl ?_
  refine j_iload_n hc 1 dJ1_charAt_3b067_7 rfl rfl ?_
  obtain ⟨b11, h⟩ := h
  refine j_vald hc b11.1 ca2 b11.2 dJ1_charAt_3b067_8 (fun cn12 => ?_)
  refine j_sipush hc dJ1_charAt_3b067_9 (by decide) ?_
  refine j_iand hc dJ1_charAt_3b067_12 ?_
  refine j_i2c hc dJ1_charAt_3b067_13 ?_
  exact j_zret hc hr (nar_i2c _) (cn_i2c _) h dJ1_charAt_3b067_14
-- java/lang/String.charAt(I)C
theorem dJ0_charAt_5068e_0 : decode cJ0_charAt_5068e 0 = .ok (.aload_n 0, 1) := by decide +kernel
theorem dJ0_charAt_5068e_1 : decode cJ0_charAt_5068e 1 = .ok (.invokevirtual 492, 3) := by decide +kernel
theorem dJ0_charAt_5068e_4 : decode cJ0_charAt_5068e 4 = .ok (.ifCond .eq 12, 3) := by decide +kernel
theorem dJ0_charAt_5068e_7 : decode cJ0_charAt_5068e 7 = .ok (.aload_n 0, 1) := by decide +kernel
theorem dJ0_charAt_5068e_8 : decode cJ0_charAt_5068e 8 = .ok (.getfield 9, 3) := by decide +kernel
theorem dJ0_charAt_5068e_11 : decode cJ0_charAt_5068e 11 = .ok (.iload_n 1, 1) := by decide +kernel
theorem dJ0_charAt_5068e_12 : decode cJ0_charAt_5068e 12 = .ok (.invokestatic 495, 3) := by decide +kernel
theorem dJ0_charAt_5068e_15 : decode cJ0_charAt_5068e 15 = .ok (.ireturn, 1) := by decide +kernel
theorem dJ0_charAt_5068e_16 : decode cJ0_charAt_5068e 16 = .ok (.aload_n 0, 1) := by decide +kernel
theorem dJ0_charAt_5068e_17 : decode cJ0_charAt_5068e 17 = .ok (.getfield 9, 3) := by decide +kernel
theorem dJ0_charAt_5068e_20 : decode cJ0_charAt_5068e 20 = .ok (.iload_n 1, 1) := by decide +kernel
theorem dJ0_charAt_5068e_21 : decode cJ0_charAt_5068e 21 = .ok (.invokestatic 498, 3) := by decide +kernel
theorem dJ0_charAt_5068e_24 : decode cJ0_charAt_5068e 24 = .ok (.ireturn, 1) := by decide +kernel
def wp_J0_charAt_5068e (t : Nat) (a1 : Int) (σ : st_S) (Q : Int → st_S → Prop) : Prop := t < sNum ∧ wp_J0_isLatin1_aae02 t σ (fun r7 s8 => (r7 = 0 → t < sNum ∧ False) ∧ (¬ r7 = 0 → t < sNum ∧ wp_J1_charAt_3b067 t a1 s8 (fun r12 s13 => (0 ≤ r12 ∧ r12 < 65536) ∧ Q r12 s13)))
set_option maxRecDepth 20000 in
theorem c_J0_charAt_5068e {l : Launch} {E : ev_E} (hE : Eok E) {t : Nat} {a1 : Int} (ca1 : wr a1 = a1) {σ : st_S} {Q : Int → st_S → Prop} (h : wp_J0_charAt_5068e t a1 σ Q) : cM l yJ0_charAt_5068e cJ0_charAt_5068e 2 (some .char) E 4 0 0 [vS E t, vI a1] σ (qI E (gN σ + 0) Q) := by
  refine cM_of (lv := [(0, vS E t), (1, vI a1)]) (by decide) hE (Nat.le_of_ble_eq_true rfl) (rfl) ?_
  intro X hX hc _ _ hr _ _
  subst hX
  have hh : 4 ≤ 4 := Nat.le_refl _
  have hh1 : 1 ≤ 4 := by omega
  replace h : t < sNum ∧ wp_J0_isLatin1_aae02 t σ (fun r7 s8 => (r7 = 0 → t < sNum ∧ False) ∧ (¬ r7 = 0 → t < sNum ∧ wp_J1_charAt_3b067 t a1 s8 (fun r12 s13 => (0 ≤ r12 ∧ r12 < 65536) ∧ Q r12 s13))) := h
  refine j_aload_nS hc 0 dJ0_charAt_5068e_0 rfl rfl ?_
  obtain ⟨b9, h⟩ := h
  refine j_wI hc b9 ml_RJ0_492 mv_J0_isLatin1_aae02 (As := []) (c_J0_isLatin1_aae02 (cx_E hc)  h) rfl (by omega) (by decide) ⟨Nat.zero_le _, Nat.zero_le _⟩ (Nat.le_of_ble_eq_true rfl) rfl dJ0_charAt_5068e_1 (fun r7 s8 cr7 h => ?_)
  refine j_if_eq hc cr7 (tgt := 16) dJ0_charAt_5068e_4 (by decide) (fun q14 => ?_) (fun q14 => ?_)
  · replace h := h.1 q14
    refine j_aload_nS hc 0 dJ0_charAt_5068e_16 rfl rfl ?_
    obtain ⟨b10, h⟩ := h
    refine j_sval hc gl_RJ0_9 b10 dJ0_charAt_5068e_17 ?_
    refine j_iload_n hc 1 dJ0_charAt_5068e_20 rfl rfl ?_
    exact h.elim
  · replace h := h.2 q14
    refine j_aload_nS hc 0 dJ0_charAt_5068e_7 rfl rfl ?_
    obtain ⟨b11, h⟩ := h
    refine j_sval hc gl_RJ0_9 b11 dJ0_charAt_5068e_8 ?_
    refine j_iload_n hc 1 dJ0_charAt_5068e_11 rfl rfl ?_
    refine j_sI hc ml_RJ0_495 mv_J1_charAt_3b067 (As := [vV E t, vI a1]) (c_J1_charAt_3b067 (cx_E hc) ca1 h) rfl (by omega) (by decide) ⟨Nat.zero_le _, Nat.zero_le _⟩ (Nat.le_of_ble_eq_true rfl) rfl dJ0_charAt_5068e_12 (fun r12 s13 cr12 h => ?_)
    exact j_zret hc hr (nar_char h.1) cr12 h.2 dJ0_charAt_5068e_15
-- java/lang/StringLatin1.canEncode(I)Z
theorem dJ1_canEncode_9a6ad_0 : decode cJ1_canEncode_9a6ad 0 = .ok (.iload_n 0, 1) := by decide +kernel
theorem dJ1_canEncode_9a6ad_1 : decode cJ1_canEncode_9a6ad 1 = .ok (.ifCond .lt 14, 3) := by decide +kernel
theorem dJ1_canEncode_9a6ad_4 : decode cJ1_canEncode_9a6ad 4 = .ok (.iload_n 0, 1) := by decide +kernel
theorem dJ1_canEncode_9a6ad_5 : decode cJ1_canEncode_9a6ad 5 = .ok (.sipush 255, 3) := by decide +kernel
theorem dJ1_canEncode_9a6ad_8 : decode cJ1_canEncode_9a6ad 8 = .ok (.if_icmp .gt 7, 3) := by decide +kernel
theorem dJ1_canEncode_9a6ad_11 : decode cJ1_canEncode_9a6ad 11 = .ok (.iconst 1, 1) := by decide +kernel
theorem dJ1_canEncode_9a6ad_12 : decode cJ1_canEncode_9a6ad 12 = .ok (.goto 4, 3) := by decide +kernel
theorem dJ1_canEncode_9a6ad_15 : decode cJ1_canEncode_9a6ad 15 = .ok (.iconst 0, 1) := by decide +kernel
theorem dJ1_canEncode_9a6ad_16 : decode cJ1_canEncode_9a6ad 16 = .ok (.ireturn, 1) := by decide +kernel
def B_J1_canEncode_9a6ad_16 (Q : Int → st_S → Prop)   (v0 : Int) (σ : st_S) : Prop := (v0 = 0 ∨ v0 = 1) ∧ Q v0 σ
def B_J1_canEncode_9a6ad_15 (Q : Int → st_S → Prop)    (σ : st_S) : Prop := B_J1_canEncode_9a6ad_16 Q 0 σ
def wp_J1_canEncode_9a6ad (a1 : Int) (σ : st_S) (Q : Int → st_S → Prop) : Prop := (a1 < 0 → B_J1_canEncode_9a6ad_15 Q σ) ∧ (¬ a1 < 0 → (255 < a1 → B_J1_canEncode_9a6ad_15 Q σ) ∧ (¬ 255 < a1 → B_J1_canEncode_9a6ad_16 Q 1 σ))
set_option maxRecDepth 20000 in
theorem jb_J1_canEncode_9a6ad_16 {X : jj_X} {E : ev_E} {n0 hN : Nat} (hc : Cx X E cJ1_canEncode_9a6ad 1 n0 hN RJ1) (hr : (xT X).sig.returnType = (some .boolean)) (hh : 1 ≤ hN) {Q : Int → st_S → Prop} {v0 : Int} (cv0 : wr v0 = v0) {σ : st_S} (h : B_J1_canEncode_9a6ad_16 Q v0 σ) : J X E 1 n0 0 0 (MQ (xB X) (qI E (n0 + 0) Q) (xA X) (xS X) 0 0 (eF E)) σ 16 [] [vI v0] := by
  have hh1 : 1 ≤ hN := by omega
  replace h : (v0 = 0 ∨ v0 = 1) ∧ Q v0 σ := h
  exact j_zret hc hr (nar_bool h.1) (by rcases h.1 with e | e <;> (rw [e]; decide)) h.2 dJ1_canEncode_9a6ad_16
set_option maxRecDepth 20000 in
theorem jb_J1_canEncode_9a6ad_15 {X : jj_X} {E : ev_E} {n0 hN : Nat} (hc : Cx X E cJ1_canEncode_9a6ad 1 n0 hN RJ1) (hr : (xT X).sig.returnType = (some .boolean)) (hh : 1 ≤ hN) {Q : Int → st_S → Prop} {σ : st_S} (h : B_J1_canEncode_9a6ad_15 Q σ) : J X E 1 n0 0 0 (MQ (xB X) (qI E (n0 + 0) Q) (xA X) (xS X) 0 0 (eF E)) σ 15 [] [] := by
  have hh1 : 1 ≤ hN := by omega
  replace h : B_J1_canEncode_9a6ad_16 Q 0 σ := h
  refine j_iconst hc dJ1_canEncode_9a6ad_15 ?_
  refine j_sub (lv' := []) [] rfl ?_
  exact jb_J1_canEncode_9a6ad_16 hc hr hh (wlit 0 (by decide)) h
set_option maxRecDepth 20000 in
theorem c_J1_canEncode_9a6ad {l : Launch} {E : ev_E} (hE : Eok E) {a1 : Int} (ca1 : wr a1 = a1) {σ : st_S} {Q : Int → st_S → Prop} (h : wp_J1_canEncode_9a6ad a1 σ Q) : cM l yJ1_canEncode_9a6ad cJ1_canEncode_9a6ad 1 (some .boolean) E 1 0 0 [vI a1] σ (qI E (gN σ + 0) Q) := by
  refine cM_of (lv := [(0, vI a1)]) (by decide) hE (Nat.le_of_ble_eq_true rfl) (rfl) ?_
  intro X hX hc _ _ hr _ _
  subst hX
  have hh : 1 ≤ 1 := Nat.le_refl _
  have hh1 : 1 ≤ 1 := by omega
  replace h : (a1 < 0 → B_J1_canEncode_9a6ad_15 Q σ) ∧ (¬ a1 < 0 → (255 < a1 → B_J1_canEncode_9a6ad_15 Q σ) ∧ (¬ 255 < a1 → B_J1_canEncode_9a6ad_16 Q 1 σ)) := h
  refine j_iload_n hc 0 dJ1_canEncode_9a6ad_0 rfl rfl ?_
  refine j_if_lt hc ca1 (tgt := 15) dJ1_canEncode_9a6ad_1 (by decide) (fun q2 => ?_) (fun q2 => ?_)
  · replace h := h.1 q2
    refine j_sub (lv' := []) [] rfl ?_
    exact jb_J1_canEncode_9a6ad_15 hc hr hh h
  · replace h := h.2 q2
    refine j_iload_n hc 0 dJ1_canEncode_9a6ad_4 rfl rfl ?_
    refine j_sipush hc dJ1_canEncode_9a6ad_5 (by decide) ?_
    refine j_ic_gt hc ca1 (wlit 255 (by decide)) (tgt := 15) dJ1_canEncode_9a6ad_8 (by decide) (fun q1 => ?_) (fun q1 => ?_)
    · replace h := h.1 q1
      refine j_sub (lv' := []) [] rfl ?_
      exact jb_J1_canEncode_9a6ad_15 hc hr hh h
    · replace h := h.2 q1
      refine j_iconst hc dJ1_canEncode_9a6ad_11 ?_
      refine j_goto (tgt := 16) hc dJ1_canEncode_9a6ad_12 (by decide) ?_
      refine j_sub (lv' := []) [] rfl ?_
      exact jb_J1_canEncode_9a6ad_16 hc hr hh (wlit 1 (by decide)) h
-- java/lang/StringLatin1.indexOfChar([BIII)I
theorem dJ1_indexOfChar_4cfef_0 : decode cJ1_indexOfChar_4cfef 0 = .ok (.iload_n 1, 1) := by decide +kernel
theorem dJ1_indexOfChar_4cfef_1 : decode cJ1_indexOfChar_4cfef 1 = .ok (.i2b, 1) := by decide +kernel
theorem dJ1_indexOfChar_4cfef_2 : decode cJ1_indexOfChar_4cfef 2 = .ok (.istore 4, 2) := by decide +kernel
theorem dJ1_indexOfChar_4cfef_4 : decode cJ1_indexOfChar_4cfef 4 = .ok (.iload_n 2, 1) := by decide +kernel
theorem dJ1_indexOfChar_4cfef_5 : decode cJ1_indexOfChar_4cfef 5 = .ok (.istore 5, 2) := by decide +kernel
theorem dJ1_indexOfChar_4cfef_7 : decode cJ1_indexOfChar_4cfef 7 = .ok (.iload 5, 2) := by decide +kernel
theorem dJ1_indexOfChar_4cfef_9 : decode cJ1_indexOfChar_4cfef 9 = .ok (.iload_n 3, 1) := by decide +kernel
theorem dJ1_indexOfChar_4cfef_10 : decode cJ1_indexOfChar_4cfef 10 = .ok (.if_icmp .ge 21, 3) := by decide +kernel
theorem dJ1_indexOfChar_4cfef_13 : decode cJ1_indexOfChar_4cfef 13 = .ok (.aload_n 0, 1) := by decide +kernel
theorem dJ1_indexOfChar_4cfef_14 : decode cJ1_indexOfChar_4cfef 14 = .ok (.iload 5, 2) := by decide +kernel
theorem dJ1_indexOfChar_4cfef_16 : decode cJ1_indexOfChar_4cfef 16 = .ok (.baload, 1) := by decide +kernel
theorem dJ1_indexOfChar_4cfef_17 : decode cJ1_indexOfChar_4cfef 17 = .ok (.iload 4, 2) := by decide +kernel
theorem dJ1_indexOfChar_4cfef_19 : decode cJ1_indexOfChar_4cfef 19 = .ok (.if_icmp .ne 6, 3) := by decide +kernel
theorem dJ1_indexOfChar_4cfef_22 : decode cJ1_indexOfChar_4cfef 22 = .ok (.iload 5, 2) := by decide +kernel
theorem dJ1_indexOfChar_4cfef_24 : decode cJ1_indexOfChar_4cfef 24 = .ok (.ireturn, 1) := by decide +kernel
theorem dJ1_indexOfChar_4cfef_25 : decode cJ1_indexOfChar_4cfef 25 = .ok (.iinc 5 1, 3) := by decide +kernel
theorem dJ1_indexOfChar_4cfef_28 : decode cJ1_indexOfChar_4cfef 28 = .ok (.goto (-21), 3) := by decide +kernel
theorem dJ1_indexOfChar_4cfef_31 : decode cJ1_indexOfChar_4cfef 31 = .ok (.iconst (-1), 1) := by decide +kernel
theorem dJ1_indexOfChar_4cfef_32 : decode cJ1_indexOfChar_4cfef 32 = .ok (.ireturn, 1) := by decide +kernel
def L_J1_indexOfChar_4cfef_7 (Q : Int → st_S → Prop)   : Nat → Nat → Int → Int → Int → st_S → Prop
  | 0 => fun _ _ _ _ _ => False
  | n + 1 => fun l0 l3 l4 l5 σ => (l3 ≤ l5 → Q (-1) σ) ∧ (¬ l3 ≤ l5 → (l0 < sNum ∧ ix l5 (sLen.getD l0 0)) ∧ (¬ sBy l0 (Int.toNat l5) = l4 → ∀ x8 : Int, x8 = wr (l5 + 1) → (L_J1_indexOfChar_4cfef_7 Q n) l0 l3 l4 x8 σ) ∧ (sBy l0 (Int.toNat l5) = l4 → Q l5 σ))
def wp_J1_indexOfChar_4cfef (a1 : Nat) (a2 : Int) (a3 : Int) (a4 : Int) (σ : st_S) (Q : Int → st_S → Prop) : Prop := ∀ x11 : Int, x11 = o_i2b a2 → ∃ m7 : Nat, L_J1_indexOfChar_4cfef_7 Q m7 a1 a4 x11 a3 σ
set_option maxRecDepth 20000 in
theorem jl_J1_indexOfChar_4cfef_7 {X : jj_X} {E : ev_E} {n0 hN : Nat} (hc : Cx X E cJ1_indexOfChar_4cfef 6 n0 hN RJ1) (hr : (xT X).sig.returnType = (some .int)) (hh : 1 ≤ hN) {Q : Int → st_S → Prop} : ∀ (n : Nat) {l0 : Nat} {l3 : Int} {l4 : Int} {l5 : Int} (cl3 : wr l3 = l3) (cl4 : wr l4 = l4) (cl5 : wr l5 = l5) {σ : st_S}, L_J1_indexOfChar_4cfef_7 Q n l0 l3 l4 l5 σ → J X E 6 n0 0 0 (MQ (xB X) (qI E (n0 + 0) Q) (xA X) (xS X) 0 0 (eF E)) σ 7 [(0, vV E l0), (3, vI l3), (4, vI l4), (5, vI l5)] [] := by
  have hh1 : 1 ≤ hN := by omega
  intro n
  induction n with
  | zero => intro l0 l3 l4 l5 cl3 cl4 cl5 σ h; exact h.elim
  | succ n ih =>
    intro l0 l3 l4 l5 cl3 cl4 cl5 σ h
    have hk7 : ∀ {l0 : Nat} {l3 : Int} {l4 : Int} {l5 : Int} (cl3 : wr l3 = l3) (cl4 : wr l4 = l4) (cl5 : wr l5 = l5) {σ : st_S}, L_J1_indexOfChar_4cfef_7 Q n l0 l3 l4 l5 σ → J X E 6 n0 0 0 (MQ (xB X) (qI E (n0 + 0) Q) (xA X) (xS X) 0 0 (eF E)) σ 7 [(0, vV E l0), (3, vI l3), (4, vI l4), (5, vI l5)] [] := ih
    replace h : (l3 ≤ l5 → Q (-1) σ) ∧ (¬ l3 ≤ l5 → (l0 < sNum ∧ ix l5 (sLen.getD l0 0)) ∧ (¬ sBy l0 (Int.toNat l5) = l4 → ∀ x8 : Int, x8 = wr (l5 + 1) → (L_J1_indexOfChar_4cfef_7 Q n) l0 l3 l4 x8 σ) ∧ (sBy l0 (Int.toNat l5) = l4 → Q l5 σ)) := h
    refine j_iload hc 3 dJ1_indexOfChar_4cfef_7 rfl ?_
    refine j_iload_n hc 1 dJ1_indexOfChar_4cfef_9 rfl rfl ?_
    refine j_ic_ge hc cl5 cl3 (tgt := 31) dJ1_indexOfChar_4cfef_10 (by decide) (fun q10 => ?_) (fun q10 => ?_)
    · replace h := h.1 q10
      refine j_iconst hc dJ1_indexOfChar_4cfef_31 ?_
      exact j_iret hc hr (wlit (-1) (by decide)) h dJ1_indexOfChar_4cfef_32
    · replace h := h.2 q10
      refine j_aload_nV hc 0 dJ1_indexOfChar_4cfef_13 rfl rfl ?_
      refine j_iload hc 3 dJ1_indexOfChar_4cfef_14 rfl ?_
      obtain ⟨b6, h⟩ := h
      refine j_vald hc b6.1 cl5 b6.2 dJ1_indexOfChar_4cfef_16 (fun cn7 => ?_)
      refine j_iload hc 2 dJ1_indexOfChar_4cfef_17 rfl ?_
      refine j_ic_ne hc cn7 cl4 (tgt := 25) dJ1_indexOfChar_4cfef_19 (by decide) (fun q9 => ?_) (fun q9 => ?_)
      · replace h := h.1 q9
        obtain ⟨x8, ex8⟩ : ∃ y : Int, y = wr (l5 + 1) := ⟨_, rfl⟩
        have cx8 : wr x8 = x8 := by rw [ex8]; exact wr_wr _
        replace h := h x8 ex8
        refine j_iinc (lv' := [(5, vI x8), (0, vV E l0), (3, vI l3), (4, vI l4)]) hc 3 dJ1_indexOfChar_4cfef_25 rfl (by decide) ex8 rfl ?_
        refine j_goto (tgt := 7) hc dJ1_indexOfChar_4cfef_28 (by decide) ?_
        refine j_sub (lv' := [(0, vV E l0), (3, vI l3), (4, vI l4), (5, vI x8)]) [1, 2, 3, 0] rfl ?_
        exact hk7 cl3 cl4 cx8 h
      · replace h := h.2 q9
        refine j_iload hc 3 dJ1_indexOfChar_4cfef_22 rfl ?_
        exact j_iret hc hr cl5 h dJ1_indexOfChar_4cfef_24
set_option maxRecDepth 20000 in
theorem c_J1_indexOfChar_4cfef {l : Launch} {E : ev_E} (hE : Eok E) {a1 : Nat} {a2 : Int} {a3 : Int} {a4 : Int} (ca2 : wr a2 = a2) (ca3 : wr a3 = a3) (ca4 : wr a4 = a4) {σ : st_S} {Q : Int → st_S → Prop} (h : wp_J1_indexOfChar_4cfef a1 a2 a3 a4 σ Q) : cM l yJ1_indexOfChar_4cfef cJ1_indexOfChar_4cfef 6 (some .int) E 1 0 0 [vV E a1, vI a2, vI a3, vI a4] σ (qI E (gN σ + 0) Q) := by
  refine cM_of (lv := [(0, vV E a1), (1, vI a2), (2, vI a3), (3, vI a4)]) (by decide) hE (Nat.le_of_ble_eq_true rfl) (rfl) ?_
  intro X hX hc _ _ hr _ _
  subst hX
  have hh : 1 ≤ 1 := Nat.le_refl _
  have hh1 : 1 ≤ 1 := by omega
  replace h : ∀ x11 : Int, x11 = o_i2b a2 → ∃ m7 : Nat, L_J1_indexOfChar_4cfef_7 Q m7 a1 a4 x11 a3 σ := h
  refine j_iload_n hc 1 dJ1_indexOfChar_4cfef_0 rfl rfl ?_
  refine j_i2b hc dJ1_indexOfChar_4cfef_1 ?_
  refine j_c (cn_i2b _) (fun x11 ex11 cx11 => ?_)
  replace h := h x11 ex11
  refine j_istore (lv' := [(4, vI x11), (0, vV E a1), (1, vI a2), (2, vI a3), (3, vI a4)]) hc dJ1_indexOfChar_4cfef_2 (by decide) rfl ?_
  refine j_iload_n hc 3 dJ1_indexOfChar_4cfef_4 rfl rfl ?_
  refine j_istore (lv' := [(5, vI a3), (4, vI x11), (0, vV E a1), (1, vI a2), (2, vI a3), (3, vI a4)]) hc dJ1_indexOfChar_4cfef_5 (by decide) rfl ?_
  obtain ⟨n7, h⟩ := h
  refine j_sub (lv' := [(0, vV E a1), (3, vI a4), (4, vI x11), (5, vI a3)]) [2, 5, 1, 0] rfl ?_
  exact jl_J1_indexOfChar_4cfef_7 hc hr hh n7 ca4 cx11 ca3 h
-- java/lang/StringLatin1.indexOf([BIII)I
theorem dJ1_indexOf_4cfef_0 : decode cJ1_indexOf_4cfef 0 = .ok (.iload_n 1, 1) := by decide +kernel
theorem dJ1_indexOf_4cfef_1 : decode cJ1_indexOf_4cfef 1 = .ok (.invokestatic 88, 3) := by decide +kernel
theorem dJ1_indexOf_4cfef_4 : decode cJ1_indexOf_4cfef 4 = .ok (.ifCond .ne 5, 3) := by decide +kernel
theorem dJ1_indexOf_4cfef_7 : decode cJ1_indexOf_4cfef 7 = .ok (.iconst (-1), 1) := by decide +kernel
theorem dJ1_indexOf_4cfef_8 : decode cJ1_indexOf_4cfef 8 = .ok (.ireturn, 1) := by decide +kernel
theorem dJ1_indexOf_4cfef_9 : decode cJ1_indexOf_4cfef 9 = .ok (.iload_n 2, 1) := by decide +kernel
theorem dJ1_indexOf_4cfef_10 : decode cJ1_indexOf_4cfef 10 = .ok (.iconst 0, 1) := by decide +kernel
theorem dJ1_indexOf_4cfef_11 : decode cJ1_indexOf_4cfef 11 = .ok (.invokestatic 92, 3) := by decide +kernel
theorem dJ1_indexOf_4cfef_14 : decode cJ1_indexOf_4cfef 14 = .ok (.istore_n 2, 1) := by decide +kernel
theorem dJ1_indexOf_4cfef_15 : decode cJ1_indexOf_4cfef 15 = .ok (.iload_n 3, 1) := by decide +kernel
theorem dJ1_indexOf_4cfef_16 : decode cJ1_indexOf_4cfef 16 = .ok (.aload_n 0, 1) := by decide +kernel
theorem dJ1_indexOf_4cfef_17 : decode cJ1_indexOf_4cfef 17 = .ok (.arraylength, 1) := by decide +kernel
theorem dJ1_indexOf_4cfef_18 : decode cJ1_indexOf_4cfef 18 = .ok (.invokestatic 38, 3) := by decide +kernel
theorem dJ1_indexOf_4cfef_21 : decode cJ1_indexOf_4cfef 21 = .ok (.istore_n 3, 1) := by decide +kernel
theorem dJ1_indexOf_4cfef_22 : decode cJ1_indexOf_4cfef 22 = .ok (.iload_n 2, 1) := by decide +kernel
theorem dJ1_indexOf_4cfef_23 : decode cJ1_indexOf_4cfef 23 = .ok (.iload_n 3, 1) := by decide +kernel
theorem dJ1_indexOf_4cfef_24 : decode cJ1_indexOf_4cfef 24 = .ok (.if_icmp .lt 5, 3) := by decide +kernel
theorem dJ1_indexOf_4cfef_27 : decode cJ1_indexOf_4cfef 27 = .ok (.iconst (-1), 1) := by decide +kernel
theorem dJ1_indexOf_4cfef_28 : decode cJ1_indexOf_4cfef 28 = .ok (.ireturn, 1) := by decide +kernel
theorem dJ1_indexOf_4cfef_29 : decode cJ1_indexOf_4cfef 29 = .ok (.aload_n 0, 1) := by decide +kernel
theorem dJ1_indexOf_4cfef_30 : decode cJ1_indexOf_4cfef 30 = .ok (.iload_n 1, 1) := by decide +kernel
theorem dJ1_indexOf_4cfef_31 : decode cJ1_indexOf_4cfef 31 = .ok (.iload_n 2, 1) := by decide +kernel
theorem dJ1_indexOf_4cfef_32 : decode cJ1_indexOf_4cfef 32 = .ok (.iload_n 3, 1) := by decide +kernel
theorem dJ1_indexOf_4cfef_33 : decode cJ1_indexOf_4cfef 33 = .ok (.invokestatic 95, 3) := by decide +kernel
theorem dJ1_indexOf_4cfef_36 : decode cJ1_indexOf_4cfef 36 = .ok (.ireturn, 1) := by decide +kernel
def wp_J1_indexOf_4cfef (a1 : Nat) (a2 : Int) (a3 : Int) (a4 : Int) (σ : st_S) (Q : Int → st_S → Prop) : Prop := wp_J1_canEncode_9a6ad a2 σ (fun r11 s12 => (¬ r11 = 0 → ∀ x14 : Int, x14 = o_max a3 0 → a1 < sNum ∧ ∀ x18 : Int, x18 = o_min a4 (sLn a1) → (x14 < x18 → wp_J1_indexOfChar_4cfef a1 a2 x14 x18 s12 (fun r19 s20 => Q r19 s20)) ∧ (¬ x14 < x18 → Q (-1) s12)) ∧ (r11 = 0 → Q (-1) s12))
set_option maxRecDepth 20000 in
theorem c_J1_indexOf_4cfef {l : Launch} {E : ev_E} (hE : Eok E) {a1 : Nat} {a2 : Int} {a3 : Int} {a4 : Int} (ca2 : wr a2 = a2) (ca3 : wr a3 = a3) (ca4 : wr a4 = a4) {σ : st_S} {Q : Int → st_S → Prop} (h : wp_J1_indexOf_4cfef a1 a2 a3 a4 σ Q) : cM l yJ1_indexOf_4cfef cJ1_indexOf_4cfef 4 (some .int) E 2 0 0 [vV E a1, vI a2, vI a3, vI a4] σ (qI E (gN σ + 0) Q) := by
  refine cM_of (lv := [(0, vV E a1), (1, vI a2), (2, vI a3), (3, vI a4)]) (by decide) hE (Nat.le_of_ble_eq_true rfl) (rfl) ?_
  intro X hX hc _ _ hr _ _
  subst hX
  have hh : 2 ≤ 2 := Nat.le_refl _
  have hh1 : 1 ≤ 2 := by omega
  replace h : wp_J1_canEncode_9a6ad a2 σ (fun r11 s12 => (¬ r11 = 0 → ∀ x14 : Int, x14 = o_max a3 0 → a1 < sNum ∧ ∀ x18 : Int, x18 = o_min a4 (sLn a1) → (x14 < x18 → wp_J1_indexOfChar_4cfef a1 a2 x14 x18 s12 (fun r19 s20 => Q r19 s20)) ∧ (¬ x14 < x18 → Q (-1) s12)) ∧ (r11 = 0 → Q (-1) s12)) := h
  refine j_iload_n hc 1 dJ1_indexOf_4cfef_0 rfl rfl ?_
  refine j_sI hc ml_RJ1_88 mv_J1_canEncode_9a6ad (As := [vI a2]) (c_J1_canEncode_9a6ad (cx_E hc) ca2 h) rfl (by omega) (by decide) ⟨Nat.zero_le _, Nat.zero_le _⟩ (Nat.le_of_ble_eq_true rfl) rfl dJ1_indexOf_4cfef_1 (fun r11 s12 cr11 h => ?_)
  refine j_if_ne hc cr11 (tgt := 9) dJ1_indexOf_4cfef_4 (by decide) (fun q22 => ?_) (fun q22 => ?_)
  · replace h := h.1 q22
    refine j_iload_n hc 2 dJ1_indexOf_4cfef_9 rfl rfl ?_
    refine j_iconst hc dJ1_indexOf_4cfef_10 ?_
    refine j_mmax hc mm_RJ1_92 hh1 ca3 (wlit 0 (by decide)) (Nat.le_of_ble_eq_true rfl) ⟨Nat.zero_le _, Nat.zero_le _⟩ dJ1_indexOf_4cfef_11 (fun cn13 => ?_)
    refine j_c cn13 (fun x14 ex14 cx14 => ?_)
    replace h := h x14 ex14
    refine j_istore_n (lv' := [(2, vI x14), (0, vV E a1), (1, vI a2), (3, vI a4)]) hc dJ1_indexOf_4cfef_14 rfl (by decide) rfl ?_
    refine j_iload_n hc 3 dJ1_indexOf_4cfef_15 rfl rfl ?_
    refine j_aload_nV hc 1 dJ1_indexOf_4cfef_16 rfl rfl ?_
    obtain ⟨b15, h⟩ := h
    refine j_vlen hc b15 dJ1_indexOf_4cfef_17 (fun cn16 => ?_)
    refine j_mmin hc mm_RJ1_38 hh1 ca4 cn16 (Nat.le_of_ble_eq_true rfl) ⟨Nat.zero_le _, Nat.zero_le _⟩ dJ1_indexOf_4cfef_18 (fun cn17 => ?_)
    refine j_c cn17 (fun x18 ex18 cx18 => ?_)
    replace h := h x18 ex18
    refine j_istore_n (lv' := [(3, vI x18), (2, vI x14), (0, vV E a1), (1, vI a2)]) hc dJ1_indexOf_4cfef_21 rfl (by decide) rfl ?_
    refine j_iload_n hc 1 dJ1_indexOf_4cfef_22 rfl rfl ?_
    refine j_iload_n hc 0 dJ1_indexOf_4cfef_23 rfl rfl ?_
    refine j_ic_lt hc cx14 cx18 (tgt := 29) dJ1_indexOf_4cfef_24 (by decide) (fun q21 => ?_) (fun q21 => ?_)
    · replace h := h.1 q21
      refine j_aload_nV hc 2 dJ1_indexOf_4cfef_29 rfl rfl ?_
      refine j_iload_n hc 3 dJ1_indexOf_4cfef_30 rfl rfl ?_
      refine j_iload_n hc 1 dJ1_indexOf_4cfef_31 rfl rfl ?_
      refine j_iload_n hc 0 dJ1_indexOf_4cfef_32 rfl rfl ?_
      refine j_sI hc ml_RJ1_95 mv_J1_indexOfChar_4cfef (As := [vV E a1, vI a2, vI x14, vI x18]) (c_J1_indexOfChar_4cfef (cx_E hc) ca2 cx14 cx18 h) rfl (by omega) (by decide) ⟨Nat.zero_le _, Nat.zero_le _⟩ (Nat.le_of_ble_eq_true rfl) rfl dJ1_indexOf_4cfef_33 (fun r19 s20 cr19 h => ?_)
      exact j_iret hc hr cr19 h dJ1_indexOf_4cfef_36
    · replace h := h.2 q21
      refine j_iconst hc dJ1_indexOf_4cfef_27 ?_
      exact j_iret hc hr (wlit (-1) (by decide)) h dJ1_indexOf_4cfef_28
  · replace h := h.2 q22
    refine j_iconst hc dJ1_indexOf_4cfef_7 ?_
    exact j_iret hc hr (wlit (-1) (by decide)) h dJ1_indexOf_4cfef_8
-- java/lang/String.indexOf(II)I
theorem dJ0_indexOf_7cf53_0 : decode cJ0_indexOf_7cf53 0 = .ok (.aload_n 0, 1) := by decide +kernel
theorem dJ0_indexOf_7cf53_1 : decode cJ0_indexOf_7cf53 1 = .ok (.invokevirtual 492, 3) := by decide +kernel
theorem dJ0_indexOf_7cf53_4 : decode cJ0_indexOf_7cf53 4 = .ok (.ifCond .eq 19, 3) := by decide +kernel
theorem dJ0_indexOf_7cf53_7 : decode cJ0_indexOf_7cf53 7 = .ok (.aload_n 0, 1) := by decide +kernel
theorem dJ0_indexOf_7cf53_8 : decode cJ0_indexOf_7cf53 8 = .ok (.getfield 9, 3) := by decide +kernel
theorem dJ0_indexOf_7cf53_11 : decode cJ0_indexOf_7cf53 11 = .ok (.iload_n 1, 1) := by decide +kernel
theorem dJ0_indexOf_7cf53_12 : decode cJ0_indexOf_7cf53 12 = .ok (.iload_n 2, 1) := by decide +kernel
theorem dJ0_indexOf_7cf53_13 : decode cJ0_indexOf_7cf53 13 = .ok (.aload_n 0, 1) := by decide +kernel
theorem dJ0_indexOf_7cf53_14 : decode cJ0_indexOf_7cf53 14 = .ok (.invokevirtual 505, 3) := by decide +kernel
theorem dJ0_indexOf_7cf53_17 : decode cJ0_indexOf_7cf53 17 = .ok (.invokestatic 637, 3) := by decide +kernel
theorem dJ0_indexOf_7cf53_20 : decode cJ0_indexOf_7cf53 20 = .ok (.goto 16, 3) := by decide +kernel
theorem dJ0_indexOf_7cf53_23 : decode cJ0_indexOf_7cf53 23 = .ok (.aload_n 0, 1) := by decide +kernel
theorem dJ0_indexOf_7cf53_24 : decode cJ0_indexOf_7cf53 24 = .ok (.getfield 9, 3) := by decide +kernel
theorem dJ0_indexOf_7cf53_27 : decode cJ0_indexOf_7cf53 27 = .ok (.iload_n 1, 1) := by decide +kernel
theorem dJ0_indexOf_7cf53_28 : decode cJ0_indexOf_7cf53 28 = .ok (.iload_n 2, 1) := by decide +kernel
theorem dJ0_indexOf_7cf53_29 : decode cJ0_indexOf_7cf53 29 = .ok (.aload_n 0, 1) := by decide +kernel
theorem dJ0_indexOf_7cf53_30 : decode cJ0_indexOf_7cf53 30 = .ok (.invokevirtual 505, 3) := by decide +kernel
theorem dJ0_indexOf_7cf53_33 : decode cJ0_indexOf_7cf53 33 = .ok (.invokestatic 640, 3) := by decide +kernel
theorem dJ0_indexOf_7cf53_36 : decode cJ0_indexOf_7cf53 36 = .ok (.ireturn, 1) := by decide +kernel
def B_J0_indexOf_7cf53_36 (Q : Int → st_S → Prop)   (v0 : Int) (σ : st_S) : Prop := Q v0 σ
def wp_J0_indexOf_7cf53 (t : Nat) (a1 : Int) (a2 : Int) (σ : st_S) (Q : Int → st_S → Prop) : Prop := t < sNum ∧ wp_J0_isLatin1_aae02 t σ (fun r11 s12 => (r11 = 0 → t < sNum ∧ t < sNum ∧ wp_J0_length_8abf5 t s12 (fun r15 s16 => False)) ∧ (¬ r11 = 0 → t < sNum ∧ t < sNum ∧ wp_J0_length_8abf5 t s12 (fun r19 s20 => wp_J1_indexOf_4cfef t a1 a2 r19 s20 (fun r22 s23 => B_J0_indexOf_7cf53_36 Q r22 s23))))
set_option maxRecDepth 20000 in
theorem jb_J0_indexOf_7cf53_36 {X : jj_X} {E : ev_E} {n0 hN : Nat} (hc : Cx X E cJ0_indexOf_7cf53 3 n0 hN RJ0) (hr : (xT X).sig.returnType = (some .int)) (hh : 3 ≤ hN) {Q : Int → st_S → Prop} {v0 : Int} (cv0 : wr v0 = v0) {σ : st_S} (h : B_J0_indexOf_7cf53_36 Q v0 σ) : J X E 3 n0 0 0 (MQ (xB X) (qI E (n0 + 0) Q) (xA X) (xS X) 0 0 (eF E)) σ 36 [] [vI v0] := by
  have hh1 : 1 ≤ hN := by omega
  replace h : Q v0 σ := h
  exact j_iret hc hr cv0 h dJ0_indexOf_7cf53_36
set_option maxRecDepth 20000 in
theorem c_J0_indexOf_7cf53 {l : Launch} {E : ev_E} (hE : Eok E) {t : Nat} {a1 : Int} {a2 : Int} (ca1 : wr a1 = a1) (ca2 : wr a2 = a2) {σ : st_S} {Q : Int → st_S → Prop} (h : wp_J0_indexOf_7cf53 t a1 a2 σ Q) : cM l yJ0_indexOf_7cf53 cJ0_indexOf_7cf53 3 (some .int) E 3 0 0 [vS E t, vI a1, vI a2] σ (qI E (gN σ + 0) Q) := by
  refine cM_of (lv := [(0, vS E t), (1, vI a1), (2, vI a2)]) (by decide) hE (Nat.le_of_ble_eq_true rfl) (rfl) ?_
  intro X hX hc _ _ hr _ _
  subst hX
  have hh : 3 ≤ 3 := Nat.le_refl _
  have hh1 : 1 ≤ 3 := by omega
  replace h : t < sNum ∧ wp_J0_isLatin1_aae02 t σ (fun r11 s12 => (r11 = 0 → t < sNum ∧ t < sNum ∧ wp_J0_length_8abf5 t s12 (fun r15 s16 => False)) ∧ (¬ r11 = 0 → t < sNum ∧ t < sNum ∧ wp_J0_length_8abf5 t s12 (fun r19 s20 => wp_J1_indexOf_4cfef t a1 a2 r19 s20 (fun r22 s23 => B_J0_indexOf_7cf53_36 Q r22 s23)))) := h
  refine j_aload_nS hc 0 dJ0_indexOf_7cf53_0 rfl rfl ?_
  obtain ⟨b13, h⟩ := h
  refine j_wI hc b13 ml_RJ0_492 mv_J0_isLatin1_aae02 (As := []) (c_J0_isLatin1_aae02 (cx_E hc)  h) rfl (by omega) (by decide) ⟨Nat.zero_le _, Nat.zero_le _⟩ (Nat.le_of_ble_eq_true rfl) rfl dJ0_indexOf_7cf53_1 (fun r11 s12 cr11 h => ?_)
  refine j_if_eq hc cr11 (tgt := 23) dJ0_indexOf_7cf53_4 (by decide) (fun q24 => ?_) (fun q24 => ?_)
  · replace h := h.1 q24
    refine j_aload_nS hc 0 dJ0_indexOf_7cf53_23 rfl rfl ?_
    obtain ⟨b14, h⟩ := h
    refine j_sval hc gl_RJ0_9 b14 dJ0_indexOf_7cf53_24 ?_
    refine j_iload_n hc 1 dJ0_indexOf_7cf53_27 rfl rfl ?_
    refine j_iload_n hc 2 dJ0_indexOf_7cf53_28 rfl rfl ?_
    refine j_aload_nS hc 0 dJ0_indexOf_7cf53_29 rfl rfl ?_
    obtain ⟨b17, h⟩ := h
    refine j_wI hc b17 ml_RJ0_505 mv_J0_length_8abf5 (As := []) (c_J0_length_8abf5 (cx_E hc)  h) rfl (by omega) (by decide) ⟨Nat.zero_le _, Nat.zero_le _⟩ (Nat.le_of_ble_eq_true rfl) rfl dJ0_indexOf_7cf53_30 (fun r15 s16 cr15 h => ?_)
    exact h.elim
  · replace h := h.2 q24
    refine j_aload_nS hc 0 dJ0_indexOf_7cf53_7 rfl rfl ?_
    obtain ⟨b18, h⟩ := h
    refine j_sval hc gl_RJ0_9 b18 dJ0_indexOf_7cf53_8 ?_
    refine j_iload_n hc 1 dJ0_indexOf_7cf53_11 rfl rfl ?_
    refine j_iload_n hc 2 dJ0_indexOf_7cf53_12 rfl rfl ?_
    refine j_aload_nS hc 0 dJ0_indexOf_7cf53_13 rfl rfl ?_
    obtain ⟨b21, h⟩ := h
    refine j_wI hc b21 ml_RJ0_505 mv_J0_length_8abf5 (As := []) (c_J0_length_8abf5 (cx_E hc)  h) rfl (by omega) (by decide) ⟨Nat.zero_le _, Nat.zero_le _⟩ (Nat.le_of_ble_eq_true rfl) rfl dJ0_indexOf_7cf53_14 (fun r19 s20 cr19 h => ?_)
    refine j_sI hc ml_RJ0_637 mv_J1_indexOf_4cfef (As := [vV E t, vI a1, vI a2, vI r19]) (c_J1_indexOf_4cfef (cx_E hc) ca1 ca2 cr19 h) rfl (by omega) (by decide) ⟨Nat.zero_le _, Nat.zero_le _⟩ (Nat.le_of_ble_eq_true rfl) rfl dJ0_indexOf_7cf53_17 (fun r22 s23 cr22 h => ?_)
    refine j_goto (tgt := 36) hc dJ0_indexOf_7cf53_20 (by decide) ?_
    refine j_sub (lv' := []) [] rfl ?_
    exact jb_J0_indexOf_7cf53_36 hc hr hh cr22 h
-- java/lang/String.indexOf(I)I
theorem dJ0_indexOf_0f7a4_0 : decode cJ0_indexOf_0f7a4 0 = .ok (.aload_n 0, 1) := by decide +kernel
theorem dJ0_indexOf_0f7a4_1 : decode cJ0_indexOf_0f7a4 1 = .ok (.iload_n 1, 1) := by decide +kernel
theorem dJ0_indexOf_0f7a4_2 : decode cJ0_indexOf_0f7a4 2 = .ok (.iconst 0, 1) := by decide +kernel
theorem dJ0_indexOf_0f7a4_3 : decode cJ0_indexOf_0f7a4 3 = .ok (.invokevirtual 633, 3) := by decide +kernel
theorem dJ0_indexOf_0f7a4_6 : decode cJ0_indexOf_0f7a4 6 = .ok (.ireturn, 1) := by decide +kernel
def wp_J0_indexOf_0f7a4 (t : Nat) (a1 : Int) (σ : st_S) (Q : Int → st_S → Prop) : Prop := t < sNum ∧ wp_J0_indexOf_7cf53 t a1 0 σ (fun r3 s4 => Q r3 s4)
set_option maxRecDepth 20000 in
theorem c_J0_indexOf_0f7a4 {l : Launch} {E : ev_E} (hE : Eok E) {t : Nat} {a1 : Int} (ca1 : wr a1 = a1) {σ : st_S} {Q : Int → st_S → Prop} (h : wp_J0_indexOf_0f7a4 t a1 σ Q) : cM l yJ0_indexOf_0f7a4 cJ0_indexOf_0f7a4 2 (some .int) E 4 0 0 [vS E t, vI a1] σ (qI E (gN σ + 0) Q) := by
  refine cM_of (lv := [(0, vS E t), (1, vI a1)]) (by decide) hE (Nat.le_of_ble_eq_true rfl) (rfl) ?_
  intro X hX hc _ _ hr _ _
  subst hX
  have hh : 4 ≤ 4 := Nat.le_refl _
  have hh1 : 1 ≤ 4 := by omega
  replace h : t < sNum ∧ wp_J0_indexOf_7cf53 t a1 0 σ (fun r3 s4 => Q r3 s4) := h
  refine j_aload_nS hc 0 dJ0_indexOf_0f7a4_0 rfl rfl ?_
  refine j_iload_n hc 1 dJ0_indexOf_0f7a4_1 rfl rfl ?_
  refine j_iconst hc dJ0_indexOf_0f7a4_2 ?_
  obtain ⟨b5, h⟩ := h
  refine j_wI hc b5 ml_RJ0_633 mv_J0_indexOf_7cf53 (As := [vI a1, vI 0]) (c_J0_indexOf_7cf53 (cx_E hc) ca1 (wlit 0 (by decide)) h) rfl (by omega) (by decide) ⟨Nat.zero_le _, Nat.zero_le _⟩ (Nat.le_of_ble_eq_true rfl) rfl dJ0_indexOf_0f7a4_3 (fun r3 s4 cr3 h => ?_)
  exact j_iret hc hr cr3 h dJ0_indexOf_0f7a4_6
-- LitStrangers$Text.add(II)V
theorem dX9_add_0 : decode cX9_add 0 = .ok (.aload_n 0, 1) := by decide +kernel
theorem dX9_add_1 : decode cX9_add 1 = .ok (.getfield 30, 3) := by decide +kernel
theorem dX9_add_4 : decode cX9_add 4 = .ok (.ifCond .lt 40, 3) := by decide +kernel
theorem dX9_add_7 : decode cX9_add 7 = .ok (.aload_n 0, 1) := by decide +kernel
theorem dX9_add_8 : decode cX9_add 8 = .ok (.getfield 30, 3) := by decide +kernel
theorem dX9_add_11 : decode cX9_add 11 = .ok (.aload_n 0, 1) := by decide +kernel
theorem dX9_add_12 : decode cX9_add 12 = .ok (.getfield 9, 3) := by decide +kernel
theorem dX9_add_15 : decode cX9_add 15 = .ok (.arraylength, 1) := by decide +kernel
theorem dX9_add_16 : decode cX9_add 16 = .ok (.if_icmp .ge 28, 3) := by decide +kernel
theorem dX9_add_19 : decode cX9_add 19 = .ok (.aload_n 0, 1) := by decide +kernel
theorem dX9_add_20 : decode cX9_add 20 = .ok (.getfield 9, 3) := by decide +kernel
theorem dX9_add_23 : decode cX9_add 23 = .ok (.aload_n 0, 1) := by decide +kernel
theorem dX9_add_24 : decode cX9_add 24 = .ok (.getfield 30, 3) := by decide +kernel
theorem dX9_add_27 : decode cX9_add 27 = .ok (.iload_n 1, 1) := by decide +kernel
theorem dX9_add_28 : decode cX9_add 28 = .ok (.bipush 16, 2) := by decide +kernel
theorem dX9_add_30 : decode cX9_add 30 = .ok (.ishl, 1) := by decide +kernel
theorem dX9_add_31 : decode cX9_add 31 = .ok (.iload_n 2, 1) := by decide +kernel
theorem dX9_add_32 : decode cX9_add 32 = .ok (.ior, 1) := by decide +kernel
theorem dX9_add_33 : decode cX9_add 33 = .ok (.iastore, 1) := by decide +kernel
theorem dX9_add_34 : decode cX9_add 34 = .ok (.aload_n 0, 1) := by decide +kernel
theorem dX9_add_35 : decode cX9_add 35 = .ok (.dup, 1) := by decide +kernel
theorem dX9_add_36 : decode cX9_add 36 = .ok (.getfield 30, 3) := by decide +kernel
theorem dX9_add_39 : decode cX9_add 39 = .ok (.iconst 1, 1) := by decide +kernel
theorem dX9_add_40 : decode cX9_add 40 = .ok (.iadd, 1) := by decide +kernel
theorem dX9_add_41 : decode cX9_add 41 = .ok (.putfield 30, 3) := by decide +kernel
theorem dX9_add_44 : decode cX9_add 44 = .ok (.return_, 1) := by decide +kernel
def B_X9_add_44 (Q : st_S → Prop)    (σ : st_S) : Prop := Q σ
def wp_X9_add (a1 : Int) (a2 : Int) (σ : st_S) (Q : st_S → Prop) : Prop := (gI σ 14 6 < 0 → B_X9_add_44 Q σ) ∧ (¬ gI σ 14 6 < 0 → (400 ≤ gI σ 14 6 → B_X9_add_44 Q σ) ∧ (¬ 400 ≤ gI σ 14 6 → ix (gI σ 14 6) 400 ∧ ∀ s14 : st_S, s14 = sI σ 15 (Int.toNat (gI σ 14 6)) (o_or (o_shl a1 16) a2) → ∀ x16 : Int, x16 = wr (gI s14 14 6 + 1) → ∀ s17 : st_S, s17 = sI s14 14 6 x16 → B_X9_add_44 Q s17))
set_option maxRecDepth 20000 in
theorem jb_X9_add_44 {X : jj_X} {E : ev_E} {n0 hN : Nat} (hc : Cx X E cX9_add 3 n0 hN RX9) (hm : eM E = 1) (hr : (xT X).sig.returnType = none) (hh : 1 ≤ hN) {Q : st_S → Prop} {σ : st_S} (h : B_X9_add_44 Q σ) : J X E 3 n0 0 0 (MQ (xB X) (qV E (n0 + 0) Q) (xA X) (xS X) 0 0 (eF E)) σ 44 [] [] := by
  have hh1 : 1 ≤ hN := by omega
  replace h : Q σ := h
  exact j_vret hc hr h dX9_add_44
set_option maxRecDepth 20000 in
theorem c_X9_add {l : Launch} {E : ev_E} (hE : Eok E) (hm : eM E = 1) {a1 : Int} {a2 : Int} (ca1 : wr a1 = a1) (ca2 : wr a2 = a2) {σ : st_S} {Q : st_S → Prop} (h : wp_X9_add a1 a2 σ Q) : cM l yX9_add cX9_add 3 none E 1 0 0 [vR E 14, vI a1, vI a2] σ (qV E (gN σ + 0) Q) := by
  refine cM_of (lv := [(0, vR E 14), (1, vI a1), (2, vI a2)]) (by decide) hE (Nat.le_of_ble_eq_true rfl) (rfl) ?_
  intro X hX hc _ _ hr _ _
  subst hX
  have hh : 1 ≤ 1 := Nat.le_refl _
  have hh1 : 1 ≤ 1 := by omega
  replace h : (gI σ 14 6 < 0 → B_X9_add_44 Q σ) ∧ (¬ gI σ 14 6 < 0 → (400 ≤ gI σ 14 6 → B_X9_add_44 Q σ) ∧ (¬ 400 ≤ gI σ 14 6 → ix (gI σ 14 6) 400 ∧ ∀ s14 : st_S, s14 = sI σ 15 (Int.toNat (gI σ 14 6)) (o_or (o_shl a1 16) a2) → ∀ x16 : Int, x16 = wr (gI s14 14 6 + 1) → ∀ s17 : st_S, s17 = sI s14 14 6 x16 → B_X9_add_44 Q s17)) := h
  refine j_aload_nR hc 0 dX9_add_0 rfl rfl ?_
  refine j_getI hc fl_RX9_30 (Or.inl rfl) (fun hv => Or.inl (sv_k hv hm rfl)) dX9_add_1 (fun cn10 => ?_)
  refine j_if_lt hc cn10 (tgt := 44) dX9_add_4 (by decide) (fun q19 => ?_) (fun q19 => ?_)
  · replace h := h.1 q19
    refine j_sub (lv' := []) [] rfl ?_
    exact jb_X9_add_44 hc hm hr hh h
  · replace h := h.2 q19
    refine j_aload_nR hc 0 dX9_add_7 rfl rfl ?_
    refine j_getI hc fl_RX9_30 (Or.inl rfl) (fun hv => Or.inl (sv_k hv hm rfl)) dX9_add_8 (fun cn11 => ?_)
    refine j_aload_nR hc 0 dX9_add_11 rfl rfl ?_
    refine j_getR (c' := 15) hc fl_RX9_9 rfl rfl (fun hv => (sv_k hv hm rfl)) dX9_add_12 ?_
    refine j_alen hc 0 (by decide) (fun hv => sv_kl hv hm rfl) dX9_add_15 ?_
    refine j_ic_ge hc cn11 (wlit 400 (by decide)) (tgt := 44) dX9_add_16 (by decide) (fun q18 => ?_) (fun q18 => ?_)
    · replace h := h.1 q18
      refine j_sub (lv' := []) [] rfl ?_
      exact jb_X9_add_44 hc hm hr hh h
    · replace h := h.2 q18
      refine j_aload_nR hc 0 dX9_add_19 rfl rfl ?_
      refine j_getR (c' := 15) hc fl_RX9_9 rfl rfl (fun hv => (sv_k hv hm rfl)) dX9_add_20 ?_
      refine j_aload_nR hc 0 dX9_add_23 rfl rfl ?_
      refine j_getI hc fl_RX9_30 (Or.inl rfl) (fun hv => Or.inl (sv_k hv hm rfl)) dX9_add_24 (fun cn12 => ?_)
      refine j_iload_n hc 1 dX9_add_27 rfl rfl ?_
      refine j_bipush hc dX9_add_28 (by decide) ?_
      refine j_ishl hc dX9_add_30 ?_
      refine j_iload_n hc 2 dX9_add_31 rfl rfl ?_
      refine j_ior hc dX9_add_32 ?_
      obtain ⟨b13, h⟩ := h
      refine j_iast (jn := (Int.toNat (gI σ 14 6))) hc (fun hv => sv_kl hv hm rfl) cn12 b13 rfl (cn_or _ _) dX9_add_33 (fun s14 es14 => ?_)
      replace h := h s14 es14
      refine j_aload_nR hc 0 dX9_add_34 rfl rfl ?_
      refine j_dup hc dX9_add_35 rfl ?_
      refine j_getI hc fl_RX9_30 (Or.inl rfl) (fun hv => Or.inl (sv_k hv hm rfl)) dX9_add_36 (fun cn15 => ?_)
      refine j_iconst hc dX9_add_39 ?_
      refine j_iadd hc dX9_add_40 ?_
      refine j_w (fun x16 ex16 cx16 => ?_)
      replace h := h x16 ex16
      refine j_putI hc fl_RX9_30 rfl rfl (fun hv => Or.inl (sv_k hv hm rfl)) cx16 dX9_add_41 (fun s17 es17 => ?_)
      replace h := h s17 es17
      refine j_sub (lv' := []) [] rfl ?_
      exact jb_X9_add_44 hc hm hr hh h
-- LitStrangers$Text.replace(III)V
theorem dX9_replace_0 : decode cX9_replace 0 = .ok (.iload_n 1, 1) := by decide +kernel
theorem dX9_replace_1 : decode cX9_replace 1 = .ok (.ifCond .lt 24, 3) := by decide +kernel
theorem dX9_replace_4 : decode cX9_replace 4 = .ok (.iload_n 1, 1) := by decide +kernel
theorem dX9_replace_5 : decode cX9_replace 5 = .ok (.aload_n 0, 1) := by decide +kernel
theorem dX9_replace_6 : decode cX9_replace 6 = .ok (.getfield 9, 3) := by decide +kernel
theorem dX9_replace_9 : decode cX9_replace 9 = .ok (.arraylength, 1) := by decide +kernel
theorem dX9_replace_10 : decode cX9_replace 10 = .ok (.if_icmp .ge 15, 3) := by decide +kernel
theorem dX9_replace_13 : decode cX9_replace 13 = .ok (.aload_n 0, 1) := by decide +kernel
theorem dX9_replace_14 : decode cX9_replace 14 = .ok (.getfield 9, 3) := by decide +kernel
theorem dX9_replace_17 : decode cX9_replace 17 = .ok (.iload_n 1, 1) := by decide +kernel
theorem dX9_replace_18 : decode cX9_replace 18 = .ok (.iload_n 2, 1) := by decide +kernel
theorem dX9_replace_19 : decode cX9_replace 19 = .ok (.bipush 16, 2) := by decide +kernel
theorem dX9_replace_21 : decode cX9_replace 21 = .ok (.ishl, 1) := by decide +kernel
theorem dX9_replace_22 : decode cX9_replace 22 = .ok (.iload_n 3, 1) := by decide +kernel
theorem dX9_replace_23 : decode cX9_replace 23 = .ok (.ior, 1) := by decide +kernel
theorem dX9_replace_24 : decode cX9_replace 24 = .ok (.iastore, 1) := by decide +kernel
theorem dX9_replace_25 : decode cX9_replace 25 = .ok (.return_, 1) := by decide +kernel
def B_X9_replace_25 (Q : st_S → Prop)    (σ : st_S) : Prop := Q σ
def wp_X9_replace (a1 : Int) (a2 : Int) (a3 : Int) (σ : st_S) (Q : st_S → Prop) : Prop := (a1 < 0 → B_X9_replace_25 Q σ) ∧ (¬ a1 < 0 → (400 ≤ a1 → B_X9_replace_25 Q σ) ∧ (¬ 400 ≤ a1 → ix a1 400 ∧ ∀ s5 : st_S, s5 = sI σ 15 (Int.toNat a1) (o_or (o_shl a2 16) a3) → B_X9_replace_25 Q s5))
set_option maxRecDepth 20000 in
theorem jb_X9_replace_25 {X : jj_X} {E : ev_E} {n0 hN : Nat} (hc : Cx X E cX9_replace 4 n0 hN RX9) (hm : eM E = 1) (hr : (xT X).sig.returnType = none) (hh : 1 ≤ hN) {Q : st_S → Prop} {σ : st_S} (h : B_X9_replace_25 Q σ) : J X E 4 n0 0 0 (MQ (xB X) (qV E (n0 + 0) Q) (xA X) (xS X) 0 0 (eF E)) σ 25 [] [] := by
  have hh1 : 1 ≤ hN := by omega
  replace h : Q σ := h
  exact j_vret hc hr h dX9_replace_25
set_option maxRecDepth 20000 in
theorem c_X9_replace {l : Launch} {E : ev_E} (hE : Eok E) (hm : eM E = 1) {a1 : Int} {a2 : Int} {a3 : Int} (ca1 : wr a1 = a1) (ca2 : wr a2 = a2) (ca3 : wr a3 = a3) {σ : st_S} {Q : st_S → Prop} (h : wp_X9_replace a1 a2 a3 σ Q) : cM l yX9_replace cX9_replace 4 none E 1 0 0 [vR E 14, vI a1, vI a2, vI a3] σ (qV E (gN σ + 0) Q) := by
  refine cM_of (lv := [(0, vR E 14), (1, vI a1), (2, vI a2), (3, vI a3)]) (by decide) hE (Nat.le_of_ble_eq_true rfl) (rfl) ?_
  intro X hX hc _ _ hr _ _
  subst hX
  have hh : 1 ≤ 1 := Nat.le_refl _
  have hh1 : 1 ≤ 1 := by omega
  replace h : (a1 < 0 → B_X9_replace_25 Q σ) ∧ (¬ a1 < 0 → (400 ≤ a1 → B_X9_replace_25 Q σ) ∧ (¬ 400 ≤ a1 → ix a1 400 ∧ ∀ s5 : st_S, s5 = sI σ 15 (Int.toNat a1) (o_or (o_shl a2 16) a3) → B_X9_replace_25 Q s5)) := h
  refine j_iload_n hc 1 dX9_replace_0 rfl rfl ?_
  refine j_if_lt hc ca1 (tgt := 25) dX9_replace_1 (by decide) (fun q7 => ?_) (fun q7 => ?_)
  · replace h := h.1 q7
    refine j_sub (lv' := []) [] rfl ?_
    exact jb_X9_replace_25 hc hm hr hh h
  · replace h := h.2 q7
    refine j_iload_n hc 1 dX9_replace_4 rfl rfl ?_
    refine j_aload_nR hc 0 dX9_replace_5 rfl rfl ?_
    refine j_getR (c' := 15) hc fl_RX9_9 rfl rfl (fun hv => (sv_k hv hm rfl)) dX9_replace_6 ?_
    refine j_alen hc 0 (by decide) (fun hv => sv_kl hv hm rfl) dX9_replace_9 ?_
    refine j_ic_ge hc ca1 (wlit 400 (by decide)) (tgt := 25) dX9_replace_10 (by decide) (fun q6 => ?_) (fun q6 => ?_)
    · replace h := h.1 q6
      refine j_sub (lv' := []) [] rfl ?_
      exact jb_X9_replace_25 hc hm hr hh h
    · replace h := h.2 q6
      refine j_aload_nR hc 0 dX9_replace_13 rfl rfl ?_
      refine j_getR (c' := 15) hc fl_RX9_9 rfl rfl (fun hv => (sv_k hv hm rfl)) dX9_replace_14 ?_
      refine j_iload_n hc 1 dX9_replace_17 rfl rfl ?_
      refine j_iload_n hc 2 dX9_replace_18 rfl rfl ?_
      refine j_bipush hc dX9_replace_19 (by decide) ?_
      refine j_ishl hc dX9_replace_21 ?_
      refine j_iload_n hc 3 dX9_replace_22 rfl rfl ?_
      refine j_ior hc dX9_replace_23 ?_
      obtain ⟨b4, h⟩ := h
      refine j_iast (jn := (Int.toNat a1)) hc (fun hv => sv_kl hv hm rfl) ca1 b4 rfl (cn_or _ _) dX9_replace_24 (fun s5 es5 => ?_)
      replace h := h s5 es5
      refine j_sub (lv' := []) [] rfl ?_
      exact jb_X9_replace_25 hc hm hr hh h
-- java/util/Arrays.fill([II)V
theorem dJ7_fill_53178_0 : decode cJ7_fill_53178 0 = .ok (.iconst 0, 1) := by decide +kernel
theorem dJ7_fill_53178_1 : decode cJ7_fill_53178 1 = .ok (.istore_n 2, 1) := by decide +kernel
theorem dJ7_fill_53178_2 : decode cJ7_fill_53178 2 = .ok (.aload_n 0, 1) := by decide +kernel
theorem dJ7_fill_53178_3 : decode cJ7_fill_53178 3 = .ok (.arraylength, 1) := by decide +kernel
theorem dJ7_fill_53178_4 : decode cJ7_fill_53178 4 = .ok (.istore_n 3, 1) := by decide +kernel
theorem dJ7_fill_53178_5 : decode cJ7_fill_53178 5 = .ok (.iload_n 2, 1) := by decide +kernel
theorem dJ7_fill_53178_6 : decode cJ7_fill_53178 6 = .ok (.iload_n 3, 1) := by decide +kernel
theorem dJ7_fill_53178_7 : decode cJ7_fill_53178 7 = .ok (.if_icmp .ge 13, 3) := by decide +kernel
theorem dJ7_fill_53178_10 : decode cJ7_fill_53178 10 = .ok (.aload_n 0, 1) := by decide +kernel
theorem dJ7_fill_53178_11 : decode cJ7_fill_53178 11 = .ok (.iload_n 2, 1) := by decide +kernel
theorem dJ7_fill_53178_12 : decode cJ7_fill_53178 12 = .ok (.iload_n 1, 1) := by decide +kernel
theorem dJ7_fill_53178_13 : decode cJ7_fill_53178 13 = .ok (.iastore, 1) := by decide +kernel
theorem dJ7_fill_53178_14 : decode cJ7_fill_53178 14 = .ok (.iinc 2 1, 3) := by decide +kernel
theorem dJ7_fill_53178_17 : decode cJ7_fill_53178 17 = .ok (.goto (-12), 3) := by decide +kernel
theorem dJ7_fill_53178_20 : decode cJ7_fill_53178 20 = .ok (.return_, 1) := by decide +kernel
def L_J7_fill_53178_5 (Q : st_S → Prop)   : Nat → Nat → Int → Int → Int → st_S → Prop
  | 0 => fun _ _ _ _ _ => False
  | n + 1 => fun l0 l1 l2 l3 σ => (l3 ≤ l2 → Q σ) ∧ (¬ l3 ≤ l2 → gK σ l0 = 0 ∧ ix l2 (gL σ l0) ∧ ∀ s11 : st_S, s11 = sI σ l0 (Int.toNat l2) l1 → ∀ x12 : Int, x12 = wr (l2 + 1) → (L_J7_fill_53178_5 Q n) l0 l1 x12 l3 s11)
def wp_J7_fill_53178 (a1 : Nat) (a2 : Int) (σ : st_S) (Q : st_S → Prop) : Prop := gK σ a1 = 0 ∧ ∀ x15 : Int, x15 = wr ((gL σ a1) : Int) → ∃ m5 : Nat, L_J7_fill_53178_5 Q m5 a1 a2 0 x15 σ
set_option maxRecDepth 20000 in
theorem jl_J7_fill_53178_5 {X : jj_X} {E : ev_E} {n0 hN : Nat} (hc : Cx X E cJ7_fill_53178 4 n0 hN RJ7) (hr : (xT X).sig.returnType = none) (hh : 1 ≤ hN) {Q : st_S → Prop} : ∀ (n : Nat) {l0 : Nat} {l1 : Int} {l2 : Int} {l3 : Int} (cl1 : wr l1 = l1) (cl2 : wr l2 = l2) (cl3 : wr l3 = l3) {σ : st_S}, L_J7_fill_53178_5 Q n l0 l1 l2 l3 σ → J X E 4 n0 0 0 (MQ (xB X) (qV E (n0 + 0) Q) (xA X) (xS X) 0 0 (eF E)) σ 5 [(0, vR E l0), (1, vI l1), (2, vI l2), (3, vI l3)] [] := by
  have hh1 : 1 ≤ hN := by omega
  intro n
  induction n with
  | zero => intro l0 l1 l2 l3 cl1 cl2 cl3 σ h; exact h.elim
  | succ n ih =>
    intro l0 l1 l2 l3 cl1 cl2 cl3 σ h
    have hk5 : ∀ {l0 : Nat} {l1 : Int} {l2 : Int} {l3 : Int} (cl1 : wr l1 = l1) (cl2 : wr l2 = l2) (cl3 : wr l3 = l3) {σ : st_S}, L_J7_fill_53178_5 Q n l0 l1 l2 l3 σ → J X E 4 n0 0 0 (MQ (xB X) (qV E (n0 + 0) Q) (xA X) (xS X) 0 0 (eF E)) σ 5 [(0, vR E l0), (1, vI l1), (2, vI l2), (3, vI l3)] [] := ih
    replace h : (l3 ≤ l2 → Q σ) ∧ (¬ l3 ≤ l2 → gK σ l0 = 0 ∧ ix l2 (gL σ l0) ∧ ∀ s11 : st_S, s11 = sI σ l0 (Int.toNat l2) l1 → ∀ x12 : Int, x12 = wr (l2 + 1) → (L_J7_fill_53178_5 Q n) l0 l1 x12 l3 s11) := h
    refine j_iload_n hc 2 dJ7_fill_53178_5 rfl rfl ?_
    refine j_iload_n hc 3 dJ7_fill_53178_6 rfl rfl ?_
    refine j_ic_ge hc cl2 cl3 (tgt := 20) dJ7_fill_53178_7 (by decide) (fun q13 => ?_) (fun q13 => ?_)
    · replace h := h.1 q13
      exact j_vret hc hr h dJ7_fill_53178_20
    · replace h := h.2 q13
      refine j_aload_nR hc 0 dJ7_fill_53178_10 rfl rfl ?_
      refine j_iload_n hc 2 dJ7_fill_53178_11 rfl rfl ?_
      refine j_iload_n hc 1 dJ7_fill_53178_12 rfl rfl ?_
      obtain ⟨f9, h⟩ := h
      obtain ⟨b10, h⟩ := h
      refine j_iast (jn := (Int.toNat l2)) hc (fun _ => ⟨f9, rfl⟩) cl2 b10 rfl cl1 dJ7_fill_53178_13 (fun s11 es11 => ?_)
      replace h := h s11 es11
      obtain ⟨x12, ex12⟩ : ∃ y : Int, y = wr (l2 + 1) := ⟨_, rfl⟩
      have cx12 : wr x12 = x12 := by rw [ex12]; exact wr_wr _
      replace h := h x12 ex12
      refine j_iinc (lv' := [(2, vI x12), (0, vR E l0), (1, vI l1), (3, vI l3)]) hc 2 dJ7_fill_53178_14 rfl (by decide) ex12 rfl ?_
      refine j_goto (tgt := 5) hc dJ7_fill_53178_17 (by decide) ?_
      refine j_sub (lv' := [(0, vR E l0), (1, vI l1), (2, vI x12), (3, vI l3)]) [1, 2, 0, 3] rfl ?_
      exact hk5 cl1 cx12 cl3 h
set_option maxRecDepth 20000 in
theorem c_J7_fill_53178 {l : Launch} {E : ev_E} (hE : Eok E) {a1 : Nat} {a2 : Int} (ca2 : wr a2 = a2) {σ : st_S} {Q : st_S → Prop} (h : wp_J7_fill_53178 a1 a2 σ Q) : cM l yJ7_fill_53178 cJ7_fill_53178 4 none E 1 0 0 [vR E a1, vI a2] σ (qV E (gN σ + 0) Q) := by
  refine cM_of (lv := [(0, vR E a1), (1, vI a2)]) (by decide) hE (Nat.le_of_ble_eq_true rfl) (rfl) ?_
  intro X hX hc _ _ hr _ _
  subst hX
  have hh : 1 ≤ 1 := Nat.le_refl _
  have hh1 : 1 ≤ 1 := by omega
  replace h : gK σ a1 = 0 ∧ ∀ x15 : Int, x15 = wr ((gL σ a1) : Int) → ∃ m5 : Nat, L_J7_fill_53178_5 Q m5 a1 a2 0 x15 σ := h
  refine j_iconst hc dJ7_fill_53178_0 ?_
  refine j_istore_n (lv' := [(2, vI 0), (0, vR E a1), (1, vI a2)]) hc dJ7_fill_53178_1 rfl (by decide) rfl ?_
  refine j_aload_nR hc 1 dJ7_fill_53178_2 rfl rfl ?_
  obtain ⟨f14, h⟩ := h
  refine j_alen hc 0 (by decide) (fun _ => ⟨f14, rfl⟩) dJ7_fill_53178_3 ?_
  refine j_w (fun x15 ex15 cx15 => ?_)
  replace h := h x15 ex15
  refine j_istore_n (lv' := [(3, vI x15), (2, vI 0), (0, vR E a1), (1, vI a2)]) hc dJ7_fill_53178_4 rfl (by decide) rfl ?_
  obtain ⟨n5, h⟩ := h
  refine j_sub (lv' := [(0, vR E a1), (1, vI a2), (2, vI 0), (3, vI x15)]) [2, 3, 1, 0] rfl ?_
  exact jl_J7_fill_53178_5 hc hr hh n5 ca2 (wlit 0 (by decide)) cx15 h
-- java/util/Arrays.fill([JJ)V
theorem dJ7_fill_d0a16_0 : decode cJ7_fill_d0a16 0 = .ok (.iconst 0, 1) := by decide +kernel
theorem dJ7_fill_d0a16_1 : decode cJ7_fill_d0a16 1 = .ok (.istore_n 3, 1) := by decide +kernel
theorem dJ7_fill_d0a16_2 : decode cJ7_fill_d0a16 2 = .ok (.aload_n 0, 1) := by decide +kernel
theorem dJ7_fill_d0a16_3 : decode cJ7_fill_d0a16 3 = .ok (.arraylength, 1) := by decide +kernel
theorem dJ7_fill_d0a16_4 : decode cJ7_fill_d0a16 4 = .ok (.istore 4, 2) := by decide +kernel
theorem dJ7_fill_d0a16_6 : decode cJ7_fill_d0a16 6 = .ok (.iload_n 3, 1) := by decide +kernel
theorem dJ7_fill_d0a16_7 : decode cJ7_fill_d0a16 7 = .ok (.iload 4, 2) := by decide +kernel
theorem dJ7_fill_d0a16_9 : decode cJ7_fill_d0a16 9 = .ok (.if_icmp .ge 13, 3) := by decide +kernel
theorem dJ7_fill_d0a16_12 : decode cJ7_fill_d0a16 12 = .ok (.aload_n 0, 1) := by decide +kernel
theorem dJ7_fill_d0a16_13 : decode cJ7_fill_d0a16 13 = .ok (.iload_n 3, 1) := by decide +kernel
theorem dJ7_fill_d0a16_14 : decode cJ7_fill_d0a16 14 = .ok (.lload_n 1, 1) := by decide +kernel
theorem dJ7_fill_d0a16_15 : decode cJ7_fill_d0a16 15 = .ok (.lastore, 1) := by decide +kernel
theorem dJ7_fill_d0a16_16 : decode cJ7_fill_d0a16 16 = .ok (.iinc 3 1, 3) := by decide +kernel
theorem dJ7_fill_d0a16_19 : decode cJ7_fill_d0a16 19 = .ok (.goto (-13), 3) := by decide +kernel
theorem dJ7_fill_d0a16_22 : decode cJ7_fill_d0a16 22 = .ok (.return_, 1) := by decide +kernel
def L_J7_fill_d0a16_6 (Q : st_S → Prop)   : Nat → Nat → Int → Int → Int → st_S → Prop
  | 0 => fun _ _ _ _ _ => False
  | n + 1 => fun l0 l1 l3 l4 σ => (l4 ≤ l3 → Q σ) ∧ (¬ l4 ≤ l3 → gK σ l0 = 1 ∧ ix l3 (gL σ l0) ∧ ∀ s11 : st_S, s11 = sI σ l0 (Int.toNat l3) l1 → ∀ x12 : Int, x12 = wr (l3 + 1) → (L_J7_fill_d0a16_6 Q n) l0 l1 x12 l4 s11)
def wp_J7_fill_d0a16 (a1 : Nat) (a2 : Int) (σ : st_S) (Q : st_S → Prop) : Prop := gK σ a1 = 1 ∧ ∀ x15 : Int, x15 = wr ((gL σ a1) : Int) → ∃ m6 : Nat, L_J7_fill_d0a16_6 Q m6 a1 a2 0 x15 σ
set_option maxRecDepth 20000 in
theorem jl_J7_fill_d0a16_6 {X : jj_X} {E : ev_E} {n0 hN : Nat} (hc : Cx X E cJ7_fill_d0a16 5 n0 hN RJ7) (hr : (xT X).sig.returnType = none) (hh : 1 ≤ hN) {Q : st_S → Prop} : ∀ (n : Nat) {l0 : Nat} {l1 : Int} {l3 : Int} {l4 : Int} (cl1 : wl l1 = l1) (cl3 : wr l3 = l3) (cl4 : wr l4 = l4) {σ : st_S}, L_J7_fill_d0a16_6 Q n l0 l1 l3 l4 σ → J X E 5 n0 0 0 (MQ (xB X) (qV E (n0 + 0) Q) (xA X) (xS X) 0 0 (eF E)) σ 6 [(0, vR E l0), (1, vL l1), (3, vI l3), (4, vI l4)] [] := by
  have hh1 : 1 ≤ hN := by omega
  intro n
  induction n with
  | zero => intro l0 l1 l3 l4 cl1 cl3 cl4 σ h; exact h.elim
  | succ n ih =>
    intro l0 l1 l3 l4 cl1 cl3 cl4 σ h
    have hk6 : ∀ {l0 : Nat} {l1 : Int} {l3 : Int} {l4 : Int} (cl1 : wl l1 = l1) (cl3 : wr l3 = l3) (cl4 : wr l4 = l4) {σ : st_S}, L_J7_fill_d0a16_6 Q n l0 l1 l3 l4 σ → J X E 5 n0 0 0 (MQ (xB X) (qV E (n0 + 0) Q) (xA X) (xS X) 0 0 (eF E)) σ 6 [(0, vR E l0), (1, vL l1), (3, vI l3), (4, vI l4)] [] := ih
    replace h : (l4 ≤ l3 → Q σ) ∧ (¬ l4 ≤ l3 → gK σ l0 = 1 ∧ ix l3 (gL σ l0) ∧ ∀ s11 : st_S, s11 = sI σ l0 (Int.toNat l3) l1 → ∀ x12 : Int, x12 = wr (l3 + 1) → (L_J7_fill_d0a16_6 Q n) l0 l1 x12 l4 s11) := h
    refine j_iload_n hc 2 dJ7_fill_d0a16_6 rfl rfl ?_
    refine j_iload hc 3 dJ7_fill_d0a16_7 rfl ?_
    refine j_ic_ge hc cl3 cl4 (tgt := 22) dJ7_fill_d0a16_9 (by decide) (fun q13 => ?_) (fun q13 => ?_)
    · replace h := h.1 q13
      exact j_vret hc hr h dJ7_fill_d0a16_22
    · replace h := h.2 q13
      refine j_aload_nR hc 0 dJ7_fill_d0a16_12 rfl rfl ?_
      refine j_iload_n hc 2 dJ7_fill_d0a16_13 rfl rfl ?_
      refine j_lload_n hc 1 dJ7_fill_d0a16_14 rfl rfl ?_
      obtain ⟨f9, h⟩ := h
      obtain ⟨b10, h⟩ := h
      refine j_last (jn := (Int.toNat l3)) hc (fun _ => ⟨f9, rfl⟩) cl3 b10 rfl cl1 dJ7_fill_d0a16_15 (fun s11 es11 => ?_)
      replace h := h s11 es11
      obtain ⟨x12, ex12⟩ : ∃ y : Int, y = wr (l3 + 1) := ⟨_, rfl⟩
      have cx12 : wr x12 = x12 := by rw [ex12]; exact wr_wr _
      replace h := h x12 ex12
      refine j_iinc (lv' := [(3, vI x12), (0, vR E l0), (1, vL l1), (4, vI l4)]) hc 2 dJ7_fill_d0a16_16 rfl (by decide) ex12 rfl ?_
      refine j_goto (tgt := 6) hc dJ7_fill_d0a16_19 (by decide) ?_
      refine j_sub (lv' := [(0, vR E l0), (1, vL l1), (3, vI x12), (4, vI l4)]) [1, 2, 0, 3] rfl ?_
      exact hk6 cl1 cx12 cl4 h
set_option maxRecDepth 20000 in
theorem c_J7_fill_d0a16 {l : Launch} {E : ev_E} (hE : Eok E) {a1 : Nat} {a2 : Int} (ca2 : wl a2 = a2) {σ : st_S} {Q : st_S → Prop} (h : wp_J7_fill_d0a16 a1 a2 σ Q) : cM l yJ7_fill_d0a16 cJ7_fill_d0a16 5 none E 1 0 0 [vR E a1, vL a2] σ (qV E (gN σ + 0) Q) := by
  refine cM_of (lv := [(0, vR E a1), (1, vL a2)]) (by decide) hE (Nat.le_of_ble_eq_true rfl) (rfl) ?_
  intro X hX hc _ _ hr _ _
  subst hX
  have hh : 1 ≤ 1 := Nat.le_refl _
  have hh1 : 1 ≤ 1 := by omega
  replace h : gK σ a1 = 1 ∧ ∀ x15 : Int, x15 = wr ((gL σ a1) : Int) → ∃ m6 : Nat, L_J7_fill_d0a16_6 Q m6 a1 a2 0 x15 σ := h
  refine j_iconst hc dJ7_fill_d0a16_0 ?_
  refine j_istore_n (lv' := [(3, vI 0), (0, vR E a1), (1, vL a2)]) hc dJ7_fill_d0a16_1 rfl (by decide) rfl ?_
  refine j_aload_nR hc 1 dJ7_fill_d0a16_2 rfl rfl ?_
  obtain ⟨f14, h⟩ := h
  refine j_alen hc 1 (by decide) (fun _ => ⟨f14, rfl⟩) dJ7_fill_d0a16_3 ?_
  refine j_w (fun x15 ex15 cx15 => ?_)
  replace h := h x15 ex15
  refine j_istore (lv' := [(4, vI x15), (3, vI 0), (0, vR E a1), (1, vL a2)]) hc dJ7_fill_d0a16_4 (by decide) rfl ?_
  obtain ⟨n6, h⟩ := h
  refine j_sub (lv' := [(0, vR E a1), (1, vL a2), (3, vI 0), (4, vI x15)]) [2, 3, 1, 0] rfl ?_
  exact jl_J7_fill_d0a16_6 hc hr hh n6 ca2 (wlit 0 (by decide)) cx15 h
