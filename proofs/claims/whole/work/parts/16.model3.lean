-- LitStrangersModel.last(I)I
theorem dX11_last_0 : decode cX11_last 0 = .ok (.aload_n 0, 1) := by decide +kernel
theorem dX11_last_1 : decode cX11_last 1 = .ok (.invokevirtual 385, 3) := by decide +kernel
theorem dX11_last_4 : decode cX11_last 4 = .ok (.aload_n 0, 1) := by decide +kernel
theorem dX11_last_5 : decode cX11_last 5 = .ok (.iconst 0, 1) := by decide +kernel
theorem dX11_last_6 : decode cX11_last 6 = .ok (.iconst 0, 1) := by decide +kernel
theorem dX11_last_7 : decode cX11_last 7 = .ok (.invokevirtual 382, 3) := by decide +kernel
theorem dX11_last_10 : decode cX11_last 10 = .ok (.istore_n 2, 1) := by decide +kernel
theorem dX11_last_11 : decode cX11_last 11 = .ok (.iload_n 1, 1) := by decide +kernel
theorem dX11_last_12 : decode cX11_last 12 = .ok (.iconst (-1), 1) := by decide +kernel
theorem dX11_last_13 : decode cX11_last 13 = .ok (.iload_n 2, 1) := by decide +kernel
theorem dX11_last_14 : decode cX11_last 14 = .ok (.iconst 1, 1) := by decide +kernel
theorem dX11_last_15 : decode cX11_last 15 = .ok (.isub, 1) := by decide +kernel
theorem dX11_last_16 : decode cX11_last 16 = .ok (.invokestatic 106, 3) := by decide +kernel
theorem dX11_last_19 : decode cX11_last 19 = .ok (.ifCond .ne 5, 3) := by decide +kernel
theorem dX11_last_22 : decode cX11_last 22 = .ok (.iconst (-1), 1) := by decide +kernel
theorem dX11_last_23 : decode cX11_last 23 = .ok (.ireturn, 1) := by decide +kernel
theorem dX11_last_24 : decode cX11_last 24 = .ok (.iload_n 1, 1) := by decide +kernel
theorem dX11_last_25 : decode cX11_last 25 = .ok (.iconst (-1), 1) := by decide +kernel
theorem dX11_last_26 : decode cX11_last 26 = .ok (.if_icmp .ne 5, 3) := by decide +kernel
theorem dX11_last_29 : decode cX11_last 29 = .ok (.iload_n 2, 1) := by decide +kernel
theorem dX11_last_30 : decode cX11_last 30 = .ok (.ireturn, 1) := by decide +kernel
theorem dX11_last_31 : decode cX11_last 31 = .ok (.iconst 0, 1) := by decide +kernel
theorem dX11_last_32 : decode cX11_last 32 = .ok (.istore_n 3, 1) := by decide +kernel
theorem dX11_last_33 : decode cX11_last 33 = .ok (.iconst 0, 1) := by decide +kernel
theorem dX11_last_34 : decode cX11_last 34 = .ok (.istore 4, 2) := by decide +kernel
theorem dX11_last_36 : decode cX11_last 36 = .ok (.aload_n 0, 1) := by decide +kernel
theorem dX11_last_37 : decode cX11_last 37 = .ok (.iload 4, 2) := by decide +kernel
theorem dX11_last_39 : decode cX11_last 39 = .ok (.iload_n 3, 1) := by decide +kernel
theorem dX11_last_40 : decode cX11_last 40 = .ok (.iconst 0, 1) := by decide +kernel
theorem dX11_last_41 : decode cX11_last 41 = .ok (.invokevirtual 379, 3) := by decide +kernel
theorem dX11_last_44 : decode cX11_last 44 = .ok (.istore 5, 2) := by decide +kernel
theorem dX11_last_46 : decode cX11_last 46 = .ok (.aload_n 0, 1) := by decide +kernel
theorem dX11_last_47 : decode cX11_last 47 = .ok (.iload 4, 2) := by decide +kernel
theorem dX11_last_49 : decode cX11_last 49 = .ok (.iconst 1, 1) := by decide +kernel
theorem dX11_last_50 : decode cX11_last 50 = .ok (.iadd, 1) := by decide +kernel
theorem dX11_last_51 : decode cX11_last 51 = .ok (.iload_n 3, 1) := by decide +kernel
theorem dX11_last_52 : decode cX11_last 52 = .ok (.iload 5, 2) := by decide +kernel
theorem dX11_last_54 : decode cX11_last 54 = .ok (.ior, 1) := by decide +kernel
theorem dX11_last_55 : decode cX11_last 55 = .ok (.invokevirtual 382, 3) := by decide +kernel
theorem dX11_last_58 : decode cX11_last 58 = .ok (.iload_n 2, 1) := by decide +kernel
theorem dX11_last_59 : decode cX11_last 59 = .ok (.iload 4, 2) := by decide +kernel
theorem dX11_last_61 : decode cX11_last 61 = .ok (.isub, 1) := by decide +kernel
theorem dX11_last_62 : decode cX11_last 62 = .ok (.iconst 1, 1) := by decide +kernel
theorem dX11_last_63 : decode cX11_last 63 = .ok (.isub, 1) := by decide +kernel
theorem dX11_last_64 : decode cX11_last 64 = .ok (.if_icmp .ge 17, 3) := by decide +kernel
theorem dX11_last_67 : decode cX11_last 67 = .ok (.aload_n 0, 1) := by decide +kernel
theorem dX11_last_68 : decode cX11_last 68 = .ok (.iload 4, 2) := by decide +kernel
theorem dX11_last_70 : decode cX11_last 70 = .ok (.iload_n 3, 1) := by decide +kernel
theorem dX11_last_71 : decode cX11_last 71 = .ok (.iload 5, 2) := by decide +kernel
theorem dX11_last_73 : decode cX11_last 73 = .ok (.invokevirtual 379, 3) := by decide +kernel
theorem dX11_last_76 : decode cX11_last 76 = .ok (.istore 5, 2) := by decide +kernel
theorem dX11_last_78 : decode cX11_last 78 = .ok (.goto (-32), 3) := by decide +kernel
theorem dX11_last_81 : decode cX11_last 81 = .ok (.iload 4, 2) := by decide +kernel
theorem dX11_last_83 : decode cX11_last 83 = .ok (.iload_n 1, 1) := by decide +kernel
theorem dX11_last_84 : decode cX11_last 84 = .ok (.if_icmp .ne 6, 3) := by decide +kernel
theorem dX11_last_87 : decode cX11_last 87 = .ok (.iload 5, 2) := by decide +kernel
theorem dX11_last_89 : decode cX11_last 89 = .ok (.ireturn, 1) := by decide +kernel
theorem dX11_last_90 : decode cX11_last 90 = .ok (.iload_n 3, 1) := by decide +kernel
theorem dX11_last_91 : decode cX11_last 91 = .ok (.iload 5, 2) := by decide +kernel
theorem dX11_last_93 : decode cX11_last 93 = .ok (.ior, 1) := by decide +kernel
theorem dX11_last_94 : decode cX11_last 94 = .ok (.istore_n 3, 1) := by decide +kernel
theorem dX11_last_95 : decode cX11_last 95 = .ok (.iinc 4 1, 3) := by decide +kernel
theorem dX11_last_98 : decode cX11_last 98 = .ok (.goto (-62), 3) := by decide +kernel
def L_X11_last_46 (Q : Int → st_S → Prop)  (k36 : Int → Int → Int → Int → st_S → Prop) : Nat → Int → Int → Int → Int → Int → st_S → Prop
  | 0 => fun _ _ _ _ _ _ => False
  | n + 1 => fun l1 l2 l3 l4 l5 σ => wp_X11_longestFrom 13 (wr (l4 + 1)) (o_or l3 l5) σ (fun r20 s21 => (wr ((l2 - l4) - 1) ≤ r20 → (¬ l4 = l1 → ∀ x22 : Int, x22 = o_or l3 l5 → ∀ x23 : Int, x23 = wr (l4 + 1) → k36 l1 l2 x22 x23 s21) ∧ (l4 = l1 → Q l5 s21)) ∧ (¬ wr ((l2 - l4) - 1) ≤ r20 → wp_X11_crewIn l4 l3 l5 s21 (fun r25 s26 => (L_X11_last_46 Q k36 n) l1 l2 l3 l4 r25 s26)))
def L_X11_last_36 (Q : Int → st_S → Prop)   : Nat → Int → Int → Int → Int → st_S → Prop
  | 0 => fun _ _ _ _ _ => False
  | n + 1 => fun l1 l2 l3 l4 σ => wp_X11_crewIn l4 l3 0 σ (fun r28 s29 => ∃ m46 : Nat, L_X11_last_46 Q (L_X11_last_36 Q n) m46 l1 l2 l3 l4 r28 s29)
def wp_X11_last (a1 : Int) (σ : st_S) (Q : Int → st_S → Prop) : Prop := wp_X11_looks σ (fun s31 => wp_X11_longestFrom 13 0 0 s31 (fun r32 s33 => wp_X11_lies a1 (-1) (wr (r32 - 1)) s33 (fun r34 s35 => (¬ r34 = 0 → (¬ a1 = (-1) → ∃ m36 : Nat, L_X11_last_36 Q m36 a1 r32 0 0 s35) ∧ (a1 = (-1) → Q r32 s35)) ∧ (r34 = 0 → Q (-1) s35))))
set_option maxRecDepth 20000 in
theorem jl_X11_last_46 {X : jj_X} {E : ev_E} {n0 hN : Nat} (hc : Cx X E cX11_last 6 n0 hN RX11) (hm : eM E = 2) (hr : (xT X).sig.returnType = (some .int)) (hh : 144 ≤ hN) {Q : Int → st_S → Prop} {k36 : Int → Int → Int → Int → st_S → Prop} (hk36 : ∀ {l1 : Int} {l2 : Int} {l3 : Int} {l4 : Int} (cl1 : wr l1 = l1) (cl2 : wr l2 = l2) (cl3 : wr l3 = l3) (cl4 : wr l4 = l4) {σ : st_S}, k36 l1 l2 l3 l4 σ → J X E 6 n0 0 0 (MQ (xB X) (qI E (n0 + 0) Q) (xA X) (xS X) 0 0 (eF E)) σ 36 [(0, vR E 0), (1, vI l1), (2, vI l2), (3, vI l3), (4, vI l4)] []) : ∀ (n : Nat) {l1 : Int} {l2 : Int} {l3 : Int} {l4 : Int} {l5 : Int} (cl1 : wr l1 = l1) (cl2 : wr l2 = l2) (cl3 : wr l3 = l3) (cl4 : wr l4 = l4) (cl5 : wr l5 = l5) {σ : st_S}, L_X11_last_46 Q k36 n l1 l2 l3 l4 l5 σ → J X E 6 n0 0 0 (MQ (xB X) (qI E (n0 + 0) Q) (xA X) (xS X) 0 0 (eF E)) σ 46 [(0, vR E 0), (1, vI l1), (2, vI l2), (3, vI l3), (4, vI l4), (5, vI l5)] [] := by
  have hh1 : 1 ≤ hN := by omega
  intro n
  induction n with
  | zero => intro l1 l2 l3 l4 l5 cl1 cl2 cl3 cl4 cl5 σ h; exact h.elim
  | succ n ih =>
    intro l1 l2 l3 l4 l5 cl1 cl2 cl3 cl4 cl5 σ h
    have hk46 : ∀ {l1 : Int} {l2 : Int} {l3 : Int} {l4 : Int} {l5 : Int} (cl1 : wr l1 = l1) (cl2 : wr l2 = l2) (cl3 : wr l3 = l3) (cl4 : wr l4 = l4) (cl5 : wr l5 = l5) {σ : st_S}, L_X11_last_46 Q k36 n l1 l2 l3 l4 l5 σ → J X E 6 n0 0 0 (MQ (xB X) (qI E (n0 + 0) Q) (xA X) (xS X) 0 0 (eF E)) σ 46 [(0, vR E 0), (1, vI l1), (2, vI l2), (3, vI l3), (4, vI l4), (5, vI l5)] [] := ih
    replace h : wp_X11_longestFrom 13 (wr (l4 + 1)) (o_or l3 l5) σ (fun r20 s21 => (wr ((l2 - l4) - 1) ≤ r20 → (¬ l4 = l1 → ∀ x22 : Int, x22 = o_or l3 l5 → ∀ x23 : Int, x23 = wr (l4 + 1) → k36 l1 l2 x22 x23 s21) ∧ (l4 = l1 → Q l5 s21)) ∧ (¬ wr ((l2 - l4) - 1) ≤ r20 → wp_X11_crewIn l4 l3 l5 s21 (fun r25 s26 => (L_X11_last_46 Q k36 n) l1 l2 l3 l4 r25 s26))) := h
    refine j_aload_nR hc 0 dX11_last_46 rfl rfl ?_
    refine j_iload hc 4 dX11_last_47 rfl ?_
    refine j_iconst hc dX11_last_49 ?_
    refine j_iadd hc dX11_last_50 ?_
    refine j_iload_n hc 3 dX11_last_51 rfl rfl ?_
    refine j_iload hc 5 dX11_last_52 rfl ?_
    refine j_ior hc dX11_last_54 ?_
    refine j_vI hc (k := 11) (by decide) (fun hv => Or.inl (sv_k hv hm rfl)) ml_RX11_382 mv_X11_longestFrom (As := [vI (wr (l4 + 1)), vI (o_or l3 l5)]) (c_X11_longestFrom (cx_E hc) hm 13 (wr_wr _) (cn_or _ _) h) rfl (by omega) (by decide) ⟨Nat.zero_le _, Nat.zero_le _⟩ (Nat.le_of_ble_eq_true rfl) (by simp only [vI_wr, vL_wl]; rfl) dX11_last_55 (fun r20 s21 cr20 h => ?_)
    refine j_iload_n hc 2 dX11_last_58 rfl rfl ?_
    refine j_iload hc 4 dX11_last_59 rfl ?_
    refine j_isub hc dX11_last_61 ?_
    refine j_iconst hc dX11_last_62 ?_
    refine j_isub hc dX11_last_63 ?_
    refine j_ic_ge hc cr20 rfl (tgt := 81) dX11_last_64 (by decide) (fun q27 => ?_) (fun q27 => ?_)
    · replace h := h.1 q27
      refine j_iload hc 4 dX11_last_81 rfl ?_
      refine j_iload_n hc 1 dX11_last_83 rfl rfl ?_
      refine j_ic_ne hc cl4 cl1 (tgt := 90) dX11_last_84 (by decide) (fun q24 => ?_) (fun q24 => ?_)
      · replace h := h.1 q24
        refine j_iload_n hc 3 dX11_last_90 rfl rfl ?_
        refine j_iload hc 5 dX11_last_91 rfl ?_
        refine j_ior hc dX11_last_93 ?_
        refine j_c (cn_or _ _) (fun x22 ex22 cx22 => ?_)
        replace h := h x22 ex22
        refine j_istore_n (lv' := [(3, vI x22), (0, vR E 0), (1, vI l1), (2, vI l2), (4, vI l4), (5, vI l5)]) hc dX11_last_94 rfl (by decide) rfl ?_
        obtain ⟨x23, ex23⟩ : ∃ y : Int, y = wr (l4 + 1) := ⟨_, rfl⟩
        have cx23 : wr x23 = x23 := by rw [ex23]; exact wr_wr _
        replace h := h x23 ex23
        refine j_iinc (lv' := [(4, vI x23), (3, vI x22), (0, vR E 0), (1, vI l1), (2, vI l2), (5, vI l5)]) hc 4 dX11_last_95 rfl (by decide) ex23 rfl ?_
        refine j_goto (tgt := 36) hc dX11_last_98 (by decide) ?_
        refine j_sub (lv' := [(0, vR E 0), (1, vI l1), (2, vI l2), (3, vI x22), (4, vI x23)]) [2, 3, 4, 1, 0] rfl ?_
        exact hk36 cl1 cl2 cx22 cx23 h
      · replace h := h.2 q24
        refine j_iload hc 5 dX11_last_87 rfl ?_
        exact j_iret hc hr cl5 h dX11_last_89
    · replace h := h.2 q27
      refine j_aload_nR hc 0 dX11_last_67 rfl rfl ?_
      refine j_iload hc 4 dX11_last_68 rfl ?_
      refine j_iload_n hc 3 dX11_last_70 rfl rfl ?_
      refine j_iload hc 5 dX11_last_71 rfl ?_
      refine j_vI hc (k := 11) (by decide) (fun hv => Or.inl (sv_k hv hm rfl)) ml_RX11_379 mv_X11_crewIn (As := [vI l4, vI l3, vI l5]) (c_X11_crewIn (cx_E hc) hm cl4 cl3 cl5 h) rfl (by omega) (by decide) ⟨Nat.zero_le _, Nat.zero_le _⟩ (Nat.le_of_ble_eq_true rfl) rfl dX11_last_73 (fun r25 s26 cr25 h => ?_)
      refine j_istore (lv' := [(5, vI r25), (0, vR E 0), (1, vI l1), (2, vI l2), (3, vI l3), (4, vI l4)]) hc dX11_last_76 (by decide) rfl ?_
      refine j_goto (tgt := 46) hc dX11_last_78 (by decide) ?_
      refine j_sub (lv' := [(0, vR E 0), (1, vI l1), (2, vI l2), (3, vI l3), (4, vI l4), (5, vI r25)]) [1, 2, 3, 4, 5, 0] rfl ?_
      exact hk46 cl1 cl2 cl3 cl4 cr25 h
set_option maxRecDepth 20000 in
theorem jl_X11_last_36 {X : jj_X} {E : ev_E} {n0 hN : Nat} (hc : Cx X E cX11_last 6 n0 hN RX11) (hm : eM E = 2) (hr : (xT X).sig.returnType = (some .int)) (hh : 144 ≤ hN) {Q : Int → st_S → Prop} : ∀ (n : Nat) {l1 : Int} {l2 : Int} {l3 : Int} {l4 : Int} (cl1 : wr l1 = l1) (cl2 : wr l2 = l2) (cl3 : wr l3 = l3) (cl4 : wr l4 = l4) {σ : st_S}, L_X11_last_36 Q n l1 l2 l3 l4 σ → J X E 6 n0 0 0 (MQ (xB X) (qI E (n0 + 0) Q) (xA X) (xS X) 0 0 (eF E)) σ 36 [(0, vR E 0), (1, vI l1), (2, vI l2), (3, vI l3), (4, vI l4)] [] := by
  have hh1 : 1 ≤ hN := by omega
  intro n
  induction n with
  | zero => intro l1 l2 l3 l4 cl1 cl2 cl3 cl4 σ h; exact h.elim
  | succ n ih =>
    intro l1 l2 l3 l4 cl1 cl2 cl3 cl4 σ h
    have hk36 : ∀ {l1 : Int} {l2 : Int} {l3 : Int} {l4 : Int} (cl1 : wr l1 = l1) (cl2 : wr l2 = l2) (cl3 : wr l3 = l3) (cl4 : wr l4 = l4) {σ : st_S}, L_X11_last_36 Q n l1 l2 l3 l4 σ → J X E 6 n0 0 0 (MQ (xB X) (qI E (n0 + 0) Q) (xA X) (xS X) 0 0 (eF E)) σ 36 [(0, vR E 0), (1, vI l1), (2, vI l2), (3, vI l3), (4, vI l4)] [] := ih
    replace h : wp_X11_crewIn l4 l3 0 σ (fun r28 s29 => ∃ m46 : Nat, L_X11_last_46 Q (L_X11_last_36 Q n) m46 l1 l2 l3 l4 r28 s29) := h
    refine j_aload_nR hc 0 dX11_last_36 rfl rfl ?_
    refine j_iload hc 4 dX11_last_37 rfl ?_
    refine j_iload_n hc 3 dX11_last_39 rfl rfl ?_
    refine j_iconst hc dX11_last_40 ?_
    refine j_vI hc (k := 11) (by decide) (fun hv => Or.inl (sv_k hv hm rfl)) ml_RX11_379 mv_X11_crewIn (As := [vI l4, vI l3, vI 0]) (c_X11_crewIn (cx_E hc) hm cl4 cl3 (wlit 0 (by decide)) h) rfl (by omega) (by decide) ⟨Nat.zero_le _, Nat.zero_le _⟩ (Nat.le_of_ble_eq_true rfl) rfl dX11_last_41 (fun r28 s29 cr28 h => ?_)
    refine j_istore (lv' := [(5, vI r28), (0, vR E 0), (1, vI l1), (2, vI l2), (3, vI l3), (4, vI l4)]) hc dX11_last_44 (by decide) rfl ?_
    obtain ⟨n46, h⟩ := h
    refine j_sub (lv' := [(0, vR E 0), (1, vI l1), (2, vI l2), (3, vI l3), (4, vI l4), (5, vI r28)]) [1, 2, 3, 4, 5, 0] rfl ?_
    exact jl_X11_last_46 hc hm hr hh hk36 n46 cl1 cl2 cl3 cl4 cr28 h
set_option maxRecDepth 20000 in
theorem c_X11_last {l : Launch} {E : ev_E} (hE : Eok E) (hm : eM E = 2) {a1 : Int} (ca1 : wr a1 = a1) {σ : st_S} {Q : Int → st_S → Prop} (h : wp_X11_last a1 σ Q) : cM l yX11_last cX11_last 6 (some .int) E 144 0 0 [vR E 0, vI a1] σ (qI E (gN σ + 0) Q) := by
  refine cM_of (lv := [(0, vR E 0), (1, vI a1)]) (by decide) hE (Nat.le_of_ble_eq_true rfl) (rfl) ?_
  intro X hX hc _ _ hr _ _
  subst hX
  have hh : 144 ≤ 144 := Nat.le_refl _
  have hh1 : 1 ≤ 144 := by omega
  replace h : wp_X11_looks σ (fun s31 => wp_X11_longestFrom 13 0 0 s31 (fun r32 s33 => wp_X11_lies a1 (-1) (wr (r32 - 1)) s33 (fun r34 s35 => (¬ r34 = 0 → (¬ a1 = (-1) → ∃ m36 : Nat, L_X11_last_36 Q m36 a1 r32 0 0 s35) ∧ (a1 = (-1) → Q r32 s35)) ∧ (r34 = 0 → Q (-1) s35)))) := h
  refine j_aload_nR hc 0 dX11_last_0 rfl rfl ?_
  refine j_vV hc (k := 11) (by decide) (fun hv => Or.inl (sv_k hv hm rfl)) ml_RX11_385 mv_X11_looks (As := []) (c_X11_looks (cx_E hc) hm  h) rfl (by omega) (by decide) ⟨Nat.zero_le _, Nat.zero_le _⟩ (Nat.le_of_ble_eq_true rfl) rfl dX11_last_1 (fun s31 h => ?_)
  refine j_aload_nR hc 0 dX11_last_4 rfl rfl ?_
  refine j_iconst hc dX11_last_5 ?_
  refine j_iconst hc dX11_last_6 ?_
  refine j_vI hc (k := 11) (by decide) (fun hv => Or.inl (sv_k hv hm rfl)) ml_RX11_382 mv_X11_longestFrom (As := [vI 0, vI 0]) (c_X11_longestFrom (cx_E hc) hm 13 (wlit 0 (by decide)) (wlit 0 (by decide)) h) rfl (by omega) (by decide) ⟨Nat.zero_le _, Nat.zero_le _⟩ (Nat.le_of_ble_eq_true rfl) rfl dX11_last_7 (fun r32 s33 cr32 h => ?_)
  refine j_istore_n (lv' := [(2, vI r32), (0, vR E 0), (1, vI a1)]) hc dX11_last_10 rfl (by decide) rfl ?_
  refine j_iload_n hc 2 dX11_last_11 rfl rfl ?_
  refine j_iconst hc dX11_last_12 ?_
  refine j_iload_n hc 0 dX11_last_13 rfl rfl ?_
  refine j_iconst hc dX11_last_14 ?_
  refine j_isub hc dX11_last_15 ?_
  refine j_sI hc ml_RX11_106 mv_X11_lies (As := [vI a1, vI (-1), vI (wr (r32 - 1))]) (c_X11_lies (cx_E hc) hm ca1 (wlit (-1) (by decide)) (wr_wr _) h) rfl (by omega) (by decide) ⟨Nat.zero_le _, Nat.zero_le _⟩ (Nat.le_of_ble_eq_true rfl) (by simp only [vI_wr, vL_wl]; rfl) dX11_last_16 (fun r34 s35 cr34 h => ?_)
  refine j_if_ne hc cr34 (tgt := 24) dX11_last_19 (by decide) (fun q37 => ?_) (fun q37 => ?_)
  · replace h := h.1 q37
    refine j_iload_n hc 2 dX11_last_24 rfl rfl ?_
    refine j_iconst hc dX11_last_25 ?_
    refine j_ic_ne hc ca1 (wlit (-1) (by decide)) (tgt := 31) dX11_last_26 (by decide) (fun q36 => ?_) (fun q36 => ?_)
    · replace h := h.1 q36
      refine j_iconst hc dX11_last_31 ?_
      refine j_istore_n (lv' := [(3, vI 0), (2, vI r32), (0, vR E 0), (1, vI a1)]) hc dX11_last_32 rfl (by decide) rfl ?_
      refine j_iconst hc dX11_last_33 ?_
      refine j_istore (lv' := [(4, vI 0), (3, vI 0), (2, vI r32), (0, vR E 0), (1, vI a1)]) hc dX11_last_34 (by decide) rfl ?_
      obtain ⟨n36, h⟩ := h
      refine j_sub (lv' := [(0, vR E 0), (1, vI a1), (2, vI r32), (3, vI 0), (4, vI 0)]) [3, 4, 2, 1, 0] rfl ?_
      exact jl_X11_last_36 hc hm hr hh n36 ca1 cr32 (wlit 0 (by decide)) (wlit 0 (by decide)) h
    · replace h := h.2 q36
      refine j_iload_n hc 0 dX11_last_29 rfl rfl ?_
      exact j_iret hc hr cr32 h dX11_last_30
  · replace h := h.2 q37
    refine j_iconst hc dX11_last_22 ?_
    exact j_iret hc hr (wlit (-1) (by decide)) h dX11_last_23
-- LitStrangersModel.priceOf(I)I
theorem dX11_priceOf_0 : decode cX11_priceOf 0 = .ok (.iconst 0, 1) := by decide +kernel
theorem dX11_priceOf_1 : decode cX11_priceOf 1 = .ok (.istore_n 2, 1) := by decide +kernel
theorem dX11_priceOf_2 : decode cX11_priceOf 2 = .ok (.iconst 0, 1) := by decide +kernel
theorem dX11_priceOf_3 : decode cX11_priceOf 3 = .ok (.istore_n 3, 1) := by decide +kernel
theorem dX11_priceOf_4 : decode cX11_priceOf 4 = .ok (.iload_n 3, 1) := by decide +kernel
theorem dX11_priceOf_5 : decode cX11_priceOf 5 = .ok (.bipush 10, 2) := by decide +kernel
theorem dX11_priceOf_7 : decode cX11_priceOf 7 = .ok (.if_icmp .ge 30, 3) := by decide +kernel
theorem dX11_priceOf_10 : decode cX11_priceOf 10 = .ok (.iload_n 2, 1) := by decide +kernel
theorem dX11_priceOf_11 : decode cX11_priceOf 11 = .ok (.iload_n 1, 1) := by decide +kernel
theorem dX11_priceOf_12 : decode cX11_priceOf 12 = .ok (.iload_n 3, 1) := by decide +kernel
theorem dX11_priceOf_13 : decode cX11_priceOf 13 = .ok (.invokestatic 325, 3) := by decide +kernel
theorem dX11_priceOf_16 : decode cX11_priceOf 16 = .ok (.ifCond .eq 12, 3) := by decide +kernel
theorem dX11_priceOf_19 : decode cX11_priceOf 19 = .ok (.aload_n 0, 1) := by decide +kernel
theorem dX11_priceOf_20 : decode cX11_priceOf 20 = .ok (.getfield 90, 3) := by decide +kernel
theorem dX11_priceOf_23 : decode cX11_priceOf 23 = .ok (.iload_n 3, 1) := by decide +kernel
theorem dX11_priceOf_24 : decode cX11_priceOf 24 = .ok (.iaload, 1) := by decide +kernel
theorem dX11_priceOf_25 : decode cX11_priceOf 25 = .ok (.goto 4, 3) := by decide +kernel
theorem dX11_priceOf_28 : decode cX11_priceOf 28 = .ok (.iconst 0, 1) := by decide +kernel
theorem dX11_priceOf_29 : decode cX11_priceOf 29 = .ok (.iadd, 1) := by decide +kernel
theorem dX11_priceOf_30 : decode cX11_priceOf 30 = .ok (.istore_n 2, 1) := by decide +kernel
theorem dX11_priceOf_31 : decode cX11_priceOf 31 = .ok (.iinc 3 1, 3) := by decide +kernel
theorem dX11_priceOf_34 : decode cX11_priceOf 34 = .ok (.goto (-30), 3) := by decide +kernel
theorem dX11_priceOf_37 : decode cX11_priceOf 37 = .ok (.iload_n 2, 1) := by decide +kernel
theorem dX11_priceOf_38 : decode cX11_priceOf 38 = .ok (.ireturn, 1) := by decide +kernel
def B_X11_priceOf_29 (Q : Int → st_S → Prop)  (k4 : Int → Int → Int → st_S → Prop) (l1 : Int) (l3 : Int) (v0 : Int) (v1 : Int) (σ : st_S) : Prop := ∀ x9 : Int, x9 = wr (v1 + v0) → ∀ x10 : Int, x10 = wr (l3 + 1) → k4 l1 x9 x10 σ
def L_X11_priceOf_4 (Q : Int → st_S → Prop)   : Nat → Int → Int → Int → st_S → Prop
  | 0 => fun _ _ _ _ => False
  | n + 1 => fun l1 l2 l3 σ => (10 ≤ l3 → Q l2 σ) ∧ (¬ 10 ≤ l3 → wp_X11_isIn l1 l3 σ (fun r11 s12 => (r11 = 0 → B_X11_priceOf_29 Q (L_X11_priceOf_4 Q n) l1 l3 0 l2 s12) ∧ (¬ r11 = 0 → ix l3 10 ∧ B_X11_priceOf_29 Q (L_X11_priceOf_4 Q n) l1 l3 (gI s12 22 (Int.toNat l3)) l2 s12)))
def wp_X11_priceOf (a1 : Int) (σ : st_S) (Q : Int → st_S → Prop) : Prop := ∃ m4 : Nat, L_X11_priceOf_4 Q m4 a1 0 0 σ
set_option maxRecDepth 20000 in
theorem jb_X11_priceOf_29 {X : jj_X} {E : ev_E} {n0 hN : Nat} (hc : Cx X E cX11_priceOf 4 n0 hN RX11) (hm : eM E = 2) (hr : (xT X).sig.returnType = (some .int)) (hh : 2 ≤ hN) {Q : Int → st_S → Prop} {k4 : Int → Int → Int → st_S → Prop} (hk4 : ∀ {l1 : Int} {l2 : Int} {l3 : Int} (cl1 : wr l1 = l1) (cl2 : wr l2 = l2) (cl3 : wr l3 = l3) {σ : st_S}, k4 l1 l2 l3 σ → J X E 4 n0 0 0 (MQ (xB X) (qI E (n0 + 0) Q) (xA X) (xS X) 0 0 (eF E)) σ 4 [(0, vR E 0), (1, vI l1), (2, vI l2), (3, vI l3)] []) {l1 : Int} {l3 : Int} {v0 : Int} {v1 : Int} (cl1 : wr l1 = l1) (cl3 : wr l3 = l3) (cv0 : wr v0 = v0) {σ : st_S} (h : B_X11_priceOf_29 Q k4 l1 l3 v0 v1 σ) : J X E 4 n0 0 0 (MQ (xB X) (qI E (n0 + 0) Q) (xA X) (xS X) 0 0 (eF E)) σ 29 [(0, vR E 0), (1, vI l1), (3, vI l3)] [vI v0, vI v1] := by
  have hh1 : 1 ≤ hN := by omega
  replace h : ∀ x9 : Int, x9 = wr (v1 + v0) → ∀ x10 : Int, x10 = wr (l3 + 1) → k4 l1 x9 x10 σ := h
  refine j_iadd hc dX11_priceOf_29 ?_
  refine j_w (fun x9 ex9 cx9 => ?_)
  replace h := h x9 ex9
  refine j_istore_n (lv' := [(2, vI x9), (0, vR E 0), (1, vI l1), (3, vI l3)]) hc dX11_priceOf_30 rfl (by decide) rfl ?_
  obtain ⟨x10, ex10⟩ : ∃ y : Int, y = wr (l3 + 1) := ⟨_, rfl⟩
  have cx10 : wr x10 = x10 := by rw [ex10]; exact wr_wr _
  replace h := h x10 ex10
  refine j_iinc (lv' := [(3, vI x10), (2, vI x9), (0, vR E 0), (1, vI l1)]) hc 3 dX11_priceOf_31 rfl (by decide) ex10 rfl ?_
  refine j_goto (tgt := 4) hc dX11_priceOf_34 (by decide) ?_
  refine j_sub (lv' := [(0, vR E 0), (1, vI l1), (2, vI x9), (3, vI x10)]) [2, 3, 1, 0] rfl ?_
  exact hk4 cl1 cx9 cx10 h
set_option maxRecDepth 20000 in
theorem jl_X11_priceOf_4 {X : jj_X} {E : ev_E} {n0 hN : Nat} (hc : Cx X E cX11_priceOf 4 n0 hN RX11) (hm : eM E = 2) (hr : (xT X).sig.returnType = (some .int)) (hh : 2 ≤ hN) {Q : Int → st_S → Prop} : ∀ (n : Nat) {l1 : Int} {l2 : Int} {l3 : Int} (cl1 : wr l1 = l1) (cl2 : wr l2 = l2) (cl3 : wr l3 = l3) {σ : st_S}, L_X11_priceOf_4 Q n l1 l2 l3 σ → J X E 4 n0 0 0 (MQ (xB X) (qI E (n0 + 0) Q) (xA X) (xS X) 0 0 (eF E)) σ 4 [(0, vR E 0), (1, vI l1), (2, vI l2), (3, vI l3)] [] := by
  have hh1 : 1 ≤ hN := by omega
  intro n
  induction n with
  | zero => intro l1 l2 l3 cl1 cl2 cl3 σ h; exact h.elim
  | succ n ih =>
    intro l1 l2 l3 cl1 cl2 cl3 σ h
    have hk4 : ∀ {l1 : Int} {l2 : Int} {l3 : Int} (cl1 : wr l1 = l1) (cl2 : wr l2 = l2) (cl3 : wr l3 = l3) {σ : st_S}, L_X11_priceOf_4 Q n l1 l2 l3 σ → J X E 4 n0 0 0 (MQ (xB X) (qI E (n0 + 0) Q) (xA X) (xS X) 0 0 (eF E)) σ 4 [(0, vR E 0), (1, vI l1), (2, vI l2), (3, vI l3)] [] := ih
    replace h : (10 ≤ l3 → Q l2 σ) ∧ (¬ 10 ≤ l3 → wp_X11_isIn l1 l3 σ (fun r11 s12 => (r11 = 0 → B_X11_priceOf_29 Q (L_X11_priceOf_4 Q n) l1 l3 0 l2 s12) ∧ (¬ r11 = 0 → ix l3 10 ∧ B_X11_priceOf_29 Q (L_X11_priceOf_4 Q n) l1 l3 (gI s12 22 (Int.toNat l3)) l2 s12))) := h
    refine j_iload_n hc 3 dX11_priceOf_4 rfl rfl ?_
    refine j_bipush hc dX11_priceOf_5 (by decide) ?_
    refine j_ic_ge hc cl3 (wlit 10 (by decide)) (tgt := 37) dX11_priceOf_7 (by decide) (fun q16 => ?_) (fun q16 => ?_)
    · replace h := h.1 q16
      refine j_iload_n hc 2 dX11_priceOf_37 rfl rfl ?_
      exact j_iret hc hr cl2 h dX11_priceOf_38
    · replace h := h.2 q16
      refine j_iload_n hc 2 dX11_priceOf_10 rfl rfl ?_
      refine j_iload_n hc 1 dX11_priceOf_11 rfl rfl ?_
      refine j_iload_n hc 3 dX11_priceOf_12 rfl rfl ?_
      refine j_sI hc ml_RX11_325 mv_X11_isIn (As := [vI l1, vI l3]) (c_X11_isIn (cx_E hc) hm cl1 cl3 h) rfl (by omega) (by decide) ⟨Nat.zero_le _, Nat.zero_le _⟩ (Nat.le_of_ble_eq_true rfl) rfl dX11_priceOf_13 (fun r11 s12 cr11 h => ?_)
      refine j_if_eq hc cr11 (tgt := 28) dX11_priceOf_16 (by decide) (fun q15 => ?_) (fun q15 => ?_)
      · replace h := h.1 q15
        refine j_iconst hc dX11_priceOf_28 ?_
        refine j_sub (lv' := [(0, vR E 0), (1, vI l1), (3, vI l3)]) [0, 1, 3] rfl ?_
        exact jb_X11_priceOf_29 hc hm hr hh hk4 cl1 cl3 (wlit 0 (by decide)) h
      · replace h := h.2 q15
        refine j_aload_nR hc 0 dX11_priceOf_19 rfl rfl ?_
        refine j_getR (c' := 22) hc fl_RX11_90 rfl rfl (fun hv => (sv_k hv hm rfl)) dX11_priceOf_20 ?_
        refine j_iload_n hc 3 dX11_priceOf_23 rfl rfl ?_
        obtain ⟨b13, h⟩ := h
        refine j_iald (jn := (Int.toNat l3)) hc (fun hv => sv_kl hv hm rfl) cl3 b13 rfl dX11_priceOf_24 (fun cn14 => ?_)
        refine j_goto (tgt := 29) hc dX11_priceOf_25 (by decide) ?_
        refine j_sub (lv' := [(0, vR E 0), (1, vI l1), (3, vI l3)]) [0, 1, 3] rfl ?_
        exact jb_X11_priceOf_29 hc hm hr hh hk4 cl1 cl3 cn14 h
set_option maxRecDepth 20000 in
theorem c_X11_priceOf {l : Launch} {E : ev_E} (hE : Eok E) (hm : eM E = 2) {a1 : Int} (ca1 : wr a1 = a1) {σ : st_S} {Q : Int → st_S → Prop} (h : wp_X11_priceOf a1 σ Q) : cM l yX11_priceOf cX11_priceOf 4 (some .int) E 2 0 0 [vR E 0, vI a1] σ (qI E (gN σ + 0) Q) := by
  refine cM_of (lv := [(0, vR E 0), (1, vI a1)]) (by decide) hE (Nat.le_of_ble_eq_true rfl) (rfl) ?_
  intro X hX hc _ _ hr _ _
  subst hX
  have hh : 2 ≤ 2 := Nat.le_refl _
  have hh1 : 1 ≤ 2 := by omega
  replace h : ∃ m4 : Nat, L_X11_priceOf_4 Q m4 a1 0 0 σ := h
  refine j_iconst hc dX11_priceOf_0 ?_
  refine j_istore_n (lv' := [(2, vI 0), (0, vR E 0), (1, vI a1)]) hc dX11_priceOf_1 rfl (by decide) rfl ?_
  refine j_iconst hc dX11_priceOf_2 ?_
  refine j_istore_n (lv' := [(3, vI 0), (2, vI 0), (0, vR E 0), (1, vI a1)]) hc dX11_priceOf_3 rfl (by decide) rfl ?_
  obtain ⟨n4, h⟩ := h
  refine j_sub (lv' := [(0, vR E 0), (1, vI a1), (2, vI 0), (3, vI 0)]) [2, 3, 1, 0] rfl ?_
  exact jl_X11_priceOf_4 hc hm hr hh n4 ca1 (wlit 0 (by decide)) (wlit 0 (by decide)) h
-- LitStrangersModel.cheapestFrom(III)I
theorem dX11_cheapestFrom_0 : decode cX11_cheapestFrom 0 = .ok (.iload_n 1, 1) := by decide +kernel
theorem dX11_cheapestFrom_1 : decode cX11_cheapestFrom 1 = .ok (.iload_n 3, 1) := by decide +kernel
theorem dX11_cheapestFrom_2 : decode cX11_cheapestFrom 2 = .ok (.if_icmp .ne 5, 3) := by decide +kernel
theorem dX11_cheapestFrom_5 : decode cX11_cheapestFrom 5 = .ok (.iconst 0, 1) := by decide +kernel
theorem dX11_cheapestFrom_6 : decode cX11_cheapestFrom 6 = .ok (.ireturn, 1) := by decide +kernel
theorem dX11_cheapestFrom_7 : decode cX11_cheapestFrom 7 = .ok (.sipush 1024, 3) := by decide +kernel
theorem dX11_cheapestFrom_10 : decode cX11_cheapestFrom 10 = .ok (.iload_n 1, 1) := by decide +kernel
theorem dX11_cheapestFrom_11 : decode cX11_cheapestFrom 11 = .ok (.imul, 1) := by decide +kernel
theorem dX11_cheapestFrom_12 : decode cX11_cheapestFrom 12 = .ok (.iload_n 2, 1) := by decide +kernel
theorem dX11_cheapestFrom_13 : decode cX11_cheapestFrom 13 = .ok (.iadd, 1) := by decide +kernel
theorem dX11_cheapestFrom_14 : decode cX11_cheapestFrom 14 = .ok (.istore 4, 2) := by decide +kernel
theorem dX11_cheapestFrom_16 : decode cX11_cheapestFrom 16 = .ok (.aload_n 0, 1) := by decide +kernel
theorem dX11_cheapestFrom_17 : decode cX11_cheapestFrom 17 = .ok (.getfield 83, 3) := by decide +kernel
theorem dX11_cheapestFrom_20 : decode cX11_cheapestFrom 20 = .ok (.iload 4, 2) := by decide +kernel
theorem dX11_cheapestFrom_22 : decode cX11_cheapestFrom 22 = .ok (.iaload, 1) := by decide +kernel
theorem dX11_cheapestFrom_23 : decode cX11_cheapestFrom 23 = .ok (.iconst (-1), 1) := by decide +kernel
theorem dX11_cheapestFrom_24 : decode cX11_cheapestFrom 24 = .ok (.if_icmp .eq 11, 3) := by decide +kernel
theorem dX11_cheapestFrom_27 : decode cX11_cheapestFrom 27 = .ok (.aload_n 0, 1) := by decide +kernel
theorem dX11_cheapestFrom_28 : decode cX11_cheapestFrom 28 = .ok (.getfield 83, 3) := by decide +kernel
theorem dX11_cheapestFrom_31 : decode cX11_cheapestFrom 31 = .ok (.iload 4, 2) := by decide +kernel
theorem dX11_cheapestFrom_33 : decode cX11_cheapestFrom 33 = .ok (.iaload, 1) := by decide +kernel
theorem dX11_cheapestFrom_34 : decode cX11_cheapestFrom 34 = .ok (.ireturn, 1) := by decide +kernel
theorem dX11_cheapestFrom_35 : decode cX11_cheapestFrom 35 = .ok (.ldc 160, 2) := by decide +kernel
theorem dX11_cheapestFrom_37 : decode cX11_cheapestFrom 37 = .ok (.istore 5, 2) := by decide +kernel
theorem dX11_cheapestFrom_39 : decode cX11_cheapestFrom 39 = .ok (.aload_n 0, 1) := by decide +kernel
theorem dX11_cheapestFrom_40 : decode cX11_cheapestFrom 40 = .ok (.iload_n 1, 1) := by decide +kernel
theorem dX11_cheapestFrom_41 : decode cX11_cheapestFrom 41 = .ok (.iload_n 2, 1) := by decide +kernel
theorem dX11_cheapestFrom_42 : decode cX11_cheapestFrom 42 = .ok (.iconst 0, 1) := by decide +kernel
theorem dX11_cheapestFrom_43 : decode cX11_cheapestFrom 43 = .ok (.invokevirtual 379, 3) := by decide +kernel
theorem dX11_cheapestFrom_46 : decode cX11_cheapestFrom 46 = .ok (.istore 6, 2) := by decide +kernel
theorem dX11_cheapestFrom_48 : decode cX11_cheapestFrom 48 = .ok (.iload 6, 2) := by decide +kernel
theorem dX11_cheapestFrom_50 : decode cX11_cheapestFrom 50 = .ok (.iconst (-1), 1) := by decide +kernel
theorem dX11_cheapestFrom_51 : decode cX11_cheapestFrom 51 = .ok (.if_icmp .eq 42, 3) := by decide +kernel
theorem dX11_cheapestFrom_54 : decode cX11_cheapestFrom 54 = .ok (.iload 5, 2) := by decide +kernel
theorem dX11_cheapestFrom_56 : decode cX11_cheapestFrom 56 = .ok (.aload_n 0, 1) := by decide +kernel
theorem dX11_cheapestFrom_57 : decode cX11_cheapestFrom 57 = .ok (.iload_n 1, 1) := by decide +kernel
theorem dX11_cheapestFrom_58 : decode cX11_cheapestFrom 58 = .ok (.iconst 1, 1) := by decide +kernel
theorem dX11_cheapestFrom_59 : decode cX11_cheapestFrom 59 = .ok (.iadd, 1) := by decide +kernel
theorem dX11_cheapestFrom_60 : decode cX11_cheapestFrom 60 = .ok (.iload_n 2, 1) := by decide +kernel
theorem dX11_cheapestFrom_61 : decode cX11_cheapestFrom 61 = .ok (.iload 6, 2) := by decide +kernel
theorem dX11_cheapestFrom_63 : decode cX11_cheapestFrom 63 = .ok (.ior, 1) := by decide +kernel
theorem dX11_cheapestFrom_64 : decode cX11_cheapestFrom 64 = .ok (.iload_n 3, 1) := by decide +kernel
theorem dX11_cheapestFrom_65 : decode cX11_cheapestFrom 65 = .ok (.invokevirtual 388, 3) := by decide +kernel
theorem dX11_cheapestFrom_68 : decode cX11_cheapestFrom 68 = .ok (.aload_n 0, 1) := by decide +kernel
theorem dX11_cheapestFrom_69 : decode cX11_cheapestFrom 69 = .ok (.iload 6, 2) := by decide +kernel
theorem dX11_cheapestFrom_71 : decode cX11_cheapestFrom 71 = .ok (.invokevirtual 391, 3) := by decide +kernel
theorem dX11_cheapestFrom_74 : decode cX11_cheapestFrom 74 = .ok (.iadd, 1) := by decide +kernel
theorem dX11_cheapestFrom_75 : decode cX11_cheapestFrom 75 = .ok (.invokestatic 337, 3) := by decide +kernel
theorem dX11_cheapestFrom_78 : decode cX11_cheapestFrom 78 = .ok (.istore 5, 2) := by decide +kernel
theorem dX11_cheapestFrom_80 : decode cX11_cheapestFrom 80 = .ok (.aload_n 0, 1) := by decide +kernel
theorem dX11_cheapestFrom_81 : decode cX11_cheapestFrom 81 = .ok (.iload_n 1, 1) := by decide +kernel
theorem dX11_cheapestFrom_82 : decode cX11_cheapestFrom 82 = .ok (.iload_n 2, 1) := by decide +kernel
theorem dX11_cheapestFrom_83 : decode cX11_cheapestFrom 83 = .ok (.iload 6, 2) := by decide +kernel
theorem dX11_cheapestFrom_85 : decode cX11_cheapestFrom 85 = .ok (.invokevirtual 379, 3) := by decide +kernel
theorem dX11_cheapestFrom_88 : decode cX11_cheapestFrom 88 = .ok (.istore 6, 2) := by decide +kernel
theorem dX11_cheapestFrom_90 : decode cX11_cheapestFrom 90 = .ok (.goto (-42), 3) := by decide +kernel
theorem dX11_cheapestFrom_93 : decode cX11_cheapestFrom 93 = .ok (.aload_n 0, 1) := by decide +kernel
theorem dX11_cheapestFrom_94 : decode cX11_cheapestFrom 94 = .ok (.getfield 83, 3) := by decide +kernel
theorem dX11_cheapestFrom_97 : decode cX11_cheapestFrom 97 = .ok (.iload 4, 2) := by decide +kernel
theorem dX11_cheapestFrom_99 : decode cX11_cheapestFrom 99 = .ok (.iload 5, 2) := by decide +kernel
theorem dX11_cheapestFrom_101 : decode cX11_cheapestFrom 101 = .ok (.iastore, 1) := by decide +kernel
theorem dX11_cheapestFrom_102 : decode cX11_cheapestFrom 102 = .ok (.iload 5, 2) := by decide +kernel
theorem dX11_cheapestFrom_104 : decode cX11_cheapestFrom 104 = .ok (.ireturn, 1) := by decide +kernel
def L_X11_cheapestFrom_48 (Q : Int → st_S → Prop) (rc_X11_cheapestFrom : Int → Int → Int → st_S → (Int → st_S → Prop) → Prop)  : Nat → Int → Int → Int → Int → Int → Int → st_S → Prop
  | 0 => fun _ _ _ _ _ _ _ => False
  | n + 1 => fun l1 l2 l3 l4 l5 l6 σ => (l6 = (-1) → ix l4 11264 ∧ ∀ s24 : st_S, s24 = sI σ 20 (Int.toNat l4) l5 → Q l5 s24) ∧ (¬ l6 = (-1) → rc_X11_cheapestFrom (wr (l1 + 1)) (o_or l2 l6) l3 σ (fun r25 s26 => wp_X11_priceOf l6 s26 (fun r27 s28 => wp_X11_lesser l5 (wr (r25 + r27)) s28 (fun r29 s30 => wp_X11_crewIn l1 l2 l6 s30 (fun r31 s32 => (L_X11_cheapestFrom_48 Q rc_X11_cheapestFrom n) l1 l2 l3 l4 r29 r31 s32)))))
def e_X11_cheapestFrom (rc_X11_cheapestFrom : Int → Int → Int → st_S → (Int → st_S → Prop) → Prop) (a1 : Int) (a2 : Int) (a3 : Int) (σ : st_S) (Q : Int → st_S → Prop) : Prop := (¬ a1 = a3 → ∀ x34 : Int, x34 = wr ((1024 * a1) + a2) → ix x34 11264 ∧ (gI σ 20 (Int.toNat x34) = (-1) → wp_X11_crewIn a1 a2 0 σ (fun r37 s38 => ∃ m48 : Nat, L_X11_cheapestFrom_48 Q rc_X11_cheapestFrom m48 a1 a2 a3 x34 1000000 r37 s38)) ∧ (¬ gI σ 20 (Int.toNat x34) = (-1) → ix x34 11264 ∧ Q (gI σ 20 (Int.toNat x34)) σ)) ∧ (a1 = a3 → Q 0 σ)
def G_X11_cheapestFrom : Nat → (Int → Int → Int → st_S → (Int → st_S → Prop) → Prop)
  | 0 => fun _ _ _ _ _ => False
  | d + 1 => e_X11_cheapestFrom ((G_X11_cheapestFrom d))
def wp_X11_cheapestFrom (d : Nat) : Int → Int → Int → st_S → (Int → st_S → Prop) → Prop := (G_X11_cheapestFrom d)
set_option maxRecDepth 20000 in
theorem jl_X11_cheapestFrom_48 {X : jj_X} {E : ev_E} {n0 hN : Nat} (hc : Cx X E cX11_cheapestFrom 7 n0 hN RX11) (hm : eM E = 2) (hr : (xT X).sig.returnType = (some .int)) {d : Nat} (hh : 130 + (d + 1) ≤ hN) {Q : Int → st_S → Prop} {rc_X11_cheapestFrom : Int → Int → Int → st_S → (Int → st_S → Prop) → Prop} (hr_X11_cheapestFrom : ∀ {l : Launch} {E : ev_E} (hE : Eok E) (hm : eM E = 2) {a1 : Int} {a2 : Int} {a3 : Int} (ca1 : wr a1 = a1) (ca2 : wr a2 = a2) (ca3 : wr a3 = a3) {σ : st_S} {Q : Int → st_S → Prop}, rc_X11_cheapestFrom a1 a2 a3 σ Q → cM l yX11_cheapestFrom cX11_cheapestFrom 7 (some .int) E (130 + d) 0 0 [vR E 0, vI a1, vI a2, vI a3] σ (qI E (gN σ + 0) Q)) : ∀ (n : Nat) {l1 : Int} {l2 : Int} {l3 : Int} {l4 : Int} {l5 : Int} {l6 : Int} (cl1 : wr l1 = l1) (cl2 : wr l2 = l2) (cl3 : wr l3 = l3) (cl4 : wr l4 = l4) (cl5 : wr l5 = l5) (cl6 : wr l6 = l6) {σ : st_S}, L_X11_cheapestFrom_48 Q rc_X11_cheapestFrom n l1 l2 l3 l4 l5 l6 σ → J X E 7 n0 0 0 (MQ (xB X) (qI E (n0 + 0) Q) (xA X) (xS X) 0 0 (eF E)) σ 48 [(0, vR E 0), (1, vI l1), (2, vI l2), (3, vI l3), (4, vI l4), (5, vI l5), (6, vI l6)] [] := by
  have hh1 : 1 ≤ hN := by omega
  intro n
  induction n with
  | zero => intro l1 l2 l3 l4 l5 l6 cl1 cl2 cl3 cl4 cl5 cl6 σ h; exact h.elim
  | succ n ih =>
    intro l1 l2 l3 l4 l5 l6 cl1 cl2 cl3 cl4 cl5 cl6 σ h
    have hk48 : ∀ {l1 : Int} {l2 : Int} {l3 : Int} {l4 : Int} {l5 : Int} {l6 : Int} (cl1 : wr l1 = l1) (cl2 : wr l2 = l2) (cl3 : wr l3 = l3) (cl4 : wr l4 = l4) (cl5 : wr l5 = l5) (cl6 : wr l6 = l6) {σ : st_S}, L_X11_cheapestFrom_48 Q rc_X11_cheapestFrom n l1 l2 l3 l4 l5 l6 σ → J X E 7 n0 0 0 (MQ (xB X) (qI E (n0 + 0) Q) (xA X) (xS X) 0 0 (eF E)) σ 48 [(0, vR E 0), (1, vI l1), (2, vI l2), (3, vI l3), (4, vI l4), (5, vI l5), (6, vI l6)] [] := ih
    replace h : (l6 = (-1) → ix l4 11264 ∧ ∀ s24 : st_S, s24 = sI σ 20 (Int.toNat l4) l5 → Q l5 s24) ∧ (¬ l6 = (-1) → rc_X11_cheapestFrom (wr (l1 + 1)) (o_or l2 l6) l3 σ (fun r25 s26 => wp_X11_priceOf l6 s26 (fun r27 s28 => wp_X11_lesser l5 (wr (r25 + r27)) s28 (fun r29 s30 => wp_X11_crewIn l1 l2 l6 s30 (fun r31 s32 => (L_X11_cheapestFrom_48 Q rc_X11_cheapestFrom n) l1 l2 l3 l4 r29 r31 s32))))) := h
    refine j_iload hc 6 dX11_cheapestFrom_48 rfl ?_
    refine j_iconst hc dX11_cheapestFrom_50 ?_
    refine j_ic_eq hc cl6 (wlit (-1) (by decide)) (tgt := 93) dX11_cheapestFrom_51 (by decide) (fun q33 => ?_) (fun q33 => ?_)
    · replace h := h.1 q33
      refine j_aload_nR hc 0 dX11_cheapestFrom_93 rfl rfl ?_
      refine j_getR (c' := 20) hc fl_RX11_83 rfl rfl (fun hv => (sv_k hv hm rfl)) dX11_cheapestFrom_94 ?_
      refine j_iload hc 4 dX11_cheapestFrom_97 rfl ?_
      refine j_iload hc 5 dX11_cheapestFrom_99 rfl ?_
      obtain ⟨b23, h⟩ := h
      refine j_iast (jn := (Int.toNat l4)) hc (fun hv => sv_kl hv hm rfl) cl4 b23 rfl cl5 dX11_cheapestFrom_101 (fun s24 es24 => ?_)
      replace h := h s24 es24
      refine j_iload hc 5 dX11_cheapestFrom_102 rfl ?_
      exact j_iret hc hr cl5 h dX11_cheapestFrom_104
    · replace h := h.2 q33
      refine j_iload hc 5 dX11_cheapestFrom_54 rfl ?_
      refine j_aload_nR hc 0 dX11_cheapestFrom_56 rfl rfl ?_
      refine j_iload_n hc 1 dX11_cheapestFrom_57 rfl rfl ?_
      refine j_iconst hc dX11_cheapestFrom_58 ?_
      refine j_iadd hc dX11_cheapestFrom_59 ?_
      refine j_iload_n hc 2 dX11_cheapestFrom_60 rfl rfl ?_
      refine j_iload hc 6 dX11_cheapestFrom_61 rfl ?_
      refine j_ior hc dX11_cheapestFrom_63 ?_
      refine j_iload_n hc 3 dX11_cheapestFrom_64 rfl rfl ?_
      refine j_vI hc (k := 11) (by decide) (fun hv => Or.inl (sv_k hv hm rfl)) ml_RX11_388 mv_X11_cheapestFrom (As := [vI (wr (l1 + 1)), vI (o_or l2 l6), vI l3]) (hr_X11_cheapestFrom (cx_E hc) hm (wr_wr _) (cn_or _ _) cl3 h) rfl (by omega) (by decide) ⟨Nat.zero_le _, Nat.zero_le _⟩ (Nat.le_of_ble_eq_true rfl) (by simp only [vI_wr, vL_wl]; rfl) dX11_cheapestFrom_65 (fun r25 s26 cr25 h => ?_)
      refine j_aload_nR hc 0 dX11_cheapestFrom_68 rfl rfl ?_
      refine j_iload hc 6 dX11_cheapestFrom_69 rfl ?_
      refine j_vI hc (k := 11) (by decide) (fun hv => Or.inl (sv_k hv hm rfl)) ml_RX11_391 mv_X11_priceOf (As := [vI l6]) (c_X11_priceOf (cx_E hc) hm cl6 h) rfl (by omega) (by decide) ⟨Nat.zero_le _, Nat.zero_le _⟩ (Nat.le_of_ble_eq_true rfl) rfl dX11_cheapestFrom_71 (fun r27 s28 cr27 h => ?_)
      refine j_iadd hc dX11_cheapestFrom_74 ?_
      refine j_sI hc ml_RX11_337 mv_X11_lesser (As := [vI l5, vI (wr (r25 + r27))]) (c_X11_lesser (cx_E hc) hm cl5 (wr_wr _) h) rfl (by omega) (by decide) ⟨Nat.zero_le _, Nat.zero_le _⟩ (Nat.le_of_ble_eq_true rfl) (by simp only [vI_wr, vL_wl]; rfl) dX11_cheapestFrom_75 (fun r29 s30 cr29 h => ?_)
      refine j_istore (lv' := [(5, vI r29), (0, vR E 0), (1, vI l1), (2, vI l2), (3, vI l3), (4, vI l4), (6, vI l6)]) hc dX11_cheapestFrom_78 (by decide) rfl ?_
      refine j_aload_nR hc 1 dX11_cheapestFrom_80 rfl rfl ?_
      refine j_iload_n hc 2 dX11_cheapestFrom_81 rfl rfl ?_
      refine j_iload_n hc 3 dX11_cheapestFrom_82 rfl rfl ?_
      refine j_iload hc 6 dX11_cheapestFrom_83 rfl ?_
      refine j_vI hc (k := 11) (by decide) (fun hv => Or.inl (sv_k hv hm rfl)) ml_RX11_379 mv_X11_crewIn (As := [vI l1, vI l2, vI l6]) (c_X11_crewIn (cx_E hc) hm cl1 cl2 cl6 h) rfl (by omega) (by decide) ⟨Nat.zero_le _, Nat.zero_le _⟩ (Nat.le_of_ble_eq_true rfl) rfl dX11_cheapestFrom_85 (fun r31 s32 cr31 h => ?_)
      refine j_istore (lv' := [(6, vI r31), (5, vI r29), (0, vR E 0), (1, vI l1), (2, vI l2), (3, vI l3), (4, vI l4)]) hc dX11_cheapestFrom_88 (by decide) rfl ?_
      refine j_goto (tgt := 48) hc dX11_cheapestFrom_90 (by decide) ?_
      refine j_sub (lv' := [(0, vR E 0), (1, vI l1), (2, vI l2), (3, vI l3), (4, vI l4), (5, vI r29), (6, vI r31)]) [2, 3, 4, 5, 6, 1, 0] rfl ?_
      exact hk48 cl1 cl2 cl3 cl4 cr29 cr31 h
set_option maxRecDepth 20000 in
theorem ce_X11_cheapestFrom {d : Nat} {rc_X11_cheapestFrom : Int → Int → Int → st_S → (Int → st_S → Prop) → Prop} (hr_X11_cheapestFrom : ∀ {l : Launch} {E : ev_E} (hE : Eok E) (hm : eM E = 2) {a1 : Int} {a2 : Int} {a3 : Int} (ca1 : wr a1 = a1) (ca2 : wr a2 = a2) (ca3 : wr a3 = a3) {σ : st_S} {Q : Int → st_S → Prop}, rc_X11_cheapestFrom a1 a2 a3 σ Q → cM l yX11_cheapestFrom cX11_cheapestFrom 7 (some .int) E (130 + d) 0 0 [vR E 0, vI a1, vI a2, vI a3] σ (qI E (gN σ + 0) Q)) {l : Launch} {E : ev_E} (hE : Eok E) (hm : eM E = 2) {a1 : Int} {a2 : Int} {a3 : Int} (ca1 : wr a1 = a1) (ca2 : wr a2 = a2) (ca3 : wr a3 = a3) {σ : st_S} {Q : Int → st_S → Prop} (h : e_X11_cheapestFrom rc_X11_cheapestFrom a1 a2 a3 σ Q) : cM l yX11_cheapestFrom cX11_cheapestFrom 7 (some .int) E (130 + (d + 1)) 0 0 [vR E 0, vI a1, vI a2, vI a3] σ (qI E (gN σ + 0) Q) := by
  refine cM_of (lv := [(0, vR E 0), (1, vI a1), (2, vI a2), (3, vI a3)]) (by decide) hE (Nat.le_of_ble_eq_true rfl) (rfl) ?_
  intro X hX hc _ _ hr _ _
  subst hX
  have hh : 130 + (d + 1) ≤ 130 + (d + 1) := Nat.le_refl _
  have hh1 : 1 ≤ 130 + (d + 1) := by omega
  replace h : (¬ a1 = a3 → ∀ x34 : Int, x34 = wr ((1024 * a1) + a2) → ix x34 11264 ∧ (gI σ 20 (Int.toNat x34) = (-1) → wp_X11_crewIn a1 a2 0 σ (fun r37 s38 => ∃ m48 : Nat, L_X11_cheapestFrom_48 Q rc_X11_cheapestFrom m48 a1 a2 a3 x34 1000000 r37 s38)) ∧ (¬ gI σ 20 (Int.toNat x34) = (-1) → ix x34 11264 ∧ Q (gI σ 20 (Int.toNat x34)) σ)) ∧ (a1 = a3 → Q 0 σ) := h
  refine j_iload_n hc 1 dX11_cheapestFrom_0 rfl rfl ?_
  refine j_iload_n hc 3 dX11_cheapestFrom_1 rfl rfl ?_
  refine j_ic_ne hc ca1 ca3 (tgt := 7) dX11_cheapestFrom_2 (by decide) (fun q42 => ?_) (fun q42 => ?_)
  · replace h := h.1 q42
    refine j_sipush hc dX11_cheapestFrom_7 (by decide) ?_
    refine j_iload_n hc 1 dX11_cheapestFrom_10 rfl rfl ?_
    refine j_imul hc dX11_cheapestFrom_11 ?_
    refine j_iload_n hc 2 dX11_cheapestFrom_12 rfl rfl ?_
    refine j_iadd hc dX11_cheapestFrom_13 ?_
    refine j_w (fun x34 ex34 cx34 => ?_)
    replace h := h x34 ex34
    refine j_istore (lv' := [(4, vI x34), (0, vR E 0), (1, vI a1), (2, vI a2), (3, vI a3)]) hc dX11_cheapestFrom_14 (by decide) rfl ?_
    refine j_aload_nR hc 1 dX11_cheapestFrom_16 rfl rfl ?_
    refine j_getR (c' := 20) hc fl_RX11_83 rfl rfl (fun hv => (sv_k hv hm rfl)) dX11_cheapestFrom_17 ?_
    refine j_iload hc 0 dX11_cheapestFrom_20 rfl ?_
    obtain ⟨b35, h⟩ := h
    refine j_iald (jn := (Int.toNat x34)) hc (fun hv => sv_kl hv hm rfl) cx34 b35 rfl dX11_cheapestFrom_22 (fun cn36 => ?_)
    refine j_iconst hc dX11_cheapestFrom_23 ?_
    refine j_ic_eq hc cn36 (wlit (-1) (by decide)) (tgt := 35) dX11_cheapestFrom_24 (by decide) (fun q41 => ?_) (fun q41 => ?_)
    · replace h := h.1 q41
      refine j_ldc (x := 1000000) hc (by decide) kc_RX11_160 dX11_cheapestFrom_35 ?_
      refine j_istore (lv' := [(5, vI 1000000), (4, vI x34), (0, vR E 0), (1, vI a1), (2, vI a2), (3, vI a3)]) hc dX11_cheapestFrom_37 (by decide) rfl ?_
      refine j_aload_nR hc 2 dX11_cheapestFrom_39 rfl rfl ?_
      refine j_iload_n hc 3 dX11_cheapestFrom_40 rfl rfl ?_
      refine j_iload_n hc 4 dX11_cheapestFrom_41 rfl rfl ?_
      refine j_iconst hc dX11_cheapestFrom_42 ?_
      refine j_vI hc (k := 11) (by decide) (fun hv => Or.inl (sv_k hv hm rfl)) ml_RX11_379 mv_X11_crewIn (As := [vI a1, vI a2, vI 0]) (c_X11_crewIn (cx_E hc) hm ca1 ca2 (wlit 0 (by decide)) h) rfl (by omega) (by decide) ⟨Nat.zero_le _, Nat.zero_le _⟩ (Nat.le_of_ble_eq_true rfl) rfl dX11_cheapestFrom_43 (fun r37 s38 cr37 h => ?_)
      refine j_istore (lv' := [(6, vI r37), (5, vI 1000000), (4, vI x34), (0, vR E 0), (1, vI a1), (2, vI a2), (3, vI a3)]) hc dX11_cheapestFrom_46 (by decide) rfl ?_
      obtain ⟨n48, h⟩ := h
      refine j_sub (lv' := [(0, vR E 0), (1, vI a1), (2, vI a2), (3, vI a3), (4, vI x34), (5, vI 1000000), (6, vI r37)]) [3, 4, 5, 6, 2, 1, 0] rfl ?_
      exact jl_X11_cheapestFrom_48 hc hm hr hh hr_X11_cheapestFrom n48 ca1 ca2 ca3 cx34 (wlit 1000000 (by decide)) cr37 h
    · replace h := h.2 q41
      refine j_aload_nR hc 1 dX11_cheapestFrom_27 rfl rfl ?_
      refine j_getR (c' := 20) hc fl_RX11_83 rfl rfl (fun hv => (sv_k hv hm rfl)) dX11_cheapestFrom_28 ?_
      refine j_iload hc 0 dX11_cheapestFrom_31 rfl ?_
      obtain ⟨b39, h⟩ := h
      refine j_iald (jn := (Int.toNat x34)) hc (fun hv => sv_kl hv hm rfl) cx34 b39 rfl dX11_cheapestFrom_33 (fun cn40 => ?_)
      exact j_iret hc hr cn40 h dX11_cheapestFrom_34
  · replace h := h.2 q42
    refine j_iconst hc dX11_cheapestFrom_5 ?_
    exact j_iret hc hr (wlit 0 (by decide)) h dX11_cheapestFrom_6
theorem ca_X11_cheapestFrom : ∀ d : Nat, (∀ {l : Launch} {E : ev_E} (hE : Eok E) (hm : eM E = 2) {a1 : Int} {a2 : Int} {a3 : Int} (ca1 : wr a1 = a1) (ca2 : wr a2 = a2) (ca3 : wr a3 = a3) {σ : st_S} {Q : Int → st_S → Prop}, wp_X11_cheapestFrom d a1 a2 a3 σ Q → cM l yX11_cheapestFrom cX11_cheapestFrom 7 (some .int) E (130 + d) 0 0 [vR E 0, vI a1, vI a2, vI a3] σ (qI E (gN σ + 0) Q)) := by
  intro d
  induction d with
  | zero => exact (fun {l} {E} hE hm {a1} {a2} {a3} ca1 ca2 ca3 {σ} {Q} h => h.elim)
  | succ d ih =>
    have q0 := @ih
    exact (fun {l} {E} hE hm {a1} {a2} {a3} ca1 ca2 ca3 {σ} {Q} h => ce_X11_cheapestFrom (d := d) (rc_X11_cheapestFrom := wp_X11_cheapestFrom d) @q0 hE hm ca1 ca2 ca3 h)
theorem c_X11_cheapestFrom {l : Launch} {E : ev_E} (hE : Eok E) (hm : eM E = 2) (d : Nat) {a1 : Int} {a2 : Int} {a3 : Int} (ca1 : wr a1 = a1) (ca2 : wr a2 = a2) (ca3 : wr a3 = a3) {σ : st_S} {Q : Int → st_S → Prop} : wp_X11_cheapestFrom d a1 a2 a3 σ Q → cM l yX11_cheapestFrom cX11_cheapestFrom 7 (some .int) E (130 + d) 0 0 [vR E 0, vI a1, vI a2, vI a3] σ (qI E (gN σ + 0) Q) := fun h => (ca_X11_cheapestFrom d) hE hm ca1 ca2 ca3 h
-- LitStrangersModel.cheap(II)I
theorem dX11_cheap_0 : decode cX11_cheap 0 = .ok (.iload_n 1, 1) := by decide +kernel
theorem dX11_cheap_1 : decode cX11_cheap 1 = .ok (.iconst 1, 1) := by decide +kernel
theorem dX11_cheap_2 : decode cX11_cheap 2 = .ok (.bipush 10, 2) := by decide +kernel
theorem dX11_cheap_4 : decode cX11_cheap 4 = .ok (.invokestatic 106, 3) := by decide +kernel
theorem dX11_cheap_7 : decode cX11_cheap 7 = .ok (.ifCond .eq 14, 3) := by decide +kernel
theorem dX11_cheap_10 : decode cX11_cheap 10 = .ok (.iload_n 2, 1) := by decide +kernel
theorem dX11_cheap_11 : decode cX11_cheap 11 = .ok (.iconst (-1), 1) := by decide +kernel
theorem dX11_cheap_12 : decode cX11_cheap 12 = .ok (.iload_n 1, 1) := by decide +kernel
theorem dX11_cheap_13 : decode cX11_cheap 13 = .ok (.iconst 1, 1) := by decide +kernel
theorem dX11_cheap_14 : decode cX11_cheap 14 = .ok (.isub, 1) := by decide +kernel
theorem dX11_cheap_15 : decode cX11_cheap 15 = .ok (.invokestatic 106, 3) := by decide +kernel
theorem dX11_cheap_18 : decode cX11_cheap 18 = .ok (.ifCond .ne 5, 3) := by decide +kernel
theorem dX11_cheap_21 : decode cX11_cheap 21 = .ok (.iconst (-1), 1) := by decide +kernel
theorem dX11_cheap_22 : decode cX11_cheap 22 = .ok (.ireturn, 1) := by decide +kernel
theorem dX11_cheap_23 : decode cX11_cheap 23 = .ok (.aload_n 0, 1) := by decide +kernel
theorem dX11_cheap_24 : decode cX11_cheap 24 = .ok (.invokevirtual 385, 3) := by decide +kernel
theorem dX11_cheap_27 : decode cX11_cheap 27 = .ok (.iconst 0, 1) := by decide +kernel
theorem dX11_cheap_28 : decode cX11_cheap 28 = .ok (.istore_n 3, 1) := by decide +kernel
theorem dX11_cheap_29 : decode cX11_cheap 29 = .ok (.iload_n 3, 1) := by decide +kernel
theorem dX11_cheap_30 : decode cX11_cheap 30 = .ok (.sipush 11264, 3) := by decide +kernel
theorem dX11_cheap_33 : decode cX11_cheap 33 = .ok (.if_icmp .ge 16, 3) := by decide +kernel
theorem dX11_cheap_36 : decode cX11_cheap 36 = .ok (.aload_n 0, 1) := by decide +kernel
theorem dX11_cheap_37 : decode cX11_cheap 37 = .ok (.getfield 83, 3) := by decide +kernel
theorem dX11_cheap_40 : decode cX11_cheap 40 = .ok (.iload_n 3, 1) := by decide +kernel
theorem dX11_cheap_41 : decode cX11_cheap 41 = .ok (.iconst (-1), 1) := by decide +kernel
theorem dX11_cheap_42 : decode cX11_cheap 42 = .ok (.iastore, 1) := by decide +kernel
theorem dX11_cheap_43 : decode cX11_cheap 43 = .ok (.iinc 3 1, 3) := by decide +kernel
theorem dX11_cheap_46 : decode cX11_cheap 46 = .ok (.goto (-17), 3) := by decide +kernel
theorem dX11_cheap_49 : decode cX11_cheap 49 = .ok (.iconst 0, 1) := by decide +kernel
theorem dX11_cheap_50 : decode cX11_cheap 50 = .ok (.istore_n 3, 1) := by decide +kernel
theorem dX11_cheap_51 : decode cX11_cheap 51 = .ok (.iload_n 3, 1) := by decide +kernel
theorem dX11_cheap_52 : decode cX11_cheap 52 = .ok (.bipush 10, 2) := by decide +kernel
theorem dX11_cheap_54 : decode cX11_cheap 54 = .ok (.if_icmp .ge 43, 3) := by decide +kernel
theorem dX11_cheap_57 : decode cX11_cheap 57 = .ok (.aload_n 0, 1) := by decide +kernel
theorem dX11_cheap_58 : decode cX11_cheap 58 = .ok (.getfield 90, 3) := by decide +kernel
theorem dX11_cheap_61 : decode cX11_cheap 61 = .ok (.iload_n 3, 1) := by decide +kernel
theorem dX11_cheap_62 : decode cX11_cheap 62 = .ok (.aload_n 0, 1) := by decide +kernel
theorem dX11_cheap_63 : decode cX11_cheap 63 = .ok (.iload_n 3, 1) := by decide +kernel
theorem dX11_cheap_64 : decode cX11_cheap 64 = .ok (.invokevirtual 128, 3) := by decide +kernel
theorem dX11_cheap_67 : decode cX11_cheap 67 = .ok (.ifCond .eq 22, 3) := by decide +kernel
theorem dX11_cheap_70 : decode cX11_cheap 70 = .ok (.aload_n 0, 1) := by decide +kernel
theorem dX11_cheap_71 : decode cX11_cheap 71 = .ok (.getfield 24, 3) := by decide +kernel
theorem dX11_cheap_74 : decode cX11_cheap 74 = .ok (.iconst 0, 1) := by decide +kernel
theorem dX11_cheap_75 : decode cX11_cheap 75 = .ok (.iload_n 3, 1) := by decide +kernel
theorem dX11_cheap_76 : decode cX11_cheap 76 = .ok (.iadd, 1) := by decide +kernel
theorem dX11_cheap_77 : decode cX11_cheap 77 = .ok (.iaload, 1) := by decide +kernel
theorem dX11_cheap_78 : decode cX11_cheap 78 = .ok (.ifCond .ne 11, 3) := by decide +kernel
theorem dX11_cheap_81 : decode cX11_cheap 81 = .ok (.aload_n 0, 1) := by decide +kernel
theorem dX11_cheap_82 : decode cX11_cheap 82 = .ok (.iload_n 3, 1) := by decide +kernel
theorem dX11_cheap_83 : decode cX11_cheap 83 = .ok (.invokevirtual 309, 3) := by decide +kernel
theorem dX11_cheap_86 : decode cX11_cheap 86 = .ok (.goto 4, 3) := by decide +kernel
theorem dX11_cheap_89 : decode cX11_cheap 89 = .ok (.iconst 0, 1) := by decide +kernel
theorem dX11_cheap_90 : decode cX11_cheap 90 = .ok (.iastore, 1) := by decide +kernel
theorem dX11_cheap_91 : decode cX11_cheap 91 = .ok (.iinc 3 1, 3) := by decide +kernel
theorem dX11_cheap_94 : decode cX11_cheap 94 = .ok (.goto (-43), 3) := by decide +kernel
theorem dX11_cheap_97 : decode cX11_cheap 97 = .ok (.aload_n 0, 1) := by decide +kernel
theorem dX11_cheap_98 : decode cX11_cheap 98 = .ok (.iconst 0, 1) := by decide +kernel
theorem dX11_cheap_99 : decode cX11_cheap 99 = .ok (.iconst 0, 1) := by decide +kernel
theorem dX11_cheap_100 : decode cX11_cheap 100 = .ok (.iload_n 1, 1) := by decide +kernel
theorem dX11_cheap_101 : decode cX11_cheap 101 = .ok (.invokevirtual 388, 3) := by decide +kernel
theorem dX11_cheap_104 : decode cX11_cheap 104 = .ok (.istore_n 3, 1) := by decide +kernel
theorem dX11_cheap_105 : decode cX11_cheap 105 = .ok (.iload_n 3, 1) := by decide +kernel
theorem dX11_cheap_106 : decode cX11_cheap 106 = .ok (.ldc 160, 2) := by decide +kernel
theorem dX11_cheap_108 : decode cX11_cheap 108 = .ok (.if_icmp .lt 5, 3) := by decide +kernel
theorem dX11_cheap_111 : decode cX11_cheap 111 = .ok (.iconst (-1), 1) := by decide +kernel
theorem dX11_cheap_112 : decode cX11_cheap 112 = .ok (.ireturn, 1) := by decide +kernel
theorem dX11_cheap_113 : decode cX11_cheap 113 = .ok (.iload_n 2, 1) := by decide +kernel
theorem dX11_cheap_114 : decode cX11_cheap 114 = .ok (.iconst (-1), 1) := by decide +kernel
theorem dX11_cheap_115 : decode cX11_cheap 115 = .ok (.if_icmp .ne 5, 3) := by decide +kernel
theorem dX11_cheap_118 : decode cX11_cheap 118 = .ok (.iload_n 3, 1) := by decide +kernel
theorem dX11_cheap_119 : decode cX11_cheap 119 = .ok (.ireturn, 1) := by decide +kernel
theorem dX11_cheap_120 : decode cX11_cheap 120 = .ok (.iconst 0, 1) := by decide +kernel
theorem dX11_cheap_121 : decode cX11_cheap 121 = .ok (.istore 4, 2) := by decide +kernel
theorem dX11_cheap_123 : decode cX11_cheap 123 = .ok (.iconst 0, 1) := by decide +kernel
theorem dX11_cheap_124 : decode cX11_cheap 124 = .ok (.istore 5, 2) := by decide +kernel
theorem dX11_cheap_126 : decode cX11_cheap 126 = .ok (.aload_n 0, 1) := by decide +kernel
theorem dX11_cheap_127 : decode cX11_cheap 127 = .ok (.iload 5, 2) := by decide +kernel
theorem dX11_cheap_129 : decode cX11_cheap 129 = .ok (.iload 4, 2) := by decide +kernel
theorem dX11_cheap_131 : decode cX11_cheap 131 = .ok (.iload_n 1, 1) := by decide +kernel
theorem dX11_cheap_132 : decode cX11_cheap 132 = .ok (.invokevirtual 388, 3) := by decide +kernel
theorem dX11_cheap_135 : decode cX11_cheap 135 = .ok (.istore 6, 2) := by decide +kernel
theorem dX11_cheap_137 : decode cX11_cheap 137 = .ok (.aload_n 0, 1) := by decide +kernel
theorem dX11_cheap_138 : decode cX11_cheap 138 = .ok (.iload 5, 2) := by decide +kernel
theorem dX11_cheap_140 : decode cX11_cheap 140 = .ok (.iload 4, 2) := by decide +kernel
theorem dX11_cheap_142 : decode cX11_cheap 142 = .ok (.iconst 0, 1) := by decide +kernel
theorem dX11_cheap_143 : decode cX11_cheap 143 = .ok (.invokevirtual 379, 3) := by decide +kernel
theorem dX11_cheap_146 : decode cX11_cheap 146 = .ok (.istore 7, 2) := by decide +kernel
theorem dX11_cheap_148 : decode cX11_cheap 148 = .ok (.aload_n 0, 1) := by decide +kernel
theorem dX11_cheap_149 : decode cX11_cheap 149 = .ok (.iload 5, 2) := by decide +kernel
theorem dX11_cheap_151 : decode cX11_cheap 151 = .ok (.iconst 1, 1) := by decide +kernel
theorem dX11_cheap_152 : decode cX11_cheap 152 = .ok (.iadd, 1) := by decide +kernel
theorem dX11_cheap_153 : decode cX11_cheap 153 = .ok (.iload 4, 2) := by decide +kernel
theorem dX11_cheap_155 : decode cX11_cheap 155 = .ok (.iload 7, 2) := by decide +kernel
theorem dX11_cheap_157 : decode cX11_cheap 157 = .ok (.ior, 1) := by decide +kernel
theorem dX11_cheap_158 : decode cX11_cheap 158 = .ok (.iload_n 1, 1) := by decide +kernel
theorem dX11_cheap_159 : decode cX11_cheap 159 = .ok (.invokevirtual 388, 3) := by decide +kernel
theorem dX11_cheap_162 : decode cX11_cheap 162 = .ok (.aload_n 0, 1) := by decide +kernel
theorem dX11_cheap_163 : decode cX11_cheap 163 = .ok (.iload 7, 2) := by decide +kernel
theorem dX11_cheap_165 : decode cX11_cheap 165 = .ok (.invokevirtual 391, 3) := by decide +kernel
theorem dX11_cheap_168 : decode cX11_cheap 168 = .ok (.iadd, 1) := by decide +kernel
theorem dX11_cheap_169 : decode cX11_cheap 169 = .ok (.iload 6, 2) := by decide +kernel
theorem dX11_cheap_171 : decode cX11_cheap 171 = .ok (.if_icmp .eq 18, 3) := by decide +kernel
theorem dX11_cheap_174 : decode cX11_cheap 174 = .ok (.aload_n 0, 1) := by decide +kernel
theorem dX11_cheap_175 : decode cX11_cheap 175 = .ok (.iload 5, 2) := by decide +kernel
theorem dX11_cheap_177 : decode cX11_cheap 177 = .ok (.iload 4, 2) := by decide +kernel
theorem dX11_cheap_179 : decode cX11_cheap 179 = .ok (.iload 7, 2) := by decide +kernel
theorem dX11_cheap_181 : decode cX11_cheap 181 = .ok (.invokevirtual 379, 3) := by decide +kernel
theorem dX11_cheap_184 : decode cX11_cheap 184 = .ok (.istore 7, 2) := by decide +kernel
theorem dX11_cheap_186 : decode cX11_cheap 186 = .ok (.goto (-38), 3) := by decide +kernel
theorem dX11_cheap_189 : decode cX11_cheap 189 = .ok (.iload 5, 2) := by decide +kernel
theorem dX11_cheap_191 : decode cX11_cheap 191 = .ok (.iload_n 2, 1) := by decide +kernel
theorem dX11_cheap_192 : decode cX11_cheap 192 = .ok (.if_icmp .ne 6, 3) := by decide +kernel
theorem dX11_cheap_195 : decode cX11_cheap 195 = .ok (.iload 7, 2) := by decide +kernel
theorem dX11_cheap_197 : decode cX11_cheap 197 = .ok (.ireturn, 1) := by decide +kernel
theorem dX11_cheap_198 : decode cX11_cheap 198 = .ok (.iload 4, 2) := by decide +kernel
theorem dX11_cheap_200 : decode cX11_cheap 200 = .ok (.iload 7, 2) := by decide +kernel
theorem dX11_cheap_202 : decode cX11_cheap 202 = .ok (.ior, 1) := by decide +kernel
theorem dX11_cheap_203 : decode cX11_cheap 203 = .ok (.istore 4, 2) := by decide +kernel
theorem dX11_cheap_205 : decode cX11_cheap 205 = .ok (.iinc 5 1, 3) := by decide +kernel
theorem dX11_cheap_208 : decode cX11_cheap 208 = .ok (.goto (-82), 3) := by decide +kernel
def B_X11_cheap_21 (Q : Int → st_S → Prop)    (σ : st_S) : Prop := Q (-1) σ
def B_X11_cheap_90 (Q : Int → st_S → Prop)  (k51 : Int → Int → Int → st_S → Prop) (l1 : Int) (l2 : Int) (l3 : Int) (v0 : Int) (v1 : Int) (σ : st_S) : Prop := ix (wr v1) 10 ∧ ∀ s44 : st_S, s44 = sI σ 22 (Int.toNat (wr v1)) v0 → ∀ x45 : Int, x45 = wr (l3 + 1) → k51 l1 l2 x45 s44
def B_X11_cheap_89 (Q : Int → st_S → Prop)  (k51 : Int → Int → Int → st_S → Prop) (l1 : Int) (l2 : Int) (l3 : Int) (v0 : Int) (σ : st_S) : Prop := B_X11_cheap_90 Q k51 l1 l2 l3 0 v0 σ
def L_X11_cheap_148 (Q : Int → st_S → Prop)  (k126 : Int → Int → Int → Int → st_S → Prop) : Nat → Int → Int → Int → Int → Int → Int → st_S → Prop
  | 0 => fun _ _ _ _ _ _ _ => False
  | n + 1 => fun l1 l2 l4 l5 l6 l7 σ => wp_X11_cheapestFrom 13 (wr (l5 + 1)) (o_or l4 l7) l1 σ (fun r46 s47 => wp_X11_priceOf l7 s47 (fun r48 s49 => (wr (r46 + r48) = l6 → (¬ l5 = l2 → ∀ x50 : Int, x50 = o_or l4 l7 → ∀ x51 : Int, x51 = wr (l5 + 1) → k126 l1 l2 x50 x51 s49) ∧ (l5 = l2 → Q l7 s49)) ∧ (¬ wr (r46 + r48) = l6 → wp_X11_crewIn l5 l4 l7 s49 (fun r53 s54 => (L_X11_cheap_148 Q k126 n) l1 l2 l4 l5 l6 r53 s54))))
def L_X11_cheap_126 (Q : Int → st_S → Prop)   : Nat → Int → Int → Int → Int → st_S → Prop
  | 0 => fun _ _ _ _ _ => False
  | n + 1 => fun l1 l2 l4 l5 σ => wp_X11_cheapestFrom 13 l5 l4 l1 σ (fun r56 s57 => wp_X11_crewIn l5 l4 0 s57 (fun r58 s59 => ∃ m148 : Nat, L_X11_cheap_148 Q (L_X11_cheap_126 Q n) m148 l1 l2 l4 l5 r56 r58 s59))
def L_X11_cheap_51 (Q : Int → st_S → Prop)   : Nat → Int → Int → Int → st_S → Prop
  | 0 => fun _ _ _ _ => False
  | n + 1 => fun l1 l2 l3 σ => (10 ≤ l3 → wp_X11_cheapestFrom 13 0 0 l1 σ (fun r60 s61 => (r60 < 1000000 → (¬ l2 = (-1) → ∃ m126 : Nat, L_X11_cheap_126 Q m126 l1 l2 0 0 s61) ∧ (l2 = (-1) → Q r60 s61)) ∧ (¬ r60 < 1000000 → Q (-1) s61))) ∧ (¬ 10 ≤ l3 → wp_X11_isPerson l3 σ (fun r64 s65 => (r64 = 0 → B_X11_cheap_89 Q (L_X11_cheap_51 Q n) l1 l2 l3 l3 s65) ∧ (¬ r64 = 0 → ix (wr (0 + l3)) 5866 ∧ (¬ gI s65 2 (Int.toNat (wr (0 + l3))) = 0 → B_X11_cheap_89 Q (L_X11_cheap_51 Q n) l1 l2 l3 l3 s65) ∧ (gI s65 2 (Int.toNat (wr (0 + l3))) = 0 → wp_X11_costsNow l3 s65 (fun r68 s69 => B_X11_cheap_90 Q (L_X11_cheap_51 Q n) l1 l2 l3 r68 l3 s69)))))
def L_X11_cheap_29 (Q : Int → st_S → Prop)   : Nat → Int → Int → Int → st_S → Prop
  | 0 => fun _ _ _ _ => False
  | n + 1 => fun l1 l2 l3 σ => (11264 ≤ l3 → ∃ m51 : Nat, L_X11_cheap_51 Q m51 l1 l2 0 σ) ∧ (¬ 11264 ≤ l3 → ix l3 11264 ∧ ∀ s74 : st_S, s74 = sI σ 20 (Int.toNat l3) (-1) → ∀ x75 : Int, x75 = wr (l3 + 1) → (L_X11_cheap_29 Q n) l1 l2 x75 s74)
def wp_X11_cheap (a1 : Int) (a2 : Int) (σ : st_S) (Q : Int → st_S → Prop) : Prop := wp_X11_lies a1 1 10 σ (fun r77 s78 => (r77 = 0 → B_X11_cheap_21 Q s78) ∧ (¬ r77 = 0 → wp_X11_lies a2 (-1) (wr (a1 - 1)) s78 (fun r79 s80 => (¬ r79 = 0 → wp_X11_looks s80 (fun s82 => ∃ m29 : Nat, L_X11_cheap_29 Q m29 a1 a2 0 s82)) ∧ (r79 = 0 → B_X11_cheap_21 Q s80))))
set_option maxRecDepth 20000 in
theorem jb_X11_cheap_21 {X : jj_X} {E : ev_E} {n0 hN : Nat} (hc : Cx X E cX11_cheap 8 n0 hN RX11) (hm : eM E = 2) (hr : (xT X).sig.returnType = (some .int)) (hh : 144 ≤ hN) {Q : Int → st_S → Prop} {σ : st_S} (h : B_X11_cheap_21 Q σ) : J X E 8 n0 0 0 (MQ (xB X) (qI E (n0 + 0) Q) (xA X) (xS X) 0 0 (eF E)) σ 21 [] [] := by
  have hh1 : 1 ≤ hN := by omega
  replace h : Q (-1) σ := h
  refine j_iconst hc dX11_cheap_21 ?_
  exact j_iret hc hr (wlit (-1) (by decide)) h dX11_cheap_22
set_option maxRecDepth 20000 in
theorem jb_X11_cheap_90 {X : jj_X} {E : ev_E} {n0 hN : Nat} (hc : Cx X E cX11_cheap 8 n0 hN RX11) (hm : eM E = 2) (hr : (xT X).sig.returnType = (some .int)) (hh : 144 ≤ hN) {Q : Int → st_S → Prop} {k51 : Int → Int → Int → st_S → Prop} (hk51 : ∀ {l1 : Int} {l2 : Int} {l3 : Int} (cl1 : wr l1 = l1) (cl2 : wr l2 = l2) (cl3 : wr l3 = l3) {σ : st_S}, k51 l1 l2 l3 σ → J X E 8 n0 0 0 (MQ (xB X) (qI E (n0 + 0) Q) (xA X) (xS X) 0 0 (eF E)) σ 51 [(0, vR E 0), (1, vI l1), (2, vI l2), (3, vI l3)] []) {l1 : Int} {l2 : Int} {l3 : Int} {v0 : Int} {v1 : Int} (cl1 : wr l1 = l1) (cl2 : wr l2 = l2) (cl3 : wr l3 = l3) (cv0 : wr v0 = v0) {σ : st_S} (h : B_X11_cheap_90 Q k51 l1 l2 l3 v0 v1 σ) : J X E 8 n0 0 0 (MQ (xB X) (qI E (n0 + 0) Q) (xA X) (xS X) 0 0 (eF E)) σ 90 [(0, vR E 0), (1, vI l1), (2, vI l2), (3, vI l3)] [vI v0, vI v1, vR E 22] := by
  have hh1 : 1 ≤ hN := by omega
  replace h : ix (wr v1) 10 ∧ ∀ s44 : st_S, s44 = sI σ 22 (Int.toNat (wr v1)) v0 → ∀ x45 : Int, x45 = wr (l3 + 1) → k51 l1 l2 x45 s44 := h
  obtain ⟨b43, h⟩ := h
  refine j_iast (jn := (Int.toNat (wr v1))) hc (fun hv => sv_kl hv hm rfl) rfl b43 rfl cv0 dX11_cheap_90 (fun s44 es44 => ?_)
  replace h := h s44 es44
  obtain ⟨x45, ex45⟩ : ∃ y : Int, y = wr (l3 + 1) := ⟨_, rfl⟩
  have cx45 : wr x45 = x45 := by rw [ex45]; exact wr_wr _
  replace h := h x45 ex45
  refine j_iinc (lv' := [(3, vI x45), (0, vR E 0), (1, vI l1), (2, vI l2)]) hc 3 dX11_cheap_91 rfl (by decide) ex45 rfl ?_
  refine j_goto (tgt := 51) hc dX11_cheap_94 (by decide) ?_
  refine j_sub (lv' := [(0, vR E 0), (1, vI l1), (2, vI l2), (3, vI x45)]) [1, 2, 3, 0] rfl ?_
  exact hk51 cl1 cl2 cx45 h
set_option maxRecDepth 20000 in
theorem jb_X11_cheap_89 {X : jj_X} {E : ev_E} {n0 hN : Nat} (hc : Cx X E cX11_cheap 8 n0 hN RX11) (hm : eM E = 2) (hr : (xT X).sig.returnType = (some .int)) (hh : 144 ≤ hN) {Q : Int → st_S → Prop} {k51 : Int → Int → Int → st_S → Prop} (hk51 : ∀ {l1 : Int} {l2 : Int} {l3 : Int} (cl1 : wr l1 = l1) (cl2 : wr l2 = l2) (cl3 : wr l3 = l3) {σ : st_S}, k51 l1 l2 l3 σ → J X E 8 n0 0 0 (MQ (xB X) (qI E (n0 + 0) Q) (xA X) (xS X) 0 0 (eF E)) σ 51 [(0, vR E 0), (1, vI l1), (2, vI l2), (3, vI l3)] []) {l1 : Int} {l2 : Int} {l3 : Int} {v0 : Int} (cl1 : wr l1 = l1) (cl2 : wr l2 = l2) (cl3 : wr l3 = l3) (cv0 : wr v0 = v0) {σ : st_S} (h : B_X11_cheap_89 Q k51 l1 l2 l3 v0 σ) : J X E 8 n0 0 0 (MQ (xB X) (qI E (n0 + 0) Q) (xA X) (xS X) 0 0 (eF E)) σ 89 [(0, vR E 0), (1, vI l1), (2, vI l2), (3, vI l3)] [vI v0, vR E 22] := by
  have hh1 : 1 ≤ hN := by omega
  replace h : B_X11_cheap_90 Q k51 l1 l2 l3 0 v0 σ := h
  refine j_iconst hc dX11_cheap_89 ?_
  refine j_sub (lv' := [(0, vR E 0), (1, vI l1), (2, vI l2), (3, vI l3)]) [0, 1, 2, 3] rfl ?_
  exact jb_X11_cheap_90 hc hm hr hh hk51 cl1 cl2 cl3 (wlit 0 (by decide)) h
set_option maxRecDepth 20000 in
theorem jl_X11_cheap_148 {X : jj_X} {E : ev_E} {n0 hN : Nat} (hc : Cx X E cX11_cheap 8 n0 hN RX11) (hm : eM E = 2) (hr : (xT X).sig.returnType = (some .int)) (hh : 144 ≤ hN) {Q : Int → st_S → Prop} {k126 : Int → Int → Int → Int → st_S → Prop} (hk126 : ∀ {l1 : Int} {l2 : Int} {l4 : Int} {l5 : Int} (cl1 : wr l1 = l1) (cl2 : wr l2 = l2) (cl4 : wr l4 = l4) (cl5 : wr l5 = l5) {σ : st_S}, k126 l1 l2 l4 l5 σ → J X E 8 n0 0 0 (MQ (xB X) (qI E (n0 + 0) Q) (xA X) (xS X) 0 0 (eF E)) σ 126 [(0, vR E 0), (1, vI l1), (2, vI l2), (4, vI l4), (5, vI l5)] []) : ∀ (n : Nat) {l1 : Int} {l2 : Int} {l4 : Int} {l5 : Int} {l6 : Int} {l7 : Int} (cl1 : wr l1 = l1) (cl2 : wr l2 = l2) (cl4 : wr l4 = l4) (cl5 : wr l5 = l5) (cl6 : wr l6 = l6) (cl7 : wr l7 = l7) {σ : st_S}, L_X11_cheap_148 Q k126 n l1 l2 l4 l5 l6 l7 σ → J X E 8 n0 0 0 (MQ (xB X) (qI E (n0 + 0) Q) (xA X) (xS X) 0 0 (eF E)) σ 148 [(0, vR E 0), (1, vI l1), (2, vI l2), (4, vI l4), (5, vI l5), (6, vI l6), (7, vI l7)] [] := by
  have hh1 : 1 ≤ hN := by omega
  intro n
  induction n with
  | zero => intro l1 l2 l4 l5 l6 l7 cl1 cl2 cl4 cl5 cl6 cl7 σ h; exact h.elim
  | succ n ih =>
    intro l1 l2 l4 l5 l6 l7 cl1 cl2 cl4 cl5 cl6 cl7 σ h
    have hk148 : ∀ {l1 : Int} {l2 : Int} {l4 : Int} {l5 : Int} {l6 : Int} {l7 : Int} (cl1 : wr l1 = l1) (cl2 : wr l2 = l2) (cl4 : wr l4 = l4) (cl5 : wr l5 = l5) (cl6 : wr l6 = l6) (cl7 : wr l7 = l7) {σ : st_S}, L_X11_cheap_148 Q k126 n l1 l2 l4 l5 l6 l7 σ → J X E 8 n0 0 0 (MQ (xB X) (qI E (n0 + 0) Q) (xA X) (xS X) 0 0 (eF E)) σ 148 [(0, vR E 0), (1, vI l1), (2, vI l2), (4, vI l4), (5, vI l5), (6, vI l6), (7, vI l7)] [] := ih
    replace h : wp_X11_cheapestFrom 13 (wr (l5 + 1)) (o_or l4 l7) l1 σ (fun r46 s47 => wp_X11_priceOf l7 s47 (fun r48 s49 => (wr (r46 + r48) = l6 → (¬ l5 = l2 → ∀ x50 : Int, x50 = o_or l4 l7 → ∀ x51 : Int, x51 = wr (l5 + 1) → k126 l1 l2 x50 x51 s49) ∧ (l5 = l2 → Q l7 s49)) ∧ (¬ wr (r46 + r48) = l6 → wp_X11_crewIn l5 l4 l7 s49 (fun r53 s54 => (L_X11_cheap_148 Q k126 n) l1 l2 l4 l5 l6 r53 s54)))) := h
    refine j_aload_nR hc 0 dX11_cheap_148 rfl rfl ?_
    refine j_iload hc 4 dX11_cheap_149 rfl ?_
    refine j_iconst hc dX11_cheap_151 ?_
    refine j_iadd hc dX11_cheap_152 ?_
    refine j_iload hc 3 dX11_cheap_153 rfl ?_
    refine j_iload hc 6 dX11_cheap_155 rfl ?_
    refine j_ior hc dX11_cheap_157 ?_
    refine j_iload_n hc 1 dX11_cheap_158 rfl rfl ?_
    refine j_vI hc (k := 11) (by decide) (fun hv => Or.inl (sv_k hv hm rfl)) ml_RX11_388 mv_X11_cheapestFrom (As := [vI (wr (l5 + 1)), vI (o_or l4 l7), vI l1]) (c_X11_cheapestFrom (cx_E hc) hm 13 (wr_wr _) (cn_or _ _) cl1 h) rfl (by omega) (by decide) ⟨Nat.zero_le _, Nat.zero_le _⟩ (Nat.le_of_ble_eq_true rfl) (by simp only [vI_wr, vL_wl]; rfl) dX11_cheap_159 (fun r46 s47 cr46 h => ?_)
    refine j_aload_nR hc 0 dX11_cheap_162 rfl rfl ?_
    refine j_iload hc 6 dX11_cheap_163 rfl ?_
    refine j_vI hc (k := 11) (by decide) (fun hv => Or.inl (sv_k hv hm rfl)) ml_RX11_391 mv_X11_priceOf (As := [vI l7]) (c_X11_priceOf (cx_E hc) hm cl7 h) rfl (by omega) (by decide) ⟨Nat.zero_le _, Nat.zero_le _⟩ (Nat.le_of_ble_eq_true rfl) rfl dX11_cheap_165 (fun r48 s49 cr48 h => ?_)
    refine j_iadd hc dX11_cheap_168 ?_
    refine j_iload hc 5 dX11_cheap_169 rfl ?_
    refine j_ic_eq hc rfl cl6 (tgt := 189) dX11_cheap_171 (by decide) (fun q55 => ?_) (fun q55 => ?_)
    · replace h := h.1 q55
      refine j_iload hc 4 dX11_cheap_189 rfl ?_
      refine j_iload_n hc 2 dX11_cheap_191 rfl rfl ?_
      refine j_ic_ne hc cl5 cl2 (tgt := 198) dX11_cheap_192 (by decide) (fun q52 => ?_) (fun q52 => ?_)
      · replace h := h.1 q52
        refine j_iload hc 3 dX11_cheap_198 rfl ?_
        refine j_iload hc 6 dX11_cheap_200 rfl ?_
        refine j_ior hc dX11_cheap_202 ?_
        refine j_c (cn_or _ _) (fun x50 ex50 cx50 => ?_)
        replace h := h x50 ex50
        refine j_istore (lv' := [(4, vI x50), (0, vR E 0), (1, vI l1), (2, vI l2), (5, vI l5), (6, vI l6), (7, vI l7)]) hc dX11_cheap_203 (by decide) rfl ?_
        obtain ⟨x51, ex51⟩ : ∃ y : Int, y = wr (l5 + 1) := ⟨_, rfl⟩
        have cx51 : wr x51 = x51 := by rw [ex51]; exact wr_wr _
        replace h := h x51 ex51
        refine j_iinc (lv' := [(5, vI x51), (4, vI x50), (0, vR E 0), (1, vI l1), (2, vI l2), (6, vI l6), (7, vI l7)]) hc 4 dX11_cheap_205 rfl (by decide) ex51 rfl ?_
        refine j_goto (tgt := 126) hc dX11_cheap_208 (by decide) ?_
        refine j_sub (lv' := [(0, vR E 0), (1, vI l1), (2, vI l2), (4, vI x50), (5, vI x51)]) [2, 3, 4, 1, 0] rfl ?_
        exact hk126 cl1 cl2 cx50 cx51 h
      · replace h := h.2 q52
        refine j_iload hc 6 dX11_cheap_195 rfl ?_
        exact j_iret hc hr cl7 h dX11_cheap_197
    · replace h := h.2 q55
      refine j_aload_nR hc 0 dX11_cheap_174 rfl rfl ?_
      refine j_iload hc 4 dX11_cheap_175 rfl ?_
      refine j_iload hc 3 dX11_cheap_177 rfl ?_
      refine j_iload hc 6 dX11_cheap_179 rfl ?_
      refine j_vI hc (k := 11) (by decide) (fun hv => Or.inl (sv_k hv hm rfl)) ml_RX11_379 mv_X11_crewIn (As := [vI l5, vI l4, vI l7]) (c_X11_crewIn (cx_E hc) hm cl5 cl4 cl7 h) rfl (by omega) (by decide) ⟨Nat.zero_le _, Nat.zero_le _⟩ (Nat.le_of_ble_eq_true rfl) rfl dX11_cheap_181 (fun r53 s54 cr53 h => ?_)
      refine j_istore (lv' := [(7, vI r53), (0, vR E 0), (1, vI l1), (2, vI l2), (4, vI l4), (5, vI l5), (6, vI l6)]) hc dX11_cheap_184 (by decide) rfl ?_
      refine j_goto (tgt := 148) hc dX11_cheap_186 (by decide) ?_
      refine j_sub (lv' := [(0, vR E 0), (1, vI l1), (2, vI l2), (4, vI l4), (5, vI l5), (6, vI l6), (7, vI r53)]) [1, 2, 3, 4, 5, 6, 0] rfl ?_
      exact hk148 cl1 cl2 cl4 cl5 cl6 cr53 h
set_option maxRecDepth 20000 in
theorem jl_X11_cheap_126 {X : jj_X} {E : ev_E} {n0 hN : Nat} (hc : Cx X E cX11_cheap 8 n0 hN RX11) (hm : eM E = 2) (hr : (xT X).sig.returnType = (some .int)) (hh : 144 ≤ hN) {Q : Int → st_S → Prop} : ∀ (n : Nat) {l1 : Int} {l2 : Int} {l4 : Int} {l5 : Int} (cl1 : wr l1 = l1) (cl2 : wr l2 = l2) (cl4 : wr l4 = l4) (cl5 : wr l5 = l5) {σ : st_S}, L_X11_cheap_126 Q n l1 l2 l4 l5 σ → J X E 8 n0 0 0 (MQ (xB X) (qI E (n0 + 0) Q) (xA X) (xS X) 0 0 (eF E)) σ 126 [(0, vR E 0), (1, vI l1), (2, vI l2), (4, vI l4), (5, vI l5)] [] := by
  have hh1 : 1 ≤ hN := by omega
  intro n
  induction n with
  | zero => intro l1 l2 l4 l5 cl1 cl2 cl4 cl5 σ h; exact h.elim
  | succ n ih =>
    intro l1 l2 l4 l5 cl1 cl2 cl4 cl5 σ h
    have hk126 : ∀ {l1 : Int} {l2 : Int} {l4 : Int} {l5 : Int} (cl1 : wr l1 = l1) (cl2 : wr l2 = l2) (cl4 : wr l4 = l4) (cl5 : wr l5 = l5) {σ : st_S}, L_X11_cheap_126 Q n l1 l2 l4 l5 σ → J X E 8 n0 0 0 (MQ (xB X) (qI E (n0 + 0) Q) (xA X) (xS X) 0 0 (eF E)) σ 126 [(0, vR E 0), (1, vI l1), (2, vI l2), (4, vI l4), (5, vI l5)] [] := ih
    replace h : wp_X11_cheapestFrom 13 l5 l4 l1 σ (fun r56 s57 => wp_X11_crewIn l5 l4 0 s57 (fun r58 s59 => ∃ m148 : Nat, L_X11_cheap_148 Q (L_X11_cheap_126 Q n) m148 l1 l2 l4 l5 r56 r58 s59)) := h
    refine j_aload_nR hc 0 dX11_cheap_126 rfl rfl ?_
    refine j_iload hc 4 dX11_cheap_127 rfl ?_
    refine j_iload hc 3 dX11_cheap_129 rfl ?_
    refine j_iload_n hc 1 dX11_cheap_131 rfl rfl ?_
    refine j_vI hc (k := 11) (by decide) (fun hv => Or.inl (sv_k hv hm rfl)) ml_RX11_388 mv_X11_cheapestFrom (As := [vI l5, vI l4, vI l1]) (c_X11_cheapestFrom (cx_E hc) hm 13 cl5 cl4 cl1 h) rfl (by omega) (by decide) ⟨Nat.zero_le _, Nat.zero_le _⟩ (Nat.le_of_ble_eq_true rfl) rfl dX11_cheap_132 (fun r56 s57 cr56 h => ?_)
    refine j_istore (lv' := [(6, vI r56), (0, vR E 0), (1, vI l1), (2, vI l2), (4, vI l4), (5, vI l5)]) hc dX11_cheap_135 (by decide) rfl ?_
    refine j_aload_nR hc 1 dX11_cheap_137 rfl rfl ?_
    refine j_iload hc 5 dX11_cheap_138 rfl ?_
    refine j_iload hc 4 dX11_cheap_140 rfl ?_
    refine j_iconst hc dX11_cheap_142 ?_
    refine j_vI hc (k := 11) (by decide) (fun hv => Or.inl (sv_k hv hm rfl)) ml_RX11_379 mv_X11_crewIn (As := [vI l5, vI l4, vI 0]) (c_X11_crewIn (cx_E hc) hm cl5 cl4 (wlit 0 (by decide)) h) rfl (by omega) (by decide) ⟨Nat.zero_le _, Nat.zero_le _⟩ (Nat.le_of_ble_eq_true rfl) rfl dX11_cheap_143 (fun r58 s59 cr58 h => ?_)
    refine j_istore (lv' := [(7, vI r58), (6, vI r56), (0, vR E 0), (1, vI l1), (2, vI l2), (4, vI l4), (5, vI l5)]) hc dX11_cheap_146 (by decide) rfl ?_
    obtain ⟨n148, h⟩ := h
    refine j_sub (lv' := [(0, vR E 0), (1, vI l1), (2, vI l2), (4, vI l4), (5, vI l5), (6, vI r56), (7, vI r58)]) [2, 3, 4, 5, 6, 1, 0] rfl ?_
    exact jl_X11_cheap_148 hc hm hr hh hk126 n148 cl1 cl2 cl4 cl5 cr56 cr58 h
set_option maxRecDepth 20000 in
theorem jl_X11_cheap_51 {X : jj_X} {E : ev_E} {n0 hN : Nat} (hc : Cx X E cX11_cheap 8 n0 hN RX11) (hm : eM E = 2) (hr : (xT X).sig.returnType = (some .int)) (hh : 144 ≤ hN) {Q : Int → st_S → Prop} : ∀ (n : Nat) {l1 : Int} {l2 : Int} {l3 : Int} (cl1 : wr l1 = l1) (cl2 : wr l2 = l2) (cl3 : wr l3 = l3) {σ : st_S}, L_X11_cheap_51 Q n l1 l2 l3 σ → J X E 8 n0 0 0 (MQ (xB X) (qI E (n0 + 0) Q) (xA X) (xS X) 0 0 (eF E)) σ 51 [(0, vR E 0), (1, vI l1), (2, vI l2), (3, vI l3)] [] := by
  have hh1 : 1 ≤ hN := by omega
  intro n
  induction n with
  | zero => intro l1 l2 l3 cl1 cl2 cl3 σ h; exact h.elim
  | succ n ih =>
    intro l1 l2 l3 cl1 cl2 cl3 σ h
    have hk51 : ∀ {l1 : Int} {l2 : Int} {l3 : Int} (cl1 : wr l1 = l1) (cl2 : wr l2 = l2) (cl3 : wr l3 = l3) {σ : st_S}, L_X11_cheap_51 Q n l1 l2 l3 σ → J X E 8 n0 0 0 (MQ (xB X) (qI E (n0 + 0) Q) (xA X) (xS X) 0 0 (eF E)) σ 51 [(0, vR E 0), (1, vI l1), (2, vI l2), (3, vI l3)] [] := ih
    replace h : (10 ≤ l3 → wp_X11_cheapestFrom 13 0 0 l1 σ (fun r60 s61 => (r60 < 1000000 → (¬ l2 = (-1) → ∃ m126 : Nat, L_X11_cheap_126 Q m126 l1 l2 0 0 s61) ∧ (l2 = (-1) → Q r60 s61)) ∧ (¬ r60 < 1000000 → Q (-1) s61))) ∧ (¬ 10 ≤ l3 → wp_X11_isPerson l3 σ (fun r64 s65 => (r64 = 0 → B_X11_cheap_89 Q (L_X11_cheap_51 Q n) l1 l2 l3 l3 s65) ∧ (¬ r64 = 0 → ix (wr (0 + l3)) 5866 ∧ (¬ gI s65 2 (Int.toNat (wr (0 + l3))) = 0 → B_X11_cheap_89 Q (L_X11_cheap_51 Q n) l1 l2 l3 l3 s65) ∧ (gI s65 2 (Int.toNat (wr (0 + l3))) = 0 → wp_X11_costsNow l3 s65 (fun r68 s69 => B_X11_cheap_90 Q (L_X11_cheap_51 Q n) l1 l2 l3 r68 l3 s69))))) := h
    refine j_iload_n hc 3 dX11_cheap_51 rfl rfl ?_
    refine j_bipush hc dX11_cheap_52 (by decide) ?_
    refine j_ic_ge hc cl3 (wlit 10 (by decide)) (tgt := 97) dX11_cheap_54 (by decide) (fun q72 => ?_) (fun q72 => ?_)
    · replace h := h.1 q72
      refine j_aload_nR hc 0 dX11_cheap_97 rfl rfl ?_
      refine j_iconst hc dX11_cheap_98 ?_
      refine j_iconst hc dX11_cheap_99 ?_
      refine j_iload_n hc 1 dX11_cheap_100 rfl rfl ?_
      refine j_vI hc (k := 11) (by decide) (fun hv => Or.inl (sv_k hv hm rfl)) ml_RX11_388 mv_X11_cheapestFrom (As := [vI 0, vI 0, vI l1]) (c_X11_cheapestFrom (cx_E hc) hm 13 (wlit 0 (by decide)) (wlit 0 (by decide)) cl1 h) rfl (by omega) (by decide) ⟨Nat.zero_le _, Nat.zero_le _⟩ (Nat.le_of_ble_eq_true rfl) rfl dX11_cheap_101 (fun r60 s61 cr60 h => ?_)
      refine j_istore_n (lv' := [(3, vI r60), (0, vR E 0), (1, vI l1), (2, vI l2)]) hc dX11_cheap_104 rfl (by decide) rfl ?_
      refine j_iload_n hc 0 dX11_cheap_105 rfl rfl ?_
      refine j_ldc (x := 1000000) hc (by decide) kc_RX11_160 dX11_cheap_106 ?_
      refine j_ic_lt hc cr60 (wlit 1000000 (by decide)) (tgt := 113) dX11_cheap_108 (by decide) (fun q63 => ?_) (fun q63 => ?_)
      · replace h := h.1 q63
        refine j_iload_n hc 3 dX11_cheap_113 rfl rfl ?_
        refine j_iconst hc dX11_cheap_114 ?_
        refine j_ic_ne hc cl2 (wlit (-1) (by decide)) (tgt := 120) dX11_cheap_115 (by decide) (fun q62 => ?_) (fun q62 => ?_)
        · replace h := h.1 q62
          refine j_iconst hc dX11_cheap_120 ?_
          refine j_istore (lv' := [(4, vI 0), (3, vI r60), (0, vR E 0), (1, vI l1), (2, vI l2)]) hc dX11_cheap_121 (by decide) rfl ?_
          refine j_iconst hc dX11_cheap_123 ?_
          refine j_istore (lv' := [(5, vI 0), (4, vI 0), (3, vI r60), (0, vR E 0), (1, vI l1), (2, vI l2)]) hc dX11_cheap_124 (by decide) rfl ?_
          obtain ⟨n126, h⟩ := h
          refine j_sub (lv' := [(0, vR E 0), (1, vI l1), (2, vI l2), (4, vI 0), (5, vI 0)]) [3, 4, 5, 1, 0] rfl ?_
          exact jl_X11_cheap_126 hc hm hr hh n126 cl1 cl2 (wlit 0 (by decide)) (wlit 0 (by decide)) h
        · replace h := h.2 q62
          refine j_iload_n hc 0 dX11_cheap_118 rfl rfl ?_
          exact j_iret hc hr cr60 h dX11_cheap_119
      · replace h := h.2 q63
        refine j_iconst hc dX11_cheap_111 ?_
        exact j_iret hc hr (wlit (-1) (by decide)) h dX11_cheap_112
    · replace h := h.2 q72
      refine j_aload_nR hc 0 dX11_cheap_57 rfl rfl ?_
      refine j_getR (c' := 22) hc fl_RX11_90 rfl rfl (fun hv => (sv_k hv hm rfl)) dX11_cheap_58 ?_
      refine j_iload_n hc 3 dX11_cheap_61 rfl rfl ?_
      refine j_aload_nR hc 0 dX11_cheap_62 rfl rfl ?_
      refine j_iload_n hc 3 dX11_cheap_63 rfl rfl ?_
      refine j_vI hc (k := 11) (by decide) (fun hv => Or.inl (sv_k hv hm rfl)) ml_RX11_128 mv_X11_isPerson (As := [vI l3]) (c_X11_isPerson (cx_E hc) hm cl3 h) rfl (by omega) (by decide) ⟨Nat.zero_le _, Nat.zero_le _⟩ (Nat.le_of_ble_eq_true rfl) rfl dX11_cheap_64 (fun r64 s65 cr64 h => ?_)
      refine j_if_eq hc cr64 (tgt := 89) dX11_cheap_67 (by decide) (fun q71 => ?_) (fun q71 => ?_)
      · replace h := h.1 q71
        refine j_sub (lv' := [(0, vR E 0), (1, vI l1), (2, vI l2), (3, vI l3)]) [0, 1, 2, 3] rfl ?_
        exact jb_X11_cheap_89 hc hm hr hh hk51 cl1 cl2 cl3 cl3 h
      · replace h := h.2 q71
        refine j_aload_nR hc 0 dX11_cheap_70 rfl rfl ?_
        refine j_getR (c' := 2) hc fl_RX11_24 rfl rfl (fun hv => (sv_k hv hm rfl)) dX11_cheap_71 ?_
        refine j_iconst hc dX11_cheap_74 ?_
        refine j_iload_n hc 3 dX11_cheap_75 rfl rfl ?_
        refine j_iadd hc dX11_cheap_76 ?_
        obtain ⟨b66, h⟩ := h
        refine j_iald (jn := (Int.toNat (wr (0 + l3)))) hc (fun hv => sv_kl hv hm rfl) rfl b66 rfl dX11_cheap_77 (fun cn67 => ?_)
        refine j_if_ne hc cn67 (tgt := 89) dX11_cheap_78 (by decide) (fun q70 => ?_) (fun q70 => ?_)
        · replace h := h.1 q70
          refine j_sub (lv' := [(0, vR E 0), (1, vI l1), (2, vI l2), (3, vI l3)]) [0, 1, 2, 3] rfl ?_
          exact jb_X11_cheap_89 hc hm hr hh hk51 cl1 cl2 cl3 cl3 h
        · replace h := h.2 q70
          refine j_aload_nR hc 0 dX11_cheap_81 rfl rfl ?_
          refine j_iload_n hc 3 dX11_cheap_82 rfl rfl ?_
          refine j_vI hc (k := 11) (by decide) (fun hv => Or.inl (sv_k hv hm rfl)) ml_RX11_309 mv_X11_costsNow (As := [vI l3]) (c_X11_costsNow (cx_E hc) hm cl3 h) rfl (by omega) (by decide) ⟨Nat.zero_le _, Nat.zero_le _⟩ (Nat.le_of_ble_eq_true rfl) rfl dX11_cheap_83 (fun r68 s69 cr68 h => ?_)
          refine j_goto (tgt := 90) hc dX11_cheap_86 (by decide) ?_
          refine j_sub (lv' := [(0, vR E 0), (1, vI l1), (2, vI l2), (3, vI l3)]) [0, 1, 2, 3] rfl ?_
          exact jb_X11_cheap_90 hc hm hr hh hk51 cl1 cl2 cl3 cr68 h
set_option maxRecDepth 20000 in
theorem jl_X11_cheap_29 {X : jj_X} {E : ev_E} {n0 hN : Nat} (hc : Cx X E cX11_cheap 8 n0 hN RX11) (hm : eM E = 2) (hr : (xT X).sig.returnType = (some .int)) (hh : 144 ≤ hN) {Q : Int → st_S → Prop} : ∀ (n : Nat) {l1 : Int} {l2 : Int} {l3 : Int} (cl1 : wr l1 = l1) (cl2 : wr l2 = l2) (cl3 : wr l3 = l3) {σ : st_S}, L_X11_cheap_29 Q n l1 l2 l3 σ → J X E 8 n0 0 0 (MQ (xB X) (qI E (n0 + 0) Q) (xA X) (xS X) 0 0 (eF E)) σ 29 [(0, vR E 0), (1, vI l1), (2, vI l2), (3, vI l3)] [] := by
  have hh1 : 1 ≤ hN := by omega
  intro n
  induction n with
  | zero => intro l1 l2 l3 cl1 cl2 cl3 σ h; exact h.elim
  | succ n ih =>
    intro l1 l2 l3 cl1 cl2 cl3 σ h
    have hk29 : ∀ {l1 : Int} {l2 : Int} {l3 : Int} (cl1 : wr l1 = l1) (cl2 : wr l2 = l2) (cl3 : wr l3 = l3) {σ : st_S}, L_X11_cheap_29 Q n l1 l2 l3 σ → J X E 8 n0 0 0 (MQ (xB X) (qI E (n0 + 0) Q) (xA X) (xS X) 0 0 (eF E)) σ 29 [(0, vR E 0), (1, vI l1), (2, vI l2), (3, vI l3)] [] := ih
    replace h : (11264 ≤ l3 → ∃ m51 : Nat, L_X11_cheap_51 Q m51 l1 l2 0 σ) ∧ (¬ 11264 ≤ l3 → ix l3 11264 ∧ ∀ s74 : st_S, s74 = sI σ 20 (Int.toNat l3) (-1) → ∀ x75 : Int, x75 = wr (l3 + 1) → (L_X11_cheap_29 Q n) l1 l2 x75 s74) := h
    refine j_iload_n hc 3 dX11_cheap_29 rfl rfl ?_
    refine j_sipush hc dX11_cheap_30 (by decide) ?_
    refine j_ic_ge hc cl3 (wlit 11264 (by decide)) (tgt := 49) dX11_cheap_33 (by decide) (fun q76 => ?_) (fun q76 => ?_)
    · replace h := h.1 q76
      refine j_iconst hc dX11_cheap_49 ?_
      refine j_istore_n (lv' := [(3, vI 0), (0, vR E 0), (1, vI l1), (2, vI l2)]) hc dX11_cheap_50 rfl (by decide) rfl ?_
      obtain ⟨n51, h⟩ := h
      refine j_sub (lv' := [(0, vR E 0), (1, vI l1), (2, vI l2), (3, vI 0)]) [1, 2, 3, 0] rfl ?_
      exact jl_X11_cheap_51 hc hm hr hh n51 cl1 cl2 (wlit 0 (by decide)) h
    · replace h := h.2 q76
      refine j_aload_nR hc 0 dX11_cheap_36 rfl rfl ?_
      refine j_getR (c' := 20) hc fl_RX11_83 rfl rfl (fun hv => (sv_k hv hm rfl)) dX11_cheap_37 ?_
      refine j_iload_n hc 3 dX11_cheap_40 rfl rfl ?_
      refine j_iconst hc dX11_cheap_41 ?_
      obtain ⟨b73, h⟩ := h
      refine j_iast (jn := (Int.toNat l3)) hc (fun hv => sv_kl hv hm rfl) cl3 b73 rfl (wlit (-1) (by decide)) dX11_cheap_42 (fun s74 es74 => ?_)
      replace h := h s74 es74
      obtain ⟨x75, ex75⟩ : ∃ y : Int, y = wr (l3 + 1) := ⟨_, rfl⟩
      have cx75 : wr x75 = x75 := by rw [ex75]; exact wr_wr _
      replace h := h x75 ex75
      refine j_iinc (lv' := [(3, vI x75), (0, vR E 0), (1, vI l1), (2, vI l2)]) hc 3 dX11_cheap_43 rfl (by decide) ex75 rfl ?_
      refine j_goto (tgt := 29) hc dX11_cheap_46 (by decide) ?_
      refine j_sub (lv' := [(0, vR E 0), (1, vI l1), (2, vI l2), (3, vI x75)]) [1, 2, 3, 0] rfl ?_
      exact hk29 cl1 cl2 cx75 h
set_option maxRecDepth 20000 in
theorem c_X11_cheap {l : Launch} {E : ev_E} (hE : Eok E) (hm : eM E = 2) {a1 : Int} {a2 : Int} (ca1 : wr a1 = a1) (ca2 : wr a2 = a2) {σ : st_S} {Q : Int → st_S → Prop} (h : wp_X11_cheap a1 a2 σ Q) : cM l yX11_cheap cX11_cheap 8 (some .int) E 144 0 0 [vR E 0, vI a1, vI a2] σ (qI E (gN σ + 0) Q) := by
  refine cM_of (lv := [(0, vR E 0), (1, vI a1), (2, vI a2)]) (by decide) hE (Nat.le_of_ble_eq_true rfl) (rfl) ?_
  intro X hX hc _ _ hr _ _
  subst hX
  have hh : 144 ≤ 144 := Nat.le_refl _
  have hh1 : 1 ≤ 144 := by omega
  replace h : wp_X11_lies a1 1 10 σ (fun r77 s78 => (r77 = 0 → B_X11_cheap_21 Q s78) ∧ (¬ r77 = 0 → wp_X11_lies a2 (-1) (wr (a1 - 1)) s78 (fun r79 s80 => (¬ r79 = 0 → wp_X11_looks s80 (fun s82 => ∃ m29 : Nat, L_X11_cheap_29 Q m29 a1 a2 0 s82)) ∧ (r79 = 0 → B_X11_cheap_21 Q s80)))) := h
  refine j_iload_n hc 1 dX11_cheap_0 rfl rfl ?_
  refine j_iconst hc dX11_cheap_1 ?_
  refine j_bipush hc dX11_cheap_2 (by decide) ?_
  refine j_sI hc ml_RX11_106 mv_X11_lies (As := [vI a1, vI 1, vI 10]) (c_X11_lies (cx_E hc) hm ca1 (wlit 1 (by decide)) (wlit 10 (by decide)) h) rfl (by omega) (by decide) ⟨Nat.zero_le _, Nat.zero_le _⟩ (Nat.le_of_ble_eq_true rfl) rfl dX11_cheap_4 (fun r77 s78 cr77 h => ?_)
  refine j_if_eq hc cr77 (tgt := 21) dX11_cheap_7 (by decide) (fun q84 => ?_) (fun q84 => ?_)
  · replace h := h.1 q84
    refine j_sub (lv' := []) [] rfl ?_
    exact jb_X11_cheap_21 hc hm hr hh h
  · replace h := h.2 q84
    refine j_iload_n hc 2 dX11_cheap_10 rfl rfl ?_
    refine j_iconst hc dX11_cheap_11 ?_
    refine j_iload_n hc 1 dX11_cheap_12 rfl rfl ?_
    refine j_iconst hc dX11_cheap_13 ?_
    refine j_isub hc dX11_cheap_14 ?_
    refine j_sI hc ml_RX11_106 mv_X11_lies (As := [vI a2, vI (-1), vI (wr (a1 - 1))]) (c_X11_lies (cx_E hc) hm ca2 (wlit (-1) (by decide)) (wr_wr _) h) rfl (by omega) (by decide) ⟨Nat.zero_le _, Nat.zero_le _⟩ (Nat.le_of_ble_eq_true rfl) (by simp only [vI_wr, vL_wl]; rfl) dX11_cheap_15 (fun r79 s80 cr79 h => ?_)
    refine j_if_ne hc cr79 (tgt := 23) dX11_cheap_18 (by decide) (fun q83 => ?_) (fun q83 => ?_)
    · replace h := h.1 q83
      refine j_aload_nR hc 0 dX11_cheap_23 rfl rfl ?_
      refine j_vV hc (k := 11) (by decide) (fun hv => Or.inl (sv_k hv hm rfl)) ml_RX11_385 mv_X11_looks (As := []) (c_X11_looks (cx_E hc) hm  h) rfl (by omega) (by decide) ⟨Nat.zero_le _, Nat.zero_le _⟩ (Nat.le_of_ble_eq_true rfl) rfl dX11_cheap_24 (fun s82 h => ?_)
      refine j_iconst hc dX11_cheap_27 ?_
      refine j_istore_n (lv' := [(3, vI 0), (0, vR E 0), (1, vI a1), (2, vI a2)]) hc dX11_cheap_28 rfl (by decide) rfl ?_
      obtain ⟨n29, h⟩ := h
      refine j_sub (lv' := [(0, vR E 0), (1, vI a1), (2, vI a2), (3, vI 0)]) [1, 2, 3, 0] rfl ?_
      exact jl_X11_cheap_29 hc hm hr hh n29 ca1 ca2 (wlit 0 (by decide)) h
    · replace h := h.2 q83
      refine j_sub (lv' := []) [] rfl ?_
      exact jb_X11_cheap_21 hc hm hr hh h
-- LitStrangersModel.rowsFrom(III)J
theorem dX11_rowsFrom_0 : decode cX11_rowsFrom 0 = .ok (.iload_n 1, 1) := by decide +kernel
theorem dX11_rowsFrom_1 : decode cX11_rowsFrom 1 = .ok (.iload_n 3, 1) := by decide +kernel
theorem dX11_rowsFrom_2 : decode cX11_rowsFrom 2 = .ok (.if_icmp .ne 5, 3) := by decide +kernel
theorem dX11_rowsFrom_5 : decode cX11_rowsFrom 5 = .ok (.lconst 1, 1) := by decide +kernel
theorem dX11_rowsFrom_6 : decode cX11_rowsFrom 6 = .ok (.lreturn, 1) := by decide +kernel
theorem dX11_rowsFrom_7 : decode cX11_rowsFrom 7 = .ok (.sipush 1024, 3) := by decide +kernel
theorem dX11_rowsFrom_10 : decode cX11_rowsFrom 10 = .ok (.iload_n 1, 1) := by decide +kernel
theorem dX11_rowsFrom_11 : decode cX11_rowsFrom 11 = .ok (.imul, 1) := by decide +kernel
theorem dX11_rowsFrom_12 : decode cX11_rowsFrom 12 = .ok (.iload_n 2, 1) := by decide +kernel
theorem dX11_rowsFrom_13 : decode cX11_rowsFrom 13 = .ok (.iadd, 1) := by decide +kernel
theorem dX11_rowsFrom_14 : decode cX11_rowsFrom 14 = .ok (.istore 4, 2) := by decide +kernel
theorem dX11_rowsFrom_16 : decode cX11_rowsFrom 16 = .ok (.aload_n 0, 1) := by decide +kernel
theorem dX11_rowsFrom_17 : decode cX11_rowsFrom 17 = .ok (.getfield 86, 3) := by decide +kernel
theorem dX11_rowsFrom_20 : decode cX11_rowsFrom 20 = .ok (.iload 4, 2) := by decide +kernel
theorem dX11_rowsFrom_22 : decode cX11_rowsFrom 22 = .ok (.laload, 1) := by decide +kernel
theorem dX11_rowsFrom_23 : decode cX11_rowsFrom 23 = .ok (.lconst 0, 1) := by decide +kernel
theorem dX11_rowsFrom_24 : decode cX11_rowsFrom 24 = .ok (.lcmp, 1) := by decide +kernel
theorem dX11_rowsFrom_25 : decode cX11_rowsFrom 25 = .ok (.ifCond .lt 11, 3) := by decide +kernel
theorem dX11_rowsFrom_28 : decode cX11_rowsFrom 28 = .ok (.aload_n 0, 1) := by decide +kernel
theorem dX11_rowsFrom_29 : decode cX11_rowsFrom 29 = .ok (.getfield 86, 3) := by decide +kernel
theorem dX11_rowsFrom_32 : decode cX11_rowsFrom 32 = .ok (.iload 4, 2) := by decide +kernel
theorem dX11_rowsFrom_34 : decode cX11_rowsFrom 34 = .ok (.laload, 1) := by decide +kernel
theorem dX11_rowsFrom_35 : decode cX11_rowsFrom 35 = .ok (.lreturn, 1) := by decide +kernel
theorem dX11_rowsFrom_36 : decode cX11_rowsFrom 36 = .ok (.lconst 0, 1) := by decide +kernel
theorem dX11_rowsFrom_37 : decode cX11_rowsFrom 37 = .ok (.lstore 5, 2) := by decide +kernel
theorem dX11_rowsFrom_39 : decode cX11_rowsFrom 39 = .ok (.aload_n 0, 1) := by decide +kernel
theorem dX11_rowsFrom_40 : decode cX11_rowsFrom 40 = .ok (.iload_n 1, 1) := by decide +kernel
theorem dX11_rowsFrom_41 : decode cX11_rowsFrom 41 = .ok (.iload_n 2, 1) := by decide +kernel
theorem dX11_rowsFrom_42 : decode cX11_rowsFrom 42 = .ok (.iconst 0, 1) := by decide +kernel
theorem dX11_rowsFrom_43 : decode cX11_rowsFrom 43 = .ok (.invokevirtual 379, 3) := by decide +kernel
theorem dX11_rowsFrom_46 : decode cX11_rowsFrom 46 = .ok (.istore 7, 2) := by decide +kernel
theorem dX11_rowsFrom_48 : decode cX11_rowsFrom 48 = .ok (.iload 7, 2) := by decide +kernel
theorem dX11_rowsFrom_50 : decode cX11_rowsFrom 50 = .ok (.iconst (-1), 1) := by decide +kernel
theorem dX11_rowsFrom_51 : decode cX11_rowsFrom 51 = .ok (.if_icmp .eq 33, 3) := by decide +kernel
theorem dX11_rowsFrom_54 : decode cX11_rowsFrom 54 = .ok (.lload 5, 2) := by decide +kernel
theorem dX11_rowsFrom_56 : decode cX11_rowsFrom 56 = .ok (.aload_n 0, 1) := by decide +kernel
theorem dX11_rowsFrom_57 : decode cX11_rowsFrom 57 = .ok (.iload_n 1, 1) := by decide +kernel
theorem dX11_rowsFrom_58 : decode cX11_rowsFrom 58 = .ok (.iconst 1, 1) := by decide +kernel
theorem dX11_rowsFrom_59 : decode cX11_rowsFrom 59 = .ok (.iadd, 1) := by decide +kernel
theorem dX11_rowsFrom_60 : decode cX11_rowsFrom 60 = .ok (.iload_n 2, 1) := by decide +kernel
theorem dX11_rowsFrom_61 : decode cX11_rowsFrom 61 = .ok (.iload 7, 2) := by decide +kernel
theorem dX11_rowsFrom_63 : decode cX11_rowsFrom 63 = .ok (.ior, 1) := by decide +kernel
theorem dX11_rowsFrom_64 : decode cX11_rowsFrom 64 = .ok (.iload_n 3, 1) := by decide +kernel
theorem dX11_rowsFrom_65 : decode cX11_rowsFrom 65 = .ok (.invokevirtual 394, 3) := by decide +kernel
theorem dX11_rowsFrom_68 : decode cX11_rowsFrom 68 = .ok (.ladd, 1) := by decide +kernel
theorem dX11_rowsFrom_69 : decode cX11_rowsFrom 69 = .ok (.lstore 5, 2) := by decide +kernel
theorem dX11_rowsFrom_71 : decode cX11_rowsFrom 71 = .ok (.aload_n 0, 1) := by decide +kernel
theorem dX11_rowsFrom_72 : decode cX11_rowsFrom 72 = .ok (.iload_n 1, 1) := by decide +kernel
theorem dX11_rowsFrom_73 : decode cX11_rowsFrom 73 = .ok (.iload_n 2, 1) := by decide +kernel
theorem dX11_rowsFrom_74 : decode cX11_rowsFrom 74 = .ok (.iload 7, 2) := by decide +kernel
theorem dX11_rowsFrom_76 : decode cX11_rowsFrom 76 = .ok (.invokevirtual 379, 3) := by decide +kernel
theorem dX11_rowsFrom_79 : decode cX11_rowsFrom 79 = .ok (.istore 7, 2) := by decide +kernel
theorem dX11_rowsFrom_81 : decode cX11_rowsFrom 81 = .ok (.goto (-33), 3) := by decide +kernel
theorem dX11_rowsFrom_84 : decode cX11_rowsFrom 84 = .ok (.aload_n 0, 1) := by decide +kernel
theorem dX11_rowsFrom_85 : decode cX11_rowsFrom 85 = .ok (.getfield 86, 3) := by decide +kernel
theorem dX11_rowsFrom_88 : decode cX11_rowsFrom 88 = .ok (.iload 4, 2) := by decide +kernel
theorem dX11_rowsFrom_90 : decode cX11_rowsFrom 90 = .ok (.lload 5, 2) := by decide +kernel
theorem dX11_rowsFrom_92 : decode cX11_rowsFrom 92 = .ok (.lastore, 1) := by decide +kernel
theorem dX11_rowsFrom_93 : decode cX11_rowsFrom 93 = .ok (.lload 5, 2) := by decide +kernel
theorem dX11_rowsFrom_95 : decode cX11_rowsFrom 95 = .ok (.lreturn, 1) := by decide +kernel
def L_X11_rowsFrom_48 (Q : Int → st_S → Prop) (rc_X11_rowsFrom : Int → Int → Int → st_S → (Int → st_S → Prop) → Prop)  : Nat → Int → Int → Int → Int → Int → Int → st_S → Prop
  | 0 => fun _ _ _ _ _ _ _ => False
  | n + 1 => fun l1 l2 l3 l4 l5 l7 σ => (l7 = (-1) → ix l4 11264 ∧ ∀ s20 : st_S, s20 = sI σ 21 (Int.toNat l4) l5 → Q l5 s20) ∧ (¬ l7 = (-1) → rc_X11_rowsFrom (wr (l1 + 1)) (o_or l2 l7) l3 σ (fun r21 s22 => ∀ x23 : Int, x23 = wl (l5 + r21) → wp_X11_crewIn l1 l2 l7 s22 (fun r24 s25 => (L_X11_rowsFrom_48 Q rc_X11_rowsFrom n) l1 l2 l3 l4 x23 r24 s25)))
def e_X11_rowsFrom (rc_X11_rowsFrom : Int → Int → Int → st_S → (Int → st_S → Prop) → Prop) (a1 : Int) (a2 : Int) (a3 : Int) (σ : st_S) (Q : Int → st_S → Prop) : Prop := (¬ a1 = a3 → ∀ x27 : Int, x27 = wr ((1024 * a1) + a2) → ix x27 11264 ∧ (p_cmp (gI σ 21 (Int.toNat x27)) 0 < 0 → wp_X11_crewIn a1 a2 0 σ (fun r30 s31 => ∃ m48 : Nat, L_X11_rowsFrom_48 Q rc_X11_rowsFrom m48 a1 a2 a3 x27 0 r30 s31)) ∧ (¬ p_cmp (gI σ 21 (Int.toNat x27)) 0 < 0 → ix x27 11264 ∧ Q (gI σ 21 (Int.toNat x27)) σ)) ∧ (a1 = a3 → Q 1 σ)
def G_X11_rowsFrom : Nat → (Int → Int → Int → st_S → (Int → st_S → Prop) → Prop)
  | 0 => fun _ _ _ _ _ => False
  | d + 1 => e_X11_rowsFrom ((G_X11_rowsFrom d))
def wp_X11_rowsFrom (d : Nat) : Int → Int → Int → st_S → (Int → st_S → Prop) → Prop := (G_X11_rowsFrom d)
set_option maxRecDepth 20000 in
theorem jl_X11_rowsFrom_48 {X : jj_X} {E : ev_E} {n0 hN : Nat} (hc : Cx X E cX11_rowsFrom 8 n0 hN RX11) (hm : eM E = 2) (hr : (xT X).sig.returnType = (some .long)) {d : Nat} (hh : 130 + (d + 1) ≤ hN) {Q : Int → st_S → Prop} {rc_X11_rowsFrom : Int → Int → Int → st_S → (Int → st_S → Prop) → Prop} (hr_X11_rowsFrom : ∀ {l : Launch} {E : ev_E} (hE : Eok E) (hm : eM E = 2) {a1 : Int} {a2 : Int} {a3 : Int} (ca1 : wr a1 = a1) (ca2 : wr a2 = a2) (ca3 : wr a3 = a3) {σ : st_S} {Q : Int → st_S → Prop}, rc_X11_rowsFrom a1 a2 a3 σ Q → cM l yX11_rowsFrom cX11_rowsFrom 8 (some .long) E (130 + d) 0 0 [vR E 0, vI a1, vI a2, vI a3] σ (qL E (gN σ + 0) Q)) : ∀ (n : Nat) {l1 : Int} {l2 : Int} {l3 : Int} {l4 : Int} {l5 : Int} {l7 : Int} (cl1 : wr l1 = l1) (cl2 : wr l2 = l2) (cl3 : wr l3 = l3) (cl4 : wr l4 = l4) (cl5 : wl l5 = l5) (cl7 : wr l7 = l7) {σ : st_S}, L_X11_rowsFrom_48 Q rc_X11_rowsFrom n l1 l2 l3 l4 l5 l7 σ → J X E 8 n0 0 0 (MQ (xB X) (qL E (n0 + 0) Q) (xA X) (xS X) 0 0 (eF E)) σ 48 [(0, vR E 0), (1, vI l1), (2, vI l2), (3, vI l3), (4, vI l4), (5, vL l5), (7, vI l7)] [] := by
  have hh1 : 1 ≤ hN := by omega
  intro n
  induction n with
  | zero => intro l1 l2 l3 l4 l5 l7 cl1 cl2 cl3 cl4 cl5 cl7 σ h; exact h.elim
  | succ n ih =>
    intro l1 l2 l3 l4 l5 l7 cl1 cl2 cl3 cl4 cl5 cl7 σ h
    have hk48 : ∀ {l1 : Int} {l2 : Int} {l3 : Int} {l4 : Int} {l5 : Int} {l7 : Int} (cl1 : wr l1 = l1) (cl2 : wr l2 = l2) (cl3 : wr l3 = l3) (cl4 : wr l4 = l4) (cl5 : wl l5 = l5) (cl7 : wr l7 = l7) {σ : st_S}, L_X11_rowsFrom_48 Q rc_X11_rowsFrom n l1 l2 l3 l4 l5 l7 σ → J X E 8 n0 0 0 (MQ (xB X) (qL E (n0 + 0) Q) (xA X) (xS X) 0 0 (eF E)) σ 48 [(0, vR E 0), (1, vI l1), (2, vI l2), (3, vI l3), (4, vI l4), (5, vL l5), (7, vI l7)] [] := ih
    replace h : (l7 = (-1) → ix l4 11264 ∧ ∀ s20 : st_S, s20 = sI σ 21 (Int.toNat l4) l5 → Q l5 s20) ∧ (¬ l7 = (-1) → rc_X11_rowsFrom (wr (l1 + 1)) (o_or l2 l7) l3 σ (fun r21 s22 => ∀ x23 : Int, x23 = wl (l5 + r21) → wp_X11_crewIn l1 l2 l7 s22 (fun r24 s25 => (L_X11_rowsFrom_48 Q rc_X11_rowsFrom n) l1 l2 l3 l4 x23 r24 s25))) := h
    refine j_iload hc 6 dX11_rowsFrom_48 rfl ?_
    refine j_iconst hc dX11_rowsFrom_50 ?_
    refine j_ic_eq hc cl7 (wlit (-1) (by decide)) (tgt := 84) dX11_rowsFrom_51 (by decide) (fun q26 => ?_) (fun q26 => ?_)
    · replace h := h.1 q26
      refine j_aload_nR hc 0 dX11_rowsFrom_84 rfl rfl ?_
      refine j_getR (c' := 21) hc fl_RX11_86 rfl rfl (fun hv => (sv_k hv hm rfl)) dX11_rowsFrom_85 ?_
      refine j_iload hc 4 dX11_rowsFrom_88 rfl ?_
      refine j_lload hc 5 dX11_rowsFrom_90 rfl ?_
      obtain ⟨b19, h⟩ := h
      refine j_last (jn := (Int.toNat l4)) hc (fun hv => sv_kl hv hm rfl) cl4 b19 rfl cl5 dX11_rowsFrom_92 (fun s20 es20 => ?_)
      replace h := h s20 es20
      refine j_lload hc 5 dX11_rowsFrom_93 rfl ?_
      exact j_lret hc hr cl5 h dX11_rowsFrom_95
    · replace h := h.2 q26
      refine j_lload hc 5 dX11_rowsFrom_54 rfl ?_
      refine j_aload_nR hc 0 dX11_rowsFrom_56 rfl rfl ?_
      refine j_iload_n hc 1 dX11_rowsFrom_57 rfl rfl ?_
      refine j_iconst hc dX11_rowsFrom_58 ?_
      refine j_iadd hc dX11_rowsFrom_59 ?_
      refine j_iload_n hc 2 dX11_rowsFrom_60 rfl rfl ?_
      refine j_iload hc 6 dX11_rowsFrom_61 rfl ?_
      refine j_ior hc dX11_rowsFrom_63 ?_
      refine j_iload_n hc 3 dX11_rowsFrom_64 rfl rfl ?_
      refine j_vL hc (k := 11) (by decide) (fun hv => Or.inl (sv_k hv hm rfl)) ml_RX11_394 mv_X11_rowsFrom (As := [vI (wr (l1 + 1)), vI (o_or l2 l7), vI l3]) (hr_X11_rowsFrom (cx_E hc) hm (wr_wr _) (cn_or _ _) cl3 h) rfl (by omega) (by decide) ⟨Nat.zero_le _, Nat.zero_le _⟩ (Nat.le_of_ble_eq_true rfl) (by simp only [vI_wr, vL_wl]; rfl) dX11_rowsFrom_65 (fun r21 s22 cr21 h => ?_)
      refine j_ladd hc dX11_rowsFrom_68 ?_
      refine j_wl (fun x23 ex23 cx23 => ?_)
      replace h := h x23 ex23
      refine j_lstore (lv' := [(5, vL x23), (0, vR E 0), (1, vI l1), (2, vI l2), (3, vI l3), (4, vI l4), (7, vI l7)]) hc dX11_rowsFrom_69 (by decide) rfl ?_
      refine j_aload_nR hc 1 dX11_rowsFrom_71 rfl rfl ?_
      refine j_iload_n hc 2 dX11_rowsFrom_72 rfl rfl ?_
      refine j_iload_n hc 3 dX11_rowsFrom_73 rfl rfl ?_
      refine j_iload hc 6 dX11_rowsFrom_74 rfl ?_
      refine j_vI hc (k := 11) (by decide) (fun hv => Or.inl (sv_k hv hm rfl)) ml_RX11_379 mv_X11_crewIn (As := [vI l1, vI l2, vI l7]) (c_X11_crewIn (cx_E hc) hm cl1 cl2 cl7 h) rfl (by omega) (by decide) ⟨Nat.zero_le _, Nat.zero_le _⟩ (Nat.le_of_ble_eq_true rfl) rfl dX11_rowsFrom_76 (fun r24 s25 cr24 h => ?_)
      refine j_istore (lv' := [(7, vI r24), (5, vL x23), (0, vR E 0), (1, vI l1), (2, vI l2), (3, vI l3), (4, vI l4)]) hc dX11_rowsFrom_79 (by decide) rfl ?_
      refine j_goto (tgt := 48) hc dX11_rowsFrom_81 (by decide) ?_
      refine j_sub (lv' := [(0, vR E 0), (1, vI l1), (2, vI l2), (3, vI l3), (4, vI l4), (5, vL x23), (7, vI r24)]) [2, 3, 4, 5, 6, 1, 0] rfl ?_
      exact hk48 cl1 cl2 cl3 cl4 cx23 cr24 h
set_option maxRecDepth 20000 in
theorem ce_X11_rowsFrom {d : Nat} {rc_X11_rowsFrom : Int → Int → Int → st_S → (Int → st_S → Prop) → Prop} (hr_X11_rowsFrom : ∀ {l : Launch} {E : ev_E} (hE : Eok E) (hm : eM E = 2) {a1 : Int} {a2 : Int} {a3 : Int} (ca1 : wr a1 = a1) (ca2 : wr a2 = a2) (ca3 : wr a3 = a3) {σ : st_S} {Q : Int → st_S → Prop}, rc_X11_rowsFrom a1 a2 a3 σ Q → cM l yX11_rowsFrom cX11_rowsFrom 8 (some .long) E (130 + d) 0 0 [vR E 0, vI a1, vI a2, vI a3] σ (qL E (gN σ + 0) Q)) {l : Launch} {E : ev_E} (hE : Eok E) (hm : eM E = 2) {a1 : Int} {a2 : Int} {a3 : Int} (ca1 : wr a1 = a1) (ca2 : wr a2 = a2) (ca3 : wr a3 = a3) {σ : st_S} {Q : Int → st_S → Prop} (h : e_X11_rowsFrom rc_X11_rowsFrom a1 a2 a3 σ Q) : cM l yX11_rowsFrom cX11_rowsFrom 8 (some .long) E (130 + (d + 1)) 0 0 [vR E 0, vI a1, vI a2, vI a3] σ (qL E (gN σ + 0) Q) := by
  refine cM_of (lv := [(0, vR E 0), (1, vI a1), (2, vI a2), (3, vI a3)]) (by decide) hE (Nat.le_of_ble_eq_true rfl) (rfl) ?_
  intro X hX hc _ _ hr _ _
  subst hX
  have hh : 130 + (d + 1) ≤ 130 + (d + 1) := Nat.le_refl _
  have hh1 : 1 ≤ 130 + (d + 1) := by omega
  replace h : (¬ a1 = a3 → ∀ x27 : Int, x27 = wr ((1024 * a1) + a2) → ix x27 11264 ∧ (p_cmp (gI σ 21 (Int.toNat x27)) 0 < 0 → wp_X11_crewIn a1 a2 0 σ (fun r30 s31 => ∃ m48 : Nat, L_X11_rowsFrom_48 Q rc_X11_rowsFrom m48 a1 a2 a3 x27 0 r30 s31)) ∧ (¬ p_cmp (gI σ 21 (Int.toNat x27)) 0 < 0 → ix x27 11264 ∧ Q (gI σ 21 (Int.toNat x27)) σ)) ∧ (a1 = a3 → Q 1 σ) := h
  refine j_iload_n hc 1 dX11_rowsFrom_0 rfl rfl ?_
  refine j_iload_n hc 3 dX11_rowsFrom_1 rfl rfl ?_
  refine j_ic_ne hc ca1 ca3 (tgt := 7) dX11_rowsFrom_2 (by decide) (fun q35 => ?_) (fun q35 => ?_)
  · replace h := h.1 q35
    refine j_sipush hc dX11_rowsFrom_7 (by decide) ?_
    refine j_iload_n hc 1 dX11_rowsFrom_10 rfl rfl ?_
    refine j_imul hc dX11_rowsFrom_11 ?_
    refine j_iload_n hc 2 dX11_rowsFrom_12 rfl rfl ?_
    refine j_iadd hc dX11_rowsFrom_13 ?_
    refine j_w (fun x27 ex27 cx27 => ?_)
    replace h := h x27 ex27
    refine j_istore (lv' := [(4, vI x27), (0, vR E 0), (1, vI a1), (2, vI a2), (3, vI a3)]) hc dX11_rowsFrom_14 (by decide) rfl ?_
    refine j_aload_nR hc 1 dX11_rowsFrom_16 rfl rfl ?_
    refine j_getR (c' := 21) hc fl_RX11_86 rfl rfl (fun hv => (sv_k hv hm rfl)) dX11_rowsFrom_17 ?_
    refine j_iload hc 0 dX11_rowsFrom_20 rfl ?_
    obtain ⟨b28, h⟩ := h
    refine j_lald (jn := (Int.toNat x27)) hc (fun hv => sv_kl hv hm rfl) cx27 b28 rfl dX11_rowsFrom_22 (fun cn29 => ?_)
    refine j_lconst (x := 0) hc dX11_rowsFrom_23 rfl ?_
    refine j_lcmp hc dX11_rowsFrom_24 ?_
    refine j_if_lt hc (cn_cmp _ _) (tgt := 36) dX11_rowsFrom_25 (by decide) (fun q34 => ?_) (fun q34 => ?_)
    · replace h := h.1 q34
      refine j_lconst (x := 0) hc dX11_rowsFrom_36 rfl ?_
      refine j_lstore (lv' := [(5, vL 0), (4, vI x27), (0, vR E 0), (1, vI a1), (2, vI a2), (3, vI a3)]) hc dX11_rowsFrom_37 (by decide) rfl ?_
      refine j_aload_nR hc 2 dX11_rowsFrom_39 rfl rfl ?_
      refine j_iload_n hc 3 dX11_rowsFrom_40 rfl rfl ?_
      refine j_iload_n hc 4 dX11_rowsFrom_41 rfl rfl ?_
      refine j_iconst hc dX11_rowsFrom_42 ?_
      refine j_vI hc (k := 11) (by decide) (fun hv => Or.inl (sv_k hv hm rfl)) ml_RX11_379 mv_X11_crewIn (As := [vI a1, vI a2, vI 0]) (c_X11_crewIn (cx_E hc) hm ca1 ca2 (wlit 0 (by decide)) h) rfl (by omega) (by decide) ⟨Nat.zero_le _, Nat.zero_le _⟩ (Nat.le_of_ble_eq_true rfl) rfl dX11_rowsFrom_43 (fun r30 s31 cr30 h => ?_)
      refine j_istore (lv' := [(7, vI r30), (5, vL 0), (4, vI x27), (0, vR E 0), (1, vI a1), (2, vI a2), (3, vI a3)]) hc dX11_rowsFrom_46 (by decide) rfl ?_
      obtain ⟨n48, h⟩ := h
      refine j_sub (lv' := [(0, vR E 0), (1, vI a1), (2, vI a2), (3, vI a3), (4, vI x27), (5, vL 0), (7, vI r30)]) [3, 4, 5, 6, 2, 1, 0] rfl ?_
      exact jl_X11_rowsFrom_48 hc hm hr hh hr_X11_rowsFrom n48 ca1 ca2 ca3 cx27 (llit 0 (by decide)) cr30 h
    · replace h := h.2 q34
      refine j_aload_nR hc 1 dX11_rowsFrom_28 rfl rfl ?_
      refine j_getR (c' := 21) hc fl_RX11_86 rfl rfl (fun hv => (sv_k hv hm rfl)) dX11_rowsFrom_29 ?_
      refine j_iload hc 0 dX11_rowsFrom_32 rfl ?_
      obtain ⟨b32, h⟩ := h
      refine j_lald (jn := (Int.toNat x27)) hc (fun hv => sv_kl hv hm rfl) cx27 b32 rfl dX11_rowsFrom_34 (fun cn33 => ?_)
      exact j_lret hc hr cn33 h dX11_rowsFrom_35
  · replace h := h.2 q35
    refine j_lconst (x := 1) hc dX11_rowsFrom_5 rfl ?_
    exact j_lret hc hr (llit 1 (by decide)) h dX11_rowsFrom_6
theorem ca_X11_rowsFrom : ∀ d : Nat, (∀ {l : Launch} {E : ev_E} (hE : Eok E) (hm : eM E = 2) {a1 : Int} {a2 : Int} {a3 : Int} (ca1 : wr a1 = a1) (ca2 : wr a2 = a2) (ca3 : wr a3 = a3) {σ : st_S} {Q : Int → st_S → Prop}, wp_X11_rowsFrom d a1 a2 a3 σ Q → cM l yX11_rowsFrom cX11_rowsFrom 8 (some .long) E (130 + d) 0 0 [vR E 0, vI a1, vI a2, vI a3] σ (qL E (gN σ + 0) Q)) := by
  intro d
  induction d with
  | zero => exact (fun {l} {E} hE hm {a1} {a2} {a3} ca1 ca2 ca3 {σ} {Q} h => h.elim)
  | succ d ih =>
    have q0 := @ih
    exact (fun {l} {E} hE hm {a1} {a2} {a3} ca1 ca2 ca3 {σ} {Q} h => ce_X11_rowsFrom (d := d) (rc_X11_rowsFrom := wp_X11_rowsFrom d) @q0 hE hm ca1 ca2 ca3 h)
theorem c_X11_rowsFrom {l : Launch} {E : ev_E} (hE : Eok E) (hm : eM E = 2) (d : Nat) {a1 : Int} {a2 : Int} {a3 : Int} (ca1 : wr a1 = a1) (ca2 : wr a2 = a2) (ca3 : wr a3 = a3) {σ : st_S} {Q : Int → st_S → Prop} : wp_X11_rowsFrom d a1 a2 a3 σ Q → cM l yX11_rowsFrom cX11_rowsFrom 8 (some .long) E (130 + d) 0 0 [vR E 0, vI a1, vI a2, vI a3] σ (qL E (gN σ + 0) Q) := fun h => (ca_X11_rowsFrom d) hE hm ca1 ca2 ca3 h
-- LitStrangersModel.ways(I)J
theorem dX11_ways_0 : decode cX11_ways 0 = .ok (.iload_n 1, 1) := by decide +kernel
theorem dX11_ways_1 : decode cX11_ways 1 = .ok (.iconst 0, 1) := by decide +kernel
theorem dX11_ways_2 : decode cX11_ways 2 = .ok (.bipush 10, 2) := by decide +kernel
theorem dX11_ways_4 : decode cX11_ways 4 = .ok (.invokestatic 106, 3) := by decide +kernel
theorem dX11_ways_7 : decode cX11_ways 7 = .ok (.ifCond .ne 7, 3) := by decide +kernel
theorem dX11_ways_10 : decode cX11_ways 10 = .ok (.ldc2_w 278, 3) := by decide +kernel
theorem dX11_ways_13 : decode cX11_ways 13 = .ok (.lreturn, 1) := by decide +kernel
theorem dX11_ways_14 : decode cX11_ways 14 = .ok (.aload_n 0, 1) := by decide +kernel
theorem dX11_ways_15 : decode cX11_ways 15 = .ok (.invokevirtual 385, 3) := by decide +kernel
theorem dX11_ways_18 : decode cX11_ways 18 = .ok (.iconst 0, 1) := by decide +kernel
theorem dX11_ways_19 : decode cX11_ways 19 = .ok (.istore_n 2, 1) := by decide +kernel
theorem dX11_ways_20 : decode cX11_ways 20 = .ok (.iload_n 2, 1) := by decide +kernel
theorem dX11_ways_21 : decode cX11_ways 21 = .ok (.sipush 11264, 3) := by decide +kernel
theorem dX11_ways_24 : decode cX11_ways 24 = .ok (.if_icmp .ge 18, 3) := by decide +kernel
theorem dX11_ways_27 : decode cX11_ways 27 = .ok (.aload_n 0, 1) := by decide +kernel
theorem dX11_ways_28 : decode cX11_ways 28 = .ok (.getfield 86, 3) := by decide +kernel
theorem dX11_ways_31 : decode cX11_ways 31 = .ok (.iload_n 2, 1) := by decide +kernel
theorem dX11_ways_32 : decode cX11_ways 32 = .ok (.ldc2_w 278, 3) := by decide +kernel
theorem dX11_ways_35 : decode cX11_ways 35 = .ok (.lastore, 1) := by decide +kernel
theorem dX11_ways_36 : decode cX11_ways 36 = .ok (.iinc 2 1, 3) := by decide +kernel
theorem dX11_ways_39 : decode cX11_ways 39 = .ok (.goto (-19), 3) := by decide +kernel
theorem dX11_ways_42 : decode cX11_ways 42 = .ok (.aload_n 0, 1) := by decide +kernel
theorem dX11_ways_43 : decode cX11_ways 43 = .ok (.iconst 0, 1) := by decide +kernel
theorem dX11_ways_44 : decode cX11_ways 44 = .ok (.iconst 0, 1) := by decide +kernel
theorem dX11_ways_45 : decode cX11_ways 45 = .ok (.iload_n 1, 1) := by decide +kernel
theorem dX11_ways_46 : decode cX11_ways 46 = .ok (.invokevirtual 394, 3) := by decide +kernel
theorem dX11_ways_49 : decode cX11_ways 49 = .ok (.lreturn, 1) := by decide +kernel
def L_X11_ways_20 (Q : Int → st_S → Prop)   : Nat → Int → Int → st_S → Prop
  | 0 => fun _ _ _ => False
  | n + 1 => fun l1 l2 σ => (11264 ≤ l2 → wp_X11_rowsFrom 13 0 0 l1 σ (fun r12 s13 => Q r12 s13)) ∧ (¬ 11264 ≤ l2 → ix l2 11264 ∧ ∀ s15 : st_S, s15 = sI σ 21 (Int.toNat l2) (-1) → ∀ x16 : Int, x16 = wr (l2 + 1) → (L_X11_ways_20 Q n) l1 x16 s15)
def wp_X11_ways (a1 : Int) (σ : st_S) (Q : Int → st_S → Prop) : Prop := wp_X11_lies a1 0 10 σ (fun r18 s19 => (¬ r18 = 0 → wp_X11_looks s19 (fun s21 => ∃ m20 : Nat, L_X11_ways_20 Q m20 a1 0 s21)) ∧ (r18 = 0 → Q (-1) s19))
set_option maxRecDepth 20000 in
theorem jl_X11_ways_20 {X : jj_X} {E : ev_E} {n0 hN : Nat} (hc : Cx X E cX11_ways 3 n0 hN RX11) (hm : eM E = 2) (hr : (xT X).sig.returnType = (some .long)) (hh : 144 ≤ hN) {Q : Int → st_S → Prop} : ∀ (n : Nat) {l1 : Int} {l2 : Int} (cl1 : wr l1 = l1) (cl2 : wr l2 = l2) {σ : st_S}, L_X11_ways_20 Q n l1 l2 σ → J X E 3 n0 0 0 (MQ (xB X) (qL E (n0 + 0) Q) (xA X) (xS X) 0 0 (eF E)) σ 20 [(0, vR E 0), (1, vI l1), (2, vI l2)] [] := by
  have hh1 : 1 ≤ hN := by omega
  intro n
  induction n with
  | zero => intro l1 l2 cl1 cl2 σ h; exact h.elim
  | succ n ih =>
    intro l1 l2 cl1 cl2 σ h
    have hk20 : ∀ {l1 : Int} {l2 : Int} (cl1 : wr l1 = l1) (cl2 : wr l2 = l2) {σ : st_S}, L_X11_ways_20 Q n l1 l2 σ → J X E 3 n0 0 0 (MQ (xB X) (qL E (n0 + 0) Q) (xA X) (xS X) 0 0 (eF E)) σ 20 [(0, vR E 0), (1, vI l1), (2, vI l2)] [] := ih
    replace h : (11264 ≤ l2 → wp_X11_rowsFrom 13 0 0 l1 σ (fun r12 s13 => Q r12 s13)) ∧ (¬ 11264 ≤ l2 → ix l2 11264 ∧ ∀ s15 : st_S, s15 = sI σ 21 (Int.toNat l2) (-1) → ∀ x16 : Int, x16 = wr (l2 + 1) → (L_X11_ways_20 Q n) l1 x16 s15) := h
    refine j_iload_n hc 2 dX11_ways_20 rfl rfl ?_
    refine j_sipush hc dX11_ways_21 (by decide) ?_
    refine j_ic_ge hc cl2 (wlit 11264 (by decide)) (tgt := 42) dX11_ways_24 (by decide) (fun q17 => ?_) (fun q17 => ?_)
    · replace h := h.1 q17
      refine j_aload_nR hc 0 dX11_ways_42 rfl rfl ?_
      refine j_iconst hc dX11_ways_43 ?_
      refine j_iconst hc dX11_ways_44 ?_
      refine j_iload_n hc 1 dX11_ways_45 rfl rfl ?_
      refine j_vL hc (k := 11) (by decide) (fun hv => Or.inl (sv_k hv hm rfl)) ml_RX11_394 mv_X11_rowsFrom (As := [vI 0, vI 0, vI l1]) (c_X11_rowsFrom (cx_E hc) hm 13 (wlit 0 (by decide)) (wlit 0 (by decide)) cl1 h) rfl (by omega) (by decide) ⟨Nat.zero_le _, Nat.zero_le _⟩ (Nat.le_of_ble_eq_true rfl) rfl dX11_ways_46 (fun r12 s13 cr12 h => ?_)
      exact j_lret hc hr cr12 h dX11_ways_49
    · replace h := h.2 q17
      refine j_aload_nR hc 0 dX11_ways_27 rfl rfl ?_
      refine j_getR (c' := 21) hc fl_RX11_86 rfl rfl (fun hv => (sv_k hv hm rfl)) dX11_ways_28 ?_
      refine j_iload_n hc 2 dX11_ways_31 rfl rfl ?_
      refine j_ldc2 (x := (-1)) hc (by decide) kl_RX11_278 dX11_ways_32 ?_
      obtain ⟨b14, h⟩ := h
      refine j_last (jn := (Int.toNat l2)) hc (fun hv => sv_kl hv hm rfl) cl2 b14 rfl (llit (-1) (by decide)) dX11_ways_35 (fun s15 es15 => ?_)
      replace h := h s15 es15
      obtain ⟨x16, ex16⟩ : ∃ y : Int, y = wr (l2 + 1) := ⟨_, rfl⟩
      have cx16 : wr x16 = x16 := by rw [ex16]; exact wr_wr _
      replace h := h x16 ex16
      refine j_iinc (lv' := [(2, vI x16), (0, vR E 0), (1, vI l1)]) hc 2 dX11_ways_36 rfl (by decide) ex16 rfl ?_
      refine j_goto (tgt := 20) hc dX11_ways_39 (by decide) ?_
      refine j_sub (lv' := [(0, vR E 0), (1, vI l1), (2, vI x16)]) [1, 2, 0] rfl ?_
      exact hk20 cl1 cx16 h
set_option maxRecDepth 20000 in
theorem c_X11_ways {l : Launch} {E : ev_E} (hE : Eok E) (hm : eM E = 2) {a1 : Int} (ca1 : wr a1 = a1) {σ : st_S} {Q : Int → st_S → Prop} (h : wp_X11_ways a1 σ Q) : cM l yX11_ways cX11_ways 3 (some .long) E 144 0 0 [vR E 0, vI a1] σ (qL E (gN σ + 0) Q) := by
  refine cM_of (lv := [(0, vR E 0), (1, vI a1)]) (by decide) hE (Nat.le_of_ble_eq_true rfl) (rfl) ?_
  intro X hX hc _ _ hr _ _
  subst hX
  have hh : 144 ≤ 144 := Nat.le_refl _
  have hh1 : 1 ≤ 144 := by omega
  replace h : wp_X11_lies a1 0 10 σ (fun r18 s19 => (¬ r18 = 0 → wp_X11_looks s19 (fun s21 => ∃ m20 : Nat, L_X11_ways_20 Q m20 a1 0 s21)) ∧ (r18 = 0 → Q (-1) s19)) := h
  refine j_iload_n hc 1 dX11_ways_0 rfl rfl ?_
  refine j_iconst hc dX11_ways_1 ?_
  refine j_bipush hc dX11_ways_2 (by decide) ?_
  refine j_sI hc ml_RX11_106 mv_X11_lies (As := [vI a1, vI 0, vI 10]) (c_X11_lies (cx_E hc) hm ca1 (wlit 0 (by decide)) (wlit 10 (by decide)) h) rfl (by omega) (by decide) ⟨Nat.zero_le _, Nat.zero_le _⟩ (Nat.le_of_ble_eq_true rfl) rfl dX11_ways_4 (fun r18 s19 cr18 h => ?_)
  refine j_if_ne hc cr18 (tgt := 14) dX11_ways_7 (by decide) (fun q22 => ?_) (fun q22 => ?_)
  · replace h := h.1 q22
    refine j_aload_nR hc 0 dX11_ways_14 rfl rfl ?_
    refine j_vV hc (k := 11) (by decide) (fun hv => Or.inl (sv_k hv hm rfl)) ml_RX11_385 mv_X11_looks (As := []) (c_X11_looks (cx_E hc) hm  h) rfl (by omega) (by decide) ⟨Nat.zero_le _, Nat.zero_le _⟩ (Nat.le_of_ble_eq_true rfl) rfl dX11_ways_15 (fun s21 h => ?_)
    refine j_iconst hc dX11_ways_18 ?_
    refine j_istore_n (lv' := [(2, vI 0), (0, vR E 0), (1, vI a1)]) hc dX11_ways_19 rfl (by decide) rfl ?_
    obtain ⟨n20, h⟩ := h
    refine j_sub (lv' := [(0, vR E 0), (1, vI a1), (2, vI 0)]) [1, 2, 0] rfl ?_
    exact jl_X11_ways_20 hc hm hr hh n20 ca1 (wlit 0 (by decide)) h
  · replace h := h.2 q22
    refine j_ldc2 (x := (-1)) hc (by decide) kl_RX11_278 dX11_ways_10 ?_
    exact j_lret hc hr (llit (-1) (by decide)) h dX11_ways_13
-- LitStrangersModel.late(I)I
theorem dX11_late_0 : decode cX11_late 0 = .ok (.aload_n 0, 1) := by decide +kernel
theorem dX11_late_1 : decode cX11_late 1 = .ok (.iload_n 1, 1) := by decide +kernel
theorem dX11_late_2 : decode cX11_late 2 = .ok (.invokevirtual 128, 3) := by decide +kernel
theorem dX11_late_5 : decode cX11_late 5 = .ok (.ifCond .ne 5, 3) := by decide +kernel
theorem dX11_late_8 : decode cX11_late 8 = .ok (.iconst (-1), 1) := by decide +kernel
theorem dX11_late_9 : decode cX11_late 9 = .ok (.ireturn, 1) := by decide +kernel
theorem dX11_late_10 : decode cX11_late 10 = .ok (.aload_n 0, 1) := by decide +kernel
theorem dX11_late_11 : decode cX11_late 11 = .ok (.invokevirtual 385, 3) := by decide +kernel
theorem dX11_late_14 : decode cX11_late 14 = .ok (.aload_n 0, 1) := by decide +kernel
theorem dX11_late_15 : decode cX11_late 15 = .ok (.iconst 0, 1) := by decide +kernel
theorem dX11_late_16 : decode cX11_late 16 = .ok (.iconst 0, 1) := by decide +kernel
theorem dX11_late_17 : decode cX11_late 17 = .ok (.invokevirtual 382, 3) := by decide +kernel
theorem dX11_late_20 : decode cX11_late 20 = .ok (.istore_n 2, 1) := by decide +kernel
theorem dX11_late_21 : decode cX11_late 21 = .ok (.iconst 0, 1) := by decide +kernel
theorem dX11_late_22 : decode cX11_late 22 = .ok (.istore_n 3, 1) := by decide +kernel
theorem dX11_late_23 : decode cX11_late 23 = .ok (.iload_n 3, 1) := by decide +kernel
theorem dX11_late_24 : decode cX11_late 24 = .ok (.sipush 11264, 3) := by decide +kernel
theorem dX11_late_27 : decode cX11_late 27 = .ok (.if_icmp .ge 16, 3) := by decide +kernel
theorem dX11_late_30 : decode cX11_late 30 = .ok (.aload_n 0, 1) := by decide +kernel
theorem dX11_late_31 : decode cX11_late 31 = .ok (.getfield 93, 3) := by decide +kernel
theorem dX11_late_34 : decode cX11_late 34 = .ok (.iload_n 3, 1) := by decide +kernel
theorem dX11_late_35 : decode cX11_late 35 = .ok (.iconst 0, 1) := by decide +kernel
theorem dX11_late_36 : decode cX11_late 36 = .ok (.bastore, 1) := by decide +kernel
theorem dX11_late_37 : decode cX11_late 37 = .ok (.iinc 3 1, 3) := by decide +kernel
theorem dX11_late_40 : decode cX11_late 40 = .ok (.goto (-17), 3) := by decide +kernel
theorem dX11_late_43 : decode cX11_late 43 = .ok (.aload_n 0, 1) := by decide +kernel
theorem dX11_late_44 : decode cX11_late 44 = .ok (.getfield 93, 3) := by decide +kernel
theorem dX11_late_47 : decode cX11_late 47 = .ok (.iconst 0, 1) := by decide +kernel
theorem dX11_late_48 : decode cX11_late 48 = .ok (.iconst 1, 1) := by decide +kernel
theorem dX11_late_49 : decode cX11_late 49 = .ok (.bastore, 1) := by decide +kernel
theorem dX11_late_50 : decode cX11_late 50 = .ok (.iconst (-1), 1) := by decide +kernel
theorem dX11_late_51 : decode cX11_late 51 = .ok (.istore_n 3, 1) := by decide +kernel
theorem dX11_late_52 : decode cX11_late 52 = .ok (.iconst 0, 1) := by decide +kernel
theorem dX11_late_53 : decode cX11_late 53 = .ok (.istore 4, 2) := by decide +kernel
theorem dX11_late_55 : decode cX11_late 55 = .ok (.iload 4, 2) := by decide +kernel
theorem dX11_late_57 : decode cX11_late 57 = .ok (.iload_n 2, 1) := by decide +kernel
theorem dX11_late_58 : decode cX11_late 58 = .ok (.if_icmp .ge 139, 3) := by decide +kernel
theorem dX11_late_61 : decode cX11_late 61 = .ok (.iconst 0, 1) := by decide +kernel
theorem dX11_late_62 : decode cX11_late 62 = .ok (.istore 5, 2) := by decide +kernel
theorem dX11_late_64 : decode cX11_late 64 = .ok (.iload 5, 2) := by decide +kernel
theorem dX11_late_66 : decode cX11_late 66 = .ok (.sipush 1024, 3) := by decide +kernel
theorem dX11_late_69 : decode cX11_late 69 = .ok (.if_icmp .ge 122, 3) := by decide +kernel
theorem dX11_late_72 : decode cX11_late 72 = .ok (.aload_n 0, 1) := by decide +kernel
theorem dX11_late_73 : decode cX11_late 73 = .ok (.getfield 93, 3) := by decide +kernel
theorem dX11_late_76 : decode cX11_late 76 = .ok (.sipush 1024, 3) := by decide +kernel
theorem dX11_late_79 : decode cX11_late 79 = .ok (.iload 4, 2) := by decide +kernel
theorem dX11_late_81 : decode cX11_late 81 = .ok (.imul, 1) := by decide +kernel
theorem dX11_late_82 : decode cX11_late 82 = .ok (.iload 5, 2) := by decide +kernel
theorem dX11_late_84 : decode cX11_late 84 = .ok (.iadd, 1) := by decide +kernel
theorem dX11_late_85 : decode cX11_late 85 = .ok (.baload, 1) := by decide +kernel
theorem dX11_late_86 : decode cX11_late 86 = .ok (.ifCond .ne 6, 3) := by decide +kernel
theorem dX11_late_89 : decode cX11_late 89 = .ok (.goto 96, 3) := by decide +kernel
theorem dX11_late_92 : decode cX11_late 92 = .ok (.aload_n 0, 1) := by decide +kernel
theorem dX11_late_93 : decode cX11_late 93 = .ok (.iload 4, 2) := by decide +kernel
theorem dX11_late_95 : decode cX11_late 95 = .ok (.iload 5, 2) := by decide +kernel
theorem dX11_late_97 : decode cX11_late 97 = .ok (.iconst 0, 1) := by decide +kernel
theorem dX11_late_98 : decode cX11_late 98 = .ok (.invokevirtual 379, 3) := by decide +kernel
theorem dX11_late_101 : decode cX11_late 101 = .ok (.istore 6, 2) := by decide +kernel
theorem dX11_late_103 : decode cX11_late 103 = .ok (.iload 6, 2) := by decide +kernel
theorem dX11_late_105 : decode cX11_late 105 = .ok (.iconst (-1), 1) := by decide +kernel
theorem dX11_late_106 : decode cX11_late 106 = .ok (.if_icmp .eq 79, 3) := by decide +kernel
theorem dX11_late_109 : decode cX11_late 109 = .ok (.aload_n 0, 1) := by decide +kernel
theorem dX11_late_110 : decode cX11_late 110 = .ok (.iload 4, 2) := by decide +kernel
theorem dX11_late_112 : decode cX11_late 112 = .ok (.iconst 1, 1) := by decide +kernel
theorem dX11_late_113 : decode cX11_late 113 = .ok (.iadd, 1) := by decide +kernel
theorem dX11_late_114 : decode cX11_late 114 = .ok (.iload 5, 2) := by decide +kernel
theorem dX11_late_116 : decode cX11_late 116 = .ok (.iload 6, 2) := by decide +kernel
theorem dX11_late_118 : decode cX11_late 118 = .ok (.ior, 1) := by decide +kernel
theorem dX11_late_119 : decode cX11_late 119 = .ok (.invokevirtual 382, 3) := by decide +kernel
theorem dX11_late_122 : decode cX11_late 122 = .ok (.iload_n 2, 1) := by decide +kernel
theorem dX11_late_123 : decode cX11_late 123 = .ok (.iload 4, 2) := by decide +kernel
theorem dX11_late_125 : decode cX11_late 125 = .ok (.isub, 1) := by decide +kernel
theorem dX11_late_126 : decode cX11_late 126 = .ok (.iconst 1, 1) := by decide +kernel
theorem dX11_late_127 : decode cX11_late 127 = .ok (.isub, 1) := by decide +kernel
theorem dX11_late_128 : decode cX11_late 128 = .ok (.if_icmp .ge 6, 3) := by decide +kernel
theorem dX11_late_131 : decode cX11_late 131 = .ok (.goto 39, 3) := by decide +kernel
theorem dX11_late_134 : decode cX11_late 134 = .ok (.aload_n 0, 1) := by decide +kernel
theorem dX11_late_135 : decode cX11_late 135 = .ok (.getfield 93, 3) := by decide +kernel
theorem dX11_late_138 : decode cX11_late 138 = .ok (.sipush 1024, 3) := by decide +kernel
theorem dX11_late_141 : decode cX11_late 141 = .ok (.iload 4, 2) := by decide +kernel
theorem dX11_late_143 : decode cX11_late 143 = .ok (.iconst 1, 1) := by decide +kernel
theorem dX11_late_144 : decode cX11_late 144 = .ok (.iadd, 1) := by decide +kernel
theorem dX11_late_145 : decode cX11_late 145 = .ok (.imul, 1) := by decide +kernel
theorem dX11_late_146 : decode cX11_late 146 = .ok (.iload 5, 2) := by decide +kernel
theorem dX11_late_148 : decode cX11_late 148 = .ok (.iload 6, 2) := by decide +kernel
theorem dX11_late_150 : decode cX11_late 150 = .ok (.ior, 1) := by decide +kernel
theorem dX11_late_151 : decode cX11_late 151 = .ok (.iadd, 1) := by decide +kernel
theorem dX11_late_152 : decode cX11_late 152 = .ok (.iconst 1, 1) := by decide +kernel
theorem dX11_late_153 : decode cX11_late 153 = .ok (.bastore, 1) := by decide +kernel
theorem dX11_late_154 : decode cX11_late 154 = .ok (.iload 6, 2) := by decide +kernel
theorem dX11_late_156 : decode cX11_late 156 = .ok (.iload_n 1, 1) := by decide +kernel
theorem dX11_late_157 : decode cX11_late 157 = .ok (.invokestatic 325, 3) := by decide +kernel
theorem dX11_late_160 : decode cX11_late 160 = .ok (.ifCond .eq 8, 3) := by decide +kernel
theorem dX11_late_163 : decode cX11_late 163 = .ok (.iload 4, 2) := by decide +kernel
theorem dX11_late_165 : decode cX11_late 165 = .ok (.goto 4, 3) := by decide +kernel
theorem dX11_late_168 : decode cX11_late 168 = .ok (.iload_n 3, 1) := by decide +kernel
theorem dX11_late_169 : decode cX11_late 169 = .ok (.istore_n 3, 1) := by decide +kernel
theorem dX11_late_170 : decode cX11_late 170 = .ok (.aload_n 0, 1) := by decide +kernel
theorem dX11_late_171 : decode cX11_late 171 = .ok (.iload 4, 2) := by decide +kernel
theorem dX11_late_173 : decode cX11_late 173 = .ok (.iload 5, 2) := by decide +kernel
theorem dX11_late_175 : decode cX11_late 175 = .ok (.iload 6, 2) := by decide +kernel
theorem dX11_late_177 : decode cX11_late 177 = .ok (.invokevirtual 379, 3) := by decide +kernel
theorem dX11_late_180 : decode cX11_late 180 = .ok (.istore 6, 2) := by decide +kernel
theorem dX11_late_182 : decode cX11_late 182 = .ok (.goto (-79), 3) := by decide +kernel
theorem dX11_late_185 : decode cX11_late 185 = .ok (.iinc 5 1, 3) := by decide +kernel
theorem dX11_late_188 : decode cX11_late 188 = .ok (.goto (-124), 3) := by decide +kernel
theorem dX11_late_191 : decode cX11_late 191 = .ok (.iinc 4 1, 3) := by decide +kernel
theorem dX11_late_194 : decode cX11_late 194 = .ok (.goto (-139), 3) := by decide +kernel
theorem dX11_late_197 : decode cX11_late 197 = .ok (.iload_n 3, 1) := by decide +kernel
theorem dX11_late_198 : decode cX11_late 198 = .ok (.ireturn, 1) := by decide +kernel
def B_X11_late_170 (Q : Int → st_S → Prop)  (k55 : Int → Int → Int → Int → st_S → Prop) (k64 : Int → Int → Int → Int → Int → st_S → Prop) (k103 : Int → Int → Int → Int → Int → Int → st_S → Prop) (l1 : Int) (l2 : Int) (l3 : Int) (l4 : Int) (l5 : Int) (l6 : Int) (σ : st_S) : Prop := wp_X11_crewIn l4 l5 l6 σ (fun r37 s38 => k103 l1 l2 l3 l4 l5 r37 s38)
def B_X11_late_169 (Q : Int → st_S → Prop)  (k55 : Int → Int → Int → Int → st_S → Prop) (k64 : Int → Int → Int → Int → Int → st_S → Prop) (k103 : Int → Int → Int → Int → Int → Int → st_S → Prop) (l1 : Int) (l2 : Int) (l4 : Int) (l5 : Int) (l6 : Int) (v0 : Int) (σ : st_S) : Prop := B_X11_late_170 Q k55 k64 k103 l1 l2 v0 l4 l5 l6 σ
def B_X11_late_185 (Q : Int → st_S → Prop)  (k55 : Int → Int → Int → Int → st_S → Prop) (k64 : Int → Int → Int → Int → Int → st_S → Prop) (l1 : Int) (l2 : Int) (l3 : Int) (l4 : Int) (l5 : Int) (σ : st_S) : Prop := ∀ x39 : Int, x39 = wr (l5 + 1) → k64 l1 l2 l3 l4 x39 σ
def L_X11_late_103 (Q : Int → st_S → Prop)  (k55 : Int → Int → Int → Int → st_S → Prop) (k64 : Int → Int → Int → Int → Int → st_S → Prop) : Nat → Int → Int → Int → Int → Int → Int → st_S → Prop
  | 0 => fun _ _ _ _ _ _ _ => False
  | n + 1 => fun l1 l2 l3 l4 l5 l6 σ => (l6 = (-1) → B_X11_late_185 Q k55 k64 l1 l2 l3 l4 l5 σ) ∧ (¬ l6 = (-1) → wp_X11_longestFrom 13 (wr (l4 + 1)) (o_or l5 l6) σ (fun r40 s41 => (wr ((l2 - l4) - 1) ≤ r40 → ix (wr ((1024 * (l4 + 1)) + o_or l5 l6)) 11264 ∧ ∀ s43 : st_S, s43 = sI s41 23 (Int.toNat (wr ((1024 * (l4 + 1)) + o_or l5 l6))) (o_nz 1) → wp_X11_isIn l6 l1 s43 (fun r44 s45 => (r44 = 0 → B_X11_late_169 Q k55 k64 (L_X11_late_103 Q k55 k64 n) l1 l2 l4 l5 l6 l3 s45) ∧ (¬ r44 = 0 → B_X11_late_169 Q k55 k64 (L_X11_late_103 Q k55 k64 n) l1 l2 l4 l5 l6 l4 s45))) ∧ (¬ wr ((l2 - l4) - 1) ≤ r40 → B_X11_late_170 Q k55 k64 (L_X11_late_103 Q k55 k64 n) l1 l2 l3 l4 l5 l6 s41)))
def L_X11_late_64 (Q : Int → st_S → Prop)  (k55 : Int → Int → Int → Int → st_S → Prop) : Nat → Int → Int → Int → Int → Int → st_S → Prop
  | 0 => fun _ _ _ _ _ _ => False
  | n + 1 => fun l1 l2 l3 l4 l5 σ => (1024 ≤ l5 → ∀ x49 : Int, x49 = wr (l4 + 1) → k55 l1 l2 l3 x49 σ) ∧ (¬ 1024 ≤ l5 → ix (wr ((1024 * l4) + l5)) 11264 ∧ (¬ gI σ 23 (Int.toNat (wr ((1024 * l4) + l5))) = 0 → wp_X11_crewIn l4 l5 0 σ (fun r52 s53 => ∃ m103 : Nat, L_X11_late_103 Q k55 (L_X11_late_64 Q k55 n) m103 l1 l2 l3 l4 l5 r52 s53)) ∧ (gI σ 23 (Int.toNat (wr ((1024 * l4) + l5))) = 0 → B_X11_late_185 Q k55 (L_X11_late_64 Q k55 n) l1 l2 l3 l4 l5 σ))
def L_X11_late_55 (Q : Int → st_S → Prop)   : Nat → Int → Int → Int → Int → st_S → Prop
  | 0 => fun _ _ _ _ _ => False
  | n + 1 => fun l1 l2 l3 l4 σ => (l2 ≤ l4 → Q l3 σ) ∧ (¬ l2 ≤ l4 → ∃ m64 : Nat, L_X11_late_64 Q (L_X11_late_55 Q n) m64 l1 l2 l3 l4 0 σ)
def L_X11_late_23 (Q : Int → st_S → Prop)   : Nat → Int → Int → Int → st_S → Prop
  | 0 => fun _ _ _ _ => False
  | n + 1 => fun l1 l2 l3 σ => (11264 ≤ l3 → ∀ s57 : st_S, s57 = sI σ 23 0 (o_nz 1) → ∃ m55 : Nat, L_X11_late_55 Q m55 l1 l2 (-1) 0 s57) ∧ (¬ 11264 ≤ l3 → ix l3 11264 ∧ ∀ s59 : st_S, s59 = sI σ 23 (Int.toNat l3) (o_nz 0) → ∀ x60 : Int, x60 = wr (l3 + 1) → (L_X11_late_23 Q n) l1 l2 x60 s59)
def wp_X11_late (a1 : Int) (σ : st_S) (Q : Int → st_S → Prop) : Prop := wp_X11_isPerson a1 σ (fun r62 s63 => (¬ r62 = 0 → wp_X11_looks s63 (fun s65 => wp_X11_longestFrom 13 0 0 s65 (fun r66 s67 => ∃ m23 : Nat, L_X11_late_23 Q m23 a1 r66 0 s67))) ∧ (r62 = 0 → Q (-1) s63))
set_option maxRecDepth 20000 in
theorem jb_X11_late_170 {X : jj_X} {E : ev_E} {n0 hN : Nat} (hc : Cx X E cX11_late 7 n0 hN RX11) (hm : eM E = 2) (hr : (xT X).sig.returnType = (some .int)) (hh : 144 ≤ hN) {Q : Int → st_S → Prop} {k55 : Int → Int → Int → Int → st_S → Prop} (hk55 : ∀ {l1 : Int} {l2 : Int} {l3 : Int} {l4 : Int} (cl1 : wr l1 = l1) (cl2 : wr l2 = l2) (cl3 : wr l3 = l3) (cl4 : wr l4 = l4) {σ : st_S}, k55 l1 l2 l3 l4 σ → J X E 7 n0 0 0 (MQ (xB X) (qI E (n0 + 0) Q) (xA X) (xS X) 0 0 (eF E)) σ 55 [(0, vR E 0), (1, vI l1), (2, vI l2), (3, vI l3), (4, vI l4)] []) {k64 : Int → Int → Int → Int → Int → st_S → Prop} (hk64 : ∀ {l1 : Int} {l2 : Int} {l3 : Int} {l4 : Int} {l5 : Int} (cl1 : wr l1 = l1) (cl2 : wr l2 = l2) (cl3 : wr l3 = l3) (cl4 : wr l4 = l4) (cl5 : wr l5 = l5) {σ : st_S}, k64 l1 l2 l3 l4 l5 σ → J X E 7 n0 0 0 (MQ (xB X) (qI E (n0 + 0) Q) (xA X) (xS X) 0 0 (eF E)) σ 64 [(0, vR E 0), (1, vI l1), (2, vI l2), (3, vI l3), (4, vI l4), (5, vI l5)] []) {k103 : Int → Int → Int → Int → Int → Int → st_S → Prop} (hk103 : ∀ {l1 : Int} {l2 : Int} {l3 : Int} {l4 : Int} {l5 : Int} {l6 : Int} (cl1 : wr l1 = l1) (cl2 : wr l2 = l2) (cl3 : wr l3 = l3) (cl4 : wr l4 = l4) (cl5 : wr l5 = l5) (cl6 : wr l6 = l6) {σ : st_S}, k103 l1 l2 l3 l4 l5 l6 σ → J X E 7 n0 0 0 (MQ (xB X) (qI E (n0 + 0) Q) (xA X) (xS X) 0 0 (eF E)) σ 103 [(0, vR E 0), (1, vI l1), (2, vI l2), (3, vI l3), (4, vI l4), (5, vI l5), (6, vI l6)] []) {l1 : Int} {l2 : Int} {l3 : Int} {l4 : Int} {l5 : Int} {l6 : Int} (cl1 : wr l1 = l1) (cl2 : wr l2 = l2) (cl3 : wr l3 = l3) (cl4 : wr l4 = l4) (cl5 : wr l5 = l5) (cl6 : wr l6 = l6) {σ : st_S} (h : B_X11_late_170 Q k55 k64 k103 l1 l2 l3 l4 l5 l6 σ) : J X E 7 n0 0 0 (MQ (xB X) (qI E (n0 + 0) Q) (xA X) (xS X) 0 0 (eF E)) σ 170 [(0, vR E 0), (1, vI l1), (2, vI l2), (3, vI l3), (4, vI l4), (5, vI l5), (6, vI l6)] [] := by
  have hh1 : 1 ≤ hN := by omega
  replace h : wp_X11_crewIn l4 l5 l6 σ (fun r37 s38 => k103 l1 l2 l3 l4 l5 r37 s38) := h
  refine j_aload_nR hc 0 dX11_late_170 rfl rfl ?_
  refine j_iload hc 4 dX11_late_171 rfl ?_
  refine j_iload hc 5 dX11_late_173 rfl ?_
  refine j_iload hc 6 dX11_late_175 rfl ?_
  refine j_vI hc (k := 11) (by decide) (fun hv => Or.inl (sv_k hv hm rfl)) ml_RX11_379 mv_X11_crewIn (As := [vI l4, vI l5, vI l6]) (c_X11_crewIn (cx_E hc) hm cl4 cl5 cl6 h) rfl (by omega) (by decide) ⟨Nat.zero_le _, Nat.zero_le _⟩ (Nat.le_of_ble_eq_true rfl) rfl dX11_late_177 (fun r37 s38 cr37 h => ?_)
  refine j_istore (lv' := [(6, vI r37), (0, vR E 0), (1, vI l1), (2, vI l2), (3, vI l3), (4, vI l4), (5, vI l5)]) hc dX11_late_180 (by decide) rfl ?_
  refine j_goto (tgt := 103) hc dX11_late_182 (by decide) ?_
  refine j_sub (lv' := [(0, vR E 0), (1, vI l1), (2, vI l2), (3, vI l3), (4, vI l4), (5, vI l5), (6, vI r37)]) [1, 2, 3, 4, 5, 6, 0] rfl ?_
  exact hk103 cl1 cl2 cl3 cl4 cl5 cr37 h
set_option maxRecDepth 20000 in
theorem jb_X11_late_169 {X : jj_X} {E : ev_E} {n0 hN : Nat} (hc : Cx X E cX11_late 7 n0 hN RX11) (hm : eM E = 2) (hr : (xT X).sig.returnType = (some .int)) (hh : 144 ≤ hN) {Q : Int → st_S → Prop} {k55 : Int → Int → Int → Int → st_S → Prop} (hk55 : ∀ {l1 : Int} {l2 : Int} {l3 : Int} {l4 : Int} (cl1 : wr l1 = l1) (cl2 : wr l2 = l2) (cl3 : wr l3 = l3) (cl4 : wr l4 = l4) {σ : st_S}, k55 l1 l2 l3 l4 σ → J X E 7 n0 0 0 (MQ (xB X) (qI E (n0 + 0) Q) (xA X) (xS X) 0 0 (eF E)) σ 55 [(0, vR E 0), (1, vI l1), (2, vI l2), (3, vI l3), (4, vI l4)] []) {k64 : Int → Int → Int → Int → Int → st_S → Prop} (hk64 : ∀ {l1 : Int} {l2 : Int} {l3 : Int} {l4 : Int} {l5 : Int} (cl1 : wr l1 = l1) (cl2 : wr l2 = l2) (cl3 : wr l3 = l3) (cl4 : wr l4 = l4) (cl5 : wr l5 = l5) {σ : st_S}, k64 l1 l2 l3 l4 l5 σ → J X E 7 n0 0 0 (MQ (xB X) (qI E (n0 + 0) Q) (xA X) (xS X) 0 0 (eF E)) σ 64 [(0, vR E 0), (1, vI l1), (2, vI l2), (3, vI l3), (4, vI l4), (5, vI l5)] []) {k103 : Int → Int → Int → Int → Int → Int → st_S → Prop} (hk103 : ∀ {l1 : Int} {l2 : Int} {l3 : Int} {l4 : Int} {l5 : Int} {l6 : Int} (cl1 : wr l1 = l1) (cl2 : wr l2 = l2) (cl3 : wr l3 = l3) (cl4 : wr l4 = l4) (cl5 : wr l5 = l5) (cl6 : wr l6 = l6) {σ : st_S}, k103 l1 l2 l3 l4 l5 l6 σ → J X E 7 n0 0 0 (MQ (xB X) (qI E (n0 + 0) Q) (xA X) (xS X) 0 0 (eF E)) σ 103 [(0, vR E 0), (1, vI l1), (2, vI l2), (3, vI l3), (4, vI l4), (5, vI l5), (6, vI l6)] []) {l1 : Int} {l2 : Int} {l4 : Int} {l5 : Int} {l6 : Int} {v0 : Int} (cl1 : wr l1 = l1) (cl2 : wr l2 = l2) (cl4 : wr l4 = l4) (cl5 : wr l5 = l5) (cl6 : wr l6 = l6) (cv0 : wr v0 = v0) {σ : st_S} (h : B_X11_late_169 Q k55 k64 k103 l1 l2 l4 l5 l6 v0 σ) : J X E 7 n0 0 0 (MQ (xB X) (qI E (n0 + 0) Q) (xA X) (xS X) 0 0 (eF E)) σ 169 [(0, vR E 0), (1, vI l1), (2, vI l2), (4, vI l4), (5, vI l5), (6, vI l6)] [vI v0] := by
  have hh1 : 1 ≤ hN := by omega
  replace h : B_X11_late_170 Q k55 k64 k103 l1 l2 v0 l4 l5 l6 σ := h
  refine j_istore_n (lv' := [(3, vI v0), (0, vR E 0), (1, vI l1), (2, vI l2), (4, vI l4), (5, vI l5), (6, vI l6)]) hc dX11_late_169 rfl (by decide) rfl ?_
  refine j_sub (lv' := [(0, vR E 0), (1, vI l1), (2, vI l2), (3, vI v0), (4, vI l4), (5, vI l5), (6, vI l6)]) [1, 2, 3, 0, 4, 5, 6] rfl ?_
  exact jb_X11_late_170 hc hm hr hh hk55 hk64 hk103 cl1 cl2 cv0 cl4 cl5 cl6 h
set_option maxRecDepth 20000 in
theorem jb_X11_late_185 {X : jj_X} {E : ev_E} {n0 hN : Nat} (hc : Cx X E cX11_late 7 n0 hN RX11) (hm : eM E = 2) (hr : (xT X).sig.returnType = (some .int)) (hh : 144 ≤ hN) {Q : Int → st_S → Prop} {k55 : Int → Int → Int → Int → st_S → Prop} (hk55 : ∀ {l1 : Int} {l2 : Int} {l3 : Int} {l4 : Int} (cl1 : wr l1 = l1) (cl2 : wr l2 = l2) (cl3 : wr l3 = l3) (cl4 : wr l4 = l4) {σ : st_S}, k55 l1 l2 l3 l4 σ → J X E 7 n0 0 0 (MQ (xB X) (qI E (n0 + 0) Q) (xA X) (xS X) 0 0 (eF E)) σ 55 [(0, vR E 0), (1, vI l1), (2, vI l2), (3, vI l3), (4, vI l4)] []) {k64 : Int → Int → Int → Int → Int → st_S → Prop} (hk64 : ∀ {l1 : Int} {l2 : Int} {l3 : Int} {l4 : Int} {l5 : Int} (cl1 : wr l1 = l1) (cl2 : wr l2 = l2) (cl3 : wr l3 = l3) (cl4 : wr l4 = l4) (cl5 : wr l5 = l5) {σ : st_S}, k64 l1 l2 l3 l4 l5 σ → J X E 7 n0 0 0 (MQ (xB X) (qI E (n0 + 0) Q) (xA X) (xS X) 0 0 (eF E)) σ 64 [(0, vR E 0), (1, vI l1), (2, vI l2), (3, vI l3), (4, vI l4), (5, vI l5)] []) {l1 : Int} {l2 : Int} {l3 : Int} {l4 : Int} {l5 : Int} (cl1 : wr l1 = l1) (cl2 : wr l2 = l2) (cl3 : wr l3 = l3) (cl4 : wr l4 = l4) (cl5 : wr l5 = l5) {σ : st_S} (h : B_X11_late_185 Q k55 k64 l1 l2 l3 l4 l5 σ) : J X E 7 n0 0 0 (MQ (xB X) (qI E (n0 + 0) Q) (xA X) (xS X) 0 0 (eF E)) σ 185 [(0, vR E 0), (1, vI l1), (2, vI l2), (3, vI l3), (4, vI l4), (5, vI l5)] [] := by
  have hh1 : 1 ≤ hN := by omega
  replace h : ∀ x39 : Int, x39 = wr (l5 + 1) → k64 l1 l2 l3 l4 x39 σ := h
  obtain ⟨x39, ex39⟩ : ∃ y : Int, y = wr (l5 + 1) := ⟨_, rfl⟩
  have cx39 : wr x39 = x39 := by rw [ex39]; exact wr_wr _
  replace h := h x39 ex39
  refine j_iinc (lv' := [(5, vI x39), (0, vR E 0), (1, vI l1), (2, vI l2), (3, vI l3), (4, vI l4)]) hc 5 dX11_late_185 rfl (by decide) ex39 rfl ?_
  refine j_goto (tgt := 64) hc dX11_late_188 (by decide) ?_
  refine j_sub (lv' := [(0, vR E 0), (1, vI l1), (2, vI l2), (3, vI l3), (4, vI l4), (5, vI x39)]) [1, 2, 3, 4, 5, 0] rfl ?_
  exact hk64 cl1 cl2 cl3 cl4 cx39 h
set_option maxRecDepth 20000 in
theorem jl_X11_late_103 {X : jj_X} {E : ev_E} {n0 hN : Nat} (hc : Cx X E cX11_late 7 n0 hN RX11) (hm : eM E = 2) (hr : (xT X).sig.returnType = (some .int)) (hh : 144 ≤ hN) {Q : Int → st_S → Prop} {k55 : Int → Int → Int → Int → st_S → Prop} (hk55 : ∀ {l1 : Int} {l2 : Int} {l3 : Int} {l4 : Int} (cl1 : wr l1 = l1) (cl2 : wr l2 = l2) (cl3 : wr l3 = l3) (cl4 : wr l4 = l4) {σ : st_S}, k55 l1 l2 l3 l4 σ → J X E 7 n0 0 0 (MQ (xB X) (qI E (n0 + 0) Q) (xA X) (xS X) 0 0 (eF E)) σ 55 [(0, vR E 0), (1, vI l1), (2, vI l2), (3, vI l3), (4, vI l4)] []) {k64 : Int → Int → Int → Int → Int → st_S → Prop} (hk64 : ∀ {l1 : Int} {l2 : Int} {l3 : Int} {l4 : Int} {l5 : Int} (cl1 : wr l1 = l1) (cl2 : wr l2 = l2) (cl3 : wr l3 = l3) (cl4 : wr l4 = l4) (cl5 : wr l5 = l5) {σ : st_S}, k64 l1 l2 l3 l4 l5 σ → J X E 7 n0 0 0 (MQ (xB X) (qI E (n0 + 0) Q) (xA X) (xS X) 0 0 (eF E)) σ 64 [(0, vR E 0), (1, vI l1), (2, vI l2), (3, vI l3), (4, vI l4), (5, vI l5)] []) : ∀ (n : Nat) {l1 : Int} {l2 : Int} {l3 : Int} {l4 : Int} {l5 : Int} {l6 : Int} (cl1 : wr l1 = l1) (cl2 : wr l2 = l2) (cl3 : wr l3 = l3) (cl4 : wr l4 = l4) (cl5 : wr l5 = l5) (cl6 : wr l6 = l6) {σ : st_S}, L_X11_late_103 Q k55 k64 n l1 l2 l3 l4 l5 l6 σ → J X E 7 n0 0 0 (MQ (xB X) (qI E (n0 + 0) Q) (xA X) (xS X) 0 0 (eF E)) σ 103 [(0, vR E 0), (1, vI l1), (2, vI l2), (3, vI l3), (4, vI l4), (5, vI l5), (6, vI l6)] [] := by
  have hh1 : 1 ≤ hN := by omega
  intro n
  induction n with
  | zero => intro l1 l2 l3 l4 l5 l6 cl1 cl2 cl3 cl4 cl5 cl6 σ h; exact h.elim
  | succ n ih =>
    intro l1 l2 l3 l4 l5 l6 cl1 cl2 cl3 cl4 cl5 cl6 σ h
    have hk103 : ∀ {l1 : Int} {l2 : Int} {l3 : Int} {l4 : Int} {l5 : Int} {l6 : Int} (cl1 : wr l1 = l1) (cl2 : wr l2 = l2) (cl3 : wr l3 = l3) (cl4 : wr l4 = l4) (cl5 : wr l5 = l5) (cl6 : wr l6 = l6) {σ : st_S}, L_X11_late_103 Q k55 k64 n l1 l2 l3 l4 l5 l6 σ → J X E 7 n0 0 0 (MQ (xB X) (qI E (n0 + 0) Q) (xA X) (xS X) 0 0 (eF E)) σ 103 [(0, vR E 0), (1, vI l1), (2, vI l2), (3, vI l3), (4, vI l4), (5, vI l5), (6, vI l6)] [] := ih
    replace h : (l6 = (-1) → B_X11_late_185 Q k55 k64 l1 l2 l3 l4 l5 σ) ∧ (¬ l6 = (-1) → wp_X11_longestFrom 13 (wr (l4 + 1)) (o_or l5 l6) σ (fun r40 s41 => (wr ((l2 - l4) - 1) ≤ r40 → ix (wr ((1024 * (l4 + 1)) + o_or l5 l6)) 11264 ∧ ∀ s43 : st_S, s43 = sI s41 23 (Int.toNat (wr ((1024 * (l4 + 1)) + o_or l5 l6))) (o_nz 1) → wp_X11_isIn l6 l1 s43 (fun r44 s45 => (r44 = 0 → B_X11_late_169 Q k55 k64 (L_X11_late_103 Q k55 k64 n) l1 l2 l4 l5 l6 l3 s45) ∧ (¬ r44 = 0 → B_X11_late_169 Q k55 k64 (L_X11_late_103 Q k55 k64 n) l1 l2 l4 l5 l6 l4 s45))) ∧ (¬ wr ((l2 - l4) - 1) ≤ r40 → B_X11_late_170 Q k55 k64 (L_X11_late_103 Q k55 k64 n) l1 l2 l3 l4 l5 l6 s41))) := h
    refine j_iload hc 6 dX11_late_103 rfl ?_
    refine j_iconst hc dX11_late_105 ?_
    refine j_ic_eq hc cl6 (wlit (-1) (by decide)) (tgt := 185) dX11_late_106 (by decide) (fun q48 => ?_) (fun q48 => ?_)
    · replace h := h.1 q48
      refine j_sub (lv' := [(0, vR E 0), (1, vI l1), (2, vI l2), (3, vI l3), (4, vI l4), (5, vI l5)]) [0, 1, 2, 3, 4, 5] rfl ?_
      exact jb_X11_late_185 hc hm hr hh hk55 hk64 cl1 cl2 cl3 cl4 cl5 h
    · replace h := h.2 q48
      refine j_aload_nR hc 0 dX11_late_109 rfl rfl ?_
      refine j_iload hc 4 dX11_late_110 rfl ?_
      refine j_iconst hc dX11_late_112 ?_
      refine j_iadd hc dX11_late_113 ?_
      refine j_iload hc 5 dX11_late_114 rfl ?_
      refine j_iload hc 6 dX11_late_116 rfl ?_
      refine j_ior hc dX11_late_118 ?_
      refine j_vI hc (k := 11) (by decide) (fun hv => Or.inl (sv_k hv hm rfl)) ml_RX11_382 mv_X11_longestFrom (As := [vI (wr (l4 + 1)), vI (o_or l5 l6)]) (c_X11_longestFrom (cx_E hc) hm 13 (wr_wr _) (cn_or _ _) h) rfl (by omega) (by decide) ⟨Nat.zero_le _, Nat.zero_le _⟩ (Nat.le_of_ble_eq_true rfl) (by simp only [vI_wr, vL_wl]; rfl) dX11_late_119 (fun r40 s41 cr40 h => ?_)
      refine j_iload_n hc 2 dX11_late_122 rfl rfl ?_
      refine j_iload hc 4 dX11_late_123 rfl ?_
      refine j_isub hc dX11_late_125 ?_
      refine j_iconst hc dX11_late_126 ?_
      refine j_isub hc dX11_late_127 ?_
      refine j_ic_ge hc cr40 rfl (tgt := 134) dX11_late_128 (by decide) (fun q47 => ?_) (fun q47 => ?_)
      · replace h := h.1 q47
        refine j_aload_nR hc 0 dX11_late_134 rfl rfl ?_
        refine j_getR (c' := 23) hc fl_RX11_93 rfl rfl (fun hv => (sv_k hv hm rfl)) dX11_late_135 ?_
        refine j_sipush hc dX11_late_138 (by decide) ?_
        refine j_iload hc 4 dX11_late_141 rfl ?_
        refine j_iconst hc dX11_late_143 ?_
        refine j_iadd hc dX11_late_144 ?_
        refine j_imul hc dX11_late_145 ?_
        refine j_iload hc 5 dX11_late_146 rfl ?_
        refine j_iload hc 6 dX11_late_148 rfl ?_
        refine j_ior hc dX11_late_150 ?_
        refine j_iadd hc dX11_late_151 ?_
        refine j_iconst hc dX11_late_152 ?_
        obtain ⟨b42, h⟩ := h
        refine j_zast (jn := (Int.toNat (wr ((1024 * (l4 + 1)) + o_or l5 l6)))) hc (fun hv => sv_kl hv hm rfl) rfl b42 rfl dX11_late_153 (fun s43 es43 => ?_)
        replace h := h s43 es43
        refine j_iload hc 6 dX11_late_154 rfl ?_
        refine j_iload_n hc 1 dX11_late_156 rfl rfl ?_
        refine j_sI hc ml_RX11_325 mv_X11_isIn (As := [vI l6, vI l1]) (c_X11_isIn (cx_E hc) hm cl6 cl1 h) rfl (by omega) (by decide) ⟨Nat.zero_le _, Nat.zero_le _⟩ (Nat.le_of_ble_eq_true rfl) rfl dX11_late_157 (fun r44 s45 cr44 h => ?_)
        refine j_if_eq hc cr44 (tgt := 168) dX11_late_160 (by decide) (fun q46 => ?_) (fun q46 => ?_)
        · replace h := h.1 q46
          refine j_iload_n hc 3 dX11_late_168 rfl rfl ?_
          refine j_sub (lv' := [(0, vR E 0), (1, vI l1), (2, vI l2), (4, vI l4), (5, vI l5), (6, vI l6)]) [0, 1, 2, 4, 5, 6] rfl ?_
          exact jb_X11_late_169 hc hm hr hh hk55 hk64 hk103 cl1 cl2 cl4 cl5 cl6 cl3 h
        · replace h := h.2 q46
          refine j_iload hc 4 dX11_late_163 rfl ?_
          refine j_goto (tgt := 169) hc dX11_late_165 (by decide) ?_
          refine j_sub (lv' := [(0, vR E 0), (1, vI l1), (2, vI l2), (4, vI l4), (5, vI l5), (6, vI l6)]) [0, 1, 2, 4, 5, 6] rfl ?_
          exact jb_X11_late_169 hc hm hr hh hk55 hk64 hk103 cl1 cl2 cl4 cl5 cl6 cl4 h
      · replace h := h.2 q47
        refine j_goto (tgt := 170) hc dX11_late_131 (by decide) ?_
        refine j_sub (lv' := [(0, vR E 0), (1, vI l1), (2, vI l2), (3, vI l3), (4, vI l4), (5, vI l5), (6, vI l6)]) [0, 1, 2, 3, 4, 5, 6] rfl ?_
        exact jb_X11_late_170 hc hm hr hh hk55 hk64 hk103 cl1 cl2 cl3 cl4 cl5 cl6 h
set_option maxRecDepth 20000 in
theorem jl_X11_late_64 {X : jj_X} {E : ev_E} {n0 hN : Nat} (hc : Cx X E cX11_late 7 n0 hN RX11) (hm : eM E = 2) (hr : (xT X).sig.returnType = (some .int)) (hh : 144 ≤ hN) {Q : Int → st_S → Prop} {k55 : Int → Int → Int → Int → st_S → Prop} (hk55 : ∀ {l1 : Int} {l2 : Int} {l3 : Int} {l4 : Int} (cl1 : wr l1 = l1) (cl2 : wr l2 = l2) (cl3 : wr l3 = l3) (cl4 : wr l4 = l4) {σ : st_S}, k55 l1 l2 l3 l4 σ → J X E 7 n0 0 0 (MQ (xB X) (qI E (n0 + 0) Q) (xA X) (xS X) 0 0 (eF E)) σ 55 [(0, vR E 0), (1, vI l1), (2, vI l2), (3, vI l3), (4, vI l4)] []) : ∀ (n : Nat) {l1 : Int} {l2 : Int} {l3 : Int} {l4 : Int} {l5 : Int} (cl1 : wr l1 = l1) (cl2 : wr l2 = l2) (cl3 : wr l3 = l3) (cl4 : wr l4 = l4) (cl5 : wr l5 = l5) {σ : st_S}, L_X11_late_64 Q k55 n l1 l2 l3 l4 l5 σ → J X E 7 n0 0 0 (MQ (xB X) (qI E (n0 + 0) Q) (xA X) (xS X) 0 0 (eF E)) σ 64 [(0, vR E 0), (1, vI l1), (2, vI l2), (3, vI l3), (4, vI l4), (5, vI l5)] [] := by
  have hh1 : 1 ≤ hN := by omega
  intro n
  induction n with
  | zero => intro l1 l2 l3 l4 l5 cl1 cl2 cl3 cl4 cl5 σ h; exact h.elim
  | succ n ih =>
    intro l1 l2 l3 l4 l5 cl1 cl2 cl3 cl4 cl5 σ h
    have hk64 : ∀ {l1 : Int} {l2 : Int} {l3 : Int} {l4 : Int} {l5 : Int} (cl1 : wr l1 = l1) (cl2 : wr l2 = l2) (cl3 : wr l3 = l3) (cl4 : wr l4 = l4) (cl5 : wr l5 = l5) {σ : st_S}, L_X11_late_64 Q k55 n l1 l2 l3 l4 l5 σ → J X E 7 n0 0 0 (MQ (xB X) (qI E (n0 + 0) Q) (xA X) (xS X) 0 0 (eF E)) σ 64 [(0, vR E 0), (1, vI l1), (2, vI l2), (3, vI l3), (4, vI l4), (5, vI l5)] [] := ih
    replace h : (1024 ≤ l5 → ∀ x49 : Int, x49 = wr (l4 + 1) → k55 l1 l2 l3 x49 σ) ∧ (¬ 1024 ≤ l5 → ix (wr ((1024 * l4) + l5)) 11264 ∧ (¬ gI σ 23 (Int.toNat (wr ((1024 * l4) + l5))) = 0 → wp_X11_crewIn l4 l5 0 σ (fun r52 s53 => ∃ m103 : Nat, L_X11_late_103 Q k55 (L_X11_late_64 Q k55 n) m103 l1 l2 l3 l4 l5 r52 s53)) ∧ (gI σ 23 (Int.toNat (wr ((1024 * l4) + l5))) = 0 → B_X11_late_185 Q k55 (L_X11_late_64 Q k55 n) l1 l2 l3 l4 l5 σ)) := h
    refine j_iload hc 5 dX11_late_64 rfl ?_
    refine j_sipush hc dX11_late_66 (by decide) ?_
    refine j_ic_ge hc cl5 (wlit 1024 (by decide)) (tgt := 191) dX11_late_69 (by decide) (fun q55 => ?_) (fun q55 => ?_)
    · replace h := h.1 q55
      obtain ⟨x49, ex49⟩ : ∃ y : Int, y = wr (l4 + 1) := ⟨_, rfl⟩
      have cx49 : wr x49 = x49 := by rw [ex49]; exact wr_wr _
      replace h := h x49 ex49
      refine j_iinc (lv' := [(4, vI x49), (0, vR E 0), (1, vI l1), (2, vI l2), (3, vI l3), (5, vI l5)]) hc 4 dX11_late_191 rfl (by decide) ex49 rfl ?_
      refine j_goto (tgt := 55) hc dX11_late_194 (by decide) ?_
      refine j_sub (lv' := [(0, vR E 0), (1, vI l1), (2, vI l2), (3, vI l3), (4, vI x49)]) [1, 2, 3, 4, 0] rfl ?_
      exact hk55 cl1 cl2 cl3 cx49 h
    · replace h := h.2 q55
      refine j_aload_nR hc 0 dX11_late_72 rfl rfl ?_
      refine j_getR (c' := 23) hc fl_RX11_93 rfl rfl (fun hv => (sv_k hv hm rfl)) dX11_late_73 ?_
      refine j_sipush hc dX11_late_76 (by decide) ?_
      refine j_iload hc 4 dX11_late_79 rfl ?_
      refine j_imul hc dX11_late_81 ?_
      refine j_iload hc 5 dX11_late_82 rfl ?_
      refine j_iadd hc dX11_late_84 ?_
      obtain ⟨b50, h⟩ := h
      refine j_zald (jn := (Int.toNat (wr ((1024 * l4) + l5)))) hc (fun hv => sv_kl hv hm rfl) rfl b50 rfl dX11_late_85 (fun cn51 => ?_)
      refine j_if_ne hc cn51 (tgt := 92) dX11_late_86 (by decide) (fun q54 => ?_) (fun q54 => ?_)
      · replace h := h.1 q54
        refine j_aload_nR hc 0 dX11_late_92 rfl rfl ?_
        refine j_iload hc 4 dX11_late_93 rfl ?_
        refine j_iload hc 5 dX11_late_95 rfl ?_
        refine j_iconst hc dX11_late_97 ?_
        refine j_vI hc (k := 11) (by decide) (fun hv => Or.inl (sv_k hv hm rfl)) ml_RX11_379 mv_X11_crewIn (As := [vI l4, vI l5, vI 0]) (c_X11_crewIn (cx_E hc) hm cl4 cl5 (wlit 0 (by decide)) h) rfl (by omega) (by decide) ⟨Nat.zero_le _, Nat.zero_le _⟩ (Nat.le_of_ble_eq_true rfl) rfl dX11_late_98 (fun r52 s53 cr52 h => ?_)
        refine j_istore (lv' := [(6, vI r52), (0, vR E 0), (1, vI l1), (2, vI l2), (3, vI l3), (4, vI l4), (5, vI l5)]) hc dX11_late_101 (by decide) rfl ?_
        obtain ⟨n103, h⟩ := h
        refine j_sub (lv' := [(0, vR E 0), (1, vI l1), (2, vI l2), (3, vI l3), (4, vI l4), (5, vI l5), (6, vI r52)]) [1, 2, 3, 4, 5, 6, 0] rfl ?_
        exact jl_X11_late_103 hc hm hr hh hk55 hk64 n103 cl1 cl2 cl3 cl4 cl5 cr52 h
      · replace h := h.2 q54
        refine j_goto (tgt := 185) hc dX11_late_89 (by decide) ?_
        refine j_sub (lv' := [(0, vR E 0), (1, vI l1), (2, vI l2), (3, vI l3), (4, vI l4), (5, vI l5)]) [0, 1, 2, 3, 4, 5] rfl ?_
        exact jb_X11_late_185 hc hm hr hh hk55 hk64 cl1 cl2 cl3 cl4 cl5 h
set_option maxRecDepth 20000 in
theorem jl_X11_late_55 {X : jj_X} {E : ev_E} {n0 hN : Nat} (hc : Cx X E cX11_late 7 n0 hN RX11) (hm : eM E = 2) (hr : (xT X).sig.returnType = (some .int)) (hh : 144 ≤ hN) {Q : Int → st_S → Prop} : ∀ (n : Nat) {l1 : Int} {l2 : Int} {l3 : Int} {l4 : Int} (cl1 : wr l1 = l1) (cl2 : wr l2 = l2) (cl3 : wr l3 = l3) (cl4 : wr l4 = l4) {σ : st_S}, L_X11_late_55 Q n l1 l2 l3 l4 σ → J X E 7 n0 0 0 (MQ (xB X) (qI E (n0 + 0) Q) (xA X) (xS X) 0 0 (eF E)) σ 55 [(0, vR E 0), (1, vI l1), (2, vI l2), (3, vI l3), (4, vI l4)] [] := by
  have hh1 : 1 ≤ hN := by omega
  intro n
  induction n with
  | zero => intro l1 l2 l3 l4 cl1 cl2 cl3 cl4 σ h; exact h.elim
  | succ n ih =>
    intro l1 l2 l3 l4 cl1 cl2 cl3 cl4 σ h
    have hk55 : ∀ {l1 : Int} {l2 : Int} {l3 : Int} {l4 : Int} (cl1 : wr l1 = l1) (cl2 : wr l2 = l2) (cl3 : wr l3 = l3) (cl4 : wr l4 = l4) {σ : st_S}, L_X11_late_55 Q n l1 l2 l3 l4 σ → J X E 7 n0 0 0 (MQ (xB X) (qI E (n0 + 0) Q) (xA X) (xS X) 0 0 (eF E)) σ 55 [(0, vR E 0), (1, vI l1), (2, vI l2), (3, vI l3), (4, vI l4)] [] := ih
    replace h : (l2 ≤ l4 → Q l3 σ) ∧ (¬ l2 ≤ l4 → ∃ m64 : Nat, L_X11_late_64 Q (L_X11_late_55 Q n) m64 l1 l2 l3 l4 0 σ) := h
    refine j_iload hc 4 dX11_late_55 rfl ?_
    refine j_iload_n hc 2 dX11_late_57 rfl rfl ?_
    refine j_ic_ge hc cl4 cl2 (tgt := 197) dX11_late_58 (by decide) (fun q56 => ?_) (fun q56 => ?_)
    · replace h := h.1 q56
      refine j_iload_n hc 3 dX11_late_197 rfl rfl ?_
      exact j_iret hc hr cl3 h dX11_late_198
    · replace h := h.2 q56
      refine j_iconst hc dX11_late_61 ?_
      refine j_istore (lv' := [(5, vI 0), (0, vR E 0), (1, vI l1), (2, vI l2), (3, vI l3), (4, vI l4)]) hc dX11_late_62 (by decide) rfl ?_
      obtain ⟨n64, h⟩ := h
      refine j_sub (lv' := [(0, vR E 0), (1, vI l1), (2, vI l2), (3, vI l3), (4, vI l4), (5, vI 0)]) [1, 2, 3, 4, 5, 0] rfl ?_
      exact jl_X11_late_64 hc hm hr hh hk55 n64 cl1 cl2 cl3 cl4 (wlit 0 (by decide)) h
set_option maxRecDepth 20000 in
theorem jl_X11_late_23 {X : jj_X} {E : ev_E} {n0 hN : Nat} (hc : Cx X E cX11_late 7 n0 hN RX11) (hm : eM E = 2) (hr : (xT X).sig.returnType = (some .int)) (hh : 144 ≤ hN) {Q : Int → st_S → Prop} : ∀ (n : Nat) {l1 : Int} {l2 : Int} {l3 : Int} (cl1 : wr l1 = l1) (cl2 : wr l2 = l2) (cl3 : wr l3 = l3) {σ : st_S}, L_X11_late_23 Q n l1 l2 l3 σ → J X E 7 n0 0 0 (MQ (xB X) (qI E (n0 + 0) Q) (xA X) (xS X) 0 0 (eF E)) σ 23 [(0, vR E 0), (1, vI l1), (2, vI l2), (3, vI l3)] [] := by
  have hh1 : 1 ≤ hN := by omega
  intro n
  induction n with
  | zero => intro l1 l2 l3 cl1 cl2 cl3 σ h; exact h.elim
  | succ n ih =>
    intro l1 l2 l3 cl1 cl2 cl3 σ h
    have hk23 : ∀ {l1 : Int} {l2 : Int} {l3 : Int} (cl1 : wr l1 = l1) (cl2 : wr l2 = l2) (cl3 : wr l3 = l3) {σ : st_S}, L_X11_late_23 Q n l1 l2 l3 σ → J X E 7 n0 0 0 (MQ (xB X) (qI E (n0 + 0) Q) (xA X) (xS X) 0 0 (eF E)) σ 23 [(0, vR E 0), (1, vI l1), (2, vI l2), (3, vI l3)] [] := ih
    replace h : (11264 ≤ l3 → ∀ s57 : st_S, s57 = sI σ 23 0 (o_nz 1) → ∃ m55 : Nat, L_X11_late_55 Q m55 l1 l2 (-1) 0 s57) ∧ (¬ 11264 ≤ l3 → ix l3 11264 ∧ ∀ s59 : st_S, s59 = sI σ 23 (Int.toNat l3) (o_nz 0) → ∀ x60 : Int, x60 = wr (l3 + 1) → (L_X11_late_23 Q n) l1 l2 x60 s59) := h
    refine j_iload_n hc 3 dX11_late_23 rfl rfl ?_
    refine j_sipush hc dX11_late_24 (by decide) ?_
    refine j_ic_ge hc cl3 (wlit 11264 (by decide)) (tgt := 43) dX11_late_27 (by decide) (fun q61 => ?_) (fun q61 => ?_)
    · replace h := h.1 q61
      refine j_aload_nR hc 0 dX11_late_43 rfl rfl ?_
      refine j_getR (c' := 23) hc fl_RX11_93 rfl rfl (fun hv => (sv_k hv hm rfl)) dX11_late_44 ?_
      refine j_iconst hc dX11_late_47 ?_
      refine j_iconst hc dX11_late_48 ?_
      refine j_zast (jn := 0) hc (fun hv => sv_kl hv hm rfl) (wlit 0 (by decide)) ⟨by decide, by decide⟩ rfl dX11_late_49 (fun s57 es57 => ?_)
      replace h := h s57 es57
      refine j_iconst hc dX11_late_50 ?_
      refine j_istore_n (lv' := [(3, vI (-1)), (0, vR E 0), (1, vI l1), (2, vI l2)]) hc dX11_late_51 rfl (by decide) rfl ?_
      refine j_iconst hc dX11_late_52 ?_
      refine j_istore (lv' := [(4, vI 0), (3, vI (-1)), (0, vR E 0), (1, vI l1), (2, vI l2)]) hc dX11_late_53 (by decide) rfl ?_
      obtain ⟨n55, h⟩ := h
      refine j_sub (lv' := [(0, vR E 0), (1, vI l1), (2, vI l2), (3, vI (-1)), (4, vI 0)]) [2, 3, 4, 1, 0] rfl ?_
      exact jl_X11_late_55 hc hm hr hh n55 cl1 cl2 (wlit (-1) (by decide)) (wlit 0 (by decide)) h
    · replace h := h.2 q61
      refine j_aload_nR hc 0 dX11_late_30 rfl rfl ?_
      refine j_getR (c' := 23) hc fl_RX11_93 rfl rfl (fun hv => (sv_k hv hm rfl)) dX11_late_31 ?_
      refine j_iload_n hc 3 dX11_late_34 rfl rfl ?_
      refine j_iconst hc dX11_late_35 ?_
      obtain ⟨b58, h⟩ := h
      refine j_zast (jn := (Int.toNat l3)) hc (fun hv => sv_kl hv hm rfl) cl3 b58 rfl dX11_late_36 (fun s59 es59 => ?_)
      replace h := h s59 es59
      obtain ⟨x60, ex60⟩ : ∃ y : Int, y = wr (l3 + 1) := ⟨_, rfl⟩
      have cx60 : wr x60 = x60 := by rw [ex60]; exact wr_wr _
      replace h := h x60 ex60
      refine j_iinc (lv' := [(3, vI x60), (0, vR E 0), (1, vI l1), (2, vI l2)]) hc 3 dX11_late_37 rfl (by decide) ex60 rfl ?_
      refine j_goto (tgt := 23) hc dX11_late_40 (by decide) ?_
      refine j_sub (lv' := [(0, vR E 0), (1, vI l1), (2, vI l2), (3, vI x60)]) [1, 2, 3, 0] rfl ?_
      exact hk23 cl1 cl2 cx60 h
set_option maxRecDepth 20000 in
theorem c_X11_late {l : Launch} {E : ev_E} (hE : Eok E) (hm : eM E = 2) {a1 : Int} (ca1 : wr a1 = a1) {σ : st_S} {Q : Int → st_S → Prop} (h : wp_X11_late a1 σ Q) : cM l yX11_late cX11_late 7 (some .int) E 144 0 0 [vR E 0, vI a1] σ (qI E (gN σ + 0) Q) := by
  refine cM_of (lv := [(0, vR E 0), (1, vI a1)]) (by decide) hE (Nat.le_of_ble_eq_true rfl) (rfl) ?_
  intro X hX hc _ _ hr _ _
  subst hX
  have hh : 144 ≤ 144 := Nat.le_refl _
  have hh1 : 1 ≤ 144 := by omega
  replace h : wp_X11_isPerson a1 σ (fun r62 s63 => (¬ r62 = 0 → wp_X11_looks s63 (fun s65 => wp_X11_longestFrom 13 0 0 s65 (fun r66 s67 => ∃ m23 : Nat, L_X11_late_23 Q m23 a1 r66 0 s67))) ∧ (r62 = 0 → Q (-1) s63)) := h
  refine j_aload_nR hc 0 dX11_late_0 rfl rfl ?_
  refine j_iload_n hc 1 dX11_late_1 rfl rfl ?_
  refine j_vI hc (k := 11) (by decide) (fun hv => Or.inl (sv_k hv hm rfl)) ml_RX11_128 mv_X11_isPerson (As := [vI a1]) (c_X11_isPerson (cx_E hc) hm ca1 h) rfl (by omega) (by decide) ⟨Nat.zero_le _, Nat.zero_le _⟩ (Nat.le_of_ble_eq_true rfl) rfl dX11_late_2 (fun r62 s63 cr62 h => ?_)
  refine j_if_ne hc cr62 (tgt := 10) dX11_late_5 (by decide) (fun q68 => ?_) (fun q68 => ?_)
  · replace h := h.1 q68
    refine j_aload_nR hc 0 dX11_late_10 rfl rfl ?_
    refine j_vV hc (k := 11) (by decide) (fun hv => Or.inl (sv_k hv hm rfl)) ml_RX11_385 mv_X11_looks (As := []) (c_X11_looks (cx_E hc) hm  h) rfl (by omega) (by decide) ⟨Nat.zero_le _, Nat.zero_le _⟩ (Nat.le_of_ble_eq_true rfl) rfl dX11_late_11 (fun s65 h => ?_)
    refine j_aload_nR hc 0 dX11_late_14 rfl rfl ?_
    refine j_iconst hc dX11_late_15 ?_
    refine j_iconst hc dX11_late_16 ?_
    refine j_vI hc (k := 11) (by decide) (fun hv => Or.inl (sv_k hv hm rfl)) ml_RX11_382 mv_X11_longestFrom (As := [vI 0, vI 0]) (c_X11_longestFrom (cx_E hc) hm 13 (wlit 0 (by decide)) (wlit 0 (by decide)) h) rfl (by omega) (by decide) ⟨Nat.zero_le _, Nat.zero_le _⟩ (Nat.le_of_ble_eq_true rfl) rfl dX11_late_17 (fun r66 s67 cr66 h => ?_)
    refine j_istore_n (lv' := [(2, vI r66), (0, vR E 0), (1, vI a1)]) hc dX11_late_20 rfl (by decide) rfl ?_
    refine j_iconst hc dX11_late_21 ?_
    refine j_istore_n (lv' := [(3, vI 0), (2, vI r66), (0, vR E 0), (1, vI a1)]) hc dX11_late_22 rfl (by decide) rfl ?_
    obtain ⟨n23, h⟩ := h
    refine j_sub (lv' := [(0, vR E 0), (1, vI a1), (2, vI r66), (3, vI 0)]) [2, 3, 1, 0] rfl ?_
    exact jl_X11_late_23 hc hm hr hh n23 ca1 cr66 (wlit 0 (by decide)) h
  · replace h := h.2 q68
    refine j_iconst hc dX11_late_8 ?_
    exact j_iret hc hr (wlit (-1) (by decide)) h dX11_late_9
-- LitStrangersModel.landsOf(I)I
theorem dX11_landsOf_0 : decode cX11_landsOf 0 = .ok (.iconst 0, 1) := by decide +kernel
theorem dX11_landsOf_1 : decode cX11_landsOf 1 = .ok (.istore_n 2, 1) := by decide +kernel
theorem dX11_landsOf_2 : decode cX11_landsOf 2 = .ok (.iconst 0, 1) := by decide +kernel
theorem dX11_landsOf_3 : decode cX11_landsOf 3 = .ok (.istore_n 3, 1) := by decide +kernel
theorem dX11_landsOf_4 : decode cX11_landsOf 4 = .ok (.iload_n 3, 1) := by decide +kernel
theorem dX11_landsOf_5 : decode cX11_landsOf 5 = .ok (.aload_n 0, 1) := by decide +kernel
theorem dX11_landsOf_6 : decode cX11_landsOf 6 = .ok (.invokevirtual 116, 3) := by decide +kernel
theorem dX11_landsOf_9 : decode cX11_landsOf 9 = .ok (.if_icmp .ge 31, 3) := by decide +kernel
theorem dX11_landsOf_12 : decode cX11_landsOf 12 = .ok (.iload_n 2, 1) := by decide +kernel
theorem dX11_landsOf_13 : decode cX11_landsOf 13 = .ok (.iload_n 1, 1) := by decide +kernel
theorem dX11_landsOf_14 : decode cX11_landsOf 14 = .ok (.iload_n 3, 1) := by decide +kernel
theorem dX11_landsOf_15 : decode cX11_landsOf 15 = .ok (.invokestatic 325, 3) := by decide +kernel
theorem dX11_landsOf_18 : decode cX11_landsOf 18 = .ok (.ifCond .eq 13, 3) := by decide +kernel
theorem dX11_landsOf_21 : decode cX11_landsOf 21 = .ok (.iconst 1, 1) := by decide +kernel
theorem dX11_landsOf_22 : decode cX11_landsOf 22 = .ok (.aload_n 0, 1) := by decide +kernel
theorem dX11_landsOf_23 : decode cX11_landsOf 23 = .ok (.iload_n 3, 1) := by decide +kernel
theorem dX11_landsOf_24 : decode cX11_landsOf 24 = .ok (.invokevirtual 135, 3) := by decide +kernel
theorem dX11_landsOf_27 : decode cX11_landsOf 27 = .ok (.ishl, 1) := by decide +kernel
theorem dX11_landsOf_28 : decode cX11_landsOf 28 = .ok (.goto 4, 3) := by decide +kernel
theorem dX11_landsOf_31 : decode cX11_landsOf 31 = .ok (.iconst 0, 1) := by decide +kernel
theorem dX11_landsOf_32 : decode cX11_landsOf 32 = .ok (.ior, 1) := by decide +kernel
theorem dX11_landsOf_33 : decode cX11_landsOf 33 = .ok (.istore_n 2, 1) := by decide +kernel
theorem dX11_landsOf_34 : decode cX11_landsOf 34 = .ok (.iinc 3 1, 3) := by decide +kernel
theorem dX11_landsOf_37 : decode cX11_landsOf 37 = .ok (.goto (-33), 3) := by decide +kernel
theorem dX11_landsOf_40 : decode cX11_landsOf 40 = .ok (.iload_n 2, 1) := by decide +kernel
theorem dX11_landsOf_41 : decode cX11_landsOf 41 = .ok (.ireturn, 1) := by decide +kernel
def B_X11_landsOf_32 (Q : Int → st_S → Prop)  (k4 : Int → Int → Int → st_S → Prop) (l1 : Int) (l3 : Int) (v0 : Int) (v1 : Int) (σ : st_S) : Prop := ∀ x11 : Int, x11 = o_or v1 v0 → ∀ x12 : Int, x12 = wr (l3 + 1) → k4 l1 x11 x12 σ
def L_X11_landsOf_4 (Q : Int → st_S → Prop)   : Nat → Int → Int → Int → st_S → Prop
  | 0 => fun _ _ _ _ => False
  | n + 1 => fun l1 l2 l3 σ => wp_X11_people σ (fun r13 s14 => (r13 ≤ l3 → Q l2 s14) ∧ (¬ r13 ≤ l3 → wp_X11_isIn l1 l3 s14 (fun r15 s16 => (r15 = 0 → B_X11_landsOf_32 Q (L_X11_landsOf_4 Q n) l1 l3 0 l2 s16) ∧ (¬ r15 = 0 → wp_X11_landOf l3 s16 (fun r17 s18 => B_X11_landsOf_32 Q (L_X11_landsOf_4 Q n) l1 l3 (o_shl 1 r17) l2 s18)))))
def wp_X11_landsOf (a1 : Int) (σ : st_S) (Q : Int → st_S → Prop) : Prop := ∃ m4 : Nat, L_X11_landsOf_4 Q m4 a1 0 0 σ
set_option maxRecDepth 20000 in
theorem jb_X11_landsOf_32 {X : jj_X} {E : ev_E} {n0 hN : Nat} (hc : Cx X E cX11_landsOf 4 n0 hN RX11) (hm : eM E = 2) (hr : (xT X).sig.returnType = (some .int)) (hh : 2 ≤ hN) {Q : Int → st_S → Prop} {k4 : Int → Int → Int → st_S → Prop} (hk4 : ∀ {l1 : Int} {l2 : Int} {l3 : Int} (cl1 : wr l1 = l1) (cl2 : wr l2 = l2) (cl3 : wr l3 = l3) {σ : st_S}, k4 l1 l2 l3 σ → J X E 4 n0 0 0 (MQ (xB X) (qI E (n0 + 0) Q) (xA X) (xS X) 0 0 (eF E)) σ 4 [(0, vR E 0), (1, vI l1), (2, vI l2), (3, vI l3)] []) {l1 : Int} {l3 : Int} {v0 : Int} {v1 : Int} (cl1 : wr l1 = l1) (cl3 : wr l3 = l3) (cv0 : wr v0 = v0) {σ : st_S} (h : B_X11_landsOf_32 Q k4 l1 l3 v0 v1 σ) : J X E 4 n0 0 0 (MQ (xB X) (qI E (n0 + 0) Q) (xA X) (xS X) 0 0 (eF E)) σ 32 [(0, vR E 0), (1, vI l1), (3, vI l3)] [vI v0, vI v1] := by
  have hh1 : 1 ≤ hN := by omega
  replace h : ∀ x11 : Int, x11 = o_or v1 v0 → ∀ x12 : Int, x12 = wr (l3 + 1) → k4 l1 x11 x12 σ := h
  refine j_ior hc dX11_landsOf_32 ?_
  refine j_c (cn_or _ _) (fun x11 ex11 cx11 => ?_)
  replace h := h x11 ex11
  refine j_istore_n (lv' := [(2, vI x11), (0, vR E 0), (1, vI l1), (3, vI l3)]) hc dX11_landsOf_33 rfl (by decide) rfl ?_
  obtain ⟨x12, ex12⟩ : ∃ y : Int, y = wr (l3 + 1) := ⟨_, rfl⟩
  have cx12 : wr x12 = x12 := by rw [ex12]; exact wr_wr _
  replace h := h x12 ex12
  refine j_iinc (lv' := [(3, vI x12), (2, vI x11), (0, vR E 0), (1, vI l1)]) hc 3 dX11_landsOf_34 rfl (by decide) ex12 rfl ?_
  refine j_goto (tgt := 4) hc dX11_landsOf_37 (by decide) ?_
  refine j_sub (lv' := [(0, vR E 0), (1, vI l1), (2, vI x11), (3, vI x12)]) [2, 3, 1, 0] rfl ?_
  exact hk4 cl1 cx11 cx12 h
set_option maxRecDepth 20000 in
theorem jl_X11_landsOf_4 {X : jj_X} {E : ev_E} {n0 hN : Nat} (hc : Cx X E cX11_landsOf 4 n0 hN RX11) (hm : eM E = 2) (hr : (xT X).sig.returnType = (some .int)) (hh : 2 ≤ hN) {Q : Int → st_S → Prop} : ∀ (n : Nat) {l1 : Int} {l2 : Int} {l3 : Int} (cl1 : wr l1 = l1) (cl2 : wr l2 = l2) (cl3 : wr l3 = l3) {σ : st_S}, L_X11_landsOf_4 Q n l1 l2 l3 σ → J X E 4 n0 0 0 (MQ (xB X) (qI E (n0 + 0) Q) (xA X) (xS X) 0 0 (eF E)) σ 4 [(0, vR E 0), (1, vI l1), (2, vI l2), (3, vI l3)] [] := by
  have hh1 : 1 ≤ hN := by omega
  intro n
  induction n with
  | zero => intro l1 l2 l3 cl1 cl2 cl3 σ h; exact h.elim
  | succ n ih =>
    intro l1 l2 l3 cl1 cl2 cl3 σ h
    have hk4 : ∀ {l1 : Int} {l2 : Int} {l3 : Int} (cl1 : wr l1 = l1) (cl2 : wr l2 = l2) (cl3 : wr l3 = l3) {σ : st_S}, L_X11_landsOf_4 Q n l1 l2 l3 σ → J X E 4 n0 0 0 (MQ (xB X) (qI E (n0 + 0) Q) (xA X) (xS X) 0 0 (eF E)) σ 4 [(0, vR E 0), (1, vI l1), (2, vI l2), (3, vI l3)] [] := ih
    replace h : wp_X11_people σ (fun r13 s14 => (r13 ≤ l3 → Q l2 s14) ∧ (¬ r13 ≤ l3 → wp_X11_isIn l1 l3 s14 (fun r15 s16 => (r15 = 0 → B_X11_landsOf_32 Q (L_X11_landsOf_4 Q n) l1 l3 0 l2 s16) ∧ (¬ r15 = 0 → wp_X11_landOf l3 s16 (fun r17 s18 => B_X11_landsOf_32 Q (L_X11_landsOf_4 Q n) l1 l3 (o_shl 1 r17) l2 s18))))) := h
    refine j_iload_n hc 3 dX11_landsOf_4 rfl rfl ?_
    refine j_aload_nR hc 0 dX11_landsOf_5 rfl rfl ?_
    refine j_vI hc (k := 11) (by decide) (fun hv => Or.inl (sv_k hv hm rfl)) ml_RX11_116 mv_X11_people (As := []) (c_X11_people (cx_E hc) hm  h) rfl (by omega) (by decide) ⟨Nat.zero_le _, Nat.zero_le _⟩ (Nat.le_of_ble_eq_true rfl) rfl dX11_landsOf_6 (fun r13 s14 cr13 h => ?_)
    refine j_ic_ge hc cl3 cr13 (tgt := 40) dX11_landsOf_9 (by decide) (fun q20 => ?_) (fun q20 => ?_)
    · replace h := h.1 q20
      refine j_iload_n hc 2 dX11_landsOf_40 rfl rfl ?_
      exact j_iret hc hr cl2 h dX11_landsOf_41
    · replace h := h.2 q20
      refine j_iload_n hc 2 dX11_landsOf_12 rfl rfl ?_
      refine j_iload_n hc 1 dX11_landsOf_13 rfl rfl ?_
      refine j_iload_n hc 3 dX11_landsOf_14 rfl rfl ?_
      refine j_sI hc ml_RX11_325 mv_X11_isIn (As := [vI l1, vI l3]) (c_X11_isIn (cx_E hc) hm cl1 cl3 h) rfl (by omega) (by decide) ⟨Nat.zero_le _, Nat.zero_le _⟩ (Nat.le_of_ble_eq_true rfl) rfl dX11_landsOf_15 (fun r15 s16 cr15 h => ?_)
      refine j_if_eq hc cr15 (tgt := 31) dX11_landsOf_18 (by decide) (fun q19 => ?_) (fun q19 => ?_)
      · replace h := h.1 q19
        refine j_iconst hc dX11_landsOf_31 ?_
        refine j_sub (lv' := [(0, vR E 0), (1, vI l1), (3, vI l3)]) [0, 1, 3] rfl ?_
        exact jb_X11_landsOf_32 hc hm hr hh hk4 cl1 cl3 (wlit 0 (by decide)) h
      · replace h := h.2 q19
        refine j_iconst hc dX11_landsOf_21 ?_
        refine j_aload_nR hc 0 dX11_landsOf_22 rfl rfl ?_
        refine j_iload_n hc 3 dX11_landsOf_23 rfl rfl ?_
        refine j_vI hc (k := 11) (by decide) (fun hv => Or.inl (sv_k hv hm rfl)) ml_RX11_135 mv_X11_landOf (As := [vI l3]) (c_X11_landOf (cx_E hc) hm cl3 h) rfl (by omega) (by decide) ⟨Nat.zero_le _, Nat.zero_le _⟩ (Nat.le_of_ble_eq_true rfl) rfl dX11_landsOf_24 (fun r17 s18 cr17 h => ?_)
        refine j_ishl hc dX11_landsOf_27 ?_
        refine j_goto (tgt := 32) hc dX11_landsOf_28 (by decide) ?_
        refine j_sub (lv' := [(0, vR E 0), (1, vI l1), (3, vI l3)]) [0, 1, 3] rfl ?_
        exact jb_X11_landsOf_32 hc hm hr hh hk4 cl1 cl3 (cn_shl _ _) h
set_option maxRecDepth 20000 in
theorem c_X11_landsOf {l : Launch} {E : ev_E} (hE : Eok E) (hm : eM E = 2) {a1 : Int} (ca1 : wr a1 = a1) {σ : st_S} {Q : Int → st_S → Prop} (h : wp_X11_landsOf a1 σ Q) : cM l yX11_landsOf cX11_landsOf 4 (some .int) E 2 0 0 [vR E 0, vI a1] σ (qI E (gN σ + 0) Q) := by
  refine cM_of (lv := [(0, vR E 0), (1, vI a1)]) (by decide) hE (Nat.le_of_ble_eq_true rfl) (rfl) ?_
  intro X hX hc _ _ hr _ _
  subst hX
  have hh : 2 ≤ 2 := Nat.le_refl _
  have hh1 : 1 ≤ 2 := by omega
  replace h : ∃ m4 : Nat, L_X11_landsOf_4 Q m4 a1 0 0 σ := h
  refine j_iconst hc dX11_landsOf_0 ?_
  refine j_istore_n (lv' := [(2, vI 0), (0, vR E 0), (1, vI a1)]) hc dX11_landsOf_1 rfl (by decide) rfl ?_
  refine j_iconst hc dX11_landsOf_2 ?_
  refine j_istore_n (lv' := [(3, vI 0), (2, vI 0), (0, vR E 0), (1, vI a1)]) hc dX11_landsOf_3 rfl (by decide) rfl ?_
  obtain ⟨n4, h⟩ := h
  refine j_sub (lv' := [(0, vR E 0), (1, vI a1), (2, vI 0), (3, vI 0)]) [2, 3, 1, 0] rfl ?_
  exact jl_X11_landsOf_4 hc hm hr hh n4 ca1 (wlit 0 (by decide)) (wlit 0 (by decide)) h
-- LitStrangersModel.turnBehind(IIII)I
theorem dX11_turnBehind_0 : decode cX11_turnBehind 0 = .ok (.aload_n 0, 1) := by decide +kernel
theorem dX11_turnBehind_1 : decode cX11_turnBehind 1 = .ok (.iload_n 1, 1) := by decide +kernel
theorem dX11_turnBehind_2 : decode cX11_turnBehind 2 = .ok (.iload_n 2, 1) := by decide +kernel
theorem dX11_turnBehind_3 : decode cX11_turnBehind 3 = .ok (.iload 4, 2) := by decide +kernel
theorem dX11_turnBehind_5 : decode cX11_turnBehind 5 = .ok (.invokevirtual 379, 3) := by decide +kernel
theorem dX11_turnBehind_8 : decode cX11_turnBehind 8 = .ok (.istore 5, 2) := by decide +kernel
theorem dX11_turnBehind_10 : decode cX11_turnBehind 10 = .ok (.iload 5, 2) := by decide +kernel
theorem dX11_turnBehind_12 : decode cX11_turnBehind 12 = .ok (.iconst (-1), 1) := by decide +kernel
theorem dX11_turnBehind_13 : decode cX11_turnBehind 13 = .ok (.if_icmp .eq 27, 3) := by decide +kernel
theorem dX11_turnBehind_16 : decode cX11_turnBehind 16 = .ok (.aload_n 0, 1) := by decide +kernel
theorem dX11_turnBehind_17 : decode cX11_turnBehind 17 = .ok (.iload 5, 2) := by decide +kernel
theorem dX11_turnBehind_19 : decode cX11_turnBehind 19 = .ok (.invokevirtual 398, 3) := by decide +kernel
theorem dX11_turnBehind_22 : decode cX11_turnBehind 22 = .ok (.iload_n 3, 1) := by decide +kernel
theorem dX11_turnBehind_23 : decode cX11_turnBehind 23 = .ok (.iand, 1) := by decide +kernel
theorem dX11_turnBehind_24 : decode cX11_turnBehind 24 = .ok (.ifCond .eq 16, 3) := by decide +kernel
theorem dX11_turnBehind_27 : decode cX11_turnBehind 27 = .ok (.aload_n 0, 1) := by decide +kernel
theorem dX11_turnBehind_28 : decode cX11_turnBehind 28 = .ok (.iload_n 1, 1) := by decide +kernel
theorem dX11_turnBehind_29 : decode cX11_turnBehind 29 = .ok (.iload_n 2, 1) := by decide +kernel
theorem dX11_turnBehind_30 : decode cX11_turnBehind 30 = .ok (.iload 5, 2) := by decide +kernel
theorem dX11_turnBehind_32 : decode cX11_turnBehind 32 = .ok (.invokevirtual 379, 3) := by decide +kernel
theorem dX11_turnBehind_35 : decode cX11_turnBehind 35 = .ok (.istore 5, 2) := by decide +kernel
theorem dX11_turnBehind_37 : decode cX11_turnBehind 37 = .ok (.goto (-27), 3) := by decide +kernel
theorem dX11_turnBehind_40 : decode cX11_turnBehind 40 = .ok (.iload 5, 2) := by decide +kernel
theorem dX11_turnBehind_42 : decode cX11_turnBehind 42 = .ok (.ireturn, 1) := by decide +kernel
def B_X11_turnBehind_40 (Q : Int → st_S → Prop)   (l5 : Int) (σ : st_S) : Prop := Q l5 σ
def L_X11_turnBehind_10 (Q : Int → st_S → Prop)   : Nat → Int → Int → Int → Int → st_S → Prop
  | 0 => fun _ _ _ _ _ => False
  | n + 1 => fun l1 l2 l3 l5 σ => (l5 = (-1) → B_X11_turnBehind_40 Q l5 σ) ∧ (¬ l5 = (-1) → wp_X11_landsOf l5 σ (fun r9 s10 => (o_and r9 l3 = 0 → B_X11_turnBehind_40 Q l5 s10) ∧ (¬ o_and r9 l3 = 0 → wp_X11_crewIn l1 l2 l5 s10 (fun r11 s12 => (L_X11_turnBehind_10 Q n) l1 l2 l3 r11 s12))))
def wp_X11_turnBehind (a1 : Int) (a2 : Int) (a3 : Int) (a4 : Int) (σ : st_S) (Q : Int → st_S → Prop) : Prop := wp_X11_crewIn a1 a2 a4 σ (fun r15 s16 => ∃ m10 : Nat, L_X11_turnBehind_10 Q m10 a1 a2 a3 r15 s16)
set_option maxRecDepth 20000 in
theorem jb_X11_turnBehind_40 {X : jj_X} {E : ev_E} {n0 hN : Nat} (hc : Cx X E cX11_turnBehind 6 n0 hN RX11) (hm : eM E = 2) (hr : (xT X).sig.returnType = (some .int)) (hh : 130 ≤ hN) {Q : Int → st_S → Prop} {l5 : Int} (cl5 : wr l5 = l5) {σ : st_S} (h : B_X11_turnBehind_40 Q l5 σ) : J X E 6 n0 0 0 (MQ (xB X) (qI E (n0 + 0) Q) (xA X) (xS X) 0 0 (eF E)) σ 40 [(5, vI l5)] [] := by
  have hh1 : 1 ≤ hN := by omega
  replace h : Q l5 σ := h
  refine j_iload hc 0 dX11_turnBehind_40 rfl ?_
  exact j_iret hc hr cl5 h dX11_turnBehind_42
set_option maxRecDepth 20000 in
theorem jl_X11_turnBehind_10 {X : jj_X} {E : ev_E} {n0 hN : Nat} (hc : Cx X E cX11_turnBehind 6 n0 hN RX11) (hm : eM E = 2) (hr : (xT X).sig.returnType = (some .int)) (hh : 130 ≤ hN) {Q : Int → st_S → Prop} : ∀ (n : Nat) {l1 : Int} {l2 : Int} {l3 : Int} {l5 : Int} (cl1 : wr l1 = l1) (cl2 : wr l2 = l2) (cl3 : wr l3 = l3) (cl5 : wr l5 = l5) {σ : st_S}, L_X11_turnBehind_10 Q n l1 l2 l3 l5 σ → J X E 6 n0 0 0 (MQ (xB X) (qI E (n0 + 0) Q) (xA X) (xS X) 0 0 (eF E)) σ 10 [(0, vR E 0), (1, vI l1), (2, vI l2), (3, vI l3), (5, vI l5)] [] := by
  have hh1 : 1 ≤ hN := by omega
  intro n
  induction n with
  | zero => intro l1 l2 l3 l5 cl1 cl2 cl3 cl5 σ h; exact h.elim
  | succ n ih =>
    intro l1 l2 l3 l5 cl1 cl2 cl3 cl5 σ h
    have hk10 : ∀ {l1 : Int} {l2 : Int} {l3 : Int} {l5 : Int} (cl1 : wr l1 = l1) (cl2 : wr l2 = l2) (cl3 : wr l3 = l3) (cl5 : wr l5 = l5) {σ : st_S}, L_X11_turnBehind_10 Q n l1 l2 l3 l5 σ → J X E 6 n0 0 0 (MQ (xB X) (qI E (n0 + 0) Q) (xA X) (xS X) 0 0 (eF E)) σ 10 [(0, vR E 0), (1, vI l1), (2, vI l2), (3, vI l3), (5, vI l5)] [] := ih
    replace h : (l5 = (-1) → B_X11_turnBehind_40 Q l5 σ) ∧ (¬ l5 = (-1) → wp_X11_landsOf l5 σ (fun r9 s10 => (o_and r9 l3 = 0 → B_X11_turnBehind_40 Q l5 s10) ∧ (¬ o_and r9 l3 = 0 → wp_X11_crewIn l1 l2 l5 s10 (fun r11 s12 => (L_X11_turnBehind_10 Q n) l1 l2 l3 r11 s12)))) := h
    refine j_iload hc 4 dX11_turnBehind_10 rfl ?_
    refine j_iconst hc dX11_turnBehind_12 ?_
    refine j_ic_eq hc cl5 (wlit (-1) (by decide)) (tgt := 40) dX11_turnBehind_13 (by decide) (fun q14 => ?_) (fun q14 => ?_)
    · replace h := h.1 q14
      refine j_sub (lv' := [(5, vI l5)]) [4] rfl ?_
      exact jb_X11_turnBehind_40 hc hm hr hh cl5 h
    · replace h := h.2 q14
      refine j_aload_nR hc 0 dX11_turnBehind_16 rfl rfl ?_
      refine j_iload hc 4 dX11_turnBehind_17 rfl ?_
      refine j_vI hc (k := 11) (by decide) (fun hv => Or.inl (sv_k hv hm rfl)) ml_RX11_398 mv_X11_landsOf (As := [vI l5]) (c_X11_landsOf (cx_E hc) hm cl5 h) rfl (by omega) (by decide) ⟨Nat.zero_le _, Nat.zero_le _⟩ (Nat.le_of_ble_eq_true rfl) rfl dX11_turnBehind_19 (fun r9 s10 cr9 h => ?_)
      refine j_iload_n hc 3 dX11_turnBehind_22 rfl rfl ?_
      refine j_iand hc dX11_turnBehind_23 ?_
      refine j_if_eq hc (cn_and _ _) (tgt := 40) dX11_turnBehind_24 (by decide) (fun q13 => ?_) (fun q13 => ?_)
      · replace h := h.1 q13
        refine j_sub (lv' := [(5, vI l5)]) [4] rfl ?_
        exact jb_X11_turnBehind_40 hc hm hr hh cl5 h
      · replace h := h.2 q13
        refine j_aload_nR hc 0 dX11_turnBehind_27 rfl rfl ?_
        refine j_iload_n hc 1 dX11_turnBehind_28 rfl rfl ?_
        refine j_iload_n hc 2 dX11_turnBehind_29 rfl rfl ?_
        refine j_iload hc 4 dX11_turnBehind_30 rfl ?_
        refine j_vI hc (k := 11) (by decide) (fun hv => Or.inl (sv_k hv hm rfl)) ml_RX11_379 mv_X11_crewIn (As := [vI l1, vI l2, vI l5]) (c_X11_crewIn (cx_E hc) hm cl1 cl2 cl5 h) rfl (by omega) (by decide) ⟨Nat.zero_le _, Nat.zero_le _⟩ (Nat.le_of_ble_eq_true rfl) rfl dX11_turnBehind_32 (fun r11 s12 cr11 h => ?_)
        refine j_istore (lv' := [(5, vI r11), (0, vR E 0), (1, vI l1), (2, vI l2), (3, vI l3)]) hc dX11_turnBehind_35 (by decide) rfl ?_
        refine j_goto (tgt := 10) hc dX11_turnBehind_37 (by decide) ?_
        refine j_sub (lv' := [(0, vR E 0), (1, vI l1), (2, vI l2), (3, vI l3), (5, vI r11)]) [1, 2, 3, 4, 0] rfl ?_
        exact hk10 cl1 cl2 cl3 cr11 h
set_option maxRecDepth 20000 in
theorem c_X11_turnBehind {l : Launch} {E : ev_E} (hE : Eok E) (hm : eM E = 2) {a1 : Int} {a2 : Int} {a3 : Int} {a4 : Int} (ca1 : wr a1 = a1) (ca2 : wr a2 = a2) (ca3 : wr a3 = a3) (ca4 : wr a4 = a4) {σ : st_S} {Q : Int → st_S → Prop} (h : wp_X11_turnBehind a1 a2 a3 a4 σ Q) : cM l yX11_turnBehind cX11_turnBehind 6 (some .int) E 130 0 0 [vR E 0, vI a1, vI a2, vI a3, vI a4] σ (qI E (gN σ + 0) Q) := by
  refine cM_of (lv := [(0, vR E 0), (1, vI a1), (2, vI a2), (3, vI a3), (4, vI a4)]) (by decide) hE (Nat.le_of_ble_eq_true rfl) (rfl) ?_
  intro X hX hc _ _ hr _ _
  subst hX
  have hh : 130 ≤ 130 := Nat.le_refl _
  have hh1 : 1 ≤ 130 := by omega
  replace h : wp_X11_crewIn a1 a2 a4 σ (fun r15 s16 => ∃ m10 : Nat, L_X11_turnBehind_10 Q m10 a1 a2 a3 r15 s16) := h
  refine j_aload_nR hc 0 dX11_turnBehind_0 rfl rfl ?_
  refine j_iload_n hc 1 dX11_turnBehind_1 rfl rfl ?_
  refine j_iload_n hc 2 dX11_turnBehind_2 rfl rfl ?_
  refine j_iload hc 4 dX11_turnBehind_3 rfl ?_
  refine j_vI hc (k := 11) (by decide) (fun hv => Or.inl (sv_k hv hm rfl)) ml_RX11_379 mv_X11_crewIn (As := [vI a1, vI a2, vI a4]) (c_X11_crewIn (cx_E hc) hm ca1 ca2 ca4 h) rfl (by omega) (by decide) ⟨Nat.zero_le _, Nat.zero_le _⟩ (Nat.le_of_ble_eq_true rfl) rfl dX11_turnBehind_5 (fun r15 s16 cr15 h => ?_)
  refine j_istore (lv' := [(5, vI r15), (0, vR E 0), (1, vI a1), (2, vI a2), (3, vI a3), (4, vI a4)]) hc dX11_turnBehind_8 (by decide) rfl ?_
  obtain ⟨n10, h⟩ := h
  refine j_sub (lv' := [(0, vR E 0), (1, vI a1), (2, vI a2), (3, vI a3), (5, vI r15)]) [1, 2, 3, 4, 0] rfl ?_
  exact jl_X11_turnBehind_10 hc hm hr hh n10 ca1 ca2 ca3 cr15 h
-- LitStrangersModel.turnsFrom(III)I
theorem dX11_turnsFrom_0 : decode cX11_turnsFrom 0 = .ok (.iload_n 1, 1) := by decide +kernel
theorem dX11_turnsFrom_1 : decode cX11_turnsFrom 1 = .ok (.bipush 10, 2) := by decide +kernel
theorem dX11_turnsFrom_3 : decode cX11_turnsFrom 3 = .ok (.if_icmp .le 5, 3) := by decide +kernel
theorem dX11_turnsFrom_6 : decode cX11_turnsFrom 6 = .ok (.iconst 0, 1) := by decide +kernel
theorem dX11_turnsFrom_7 : decode cX11_turnsFrom 7 = .ok (.ireturn, 1) := by decide +kernel
theorem dX11_turnsFrom_8 : decode cX11_turnsFrom 8 = .ok (.sipush 1024, 3) := by decide +kernel
theorem dX11_turnsFrom_11 : decode cX11_turnsFrom 11 = .ok (.iload_n 1, 1) := by decide +kernel
theorem dX11_turnsFrom_12 : decode cX11_turnsFrom 12 = .ok (.imul, 1) := by decide +kernel
theorem dX11_turnsFrom_13 : decode cX11_turnsFrom 13 = .ok (.iload_n 2, 1) := by decide +kernel
theorem dX11_turnsFrom_14 : decode cX11_turnsFrom 14 = .ok (.iadd, 1) := by decide +kernel
theorem dX11_turnsFrom_15 : decode cX11_turnsFrom 15 = .ok (.bipush 16, 2) := by decide +kernel
theorem dX11_turnsFrom_17 : decode cX11_turnsFrom 17 = .ok (.imul, 1) := by decide +kernel
theorem dX11_turnsFrom_18 : decode cX11_turnsFrom 18 = .ok (.iload_n 3, 1) := by decide +kernel
theorem dX11_turnsFrom_19 : decode cX11_turnsFrom 19 = .ok (.iadd, 1) := by decide +kernel
theorem dX11_turnsFrom_20 : decode cX11_turnsFrom 20 = .ok (.istore 4, 2) := by decide +kernel
theorem dX11_turnsFrom_22 : decode cX11_turnsFrom 22 = .ok (.aload_n 0, 1) := by decide +kernel
theorem dX11_turnsFrom_23 : decode cX11_turnsFrom 23 = .ok (.getfield 97, 3) := by decide +kernel
theorem dX11_turnsFrom_26 : decode cX11_turnsFrom 26 = .ok (.iload 4, 2) := by decide +kernel
theorem dX11_turnsFrom_28 : decode cX11_turnsFrom 28 = .ok (.baload, 1) := by decide +kernel
theorem dX11_turnsFrom_29 : decode cX11_turnsFrom 29 = .ok (.iconst (-1), 1) := by decide +kernel
theorem dX11_turnsFrom_30 : decode cX11_turnsFrom 30 = .ok (.if_icmp .eq 11, 3) := by decide +kernel
theorem dX11_turnsFrom_33 : decode cX11_turnsFrom 33 = .ok (.aload_n 0, 1) := by decide +kernel
theorem dX11_turnsFrom_34 : decode cX11_turnsFrom 34 = .ok (.getfield 97, 3) := by decide +kernel
theorem dX11_turnsFrom_37 : decode cX11_turnsFrom 37 = .ok (.iload 4, 2) := by decide +kernel
theorem dX11_turnsFrom_39 : decode cX11_turnsFrom 39 = .ok (.baload, 1) := by decide +kernel
theorem dX11_turnsFrom_40 : decode cX11_turnsFrom 40 = .ok (.ireturn, 1) := by decide +kernel
theorem dX11_turnsFrom_41 : decode cX11_turnsFrom 41 = .ok (.iconst 0, 1) := by decide +kernel
theorem dX11_turnsFrom_42 : decode cX11_turnsFrom 42 = .ok (.istore 5, 2) := by decide +kernel
theorem dX11_turnsFrom_44 : decode cX11_turnsFrom 44 = .ok (.aload_n 0, 1) := by decide +kernel
theorem dX11_turnsFrom_45 : decode cX11_turnsFrom 45 = .ok (.iload_n 1, 1) := by decide +kernel
theorem dX11_turnsFrom_46 : decode cX11_turnsFrom 46 = .ok (.iload_n 2, 1) := by decide +kernel
theorem dX11_turnsFrom_47 : decode cX11_turnsFrom 47 = .ok (.iload_n 3, 1) := by decide +kernel
theorem dX11_turnsFrom_48 : decode cX11_turnsFrom 48 = .ok (.iconst 0, 1) := by decide +kernel
theorem dX11_turnsFrom_49 : decode cX11_turnsFrom 49 = .ok (.invokevirtual 401, 3) := by decide +kernel
theorem dX11_turnsFrom_52 : decode cX11_turnsFrom 52 = .ok (.istore 6, 2) := by decide +kernel
theorem dX11_turnsFrom_54 : decode cX11_turnsFrom 54 = .ok (.iload 6, 2) := by decide +kernel
theorem dX11_turnsFrom_56 : decode cX11_turnsFrom 56 = .ok (.iconst (-1), 1) := by decide +kernel
theorem dX11_turnsFrom_57 : decode cX11_turnsFrom 57 = .ok (.if_icmp .eq 54, 3) := by decide +kernel
theorem dX11_turnsFrom_60 : decode cX11_turnsFrom 60 = .ok (.iconst 1, 1) := by decide +kernel
theorem dX11_turnsFrom_61 : decode cX11_turnsFrom 61 = .ok (.aload_n 0, 1) := by decide +kernel
theorem dX11_turnsFrom_62 : decode cX11_turnsFrom 62 = .ok (.iload_n 1, 1) := by decide +kernel
theorem dX11_turnsFrom_63 : decode cX11_turnsFrom 63 = .ok (.iconst 1, 1) := by decide +kernel
theorem dX11_turnsFrom_64 : decode cX11_turnsFrom 64 = .ok (.iadd, 1) := by decide +kernel
theorem dX11_turnsFrom_65 : decode cX11_turnsFrom 65 = .ok (.iload_n 2, 1) := by decide +kernel
theorem dX11_turnsFrom_66 : decode cX11_turnsFrom 66 = .ok (.iload 6, 2) := by decide +kernel
theorem dX11_turnsFrom_68 : decode cX11_turnsFrom 68 = .ok (.ior, 1) := by decide +kernel
theorem dX11_turnsFrom_69 : decode cX11_turnsFrom 69 = .ok (.aload_n 0, 1) := by decide +kernel
theorem dX11_turnsFrom_70 : decode cX11_turnsFrom 70 = .ok (.iload 6, 2) := by decide +kernel
theorem dX11_turnsFrom_72 : decode cX11_turnsFrom 72 = .ok (.invokevirtual 398, 3) := by decide +kernel
theorem dX11_turnsFrom_75 : decode cX11_turnsFrom 75 = .ok (.invokevirtual 405, 3) := by decide +kernel
theorem dX11_turnsFrom_78 : decode cX11_turnsFrom 78 = .ok (.iadd, 1) := by decide +kernel
theorem dX11_turnsFrom_79 : decode cX11_turnsFrom 79 = .ok (.istore 7, 2) := by decide +kernel
theorem dX11_turnsFrom_81 : decode cX11_turnsFrom 81 = .ok (.iload 7, 2) := by decide +kernel
theorem dX11_turnsFrom_83 : decode cX11_turnsFrom 83 = .ok (.iload 5, 2) := by decide +kernel
theorem dX11_turnsFrom_85 : decode cX11_turnsFrom 85 = .ok (.if_icmp .le 8, 3) := by decide +kernel
theorem dX11_turnsFrom_88 : decode cX11_turnsFrom 88 = .ok (.iload 7, 2) := by decide +kernel
theorem dX11_turnsFrom_90 : decode cX11_turnsFrom 90 = .ok (.goto 5, 3) := by decide +kernel
theorem dX11_turnsFrom_93 : decode cX11_turnsFrom 93 = .ok (.iload 5, 2) := by decide +kernel
theorem dX11_turnsFrom_95 : decode cX11_turnsFrom 95 = .ok (.istore 5, 2) := by decide +kernel
theorem dX11_turnsFrom_97 : decode cX11_turnsFrom 97 = .ok (.aload_n 0, 1) := by decide +kernel
theorem dX11_turnsFrom_98 : decode cX11_turnsFrom 98 = .ok (.iload_n 1, 1) := by decide +kernel
theorem dX11_turnsFrom_99 : decode cX11_turnsFrom 99 = .ok (.iload_n 2, 1) := by decide +kernel
theorem dX11_turnsFrom_100 : decode cX11_turnsFrom 100 = .ok (.iload_n 3, 1) := by decide +kernel
theorem dX11_turnsFrom_101 : decode cX11_turnsFrom 101 = .ok (.iload 6, 2) := by decide +kernel
theorem dX11_turnsFrom_103 : decode cX11_turnsFrom 103 = .ok (.invokevirtual 401, 3) := by decide +kernel
theorem dX11_turnsFrom_106 : decode cX11_turnsFrom 106 = .ok (.istore 6, 2) := by decide +kernel
theorem dX11_turnsFrom_108 : decode cX11_turnsFrom 108 = .ok (.goto (-54), 3) := by decide +kernel
theorem dX11_turnsFrom_111 : decode cX11_turnsFrom 111 = .ok (.aload_n 0, 1) := by decide +kernel
theorem dX11_turnsFrom_112 : decode cX11_turnsFrom 112 = .ok (.getfield 97, 3) := by decide +kernel
theorem dX11_turnsFrom_115 : decode cX11_turnsFrom 115 = .ok (.iload 4, 2) := by decide +kernel
theorem dX11_turnsFrom_117 : decode cX11_turnsFrom 117 = .ok (.iload 5, 2) := by decide +kernel
theorem dX11_turnsFrom_119 : decode cX11_turnsFrom 119 = .ok (.i2b, 1) := by decide +kernel
theorem dX11_turnsFrom_120 : decode cX11_turnsFrom 120 = .ok (.bastore, 1) := by decide +kernel
theorem dX11_turnsFrom_121 : decode cX11_turnsFrom 121 = .ok (.iload 5, 2) := by decide +kernel
theorem dX11_turnsFrom_123 : decode cX11_turnsFrom 123 = .ok (.ireturn, 1) := by decide +kernel
def B_X11_turnsFrom_95 (Q : Int → st_S → Prop) (rc_X11_turnsFrom : Int → Int → Int → st_S → (Int → st_S → Prop) → Prop) (k54 : Int → Int → Int → Int → Int → Int → st_S → Prop) (l1 : Int) (l2 : Int) (l3 : Int) (l4 : Int) (l6 : Int) (v0 : Int) (σ : st_S) : Prop := wp_X11_turnBehind l1 l2 l3 l6 σ (fun r22 s23 => k54 l1 l2 l3 l4 v0 r22 s23)
def L_X11_turnsFrom_54 (Q : Int → st_S → Prop) (rc_X11_turnsFrom : Int → Int → Int → st_S → (Int → st_S → Prop) → Prop)  : Nat → Int → Int → Int → Int → Int → Int → st_S → Prop
  | 0 => fun _ _ _ _ _ _ _ => False
  | n + 1 => fun l1 l2 l3 l4 l5 l6 σ => (l6 = (-1) → ix l4 180224 ∧ ∀ s25 : st_S, s25 = sI σ 24 (Int.toNat l4) (o_nb (o_i2b l5)) → Q l5 s25) ∧ (¬ l6 = (-1) → wp_X11_landsOf l6 σ (fun r26 s27 => rc_X11_turnsFrom (wr (l1 + 1)) (o_or l2 l6) r26 s27 (fun r28 s29 => ∀ x30 : Int, x30 = wr (1 + r28) → (x30 ≤ l5 → B_X11_turnsFrom_95 Q rc_X11_turnsFrom (L_X11_turnsFrom_54 Q rc_X11_turnsFrom n) l1 l2 l3 l4 l6 l5 s29) ∧ (¬ x30 ≤ l5 → B_X11_turnsFrom_95 Q rc_X11_turnsFrom (L_X11_turnsFrom_54 Q rc_X11_turnsFrom n) l1 l2 l3 l4 l6 x30 s29))))
def e_X11_turnsFrom (rc_X11_turnsFrom : Int → Int → Int → st_S → (Int → st_S → Prop) → Prop) (a1 : Int) (a2 : Int) (a3 : Int) (σ : st_S) (Q : Int → st_S → Prop) : Prop := (a1 ≤ 10 → ∀ x33 : Int, x33 = wr ((((1024 * a1) + a2) * 16) + a3) → ix x33 180224 ∧ (gI σ 24 (Int.toNat x33) = (-1) → wp_X11_turnBehind a1 a2 a3 0 σ (fun r36 s37 => ∃ m54 : Nat, L_X11_turnsFrom_54 Q rc_X11_turnsFrom m54 a1 a2 a3 x33 0 r36 s37)) ∧ (¬ gI σ 24 (Int.toNat x33) = (-1) → ix x33 180224 ∧ Q (gI σ 24 (Int.toNat x33)) σ)) ∧ (¬ a1 ≤ 10 → Q 0 σ)
def G_X11_turnsFrom : Nat → (Int → Int → Int → st_S → (Int → st_S → Prop) → Prop)
  | 0 => fun _ _ _ _ _ => False
  | d + 1 => e_X11_turnsFrom ((G_X11_turnsFrom d))
def wp_X11_turnsFrom (d : Nat) : Int → Int → Int → st_S → (Int → st_S → Prop) → Prop := (G_X11_turnsFrom d)
set_option maxRecDepth 20000 in
theorem jb_X11_turnsFrom_95 {X : jj_X} {E : ev_E} {n0 hN : Nat} (hc : Cx X E cX11_turnsFrom 8 n0 hN RX11) (hm : eM E = 2) (hr : (xT X).sig.returnType = (some .int)) {d : Nat} (hh : 131 + (d + 1) ≤ hN) {Q : Int → st_S → Prop} {rc_X11_turnsFrom : Int → Int → Int → st_S → (Int → st_S → Prop) → Prop} (hr_X11_turnsFrom : ∀ {l : Launch} {E : ev_E} (hE : Eok E) (hm : eM E = 2) {a1 : Int} {a2 : Int} {a3 : Int} (ca1 : wr a1 = a1) (ca2 : wr a2 = a2) (ca3 : wr a3 = a3) {σ : st_S} {Q : Int → st_S → Prop}, rc_X11_turnsFrom a1 a2 a3 σ Q → cM l yX11_turnsFrom cX11_turnsFrom 8 (some .int) E (131 + d) 0 0 [vR E 0, vI a1, vI a2, vI a3] σ (qI E (gN σ + 0) Q)) {k54 : Int → Int → Int → Int → Int → Int → st_S → Prop} (hk54 : ∀ {l1 : Int} {l2 : Int} {l3 : Int} {l4 : Int} {l5 : Int} {l6 : Int} (cl1 : wr l1 = l1) (cl2 : wr l2 = l2) (cl3 : wr l3 = l3) (cl4 : wr l4 = l4) (cl5 : wr l5 = l5) (cl6 : wr l6 = l6) {σ : st_S}, k54 l1 l2 l3 l4 l5 l6 σ → J X E 8 n0 0 0 (MQ (xB X) (qI E (n0 + 0) Q) (xA X) (xS X) 0 0 (eF E)) σ 54 [(0, vR E 0), (1, vI l1), (2, vI l2), (3, vI l3), (4, vI l4), (5, vI l5), (6, vI l6)] []) {l1 : Int} {l2 : Int} {l3 : Int} {l4 : Int} {l6 : Int} {v0 : Int} (cl1 : wr l1 = l1) (cl2 : wr l2 = l2) (cl3 : wr l3 = l3) (cl4 : wr l4 = l4) (cl6 : wr l6 = l6) (cv0 : wr v0 = v0) {σ : st_S} (h : B_X11_turnsFrom_95 Q rc_X11_turnsFrom k54 l1 l2 l3 l4 l6 v0 σ) : J X E 8 n0 0 0 (MQ (xB X) (qI E (n0 + 0) Q) (xA X) (xS X) 0 0 (eF E)) σ 95 [(0, vR E 0), (1, vI l1), (2, vI l2), (3, vI l3), (4, vI l4), (6, vI l6)] [vI v0] := by
  have hh1 : 1 ≤ hN := by omega
  replace h : wp_X11_turnBehind l1 l2 l3 l6 σ (fun r22 s23 => k54 l1 l2 l3 l4 v0 r22 s23) := h
  refine j_istore (lv' := [(5, vI v0), (0, vR E 0), (1, vI l1), (2, vI l2), (3, vI l3), (4, vI l4), (6, vI l6)]) hc dX11_turnsFrom_95 (by decide) rfl ?_
  refine j_aload_nR hc 1 dX11_turnsFrom_97 rfl rfl ?_
  refine j_iload_n hc 2 dX11_turnsFrom_98 rfl rfl ?_
  refine j_iload_n hc 3 dX11_turnsFrom_99 rfl rfl ?_
  refine j_iload_n hc 4 dX11_turnsFrom_100 rfl rfl ?_
  refine j_iload hc 6 dX11_turnsFrom_101 rfl ?_
  refine j_vI hc (k := 11) (by decide) (fun hv => Or.inl (sv_k hv hm rfl)) ml_RX11_401 mv_X11_turnBehind (As := [vI l1, vI l2, vI l3, vI l6]) (c_X11_turnBehind (cx_E hc) hm cl1 cl2 cl3 cl6 h) rfl (by omega) (by decide) ⟨Nat.zero_le _, Nat.zero_le _⟩ (Nat.le_of_ble_eq_true rfl) rfl dX11_turnsFrom_103 (fun r22 s23 cr22 h => ?_)
  refine j_istore (lv' := [(6, vI r22), (5, vI v0), (0, vR E 0), (1, vI l1), (2, vI l2), (3, vI l3), (4, vI l4)]) hc dX11_turnsFrom_106 (by decide) rfl ?_
  refine j_goto (tgt := 54) hc dX11_turnsFrom_108 (by decide) ?_
  refine j_sub (lv' := [(0, vR E 0), (1, vI l1), (2, vI l2), (3, vI l3), (4, vI l4), (5, vI v0), (6, vI r22)]) [2, 3, 4, 5, 6, 1, 0] rfl ?_
  exact hk54 cl1 cl2 cl3 cl4 cv0 cr22 h
set_option maxRecDepth 20000 in
theorem jl_X11_turnsFrom_54 {X : jj_X} {E : ev_E} {n0 hN : Nat} (hc : Cx X E cX11_turnsFrom 8 n0 hN RX11) (hm : eM E = 2) (hr : (xT X).sig.returnType = (some .int)) {d : Nat} (hh : 131 + (d + 1) ≤ hN) {Q : Int → st_S → Prop} {rc_X11_turnsFrom : Int → Int → Int → st_S → (Int → st_S → Prop) → Prop} (hr_X11_turnsFrom : ∀ {l : Launch} {E : ev_E} (hE : Eok E) (hm : eM E = 2) {a1 : Int} {a2 : Int} {a3 : Int} (ca1 : wr a1 = a1) (ca2 : wr a2 = a2) (ca3 : wr a3 = a3) {σ : st_S} {Q : Int → st_S → Prop}, rc_X11_turnsFrom a1 a2 a3 σ Q → cM l yX11_turnsFrom cX11_turnsFrom 8 (some .int) E (131 + d) 0 0 [vR E 0, vI a1, vI a2, vI a3] σ (qI E (gN σ + 0) Q)) : ∀ (n : Nat) {l1 : Int} {l2 : Int} {l3 : Int} {l4 : Int} {l5 : Int} {l6 : Int} (cl1 : wr l1 = l1) (cl2 : wr l2 = l2) (cl3 : wr l3 = l3) (cl4 : wr l4 = l4) (cl5 : wr l5 = l5) (cl6 : wr l6 = l6) {σ : st_S}, L_X11_turnsFrom_54 Q rc_X11_turnsFrom n l1 l2 l3 l4 l5 l6 σ → J X E 8 n0 0 0 (MQ (xB X) (qI E (n0 + 0) Q) (xA X) (xS X) 0 0 (eF E)) σ 54 [(0, vR E 0), (1, vI l1), (2, vI l2), (3, vI l3), (4, vI l4), (5, vI l5), (6, vI l6)] [] := by
  have hh1 : 1 ≤ hN := by omega
  intro n
  induction n with
  | zero => intro l1 l2 l3 l4 l5 l6 cl1 cl2 cl3 cl4 cl5 cl6 σ h; exact h.elim
  | succ n ih =>
    intro l1 l2 l3 l4 l5 l6 cl1 cl2 cl3 cl4 cl5 cl6 σ h
    have hk54 : ∀ {l1 : Int} {l2 : Int} {l3 : Int} {l4 : Int} {l5 : Int} {l6 : Int} (cl1 : wr l1 = l1) (cl2 : wr l2 = l2) (cl3 : wr l3 = l3) (cl4 : wr l4 = l4) (cl5 : wr l5 = l5) (cl6 : wr l6 = l6) {σ : st_S}, L_X11_turnsFrom_54 Q rc_X11_turnsFrom n l1 l2 l3 l4 l5 l6 σ → J X E 8 n0 0 0 (MQ (xB X) (qI E (n0 + 0) Q) (xA X) (xS X) 0 0 (eF E)) σ 54 [(0, vR E 0), (1, vI l1), (2, vI l2), (3, vI l3), (4, vI l4), (5, vI l5), (6, vI l6)] [] := ih
    replace h : (l6 = (-1) → ix l4 180224 ∧ ∀ s25 : st_S, s25 = sI σ 24 (Int.toNat l4) (o_nb (o_i2b l5)) → Q l5 s25) ∧ (¬ l6 = (-1) → wp_X11_landsOf l6 σ (fun r26 s27 => rc_X11_turnsFrom (wr (l1 + 1)) (o_or l2 l6) r26 s27 (fun r28 s29 => ∀ x30 : Int, x30 = wr (1 + r28) → (x30 ≤ l5 → B_X11_turnsFrom_95 Q rc_X11_turnsFrom (L_X11_turnsFrom_54 Q rc_X11_turnsFrom n) l1 l2 l3 l4 l6 l5 s29) ∧ (¬ x30 ≤ l5 → B_X11_turnsFrom_95 Q rc_X11_turnsFrom (L_X11_turnsFrom_54 Q rc_X11_turnsFrom n) l1 l2 l3 l4 l6 x30 s29)))) := h
    refine j_iload hc 6 dX11_turnsFrom_54 rfl ?_
    refine j_iconst hc dX11_turnsFrom_56 ?_
    refine j_ic_eq hc cl6 (wlit (-1) (by decide)) (tgt := 111) dX11_turnsFrom_57 (by decide) (fun q32 => ?_) (fun q32 => ?_)
    · replace h := h.1 q32
      refine j_aload_nR hc 0 dX11_turnsFrom_111 rfl rfl ?_
      refine j_getR (c' := 24) hc fl_RX11_97 rfl rfl (fun hv => (sv_k hv hm rfl)) dX11_turnsFrom_112 ?_
      refine j_iload hc 4 dX11_turnsFrom_115 rfl ?_
      refine j_iload hc 5 dX11_turnsFrom_117 rfl ?_
      refine j_i2b hc dX11_turnsFrom_119 ?_
      obtain ⟨b24, h⟩ := h
      refine j_bast (jn := (Int.toNat l4)) hc (fun hv => sv_kl hv hm rfl) cl4 b24 rfl dX11_turnsFrom_120 (fun s25 es25 => ?_)
      replace h := h s25 es25
      refine j_iload hc 5 dX11_turnsFrom_121 rfl ?_
      exact j_iret hc hr cl5 h dX11_turnsFrom_123
    · replace h := h.2 q32
      refine j_iconst hc dX11_turnsFrom_60 ?_
      refine j_aload_nR hc 0 dX11_turnsFrom_61 rfl rfl ?_
      refine j_iload_n hc 1 dX11_turnsFrom_62 rfl rfl ?_
      refine j_iconst hc dX11_turnsFrom_63 ?_
      refine j_iadd hc dX11_turnsFrom_64 ?_
      refine j_iload_n hc 2 dX11_turnsFrom_65 rfl rfl ?_
      refine j_iload hc 6 dX11_turnsFrom_66 rfl ?_
      refine j_ior hc dX11_turnsFrom_68 ?_
      refine j_aload_nR hc 0 dX11_turnsFrom_69 rfl rfl ?_
      refine j_iload hc 6 dX11_turnsFrom_70 rfl ?_
      refine j_vI hc (k := 11) (by decide) (fun hv => Or.inl (sv_k hv hm rfl)) ml_RX11_398 mv_X11_landsOf (As := [vI l6]) (c_X11_landsOf (cx_E hc) hm cl6 h) rfl (by omega) (by decide) ⟨Nat.zero_le _, Nat.zero_le _⟩ (Nat.le_of_ble_eq_true rfl) rfl dX11_turnsFrom_72 (fun r26 s27 cr26 h => ?_)
      refine j_vI hc (k := 11) (by decide) (fun hv => Or.inl (sv_k hv hm rfl)) ml_RX11_405 mv_X11_turnsFrom (As := [vI (wr (l1 + 1)), vI (o_or l2 l6), vI r26]) (hr_X11_turnsFrom (cx_E hc) hm (wr_wr _) (cn_or _ _) cr26 h) rfl (by omega) (by decide) ⟨Nat.zero_le _, Nat.zero_le _⟩ (Nat.le_of_ble_eq_true rfl) (by simp only [vI_wr, vL_wl]; rfl) dX11_turnsFrom_75 (fun r28 s29 cr28 h => ?_)
      refine j_iadd hc dX11_turnsFrom_78 ?_
      refine j_w (fun x30 ex30 cx30 => ?_)
      replace h := h x30 ex30
      refine j_istore (lv' := [(7, vI x30), (0, vR E 0), (1, vI l1), (2, vI l2), (3, vI l3), (4, vI l4), (5, vI l5), (6, vI l6)]) hc dX11_turnsFrom_79 (by decide) rfl ?_
      refine j_iload hc 0 dX11_turnsFrom_81 rfl ?_
      refine j_iload hc 6 dX11_turnsFrom_83 rfl ?_
      refine j_ic_le hc cx30 cl5 (tgt := 93) dX11_turnsFrom_85 (by decide) (fun q31 => ?_) (fun q31 => ?_)
      · replace h := h.1 q31
        refine j_iload hc 6 dX11_turnsFrom_93 rfl ?_
        refine j_sub (lv' := [(0, vR E 0), (1, vI l1), (2, vI l2), (3, vI l3), (4, vI l4), (6, vI l6)]) [1, 2, 3, 4, 5, 7] rfl ?_
        exact jb_X11_turnsFrom_95 hc hm hr hh hr_X11_turnsFrom hk54 cl1 cl2 cl3 cl4 cl6 cl5 h
      · replace h := h.2 q31
        refine j_iload hc 0 dX11_turnsFrom_88 rfl ?_
        refine j_goto (tgt := 95) hc dX11_turnsFrom_90 (by decide) ?_
        refine j_sub (lv' := [(0, vR E 0), (1, vI l1), (2, vI l2), (3, vI l3), (4, vI l4), (6, vI l6)]) [1, 2, 3, 4, 5, 7] rfl ?_
        exact jb_X11_turnsFrom_95 hc hm hr hh hr_X11_turnsFrom hk54 cl1 cl2 cl3 cl4 cl6 cx30 h
set_option maxRecDepth 20000 in
theorem ce_X11_turnsFrom {d : Nat} {rc_X11_turnsFrom : Int → Int → Int → st_S → (Int → st_S → Prop) → Prop} (hr_X11_turnsFrom : ∀ {l : Launch} {E : ev_E} (hE : Eok E) (hm : eM E = 2) {a1 : Int} {a2 : Int} {a3 : Int} (ca1 : wr a1 = a1) (ca2 : wr a2 = a2) (ca3 : wr a3 = a3) {σ : st_S} {Q : Int → st_S → Prop}, rc_X11_turnsFrom a1 a2 a3 σ Q → cM l yX11_turnsFrom cX11_turnsFrom 8 (some .int) E (131 + d) 0 0 [vR E 0, vI a1, vI a2, vI a3] σ (qI E (gN σ + 0) Q)) {l : Launch} {E : ev_E} (hE : Eok E) (hm : eM E = 2) {a1 : Int} {a2 : Int} {a3 : Int} (ca1 : wr a1 = a1) (ca2 : wr a2 = a2) (ca3 : wr a3 = a3) {σ : st_S} {Q : Int → st_S → Prop} (h : e_X11_turnsFrom rc_X11_turnsFrom a1 a2 a3 σ Q) : cM l yX11_turnsFrom cX11_turnsFrom 8 (some .int) E (131 + (d + 1)) 0 0 [vR E 0, vI a1, vI a2, vI a3] σ (qI E (gN σ + 0) Q) := by
  refine cM_of (lv := [(0, vR E 0), (1, vI a1), (2, vI a2), (3, vI a3)]) (by decide) hE (Nat.le_of_ble_eq_true rfl) (rfl) ?_
  intro X hX hc _ _ hr _ _
  subst hX
  have hh : 131 + (d + 1) ≤ 131 + (d + 1) := Nat.le_refl _
  have hh1 : 1 ≤ 131 + (d + 1) := by omega
  replace h : (a1 ≤ 10 → ∀ x33 : Int, x33 = wr ((((1024 * a1) + a2) * 16) + a3) → ix x33 180224 ∧ (gI σ 24 (Int.toNat x33) = (-1) → wp_X11_turnBehind a1 a2 a3 0 σ (fun r36 s37 => ∃ m54 : Nat, L_X11_turnsFrom_54 Q rc_X11_turnsFrom m54 a1 a2 a3 x33 0 r36 s37)) ∧ (¬ gI σ 24 (Int.toNat x33) = (-1) → ix x33 180224 ∧ Q (gI σ 24 (Int.toNat x33)) σ)) ∧ (¬ a1 ≤ 10 → Q 0 σ) := h
  refine j_iload_n hc 1 dX11_turnsFrom_0 rfl rfl ?_
  refine j_bipush hc dX11_turnsFrom_1 (by decide) ?_
  refine j_ic_le hc ca1 (wlit 10 (by decide)) (tgt := 8) dX11_turnsFrom_3 (by decide) (fun q41 => ?_) (fun q41 => ?_)
  · replace h := h.1 q41
    refine j_sipush hc dX11_turnsFrom_8 (by decide) ?_
    refine j_iload_n hc 1 dX11_turnsFrom_11 rfl rfl ?_
    refine j_imul hc dX11_turnsFrom_12 ?_
    refine j_iload_n hc 2 dX11_turnsFrom_13 rfl rfl ?_
    refine j_iadd hc dX11_turnsFrom_14 ?_
    refine j_bipush hc dX11_turnsFrom_15 (by decide) ?_
    refine j_imul hc dX11_turnsFrom_17 ?_
    refine j_iload_n hc 3 dX11_turnsFrom_18 rfl rfl ?_
    refine j_iadd hc dX11_turnsFrom_19 ?_
    refine j_w (fun x33 ex33 cx33 => ?_)
    replace h := h x33 ex33
    refine j_istore (lv' := [(4, vI x33), (0, vR E 0), (1, vI a1), (2, vI a2), (3, vI a3)]) hc dX11_turnsFrom_20 (by decide) rfl ?_
    refine j_aload_nR hc 1 dX11_turnsFrom_22 rfl rfl ?_
    refine j_getR (c' := 24) hc fl_RX11_97 rfl rfl (fun hv => (sv_k hv hm rfl)) dX11_turnsFrom_23 ?_
    refine j_iload hc 0 dX11_turnsFrom_26 rfl ?_
    obtain ⟨b34, h⟩ := h
    refine j_bald (jn := (Int.toNat x33)) hc (fun hv => sv_kl hv hm rfl) cx33 b34 rfl dX11_turnsFrom_28 (fun cn35 => ?_)
    refine j_iconst hc dX11_turnsFrom_29 ?_
    refine j_ic_eq hc cn35 (wlit (-1) (by decide)) (tgt := 41) dX11_turnsFrom_30 (by decide) (fun q40 => ?_) (fun q40 => ?_)
    · replace h := h.1 q40
      refine j_iconst hc dX11_turnsFrom_41 ?_
      refine j_istore (lv' := [(5, vI 0), (4, vI x33), (0, vR E 0), (1, vI a1), (2, vI a2), (3, vI a3)]) hc dX11_turnsFrom_42 (by decide) rfl ?_
      refine j_aload_nR hc 2 dX11_turnsFrom_44 rfl rfl ?_
      refine j_iload_n hc 3 dX11_turnsFrom_45 rfl rfl ?_
      refine j_iload_n hc 4 dX11_turnsFrom_46 rfl rfl ?_
      refine j_iload_n hc 5 dX11_turnsFrom_47 rfl rfl ?_
      refine j_iconst hc dX11_turnsFrom_48 ?_
      refine j_vI hc (k := 11) (by decide) (fun hv => Or.inl (sv_k hv hm rfl)) ml_RX11_401 mv_X11_turnBehind (As := [vI a1, vI a2, vI a3, vI 0]) (c_X11_turnBehind (cx_E hc) hm ca1 ca2 ca3 (wlit 0 (by decide)) h) rfl (by omega) (by decide) ⟨Nat.zero_le _, Nat.zero_le _⟩ (Nat.le_of_ble_eq_true rfl) rfl dX11_turnsFrom_49 (fun r36 s37 cr36 h => ?_)
      refine j_istore (lv' := [(6, vI r36), (5, vI 0), (4, vI x33), (0, vR E 0), (1, vI a1), (2, vI a2), (3, vI a3)]) hc dX11_turnsFrom_52 (by decide) rfl ?_
      obtain ⟨n54, h⟩ := h
      refine j_sub (lv' := [(0, vR E 0), (1, vI a1), (2, vI a2), (3, vI a3), (4, vI x33), (5, vI 0), (6, vI r36)]) [3, 4, 5, 6, 2, 1, 0] rfl ?_
      exact jl_X11_turnsFrom_54 hc hm hr hh hr_X11_turnsFrom n54 ca1 ca2 ca3 cx33 (wlit 0 (by decide)) cr36 h
    · replace h := h.2 q40
      refine j_aload_nR hc 1 dX11_turnsFrom_33 rfl rfl ?_
      refine j_getR (c' := 24) hc fl_RX11_97 rfl rfl (fun hv => (sv_k hv hm rfl)) dX11_turnsFrom_34 ?_
      refine j_iload hc 0 dX11_turnsFrom_37 rfl ?_
      obtain ⟨b38, h⟩ := h
      refine j_bald (jn := (Int.toNat x33)) hc (fun hv => sv_kl hv hm rfl) cx33 b38 rfl dX11_turnsFrom_39 (fun cn39 => ?_)
      exact j_iret hc hr cn39 h dX11_turnsFrom_40
  · replace h := h.2 q41
    refine j_iconst hc dX11_turnsFrom_6 ?_
    exact j_iret hc hr (wlit 0 (by decide)) h dX11_turnsFrom_7
theorem ca_X11_turnsFrom : ∀ d : Nat, (∀ {l : Launch} {E : ev_E} (hE : Eok E) (hm : eM E = 2) {a1 : Int} {a2 : Int} {a3 : Int} (ca1 : wr a1 = a1) (ca2 : wr a2 = a2) (ca3 : wr a3 = a3) {σ : st_S} {Q : Int → st_S → Prop}, wp_X11_turnsFrom d a1 a2 a3 σ Q → cM l yX11_turnsFrom cX11_turnsFrom 8 (some .int) E (131 + d) 0 0 [vR E 0, vI a1, vI a2, vI a3] σ (qI E (gN σ + 0) Q)) := by
  intro d
  induction d with
  | zero => exact (fun {l} {E} hE hm {a1} {a2} {a3} ca1 ca2 ca3 {σ} {Q} h => h.elim)
  | succ d ih =>
    have q0 := @ih
    exact (fun {l} {E} hE hm {a1} {a2} {a3} ca1 ca2 ca3 {σ} {Q} h => ce_X11_turnsFrom (d := d) (rc_X11_turnsFrom := wp_X11_turnsFrom d) @q0 hE hm ca1 ca2 ca3 h)
theorem c_X11_turnsFrom {l : Launch} {E : ev_E} (hE : Eok E) (hm : eM E = 2) (d : Nat) {a1 : Int} {a2 : Int} {a3 : Int} (ca1 : wr a1 = a1) (ca2 : wr a2 = a2) (ca3 : wr a3 = a3) {σ : st_S} {Q : Int → st_S → Prop} : wp_X11_turnsFrom d a1 a2 a3 σ Q → cM l yX11_turnsFrom cX11_turnsFrom 8 (some .int) E (131 + d) 0 0 [vR E 0, vI a1, vI a2, vI a3] σ (qI E (gN σ + 0) Q) := fun h => (ca_X11_turnsFrom d) hE hm ca1 ca2 ca3 h
-- LitStrangersModel.swaps(I)I
theorem dX11_swaps_0 : decode cX11_swaps 0 = .ok (.aload_n 0, 1) := by decide +kernel
theorem dX11_swaps_1 : decode cX11_swaps 1 = .ok (.invokevirtual 385, 3) := by decide +kernel
theorem dX11_swaps_4 : decode cX11_swaps 4 = .ok (.iconst 0, 1) := by decide +kernel
theorem dX11_swaps_5 : decode cX11_swaps 5 = .ok (.istore_n 2, 1) := by decide +kernel
theorem dX11_swaps_6 : decode cX11_swaps 6 = .ok (.iload_n 2, 1) := by decide +kernel
theorem dX11_swaps_7 : decode cX11_swaps 7 = .ok (.ldc 96, 2) := by decide +kernel
theorem dX11_swaps_9 : decode cX11_swaps 9 = .ok (.if_icmp .ge 16, 3) := by decide +kernel
theorem dX11_swaps_12 : decode cX11_swaps 12 = .ok (.aload_n 0, 1) := by decide +kernel
theorem dX11_swaps_13 : decode cX11_swaps 13 = .ok (.getfield 97, 3) := by decide +kernel
theorem dX11_swaps_16 : decode cX11_swaps 16 = .ok (.iload_n 2, 1) := by decide +kernel
theorem dX11_swaps_17 : decode cX11_swaps 17 = .ok (.iconst (-1), 1) := by decide +kernel
theorem dX11_swaps_18 : decode cX11_swaps 18 = .ok (.bastore, 1) := by decide +kernel
theorem dX11_swaps_19 : decode cX11_swaps 19 = .ok (.iinc 2 1, 3) := by decide +kernel
theorem dX11_swaps_22 : decode cX11_swaps 22 = .ok (.goto (-16), 3) := by decide +kernel
theorem dX11_swaps_25 : decode cX11_swaps 25 = .ok (.aload_n 0, 1) := by decide +kernel
theorem dX11_swaps_26 : decode cX11_swaps 26 = .ok (.iconst 0, 1) := by decide +kernel
theorem dX11_swaps_27 : decode cX11_swaps 27 = .ok (.iconst 0, 1) := by decide +kernel
theorem dX11_swaps_28 : decode cX11_swaps 28 = .ok (.iconst 0, 1) := by decide +kernel
theorem dX11_swaps_29 : decode cX11_swaps 29 = .ok (.invokevirtual 405, 3) := by decide +kernel
theorem dX11_swaps_32 : decode cX11_swaps 32 = .ok (.istore_n 2, 1) := by decide +kernel
theorem dX11_swaps_33 : decode cX11_swaps 33 = .ok (.iload_n 1, 1) := by decide +kernel
theorem dX11_swaps_34 : decode cX11_swaps 34 = .ok (.iconst (-1), 1) := by decide +kernel
theorem dX11_swaps_35 : decode cX11_swaps 35 = .ok (.iload_n 2, 1) := by decide +kernel
theorem dX11_swaps_36 : decode cX11_swaps 36 = .ok (.iconst 1, 1) := by decide +kernel
theorem dX11_swaps_37 : decode cX11_swaps 37 = .ok (.isub, 1) := by decide +kernel
theorem dX11_swaps_38 : decode cX11_swaps 38 = .ok (.invokestatic 106, 3) := by decide +kernel
theorem dX11_swaps_41 : decode cX11_swaps 41 = .ok (.ifCond .ne 5, 3) := by decide +kernel
theorem dX11_swaps_44 : decode cX11_swaps 44 = .ok (.iconst (-1), 1) := by decide +kernel
theorem dX11_swaps_45 : decode cX11_swaps 45 = .ok (.ireturn, 1) := by decide +kernel
theorem dX11_swaps_46 : decode cX11_swaps 46 = .ok (.iload_n 1, 1) := by decide +kernel
theorem dX11_swaps_47 : decode cX11_swaps 47 = .ok (.iconst (-1), 1) := by decide +kernel
theorem dX11_swaps_48 : decode cX11_swaps 48 = .ok (.if_icmp .ne 5, 3) := by decide +kernel
theorem dX11_swaps_51 : decode cX11_swaps 51 = .ok (.iload_n 2, 1) := by decide +kernel
theorem dX11_swaps_52 : decode cX11_swaps 52 = .ok (.ireturn, 1) := by decide +kernel
theorem dX11_swaps_53 : decode cX11_swaps 53 = .ok (.iconst 0, 1) := by decide +kernel
theorem dX11_swaps_54 : decode cX11_swaps 54 = .ok (.istore_n 3, 1) := by decide +kernel
theorem dX11_swaps_55 : decode cX11_swaps 55 = .ok (.iconst 0, 1) := by decide +kernel
theorem dX11_swaps_56 : decode cX11_swaps 56 = .ok (.istore 4, 2) := by decide +kernel
theorem dX11_swaps_58 : decode cX11_swaps 58 = .ok (.iconst 0, 1) := by decide +kernel
theorem dX11_swaps_59 : decode cX11_swaps 59 = .ok (.istore 5, 2) := by decide +kernel
theorem dX11_swaps_61 : decode cX11_swaps 61 = .ok (.aload_n 0, 1) := by decide +kernel
theorem dX11_swaps_62 : decode cX11_swaps 62 = .ok (.iload 5, 2) := by decide +kernel
theorem dX11_swaps_64 : decode cX11_swaps 64 = .ok (.iload_n 3, 1) := by decide +kernel
theorem dX11_swaps_65 : decode cX11_swaps 65 = .ok (.iload 4, 2) := by decide +kernel
theorem dX11_swaps_67 : decode cX11_swaps 67 = .ok (.iconst 0, 1) := by decide +kernel
theorem dX11_swaps_68 : decode cX11_swaps 68 = .ok (.invokevirtual 401, 3) := by decide +kernel
theorem dX11_swaps_71 : decode cX11_swaps 71 = .ok (.istore 6, 2) := by decide +kernel
theorem dX11_swaps_73 : decode cX11_swaps 73 = .ok (.aload_n 0, 1) := by decide +kernel
theorem dX11_swaps_74 : decode cX11_swaps 74 = .ok (.iload 5, 2) := by decide +kernel
theorem dX11_swaps_76 : decode cX11_swaps 76 = .ok (.iconst 1, 1) := by decide +kernel
theorem dX11_swaps_77 : decode cX11_swaps 77 = .ok (.iadd, 1) := by decide +kernel
theorem dX11_swaps_78 : decode cX11_swaps 78 = .ok (.iload_n 3, 1) := by decide +kernel
theorem dX11_swaps_79 : decode cX11_swaps 79 = .ok (.iload 6, 2) := by decide +kernel
theorem dX11_swaps_81 : decode cX11_swaps 81 = .ok (.ior, 1) := by decide +kernel
theorem dX11_swaps_82 : decode cX11_swaps 82 = .ok (.aload_n 0, 1) := by decide +kernel
theorem dX11_swaps_83 : decode cX11_swaps 83 = .ok (.iload 6, 2) := by decide +kernel
theorem dX11_swaps_85 : decode cX11_swaps 85 = .ok (.invokevirtual 398, 3) := by decide +kernel
theorem dX11_swaps_88 : decode cX11_swaps 88 = .ok (.invokevirtual 405, 3) := by decide +kernel
theorem dX11_swaps_91 : decode cX11_swaps 91 = .ok (.iload_n 2, 1) := by decide +kernel
theorem dX11_swaps_92 : decode cX11_swaps 92 = .ok (.iload 5, 2) := by decide +kernel
theorem dX11_swaps_94 : decode cX11_swaps 94 = .ok (.isub, 1) := by decide +kernel
theorem dX11_swaps_95 : decode cX11_swaps 95 = .ok (.iconst 1, 1) := by decide +kernel
theorem dX11_swaps_96 : decode cX11_swaps 96 = .ok (.isub, 1) := by decide +kernel
theorem dX11_swaps_97 : decode cX11_swaps 97 = .ok (.if_icmp .ge 19, 3) := by decide +kernel
theorem dX11_swaps_100 : decode cX11_swaps 100 = .ok (.aload_n 0, 1) := by decide +kernel
theorem dX11_swaps_101 : decode cX11_swaps 101 = .ok (.iload 5, 2) := by decide +kernel
theorem dX11_swaps_103 : decode cX11_swaps 103 = .ok (.iload_n 3, 1) := by decide +kernel
theorem dX11_swaps_104 : decode cX11_swaps 104 = .ok (.iload 4, 2) := by decide +kernel
theorem dX11_swaps_106 : decode cX11_swaps 106 = .ok (.iload 6, 2) := by decide +kernel
theorem dX11_swaps_108 : decode cX11_swaps 108 = .ok (.invokevirtual 401, 3) := by decide +kernel
theorem dX11_swaps_111 : decode cX11_swaps 111 = .ok (.istore 6, 2) := by decide +kernel
theorem dX11_swaps_113 : decode cX11_swaps 113 = .ok (.goto (-40), 3) := by decide +kernel
theorem dX11_swaps_116 : decode cX11_swaps 116 = .ok (.iload 5, 2) := by decide +kernel
theorem dX11_swaps_118 : decode cX11_swaps 118 = .ok (.iload_n 1, 1) := by decide +kernel
theorem dX11_swaps_119 : decode cX11_swaps 119 = .ok (.if_icmp .ne 6, 3) := by decide +kernel
theorem dX11_swaps_122 : decode cX11_swaps 122 = .ok (.iload 6, 2) := by decide +kernel
theorem dX11_swaps_124 : decode cX11_swaps 124 = .ok (.ireturn, 1) := by decide +kernel
theorem dX11_swaps_125 : decode cX11_swaps 125 = .ok (.iload_n 3, 1) := by decide +kernel
theorem dX11_swaps_126 : decode cX11_swaps 126 = .ok (.iload 6, 2) := by decide +kernel
theorem dX11_swaps_128 : decode cX11_swaps 128 = .ok (.ior, 1) := by decide +kernel
theorem dX11_swaps_129 : decode cX11_swaps 129 = .ok (.istore_n 3, 1) := by decide +kernel
theorem dX11_swaps_130 : decode cX11_swaps 130 = .ok (.aload_n 0, 1) := by decide +kernel
theorem dX11_swaps_131 : decode cX11_swaps 131 = .ok (.iload 6, 2) := by decide +kernel
theorem dX11_swaps_133 : decode cX11_swaps 133 = .ok (.invokevirtual 398, 3) := by decide +kernel
theorem dX11_swaps_136 : decode cX11_swaps 136 = .ok (.istore 4, 2) := by decide +kernel
theorem dX11_swaps_138 : decode cX11_swaps 138 = .ok (.iinc 5 1, 3) := by decide +kernel
theorem dX11_swaps_141 : decode cX11_swaps 141 = .ok (.goto (-80), 3) := by decide +kernel
def L_X11_swaps_73 (Q : Int → st_S → Prop)  (k61 : Int → Int → Int → Int → Int → st_S → Prop) : Nat → Int → Int → Int → Int → Int → Int → st_S → Prop
  | 0 => fun _ _ _ _ _ _ _ => False
  | n + 1 => fun l1 l2 l3 l4 l5 l6 σ => wp_X11_landsOf l6 σ (fun r31 s32 => wp_X11_turnsFrom 13 (wr (l5 + 1)) (o_or l3 l6) r31 s32 (fun r33 s34 => (wr ((l2 - l5) - 1) ≤ r33 → (¬ l5 = l1 → ∀ x35 : Int, x35 = o_or l3 l6 → wp_X11_landsOf l6 s34 (fun r36 s37 => ∀ x38 : Int, x38 = wr (l5 + 1) → k61 l1 l2 x35 r36 x38 s37)) ∧ (l5 = l1 → Q l6 s34)) ∧ (¬ wr ((l2 - l5) - 1) ≤ r33 → wp_X11_turnBehind l5 l3 l4 l6 s34 (fun r40 s41 => (L_X11_swaps_73 Q k61 n) l1 l2 l3 l4 l5 r40 s41))))
def L_X11_swaps_61 (Q : Int → st_S → Prop)   : Nat → Int → Int → Int → Int → Int → st_S → Prop
  | 0 => fun _ _ _ _ _ _ => False
  | n + 1 => fun l1 l2 l3 l4 l5 σ => wp_X11_turnBehind l5 l3 l4 0 σ (fun r43 s44 => ∃ m73 : Nat, L_X11_swaps_73 Q (L_X11_swaps_61 Q n) m73 l1 l2 l3 l4 l5 r43 s44)
def L_X11_swaps_6 (Q : Int → st_S → Prop)   : Nat → Int → Int → st_S → Prop
  | 0 => fun _ _ _ => False
  | n + 1 => fun l1 l2 σ => (180224 ≤ l2 → wp_X11_turnsFrom 13 0 0 0 σ (fun r45 s46 => wp_X11_lies l1 (-1) (wr (r45 - 1)) s46 (fun r47 s48 => (¬ r47 = 0 → (¬ l1 = (-1) → ∃ m61 : Nat, L_X11_swaps_61 Q m61 l1 r45 0 0 0 s48) ∧ (l1 = (-1) → Q r45 s48)) ∧ (r47 = 0 → Q (-1) s48)))) ∧ (¬ 180224 ≤ l2 → ix l2 180224 ∧ ∀ s52 : st_S, s52 = sI σ 24 (Int.toNat l2) (o_nb (-1)) → ∀ x53 : Int, x53 = wr (l2 + 1) → (L_X11_swaps_6 Q n) l1 x53 s52)
def wp_X11_swaps (a1 : Int) (σ : st_S) (Q : Int → st_S → Prop) : Prop := wp_X11_looks σ (fun s56 => ∃ m6 : Nat, L_X11_swaps_6 Q m6 a1 0 s56)
set_option maxRecDepth 20000 in
theorem jl_X11_swaps_73 {X : jj_X} {E : ev_E} {n0 hN : Nat} (hc : Cx X E cX11_swaps 7 n0 hN RX11) (hm : eM E = 2) (hr : (xT X).sig.returnType = (some .int)) (hh : 145 ≤ hN) {Q : Int → st_S → Prop} {k61 : Int → Int → Int → Int → Int → st_S → Prop} (hk61 : ∀ {l1 : Int} {l2 : Int} {l3 : Int} {l4 : Int} {l5 : Int} (cl1 : wr l1 = l1) (cl2 : wr l2 = l2) (cl3 : wr l3 = l3) (cl4 : wr l4 = l4) (cl5 : wr l5 = l5) {σ : st_S}, k61 l1 l2 l3 l4 l5 σ → J X E 7 n0 0 0 (MQ (xB X) (qI E (n0 + 0) Q) (xA X) (xS X) 0 0 (eF E)) σ 61 [(0, vR E 0), (1, vI l1), (2, vI l2), (3, vI l3), (4, vI l4), (5, vI l5)] []) : ∀ (n : Nat) {l1 : Int} {l2 : Int} {l3 : Int} {l4 : Int} {l5 : Int} {l6 : Int} (cl1 : wr l1 = l1) (cl2 : wr l2 = l2) (cl3 : wr l3 = l3) (cl4 : wr l4 = l4) (cl5 : wr l5 = l5) (cl6 : wr l6 = l6) {σ : st_S}, L_X11_swaps_73 Q k61 n l1 l2 l3 l4 l5 l6 σ → J X E 7 n0 0 0 (MQ (xB X) (qI E (n0 + 0) Q) (xA X) (xS X) 0 0 (eF E)) σ 73 [(0, vR E 0), (1, vI l1), (2, vI l2), (3, vI l3), (4, vI l4), (5, vI l5), (6, vI l6)] [] := by
  have hh1 : 1 ≤ hN := by omega
  intro n
  induction n with
  | zero => intro l1 l2 l3 l4 l5 l6 cl1 cl2 cl3 cl4 cl5 cl6 σ h; exact h.elim
  | succ n ih =>
    intro l1 l2 l3 l4 l5 l6 cl1 cl2 cl3 cl4 cl5 cl6 σ h
    have hk73 : ∀ {l1 : Int} {l2 : Int} {l3 : Int} {l4 : Int} {l5 : Int} {l6 : Int} (cl1 : wr l1 = l1) (cl2 : wr l2 = l2) (cl3 : wr l3 = l3) (cl4 : wr l4 = l4) (cl5 : wr l5 = l5) (cl6 : wr l6 = l6) {σ : st_S}, L_X11_swaps_73 Q k61 n l1 l2 l3 l4 l5 l6 σ → J X E 7 n0 0 0 (MQ (xB X) (qI E (n0 + 0) Q) (xA X) (xS X) 0 0 (eF E)) σ 73 [(0, vR E 0), (1, vI l1), (2, vI l2), (3, vI l3), (4, vI l4), (5, vI l5), (6, vI l6)] [] := ih
    replace h : wp_X11_landsOf l6 σ (fun r31 s32 => wp_X11_turnsFrom 13 (wr (l5 + 1)) (o_or l3 l6) r31 s32 (fun r33 s34 => (wr ((l2 - l5) - 1) ≤ r33 → (¬ l5 = l1 → ∀ x35 : Int, x35 = o_or l3 l6 → wp_X11_landsOf l6 s34 (fun r36 s37 => ∀ x38 : Int, x38 = wr (l5 + 1) → k61 l1 l2 x35 r36 x38 s37)) ∧ (l5 = l1 → Q l6 s34)) ∧ (¬ wr ((l2 - l5) - 1) ≤ r33 → wp_X11_turnBehind l5 l3 l4 l6 s34 (fun r40 s41 => (L_X11_swaps_73 Q k61 n) l1 l2 l3 l4 l5 r40 s41)))) := h
    refine j_aload_nR hc 0 dX11_swaps_73 rfl rfl ?_
    refine j_iload hc 5 dX11_swaps_74 rfl ?_
    refine j_iconst hc dX11_swaps_76 ?_
    refine j_iadd hc dX11_swaps_77 ?_
    refine j_iload_n hc 3 dX11_swaps_78 rfl rfl ?_
    refine j_iload hc 6 dX11_swaps_79 rfl ?_
    refine j_ior hc dX11_swaps_81 ?_
    refine j_aload_nR hc 0 dX11_swaps_82 rfl rfl ?_
    refine j_iload hc 6 dX11_swaps_83 rfl ?_
    refine j_vI hc (k := 11) (by decide) (fun hv => Or.inl (sv_k hv hm rfl)) ml_RX11_398 mv_X11_landsOf (As := [vI l6]) (c_X11_landsOf (cx_E hc) hm cl6 h) rfl (by omega) (by decide) ⟨Nat.zero_le _, Nat.zero_le _⟩ (Nat.le_of_ble_eq_true rfl) rfl dX11_swaps_85 (fun r31 s32 cr31 h => ?_)
    refine j_vI hc (k := 11) (by decide) (fun hv => Or.inl (sv_k hv hm rfl)) ml_RX11_405 mv_X11_turnsFrom (As := [vI (wr (l5 + 1)), vI (o_or l3 l6), vI r31]) (c_X11_turnsFrom (cx_E hc) hm 13 (wr_wr _) (cn_or _ _) cr31 h) rfl (by omega) (by decide) ⟨Nat.zero_le _, Nat.zero_le _⟩ (Nat.le_of_ble_eq_true rfl) (by simp only [vI_wr, vL_wl]; rfl) dX11_swaps_88 (fun r33 s34 cr33 h => ?_)
    refine j_iload_n hc 2 dX11_swaps_91 rfl rfl ?_
    refine j_iload hc 5 dX11_swaps_92 rfl ?_
    refine j_isub hc dX11_swaps_94 ?_
    refine j_iconst hc dX11_swaps_95 ?_
    refine j_isub hc dX11_swaps_96 ?_
    refine j_ic_ge hc cr33 rfl (tgt := 116) dX11_swaps_97 (by decide) (fun q42 => ?_) (fun q42 => ?_)
    · replace h := h.1 q42
      refine j_iload hc 5 dX11_swaps_116 rfl ?_
      refine j_iload_n hc 1 dX11_swaps_118 rfl rfl ?_
      refine j_ic_ne hc cl5 cl1 (tgt := 125) dX11_swaps_119 (by decide) (fun q39 => ?_) (fun q39 => ?_)
      · replace h := h.1 q39
        refine j_iload_n hc 3 dX11_swaps_125 rfl rfl ?_
        refine j_iload hc 6 dX11_swaps_126 rfl ?_
        refine j_ior hc dX11_swaps_128 ?_
        refine j_c (cn_or _ _) (fun x35 ex35 cx35 => ?_)
        replace h := h x35 ex35
        refine j_istore_n (lv' := [(3, vI x35), (0, vR E 0), (1, vI l1), (2, vI l2), (4, vI l4), (5, vI l5), (6, vI l6)]) hc dX11_swaps_129 rfl (by decide) rfl ?_
        refine j_aload_nR hc 1 dX11_swaps_130 rfl rfl ?_
        refine j_iload hc 6 dX11_swaps_131 rfl ?_
        refine j_vI hc (k := 11) (by decide) (fun hv => Or.inl (sv_k hv hm rfl)) ml_RX11_398 mv_X11_landsOf (As := [vI l6]) (c_X11_landsOf (cx_E hc) hm cl6 h) rfl (by omega) (by decide) ⟨Nat.zero_le _, Nat.zero_le _⟩ (Nat.le_of_ble_eq_true rfl) rfl dX11_swaps_133 (fun r36 s37 cr36 h => ?_)
        refine j_istore (lv' := [(4, vI r36), (3, vI x35), (0, vR E 0), (1, vI l1), (2, vI l2), (5, vI l5), (6, vI l6)]) hc dX11_swaps_136 (by decide) rfl ?_
        obtain ⟨x38, ex38⟩ : ∃ y : Int, y = wr (l5 + 1) := ⟨_, rfl⟩
        have cx38 : wr x38 = x38 := by rw [ex38]; exact wr_wr _
        replace h := h x38 ex38
        refine j_iinc (lv' := [(5, vI x38), (4, vI r36), (3, vI x35), (0, vR E 0), (1, vI l1), (2, vI l2), (6, vI l6)]) hc 5 dX11_swaps_138 rfl (by decide) ex38 rfl ?_
        refine j_goto (tgt := 61) hc dX11_swaps_141 (by decide) ?_
        refine j_sub (lv' := [(0, vR E 0), (1, vI l1), (2, vI l2), (3, vI x35), (4, vI r36), (5, vI x38)]) [3, 4, 5, 2, 1, 0] rfl ?_
        exact hk61 cl1 cl2 cx35 cr36 cx38 h
      · replace h := h.2 q39
        refine j_iload hc 6 dX11_swaps_122 rfl ?_
        exact j_iret hc hr cl6 h dX11_swaps_124
    · replace h := h.2 q42
      refine j_aload_nR hc 0 dX11_swaps_100 rfl rfl ?_
      refine j_iload hc 5 dX11_swaps_101 rfl ?_
      refine j_iload_n hc 3 dX11_swaps_103 rfl rfl ?_
      refine j_iload hc 4 dX11_swaps_104 rfl ?_
      refine j_iload hc 6 dX11_swaps_106 rfl ?_
      refine j_vI hc (k := 11) (by decide) (fun hv => Or.inl (sv_k hv hm rfl)) ml_RX11_401 mv_X11_turnBehind (As := [vI l5, vI l3, vI l4, vI l6]) (c_X11_turnBehind (cx_E hc) hm cl5 cl3 cl4 cl6 h) rfl (by omega) (by decide) ⟨Nat.zero_le _, Nat.zero_le _⟩ (Nat.le_of_ble_eq_true rfl) rfl dX11_swaps_108 (fun r40 s41 cr40 h => ?_)
      refine j_istore (lv' := [(6, vI r40), (0, vR E 0), (1, vI l1), (2, vI l2), (3, vI l3), (4, vI l4), (5, vI l5)]) hc dX11_swaps_111 (by decide) rfl ?_
      refine j_goto (tgt := 73) hc dX11_swaps_113 (by decide) ?_
      refine j_sub (lv' := [(0, vR E 0), (1, vI l1), (2, vI l2), (3, vI l3), (4, vI l4), (5, vI l5), (6, vI r40)]) [1, 2, 3, 4, 5, 6, 0] rfl ?_
      exact hk73 cl1 cl2 cl3 cl4 cl5 cr40 h
set_option maxRecDepth 20000 in
theorem jl_X11_swaps_61 {X : jj_X} {E : ev_E} {n0 hN : Nat} (hc : Cx X E cX11_swaps 7 n0 hN RX11) (hm : eM E = 2) (hr : (xT X).sig.returnType = (some .int)) (hh : 145 ≤ hN) {Q : Int → st_S → Prop} : ∀ (n : Nat) {l1 : Int} {l2 : Int} {l3 : Int} {l4 : Int} {l5 : Int} (cl1 : wr l1 = l1) (cl2 : wr l2 = l2) (cl3 : wr l3 = l3) (cl4 : wr l4 = l4) (cl5 : wr l5 = l5) {σ : st_S}, L_X11_swaps_61 Q n l1 l2 l3 l4 l5 σ → J X E 7 n0 0 0 (MQ (xB X) (qI E (n0 + 0) Q) (xA X) (xS X) 0 0 (eF E)) σ 61 [(0, vR E 0), (1, vI l1), (2, vI l2), (3, vI l3), (4, vI l4), (5, vI l5)] [] := by
  have hh1 : 1 ≤ hN := by omega
  intro n
  induction n with
  | zero => intro l1 l2 l3 l4 l5 cl1 cl2 cl3 cl4 cl5 σ h; exact h.elim
  | succ n ih =>
    intro l1 l2 l3 l4 l5 cl1 cl2 cl3 cl4 cl5 σ h
    have hk61 : ∀ {l1 : Int} {l2 : Int} {l3 : Int} {l4 : Int} {l5 : Int} (cl1 : wr l1 = l1) (cl2 : wr l2 = l2) (cl3 : wr l3 = l3) (cl4 : wr l4 = l4) (cl5 : wr l5 = l5) {σ : st_S}, L_X11_swaps_61 Q n l1 l2 l3 l4 l5 σ → J X E 7 n0 0 0 (MQ (xB X) (qI E (n0 + 0) Q) (xA X) (xS X) 0 0 (eF E)) σ 61 [(0, vR E 0), (1, vI l1), (2, vI l2), (3, vI l3), (4, vI l4), (5, vI l5)] [] := ih
    replace h : wp_X11_turnBehind l5 l3 l4 0 σ (fun r43 s44 => ∃ m73 : Nat, L_X11_swaps_73 Q (L_X11_swaps_61 Q n) m73 l1 l2 l3 l4 l5 r43 s44) := h
    refine j_aload_nR hc 0 dX11_swaps_61 rfl rfl ?_
    refine j_iload hc 5 dX11_swaps_62 rfl ?_
    refine j_iload_n hc 3 dX11_swaps_64 rfl rfl ?_
    refine j_iload hc 4 dX11_swaps_65 rfl ?_
    refine j_iconst hc dX11_swaps_67 ?_
    refine j_vI hc (k := 11) (by decide) (fun hv => Or.inl (sv_k hv hm rfl)) ml_RX11_401 mv_X11_turnBehind (As := [vI l5, vI l3, vI l4, vI 0]) (c_X11_turnBehind (cx_E hc) hm cl5 cl3 cl4 (wlit 0 (by decide)) h) rfl (by omega) (by decide) ⟨Nat.zero_le _, Nat.zero_le _⟩ (Nat.le_of_ble_eq_true rfl) rfl dX11_swaps_68 (fun r43 s44 cr43 h => ?_)
    refine j_istore (lv' := [(6, vI r43), (0, vR E 0), (1, vI l1), (2, vI l2), (3, vI l3), (4, vI l4), (5, vI l5)]) hc dX11_swaps_71 (by decide) rfl ?_
    obtain ⟨n73, h⟩ := h
    refine j_sub (lv' := [(0, vR E 0), (1, vI l1), (2, vI l2), (3, vI l3), (4, vI l4), (5, vI l5), (6, vI r43)]) [1, 2, 3, 4, 5, 6, 0] rfl ?_
    exact jl_X11_swaps_73 hc hm hr hh hk61 n73 cl1 cl2 cl3 cl4 cl5 cr43 h
set_option maxRecDepth 20000 in
theorem jl_X11_swaps_6 {X : jj_X} {E : ev_E} {n0 hN : Nat} (hc : Cx X E cX11_swaps 7 n0 hN RX11) (hm : eM E = 2) (hr : (xT X).sig.returnType = (some .int)) (hh : 145 ≤ hN) {Q : Int → st_S → Prop} : ∀ (n : Nat) {l1 : Int} {l2 : Int} (cl1 : wr l1 = l1) (cl2 : wr l2 = l2) {σ : st_S}, L_X11_swaps_6 Q n l1 l2 σ → J X E 7 n0 0 0 (MQ (xB X) (qI E (n0 + 0) Q) (xA X) (xS X) 0 0 (eF E)) σ 6 [(0, vR E 0), (1, vI l1), (2, vI l2)] [] := by
  have hh1 : 1 ≤ hN := by omega
  intro n
  induction n with
  | zero => intro l1 l2 cl1 cl2 σ h; exact h.elim
  | succ n ih =>
    intro l1 l2 cl1 cl2 σ h
    have hk6 : ∀ {l1 : Int} {l2 : Int} (cl1 : wr l1 = l1) (cl2 : wr l2 = l2) {σ : st_S}, L_X11_swaps_6 Q n l1 l2 σ → J X E 7 n0 0 0 (MQ (xB X) (qI E (n0 + 0) Q) (xA X) (xS X) 0 0 (eF E)) σ 6 [(0, vR E 0), (1, vI l1), (2, vI l2)] [] := ih
    replace h : (180224 ≤ l2 → wp_X11_turnsFrom 13 0 0 0 σ (fun r45 s46 => wp_X11_lies l1 (-1) (wr (r45 - 1)) s46 (fun r47 s48 => (¬ r47 = 0 → (¬ l1 = (-1) → ∃ m61 : Nat, L_X11_swaps_61 Q m61 l1 r45 0 0 0 s48) ∧ (l1 = (-1) → Q r45 s48)) ∧ (r47 = 0 → Q (-1) s48)))) ∧ (¬ 180224 ≤ l2 → ix l2 180224 ∧ ∀ s52 : st_S, s52 = sI σ 24 (Int.toNat l2) (o_nb (-1)) → ∀ x53 : Int, x53 = wr (l2 + 1) → (L_X11_swaps_6 Q n) l1 x53 s52) := h
    refine j_iload_n hc 2 dX11_swaps_6 rfl rfl ?_
    refine j_ldc (x := 180224) hc (by decide) kc_RX11_96 dX11_swaps_7 ?_
    refine j_ic_ge hc cl2 (wlit 180224 (by decide)) (tgt := 25) dX11_swaps_9 (by decide) (fun q54 => ?_) (fun q54 => ?_)
    · replace h := h.1 q54
      refine j_aload_nR hc 0 dX11_swaps_25 rfl rfl ?_
      refine j_iconst hc dX11_swaps_26 ?_
      refine j_iconst hc dX11_swaps_27 ?_
      refine j_iconst hc dX11_swaps_28 ?_
      refine j_vI hc (k := 11) (by decide) (fun hv => Or.inl (sv_k hv hm rfl)) ml_RX11_405 mv_X11_turnsFrom (As := [vI 0, vI 0, vI 0]) (c_X11_turnsFrom (cx_E hc) hm 13 (wlit 0 (by decide)) (wlit 0 (by decide)) (wlit 0 (by decide)) h) rfl (by omega) (by decide) ⟨Nat.zero_le _, Nat.zero_le _⟩ (Nat.le_of_ble_eq_true rfl) rfl dX11_swaps_29 (fun r45 s46 cr45 h => ?_)
      refine j_istore_n (lv' := [(2, vI r45), (0, vR E 0), (1, vI l1)]) hc dX11_swaps_32 rfl (by decide) rfl ?_
      refine j_iload_n hc 2 dX11_swaps_33 rfl rfl ?_
      refine j_iconst hc dX11_swaps_34 ?_
      refine j_iload_n hc 0 dX11_swaps_35 rfl rfl ?_
      refine j_iconst hc dX11_swaps_36 ?_
      refine j_isub hc dX11_swaps_37 ?_
      refine j_sI hc ml_RX11_106 mv_X11_lies (As := [vI l1, vI (-1), vI (wr (r45 - 1))]) (c_X11_lies (cx_E hc) hm cl1 (wlit (-1) (by decide)) (wr_wr _) h) rfl (by omega) (by decide) ⟨Nat.zero_le _, Nat.zero_le _⟩ (Nat.le_of_ble_eq_true rfl) (by simp only [vI_wr, vL_wl]; rfl) dX11_swaps_38 (fun r47 s48 cr47 h => ?_)
      refine j_if_ne hc cr47 (tgt := 46) dX11_swaps_41 (by decide) (fun q50 => ?_) (fun q50 => ?_)
      · replace h := h.1 q50
        refine j_iload_n hc 2 dX11_swaps_46 rfl rfl ?_
        refine j_iconst hc dX11_swaps_47 ?_
        refine j_ic_ne hc cl1 (wlit (-1) (by decide)) (tgt := 53) dX11_swaps_48 (by decide) (fun q49 => ?_) (fun q49 => ?_)
        · replace h := h.1 q49
          refine j_iconst hc dX11_swaps_53 ?_
          refine j_istore_n (lv' := [(3, vI 0), (2, vI r45), (0, vR E 0), (1, vI l1)]) hc dX11_swaps_54 rfl (by decide) rfl ?_
          refine j_iconst hc dX11_swaps_55 ?_
          refine j_istore (lv' := [(4, vI 0), (3, vI 0), (2, vI r45), (0, vR E 0), (1, vI l1)]) hc dX11_swaps_56 (by decide) rfl ?_
          refine j_iconst hc dX11_swaps_58 ?_
          refine j_istore (lv' := [(5, vI 0), (4, vI 0), (3, vI 0), (2, vI r45), (0, vR E 0), (1, vI l1)]) hc dX11_swaps_59 (by decide) rfl ?_
          obtain ⟨n61, h⟩ := h
          refine j_sub (lv' := [(0, vR E 0), (1, vI l1), (2, vI r45), (3, vI 0), (4, vI 0), (5, vI 0)]) [4, 5, 3, 2, 1, 0] rfl ?_
          exact jl_X11_swaps_61 hc hm hr hh n61 cl1 cr45 (wlit 0 (by decide)) (wlit 0 (by decide)) (wlit 0 (by decide)) h
        · replace h := h.2 q49
          refine j_iload_n hc 0 dX11_swaps_51 rfl rfl ?_
          exact j_iret hc hr cr45 h dX11_swaps_52
      · replace h := h.2 q50
        refine j_iconst hc dX11_swaps_44 ?_
        exact j_iret hc hr (wlit (-1) (by decide)) h dX11_swaps_45
    · replace h := h.2 q54
      refine j_aload_nR hc 0 dX11_swaps_12 rfl rfl ?_
      refine j_getR (c' := 24) hc fl_RX11_97 rfl rfl (fun hv => (sv_k hv hm rfl)) dX11_swaps_13 ?_
      refine j_iload_n hc 2 dX11_swaps_16 rfl rfl ?_
      refine j_iconst hc dX11_swaps_17 ?_
      obtain ⟨b51, h⟩ := h
      refine j_bast (jn := (Int.toNat l2)) hc (fun hv => sv_kl hv hm rfl) cl2 b51 rfl dX11_swaps_18 (fun s52 es52 => ?_)
      replace h := h s52 es52
      obtain ⟨x53, ex53⟩ : ∃ y : Int, y = wr (l2 + 1) := ⟨_, rfl⟩
      have cx53 : wr x53 = x53 := by rw [ex53]; exact wr_wr _
      replace h := h x53 ex53
      refine j_iinc (lv' := [(2, vI x53), (0, vR E 0), (1, vI l1)]) hc 2 dX11_swaps_19 rfl (by decide) ex53 rfl ?_
      refine j_goto (tgt := 6) hc dX11_swaps_22 (by decide) ?_
      refine j_sub (lv' := [(0, vR E 0), (1, vI l1), (2, vI x53)]) [1, 2, 0] rfl ?_
      exact hk6 cl1 cx53 h
set_option maxRecDepth 20000 in
theorem c_X11_swaps {l : Launch} {E : ev_E} (hE : Eok E) (hm : eM E = 2) {a1 : Int} (ca1 : wr a1 = a1) {σ : st_S} {Q : Int → st_S → Prop} (h : wp_X11_swaps a1 σ Q) : cM l yX11_swaps cX11_swaps 7 (some .int) E 145 0 0 [vR E 0, vI a1] σ (qI E (gN σ + 0) Q) := by
  refine cM_of (lv := [(0, vR E 0), (1, vI a1)]) (by decide) hE (Nat.le_of_ble_eq_true rfl) (rfl) ?_
  intro X hX hc _ _ hr _ _
  subst hX
  have hh : 145 ≤ 145 := Nat.le_refl _
  have hh1 : 1 ≤ 145 := by omega
  replace h : wp_X11_looks σ (fun s56 => ∃ m6 : Nat, L_X11_swaps_6 Q m6 a1 0 s56) := h
  refine j_aload_nR hc 0 dX11_swaps_0 rfl rfl ?_
  refine j_vV hc (k := 11) (by decide) (fun hv => Or.inl (sv_k hv hm rfl)) ml_RX11_385 mv_X11_looks (As := []) (c_X11_looks (cx_E hc) hm  h) rfl (by omega) (by decide) ⟨Nat.zero_le _, Nat.zero_le _⟩ (Nat.le_of_ble_eq_true rfl) rfl dX11_swaps_1 (fun s56 h => ?_)
  refine j_iconst hc dX11_swaps_4 ?_
  refine j_istore_n (lv' := [(2, vI 0), (0, vR E 0), (1, vI a1)]) hc dX11_swaps_5 rfl (by decide) rfl ?_
  obtain ⟨n6, h⟩ := h
  refine j_sub (lv' := [(0, vR E 0), (1, vI a1), (2, vI 0)]) [1, 2, 0] rfl ?_
  exact jl_X11_swaps_6 hc hm hr hh n6 ca1 (wlit 0 (by decide)) h
-- LitStrangersModel.crews(I)I
theorem dX11_crews_0 : decode cX11_crews 0 = .ok (.iload_n 1, 1) := by decide +kernel
theorem dX11_crews_1 : decode cX11_crews 1 = .ok (.iconst (-1), 1) := by decide +kernel
theorem dX11_crews_2 : decode cX11_crews 2 = .ok (.if_icmp .ge 5, 3) := by decide +kernel
theorem dX11_crews_5 : decode cX11_crews 5 = .ok (.iconst (-1), 1) := by decide +kernel
theorem dX11_crews_6 : decode cX11_crews 6 = .ok (.ireturn, 1) := by decide +kernel
theorem dX11_crews_7 : decode cX11_crews 7 = .ok (.aload_n 0, 1) := by decide +kernel
theorem dX11_crews_8 : decode cX11_crews 8 = .ok (.aload_n 0, 1) := by decide +kernel
theorem dX11_crews_9 : decode cX11_crews 9 = .ok (.getfield 24, 3) := by decide +kernel
theorem dX11_crews_12 : decode cX11_crews 12 = .ok (.bipush 33, 2) := by decide +kernel
theorem dX11_crews_14 : decode cX11_crews 14 = .ok (.iaload, 1) := by decide +kernel
theorem dX11_crews_15 : decode cX11_crews 15 = .ok (.invokevirtual 292, 3) := by decide +kernel
theorem dX11_crews_18 : decode cX11_crews 18 = .ok (.invokestatic 331, 3) := by decide +kernel
theorem dX11_crews_21 : decode cX11_crews 21 = .ok (.istore_n 2, 1) := by decide +kernel
theorem dX11_crews_22 : decode cX11_crews 22 = .ok (.iconst 0, 1) := by decide +kernel
theorem dX11_crews_23 : decode cX11_crews 23 = .ok (.istore_n 3, 1) := by decide +kernel
theorem dX11_crews_24 : decode cX11_crews 24 = .ok (.iload_n 3, 1) := by decide +kernel
theorem dX11_crews_25 : decode cX11_crews 25 = .ok (.bipush 10, 2) := by decide +kernel
theorem dX11_crews_27 : decode cX11_crews 27 = .ok (.if_icmp .ge 40, 3) := by decide +kernel
theorem dX11_crews_30 : decode cX11_crews 30 = .ok (.aload_n 0, 1) := by decide +kernel
theorem dX11_crews_31 : decode cX11_crews 31 = .ok (.getfield 77, 3) := by decide +kernel
theorem dX11_crews_34 : decode cX11_crews 34 = .ok (.iload_n 3, 1) := by decide +kernel
theorem dX11_crews_35 : decode cX11_crews 35 = .ok (.aload_n 0, 1) := by decide +kernel
theorem dX11_crews_36 : decode cX11_crews 36 = .ok (.iload_n 3, 1) := by decide +kernel
theorem dX11_crews_37 : decode cX11_crews 37 = .ok (.invokevirtual 128, 3) := by decide +kernel
theorem dX11_crews_40 : decode cX11_crews 40 = .ok (.ifCond .eq 19, 3) := by decide +kernel
theorem dX11_crews_43 : decode cX11_crews 43 = .ok (.aload_n 0, 1) := by decide +kernel
theorem dX11_crews_44 : decode cX11_crews 44 = .ok (.iload_n 3, 1) := by decide +kernel
theorem dX11_crews_45 : decode cX11_crews 45 = .ok (.invokevirtual 328, 3) := by decide +kernel
theorem dX11_crews_48 : decode cX11_crews 48 = .ok (.ifCond .eq 11, 3) := by decide +kernel
theorem dX11_crews_51 : decode cX11_crews 51 = .ok (.aload_n 0, 1) := by decide +kernel
theorem dX11_crews_52 : decode cX11_crews 52 = .ok (.iload_n 3, 1) := by decide +kernel
theorem dX11_crews_53 : decode cX11_crews 53 = .ok (.invokevirtual 138, 3) := by decide +kernel
theorem dX11_crews_56 : decode cX11_crews 56 = .ok (.goto 4, 3) := by decide +kernel
theorem dX11_crews_59 : decode cX11_crews 59 = .ok (.iconst 0, 1) := by decide +kernel
theorem dX11_crews_60 : decode cX11_crews 60 = .ok (.iastore, 1) := by decide +kernel
theorem dX11_crews_61 : decode cX11_crews 61 = .ok (.iinc 3 1, 3) := by decide +kernel
theorem dX11_crews_64 : decode cX11_crews 64 = .ok (.goto (-40), 3) := by decide +kernel
theorem dX11_crews_67 : decode cX11_crews 67 = .ok (.iconst 0, 1) := by decide +kernel
theorem dX11_crews_68 : decode cX11_crews 68 = .ok (.istore_n 3, 1) := by decide +kernel
theorem dX11_crews_69 : decode cX11_crews 69 = .ok (.aload_n 0, 1) := by decide +kernel
theorem dX11_crews_70 : decode cX11_crews 70 = .ok (.iconst 0, 1) := by decide +kernel
theorem dX11_crews_71 : decode cX11_crews 71 = .ok (.iload_n 2, 1) := by decide +kernel
theorem dX11_crews_72 : decode cX11_crews 72 = .ok (.invokevirtual 376, 3) := by decide +kernel
theorem dX11_crews_75 : decode cX11_crews 75 = .ok (.istore 4, 2) := by decide +kernel
theorem dX11_crews_77 : decode cX11_crews 77 = .ok (.iload 4, 2) := by decide +kernel
theorem dX11_crews_79 : decode cX11_crews 79 = .ok (.iconst (-1), 1) := by decide +kernel
theorem dX11_crews_80 : decode cX11_crews 80 = .ok (.if_icmp .eq 26, 3) := by decide +kernel
theorem dX11_crews_83 : decode cX11_crews 83 = .ok (.iload_n 3, 1) := by decide +kernel
theorem dX11_crews_84 : decode cX11_crews 84 = .ok (.iload_n 1, 1) := by decide +kernel
theorem dX11_crews_85 : decode cX11_crews 85 = .ok (.if_icmp .ne 6, 3) := by decide +kernel
theorem dX11_crews_88 : decode cX11_crews 88 = .ok (.iload 4, 2) := by decide +kernel
theorem dX11_crews_90 : decode cX11_crews 90 = .ok (.ireturn, 1) := by decide +kernel
theorem dX11_crews_91 : decode cX11_crews 91 = .ok (.iinc 3 1, 3) := by decide +kernel
theorem dX11_crews_94 : decode cX11_crews 94 = .ok (.aload_n 0, 1) := by decide +kernel
theorem dX11_crews_95 : decode cX11_crews 95 = .ok (.iload 4, 2) := by decide +kernel
theorem dX11_crews_97 : decode cX11_crews 97 = .ok (.iload_n 2, 1) := by decide +kernel
theorem dX11_crews_98 : decode cX11_crews 98 = .ok (.invokevirtual 376, 3) := by decide +kernel
theorem dX11_crews_101 : decode cX11_crews 101 = .ok (.istore 4, 2) := by decide +kernel
theorem dX11_crews_103 : decode cX11_crews 103 = .ok (.goto (-26), 3) := by decide +kernel
theorem dX11_crews_106 : decode cX11_crews 106 = .ok (.iload_n 1, 1) := by decide +kernel
theorem dX11_crews_107 : decode cX11_crews 107 = .ok (.iconst (-1), 1) := by decide +kernel
theorem dX11_crews_108 : decode cX11_crews 108 = .ok (.if_icmp .ne 7, 3) := by decide +kernel
theorem dX11_crews_111 : decode cX11_crews 111 = .ok (.iload_n 3, 1) := by decide +kernel
theorem dX11_crews_112 : decode cX11_crews 112 = .ok (.goto 4, 3) := by decide +kernel
theorem dX11_crews_115 : decode cX11_crews 115 = .ok (.iconst (-1), 1) := by decide +kernel
theorem dX11_crews_116 : decode cX11_crews 116 = .ok (.ireturn, 1) := by decide +kernel
def B_X11_crews_60 (Q : Int → st_S → Prop)  (k24 : Int → Int → Int → st_S → Prop) (l1 : Int) (l2 : Int) (l3 : Int) (v0 : Int) (v1 : Int) (σ : st_S) : Prop := ix (wr v1) 10 ∧ ∀ s28 : st_S, s28 = sI σ 18 (Int.toNat (wr v1)) v0 → ∀ x29 : Int, x29 = wr (l3 + 1) → k24 l1 l2 x29 s28
def B_X11_crews_59 (Q : Int → st_S → Prop)  (k24 : Int → Int → Int → st_S → Prop) (l1 : Int) (l2 : Int) (l3 : Int) (v0 : Int) (σ : st_S) : Prop := B_X11_crews_60 Q k24 l1 l2 l3 0 v0 σ
def B_X11_crews_116 (Q : Int → st_S → Prop)   (v0 : Int) (σ : st_S) : Prop := Q v0 σ
def L_X11_crews_77 (Q : Int → st_S → Prop)   : Nat → Int → Int → Int → Int → st_S → Prop
  | 0 => fun _ _ _ _ _ => False
  | n + 1 => fun l1 l2 l3 l4 σ => (l4 = (-1) → (¬ l1 = (-1) → B_X11_crews_116 Q (-1) σ) ∧ (l1 = (-1) → B_X11_crews_116 Q l3 σ)) ∧ (¬ l4 = (-1) → (¬ l3 = l1 → ∀ x31 : Int, x31 = wr (l3 + 1) → wp_X11_crewBehind l4 l2 σ (fun r32 s33 => (L_X11_crews_77 Q n) l1 l2 x31 r32 s33)) ∧ (l3 = l1 → Q l4 σ))
def L_X11_crews_24 (Q : Int → st_S → Prop)   : Nat → Int → Int → Int → st_S → Prop
  | 0 => fun _ _ _ _ => False
  | n + 1 => fun l1 l2 l3 σ => (10 ≤ l3 → wp_X11_crewBehind 0 l2 σ (fun r36 s37 => ∃ m77 : Nat, L_X11_crews_77 Q m77 l1 l2 0 r36 s37)) ∧ (¬ 10 ≤ l3 → wp_X11_isPerson l3 σ (fun r38 s39 => (r38 = 0 → B_X11_crews_59 Q (L_X11_crews_24 Q n) l1 l2 l3 l3 s39) ∧ (¬ r38 = 0 → wp_X11_mayLight l3 s39 (fun r40 s41 => (r40 = 0 → B_X11_crews_59 Q (L_X11_crews_24 Q n) l1 l2 l3 l3 s41) ∧ (¬ r40 = 0 → wp_X11_worthOf l3 s41 (fun r42 s43 => B_X11_crews_60 Q (L_X11_crews_24 Q n) l1 l2 l3 r42 l3 s43))))))
def wp_X11_crews (a1 : Int) (σ : st_S) (Q : Int → st_S → Prop) : Prop := ((-1) ≤ a1 → wp_X11_fogOn (gI σ 2 33) σ (fun r48 s49 => wp_X11_needOn r48 s49 (fun r50 s51 => ∃ m24 : Nat, L_X11_crews_24 Q m24 a1 r50 0 s51))) ∧ (¬ (-1) ≤ a1 → Q (-1) σ)
set_option maxRecDepth 20000 in
theorem jb_X11_crews_60 {X : jj_X} {E : ev_E} {n0 hN : Nat} (hc : Cx X E cX11_crews 5 n0 hN RX11) (hm : eM E = 2) (hr : (xT X).sig.returnType = (some .int)) (hh : 128 ≤ hN) {Q : Int → st_S → Prop} {k24 : Int → Int → Int → st_S → Prop} (hk24 : ∀ {l1 : Int} {l2 : Int} {l3 : Int} (cl1 : wr l1 = l1) (cl2 : wr l2 = l2) (cl3 : wr l3 = l3) {σ : st_S}, k24 l1 l2 l3 σ → J X E 5 n0 0 0 (MQ (xB X) (qI E (n0 + 0) Q) (xA X) (xS X) 0 0 (eF E)) σ 24 [(0, vR E 0), (1, vI l1), (2, vI l2), (3, vI l3)] []) {l1 : Int} {l2 : Int} {l3 : Int} {v0 : Int} {v1 : Int} (cl1 : wr l1 = l1) (cl2 : wr l2 = l2) (cl3 : wr l3 = l3) (cv0 : wr v0 = v0) {σ : st_S} (h : B_X11_crews_60 Q k24 l1 l2 l3 v0 v1 σ) : J X E 5 n0 0 0 (MQ (xB X) (qI E (n0 + 0) Q) (xA X) (xS X) 0 0 (eF E)) σ 60 [(0, vR E 0), (1, vI l1), (2, vI l2), (3, vI l3)] [vI v0, vI v1, vR E 18] := by
  have hh1 : 1 ≤ hN := by omega
  replace h : ix (wr v1) 10 ∧ ∀ s28 : st_S, s28 = sI σ 18 (Int.toNat (wr v1)) v0 → ∀ x29 : Int, x29 = wr (l3 + 1) → k24 l1 l2 x29 s28 := h
  obtain ⟨b27, h⟩ := h
  refine j_iast (jn := (Int.toNat (wr v1))) hc (fun hv => sv_kl hv hm rfl) rfl b27 rfl cv0 dX11_crews_60 (fun s28 es28 => ?_)
  replace h := h s28 es28
  obtain ⟨x29, ex29⟩ : ∃ y : Int, y = wr (l3 + 1) := ⟨_, rfl⟩
  have cx29 : wr x29 = x29 := by rw [ex29]; exact wr_wr _
  replace h := h x29 ex29
  refine j_iinc (lv' := [(3, vI x29), (0, vR E 0), (1, vI l1), (2, vI l2)]) hc 3 dX11_crews_61 rfl (by decide) ex29 rfl ?_
  refine j_goto (tgt := 24) hc dX11_crews_64 (by decide) ?_
  refine j_sub (lv' := [(0, vR E 0), (1, vI l1), (2, vI l2), (3, vI x29)]) [1, 2, 3, 0] rfl ?_
  exact hk24 cl1 cl2 cx29 h
set_option maxRecDepth 20000 in
theorem jb_X11_crews_59 {X : jj_X} {E : ev_E} {n0 hN : Nat} (hc : Cx X E cX11_crews 5 n0 hN RX11) (hm : eM E = 2) (hr : (xT X).sig.returnType = (some .int)) (hh : 128 ≤ hN) {Q : Int → st_S → Prop} {k24 : Int → Int → Int → st_S → Prop} (hk24 : ∀ {l1 : Int} {l2 : Int} {l3 : Int} (cl1 : wr l1 = l1) (cl2 : wr l2 = l2) (cl3 : wr l3 = l3) {σ : st_S}, k24 l1 l2 l3 σ → J X E 5 n0 0 0 (MQ (xB X) (qI E (n0 + 0) Q) (xA X) (xS X) 0 0 (eF E)) σ 24 [(0, vR E 0), (1, vI l1), (2, vI l2), (3, vI l3)] []) {l1 : Int} {l2 : Int} {l3 : Int} {v0 : Int} (cl1 : wr l1 = l1) (cl2 : wr l2 = l2) (cl3 : wr l3 = l3) (cv0 : wr v0 = v0) {σ : st_S} (h : B_X11_crews_59 Q k24 l1 l2 l3 v0 σ) : J X E 5 n0 0 0 (MQ (xB X) (qI E (n0 + 0) Q) (xA X) (xS X) 0 0 (eF E)) σ 59 [(0, vR E 0), (1, vI l1), (2, vI l2), (3, vI l3)] [vI v0, vR E 18] := by
  have hh1 : 1 ≤ hN := by omega
  replace h : B_X11_crews_60 Q k24 l1 l2 l3 0 v0 σ := h
  refine j_iconst hc dX11_crews_59 ?_
  refine j_sub (lv' := [(0, vR E 0), (1, vI l1), (2, vI l2), (3, vI l3)]) [0, 1, 2, 3] rfl ?_
  exact jb_X11_crews_60 hc hm hr hh hk24 cl1 cl2 cl3 (wlit 0 (by decide)) h
set_option maxRecDepth 20000 in
theorem jb_X11_crews_116 {X : jj_X} {E : ev_E} {n0 hN : Nat} (hc : Cx X E cX11_crews 5 n0 hN RX11) (hm : eM E = 2) (hr : (xT X).sig.returnType = (some .int)) (hh : 128 ≤ hN) {Q : Int → st_S → Prop} {v0 : Int} (cv0 : wr v0 = v0) {σ : st_S} (h : B_X11_crews_116 Q v0 σ) : J X E 5 n0 0 0 (MQ (xB X) (qI E (n0 + 0) Q) (xA X) (xS X) 0 0 (eF E)) σ 116 [] [vI v0] := by
  have hh1 : 1 ≤ hN := by omega
  replace h : Q v0 σ := h
  exact j_iret hc hr cv0 h dX11_crews_116
set_option maxRecDepth 20000 in
theorem jl_X11_crews_77 {X : jj_X} {E : ev_E} {n0 hN : Nat} (hc : Cx X E cX11_crews 5 n0 hN RX11) (hm : eM E = 2) (hr : (xT X).sig.returnType = (some .int)) (hh : 128 ≤ hN) {Q : Int → st_S → Prop} : ∀ (n : Nat) {l1 : Int} {l2 : Int} {l3 : Int} {l4 : Int} (cl1 : wr l1 = l1) (cl2 : wr l2 = l2) (cl3 : wr l3 = l3) (cl4 : wr l4 = l4) {σ : st_S}, L_X11_crews_77 Q n l1 l2 l3 l4 σ → J X E 5 n0 0 0 (MQ (xB X) (qI E (n0 + 0) Q) (xA X) (xS X) 0 0 (eF E)) σ 77 [(0, vR E 0), (1, vI l1), (2, vI l2), (3, vI l3), (4, vI l4)] [] := by
  have hh1 : 1 ≤ hN := by omega
  intro n
  induction n with
  | zero => intro l1 l2 l3 l4 cl1 cl2 cl3 cl4 σ h; exact h.elim
  | succ n ih =>
    intro l1 l2 l3 l4 cl1 cl2 cl3 cl4 σ h
    have hk77 : ∀ {l1 : Int} {l2 : Int} {l3 : Int} {l4 : Int} (cl1 : wr l1 = l1) (cl2 : wr l2 = l2) (cl3 : wr l3 = l3) (cl4 : wr l4 = l4) {σ : st_S}, L_X11_crews_77 Q n l1 l2 l3 l4 σ → J X E 5 n0 0 0 (MQ (xB X) (qI E (n0 + 0) Q) (xA X) (xS X) 0 0 (eF E)) σ 77 [(0, vR E 0), (1, vI l1), (2, vI l2), (3, vI l3), (4, vI l4)] [] := ih
    replace h : (l4 = (-1) → (¬ l1 = (-1) → B_X11_crews_116 Q (-1) σ) ∧ (l1 = (-1) → B_X11_crews_116 Q l3 σ)) ∧ (¬ l4 = (-1) → (¬ l3 = l1 → ∀ x31 : Int, x31 = wr (l3 + 1) → wp_X11_crewBehind l4 l2 σ (fun r32 s33 => (L_X11_crews_77 Q n) l1 l2 x31 r32 s33)) ∧ (l3 = l1 → Q l4 σ)) := h
    refine j_iload hc 4 dX11_crews_77 rfl ?_
    refine j_iconst hc dX11_crews_79 ?_
    refine j_ic_eq hc cl4 (wlit (-1) (by decide)) (tgt := 106) dX11_crews_80 (by decide) (fun q35 => ?_) (fun q35 => ?_)
    · replace h := h.1 q35
      refine j_iload_n hc 1 dX11_crews_106 rfl rfl ?_
      refine j_iconst hc dX11_crews_107 ?_
      refine j_ic_ne hc cl1 (wlit (-1) (by decide)) (tgt := 115) dX11_crews_108 (by decide) (fun q30 => ?_) (fun q30 => ?_)
      · replace h := h.1 q30
        refine j_iconst hc dX11_crews_115 ?_
        refine j_sub (lv' := []) [] rfl ?_
        exact jb_X11_crews_116 hc hm hr hh (wlit (-1) (by decide)) h
      · replace h := h.2 q30
        refine j_iload_n hc 3 dX11_crews_111 rfl rfl ?_
        refine j_goto (tgt := 116) hc dX11_crews_112 (by decide) ?_
        refine j_sub (lv' := []) [] rfl ?_
        exact jb_X11_crews_116 hc hm hr hh cl3 h
    · replace h := h.2 q35
      refine j_iload_n hc 3 dX11_crews_83 rfl rfl ?_
      refine j_iload_n hc 1 dX11_crews_84 rfl rfl ?_
      refine j_ic_ne hc cl3 cl1 (tgt := 91) dX11_crews_85 (by decide) (fun q34 => ?_) (fun q34 => ?_)
      · replace h := h.1 q34
        obtain ⟨x31, ex31⟩ : ∃ y : Int, y = wr (l3 + 1) := ⟨_, rfl⟩
        have cx31 : wr x31 = x31 := by rw [ex31]; exact wr_wr _
        replace h := h x31 ex31
        refine j_iinc (lv' := [(3, vI x31), (0, vR E 0), (1, vI l1), (2, vI l2), (4, vI l4)]) hc 3 dX11_crews_91 rfl (by decide) ex31 rfl ?_
        refine j_aload_nR hc 1 dX11_crews_94 rfl rfl ?_
        refine j_iload hc 4 dX11_crews_95 rfl ?_
        refine j_iload_n hc 3 dX11_crews_97 rfl rfl ?_
        refine j_vI hc (k := 11) (by decide) (fun hv => Or.inl (sv_k hv hm rfl)) ml_RX11_376 mv_X11_crewBehind (As := [vI l4, vI l2]) (c_X11_crewBehind (cx_E hc) hm cl4 cl2 h) rfl (by omega) (by decide) ⟨Nat.zero_le _, Nat.zero_le _⟩ (Nat.le_of_ble_eq_true rfl) rfl dX11_crews_98 (fun r32 s33 cr32 h => ?_)
        refine j_istore (lv' := [(4, vI r32), (3, vI x31), (0, vR E 0), (1, vI l1), (2, vI l2)]) hc dX11_crews_101 (by decide) rfl ?_
        refine j_goto (tgt := 77) hc dX11_crews_103 (by decide) ?_
        refine j_sub (lv' := [(0, vR E 0), (1, vI l1), (2, vI l2), (3, vI x31), (4, vI r32)]) [2, 3, 4, 1, 0] rfl ?_
        exact hk77 cl1 cl2 cx31 cr32 h
      · replace h := h.2 q34
        refine j_iload hc 4 dX11_crews_88 rfl ?_
        exact j_iret hc hr cl4 h dX11_crews_90
set_option maxRecDepth 20000 in
theorem jl_X11_crews_24 {X : jj_X} {E : ev_E} {n0 hN : Nat} (hc : Cx X E cX11_crews 5 n0 hN RX11) (hm : eM E = 2) (hr : (xT X).sig.returnType = (some .int)) (hh : 128 ≤ hN) {Q : Int → st_S → Prop} : ∀ (n : Nat) {l1 : Int} {l2 : Int} {l3 : Int} (cl1 : wr l1 = l1) (cl2 : wr l2 = l2) (cl3 : wr l3 = l3) {σ : st_S}, L_X11_crews_24 Q n l1 l2 l3 σ → J X E 5 n0 0 0 (MQ (xB X) (qI E (n0 + 0) Q) (xA X) (xS X) 0 0 (eF E)) σ 24 [(0, vR E 0), (1, vI l1), (2, vI l2), (3, vI l3)] [] := by
  have hh1 : 1 ≤ hN := by omega
  intro n
  induction n with
  | zero => intro l1 l2 l3 cl1 cl2 cl3 σ h; exact h.elim
  | succ n ih =>
    intro l1 l2 l3 cl1 cl2 cl3 σ h
    have hk24 : ∀ {l1 : Int} {l2 : Int} {l3 : Int} (cl1 : wr l1 = l1) (cl2 : wr l2 = l2) (cl3 : wr l3 = l3) {σ : st_S}, L_X11_crews_24 Q n l1 l2 l3 σ → J X E 5 n0 0 0 (MQ (xB X) (qI E (n0 + 0) Q) (xA X) (xS X) 0 0 (eF E)) σ 24 [(0, vR E 0), (1, vI l1), (2, vI l2), (3, vI l3)] [] := ih
    replace h : (10 ≤ l3 → wp_X11_crewBehind 0 l2 σ (fun r36 s37 => ∃ m77 : Nat, L_X11_crews_77 Q m77 l1 l2 0 r36 s37)) ∧ (¬ 10 ≤ l3 → wp_X11_isPerson l3 σ (fun r38 s39 => (r38 = 0 → B_X11_crews_59 Q (L_X11_crews_24 Q n) l1 l2 l3 l3 s39) ∧ (¬ r38 = 0 → wp_X11_mayLight l3 s39 (fun r40 s41 => (r40 = 0 → B_X11_crews_59 Q (L_X11_crews_24 Q n) l1 l2 l3 l3 s41) ∧ (¬ r40 = 0 → wp_X11_worthOf l3 s41 (fun r42 s43 => B_X11_crews_60 Q (L_X11_crews_24 Q n) l1 l2 l3 r42 l3 s43)))))) := h
    refine j_iload_n hc 3 dX11_crews_24 rfl rfl ?_
    refine j_bipush hc dX11_crews_25 (by decide) ?_
    refine j_ic_ge hc cl3 (wlit 10 (by decide)) (tgt := 67) dX11_crews_27 (by decide) (fun q46 => ?_) (fun q46 => ?_)
    · replace h := h.1 q46
      refine j_iconst hc dX11_crews_67 ?_
      refine j_istore_n (lv' := [(3, vI 0), (0, vR E 0), (1, vI l1), (2, vI l2)]) hc dX11_crews_68 rfl (by decide) rfl ?_
      refine j_aload_nR hc 1 dX11_crews_69 rfl rfl ?_
      refine j_iconst hc dX11_crews_70 ?_
      refine j_iload_n hc 3 dX11_crews_71 rfl rfl ?_
      refine j_vI hc (k := 11) (by decide) (fun hv => Or.inl (sv_k hv hm rfl)) ml_RX11_376 mv_X11_crewBehind (As := [vI 0, vI l2]) (c_X11_crewBehind (cx_E hc) hm (wlit 0 (by decide)) cl2 h) rfl (by omega) (by decide) ⟨Nat.zero_le _, Nat.zero_le _⟩ (Nat.le_of_ble_eq_true rfl) rfl dX11_crews_72 (fun r36 s37 cr36 h => ?_)
      refine j_istore (lv' := [(4, vI r36), (3, vI 0), (0, vR E 0), (1, vI l1), (2, vI l2)]) hc dX11_crews_75 (by decide) rfl ?_
      obtain ⟨n77, h⟩ := h
      refine j_sub (lv' := [(0, vR E 0), (1, vI l1), (2, vI l2), (3, vI 0), (4, vI r36)]) [2, 3, 4, 1, 0] rfl ?_
      exact jl_X11_crews_77 hc hm hr hh n77 cl1 cl2 (wlit 0 (by decide)) cr36 h
    · replace h := h.2 q46
      refine j_aload_nR hc 0 dX11_crews_30 rfl rfl ?_
      refine j_getR (c' := 18) hc fl_RX11_77 rfl rfl (fun hv => (sv_k hv hm rfl)) dX11_crews_31 ?_
      refine j_iload_n hc 3 dX11_crews_34 rfl rfl ?_
      refine j_aload_nR hc 0 dX11_crews_35 rfl rfl ?_
      refine j_iload_n hc 3 dX11_crews_36 rfl rfl ?_
      refine j_vI hc (k := 11) (by decide) (fun hv => Or.inl (sv_k hv hm rfl)) ml_RX11_128 mv_X11_isPerson (As := [vI l3]) (c_X11_isPerson (cx_E hc) hm cl3 h) rfl (by omega) (by decide) ⟨Nat.zero_le _, Nat.zero_le _⟩ (Nat.le_of_ble_eq_true rfl) rfl dX11_crews_37 (fun r38 s39 cr38 h => ?_)
      refine j_if_eq hc cr38 (tgt := 59) dX11_crews_40 (by decide) (fun q45 => ?_) (fun q45 => ?_)
      · replace h := h.1 q45
        refine j_sub (lv' := [(0, vR E 0), (1, vI l1), (2, vI l2), (3, vI l3)]) [0, 1, 2, 3] rfl ?_
        exact jb_X11_crews_59 hc hm hr hh hk24 cl1 cl2 cl3 cl3 h
      · replace h := h.2 q45
        refine j_aload_nR hc 0 dX11_crews_43 rfl rfl ?_
        refine j_iload_n hc 3 dX11_crews_44 rfl rfl ?_
        refine j_vI hc (k := 11) (by decide) (fun hv => Or.inl (sv_k hv hm rfl)) ml_RX11_328 mv_X11_mayLight (As := [vI l3]) (c_X11_mayLight (cx_E hc) hm cl3 h) rfl (by omega) (by decide) ⟨Nat.zero_le _, Nat.zero_le _⟩ (Nat.le_of_ble_eq_true rfl) rfl dX11_crews_45 (fun r40 s41 cr40 h => ?_)
        refine j_if_eq hc cr40 (tgt := 59) dX11_crews_48 (by decide) (fun q44 => ?_) (fun q44 => ?_)
        · replace h := h.1 q44
          refine j_sub (lv' := [(0, vR E 0), (1, vI l1), (2, vI l2), (3, vI l3)]) [0, 1, 2, 3] rfl ?_
          exact jb_X11_crews_59 hc hm hr hh hk24 cl1 cl2 cl3 cl3 h
        · replace h := h.2 q44
          refine j_aload_nR hc 0 dX11_crews_51 rfl rfl ?_
          refine j_iload_n hc 3 dX11_crews_52 rfl rfl ?_
          refine j_vI hc (k := 11) (by decide) (fun hv => Or.inl (sv_k hv hm rfl)) ml_RX11_138 mv_X11_worthOf (As := [vI l3]) (c_X11_worthOf (cx_E hc) hm cl3 h) rfl (by omega) (by decide) ⟨Nat.zero_le _, Nat.zero_le _⟩ (Nat.le_of_ble_eq_true rfl) rfl dX11_crews_53 (fun r42 s43 cr42 h => ?_)
          refine j_goto (tgt := 60) hc dX11_crews_56 (by decide) ?_
          refine j_sub (lv' := [(0, vR E 0), (1, vI l1), (2, vI l2), (3, vI l3)]) [0, 1, 2, 3] rfl ?_
          exact jb_X11_crews_60 hc hm hr hh hk24 cl1 cl2 cl3 cr42 h
set_option maxRecDepth 20000 in
theorem c_X11_crews {l : Launch} {E : ev_E} (hE : Eok E) (hm : eM E = 2) {a1 : Int} (ca1 : wr a1 = a1) {σ : st_S} {Q : Int → st_S → Prop} (h : wp_X11_crews a1 σ Q) : cM l yX11_crews cX11_crews 5 (some .int) E 128 0 0 [vR E 0, vI a1] σ (qI E (gN σ + 0) Q) := by
  refine cM_of (lv := [(0, vR E 0), (1, vI a1)]) (by decide) hE (Nat.le_of_ble_eq_true rfl) (rfl) ?_
  intro X hX hc _ _ hr _ _
  subst hX
  have hh : 128 ≤ 128 := Nat.le_refl _
  have hh1 : 1 ≤ 128 := by omega
  replace h : ((-1) ≤ a1 → wp_X11_fogOn (gI σ 2 33) σ (fun r48 s49 => wp_X11_needOn r48 s49 (fun r50 s51 => ∃ m24 : Nat, L_X11_crews_24 Q m24 a1 r50 0 s51))) ∧ (¬ (-1) ≤ a1 → Q (-1) σ) := h
  refine j_iload_n hc 1 dX11_crews_0 rfl rfl ?_
  refine j_iconst hc dX11_crews_1 ?_
  refine j_ic_ge hc ca1 (wlit (-1) (by decide)) (tgt := 7) dX11_crews_2 (by decide) (fun q52 => ?_) (fun q52 => ?_)
  · replace h := h.1 q52
    refine j_aload_nR hc 0 dX11_crews_7 rfl rfl ?_
    refine j_aload_nR hc 0 dX11_crews_8 rfl rfl ?_
    refine j_getR (c' := 2) hc fl_RX11_24 rfl rfl (fun hv => (sv_k hv hm rfl)) dX11_crews_9 ?_
    refine j_bipush hc dX11_crews_12 (by decide) ?_
    refine j_iald (jn := 33) hc (fun hv => sv_kl hv hm rfl) (wlit 33 (by decide)) ⟨by decide, by decide⟩ rfl dX11_crews_14 (fun cn47 => ?_)
    refine j_vI hc (k := 11) (by decide) (fun hv => Or.inl (sv_k hv hm rfl)) ml_RX11_292 mv_X11_fogOn (As := [vI (gI σ 2 33)]) (c_X11_fogOn (cx_E hc) hm cn47 h) rfl (by omega) (by decide) ⟨Nat.zero_le _, Nat.zero_le _⟩ (Nat.le_of_ble_eq_true rfl) rfl dX11_crews_15 (fun r48 s49 cr48 h => ?_)
    refine j_sI hc ml_RX11_331 mv_X11_needOn (As := [vI r48]) (c_X11_needOn (cx_E hc) hm cr48 h) rfl (by omega) (by decide) ⟨Nat.zero_le _, Nat.zero_le _⟩ (Nat.le_of_ble_eq_true rfl) rfl dX11_crews_18 (fun r50 s51 cr50 h => ?_)
    refine j_istore_n (lv' := [(2, vI r50), (0, vR E 0), (1, vI a1)]) hc dX11_crews_21 rfl (by decide) rfl ?_
    refine j_iconst hc dX11_crews_22 ?_
    refine j_istore_n (lv' := [(3, vI 0), (2, vI r50), (0, vR E 0), (1, vI a1)]) hc dX11_crews_23 rfl (by decide) rfl ?_
    obtain ⟨n24, h⟩ := h
    refine j_sub (lv' := [(0, vR E 0), (1, vI a1), (2, vI r50), (3, vI 0)]) [2, 3, 1, 0] rfl ?_
    exact jl_X11_crews_24 hc hm hr hh n24 ca1 cr50 (wlit 0 (by decide)) h
  · replace h := h.2 q52
    refine j_iconst hc dX11_crews_5 ?_
    exact j_iret hc hr (wlit (-1) (by decide)) h dX11_crews_6
-- LitStrangersModel.share(I)I
theorem dX11_share_0 : decode cX11_share 0 = .ok (.iload_n 1, 1) := by decide +kernel
theorem dX11_share_1 : decode cX11_share 1 = .ok (.iconst 0, 1) := by decide +kernel
theorem dX11_share_2 : decode cX11_share 2 = .ok (.iconst 3, 1) := by decide +kernel
theorem dX11_share_3 : decode cX11_share 3 = .ok (.invokestatic 106, 3) := by decide +kernel
theorem dX11_share_6 : decode cX11_share 6 = .ok (.ifCond .ne 5, 3) := by decide +kernel
theorem dX11_share_9 : decode cX11_share 9 = .ok (.iconst (-1), 1) := by decide +kernel
theorem dX11_share_10 : decode cX11_share 10 = .ok (.ireturn, 1) := by decide +kernel
theorem dX11_share_11 : decode cX11_share 11 = .ok (.aload_n 0, 1) := by decide +kernel
theorem dX11_share_12 : decode cX11_share 12 = .ok (.invokevirtual 385, 3) := by decide +kernel
theorem dX11_share_15 : decode cX11_share 15 = .ok (.aload_n 0, 1) := by decide +kernel
theorem dX11_share_16 : decode cX11_share 16 = .ok (.iconst 0, 1) := by decide +kernel
theorem dX11_share_17 : decode cX11_share 17 = .ok (.iconst 0, 1) := by decide +kernel
theorem dX11_share_18 : decode cX11_share 18 = .ok (.invokevirtual 382, 3) := by decide +kernel
theorem dX11_share_21 : decode cX11_share 21 = .ok (.istore_n 2, 1) := by decide +kernel
theorem dX11_share_22 : decode cX11_share 22 = .ok (.iconst 0, 1) := by decide +kernel
theorem dX11_share_23 : decode cX11_share 23 = .ok (.istore_n 3, 1) := by decide +kernel
theorem dX11_share_24 : decode cX11_share 24 = .ok (.iload_n 3, 1) := by decide +kernel
theorem dX11_share_25 : decode cX11_share 25 = .ok (.aload_n 0, 1) := by decide +kernel
theorem dX11_share_26 : decode cX11_share 26 = .ok (.invokevirtual 116, 3) := by decide +kernel
theorem dX11_share_29 : decode cX11_share 29 = .ok (.if_icmp .ge 34, 3) := by decide +kernel
theorem dX11_share_32 : decode cX11_share 32 = .ok (.aload_n 0, 1) := by decide +kernel
theorem dX11_share_33 : decode cX11_share 33 = .ok (.dup, 1) := by decide +kernel
theorem dX11_share_34 : decode cX11_share 34 = .ok (.getfield 355, 3) := by decide +kernel
theorem dX11_share_37 : decode cX11_share 37 = .ok (.aload_n 0, 1) := by decide +kernel
theorem dX11_share_38 : decode cX11_share 38 = .ok (.iload_n 3, 1) := by decide +kernel
theorem dX11_share_39 : decode cX11_share 39 = .ok (.invokevirtual 135, 3) := by decide +kernel
theorem dX11_share_42 : decode cX11_share 42 = .ok (.iload_n 1, 1) := by decide +kernel
theorem dX11_share_43 : decode cX11_share 43 = .ok (.if_icmp .ne 9, 3) := by decide +kernel
theorem dX11_share_46 : decode cX11_share 46 = .ok (.iconst 1, 1) := by decide +kernel
theorem dX11_share_47 : decode cX11_share 47 = .ok (.iload_n 3, 1) := by decide +kernel
theorem dX11_share_48 : decode cX11_share 48 = .ok (.ishl, 1) := by decide +kernel
theorem dX11_share_49 : decode cX11_share 49 = .ok (.goto 4, 3) := by decide +kernel
theorem dX11_share_52 : decode cX11_share 52 = .ok (.iconst 0, 1) := by decide +kernel
theorem dX11_share_53 : decode cX11_share 53 = .ok (.ior, 1) := by decide +kernel
theorem dX11_share_54 : decode cX11_share 54 = .ok (.putfield 355, 3) := by decide +kernel
theorem dX11_share_57 : decode cX11_share 57 = .ok (.iinc 3 1, 3) := by decide +kernel
theorem dX11_share_60 : decode cX11_share 60 = .ok (.goto (-36), 3) := by decide +kernel
theorem dX11_share_63 : decode cX11_share 63 = .ok (.aload_n 0, 1) := by decide +kernel
theorem dX11_share_64 : decode cX11_share 64 = .ok (.invokevirtual 361, 3) := by decide +kernel
theorem dX11_share_67 : decode cX11_share 67 = .ok (.iload_n 2, 1) := by decide +kernel
theorem dX11_share_68 : decode cX11_share 68 = .ok (.aload_n 0, 1) := by decide +kernel
theorem dX11_share_69 : decode cX11_share 69 = .ok (.iconst 0, 1) := by decide +kernel
theorem dX11_share_70 : decode cX11_share 70 = .ok (.iconst 0, 1) := by decide +kernel
theorem dX11_share_71 : decode cX11_share 71 = .ok (.invokevirtual 382, 3) := by decide +kernel
theorem dX11_share_74 : decode cX11_share 74 = .ok (.isub, 1) := by decide +kernel
theorem dX11_share_75 : decode cX11_share 75 = .ok (.ireturn, 1) := by decide +kernel
def B_X11_share_53 (Q : Int → st_S → Prop)  (k24 : Int → Int → Int → st_S → Prop) (l1 : Int) (l2 : Int) (l3 : Int) (v0 : Int) (v1 : Int) (σ : st_S) : Prop := ∀ s21 : st_S, s21 = sI σ 0 34 (o_or v1 v0) → ∀ x22 : Int, x22 = wr (l3 + 1) → k24 l1 l2 x22 s21
def L_X11_share_24 (Q : Int → st_S → Prop)   : Nat → Int → Int → Int → st_S → Prop
  | 0 => fun _ _ _ _ => False
  | n + 1 => fun l1 l2 l3 σ => wp_X11_people σ (fun r23 s24 => (r23 ≤ l3 → wp_X11_forgets s24 (fun s26 => wp_X11_longestFrom 13 0 0 s26 (fun r27 s28 => Q (wr (l2 - r27)) s28))) ∧ (¬ r23 ≤ l3 → wp_X11_landOf l3 s24 (fun r30 s31 => (¬ r30 = l1 → B_X11_share_53 Q (L_X11_share_24 Q n) l1 l2 l3 0 (gI s24 0 34) s31) ∧ (r30 = l1 → B_X11_share_53 Q (L_X11_share_24 Q n) l1 l2 l3 (o_shl 1 l3) (gI s24 0 34) s31))))
def wp_X11_share (a1 : Int) (σ : st_S) (Q : Int → st_S → Prop) : Prop := wp_X11_lies a1 0 3 σ (fun r34 s35 => (¬ r34 = 0 → wp_X11_looks s35 (fun s37 => wp_X11_longestFrom 13 0 0 s37 (fun r38 s39 => ∃ m24 : Nat, L_X11_share_24 Q m24 a1 r38 0 s39))) ∧ (r34 = 0 → Q (-1) s35))
set_option maxRecDepth 20000 in
theorem jb_X11_share_53 {X : jj_X} {E : ev_E} {n0 hN : Nat} (hc : Cx X E cX11_share 4 n0 hN RX11) (hm : eM E = 2) (hr : (xT X).sig.returnType = (some .int)) (hh : 144 ≤ hN) {Q : Int → st_S → Prop} {k24 : Int → Int → Int → st_S → Prop} (hk24 : ∀ {l1 : Int} {l2 : Int} {l3 : Int} (cl1 : wr l1 = l1) (cl2 : wr l2 = l2) (cl3 : wr l3 = l3) {σ : st_S}, k24 l1 l2 l3 σ → J X E 4 n0 0 0 (MQ (xB X) (qI E (n0 + 0) Q) (xA X) (xS X) 0 0 (eF E)) σ 24 [(0, vR E 0), (1, vI l1), (2, vI l2), (3, vI l3)] []) {l1 : Int} {l2 : Int} {l3 : Int} {v0 : Int} {v1 : Int} (cl1 : wr l1 = l1) (cl2 : wr l2 = l2) (cl3 : wr l3 = l3) (cv0 : wr v0 = v0) {σ : st_S} (h : B_X11_share_53 Q k24 l1 l2 l3 v0 v1 σ) : J X E 4 n0 0 0 (MQ (xB X) (qI E (n0 + 0) Q) (xA X) (xS X) 0 0 (eF E)) σ 53 [(0, vR E 0), (1, vI l1), (2, vI l2), (3, vI l3)] [vI v0, vI v1, vR E 0] := by
  have hh1 : 1 ≤ hN := by omega
  replace h : ∀ s21 : st_S, s21 = sI σ 0 34 (o_or v1 v0) → ∀ x22 : Int, x22 = wr (l3 + 1) → k24 l1 l2 x22 s21 := h
  refine j_ior hc dX11_share_53 ?_
  refine j_putI hc fl_RX11_355 rfl rfl (fun hv => Or.inl (sv_k hv hm rfl)) (cn_or _ _) dX11_share_54 (fun s21 es21 => ?_)
  replace h := h s21 es21
  obtain ⟨x22, ex22⟩ : ∃ y : Int, y = wr (l3 + 1) := ⟨_, rfl⟩
  have cx22 : wr x22 = x22 := by rw [ex22]; exact wr_wr _
  replace h := h x22 ex22
  refine j_iinc (lv' := [(3, vI x22), (0, vR E 0), (1, vI l1), (2, vI l2)]) hc 3 dX11_share_57 rfl (by decide) ex22 rfl ?_
  refine j_goto (tgt := 24) hc dX11_share_60 (by decide) ?_
  refine j_sub (lv' := [(0, vR E 0), (1, vI l1), (2, vI l2), (3, vI x22)]) [1, 2, 3, 0] rfl ?_
  exact hk24 cl1 cl2 cx22 h
set_option maxRecDepth 20000 in
theorem jl_X11_share_24 {X : jj_X} {E : ev_E} {n0 hN : Nat} (hc : Cx X E cX11_share 4 n0 hN RX11) (hm : eM E = 2) (hr : (xT X).sig.returnType = (some .int)) (hh : 144 ≤ hN) {Q : Int → st_S → Prop} : ∀ (n : Nat) {l1 : Int} {l2 : Int} {l3 : Int} (cl1 : wr l1 = l1) (cl2 : wr l2 = l2) (cl3 : wr l3 = l3) {σ : st_S}, L_X11_share_24 Q n l1 l2 l3 σ → J X E 4 n0 0 0 (MQ (xB X) (qI E (n0 + 0) Q) (xA X) (xS X) 0 0 (eF E)) σ 24 [(0, vR E 0), (1, vI l1), (2, vI l2), (3, vI l3)] [] := by
  have hh1 : 1 ≤ hN := by omega
  intro n
  induction n with
  | zero => intro l1 l2 l3 cl1 cl2 cl3 σ h; exact h.elim
  | succ n ih =>
    intro l1 l2 l3 cl1 cl2 cl3 σ h
    have hk24 : ∀ {l1 : Int} {l2 : Int} {l3 : Int} (cl1 : wr l1 = l1) (cl2 : wr l2 = l2) (cl3 : wr l3 = l3) {σ : st_S}, L_X11_share_24 Q n l1 l2 l3 σ → J X E 4 n0 0 0 (MQ (xB X) (qI E (n0 + 0) Q) (xA X) (xS X) 0 0 (eF E)) σ 24 [(0, vR E 0), (1, vI l1), (2, vI l2), (3, vI l3)] [] := ih
    replace h : wp_X11_people σ (fun r23 s24 => (r23 ≤ l3 → wp_X11_forgets s24 (fun s26 => wp_X11_longestFrom 13 0 0 s26 (fun r27 s28 => Q (wr (l2 - r27)) s28))) ∧ (¬ r23 ≤ l3 → wp_X11_landOf l3 s24 (fun r30 s31 => (¬ r30 = l1 → B_X11_share_53 Q (L_X11_share_24 Q n) l1 l2 l3 0 (gI s24 0 34) s31) ∧ (r30 = l1 → B_X11_share_53 Q (L_X11_share_24 Q n) l1 l2 l3 (o_shl 1 l3) (gI s24 0 34) s31)))) := h
    refine j_iload_n hc 3 dX11_share_24 rfl rfl ?_
    refine j_aload_nR hc 0 dX11_share_25 rfl rfl ?_
    refine j_vI hc (k := 11) (by decide) (fun hv => Or.inl (sv_k hv hm rfl)) ml_RX11_116 mv_X11_people (As := []) (c_X11_people (cx_E hc) hm  h) rfl (by omega) (by decide) ⟨Nat.zero_le _, Nat.zero_le _⟩ (Nat.le_of_ble_eq_true rfl) rfl dX11_share_26 (fun r23 s24 cr23 h => ?_)
    refine j_ic_ge hc cl3 cr23 (tgt := 63) dX11_share_29 (by decide) (fun q33 => ?_) (fun q33 => ?_)
    · replace h := h.1 q33
      refine j_aload_nR hc 0 dX11_share_63 rfl rfl ?_
      refine j_vV hc (k := 11) (by decide) (fun hv => Or.inl (sv_k hv hm rfl)) ml_RX11_361 mv_X11_forgets (As := []) (c_X11_forgets (cx_E hc) hm  h) rfl (by omega) (by decide) ⟨Nat.zero_le _, Nat.zero_le _⟩ (Nat.le_of_ble_eq_true rfl) rfl dX11_share_64 (fun s26 h => ?_)
      refine j_iload_n hc 2 dX11_share_67 rfl rfl ?_
      refine j_aload_nR hc 0 dX11_share_68 rfl rfl ?_
      refine j_iconst hc dX11_share_69 ?_
      refine j_iconst hc dX11_share_70 ?_
      refine j_vI hc (k := 11) (by decide) (fun hv => Or.inl (sv_k hv hm rfl)) ml_RX11_382 mv_X11_longestFrom (As := [vI 0, vI 0]) (c_X11_longestFrom (cx_E hc) hm 13 (wlit 0 (by decide)) (wlit 0 (by decide)) h) rfl (by omega) (by decide) ⟨Nat.zero_le _, Nat.zero_le _⟩ (Nat.le_of_ble_eq_true rfl) rfl dX11_share_71 (fun r27 s28 cr27 h => ?_)
      refine j_isub hc dX11_share_74 ?_
      refine j_w (fun y ey cy => ?_)
      subst ey
      exact j_iret hc hr cy h dX11_share_75
    · replace h := h.2 q33
      refine j_aload_nR hc 0 dX11_share_32 rfl rfl ?_
      refine j_dup hc dX11_share_33 rfl ?_
      refine j_getI hc fl_RX11_355 (Or.inl rfl) (fun hv => Or.inl (sv_k hv hm rfl)) dX11_share_34 (fun cn29 => ?_)
      refine j_aload_nR hc 0 dX11_share_37 rfl rfl ?_
      refine j_iload_n hc 3 dX11_share_38 rfl rfl ?_
      refine j_vI hc (k := 11) (by decide) (fun hv => Or.inl (sv_k hv hm rfl)) ml_RX11_135 mv_X11_landOf (As := [vI l3]) (c_X11_landOf (cx_E hc) hm cl3 h) rfl (by omega) (by decide) ⟨Nat.zero_le _, Nat.zero_le _⟩ (Nat.le_of_ble_eq_true rfl) rfl dX11_share_39 (fun r30 s31 cr30 h => ?_)
      refine j_iload_n hc 1 dX11_share_42 rfl rfl ?_
      refine j_ic_ne hc cr30 cl1 (tgt := 52) dX11_share_43 (by decide) (fun q32 => ?_) (fun q32 => ?_)
      · replace h := h.1 q32
        refine j_iconst hc dX11_share_52 ?_
        refine j_sub (lv' := [(0, vR E 0), (1, vI l1), (2, vI l2), (3, vI l3)]) [0, 1, 2, 3] rfl ?_
        exact jb_X11_share_53 hc hm hr hh hk24 cl1 cl2 cl3 (wlit 0 (by decide)) h
      · replace h := h.2 q32
        refine j_iconst hc dX11_share_46 ?_
        refine j_iload_n hc 3 dX11_share_47 rfl rfl ?_
        refine j_ishl hc dX11_share_48 ?_
        refine j_goto (tgt := 53) hc dX11_share_49 (by decide) ?_
        refine j_sub (lv' := [(0, vR E 0), (1, vI l1), (2, vI l2), (3, vI l3)]) [0, 1, 2, 3] rfl ?_
        exact jb_X11_share_53 hc hm hr hh hk24 cl1 cl2 cl3 (cn_shl _ _) h
set_option maxRecDepth 20000 in
theorem c_X11_share {l : Launch} {E : ev_E} (hE : Eok E) (hm : eM E = 2) {a1 : Int} (ca1 : wr a1 = a1) {σ : st_S} {Q : Int → st_S → Prop} (h : wp_X11_share a1 σ Q) : cM l yX11_share cX11_share 4 (some .int) E 144 0 0 [vR E 0, vI a1] σ (qI E (gN σ + 0) Q) := by
  refine cM_of (lv := [(0, vR E 0), (1, vI a1)]) (by decide) hE (Nat.le_of_ble_eq_true rfl) (rfl) ?_
  intro X hX hc _ _ hr _ _
  subst hX
  have hh : 144 ≤ 144 := Nat.le_refl _
  have hh1 : 1 ≤ 144 := by omega
  replace h : wp_X11_lies a1 0 3 σ (fun r34 s35 => (¬ r34 = 0 → wp_X11_looks s35 (fun s37 => wp_X11_longestFrom 13 0 0 s37 (fun r38 s39 => ∃ m24 : Nat, L_X11_share_24 Q m24 a1 r38 0 s39))) ∧ (r34 = 0 → Q (-1) s35)) := h
  refine j_iload_n hc 1 dX11_share_0 rfl rfl ?_
  refine j_iconst hc dX11_share_1 ?_
  refine j_iconst hc dX11_share_2 ?_
  refine j_sI hc ml_RX11_106 mv_X11_lies (As := [vI a1, vI 0, vI 3]) (c_X11_lies (cx_E hc) hm ca1 (wlit 0 (by decide)) (wlit 3 (by decide)) h) rfl (by omega) (by decide) ⟨Nat.zero_le _, Nat.zero_le _⟩ (Nat.le_of_ble_eq_true rfl) rfl dX11_share_3 (fun r34 s35 cr34 h => ?_)
  refine j_if_ne hc cr34 (tgt := 11) dX11_share_6 (by decide) (fun q40 => ?_) (fun q40 => ?_)
  · replace h := h.1 q40
    refine j_aload_nR hc 0 dX11_share_11 rfl rfl ?_
    refine j_vV hc (k := 11) (by decide) (fun hv => Or.inl (sv_k hv hm rfl)) ml_RX11_385 mv_X11_looks (As := []) (c_X11_looks (cx_E hc) hm  h) rfl (by omega) (by decide) ⟨Nat.zero_le _, Nat.zero_le _⟩ (Nat.le_of_ble_eq_true rfl) rfl dX11_share_12 (fun s37 h => ?_)
    refine j_aload_nR hc 0 dX11_share_15 rfl rfl ?_
    refine j_iconst hc dX11_share_16 ?_
    refine j_iconst hc dX11_share_17 ?_
    refine j_vI hc (k := 11) (by decide) (fun hv => Or.inl (sv_k hv hm rfl)) ml_RX11_382 mv_X11_longestFrom (As := [vI 0, vI 0]) (c_X11_longestFrom (cx_E hc) hm 13 (wlit 0 (by decide)) (wlit 0 (by decide)) h) rfl (by omega) (by decide) ⟨Nat.zero_le _, Nat.zero_le _⟩ (Nat.le_of_ble_eq_true rfl) rfl dX11_share_18 (fun r38 s39 cr38 h => ?_)
    refine j_istore_n (lv' := [(2, vI r38), (0, vR E 0), (1, vI a1)]) hc dX11_share_21 rfl (by decide) rfl ?_
    refine j_iconst hc dX11_share_22 ?_
    refine j_istore_n (lv' := [(3, vI 0), (2, vI r38), (0, vR E 0), (1, vI a1)]) hc dX11_share_23 rfl (by decide) rfl ?_
    obtain ⟨n24, h⟩ := h
    refine j_sub (lv' := [(0, vR E 0), (1, vI a1), (2, vI r38), (3, vI 0)]) [2, 3, 1, 0] rfl ?_
    exact jl_X11_share_24 hc hm hr hh n24 ca1 cr38 (wlit 0 (by decide)) h
  · replace h := h.2 q40
    refine j_iconst hc dX11_share_9 ?_
    exact j_iret hc hr (wlit (-1) (by decide)) h dX11_share_10
-- LitStrangersModel.harm(I)I
theorem dX11_harm_0 : decode cX11_harm 0 = .ok (.aload_n 0, 1) := by decide +kernel
theorem dX11_harm_1 : decode cX11_harm 1 = .ok (.iload_n 1, 1) := by decide +kernel
theorem dX11_harm_2 : decode cX11_harm 2 = .ok (.invokevirtual 128, 3) := by decide +kernel
theorem dX11_harm_5 : decode cX11_harm 5 = .ok (.ifCond .eq 15, 3) := by decide +kernel
theorem dX11_harm_8 : decode cX11_harm 8 = .ok (.aload_n 0, 1) := by decide +kernel
theorem dX11_harm_9 : decode cX11_harm 9 = .ok (.getfield 24, 3) := by decide +kernel
theorem dX11_harm_12 : decode cX11_harm 12 = .ok (.iconst 0, 1) := by decide +kernel
theorem dX11_harm_13 : decode cX11_harm 13 = .ok (.iload_n 1, 1) := by decide +kernel
theorem dX11_harm_14 : decode cX11_harm 14 = .ok (.iadd, 1) := by decide +kernel
theorem dX11_harm_15 : decode cX11_harm 15 = .ok (.iaload, 1) := by decide +kernel
theorem dX11_harm_16 : decode cX11_harm 16 = .ok (.iconst 3, 1) := by decide +kernel
theorem dX11_harm_17 : decode cX11_harm 17 = .ok (.if_icmp .ne 5, 3) := by decide +kernel
theorem dX11_harm_20 : decode cX11_harm 20 = .ok (.iconst (-1), 1) := by decide +kernel
theorem dX11_harm_21 : decode cX11_harm 21 = .ok (.ireturn, 1) := by decide +kernel
theorem dX11_harm_22 : decode cX11_harm 22 = .ok (.iconst 0, 1) := by decide +kernel
theorem dX11_harm_23 : decode cX11_harm 23 = .ok (.istore_n 2, 1) := by decide +kernel
theorem dX11_harm_24 : decode cX11_harm 24 = .ok (.iconst 0, 1) := by decide +kernel
theorem dX11_harm_25 : decode cX11_harm 25 = .ok (.istore_n 3, 1) := by decide +kernel
theorem dX11_harm_26 : decode cX11_harm 26 = .ok (.iload_n 3, 1) := by decide +kernel
theorem dX11_harm_27 : decode cX11_harm 27 = .ok (.aload_n 0, 1) := by decide +kernel
theorem dX11_harm_28 : decode cX11_harm 28 = .ok (.invokevirtual 116, 3) := by decide +kernel
theorem dX11_harm_31 : decode cX11_harm 31 = .ok (.if_icmp .ge 44, 3) := by decide +kernel
theorem dX11_harm_34 : decode cX11_harm 34 = .ok (.iload_n 2, 1) := by decide +kernel
theorem dX11_harm_35 : decode cX11_harm 35 = .ok (.iload_n 3, 1) := by decide +kernel
theorem dX11_harm_36 : decode cX11_harm 36 = .ok (.iload_n 1, 1) := by decide +kernel
theorem dX11_harm_37 : decode cX11_harm 37 = .ok (.if_icmp .eq 29, 3) := by decide +kernel
theorem dX11_harm_40 : decode cX11_harm 40 = .ok (.aload_n 0, 1) := by decide +kernel
theorem dX11_harm_41 : decode cX11_harm 41 = .ok (.iload_n 1, 1) := by decide +kernel
theorem dX11_harm_42 : decode cX11_harm 42 = .ok (.iload_n 3, 1) := by decide +kernel
theorem dX11_harm_43 : decode cX11_harm 43 = .ok (.invokevirtual 334, 3) := by decide +kernel
theorem dX11_harm_46 : decode cX11_harm 46 = .ok (.ifCond .eq 20, 3) := by decide +kernel
theorem dX11_harm_49 : decode cX11_harm 49 = .ok (.aload_n 0, 1) := by decide +kernel
theorem dX11_harm_50 : decode cX11_harm 50 = .ok (.iload_n 3, 1) := by decide +kernel
theorem dX11_harm_51 : decode cX11_harm 51 = .ok (.invokevirtual 138, 3) := by decide +kernel
theorem dX11_harm_54 : decode cX11_harm 54 = .ok (.aload_n 0, 1) := by decide +kernel
theorem dX11_harm_55 : decode cX11_harm 55 = .ok (.iload_n 1, 1) := by decide +kernel
theorem dX11_harm_56 : decode cX11_harm 56 = .ok (.iload_n 3, 1) := by decide +kernel
theorem dX11_harm_57 : decode cX11_harm 57 = .ok (.invokevirtual 319, 3) := by decide +kernel
theorem dX11_harm_60 : decode cX11_harm 60 = .ok (.invokestatic 337, 3) := by decide +kernel
theorem dX11_harm_63 : decode cX11_harm 63 = .ok (.goto 4, 3) := by decide +kernel
theorem dX11_harm_66 : decode cX11_harm 66 = .ok (.iconst 0, 1) := by decide +kernel
theorem dX11_harm_67 : decode cX11_harm 67 = .ok (.iadd, 1) := by decide +kernel
theorem dX11_harm_68 : decode cX11_harm 68 = .ok (.istore_n 2, 1) := by decide +kernel
theorem dX11_harm_69 : decode cX11_harm 69 = .ok (.iinc 3 1, 3) := by decide +kernel
theorem dX11_harm_72 : decode cX11_harm 72 = .ok (.goto (-46), 3) := by decide +kernel
theorem dX11_harm_75 : decode cX11_harm 75 = .ok (.iload_n 2, 1) := by decide +kernel
theorem dX11_harm_76 : decode cX11_harm 76 = .ok (.ireturn, 1) := by decide +kernel
def B_X11_harm_20 (Q : Int → st_S → Prop)    (σ : st_S) : Prop := Q (-1) σ
def B_X11_harm_67 (Q : Int → st_S → Prop)  (k26 : Int → Int → Int → st_S → Prop) (l1 : Int) (l3 : Int) (v0 : Int) (v1 : Int) (σ : st_S) : Prop := ∀ x19 : Int, x19 = wr (v1 + v0) → ∀ x20 : Int, x20 = wr (l3 + 1) → k26 l1 x19 x20 σ
def B_X11_harm_66 (Q : Int → st_S → Prop)  (k26 : Int → Int → Int → st_S → Prop) (l1 : Int) (l3 : Int) (v0 : Int) (σ : st_S) : Prop := B_X11_harm_67 Q k26 l1 l3 0 v0 σ
def L_X11_harm_26 (Q : Int → st_S → Prop)   : Nat → Int → Int → Int → st_S → Prop
  | 0 => fun _ _ _ _ => False
  | n + 1 => fun l1 l2 l3 σ => wp_X11_people σ (fun r21 s22 => (r21 ≤ l3 → Q l2 s22) ∧ (¬ r21 ≤ l3 → (l3 = l1 → B_X11_harm_66 Q (L_X11_harm_26 Q n) l1 l3 l2 s22) ∧ (¬ l3 = l1 → wp_X11_doTalk l1 l3 s22 (fun r23 s24 => (r23 = 0 → B_X11_harm_66 Q (L_X11_harm_26 Q n) l1 l3 l2 s24) ∧ (¬ r23 = 0 → wp_X11_worthOf l3 s24 (fun r25 s26 => wp_X11_spoilsBy l1 l3 s26 (fun r27 s28 => wp_X11_lesser r25 r27 s28 (fun r29 s30 => B_X11_harm_67 Q (L_X11_harm_26 Q n) l1 l3 r29 l2 s30))))))))
def wp_X11_harm (a1 : Int) (σ : st_S) (Q : Int → st_S → Prop) : Prop := wp_X11_isPerson a1 σ (fun r34 s35 => (r34 = 0 → B_X11_harm_20 Q s35) ∧ (¬ r34 = 0 → ix (wr (0 + a1)) 5866 ∧ (¬ gI s35 2 (Int.toNat (wr (0 + a1))) = 3 → ∃ m26 : Nat, L_X11_harm_26 Q m26 a1 0 0 s35) ∧ (gI s35 2 (Int.toNat (wr (0 + a1))) = 3 → B_X11_harm_20 Q s35)))
set_option maxRecDepth 20000 in
theorem jb_X11_harm_20 {X : jj_X} {E : ev_E} {n0 hN : Nat} (hc : Cx X E cX11_harm 4 n0 hN RX11) (hm : eM E = 2) (hr : (xT X).sig.returnType = (some .int)) (hh : 127 ≤ hN) {Q : Int → st_S → Prop} {σ : st_S} (h : B_X11_harm_20 Q σ) : J X E 4 n0 0 0 (MQ (xB X) (qI E (n0 + 0) Q) (xA X) (xS X) 0 0 (eF E)) σ 20 [] [] := by
  have hh1 : 1 ≤ hN := by omega
  replace h : Q (-1) σ := h
  refine j_iconst hc dX11_harm_20 ?_
  exact j_iret hc hr (wlit (-1) (by decide)) h dX11_harm_21
set_option maxRecDepth 20000 in
theorem jb_X11_harm_67 {X : jj_X} {E : ev_E} {n0 hN : Nat} (hc : Cx X E cX11_harm 4 n0 hN RX11) (hm : eM E = 2) (hr : (xT X).sig.returnType = (some .int)) (hh : 127 ≤ hN) {Q : Int → st_S → Prop} {k26 : Int → Int → Int → st_S → Prop} (hk26 : ∀ {l1 : Int} {l2 : Int} {l3 : Int} (cl1 : wr l1 = l1) (cl2 : wr l2 = l2) (cl3 : wr l3 = l3) {σ : st_S}, k26 l1 l2 l3 σ → J X E 4 n0 0 0 (MQ (xB X) (qI E (n0 + 0) Q) (xA X) (xS X) 0 0 (eF E)) σ 26 [(0, vR E 0), (1, vI l1), (2, vI l2), (3, vI l3)] []) {l1 : Int} {l3 : Int} {v0 : Int} {v1 : Int} (cl1 : wr l1 = l1) (cl3 : wr l3 = l3) (cv0 : wr v0 = v0) {σ : st_S} (h : B_X11_harm_67 Q k26 l1 l3 v0 v1 σ) : J X E 4 n0 0 0 (MQ (xB X) (qI E (n0 + 0) Q) (xA X) (xS X) 0 0 (eF E)) σ 67 [(0, vR E 0), (1, vI l1), (3, vI l3)] [vI v0, vI v1] := by
  have hh1 : 1 ≤ hN := by omega
  replace h : ∀ x19 : Int, x19 = wr (v1 + v0) → ∀ x20 : Int, x20 = wr (l3 + 1) → k26 l1 x19 x20 σ := h
  refine j_iadd hc dX11_harm_67 ?_
  refine j_w (fun x19 ex19 cx19 => ?_)
  replace h := h x19 ex19
  refine j_istore_n (lv' := [(2, vI x19), (0, vR E 0), (1, vI l1), (3, vI l3)]) hc dX11_harm_68 rfl (by decide) rfl ?_
  obtain ⟨x20, ex20⟩ : ∃ y : Int, y = wr (l3 + 1) := ⟨_, rfl⟩
  have cx20 : wr x20 = x20 := by rw [ex20]; exact wr_wr _
  replace h := h x20 ex20
  refine j_iinc (lv' := [(3, vI x20), (2, vI x19), (0, vR E 0), (1, vI l1)]) hc 3 dX11_harm_69 rfl (by decide) ex20 rfl ?_
  refine j_goto (tgt := 26) hc dX11_harm_72 (by decide) ?_
  refine j_sub (lv' := [(0, vR E 0), (1, vI l1), (2, vI x19), (3, vI x20)]) [2, 3, 1, 0] rfl ?_
  exact hk26 cl1 cx19 cx20 h
set_option maxRecDepth 20000 in
theorem jb_X11_harm_66 {X : jj_X} {E : ev_E} {n0 hN : Nat} (hc : Cx X E cX11_harm 4 n0 hN RX11) (hm : eM E = 2) (hr : (xT X).sig.returnType = (some .int)) (hh : 127 ≤ hN) {Q : Int → st_S → Prop} {k26 : Int → Int → Int → st_S → Prop} (hk26 : ∀ {l1 : Int} {l2 : Int} {l3 : Int} (cl1 : wr l1 = l1) (cl2 : wr l2 = l2) (cl3 : wr l3 = l3) {σ : st_S}, k26 l1 l2 l3 σ → J X E 4 n0 0 0 (MQ (xB X) (qI E (n0 + 0) Q) (xA X) (xS X) 0 0 (eF E)) σ 26 [(0, vR E 0), (1, vI l1), (2, vI l2), (3, vI l3)] []) {l1 : Int} {l3 : Int} {v0 : Int} (cl1 : wr l1 = l1) (cl3 : wr l3 = l3) (cv0 : wr v0 = v0) {σ : st_S} (h : B_X11_harm_66 Q k26 l1 l3 v0 σ) : J X E 4 n0 0 0 (MQ (xB X) (qI E (n0 + 0) Q) (xA X) (xS X) 0 0 (eF E)) σ 66 [(0, vR E 0), (1, vI l1), (3, vI l3)] [vI v0] := by
  have hh1 : 1 ≤ hN := by omega
  replace h : B_X11_harm_67 Q k26 l1 l3 0 v0 σ := h
  refine j_iconst hc dX11_harm_66 ?_
  refine j_sub (lv' := [(0, vR E 0), (1, vI l1), (3, vI l3)]) [0, 1, 2] rfl ?_
  exact jb_X11_harm_67 hc hm hr hh hk26 cl1 cl3 (wlit 0 (by decide)) h
set_option maxRecDepth 20000 in
theorem jl_X11_harm_26 {X : jj_X} {E : ev_E} {n0 hN : Nat} (hc : Cx X E cX11_harm 4 n0 hN RX11) (hm : eM E = 2) (hr : (xT X).sig.returnType = (some .int)) (hh : 127 ≤ hN) {Q : Int → st_S → Prop} : ∀ (n : Nat) {l1 : Int} {l2 : Int} {l3 : Int} (cl1 : wr l1 = l1) (cl2 : wr l2 = l2) (cl3 : wr l3 = l3) {σ : st_S}, L_X11_harm_26 Q n l1 l2 l3 σ → J X E 4 n0 0 0 (MQ (xB X) (qI E (n0 + 0) Q) (xA X) (xS X) 0 0 (eF E)) σ 26 [(0, vR E 0), (1, vI l1), (2, vI l2), (3, vI l3)] [] := by
  have hh1 : 1 ≤ hN := by omega
  intro n
  induction n with
  | zero => intro l1 l2 l3 cl1 cl2 cl3 σ h; exact h.elim
  | succ n ih =>
    intro l1 l2 l3 cl1 cl2 cl3 σ h
    have hk26 : ∀ {l1 : Int} {l2 : Int} {l3 : Int} (cl1 : wr l1 = l1) (cl2 : wr l2 = l2) (cl3 : wr l3 = l3) {σ : st_S}, L_X11_harm_26 Q n l1 l2 l3 σ → J X E 4 n0 0 0 (MQ (xB X) (qI E (n0 + 0) Q) (xA X) (xS X) 0 0 (eF E)) σ 26 [(0, vR E 0), (1, vI l1), (2, vI l2), (3, vI l3)] [] := ih
    replace h : wp_X11_people σ (fun r21 s22 => (r21 ≤ l3 → Q l2 s22) ∧ (¬ r21 ≤ l3 → (l3 = l1 → B_X11_harm_66 Q (L_X11_harm_26 Q n) l1 l3 l2 s22) ∧ (¬ l3 = l1 → wp_X11_doTalk l1 l3 s22 (fun r23 s24 => (r23 = 0 → B_X11_harm_66 Q (L_X11_harm_26 Q n) l1 l3 l2 s24) ∧ (¬ r23 = 0 → wp_X11_worthOf l3 s24 (fun r25 s26 => wp_X11_spoilsBy l1 l3 s26 (fun r27 s28 => wp_X11_lesser r25 r27 s28 (fun r29 s30 => B_X11_harm_67 Q (L_X11_harm_26 Q n) l1 l3 r29 l2 s30)))))))) := h
    refine j_iload_n hc 3 dX11_harm_26 rfl rfl ?_
    refine j_aload_nR hc 0 dX11_harm_27 rfl rfl ?_
    refine j_vI hc (k := 11) (by decide) (fun hv => Or.inl (sv_k hv hm rfl)) ml_RX11_116 mv_X11_people (As := []) (c_X11_people (cx_E hc) hm  h) rfl (by omega) (by decide) ⟨Nat.zero_le _, Nat.zero_le _⟩ (Nat.le_of_ble_eq_true rfl) rfl dX11_harm_28 (fun r21 s22 cr21 h => ?_)
    refine j_ic_ge hc cl3 cr21 (tgt := 75) dX11_harm_31 (by decide) (fun q33 => ?_) (fun q33 => ?_)
    · replace h := h.1 q33
      refine j_iload_n hc 2 dX11_harm_75 rfl rfl ?_
      exact j_iret hc hr cl2 h dX11_harm_76
    · replace h := h.2 q33
      refine j_iload_n hc 2 dX11_harm_34 rfl rfl ?_
      refine j_iload_n hc 3 dX11_harm_35 rfl rfl ?_
      refine j_iload_n hc 1 dX11_harm_36 rfl rfl ?_
      refine j_ic_eq hc cl3 cl1 (tgt := 66) dX11_harm_37 (by decide) (fun q32 => ?_) (fun q32 => ?_)
      · replace h := h.1 q32
        refine j_sub (lv' := [(0, vR E 0), (1, vI l1), (3, vI l3)]) [0, 1, 3] rfl ?_
        exact jb_X11_harm_66 hc hm hr hh hk26 cl1 cl3 cl2 h
      · replace h := h.2 q32
        refine j_aload_nR hc 0 dX11_harm_40 rfl rfl ?_
        refine j_iload_n hc 1 dX11_harm_41 rfl rfl ?_
        refine j_iload_n hc 3 dX11_harm_42 rfl rfl ?_
        refine j_vI hc (k := 11) (by decide) (fun hv => Or.inl (sv_k hv hm rfl)) ml_RX11_334 mv_X11_doTalk (As := [vI l1, vI l3]) (c_X11_doTalk (cx_E hc) hm cl1 cl3 h) rfl (by omega) (by decide) ⟨Nat.zero_le _, Nat.zero_le _⟩ (Nat.le_of_ble_eq_true rfl) rfl dX11_harm_43 (fun r23 s24 cr23 h => ?_)
        refine j_if_eq hc cr23 (tgt := 66) dX11_harm_46 (by decide) (fun q31 => ?_) (fun q31 => ?_)
        · replace h := h.1 q31
          refine j_sub (lv' := [(0, vR E 0), (1, vI l1), (3, vI l3)]) [0, 1, 3] rfl ?_
          exact jb_X11_harm_66 hc hm hr hh hk26 cl1 cl3 cl2 h
        · replace h := h.2 q31
          refine j_aload_nR hc 0 dX11_harm_49 rfl rfl ?_
          refine j_iload_n hc 3 dX11_harm_50 rfl rfl ?_
          refine j_vI hc (k := 11) (by decide) (fun hv => Or.inl (sv_k hv hm rfl)) ml_RX11_138 mv_X11_worthOf (As := [vI l3]) (c_X11_worthOf (cx_E hc) hm cl3 h) rfl (by omega) (by decide) ⟨Nat.zero_le _, Nat.zero_le _⟩ (Nat.le_of_ble_eq_true rfl) rfl dX11_harm_51 (fun r25 s26 cr25 h => ?_)
          refine j_aload_nR hc 0 dX11_harm_54 rfl rfl ?_
          refine j_iload_n hc 1 dX11_harm_55 rfl rfl ?_
          refine j_iload_n hc 3 dX11_harm_56 rfl rfl ?_
          refine j_vI hc (k := 11) (by decide) (fun hv => Or.inl (sv_k hv hm rfl)) ml_RX11_319 mv_X11_spoilsBy (As := [vI l1, vI l3]) (c_X11_spoilsBy (cx_E hc) hm cl1 cl3 h) rfl (by omega) (by decide) ⟨Nat.zero_le _, Nat.zero_le _⟩ (Nat.le_of_ble_eq_true rfl) rfl dX11_harm_57 (fun r27 s28 cr27 h => ?_)
          refine j_sI hc ml_RX11_337 mv_X11_lesser (As := [vI r25, vI r27]) (c_X11_lesser (cx_E hc) hm cr25 cr27 h) rfl (by omega) (by decide) ⟨Nat.zero_le _, Nat.zero_le _⟩ (Nat.le_of_ble_eq_true rfl) rfl dX11_harm_60 (fun r29 s30 cr29 h => ?_)
          refine j_goto (tgt := 67) hc dX11_harm_63 (by decide) ?_
          refine j_sub (lv' := [(0, vR E 0), (1, vI l1), (3, vI l3)]) [0, 1, 3] rfl ?_
          exact jb_X11_harm_67 hc hm hr hh hk26 cl1 cl3 cr29 h
set_option maxRecDepth 20000 in
theorem c_X11_harm {l : Launch} {E : ev_E} (hE : Eok E) (hm : eM E = 2) {a1 : Int} (ca1 : wr a1 = a1) {σ : st_S} {Q : Int → st_S → Prop} (h : wp_X11_harm a1 σ Q) : cM l yX11_harm cX11_harm 4 (some .int) E 127 0 0 [vR E 0, vI a1] σ (qI E (gN σ + 0) Q) := by
  refine cM_of (lv := [(0, vR E 0), (1, vI a1)]) (by decide) hE (Nat.le_of_ble_eq_true rfl) (rfl) ?_
  intro X hX hc _ _ hr _ _
  subst hX
  have hh : 127 ≤ 127 := Nat.le_refl _
  have hh1 : 1 ≤ 127 := by omega
  replace h : wp_X11_isPerson a1 σ (fun r34 s35 => (r34 = 0 → B_X11_harm_20 Q s35) ∧ (¬ r34 = 0 → ix (wr (0 + a1)) 5866 ∧ (¬ gI s35 2 (Int.toNat (wr (0 + a1))) = 3 → ∃ m26 : Nat, L_X11_harm_26 Q m26 a1 0 0 s35) ∧ (gI s35 2 (Int.toNat (wr (0 + a1))) = 3 → B_X11_harm_20 Q s35))) := h
  refine j_aload_nR hc 0 dX11_harm_0 rfl rfl ?_
  refine j_iload_n hc 1 dX11_harm_1 rfl rfl ?_
  refine j_vI hc (k := 11) (by decide) (fun hv => Or.inl (sv_k hv hm rfl)) ml_RX11_128 mv_X11_isPerson (As := [vI a1]) (c_X11_isPerson (cx_E hc) hm ca1 h) rfl (by omega) (by decide) ⟨Nat.zero_le _, Nat.zero_le _⟩ (Nat.le_of_ble_eq_true rfl) rfl dX11_harm_2 (fun r34 s35 cr34 h => ?_)
  refine j_if_eq hc cr34 (tgt := 20) dX11_harm_5 (by decide) (fun q39 => ?_) (fun q39 => ?_)
  · replace h := h.1 q39
    refine j_sub (lv' := []) [] rfl ?_
    exact jb_X11_harm_20 hc hm hr hh h
  · replace h := h.2 q39
    refine j_aload_nR hc 0 dX11_harm_8 rfl rfl ?_
    refine j_getR (c' := 2) hc fl_RX11_24 rfl rfl (fun hv => (sv_k hv hm rfl)) dX11_harm_9 ?_
    refine j_iconst hc dX11_harm_12 ?_
    refine j_iload_n hc 1 dX11_harm_13 rfl rfl ?_
    refine j_iadd hc dX11_harm_14 ?_
    obtain ⟨b36, h⟩ := h
    refine j_iald (jn := (Int.toNat (wr (0 + a1)))) hc (fun hv => sv_kl hv hm rfl) rfl b36 rfl dX11_harm_15 (fun cn37 => ?_)
    refine j_iconst hc dX11_harm_16 ?_
    refine j_ic_ne hc cn37 (wlit 3 (by decide)) (tgt := 22) dX11_harm_17 (by decide) (fun q38 => ?_) (fun q38 => ?_)
    · replace h := h.1 q38
      refine j_iconst hc dX11_harm_22 ?_
      refine j_istore_n (lv' := [(2, vI 0), (0, vR E 0), (1, vI a1)]) hc dX11_harm_23 rfl (by decide) rfl ?_
      refine j_iconst hc dX11_harm_24 ?_
      refine j_istore_n (lv' := [(3, vI 0), (2, vI 0), (0, vR E 0), (1, vI a1)]) hc dX11_harm_25 rfl (by decide) rfl ?_
      obtain ⟨n26, h⟩ := h
      refine j_sub (lv' := [(0, vR E 0), (1, vI a1), (2, vI 0), (3, vI 0)]) [2, 3, 1, 0] rfl ?_
      exact jl_X11_harm_26 hc hm hr hh n26 ca1 (wlit 0 (by decide)) (wlit 0 (by decide)) h
    · replace h := h.2 q38
      refine j_sub (lv' := []) [] rfl ?_
      exact jb_X11_harm_20 hc hm hr hh h
-- LitStrangersModel.hush(II)I
theorem dX11_hush_0 : decode cX11_hush 0 = .ok (.iload_n 1, 1) := by decide +kernel
theorem dX11_hush_1 : decode cX11_hush 1 = .ok (.iconst 1, 1) := by decide +kernel
theorem dX11_hush_2 : decode cX11_hush 2 = .ok (.bipush 10, 2) := by decide +kernel
theorem dX11_hush_4 : decode cX11_hush 4 = .ok (.invokestatic 106, 3) := by decide +kernel
theorem dX11_hush_7 : decode cX11_hush 7 = .ok (.ifCond .eq 12, 3) := by decide +kernel
theorem dX11_hush_10 : decode cX11_hush 10 = .ok (.iload_n 2, 1) := by decide +kernel
theorem dX11_hush_11 : decode cX11_hush 11 = .ok (.iconst 0, 1) := by decide +kernel
theorem dX11_hush_12 : decode cX11_hush 12 = .ok (.iconst 2, 1) := by decide +kernel
theorem dX11_hush_13 : decode cX11_hush 13 = .ok (.invokestatic 106, 3) := by decide +kernel
theorem dX11_hush_16 : decode cX11_hush 16 = .ok (.ifCond .ne 5, 3) := by decide +kernel
theorem dX11_hush_19 : decode cX11_hush 19 = .ok (.iconst (-1), 1) := by decide +kernel
theorem dX11_hush_20 : decode cX11_hush 20 = .ok (.ireturn, 1) := by decide +kernel
theorem dX11_hush_21 : decode cX11_hush 21 = .ok (.aload_n 0, 1) := by decide +kernel
theorem dX11_hush_22 : decode cX11_hush 22 = .ok (.invokevirtual 385, 3) := by decide +kernel
theorem dX11_hush_25 : decode cX11_hush 25 = .ok (.iconst (-1), 1) := by decide +kernel
theorem dX11_hush_26 : decode cX11_hush 26 = .ok (.istore_n 3, 1) := by decide +kernel
theorem dX11_hush_27 : decode cX11_hush 27 = .ok (.iconst 0, 1) := by decide +kernel
theorem dX11_hush_28 : decode cX11_hush 28 = .ok (.istore 4, 2) := by decide +kernel
theorem dX11_hush_30 : decode cX11_hush 30 = .ok (.iconst 0, 1) := by decide +kernel
theorem dX11_hush_31 : decode cX11_hush 31 = .ok (.istore 5, 2) := by decide +kernel
theorem dX11_hush_33 : decode cX11_hush 33 = .ok (.iload 5, 2) := by decide +kernel
theorem dX11_hush_35 : decode cX11_hush 35 = .ok (.iconst 3, 1) := by decide +kernel
theorem dX11_hush_36 : decode cX11_hush 36 = .ok (.if_icmp .ge 85, 3) := by decide +kernel
theorem dX11_hush_39 : decode cX11_hush 39 = .ok (.iload_n 3, 1) := by decide +kernel
theorem dX11_hush_40 : decode cX11_hush 40 = .ok (.iconst (-1), 1) := by decide +kernel
theorem dX11_hush_41 : decode cX11_hush 41 = .ok (.if_icmp .ne 80, 3) := by decide +kernel
theorem dX11_hush_44 : decode cX11_hush 44 = .ok (.iconst 0, 1) := by decide +kernel
theorem dX11_hush_45 : decode cX11_hush 45 = .ok (.istore 6, 2) := by decide +kernel
theorem dX11_hush_47 : decode cX11_hush 47 = .ok (.iload 6, 2) := by decide +kernel
theorem dX11_hush_49 : decode cX11_hush 49 = .ok (.iconst 1, 1) := by decide +kernel
theorem dX11_hush_50 : decode cX11_hush 50 = .ok (.aload_n 0, 1) := by decide +kernel
theorem dX11_hush_51 : decode cX11_hush 51 = .ok (.invokevirtual 116, 3) := by decide +kernel
theorem dX11_hush_54 : decode cX11_hush 54 = .ok (.ishl, 1) := by decide +kernel
theorem dX11_hush_55 : decode cX11_hush 55 = .ok (.if_icmp .ge 60, 3) := by decide +kernel
theorem dX11_hush_58 : decode cX11_hush 58 = .ok (.iload 6, 2) := by decide +kernel
theorem dX11_hush_60 : decode cX11_hush 60 = .ok (.invokestatic 408, 3) := by decide +kernel
theorem dX11_hush_63 : decode cX11_hush 63 = .ok (.iload 5, 2) := by decide +kernel
theorem dX11_hush_65 : decode cX11_hush 65 = .ok (.if_icmp .eq 6, 3) := by decide +kernel
theorem dX11_hush_68 : decode cX11_hush 68 = .ok (.goto 41, 3) := by decide +kernel
theorem dX11_hush_71 : decode cX11_hush 71 = .ok (.aload_n 0, 1) := by decide +kernel
theorem dX11_hush_72 : decode cX11_hush 72 = .ok (.iload 6, 2) := by decide +kernel
theorem dX11_hush_74 : decode cX11_hush 74 = .ok (.putfield 358, 3) := by decide +kernel
theorem dX11_hush_77 : decode cX11_hush 77 = .ok (.aload_n 0, 1) := by decide +kernel
theorem dX11_hush_78 : decode cX11_hush 78 = .ok (.invokevirtual 361, 3) := by decide +kernel
theorem dX11_hush_81 : decode cX11_hush 81 = .ok (.aload_n 0, 1) := by decide +kernel
theorem dX11_hush_82 : decode cX11_hush 82 = .ok (.iconst 0, 1) := by decide +kernel
theorem dX11_hush_83 : decode cX11_hush 83 = .ok (.iconst 0, 1) := by decide +kernel
theorem dX11_hush_84 : decode cX11_hush 84 = .ok (.invokevirtual 382, 3) := by decide +kernel
theorem dX11_hush_87 : decode cX11_hush 87 = .ok (.iload_n 1, 1) := by decide +kernel
theorem dX11_hush_88 : decode cX11_hush 88 = .ok (.if_icmp .ge 6, 3) := by decide +kernel
theorem dX11_hush_91 : decode cX11_hush 91 = .ok (.goto 18, 3) := by decide +kernel
theorem dX11_hush_94 : decode cX11_hush 94 = .ok (.iload_n 3, 1) := by decide +kernel
theorem dX11_hush_95 : decode cX11_hush 95 = .ok (.iconst (-1), 1) := by decide +kernel
theorem dX11_hush_96 : decode cX11_hush 96 = .ok (.if_icmp .ne 8, 3) := by decide +kernel
theorem dX11_hush_99 : decode cX11_hush 99 = .ok (.iload 6, 2) := by decide +kernel
theorem dX11_hush_101 : decode cX11_hush 101 = .ok (.goto 4, 3) := by decide +kernel
theorem dX11_hush_104 : decode cX11_hush 104 = .ok (.iload_n 3, 1) := by decide +kernel
theorem dX11_hush_105 : decode cX11_hush 105 = .ok (.istore_n 3, 1) := by decide +kernel
theorem dX11_hush_106 : decode cX11_hush 106 = .ok (.iinc 4 1, 3) := by decide +kernel
theorem dX11_hush_109 : decode cX11_hush 109 = .ok (.iinc 6 1, 3) := by decide +kernel
theorem dX11_hush_112 : decode cX11_hush 112 = .ok (.goto (-65), 3) := by decide +kernel
theorem dX11_hush_115 : decode cX11_hush 115 = .ok (.iinc 5 1, 3) := by decide +kernel
theorem dX11_hush_118 : decode cX11_hush 118 = .ok (.goto (-85), 3) := by decide +kernel
theorem dX11_hush_121 : decode cX11_hush 121 = .ok (.iload_n 3, 1) := by decide +kernel
theorem dX11_hush_122 : decode cX11_hush 122 = .ok (.iconst (-1), 1) := by decide +kernel
theorem dX11_hush_123 : decode cX11_hush 123 = .ok (.if_icmp .ne 7, 3) := by decide +kernel
theorem dX11_hush_126 : decode cX11_hush 126 = .ok (.iconst (-1), 1) := by decide +kernel
theorem dX11_hush_127 : decode cX11_hush 127 = .ok (.goto 25, 3) := by decide +kernel
theorem dX11_hush_130 : decode cX11_hush 130 = .ok (.iload_n 2, 1) := by decide +kernel
theorem dX11_hush_131 : decode cX11_hush 131 = .ok (.ifCond .ne 10, 3) := by decide +kernel
theorem dX11_hush_134 : decode cX11_hush 134 = .ok (.iload_n 3, 1) := by decide +kernel
theorem dX11_hush_135 : decode cX11_hush 135 = .ok (.invokestatic 408, 3) := by decide +kernel
theorem dX11_hush_138 : decode cX11_hush 138 = .ok (.goto 14, 3) := by decide +kernel
theorem dX11_hush_141 : decode cX11_hush 141 = .ok (.iload_n 2, 1) := by decide +kernel
theorem dX11_hush_142 : decode cX11_hush 142 = .ok (.iconst 1, 1) := by decide +kernel
theorem dX11_hush_143 : decode cX11_hush 143 = .ok (.if_icmp .ne 7, 3) := by decide +kernel
theorem dX11_hush_146 : decode cX11_hush 146 = .ok (.iload_n 3, 1) := by decide +kernel
theorem dX11_hush_147 : decode cX11_hush 147 = .ok (.goto 5, 3) := by decide +kernel
theorem dX11_hush_150 : decode cX11_hush 150 = .ok (.iload 4, 2) := by decide +kernel
theorem dX11_hush_152 : decode cX11_hush 152 = .ok (.ireturn, 1) := by decide +kernel
def B_X11_hush_19 (Q : Int → st_S → Prop)    (σ : st_S) : Prop := Q (-1) σ
def B_X11_hush_109 (Q : Int → st_S → Prop)  (k33 : Int → Int → Int → Int → Int → st_S → Prop) (k47 : Int → Int → Int → Int → Int → Int → st_S → Prop) (l1 : Int) (l2 : Int) (l3 : Int) (l4 : Int) (l5 : Int) (l6 : Int) (σ : st_S) : Prop := ∀ x27 : Int, x27 = wr (l6 + 1) → k47 l1 l2 l3 l4 l5 x27 σ
def B_X11_hush_105 (Q : Int → st_S → Prop)  (k33 : Int → Int → Int → Int → Int → st_S → Prop) (k47 : Int → Int → Int → Int → Int → Int → st_S → Prop) (l1 : Int) (l2 : Int) (l4 : Int) (l5 : Int) (l6 : Int) (v0 : Int) (σ : st_S) : Prop := ∀ x28 : Int, x28 = wr (l4 + 1) → B_X11_hush_109 Q k33 k47 l1 l2 v0 x28 l5 l6 σ
def L_X11_hush_47 (Q : Int → st_S → Prop)  (k33 : Int → Int → Int → Int → Int → st_S → Prop) : Nat → Int → Int → Int → Int → Int → Int → st_S → Prop
  | 0 => fun _ _ _ _ _ _ _ => False
  | n + 1 => fun l1 l2 l3 l4 l5 l6 σ => wp_X11_people σ (fun r29 s30 => (o_shl 1 r29 ≤ l6 → ∀ x31 : Int, x31 = wr (l5 + 1) → k33 l1 l2 l3 l4 x31 s30) ∧ (¬ o_shl 1 r29 ≤ l6 → wp_X11_ones l6 s30 (fun r32 s33 => (r32 = l5 → ∀ s34 : st_S, s34 = sI s33 0 35 l6 → wp_X11_forgets s34 (fun s36 => wp_X11_longestFrom 13 0 0 s36 (fun r37 s38 => (l1 ≤ r37 → (¬ l3 = (-1) → B_X11_hush_105 Q k33 (L_X11_hush_47 Q k33 n) l1 l2 l4 l5 l6 l3 s38) ∧ (l3 = (-1) → B_X11_hush_105 Q k33 (L_X11_hush_47 Q k33 n) l1 l2 l4 l5 l6 l6 s38)) ∧ (¬ l1 ≤ r37 → B_X11_hush_109 Q k33 (L_X11_hush_47 Q k33 n) l1 l2 l3 l4 l5 l6 s38)))) ∧ (¬ r32 = l5 → B_X11_hush_109 Q k33 (L_X11_hush_47 Q k33 n) l1 l2 l3 l4 l5 l6 s33))))
def B_X11_hush_152 (Q : Int → st_S → Prop)   (v0 : Int) (σ : st_S) : Prop := Q v0 σ
def B_X11_hush_121 (Q : Int → st_S → Prop)   (l2 : Int) (l3 : Int) (l4 : Int) (σ : st_S) : Prop := (¬ l3 = (-1) → (¬ l2 = 0 → (¬ l2 = 1 → B_X11_hush_152 Q l4 σ) ∧ (l2 = 1 → B_X11_hush_152 Q l3 σ)) ∧ (l2 = 0 → wp_X11_ones l3 σ (fun r44 s45 => B_X11_hush_152 Q r44 s45))) ∧ (l3 = (-1) → B_X11_hush_152 Q (-1) σ)
def L_X11_hush_33 (Q : Int → st_S → Prop)   : Nat → Int → Int → Int → Int → Int → st_S → Prop
  | 0 => fun _ _ _ _ _ _ => False
  | n + 1 => fun l1 l2 l3 l4 l5 σ => (3 ≤ l5 → B_X11_hush_121 Q l2 l3 l4 σ) ∧ (¬ 3 ≤ l5 → (¬ l3 = (-1) → B_X11_hush_121 Q l2 l3 l4 σ) ∧ (l3 = (-1) → ∃ m47 : Nat, L_X11_hush_47 Q (L_X11_hush_33 Q n) m47 l1 l2 l3 l4 l5 0 σ))
def wp_X11_hush (a1 : Int) (a2 : Int) (σ : st_S) (Q : Int → st_S → Prop) : Prop := wp_X11_lies a1 1 10 σ (fun r50 s51 => (r50 = 0 → B_X11_hush_19 Q s51) ∧ (¬ r50 = 0 → wp_X11_lies a2 0 2 s51 (fun r52 s53 => (¬ r52 = 0 → wp_X11_looks s53 (fun s55 => ∃ m33 : Nat, L_X11_hush_33 Q m33 a1 a2 (-1) 0 0 s55)) ∧ (r52 = 0 → B_X11_hush_19 Q s53))))
set_option maxRecDepth 20000 in
theorem jb_X11_hush_19 {X : jj_X} {E : ev_E} {n0 hN : Nat} (hc : Cx X E cX11_hush 7 n0 hN RX11) (hm : eM E = 2) (hr : (xT X).sig.returnType = (some .int)) (hh : 144 ≤ hN) {Q : Int → st_S → Prop} {σ : st_S} (h : B_X11_hush_19 Q σ) : J X E 7 n0 0 0 (MQ (xB X) (qI E (n0 + 0) Q) (xA X) (xS X) 0 0 (eF E)) σ 19 [] [] := by
  have hh1 : 1 ≤ hN := by omega
  replace h : Q (-1) σ := h
  refine j_iconst hc dX11_hush_19 ?_
  exact j_iret hc hr (wlit (-1) (by decide)) h dX11_hush_20
set_option maxRecDepth 20000 in
theorem jb_X11_hush_109 {X : jj_X} {E : ev_E} {n0 hN : Nat} (hc : Cx X E cX11_hush 7 n0 hN RX11) (hm : eM E = 2) (hr : (xT X).sig.returnType = (some .int)) (hh : 144 ≤ hN) {Q : Int → st_S → Prop} {k33 : Int → Int → Int → Int → Int → st_S → Prop} (hk33 : ∀ {l1 : Int} {l2 : Int} {l3 : Int} {l4 : Int} {l5 : Int} (cl1 : wr l1 = l1) (cl2 : wr l2 = l2) (cl3 : wr l3 = l3) (cl4 : wr l4 = l4) (cl5 : wr l5 = l5) {σ : st_S}, k33 l1 l2 l3 l4 l5 σ → J X E 7 n0 0 0 (MQ (xB X) (qI E (n0 + 0) Q) (xA X) (xS X) 0 0 (eF E)) σ 33 [(0, vR E 0), (1, vI l1), (2, vI l2), (3, vI l3), (4, vI l4), (5, vI l5)] []) {k47 : Int → Int → Int → Int → Int → Int → st_S → Prop} (hk47 : ∀ {l1 : Int} {l2 : Int} {l3 : Int} {l4 : Int} {l5 : Int} {l6 : Int} (cl1 : wr l1 = l1) (cl2 : wr l2 = l2) (cl3 : wr l3 = l3) (cl4 : wr l4 = l4) (cl5 : wr l5 = l5) (cl6 : wr l6 = l6) {σ : st_S}, k47 l1 l2 l3 l4 l5 l6 σ → J X E 7 n0 0 0 (MQ (xB X) (qI E (n0 + 0) Q) (xA X) (xS X) 0 0 (eF E)) σ 47 [(0, vR E 0), (1, vI l1), (2, vI l2), (3, vI l3), (4, vI l4), (5, vI l5), (6, vI l6)] []) {l1 : Int} {l2 : Int} {l3 : Int} {l4 : Int} {l5 : Int} {l6 : Int} (cl1 : wr l1 = l1) (cl2 : wr l2 = l2) (cl3 : wr l3 = l3) (cl4 : wr l4 = l4) (cl5 : wr l5 = l5) (cl6 : wr l6 = l6) {σ : st_S} (h : B_X11_hush_109 Q k33 k47 l1 l2 l3 l4 l5 l6 σ) : J X E 7 n0 0 0 (MQ (xB X) (qI E (n0 + 0) Q) (xA X) (xS X) 0 0 (eF E)) σ 109 [(0, vR E 0), (1, vI l1), (2, vI l2), (3, vI l3), (4, vI l4), (5, vI l5), (6, vI l6)] [] := by
  have hh1 : 1 ≤ hN := by omega
  replace h : ∀ x27 : Int, x27 = wr (l6 + 1) → k47 l1 l2 l3 l4 l5 x27 σ := h
  obtain ⟨x27, ex27⟩ : ∃ y : Int, y = wr (l6 + 1) := ⟨_, rfl⟩
  have cx27 : wr x27 = x27 := by rw [ex27]; exact wr_wr _
  replace h := h x27 ex27
  refine j_iinc (lv' := [(6, vI x27), (0, vR E 0), (1, vI l1), (2, vI l2), (3, vI l3), (4, vI l4), (5, vI l5)]) hc 6 dX11_hush_109 rfl (by decide) ex27 rfl ?_
  refine j_goto (tgt := 47) hc dX11_hush_112 (by decide) ?_
  refine j_sub (lv' := [(0, vR E 0), (1, vI l1), (2, vI l2), (3, vI l3), (4, vI l4), (5, vI l5), (6, vI x27)]) [1, 2, 3, 4, 5, 6, 0] rfl ?_
  exact hk47 cl1 cl2 cl3 cl4 cl5 cx27 h
set_option maxRecDepth 20000 in
theorem jb_X11_hush_105 {X : jj_X} {E : ev_E} {n0 hN : Nat} (hc : Cx X E cX11_hush 7 n0 hN RX11) (hm : eM E = 2) (hr : (xT X).sig.returnType = (some .int)) (hh : 144 ≤ hN) {Q : Int → st_S → Prop} {k33 : Int → Int → Int → Int → Int → st_S → Prop} (hk33 : ∀ {l1 : Int} {l2 : Int} {l3 : Int} {l4 : Int} {l5 : Int} (cl1 : wr l1 = l1) (cl2 : wr l2 = l2) (cl3 : wr l3 = l3) (cl4 : wr l4 = l4) (cl5 : wr l5 = l5) {σ : st_S}, k33 l1 l2 l3 l4 l5 σ → J X E 7 n0 0 0 (MQ (xB X) (qI E (n0 + 0) Q) (xA X) (xS X) 0 0 (eF E)) σ 33 [(0, vR E 0), (1, vI l1), (2, vI l2), (3, vI l3), (4, vI l4), (5, vI l5)] []) {k47 : Int → Int → Int → Int → Int → Int → st_S → Prop} (hk47 : ∀ {l1 : Int} {l2 : Int} {l3 : Int} {l4 : Int} {l5 : Int} {l6 : Int} (cl1 : wr l1 = l1) (cl2 : wr l2 = l2) (cl3 : wr l3 = l3) (cl4 : wr l4 = l4) (cl5 : wr l5 = l5) (cl6 : wr l6 = l6) {σ : st_S}, k47 l1 l2 l3 l4 l5 l6 σ → J X E 7 n0 0 0 (MQ (xB X) (qI E (n0 + 0) Q) (xA X) (xS X) 0 0 (eF E)) σ 47 [(0, vR E 0), (1, vI l1), (2, vI l2), (3, vI l3), (4, vI l4), (5, vI l5), (6, vI l6)] []) {l1 : Int} {l2 : Int} {l4 : Int} {l5 : Int} {l6 : Int} {v0 : Int} (cl1 : wr l1 = l1) (cl2 : wr l2 = l2) (cl4 : wr l4 = l4) (cl5 : wr l5 = l5) (cl6 : wr l6 = l6) (cv0 : wr v0 = v0) {σ : st_S} (h : B_X11_hush_105 Q k33 k47 l1 l2 l4 l5 l6 v0 σ) : J X E 7 n0 0 0 (MQ (xB X) (qI E (n0 + 0) Q) (xA X) (xS X) 0 0 (eF E)) σ 105 [(0, vR E 0), (1, vI l1), (2, vI l2), (4, vI l4), (5, vI l5), (6, vI l6)] [vI v0] := by
  have hh1 : 1 ≤ hN := by omega
  replace h : ∀ x28 : Int, x28 = wr (l4 + 1) → B_X11_hush_109 Q k33 k47 l1 l2 v0 x28 l5 l6 σ := h
  refine j_istore_n (lv' := [(3, vI v0), (0, vR E 0), (1, vI l1), (2, vI l2), (4, vI l4), (5, vI l5), (6, vI l6)]) hc dX11_hush_105 rfl (by decide) rfl ?_
  obtain ⟨x28, ex28⟩ : ∃ y : Int, y = wr (l4 + 1) := ⟨_, rfl⟩
  have cx28 : wr x28 = x28 := by rw [ex28]; exact wr_wr _
  replace h := h x28 ex28
  refine j_iinc (lv' := [(4, vI x28), (3, vI v0), (0, vR E 0), (1, vI l1), (2, vI l2), (5, vI l5), (6, vI l6)]) hc 4 dX11_hush_106 rfl (by decide) ex28 rfl ?_
  refine j_sub (lv' := [(0, vR E 0), (1, vI l1), (2, vI l2), (3, vI v0), (4, vI x28), (5, vI l5), (6, vI l6)]) [2, 3, 4, 1, 0, 5, 6] rfl ?_
  exact jb_X11_hush_109 hc hm hr hh hk33 hk47 cl1 cl2 cv0 cx28 cl5 cl6 h
set_option maxRecDepth 20000 in
theorem jl_X11_hush_47 {X : jj_X} {E : ev_E} {n0 hN : Nat} (hc : Cx X E cX11_hush 7 n0 hN RX11) (hm : eM E = 2) (hr : (xT X).sig.returnType = (some .int)) (hh : 144 ≤ hN) {Q : Int → st_S → Prop} {k33 : Int → Int → Int → Int → Int → st_S → Prop} (hk33 : ∀ {l1 : Int} {l2 : Int} {l3 : Int} {l4 : Int} {l5 : Int} (cl1 : wr l1 = l1) (cl2 : wr l2 = l2) (cl3 : wr l3 = l3) (cl4 : wr l4 = l4) (cl5 : wr l5 = l5) {σ : st_S}, k33 l1 l2 l3 l4 l5 σ → J X E 7 n0 0 0 (MQ (xB X) (qI E (n0 + 0) Q) (xA X) (xS X) 0 0 (eF E)) σ 33 [(0, vR E 0), (1, vI l1), (2, vI l2), (3, vI l3), (4, vI l4), (5, vI l5)] []) : ∀ (n : Nat) {l1 : Int} {l2 : Int} {l3 : Int} {l4 : Int} {l5 : Int} {l6 : Int} (cl1 : wr l1 = l1) (cl2 : wr l2 = l2) (cl3 : wr l3 = l3) (cl4 : wr l4 = l4) (cl5 : wr l5 = l5) (cl6 : wr l6 = l6) {σ : st_S}, L_X11_hush_47 Q k33 n l1 l2 l3 l4 l5 l6 σ → J X E 7 n0 0 0 (MQ (xB X) (qI E (n0 + 0) Q) (xA X) (xS X) 0 0 (eF E)) σ 47 [(0, vR E 0), (1, vI l1), (2, vI l2), (3, vI l3), (4, vI l4), (5, vI l5), (6, vI l6)] [] := by
  have hh1 : 1 ≤ hN := by omega
  intro n
  induction n with
  | zero => intro l1 l2 l3 l4 l5 l6 cl1 cl2 cl3 cl4 cl5 cl6 σ h; exact h.elim
  | succ n ih =>
    intro l1 l2 l3 l4 l5 l6 cl1 cl2 cl3 cl4 cl5 cl6 σ h
    have hk47 : ∀ {l1 : Int} {l2 : Int} {l3 : Int} {l4 : Int} {l5 : Int} {l6 : Int} (cl1 : wr l1 = l1) (cl2 : wr l2 = l2) (cl3 : wr l3 = l3) (cl4 : wr l4 = l4) (cl5 : wr l5 = l5) (cl6 : wr l6 = l6) {σ : st_S}, L_X11_hush_47 Q k33 n l1 l2 l3 l4 l5 l6 σ → J X E 7 n0 0 0 (MQ (xB X) (qI E (n0 + 0) Q) (xA X) (xS X) 0 0 (eF E)) σ 47 [(0, vR E 0), (1, vI l1), (2, vI l2), (3, vI l3), (4, vI l4), (5, vI l5), (6, vI l6)] [] := ih
    replace h : wp_X11_people σ (fun r29 s30 => (o_shl 1 r29 ≤ l6 → ∀ x31 : Int, x31 = wr (l5 + 1) → k33 l1 l2 l3 l4 x31 s30) ∧ (¬ o_shl 1 r29 ≤ l6 → wp_X11_ones l6 s30 (fun r32 s33 => (r32 = l5 → ∀ s34 : st_S, s34 = sI s33 0 35 l6 → wp_X11_forgets s34 (fun s36 => wp_X11_longestFrom 13 0 0 s36 (fun r37 s38 => (l1 ≤ r37 → (¬ l3 = (-1) → B_X11_hush_105 Q k33 (L_X11_hush_47 Q k33 n) l1 l2 l4 l5 l6 l3 s38) ∧ (l3 = (-1) → B_X11_hush_105 Q k33 (L_X11_hush_47 Q k33 n) l1 l2 l4 l5 l6 l6 s38)) ∧ (¬ l1 ≤ r37 → B_X11_hush_109 Q k33 (L_X11_hush_47 Q k33 n) l1 l2 l3 l4 l5 l6 s38)))) ∧ (¬ r32 = l5 → B_X11_hush_109 Q k33 (L_X11_hush_47 Q k33 n) l1 l2 l3 l4 l5 l6 s33)))) := h
    refine j_iload hc 6 dX11_hush_47 rfl ?_
    refine j_iconst hc dX11_hush_49 ?_
    refine j_aload_nR hc 0 dX11_hush_50 rfl rfl ?_
    refine j_vI hc (k := 11) (by decide) (fun hv => Or.inl (sv_k hv hm rfl)) ml_RX11_116 mv_X11_people (As := []) (c_X11_people (cx_E hc) hm  h) rfl (by omega) (by decide) ⟨Nat.zero_le _, Nat.zero_le _⟩ (Nat.le_of_ble_eq_true rfl) rfl dX11_hush_51 (fun r29 s30 cr29 h => ?_)
    refine j_ishl hc dX11_hush_54 ?_
    refine j_ic_ge hc cl6 (cn_shl _ _) (tgt := 115) dX11_hush_55 (by decide) (fun q42 => ?_) (fun q42 => ?_)
    · replace h := h.1 q42
      obtain ⟨x31, ex31⟩ : ∃ y : Int, y = wr (l5 + 1) := ⟨_, rfl⟩
      have cx31 : wr x31 = x31 := by rw [ex31]; exact wr_wr _
      replace h := h x31 ex31
      refine j_iinc (lv' := [(5, vI x31), (0, vR E 0), (1, vI l1), (2, vI l2), (3, vI l3), (4, vI l4), (6, vI l6)]) hc 5 dX11_hush_115 rfl (by decide) ex31 rfl ?_
      refine j_goto (tgt := 33) hc dX11_hush_118 (by decide) ?_
      refine j_sub (lv' := [(0, vR E 0), (1, vI l1), (2, vI l2), (3, vI l3), (4, vI l4), (5, vI x31)]) [1, 2, 3, 4, 5, 0] rfl ?_
      exact hk33 cl1 cl2 cl3 cl4 cx31 h
    · replace h := h.2 q42
      refine j_iload hc 6 dX11_hush_58 rfl ?_
      refine j_sI hc ml_RX11_408 mv_X11_ones (As := [vI l6]) (c_X11_ones (cx_E hc) hm cl6 h) rfl (by omega) (by decide) ⟨Nat.zero_le _, Nat.zero_le _⟩ (Nat.le_of_ble_eq_true rfl) rfl dX11_hush_60 (fun r32 s33 cr32 h => ?_)
      refine j_iload hc 5 dX11_hush_63 rfl ?_
      refine j_ic_eq hc cr32 cl5 (tgt := 71) dX11_hush_65 (by decide) (fun q41 => ?_) (fun q41 => ?_)
      · replace h := h.1 q41
        refine j_aload_nR hc 0 dX11_hush_71 rfl rfl ?_
        refine j_iload hc 6 dX11_hush_72 rfl ?_
        refine j_putI hc fl_RX11_358 rfl rfl (fun hv => Or.inl (sv_k hv hm rfl)) cl6 dX11_hush_74 (fun s34 es34 => ?_)
        replace h := h s34 es34
        refine j_aload_nR hc 0 dX11_hush_77 rfl rfl ?_
        refine j_vV hc (k := 11) (by decide) (fun hv => Or.inl (sv_k hv hm rfl)) ml_RX11_361 mv_X11_forgets (As := []) (c_X11_forgets (cx_E hc) hm  h) rfl (by omega) (by decide) ⟨Nat.zero_le _, Nat.zero_le _⟩ (Nat.le_of_ble_eq_true rfl) rfl dX11_hush_78 (fun s36 h => ?_)
        refine j_aload_nR hc 0 dX11_hush_81 rfl rfl ?_
        refine j_iconst hc dX11_hush_82 ?_
        refine j_iconst hc dX11_hush_83 ?_
        refine j_vI hc (k := 11) (by decide) (fun hv => Or.inl (sv_k hv hm rfl)) ml_RX11_382 mv_X11_longestFrom (As := [vI 0, vI 0]) (c_X11_longestFrom (cx_E hc) hm 13 (wlit 0 (by decide)) (wlit 0 (by decide)) h) rfl (by omega) (by decide) ⟨Nat.zero_le _, Nat.zero_le _⟩ (Nat.le_of_ble_eq_true rfl) rfl dX11_hush_84 (fun r37 s38 cr37 h => ?_)
        refine j_iload_n hc 1 dX11_hush_87 rfl rfl ?_
        refine j_ic_ge hc cr37 cl1 (tgt := 94) dX11_hush_88 (by decide) (fun q40 => ?_) (fun q40 => ?_)
        · replace h := h.1 q40
          refine j_iload_n hc 3 dX11_hush_94 rfl rfl ?_
          refine j_iconst hc dX11_hush_95 ?_
          refine j_ic_ne hc cl3 (wlit (-1) (by decide)) (tgt := 104) dX11_hush_96 (by decide) (fun q39 => ?_) (fun q39 => ?_)
          · replace h := h.1 q39
            refine j_iload_n hc 3 dX11_hush_104 rfl rfl ?_
            refine j_sub (lv' := [(0, vR E 0), (1, vI l1), (2, vI l2), (4, vI l4), (5, vI l5), (6, vI l6)]) [0, 1, 2, 4, 5, 6] rfl ?_
            exact jb_X11_hush_105 hc hm hr hh hk33 hk47 cl1 cl2 cl4 cl5 cl6 cl3 h
          · replace h := h.2 q39
            refine j_iload hc 6 dX11_hush_99 rfl ?_
            refine j_goto (tgt := 105) hc dX11_hush_101 (by decide) ?_
            refine j_sub (lv' := [(0, vR E 0), (1, vI l1), (2, vI l2), (4, vI l4), (5, vI l5), (6, vI l6)]) [0, 1, 2, 4, 5, 6] rfl ?_
            exact jb_X11_hush_105 hc hm hr hh hk33 hk47 cl1 cl2 cl4 cl5 cl6 cl6 h
        · replace h := h.2 q40
          refine j_goto (tgt := 109) hc dX11_hush_91 (by decide) ?_
          refine j_sub (lv' := [(0, vR E 0), (1, vI l1), (2, vI l2), (3, vI l3), (4, vI l4), (5, vI l5), (6, vI l6)]) [0, 1, 2, 3, 4, 5, 6] rfl ?_
          exact jb_X11_hush_109 hc hm hr hh hk33 hk47 cl1 cl2 cl3 cl4 cl5 cl6 h
      · replace h := h.2 q41
        refine j_goto (tgt := 109) hc dX11_hush_68 (by decide) ?_
        refine j_sub (lv' := [(0, vR E 0), (1, vI l1), (2, vI l2), (3, vI l3), (4, vI l4), (5, vI l5), (6, vI l6)]) [0, 1, 2, 3, 4, 5, 6] rfl ?_
        exact jb_X11_hush_109 hc hm hr hh hk33 hk47 cl1 cl2 cl3 cl4 cl5 cl6 h
set_option maxRecDepth 20000 in
theorem jb_X11_hush_152 {X : jj_X} {E : ev_E} {n0 hN : Nat} (hc : Cx X E cX11_hush 7 n0 hN RX11) (hm : eM E = 2) (hr : (xT X).sig.returnType = (some .int)) (hh : 144 ≤ hN) {Q : Int → st_S → Prop} {v0 : Int} (cv0 : wr v0 = v0) {σ : st_S} (h : B_X11_hush_152 Q v0 σ) : J X E 7 n0 0 0 (MQ (xB X) (qI E (n0 + 0) Q) (xA X) (xS X) 0 0 (eF E)) σ 152 [] [vI v0] := by
  have hh1 : 1 ≤ hN := by omega
  replace h : Q v0 σ := h
  exact j_iret hc hr cv0 h dX11_hush_152
set_option maxRecDepth 20000 in
theorem jb_X11_hush_121 {X : jj_X} {E : ev_E} {n0 hN : Nat} (hc : Cx X E cX11_hush 7 n0 hN RX11) (hm : eM E = 2) (hr : (xT X).sig.returnType = (some .int)) (hh : 144 ≤ hN) {Q : Int → st_S → Prop} {l2 : Int} {l3 : Int} {l4 : Int} (cl2 : wr l2 = l2) (cl3 : wr l3 = l3) (cl4 : wr l4 = l4) {σ : st_S} (h : B_X11_hush_121 Q l2 l3 l4 σ) : J X E 7 n0 0 0 (MQ (xB X) (qI E (n0 + 0) Q) (xA X) (xS X) 0 0 (eF E)) σ 121 [(2, vI l2), (3, vI l3), (4, vI l4)] [] := by
  have hh1 : 1 ≤ hN := by omega
  replace h : (¬ l3 = (-1) → (¬ l2 = 0 → (¬ l2 = 1 → B_X11_hush_152 Q l4 σ) ∧ (l2 = 1 → B_X11_hush_152 Q l3 σ)) ∧ (l2 = 0 → wp_X11_ones l3 σ (fun r44 s45 => B_X11_hush_152 Q r44 s45))) ∧ (l3 = (-1) → B_X11_hush_152 Q (-1) σ) := h
  refine j_iload_n hc 1 dX11_hush_121 rfl rfl ?_
  refine j_iconst hc dX11_hush_122 ?_
  refine j_ic_ne hc cl3 (wlit (-1) (by decide)) (tgt := 130) dX11_hush_123 (by decide) (fun q47 => ?_) (fun q47 => ?_)
  · replace h := h.1 q47
    refine j_iload_n hc 0 dX11_hush_130 rfl rfl ?_
    refine j_if_ne hc cl2 (tgt := 141) dX11_hush_131 (by decide) (fun q46 => ?_) (fun q46 => ?_)
    · replace h := h.1 q46
      refine j_iload_n hc 0 dX11_hush_141 rfl rfl ?_
      refine j_iconst hc dX11_hush_142 ?_
      refine j_ic_ne hc cl2 (wlit 1 (by decide)) (tgt := 150) dX11_hush_143 (by decide) (fun q43 => ?_) (fun q43 => ?_)
      · replace h := h.1 q43
        refine j_iload hc 2 dX11_hush_150 rfl ?_
        refine j_sub (lv' := []) [] rfl ?_
        exact jb_X11_hush_152 hc hm hr hh cl4 h
      · replace h := h.2 q43
        refine j_iload_n hc 1 dX11_hush_146 rfl rfl ?_
        refine j_goto (tgt := 152) hc dX11_hush_147 (by decide) ?_
        refine j_sub (lv' := []) [] rfl ?_
        exact jb_X11_hush_152 hc hm hr hh cl3 h
    · replace h := h.2 q46
      refine j_iload_n hc 1 dX11_hush_134 rfl rfl ?_
      refine j_sI hc ml_RX11_408 mv_X11_ones (As := [vI l3]) (c_X11_ones (cx_E hc) hm cl3 h) rfl (by omega) (by decide) ⟨Nat.zero_le _, Nat.zero_le _⟩ (Nat.le_of_ble_eq_true rfl) rfl dX11_hush_135 (fun r44 s45 cr44 h => ?_)
      refine j_goto (tgt := 152) hc dX11_hush_138 (by decide) ?_
      refine j_sub (lv' := []) [] rfl ?_
      exact jb_X11_hush_152 hc hm hr hh cr44 h
  · replace h := h.2 q47
    refine j_iconst hc dX11_hush_126 ?_
    refine j_goto (tgt := 152) hc dX11_hush_127 (by decide) ?_
    refine j_sub (lv' := []) [] rfl ?_
    exact jb_X11_hush_152 hc hm hr hh (wlit (-1) (by decide)) h
set_option maxRecDepth 20000 in
theorem jl_X11_hush_33 {X : jj_X} {E : ev_E} {n0 hN : Nat} (hc : Cx X E cX11_hush 7 n0 hN RX11) (hm : eM E = 2) (hr : (xT X).sig.returnType = (some .int)) (hh : 144 ≤ hN) {Q : Int → st_S → Prop} : ∀ (n : Nat) {l1 : Int} {l2 : Int} {l3 : Int} {l4 : Int} {l5 : Int} (cl1 : wr l1 = l1) (cl2 : wr l2 = l2) (cl3 : wr l3 = l3) (cl4 : wr l4 = l4) (cl5 : wr l5 = l5) {σ : st_S}, L_X11_hush_33 Q n l1 l2 l3 l4 l5 σ → J X E 7 n0 0 0 (MQ (xB X) (qI E (n0 + 0) Q) (xA X) (xS X) 0 0 (eF E)) σ 33 [(0, vR E 0), (1, vI l1), (2, vI l2), (3, vI l3), (4, vI l4), (5, vI l5)] [] := by
  have hh1 : 1 ≤ hN := by omega
  intro n
  induction n with
  | zero => intro l1 l2 l3 l4 l5 cl1 cl2 cl3 cl4 cl5 σ h; exact h.elim
  | succ n ih =>
    intro l1 l2 l3 l4 l5 cl1 cl2 cl3 cl4 cl5 σ h
    have hk33 : ∀ {l1 : Int} {l2 : Int} {l3 : Int} {l4 : Int} {l5 : Int} (cl1 : wr l1 = l1) (cl2 : wr l2 = l2) (cl3 : wr l3 = l3) (cl4 : wr l4 = l4) (cl5 : wr l5 = l5) {σ : st_S}, L_X11_hush_33 Q n l1 l2 l3 l4 l5 σ → J X E 7 n0 0 0 (MQ (xB X) (qI E (n0 + 0) Q) (xA X) (xS X) 0 0 (eF E)) σ 33 [(0, vR E 0), (1, vI l1), (2, vI l2), (3, vI l3), (4, vI l4), (5, vI l5)] [] := ih
    replace h : (3 ≤ l5 → B_X11_hush_121 Q l2 l3 l4 σ) ∧ (¬ 3 ≤ l5 → (¬ l3 = (-1) → B_X11_hush_121 Q l2 l3 l4 σ) ∧ (l3 = (-1) → ∃ m47 : Nat, L_X11_hush_47 Q (L_X11_hush_33 Q n) m47 l1 l2 l3 l4 l5 0 σ)) := h
    refine j_iload hc 5 dX11_hush_33 rfl ?_
    refine j_iconst hc dX11_hush_35 ?_
    refine j_ic_ge hc cl5 (wlit 3 (by decide)) (tgt := 121) dX11_hush_36 (by decide) (fun q49 => ?_) (fun q49 => ?_)
    · replace h := h.1 q49
      refine j_sub (lv' := [(2, vI l2), (3, vI l3), (4, vI l4)]) [2, 3, 4] rfl ?_
      exact jb_X11_hush_121 hc hm hr hh cl2 cl3 cl4 h
    · replace h := h.2 q49
      refine j_iload_n hc 3 dX11_hush_39 rfl rfl ?_
      refine j_iconst hc dX11_hush_40 ?_
      refine j_ic_ne hc cl3 (wlit (-1) (by decide)) (tgt := 121) dX11_hush_41 (by decide) (fun q48 => ?_) (fun q48 => ?_)
      · replace h := h.1 q48
        refine j_sub (lv' := [(2, vI l2), (3, vI l3), (4, vI l4)]) [2, 3, 4] rfl ?_
        exact jb_X11_hush_121 hc hm hr hh cl2 cl3 cl4 h
      · replace h := h.2 q48
        refine j_iconst hc dX11_hush_44 ?_
        refine j_istore (lv' := [(6, vI 0), (0, vR E 0), (1, vI l1), (2, vI l2), (3, vI l3), (4, vI l4), (5, vI l5)]) hc dX11_hush_45 (by decide) rfl ?_
        obtain ⟨n47, h⟩ := h
        refine j_sub (lv' := [(0, vR E 0), (1, vI l1), (2, vI l2), (3, vI l3), (4, vI l4), (5, vI l5), (6, vI 0)]) [1, 2, 3, 4, 5, 6, 0] rfl ?_
        exact jl_X11_hush_47 hc hm hr hh hk33 n47 cl1 cl2 cl3 cl4 cl5 (wlit 0 (by decide)) h
set_option maxRecDepth 20000 in
theorem c_X11_hush {l : Launch} {E : ev_E} (hE : Eok E) (hm : eM E = 2) {a1 : Int} {a2 : Int} (ca1 : wr a1 = a1) (ca2 : wr a2 = a2) {σ : st_S} {Q : Int → st_S → Prop} (h : wp_X11_hush a1 a2 σ Q) : cM l yX11_hush cX11_hush 7 (some .int) E 144 0 0 [vR E 0, vI a1, vI a2] σ (qI E (gN σ + 0) Q) := by
  refine cM_of (lv := [(0, vR E 0), (1, vI a1), (2, vI a2)]) (by decide) hE (Nat.le_of_ble_eq_true rfl) (rfl) ?_
  intro X hX hc _ _ hr _ _
  subst hX
  have hh : 144 ≤ 144 := Nat.le_refl _
  have hh1 : 1 ≤ 144 := by omega
  replace h : wp_X11_lies a1 1 10 σ (fun r50 s51 => (r50 = 0 → B_X11_hush_19 Q s51) ∧ (¬ r50 = 0 → wp_X11_lies a2 0 2 s51 (fun r52 s53 => (¬ r52 = 0 → wp_X11_looks s53 (fun s55 => ∃ m33 : Nat, L_X11_hush_33 Q m33 a1 a2 (-1) 0 0 s55)) ∧ (r52 = 0 → B_X11_hush_19 Q s53)))) := h
  refine j_iload_n hc 1 dX11_hush_0 rfl rfl ?_
  refine j_iconst hc dX11_hush_1 ?_
  refine j_bipush hc dX11_hush_2 (by decide) ?_
  refine j_sI hc ml_RX11_106 mv_X11_lies (As := [vI a1, vI 1, vI 10]) (c_X11_lies (cx_E hc) hm ca1 (wlit 1 (by decide)) (wlit 10 (by decide)) h) rfl (by omega) (by decide) ⟨Nat.zero_le _, Nat.zero_le _⟩ (Nat.le_of_ble_eq_true rfl) rfl dX11_hush_4 (fun r50 s51 cr50 h => ?_)
  refine j_if_eq hc cr50 (tgt := 19) dX11_hush_7 (by decide) (fun q57 => ?_) (fun q57 => ?_)
  · replace h := h.1 q57
    refine j_sub (lv' := []) [] rfl ?_
    exact jb_X11_hush_19 hc hm hr hh h
  · replace h := h.2 q57
    refine j_iload_n hc 2 dX11_hush_10 rfl rfl ?_
    refine j_iconst hc dX11_hush_11 ?_
    refine j_iconst hc dX11_hush_12 ?_
    refine j_sI hc ml_RX11_106 mv_X11_lies (As := [vI a2, vI 0, vI 2]) (c_X11_lies (cx_E hc) hm ca2 (wlit 0 (by decide)) (wlit 2 (by decide)) h) rfl (by omega) (by decide) ⟨Nat.zero_le _, Nat.zero_le _⟩ (Nat.le_of_ble_eq_true rfl) rfl dX11_hush_13 (fun r52 s53 cr52 h => ?_)
    refine j_if_ne hc cr52 (tgt := 21) dX11_hush_16 (by decide) (fun q56 => ?_) (fun q56 => ?_)
    · replace h := h.1 q56
      refine j_aload_nR hc 0 dX11_hush_21 rfl rfl ?_
      refine j_vV hc (k := 11) (by decide) (fun hv => Or.inl (sv_k hv hm rfl)) ml_RX11_385 mv_X11_looks (As := []) (c_X11_looks (cx_E hc) hm  h) rfl (by omega) (by decide) ⟨Nat.zero_le _, Nat.zero_le _⟩ (Nat.le_of_ble_eq_true rfl) rfl dX11_hush_22 (fun s55 h => ?_)
      refine j_iconst hc dX11_hush_25 ?_
      refine j_istore_n (lv' := [(3, vI (-1)), (0, vR E 0), (1, vI a1), (2, vI a2)]) hc dX11_hush_26 rfl (by decide) rfl ?_
      refine j_iconst hc dX11_hush_27 ?_
      refine j_istore (lv' := [(4, vI 0), (3, vI (-1)), (0, vR E 0), (1, vI a1), (2, vI a2)]) hc dX11_hush_28 (by decide) rfl ?_
      refine j_iconst hc dX11_hush_30 ?_
      refine j_istore (lv' := [(5, vI 0), (4, vI 0), (3, vI (-1)), (0, vR E 0), (1, vI a1), (2, vI a2)]) hc dX11_hush_31 (by decide) rfl ?_
      obtain ⟨n33, h⟩ := h
      refine j_sub (lv' := [(0, vR E 0), (1, vI a1), (2, vI a2), (3, vI (-1)), (4, vI 0), (5, vI 0)]) [3, 4, 5, 2, 1, 0] rfl ?_
      exact jl_X11_hush_33 hc hm hr hh n33 ca1 ca2 (wlit (-1) (by decide)) (wlit 0 (by decide)) (wlit 0 (by decide)) h
    · replace h := h.2 q56
      refine j_sub (lv' := []) [] rfl ?_
      exact jb_X11_hush_19 hc hm hr hh h
-- LitStrangersModel.who(I)I
theorem dX11_who_0 : decode cX11_who 0 = .ok (.iload_n 1, 1) := by decide +kernel
theorem dX11_who_1 : decode cX11_who 1 = .ok (.iconst 0, 1) := by decide +kernel
theorem dX11_who_2 : decode cX11_who 2 = .ok (.bipush 10, 2) := by decide +kernel
theorem dX11_who_4 : decode cX11_who 4 = .ok (.invokestatic 106, 3) := by decide +kernel
theorem dX11_who_7 : decode cX11_who 7 = .ok (.ifCond .ne 5, 3) := by decide +kernel
theorem dX11_who_10 : decode cX11_who 10 = .ok (.iconst (-1), 1) := by decide +kernel
theorem dX11_who_11 : decode cX11_who 11 = .ok (.ireturn, 1) := by decide +kernel
theorem dX11_who_12 : decode cX11_who 12 = .ok (.aload_n 0, 1) := by decide +kernel
theorem dX11_who_13 : decode cX11_who 13 = .ok (.invokevirtual 385, 3) := by decide +kernel
theorem dX11_who_16 : decode cX11_who 16 = .ok (.iconst 0, 1) := by decide +kernel
theorem dX11_who_17 : decode cX11_who 17 = .ok (.istore_n 2, 1) := by decide +kernel
theorem dX11_who_18 : decode cX11_who 18 = .ok (.iconst 0, 1) := by decide +kernel
theorem dX11_who_19 : decode cX11_who 19 = .ok (.istore_n 3, 1) := by decide +kernel
theorem dX11_who_20 : decode cX11_who 20 = .ok (.iload_n 3, 1) := by decide +kernel
theorem dX11_who_21 : decode cX11_who 21 = .ok (.aload_n 0, 1) := by decide +kernel
theorem dX11_who_22 : decode cX11_who 22 = .ok (.invokevirtual 116, 3) := by decide +kernel
theorem dX11_who_25 : decode cX11_who 25 = .ok (.if_icmp .ge 55, 3) := by decide +kernel
theorem dX11_who_28 : decode cX11_who 28 = .ok (.aload_n 0, 1) := by decide +kernel
theorem dX11_who_29 : decode cX11_who 29 = .ok (.getfield 24, 3) := by decide +kernel
theorem dX11_who_32 : decode cX11_who 32 = .ok (.iconst 0, 1) := by decide +kernel
theorem dX11_who_33 : decode cX11_who 33 = .ok (.iload_n 3, 1) := by decide +kernel
theorem dX11_who_34 : decode cX11_who 34 = .ok (.iadd, 1) := by decide +kernel
theorem dX11_who_35 : decode cX11_who 35 = .ok (.iaload, 1) := by decide +kernel
theorem dX11_who_36 : decode cX11_who 36 = .ok (.iconst 3, 1) := by decide +kernel
theorem dX11_who_37 : decode cX11_who 37 = .ok (.if_icmp .ne 6, 3) := by decide +kernel
theorem dX11_who_40 : decode cX11_who 40 = .ok (.goto 34, 3) := by decide +kernel
theorem dX11_who_43 : decode cX11_who 43 = .ok (.aload_n 0, 1) := by decide +kernel
theorem dX11_who_44 : decode cX11_who 44 = .ok (.iconst 1, 1) := by decide +kernel
theorem dX11_who_45 : decode cX11_who 45 = .ok (.iload_n 3, 1) := by decide +kernel
theorem dX11_who_46 : decode cX11_who 46 = .ok (.ishl, 1) := by decide +kernel
theorem dX11_who_47 : decode cX11_who 47 = .ok (.putfield 355, 3) := by decide +kernel
theorem dX11_who_50 : decode cX11_who 50 = .ok (.aload_n 0, 1) := by decide +kernel
theorem dX11_who_51 : decode cX11_who 51 = .ok (.invokevirtual 361, 3) := by decide +kernel
theorem dX11_who_54 : decode cX11_who 54 = .ok (.iload_n 2, 1) := by decide +kernel
theorem dX11_who_55 : decode cX11_who 55 = .ok (.aload_n 0, 1) := by decide +kernel
theorem dX11_who_56 : decode cX11_who 56 = .ok (.iconst 0, 1) := by decide +kernel
theorem dX11_who_57 : decode cX11_who 57 = .ok (.iconst 0, 1) := by decide +kernel
theorem dX11_who_58 : decode cX11_who 58 = .ok (.invokevirtual 382, 3) := by decide +kernel
theorem dX11_who_61 : decode cX11_who 61 = .ok (.iload_n 1, 1) := by decide +kernel
theorem dX11_who_62 : decode cX11_who 62 = .ok (.if_icmp .ne 9, 3) := by decide +kernel
theorem dX11_who_65 : decode cX11_who 65 = .ok (.iconst 1, 1) := by decide +kernel
theorem dX11_who_66 : decode cX11_who 66 = .ok (.iload_n 3, 1) := by decide +kernel
theorem dX11_who_67 : decode cX11_who 67 = .ok (.ishl, 1) := by decide +kernel
theorem dX11_who_68 : decode cX11_who 68 = .ok (.goto 4, 3) := by decide +kernel
theorem dX11_who_71 : decode cX11_who 71 = .ok (.iconst 0, 1) := by decide +kernel
theorem dX11_who_72 : decode cX11_who 72 = .ok (.ior, 1) := by decide +kernel
theorem dX11_who_73 : decode cX11_who 73 = .ok (.istore_n 2, 1) := by decide +kernel
theorem dX11_who_74 : decode cX11_who 74 = .ok (.iinc 3 1, 3) := by decide +kernel
theorem dX11_who_77 : decode cX11_who 77 = .ok (.goto (-57), 3) := by decide +kernel
theorem dX11_who_80 : decode cX11_who 80 = .ok (.iload_n 2, 1) := by decide +kernel
theorem dX11_who_81 : decode cX11_who 81 = .ok (.ireturn, 1) := by decide +kernel
def B_X11_who_74 (Q : Int → st_S → Prop)  (k20 : Int → Int → Int → st_S → Prop) (l1 : Int) (l2 : Int) (l3 : Int) (σ : st_S) : Prop := ∀ x19 : Int, x19 = wr (l3 + 1) → k20 l1 l2 x19 σ
def B_X11_who_72 (Q : Int → st_S → Prop)  (k20 : Int → Int → Int → st_S → Prop) (l1 : Int) (l3 : Int) (v0 : Int) (v1 : Int) (σ : st_S) : Prop := ∀ x20 : Int, x20 = o_or v1 v0 → B_X11_who_74 Q k20 l1 x20 l3 σ
def L_X11_who_20 (Q : Int → st_S → Prop)   : Nat → Int → Int → Int → st_S → Prop
  | 0 => fun _ _ _ _ => False
  | n + 1 => fun l1 l2 l3 σ => wp_X11_people σ (fun r21 s22 => (r21 ≤ l3 → Q l2 s22) ∧ (¬ r21 ≤ l3 → ix (wr (0 + l3)) 5866 ∧ (¬ gI s22 2 (Int.toNat (wr (0 + l3))) = 3 → ∀ s25 : st_S, s25 = sI s22 0 34 (o_shl 1 l3) → wp_X11_forgets s25 (fun s27 => wp_X11_longestFrom 13 0 0 s27 (fun r28 s29 => (¬ r28 = l1 → B_X11_who_72 Q (L_X11_who_20 Q n) l1 l3 0 l2 s29) ∧ (r28 = l1 → B_X11_who_72 Q (L_X11_who_20 Q n) l1 l3 (o_shl 1 l3) l2 s29)))) ∧ (gI s22 2 (Int.toNat (wr (0 + l3))) = 3 → B_X11_who_74 Q (L_X11_who_20 Q n) l1 l2 l3 s22)))
def wp_X11_who (a1 : Int) (σ : st_S) (Q : Int → st_S → Prop) : Prop := wp_X11_lies a1 0 10 σ (fun r33 s34 => (¬ r33 = 0 → wp_X11_looks s34 (fun s36 => ∃ m20 : Nat, L_X11_who_20 Q m20 a1 0 0 s36)) ∧ (r33 = 0 → Q (-1) s34))
set_option maxRecDepth 20000 in
theorem jb_X11_who_74 {X : jj_X} {E : ev_E} {n0 hN : Nat} (hc : Cx X E cX11_who 4 n0 hN RX11) (hm : eM E = 2) (hr : (xT X).sig.returnType = (some .int)) (hh : 144 ≤ hN) {Q : Int → st_S → Prop} {k20 : Int → Int → Int → st_S → Prop} (hk20 : ∀ {l1 : Int} {l2 : Int} {l3 : Int} (cl1 : wr l1 = l1) (cl2 : wr l2 = l2) (cl3 : wr l3 = l3) {σ : st_S}, k20 l1 l2 l3 σ → J X E 4 n0 0 0 (MQ (xB X) (qI E (n0 + 0) Q) (xA X) (xS X) 0 0 (eF E)) σ 20 [(0, vR E 0), (1, vI l1), (2, vI l2), (3, vI l3)] []) {l1 : Int} {l2 : Int} {l3 : Int} (cl1 : wr l1 = l1) (cl2 : wr l2 = l2) (cl3 : wr l3 = l3) {σ : st_S} (h : B_X11_who_74 Q k20 l1 l2 l3 σ) : J X E 4 n0 0 0 (MQ (xB X) (qI E (n0 + 0) Q) (xA X) (xS X) 0 0 (eF E)) σ 74 [(0, vR E 0), (1, vI l1), (2, vI l2), (3, vI l3)] [] := by
  have hh1 : 1 ≤ hN := by omega
  replace h : ∀ x19 : Int, x19 = wr (l3 + 1) → k20 l1 l2 x19 σ := h
  obtain ⟨x19, ex19⟩ : ∃ y : Int, y = wr (l3 + 1) := ⟨_, rfl⟩
  have cx19 : wr x19 = x19 := by rw [ex19]; exact wr_wr _
  replace h := h x19 ex19
  refine j_iinc (lv' := [(3, vI x19), (0, vR E 0), (1, vI l1), (2, vI l2)]) hc 3 dX11_who_74 rfl (by decide) ex19 rfl ?_
  refine j_goto (tgt := 20) hc dX11_who_77 (by decide) ?_
  refine j_sub (lv' := [(0, vR E 0), (1, vI l1), (2, vI l2), (3, vI x19)]) [1, 2, 3, 0] rfl ?_
  exact hk20 cl1 cl2 cx19 h
set_option maxRecDepth 20000 in
theorem jb_X11_who_72 {X : jj_X} {E : ev_E} {n0 hN : Nat} (hc : Cx X E cX11_who 4 n0 hN RX11) (hm : eM E = 2) (hr : (xT X).sig.returnType = (some .int)) (hh : 144 ≤ hN) {Q : Int → st_S → Prop} {k20 : Int → Int → Int → st_S → Prop} (hk20 : ∀ {l1 : Int} {l2 : Int} {l3 : Int} (cl1 : wr l1 = l1) (cl2 : wr l2 = l2) (cl3 : wr l3 = l3) {σ : st_S}, k20 l1 l2 l3 σ → J X E 4 n0 0 0 (MQ (xB X) (qI E (n0 + 0) Q) (xA X) (xS X) 0 0 (eF E)) σ 20 [(0, vR E 0), (1, vI l1), (2, vI l2), (3, vI l3)] []) {l1 : Int} {l3 : Int} {v0 : Int} {v1 : Int} (cl1 : wr l1 = l1) (cl3 : wr l3 = l3) (cv0 : wr v0 = v0) {σ : st_S} (h : B_X11_who_72 Q k20 l1 l3 v0 v1 σ) : J X E 4 n0 0 0 (MQ (xB X) (qI E (n0 + 0) Q) (xA X) (xS X) 0 0 (eF E)) σ 72 [(0, vR E 0), (1, vI l1), (3, vI l3)] [vI v0, vI v1] := by
  have hh1 : 1 ≤ hN := by omega
  replace h : ∀ x20 : Int, x20 = o_or v1 v0 → B_X11_who_74 Q k20 l1 x20 l3 σ := h
  refine j_ior hc dX11_who_72 ?_
  refine j_c (cn_or _ _) (fun x20 ex20 cx20 => ?_)
  replace h := h x20 ex20
  refine j_istore_n (lv' := [(2, vI x20), (0, vR E 0), (1, vI l1), (3, vI l3)]) hc dX11_who_73 rfl (by decide) rfl ?_
  refine j_sub (lv' := [(0, vR E 0), (1, vI l1), (2, vI x20), (3, vI l3)]) [1, 2, 0, 3] rfl ?_
  exact jb_X11_who_74 hc hm hr hh hk20 cl1 cx20 cl3 h
set_option maxRecDepth 20000 in
theorem jl_X11_who_20 {X : jj_X} {E : ev_E} {n0 hN : Nat} (hc : Cx X E cX11_who 4 n0 hN RX11) (hm : eM E = 2) (hr : (xT X).sig.returnType = (some .int)) (hh : 144 ≤ hN) {Q : Int → st_S → Prop} : ∀ (n : Nat) {l1 : Int} {l2 : Int} {l3 : Int} (cl1 : wr l1 = l1) (cl2 : wr l2 = l2) (cl3 : wr l3 = l3) {σ : st_S}, L_X11_who_20 Q n l1 l2 l3 σ → J X E 4 n0 0 0 (MQ (xB X) (qI E (n0 + 0) Q) (xA X) (xS X) 0 0 (eF E)) σ 20 [(0, vR E 0), (1, vI l1), (2, vI l2), (3, vI l3)] [] := by
  have hh1 : 1 ≤ hN := by omega
  intro n
  induction n with
  | zero => intro l1 l2 l3 cl1 cl2 cl3 σ h; exact h.elim
  | succ n ih =>
    intro l1 l2 l3 cl1 cl2 cl3 σ h
    have hk20 : ∀ {l1 : Int} {l2 : Int} {l3 : Int} (cl1 : wr l1 = l1) (cl2 : wr l2 = l2) (cl3 : wr l3 = l3) {σ : st_S}, L_X11_who_20 Q n l1 l2 l3 σ → J X E 4 n0 0 0 (MQ (xB X) (qI E (n0 + 0) Q) (xA X) (xS X) 0 0 (eF E)) σ 20 [(0, vR E 0), (1, vI l1), (2, vI l2), (3, vI l3)] [] := ih
    replace h : wp_X11_people σ (fun r21 s22 => (r21 ≤ l3 → Q l2 s22) ∧ (¬ r21 ≤ l3 → ix (wr (0 + l3)) 5866 ∧ (¬ gI s22 2 (Int.toNat (wr (0 + l3))) = 3 → ∀ s25 : st_S, s25 = sI s22 0 34 (o_shl 1 l3) → wp_X11_forgets s25 (fun s27 => wp_X11_longestFrom 13 0 0 s27 (fun r28 s29 => (¬ r28 = l1 → B_X11_who_72 Q (L_X11_who_20 Q n) l1 l3 0 l2 s29) ∧ (r28 = l1 → B_X11_who_72 Q (L_X11_who_20 Q n) l1 l3 (o_shl 1 l3) l2 s29)))) ∧ (gI s22 2 (Int.toNat (wr (0 + l3))) = 3 → B_X11_who_74 Q (L_X11_who_20 Q n) l1 l2 l3 s22))) := h
    refine j_iload_n hc 3 dX11_who_20 rfl rfl ?_
    refine j_aload_nR hc 0 dX11_who_21 rfl rfl ?_
    refine j_vI hc (k := 11) (by decide) (fun hv => Or.inl (sv_k hv hm rfl)) ml_RX11_116 mv_X11_people (As := []) (c_X11_people (cx_E hc) hm  h) rfl (by omega) (by decide) ⟨Nat.zero_le _, Nat.zero_le _⟩ (Nat.le_of_ble_eq_true rfl) rfl dX11_who_22 (fun r21 s22 cr21 h => ?_)
    refine j_ic_ge hc cl3 cr21 (tgt := 80) dX11_who_25 (by decide) (fun q32 => ?_) (fun q32 => ?_)
    · replace h := h.1 q32
      refine j_iload_n hc 2 dX11_who_80 rfl rfl ?_
      exact j_iret hc hr cl2 h dX11_who_81
    · replace h := h.2 q32
      refine j_aload_nR hc 0 dX11_who_28 rfl rfl ?_
      refine j_getR (c' := 2) hc fl_RX11_24 rfl rfl (fun hv => (sv_k hv hm rfl)) dX11_who_29 ?_
      refine j_iconst hc dX11_who_32 ?_
      refine j_iload_n hc 3 dX11_who_33 rfl rfl ?_
      refine j_iadd hc dX11_who_34 ?_
      obtain ⟨b23, h⟩ := h
      refine j_iald (jn := (Int.toNat (wr (0 + l3)))) hc (fun hv => sv_kl hv hm rfl) rfl b23 rfl dX11_who_35 (fun cn24 => ?_)
      refine j_iconst hc dX11_who_36 ?_
      refine j_ic_ne hc cn24 (wlit 3 (by decide)) (tgt := 43) dX11_who_37 (by decide) (fun q31 => ?_) (fun q31 => ?_)
      · replace h := h.1 q31
        refine j_aload_nR hc 0 dX11_who_43 rfl rfl ?_
        refine j_iconst hc dX11_who_44 ?_
        refine j_iload_n hc 3 dX11_who_45 rfl rfl ?_
        refine j_ishl hc dX11_who_46 ?_
        refine j_putI hc fl_RX11_355 rfl rfl (fun hv => Or.inl (sv_k hv hm rfl)) (cn_shl _ _) dX11_who_47 (fun s25 es25 => ?_)
        replace h := h s25 es25
        refine j_aload_nR hc 0 dX11_who_50 rfl rfl ?_
        refine j_vV hc (k := 11) (by decide) (fun hv => Or.inl (sv_k hv hm rfl)) ml_RX11_361 mv_X11_forgets (As := []) (c_X11_forgets (cx_E hc) hm  h) rfl (by omega) (by decide) ⟨Nat.zero_le _, Nat.zero_le _⟩ (Nat.le_of_ble_eq_true rfl) rfl dX11_who_51 (fun s27 h => ?_)
        refine j_iload_n hc 2 dX11_who_54 rfl rfl ?_
        refine j_aload_nR hc 0 dX11_who_55 rfl rfl ?_
        refine j_iconst hc dX11_who_56 ?_
        refine j_iconst hc dX11_who_57 ?_
        refine j_vI hc (k := 11) (by decide) (fun hv => Or.inl (sv_k hv hm rfl)) ml_RX11_382 mv_X11_longestFrom (As := [vI 0, vI 0]) (c_X11_longestFrom (cx_E hc) hm 13 (wlit 0 (by decide)) (wlit 0 (by decide)) h) rfl (by omega) (by decide) ⟨Nat.zero_le _, Nat.zero_le _⟩ (Nat.le_of_ble_eq_true rfl) rfl dX11_who_58 (fun r28 s29 cr28 h => ?_)
        refine j_iload_n hc 1 dX11_who_61 rfl rfl ?_
        refine j_ic_ne hc cr28 cl1 (tgt := 71) dX11_who_62 (by decide) (fun q30 => ?_) (fun q30 => ?_)
        · replace h := h.1 q30
          refine j_iconst hc dX11_who_71 ?_
          refine j_sub (lv' := [(0, vR E 0), (1, vI l1), (3, vI l3)]) [0, 1, 3] rfl ?_
          exact jb_X11_who_72 hc hm hr hh hk20 cl1 cl3 (wlit 0 (by decide)) h
        · replace h := h.2 q30
          refine j_iconst hc dX11_who_65 ?_
          refine j_iload_n hc 3 dX11_who_66 rfl rfl ?_
          refine j_ishl hc dX11_who_67 ?_
          refine j_goto (tgt := 72) hc dX11_who_68 (by decide) ?_
          refine j_sub (lv' := [(0, vR E 0), (1, vI l1), (3, vI l3)]) [0, 1, 3] rfl ?_
          exact jb_X11_who_72 hc hm hr hh hk20 cl1 cl3 (cn_shl _ _) h
      · replace h := h.2 q31
        refine j_goto (tgt := 74) hc dX11_who_40 (by decide) ?_
        refine j_sub (lv' := [(0, vR E 0), (1, vI l1), (2, vI l2), (3, vI l3)]) [0, 1, 2, 3] rfl ?_
        exact jb_X11_who_74 hc hm hr hh hk20 cl1 cl2 cl3 h
set_option maxRecDepth 20000 in
theorem c_X11_who {l : Launch} {E : ev_E} (hE : Eok E) (hm : eM E = 2) {a1 : Int} (ca1 : wr a1 = a1) {σ : st_S} {Q : Int → st_S → Prop} (h : wp_X11_who a1 σ Q) : cM l yX11_who cX11_who 4 (some .int) E 144 0 0 [vR E 0, vI a1] σ (qI E (gN σ + 0) Q) := by
  refine cM_of (lv := [(0, vR E 0), (1, vI a1)]) (by decide) hE (Nat.le_of_ble_eq_true rfl) (rfl) ?_
  intro X hX hc _ _ hr _ _
  subst hX
  have hh : 144 ≤ 144 := Nat.le_refl _
  have hh1 : 1 ≤ 144 := by omega
  replace h : wp_X11_lies a1 0 10 σ (fun r33 s34 => (¬ r33 = 0 → wp_X11_looks s34 (fun s36 => ∃ m20 : Nat, L_X11_who_20 Q m20 a1 0 0 s36)) ∧ (r33 = 0 → Q (-1) s34)) := h
  refine j_iload_n hc 1 dX11_who_0 rfl rfl ?_
  refine j_iconst hc dX11_who_1 ?_
  refine j_bipush hc dX11_who_2 (by decide) ?_
  refine j_sI hc ml_RX11_106 mv_X11_lies (As := [vI a1, vI 0, vI 10]) (c_X11_lies (cx_E hc) hm ca1 (wlit 0 (by decide)) (wlit 10 (by decide)) h) rfl (by omega) (by decide) ⟨Nat.zero_le _, Nat.zero_le _⟩ (Nat.le_of_ble_eq_true rfl) rfl dX11_who_4 (fun r33 s34 cr33 h => ?_)
  refine j_if_ne hc cr33 (tgt := 12) dX11_who_7 (by decide) (fun q37 => ?_) (fun q37 => ?_)
  · replace h := h.1 q37
    refine j_aload_nR hc 0 dX11_who_12 rfl rfl ?_
    refine j_vV hc (k := 11) (by decide) (fun hv => Or.inl (sv_k hv hm rfl)) ml_RX11_385 mv_X11_looks (As := []) (c_X11_looks (cx_E hc) hm  h) rfl (by omega) (by decide) ⟨Nat.zero_le _, Nat.zero_le _⟩ (Nat.le_of_ble_eq_true rfl) rfl dX11_who_13 (fun s36 h => ?_)
    refine j_iconst hc dX11_who_16 ?_
    refine j_istore_n (lv' := [(2, vI 0), (0, vR E 0), (1, vI a1)]) hc dX11_who_17 rfl (by decide) rfl ?_
    refine j_iconst hc dX11_who_18 ?_
    refine j_istore_n (lv' := [(3, vI 0), (2, vI 0), (0, vR E 0), (1, vI a1)]) hc dX11_who_19 rfl (by decide) rfl ?_
    obtain ⟨n20, h⟩ := h
    refine j_sub (lv' := [(0, vR E 0), (1, vI a1), (2, vI 0), (3, vI 0)]) [2, 3, 1, 0] rfl ?_
    exact jl_X11_who_20 hc hm hr hh n20 ca1 (wlit 0 (by decide)) (wlit 0 (by decide)) h
  · replace h := h.2 q37
    refine j_iconst hc dX11_who_10 ?_
    exact j_iret hc hr (wlit (-1) (by decide)) h dX11_who_11
-- LitStrangersModel.stopped()I
theorem dX11_stopped_0 : decode cX11_stopped 0 = .ok (.aload_n 0, 1) := by decide +kernel
theorem dX11_stopped_1 : decode cX11_stopped 1 = .ok (.getfield 100, 3) := by decide +kernel
theorem dX11_stopped_4 : decode cX11_stopped 4 = .ok (.ireturn, 1) := by decide +kernel
def wp_X11_stopped  (σ : st_S) (Q : Int → st_S → Prop) : Prop := Q (gI σ 0 41) σ
set_option maxRecDepth 20000 in
theorem c_X11_stopped {l : Launch} {E : ev_E} (hE : Eok E) (hm : eM E = 2) {σ : st_S} {Q : Int → st_S → Prop} (h : wp_X11_stopped σ Q) : cM l yX11_stopped cX11_stopped 1 (some .int) E 1 0 0 [vR E 0] σ (qI E (gN σ + 0) Q) := by
  refine cM_of (lv := [(0, vR E 0)]) (by decide) hE (Nat.le_of_ble_eq_true rfl) (rfl) ?_
  intro X hX hc _ _ hr _ _
  subst hX
  have hh : 1 ≤ 1 := Nat.le_refl _
  have hh1 : 1 ≤ 1 := by omega
  replace h : Q (gI σ 0 41) σ := h
  refine j_aload_nR hc 0 dX11_stopped_0 rfl rfl ?_
  refine j_getI hc fl_RX11_100 (Or.inl rfl) (fun hv => Or.inl (sv_k hv hm rfl)) dX11_stopped_1 (fun cn2 => ?_)
  exact j_iret hc hr cn2 h dX11_stopped_4
-- LitStrangersModel.goesAlong(IZ)V
theorem dX11_goesAlong_0 : decode cX11_goesAlong 0 = .ok (.aload_n 0, 1) := by decide +kernel
theorem dX11_goesAlong_1 : decode cX11_goesAlong 1 = .ok (.bipush 19, 2) := by decide +kernel
theorem dX11_goesAlong_3 : decode cX11_goesAlong 3 = .ok (.putfield 220, 3) := by decide +kernel
theorem dX11_goesAlong_6 : decode cX11_goesAlong 6 = .ok (.aload_n 0, 1) := by decide +kernel
theorem dX11_goesAlong_7 : decode cX11_goesAlong 7 = .ok (.iload_n 1, 1) := by decide +kernel
theorem dX11_goesAlong_8 : decode cX11_goesAlong 8 = .ok (.putfield 245, 3) := by decide +kernel
theorem dX11_goesAlong_11 : decode cX11_goesAlong 11 = .ok (.aload_n 0, 1) := by decide +kernel
theorem dX11_goesAlong_12 : decode cX11_goesAlong 12 = .ok (.getfield 59, 3) := by decide +kernel
theorem dX11_goesAlong_15 : decode cX11_goesAlong 15 = .ok (.iconst 0, 1) := by decide +kernel
theorem dX11_goesAlong_16 : decode cX11_goesAlong 16 = .ok (.aload_n 0, 1) := by decide +kernel
theorem dX11_goesAlong_17 : decode cX11_goesAlong 17 = .ok (.getfield 24, 3) := by decide +kernel
theorem dX11_goesAlong_20 : decode cX11_goesAlong 20 = .ok (.bipush 33, 2) := by decide +kernel
theorem dX11_goesAlong_22 : decode cX11_goesAlong 22 = .ok (.iaload, 1) := by decide +kernel
theorem dX11_goesAlong_23 : decode cX11_goesAlong 23 = .ok (.iastore, 1) := by decide +kernel
theorem dX11_goesAlong_24 : decode cX11_goesAlong 24 = .ok (.aload_n 0, 1) := by decide +kernel
theorem dX11_goesAlong_25 : decode cX11_goesAlong 25 = .ok (.getfield 59, 3) := by decide +kernel
theorem dX11_goesAlong_28 : decode cX11_goesAlong 28 = .ok (.iconst 1, 1) := by decide +kernel
theorem dX11_goesAlong_29 : decode cX11_goesAlong 29 = .ok (.aload_n 0, 1) := by decide +kernel
theorem dX11_goesAlong_30 : decode cX11_goesAlong 30 = .ok (.getfield 24, 3) := by decide +kernel
theorem dX11_goesAlong_33 : decode cX11_goesAlong 33 = .ok (.bipush 30, 2) := by decide +kernel
theorem dX11_goesAlong_35 : decode cX11_goesAlong 35 = .ok (.iaload, 1) := by decide +kernel
theorem dX11_goesAlong_36 : decode cX11_goesAlong 36 = .ok (.iastore, 1) := by decide +kernel
theorem dX11_goesAlong_37 : decode cX11_goesAlong 37 = .ok (.aload_n 0, 1) := by decide +kernel
theorem dX11_goesAlong_38 : decode cX11_goesAlong 38 = .ok (.getfield 59, 3) := by decide +kernel
theorem dX11_goesAlong_41 : decode cX11_goesAlong 41 = .ok (.iconst 2, 1) := by decide +kernel
theorem dX11_goesAlong_42 : decode cX11_goesAlong 42 = .ok (.aload_n 0, 1) := by decide +kernel
theorem dX11_goesAlong_43 : decode cX11_goesAlong 43 = .ok (.getfield 24, 3) := by decide +kernel
theorem dX11_goesAlong_46 : decode cX11_goesAlong 46 = .ok (.bipush 31, 2) := by decide +kernel
theorem dX11_goesAlong_48 : decode cX11_goesAlong 48 = .ok (.iaload, 1) := by decide +kernel
theorem dX11_goesAlong_49 : decode cX11_goesAlong 49 = .ok (.iastore, 1) := by decide +kernel
theorem dX11_goesAlong_50 : decode cX11_goesAlong 50 = .ok (.aload_n 0, 1) := by decide +kernel
theorem dX11_goesAlong_51 : decode cX11_goesAlong 51 = .ok (.getfield 59, 3) := by decide +kernel
theorem dX11_goesAlong_54 : decode cX11_goesAlong 54 = .ok (.iconst 3, 1) := by decide +kernel
theorem dX11_goesAlong_55 : decode cX11_goesAlong 55 = .ok (.aload_n 0, 1) := by decide +kernel
theorem dX11_goesAlong_56 : decode cX11_goesAlong 56 = .ok (.getfield 411, 3) := by decide +kernel
theorem dX11_goesAlong_59 : decode cX11_goesAlong 59 = .ok (.iastore, 1) := by decide +kernel
theorem dX11_goesAlong_60 : decode cX11_goesAlong 60 = .ok (.aload_n 0, 1) := by decide +kernel
theorem dX11_goesAlong_61 : decode cX11_goesAlong 61 = .ok (.getfield 59, 3) := by decide +kernel
theorem dX11_goesAlong_64 : decode cX11_goesAlong 64 = .ok (.iconst 4, 1) := by decide +kernel
theorem dX11_goesAlong_65 : decode cX11_goesAlong 65 = .ok (.aload_n 0, 1) := by decide +kernel
theorem dX11_goesAlong_66 : decode cX11_goesAlong 66 = .ok (.getfield 24, 3) := by decide +kernel
theorem dX11_goesAlong_69 : decode cX11_goesAlong 69 = .ok (.bipush 32, 2) := by decide +kernel
theorem dX11_goesAlong_71 : decode cX11_goesAlong 71 = .ok (.iaload, 1) := by decide +kernel
theorem dX11_goesAlong_72 : decode cX11_goesAlong 72 = .ok (.iastore, 1) := by decide +kernel
theorem dX11_goesAlong_73 : decode cX11_goesAlong 73 = .ok (.aload_n 0, 1) := by decide +kernel
theorem dX11_goesAlong_74 : decode cX11_goesAlong 74 = .ok (.aload_n 0, 1) := by decide +kernel
theorem dX11_goesAlong_75 : decode cX11_goesAlong 75 = .ok (.getfield 414, 3) := by decide +kernel
theorem dX11_goesAlong_78 : decode cX11_goesAlong 78 = .ok (.putfield 248, 3) := by decide +kernel
theorem dX11_goesAlong_81 : decode cX11_goesAlong 81 = .ok (.aload_n 0, 1) := by decide +kernel
theorem dX11_goesAlong_82 : decode cX11_goesAlong 82 = .ok (.aload_n 0, 1) := by decide +kernel
theorem dX11_goesAlong_83 : decode cX11_goesAlong 83 = .ok (.aload_n 0, 1) := by decide +kernel
theorem dX11_goesAlong_84 : decode cX11_goesAlong 84 = .ok (.getfield 248, 3) := by decide +kernel
theorem dX11_goesAlong_87 : decode cX11_goesAlong 87 = .ok (.invokevirtual 251, 3) := by decide +kernel
theorem dX11_goesAlong_90 : decode cX11_goesAlong 90 = .ok (.putfield 420, 3) := by decide +kernel
theorem dX11_goesAlong_93 : decode cX11_goesAlong 93 = .ok (.aload_n 0, 1) := by decide +kernel
theorem dX11_goesAlong_94 : decode cX11_goesAlong 94 = .ok (.dup, 1) := by decide +kernel
theorem dX11_goesAlong_95 : decode cX11_goesAlong 95 = .ok (.getfield 248, 3) := by decide +kernel
theorem dX11_goesAlong_98 : decode cX11_goesAlong 98 = .ok (.iconst 1, 1) := by decide +kernel
theorem dX11_goesAlong_99 : decode cX11_goesAlong 99 = .ok (.iadd, 1) := by decide +kernel
theorem dX11_goesAlong_100 : decode cX11_goesAlong 100 = .ok (.putfield 248, 3) := by decide +kernel
theorem dX11_goesAlong_103 : decode cX11_goesAlong 103 = .ok (.aload_n 0, 1) := by decide +kernel
theorem dX11_goesAlong_104 : decode cX11_goesAlong 104 = .ok (.iconst 0, 1) := by decide +kernel
theorem dX11_goesAlong_105 : decode cX11_goesAlong 105 = .ok (.putfield 258, 3) := by decide +kernel
theorem dX11_goesAlong_108 : decode cX11_goesAlong 108 = .ok (.aload_n 0, 1) := by decide +kernel
theorem dX11_goesAlong_109 : decode cX11_goesAlong 109 = .ok (.aload_n 0, 1) := by decide +kernel
theorem dX11_goesAlong_110 : decode cX11_goesAlong 110 = .ok (.getfield 420, 3) := by decide +kernel
theorem dX11_goesAlong_113 : decode cX11_goesAlong 113 = .ok (.bipush 28, 2) := by decide +kernel
theorem dX11_goesAlong_115 : decode cX11_goesAlong 115 = .ok (.if_icmp .ne 7, 3) := by decide +kernel
theorem dX11_goesAlong_118 : decode cX11_goesAlong 118 = .ok (.lconst 0, 1) := by decide +kernel
theorem dX11_goesAlong_119 : decode cX11_goesAlong 119 = .ok (.goto 8, 3) := by decide +kernel
theorem dX11_goesAlong_122 : decode cX11_goesAlong 122 = .ok (.aload_n 0, 1) := by decide +kernel
theorem dX11_goesAlong_123 : decode cX11_goesAlong 123 = .ok (.iload_n 2, 1) := by decide +kernel
theorem dX11_goesAlong_124 : decode cX11_goesAlong 124 = .ok (.invokevirtual 275, 3) := by decide +kernel
theorem dX11_goesAlong_127 : decode cX11_goesAlong 127 = .ok (.putfield 423, 3) := by decide +kernel
theorem dX11_goesAlong_130 : decode cX11_goesAlong 130 = .ok (.aload_n 0, 1) := by decide +kernel
theorem dX11_goesAlong_131 : decode cX11_goesAlong 131 = .ok (.aload_n 0, 1) := by decide +kernel
theorem dX11_goesAlong_132 : decode cX11_goesAlong 132 = .ok (.getfield 258, 3) := by decide +kernel
theorem dX11_goesAlong_135 : decode cX11_goesAlong 135 = .ok (.ifCond .ne 7, 3) := by decide +kernel
theorem dX11_goesAlong_138 : decode cX11_goesAlong 138 = .ok (.iconst 1, 1) := by decide +kernel
theorem dX11_goesAlong_139 : decode cX11_goesAlong 139 = .ok (.goto 4, 3) := by decide +kernel
theorem dX11_goesAlong_142 : decode cX11_goesAlong 142 = .ok (.iconst 0, 1) := by decide +kernel
theorem dX11_goesAlong_143 : decode cX11_goesAlong 143 = .ok (.putfield 427, 3) := by decide +kernel
theorem dX11_goesAlong_146 : decode cX11_goesAlong 146 = .ok (.aload_n 0, 1) := by decide +kernel
theorem dX11_goesAlong_147 : decode cX11_goesAlong 147 = .ok (.iconst 1, 1) := by decide +kernel
theorem dX11_goesAlong_148 : decode cX11_goesAlong 148 = .ok (.putfield 430, 3) := by decide +kernel
theorem dX11_goesAlong_151 : decode cX11_goesAlong 151 = .ok (.aload_n 0, 1) := by decide +kernel
theorem dX11_goesAlong_152 : decode cX11_goesAlong 152 = .ok (.bipush 29, 2) := by decide +kernel
theorem dX11_goesAlong_154 : decode cX11_goesAlong 154 = .ok (.invokevirtual 272, 3) := by decide +kernel
theorem dX11_goesAlong_157 : decode cX11_goesAlong 157 = .ok (.ifCond .eq 30, 3) := by decide +kernel
theorem dX11_goesAlong_160 : decode cX11_goesAlong 160 = .ok (.aload_n 0, 1) := by decide +kernel
theorem dX11_goesAlong_161 : decode cX11_goesAlong 161 = .ok (.aload_n 0, 1) := by decide +kernel
theorem dX11_goesAlong_162 : decode cX11_goesAlong 162 = .ok (.getfield 24, 3) := by decide +kernel
theorem dX11_goesAlong_165 : decode cX11_goesAlong 165 = .ok (.sipush 3066, 3) := by decide +kernel
theorem dX11_goesAlong_168 : decode cX11_goesAlong 168 = .ok (.aload_n 0, 1) := by decide +kernel
theorem dX11_goesAlong_169 : decode cX11_goesAlong 169 = .ok (.getfield 248, 3) := by decide +kernel
theorem dX11_goesAlong_172 : decode cX11_goesAlong 172 = .ok (.iadd, 1) := by decide +kernel
theorem dX11_goesAlong_173 : decode cX11_goesAlong 173 = .ok (.iaload, 1) := by decide +kernel
theorem dX11_goesAlong_174 : decode cX11_goesAlong 174 = .ok (.putfield 430, 3) := by decide +kernel
theorem dX11_goesAlong_177 : decode cX11_goesAlong 177 = .ok (.aload_n 0, 1) := by decide +kernel
theorem dX11_goesAlong_178 : decode cX11_goesAlong 178 = .ok (.dup, 1) := by decide +kernel
theorem dX11_goesAlong_179 : decode cX11_goesAlong 179 = .ok (.getfield 248, 3) := by decide +kernel
theorem dX11_goesAlong_182 : decode cX11_goesAlong 182 = .ok (.iconst 1, 1) := by decide +kernel
theorem dX11_goesAlong_183 : decode cX11_goesAlong 183 = .ok (.iadd, 1) := by decide +kernel
theorem dX11_goesAlong_184 : decode cX11_goesAlong 184 = .ok (.putfield 248, 3) := by decide +kernel
theorem dX11_goesAlong_187 : decode cX11_goesAlong 187 = .ok (.aload_n 0, 1) := by decide +kernel
theorem dX11_goesAlong_188 : decode cX11_goesAlong 188 = .ok (.iconst 0, 1) := by decide +kernel
theorem dX11_goesAlong_189 : decode cX11_goesAlong 189 = .ok (.putfield 258, 3) := by decide +kernel
theorem dX11_goesAlong_192 : decode cX11_goesAlong 192 = .ok (.aload_n 0, 1) := by decide +kernel
theorem dX11_goesAlong_193 : decode cX11_goesAlong 193 = .ok (.aload_n 0, 1) := by decide +kernel
theorem dX11_goesAlong_194 : decode cX11_goesAlong 194 = .ok (.bipush 6, 2) := by decide +kernel
theorem dX11_goesAlong_196 : decode cX11_goesAlong 196 = .ok (.invokevirtual 272, 3) := by decide +kernel
theorem dX11_goesAlong_199 : decode cX11_goesAlong 199 = .ok (.ifCond .eq 11, 3) := by decide +kernel
theorem dX11_goesAlong_202 : decode cX11_goesAlong 202 = .ok (.aload_n 0, 1) := by decide +kernel
theorem dX11_goesAlong_203 : decode cX11_goesAlong 203 = .ok (.iload_n 2, 1) := by decide +kernel
theorem dX11_goesAlong_204 : decode cX11_goesAlong 204 = .ok (.invokevirtual 289, 3) := by decide +kernel
theorem dX11_goesAlong_207 : decode cX11_goesAlong 207 = .ok (.ifCond .eq 7, 3) := by decide +kernel
theorem dX11_goesAlong_210 : decode cX11_goesAlong 210 = .ok (.iconst 1, 1) := by decide +kernel
theorem dX11_goesAlong_211 : decode cX11_goesAlong 211 = .ok (.goto 4, 3) := by decide +kernel
theorem dX11_goesAlong_214 : decode cX11_goesAlong 214 = .ok (.iconst 0, 1) := by decide +kernel
theorem dX11_goesAlong_215 : decode cX11_goesAlong 215 = .ok (.putfield 433, 3) := by decide +kernel
theorem dX11_goesAlong_218 : decode cX11_goesAlong 218 = .ok (.aload_n 0, 1) := by decide +kernel
theorem dX11_goesAlong_219 : decode cX11_goesAlong 219 = .ok (.aload_n 0, 1) := by decide +kernel
theorem dX11_goesAlong_220 : decode cX11_goesAlong 220 = .ok (.getfield 433, 3) := by decide +kernel
theorem dX11_goesAlong_223 : decode cX11_goesAlong 223 = .ok (.ifCond .eq 14, 3) := by decide +kernel
theorem dX11_goesAlong_226 : decode cX11_goesAlong 226 = .ok (.aload_n 0, 1) := by decide +kernel
theorem dX11_goesAlong_227 : decode cX11_goesAlong 227 = .ok (.getfield 258, 3) := by decide +kernel
theorem dX11_goesAlong_230 : decode cX11_goesAlong 230 = .ok (.ifCond .ne 7, 3) := by decide +kernel
theorem dX11_goesAlong_233 : decode cX11_goesAlong 233 = .ok (.iconst 1, 1) := by decide +kernel
theorem dX11_goesAlong_234 : decode cX11_goesAlong 234 = .ok (.goto 4, 3) := by decide +kernel
theorem dX11_goesAlong_237 : decode cX11_goesAlong 237 = .ok (.iconst 0, 1) := by decide +kernel
theorem dX11_goesAlong_238 : decode cX11_goesAlong 238 = .ok (.putfield 433, 3) := by decide +kernel
theorem dX11_goesAlong_241 : decode cX11_goesAlong 241 = .ok (.aload_n 0, 1) := by decide +kernel
theorem dX11_goesAlong_242 : decode cX11_goesAlong 242 = .ok (.dup, 1) := by decide +kernel
theorem dX11_goesAlong_243 : decode cX11_goesAlong 243 = .ok (.getfield 248, 3) := by decide +kernel
theorem dX11_goesAlong_246 : decode cX11_goesAlong 246 = .ok (.iconst 1, 1) := by decide +kernel
theorem dX11_goesAlong_247 : decode cX11_goesAlong 247 = .ok (.iadd, 1) := by decide +kernel
theorem dX11_goesAlong_248 : decode cX11_goesAlong 248 = .ok (.putfield 248, 3) := by decide +kernel
theorem dX11_goesAlong_251 : decode cX11_goesAlong 251 = .ok (.return_, 1) := by decide +kernel
def B_X11_goesAlong_238 (Q : st_S → Prop)   (v0 : Int) (σ : st_S) : Prop := (v0 = 0 ∨ v0 = 1) ∧ ∀ s82 : st_S, s82 = sI σ 0 47 v0 → ∀ x85 : Int, x85 = wr (gI s82 0 22 + 1) → ∀ s86 : st_S, s86 = sI s82 0 22 x85 → Q s86
def B_X11_goesAlong_237 (Q : st_S → Prop)    (σ : st_S) : Prop := B_X11_goesAlong_238 Q 0 σ
def B_X11_goesAlong_215 (Q : st_S → Prop)   (v0 : Int) (σ : st_S) : Prop := (v0 = 0 ∨ v0 = 1) ∧ ∀ s87 : st_S, s87 = sI σ 0 47 v0 → (gI s87 0 47 = 0 → B_X11_goesAlong_237 Q s87) ∧ (¬ gI s87 0 47 = 0 → (¬ gI s87 0 24 = 0 → B_X11_goesAlong_237 Q s87) ∧ (gI s87 0 24 = 0 → B_X11_goesAlong_238 Q 1 s87))
def B_X11_goesAlong_210 (Q : st_S → Prop)    (σ : st_S) : Prop := B_X11_goesAlong_215 Q 1 σ
def B_X11_goesAlong_187 (Q : st_S → Prop)   (l2 : Int) (σ : st_S) : Prop := ∀ s93 : st_S, s93 = sI σ 0 24 0 → wp_X11_passes0 6 s93 (fun r94 s95 => (r94 = 0 → B_X11_goesAlong_210 Q s95) ∧ (¬ r94 = 0 → wp_X11_testOf 60 l2 s95 (fun r96 s97 => (r96 = 0 → B_X11_goesAlong_215 Q 0 s97) ∧ (¬ r96 = 0 → B_X11_goesAlong_210 Q s97))))
def B_X11_goesAlong_143 (Q : st_S → Prop)   (l2 : Int) (v0 : Int) (σ : st_S) : Prop := (v0 = 0 ∨ v0 = 1) ∧ ∀ s100 : st_S, s100 = sI σ 0 46 v0 → ∀ s102 : st_S, s102 = sI s100 0 44 1 → wp_X11_passes0 29 s102 (fun r103 s104 => (r103 = 0 → B_X11_goesAlong_187 Q l2 s104) ∧ (¬ r103 = 0 → ix (wr (3066 + gI s104 0 22)) 5866 ∧ ∀ s108 : st_S, s108 = sI s104 0 44 (gI s104 2 (Int.toNat (wr (3066 + gI s104 0 22)))) → ∀ x110 : Int, x110 = wr (gI s108 0 22 + 1) → ∀ s111 : st_S, s111 = sI s108 0 22 x110 → B_X11_goesAlong_187 Q l2 s111))
def B_X11_goesAlong_127 (Q : st_S → Prop)   (l2 : Int) (v0 : Int) (σ : st_S) : Prop := ∀ s113 : st_S, s113 = sI σ 0 48 v0 → (¬ gI s113 0 24 = 0 → B_X11_goesAlong_143 Q l2 0 s113) ∧ (gI s113 0 24 = 0 → B_X11_goesAlong_143 Q l2 1 s113)
def wp_X11_goesAlong (a1 : Int) (a2 : Int) (σ : st_S) (Q : st_S → Prop) : Prop := ∀ s116 : st_S, s116 = sI σ 0 8 19 → ∀ s117 : st_S, s117 = sI s116 0 23 a1 → ∀ s119 : st_S, s119 = sI s117 12 0 (gI s117 2 33) → ∀ s121 : st_S, s121 = sI s119 12 1 (gI s119 2 30) → ∀ s123 : st_S, s123 = sI s121 12 2 (gI s121 2 31) → ∀ s125 : st_S, s125 = sI s123 12 3 (gI s123 0 42) → ∀ s127 : st_S, s127 = sI s125 12 4 (gI s125 2 32) → ∀ s129 : st_S, s129 = sI s127 0 22 (gI s127 0 43) → wp_X11_codeAt (gI s129 0 22) s129 (fun r131 s132 => ∀ s133 : st_S, s133 = sI s132 0 45 r131 → ∀ x135 : Int, x135 = wr (gI s133 0 22 + 1) → ∀ s136 : st_S, s136 = sI s133 0 22 x135 → ∀ s137 : st_S, s137 = sI s136 0 24 0 → (¬ gI s137 0 45 = 28 → wp_X11_sumOf 60 a2 s137 (fun r139 s140 => B_X11_goesAlong_127 Q a2 r139 s140)) ∧ (gI s137 0 45 = 28 → B_X11_goesAlong_127 Q a2 0 s137))
set_option maxRecDepth 20000 in
theorem jb_X11_goesAlong_238 {X : jj_X} {E : ev_E} {n0 hN : Nat} (hc : Cx X E cX11_goesAlong 3 n0 hN RX11) (hm : eM E = 2) (hr : (xT X).sig.returnType = none) (hh : 125 ≤ hN) {Q : st_S → Prop} {v0 : Int} (cv0 : wr v0 = v0) {σ : st_S} (h : B_X11_goesAlong_238 Q v0 σ) : J X E 3 n0 0 0 (MQ (xB X) (qV E (n0 + 0) Q) (xA X) (xS X) 0 0 (eF E)) σ 238 [(0, vR E 0)] [vI v0, vR E 0] := by
  have hh1 : 1 ≤ hN := by omega
  replace h : (v0 = 0 ∨ v0 = 1) ∧ ∀ s82 : st_S, s82 = sI σ 0 47 v0 → ∀ x85 : Int, x85 = wr (gI s82 0 22 + 1) → ∀ s86 : st_S, s86 = sI s82 0 22 x85 → Q s86 := h
  obtain ⟨z83, h⟩ := h
  refine j_putZ hc fl_RX11_433 rfl rfl (fun hv => Or.inl (sv_k hv hm rfl)) z83 dX11_goesAlong_238 (fun s82 es82 => ?_)
  replace h := h s82 es82
  refine j_aload_nR hc 0 dX11_goesAlong_241 rfl rfl ?_
  refine j_dup hc dX11_goesAlong_242 rfl ?_
  refine j_getI hc fl_RX11_248 (Or.inl rfl) (fun hv => Or.inl (sv_k hv hm rfl)) dX11_goesAlong_243 (fun cn84 => ?_)
  refine j_iconst hc dX11_goesAlong_246 ?_
  refine j_iadd hc dX11_goesAlong_247 ?_
  refine j_w (fun x85 ex85 cx85 => ?_)
  replace h := h x85 ex85
  refine j_putI hc fl_RX11_248 rfl rfl (fun hv => Or.inl (sv_k hv hm rfl)) cx85 dX11_goesAlong_248 (fun s86 es86 => ?_)
  replace h := h s86 es86
  exact j_vret hc hr h dX11_goesAlong_251
set_option maxRecDepth 20000 in
theorem jb_X11_goesAlong_237 {X : jj_X} {E : ev_E} {n0 hN : Nat} (hc : Cx X E cX11_goesAlong 3 n0 hN RX11) (hm : eM E = 2) (hr : (xT X).sig.returnType = none) (hh : 125 ≤ hN) {Q : st_S → Prop} {σ : st_S} (h : B_X11_goesAlong_237 Q σ) : J X E 3 n0 0 0 (MQ (xB X) (qV E (n0 + 0) Q) (xA X) (xS X) 0 0 (eF E)) σ 237 [(0, vR E 0)] [vR E 0] := by
  have hh1 : 1 ≤ hN := by omega
  replace h : B_X11_goesAlong_238 Q 0 σ := h
  refine j_iconst hc dX11_goesAlong_237 ?_
  refine j_sub (lv' := [(0, vR E 0)]) [0] rfl ?_
  exact jb_X11_goesAlong_238 hc hm hr hh (wlit 0 (by decide)) h
set_option maxRecDepth 20000 in
theorem jb_X11_goesAlong_215 {X : jj_X} {E : ev_E} {n0 hN : Nat} (hc : Cx X E cX11_goesAlong 3 n0 hN RX11) (hm : eM E = 2) (hr : (xT X).sig.returnType = none) (hh : 125 ≤ hN) {Q : st_S → Prop} {v0 : Int} (cv0 : wr v0 = v0) {σ : st_S} (h : B_X11_goesAlong_215 Q v0 σ) : J X E 3 n0 0 0 (MQ (xB X) (qV E (n0 + 0) Q) (xA X) (xS X) 0 0 (eF E)) σ 215 [(0, vR E 0)] [vI v0, vR E 0] := by
  have hh1 : 1 ≤ hN := by omega
  replace h : (v0 = 0 ∨ v0 = 1) ∧ ∀ s87 : st_S, s87 = sI σ 0 47 v0 → (gI s87 0 47 = 0 → B_X11_goesAlong_237 Q s87) ∧ (¬ gI s87 0 47 = 0 → (¬ gI s87 0 24 = 0 → B_X11_goesAlong_237 Q s87) ∧ (gI s87 0 24 = 0 → B_X11_goesAlong_238 Q 1 s87)) := h
  obtain ⟨z88, h⟩ := h
  refine j_putZ hc fl_RX11_433 rfl rfl (fun hv => Or.inl (sv_k hv hm rfl)) z88 dX11_goesAlong_215 (fun s87 es87 => ?_)
  replace h := h s87 es87
  refine j_aload_nR hc 0 dX11_goesAlong_218 rfl rfl ?_
  refine j_aload_nR hc 0 dX11_goesAlong_219 rfl rfl ?_
  refine j_getI hc fl_RX11_433 (Or.inr rfl) (fun hv => Or.inl (sv_k hv hm rfl)) dX11_goesAlong_220 (fun cn89 => ?_)
  refine j_if_eq hc cn89 (tgt := 237) dX11_goesAlong_223 (by decide) (fun q92 => ?_) (fun q92 => ?_)
  · replace h := h.1 q92
    refine j_sub (lv' := [(0, vR E 0)]) [0] rfl ?_
    exact jb_X11_goesAlong_237 hc hm hr hh h
  · replace h := h.2 q92
    refine j_aload_nR hc 0 dX11_goesAlong_226 rfl rfl ?_
    refine j_getI hc fl_RX11_258 (Or.inr rfl) (fun hv => Or.inl (sv_k hv hm rfl)) dX11_goesAlong_227 (fun cn90 => ?_)
    refine j_if_ne hc cn90 (tgt := 237) dX11_goesAlong_230 (by decide) (fun q91 => ?_) (fun q91 => ?_)
    · replace h := h.1 q91
      refine j_sub (lv' := [(0, vR E 0)]) [0] rfl ?_
      exact jb_X11_goesAlong_237 hc hm hr hh h
    · replace h := h.2 q91
      refine j_iconst hc dX11_goesAlong_233 ?_
      refine j_goto (tgt := 238) hc dX11_goesAlong_234 (by decide) ?_
      refine j_sub (lv' := [(0, vR E 0)]) [0] rfl ?_
      exact jb_X11_goesAlong_238 hc hm hr hh (wlit 1 (by decide)) h
set_option maxRecDepth 20000 in
theorem jb_X11_goesAlong_210 {X : jj_X} {E : ev_E} {n0 hN : Nat} (hc : Cx X E cX11_goesAlong 3 n0 hN RX11) (hm : eM E = 2) (hr : (xT X).sig.returnType = none) (hh : 125 ≤ hN) {Q : st_S → Prop} {σ : st_S} (h : B_X11_goesAlong_210 Q σ) : J X E 3 n0 0 0 (MQ (xB X) (qV E (n0 + 0) Q) (xA X) (xS X) 0 0 (eF E)) σ 210 [(0, vR E 0)] [vR E 0] := by
  have hh1 : 1 ≤ hN := by omega
  replace h : B_X11_goesAlong_215 Q 1 σ := h
  refine j_iconst hc dX11_goesAlong_210 ?_
  refine j_goto (tgt := 215) hc dX11_goesAlong_211 (by decide) ?_
  refine j_sub (lv' := [(0, vR E 0)]) [0] rfl ?_
  exact jb_X11_goesAlong_215 hc hm hr hh (wlit 1 (by decide)) h
set_option maxRecDepth 20000 in
theorem jb_X11_goesAlong_187 {X : jj_X} {E : ev_E} {n0 hN : Nat} (hc : Cx X E cX11_goesAlong 3 n0 hN RX11) (hm : eM E = 2) (hr : (xT X).sig.returnType = none) (hh : 125 ≤ hN) {Q : st_S → Prop} {l2 : Int} (cl2 : wr l2 = l2) {σ : st_S} (h : B_X11_goesAlong_187 Q l2 σ) : J X E 3 n0 0 0 (MQ (xB X) (qV E (n0 + 0) Q) (xA X) (xS X) 0 0 (eF E)) σ 187 [(0, vR E 0), (2, vI l2)] [] := by
  have hh1 : 1 ≤ hN := by omega
  replace h : ∀ s93 : st_S, s93 = sI σ 0 24 0 → wp_X11_passes0 6 s93 (fun r94 s95 => (r94 = 0 → B_X11_goesAlong_210 Q s95) ∧ (¬ r94 = 0 → wp_X11_testOf 60 l2 s95 (fun r96 s97 => (r96 = 0 → B_X11_goesAlong_215 Q 0 s97) ∧ (¬ r96 = 0 → B_X11_goesAlong_210 Q s97)))) := h
  refine j_aload_nR hc 0 dX11_goesAlong_187 rfl rfl ?_
  refine j_iconst hc dX11_goesAlong_188 ?_
  refine j_putZ hc fl_RX11_258 rfl rfl (fun hv => Or.inl (sv_k hv hm rfl)) (Or.inl rfl) dX11_goesAlong_189 (fun s93 es93 => ?_)
  replace h := h s93 es93
  refine j_aload_nR hc 0 dX11_goesAlong_192 rfl rfl ?_
  refine j_aload_nR hc 0 dX11_goesAlong_193 rfl rfl ?_
  refine j_bipush hc dX11_goesAlong_194 (by decide) ?_
  refine j_vI hc (k := 11) (by decide) (fun hv => Or.inl (sv_k hv hm rfl)) ml_RX11_272 mv_X11_passes0 (As := [vI 6]) (c_X11_passes0 (cx_E hc) hm (wlit 6 (by decide)) h) rfl (by omega) (by decide) ⟨Nat.zero_le _, Nat.zero_le _⟩ (Nat.le_of_ble_eq_true rfl) rfl dX11_goesAlong_196 (fun r94 s95 cr94 h => ?_)
  refine j_if_eq hc cr94 (tgt := 210) dX11_goesAlong_199 (by decide) (fun q99 => ?_) (fun q99 => ?_)
  · replace h := h.1 q99
    refine j_sub (lv' := [(0, vR E 0)]) [0] rfl ?_
    exact jb_X11_goesAlong_210 hc hm hr hh h
  · replace h := h.2 q99
    refine j_aload_nR hc 0 dX11_goesAlong_202 rfl rfl ?_
    refine j_iload_n hc 1 dX11_goesAlong_203 rfl rfl ?_
    refine j_vI hc (k := 11) (by decide) (fun hv => Or.inl (sv_k hv hm rfl)) ml_RX11_289 mv_X11_testOf (As := [vI l2]) (c_X11_testOf (cx_E hc) hm 60 cl2 h) rfl (by omega) (by decide) ⟨Nat.zero_le _, Nat.zero_le _⟩ (Nat.le_of_ble_eq_true rfl) rfl dX11_goesAlong_204 (fun r96 s97 cr96 h => ?_)
    refine j_if_eq hc cr96 (tgt := 214) dX11_goesAlong_207 (by decide) (fun q98 => ?_) (fun q98 => ?_)
    · replace h := h.1 q98
      refine j_iconst hc dX11_goesAlong_214 ?_
      refine j_sub (lv' := [(0, vR E 0)]) [0] rfl ?_
      exact jb_X11_goesAlong_215 hc hm hr hh (wlit 0 (by decide)) h
    · replace h := h.2 q98
      refine j_sub (lv' := [(0, vR E 0)]) [0] rfl ?_
      exact jb_X11_goesAlong_210 hc hm hr hh h
set_option maxRecDepth 20000 in
theorem jb_X11_goesAlong_143 {X : jj_X} {E : ev_E} {n0 hN : Nat} (hc : Cx X E cX11_goesAlong 3 n0 hN RX11) (hm : eM E = 2) (hr : (xT X).sig.returnType = none) (hh : 125 ≤ hN) {Q : st_S → Prop} {l2 : Int} {v0 : Int} (cl2 : wr l2 = l2) (cv0 : wr v0 = v0) {σ : st_S} (h : B_X11_goesAlong_143 Q l2 v0 σ) : J X E 3 n0 0 0 (MQ (xB X) (qV E (n0 + 0) Q) (xA X) (xS X) 0 0 (eF E)) σ 143 [(0, vR E 0), (2, vI l2)] [vI v0, vR E 0] := by
  have hh1 : 1 ≤ hN := by omega
  replace h : (v0 = 0 ∨ v0 = 1) ∧ ∀ s100 : st_S, s100 = sI σ 0 46 v0 → ∀ s102 : st_S, s102 = sI s100 0 44 1 → wp_X11_passes0 29 s102 (fun r103 s104 => (r103 = 0 → B_X11_goesAlong_187 Q l2 s104) ∧ (¬ r103 = 0 → ix (wr (3066 + gI s104 0 22)) 5866 ∧ ∀ s108 : st_S, s108 = sI s104 0 44 (gI s104 2 (Int.toNat (wr (3066 + gI s104 0 22)))) → ∀ x110 : Int, x110 = wr (gI s108 0 22 + 1) → ∀ s111 : st_S, s111 = sI s108 0 22 x110 → B_X11_goesAlong_187 Q l2 s111)) := h
  obtain ⟨z101, h⟩ := h
  refine j_putZ hc fl_RX11_427 rfl rfl (fun hv => Or.inl (sv_k hv hm rfl)) z101 dX11_goesAlong_143 (fun s100 es100 => ?_)
  replace h := h s100 es100
  refine j_aload_nR hc 0 dX11_goesAlong_146 rfl rfl ?_
  refine j_iconst hc dX11_goesAlong_147 ?_
  refine j_putI hc fl_RX11_430 rfl rfl (fun hv => Or.inl (sv_k hv hm rfl)) (wlit 1 (by decide)) dX11_goesAlong_148 (fun s102 es102 => ?_)
  replace h := h s102 es102
  refine j_aload_nR hc 0 dX11_goesAlong_151 rfl rfl ?_
  refine j_bipush hc dX11_goesAlong_152 (by decide) ?_
  refine j_vI hc (k := 11) (by decide) (fun hv => Or.inl (sv_k hv hm rfl)) ml_RX11_272 mv_X11_passes0 (As := [vI 29]) (c_X11_passes0 (cx_E hc) hm (wlit 29 (by decide)) h) rfl (by omega) (by decide) ⟨Nat.zero_le _, Nat.zero_le _⟩ (Nat.le_of_ble_eq_true rfl) rfl dX11_goesAlong_154 (fun r103 s104 cr103 h => ?_)
  refine j_if_eq hc cr103 (tgt := 187) dX11_goesAlong_157 (by decide) (fun q112 => ?_) (fun q112 => ?_)
  · replace h := h.1 q112
    refine j_sub (lv' := [(0, vR E 0), (2, vI l2)]) [0, 1] rfl ?_
    exact jb_X11_goesAlong_187 hc hm hr hh cl2 h
  · replace h := h.2 q112
    refine j_aload_nR hc 0 dX11_goesAlong_160 rfl rfl ?_
    refine j_aload_nR hc 0 dX11_goesAlong_161 rfl rfl ?_
    refine j_getR (c' := 2) hc fl_RX11_24 rfl rfl (fun hv => (sv_k hv hm rfl)) dX11_goesAlong_162 ?_
    refine j_sipush hc dX11_goesAlong_165 (by decide) ?_
    refine j_aload_nR hc 0 dX11_goesAlong_168 rfl rfl ?_
    refine j_getI hc fl_RX11_248 (Or.inl rfl) (fun hv => Or.inl (sv_k hv hm rfl)) dX11_goesAlong_169 (fun cn105 => ?_)
    refine j_iadd hc dX11_goesAlong_172 ?_
    obtain ⟨b106, h⟩ := h
    refine j_iald (jn := (Int.toNat (wr (3066 + gI s104 0 22)))) hc (fun hv => sv_kl hv hm rfl) rfl b106 rfl dX11_goesAlong_173 (fun cn107 => ?_)
    refine j_putI hc fl_RX11_430 rfl rfl (fun hv => Or.inl (sv_k hv hm rfl)) cn107 dX11_goesAlong_174 (fun s108 es108 => ?_)
    replace h := h s108 es108
    refine j_aload_nR hc 0 dX11_goesAlong_177 rfl rfl ?_
    refine j_dup hc dX11_goesAlong_178 rfl ?_
    refine j_getI hc fl_RX11_248 (Or.inl rfl) (fun hv => Or.inl (sv_k hv hm rfl)) dX11_goesAlong_179 (fun cn109 => ?_)
    refine j_iconst hc dX11_goesAlong_182 ?_
    refine j_iadd hc dX11_goesAlong_183 ?_
    refine j_w (fun x110 ex110 cx110 => ?_)
    replace h := h x110 ex110
    refine j_putI hc fl_RX11_248 rfl rfl (fun hv => Or.inl (sv_k hv hm rfl)) cx110 dX11_goesAlong_184 (fun s111 es111 => ?_)
    replace h := h s111 es111
    refine j_sub (lv' := [(0, vR E 0), (2, vI l2)]) [0, 1] rfl ?_
    exact jb_X11_goesAlong_187 hc hm hr hh cl2 h
set_option maxRecDepth 20000 in
theorem jb_X11_goesAlong_127 {X : jj_X} {E : ev_E} {n0 hN : Nat} (hc : Cx X E cX11_goesAlong 3 n0 hN RX11) (hm : eM E = 2) (hr : (xT X).sig.returnType = none) (hh : 125 ≤ hN) {Q : st_S → Prop} {l2 : Int} {v0 : Int} (cl2 : wr l2 = l2) (cv0 : wl v0 = v0) {σ : st_S} (h : B_X11_goesAlong_127 Q l2 v0 σ) : J X E 3 n0 0 0 (MQ (xB X) (qV E (n0 + 0) Q) (xA X) (xS X) 0 0 (eF E)) σ 127 [(0, vR E 0), (2, vI l2)] [vL v0, vR E 0] := by
  have hh1 : 1 ≤ hN := by omega
  replace h : ∀ s113 : st_S, s113 = sI σ 0 48 v0 → (¬ gI s113 0 24 = 0 → B_X11_goesAlong_143 Q l2 0 s113) ∧ (gI s113 0 24 = 0 → B_X11_goesAlong_143 Q l2 1 s113) := h
  refine j_putL hc fl_RX11_423 rfl ⟨rfl, rfl⟩ rfl (fun hv => Or.inl (sv_k hv hm rfl)) cv0 dX11_goesAlong_127 (fun s113 es113 => ?_)
  replace h := h s113 es113
  refine j_aload_nR hc 0 dX11_goesAlong_130 rfl rfl ?_
  refine j_aload_nR hc 0 dX11_goesAlong_131 rfl rfl ?_
  refine j_getI hc fl_RX11_258 (Or.inr rfl) (fun hv => Or.inl (sv_k hv hm rfl)) dX11_goesAlong_132 (fun cn114 => ?_)
  refine j_if_ne hc cn114 (tgt := 142) dX11_goesAlong_135 (by decide) (fun q115 => ?_) (fun q115 => ?_)
  · replace h := h.1 q115
    refine j_iconst hc dX11_goesAlong_142 ?_
    refine j_sub (lv' := [(0, vR E 0), (2, vI l2)]) [0, 1] rfl ?_
    exact jb_X11_goesAlong_143 hc hm hr hh cl2 (wlit 0 (by decide)) h
  · replace h := h.2 q115
    refine j_iconst hc dX11_goesAlong_138 ?_
    refine j_goto (tgt := 143) hc dX11_goesAlong_139 (by decide) ?_
    refine j_sub (lv' := [(0, vR E 0), (2, vI l2)]) [0, 1] rfl ?_
    exact jb_X11_goesAlong_143 hc hm hr hh cl2 (wlit 1 (by decide)) h
set_option maxRecDepth 20000 in
theorem c_X11_goesAlong {l : Launch} {E : ev_E} (hE : Eok E) (hm : eM E = 2) {a1 : Int} {a2 : Int} (ca1 : wr a1 = a1) (ca2 : wr a2 = a2) {σ : st_S} {Q : st_S → Prop} (h : wp_X11_goesAlong a1 a2 σ Q) : cM l yX11_goesAlong cX11_goesAlong 3 none E 125 0 0 [vR E 0, vI a1, vI a2] σ (qV E (gN σ + 0) Q) := by
  refine cM_of (lv := [(0, vR E 0), (1, vI a1), (2, vI a2)]) (by decide) hE (Nat.le_of_ble_eq_true rfl) (rfl) ?_
  intro X hX hc _ _ hr _ _
  subst hX
  have hh : 125 ≤ 125 := Nat.le_refl _
  have hh1 : 1 ≤ 125 := by omega
  replace h : ∀ s116 : st_S, s116 = sI σ 0 8 19 → ∀ s117 : st_S, s117 = sI s116 0 23 a1 → ∀ s119 : st_S, s119 = sI s117 12 0 (gI s117 2 33) → ∀ s121 : st_S, s121 = sI s119 12 1 (gI s119 2 30) → ∀ s123 : st_S, s123 = sI s121 12 2 (gI s121 2 31) → ∀ s125 : st_S, s125 = sI s123 12 3 (gI s123 0 42) → ∀ s127 : st_S, s127 = sI s125 12 4 (gI s125 2 32) → ∀ s129 : st_S, s129 = sI s127 0 22 (gI s127 0 43) → wp_X11_codeAt (gI s129 0 22) s129 (fun r131 s132 => ∀ s133 : st_S, s133 = sI s132 0 45 r131 → ∀ x135 : Int, x135 = wr (gI s133 0 22 + 1) → ∀ s136 : st_S, s136 = sI s133 0 22 x135 → ∀ s137 : st_S, s137 = sI s136 0 24 0 → (¬ gI s137 0 45 = 28 → wp_X11_sumOf 60 a2 s137 (fun r139 s140 => B_X11_goesAlong_127 Q a2 r139 s140)) ∧ (gI s137 0 45 = 28 → B_X11_goesAlong_127 Q a2 0 s137)) := h
  refine j_aload_nR hc 0 dX11_goesAlong_0 rfl rfl ?_
  refine j_bipush hc dX11_goesAlong_1 (by decide) ?_
  refine j_putI hc fl_RX11_220 rfl rfl (fun hv => Or.inl (sv_k hv hm rfl)) (wlit 19 (by decide)) dX11_goesAlong_3 (fun s116 es116 => ?_)
  replace h := h s116 es116
  refine j_aload_nR hc 0 dX11_goesAlong_6 rfl rfl ?_
  refine j_iload_n hc 1 dX11_goesAlong_7 rfl rfl ?_
  refine j_putI hc fl_RX11_245 rfl rfl (fun hv => Or.inl (sv_k hv hm rfl)) ca1 dX11_goesAlong_8 (fun s117 es117 => ?_)
  replace h := h s117 es117
  refine j_aload_nR hc 0 dX11_goesAlong_11 rfl rfl ?_
  refine j_getR (c' := 12) hc fl_RX11_59 rfl rfl (fun hv => (sv_k hv hm rfl)) dX11_goesAlong_12 ?_
  refine j_iconst hc dX11_goesAlong_15 ?_
  refine j_aload_nR hc 0 dX11_goesAlong_16 rfl rfl ?_
  refine j_getR (c' := 2) hc fl_RX11_24 rfl rfl (fun hv => (sv_k hv hm rfl)) dX11_goesAlong_17 ?_
  refine j_bipush hc dX11_goesAlong_20 (by decide) ?_
  refine j_iald (jn := 33) hc (fun hv => sv_kl hv hm rfl) (wlit 33 (by decide)) ⟨by decide, by decide⟩ rfl dX11_goesAlong_22 (fun cn118 => ?_)
  refine j_iast (jn := 0) hc (fun hv => sv_kl hv hm rfl) (wlit 0 (by decide)) ⟨by decide, by decide⟩ rfl cn118 dX11_goesAlong_23 (fun s119 es119 => ?_)
  replace h := h s119 es119
  refine j_aload_nR hc 0 dX11_goesAlong_24 rfl rfl ?_
  refine j_getR (c' := 12) hc fl_RX11_59 rfl rfl (fun hv => (sv_k hv hm rfl)) dX11_goesAlong_25 ?_
  refine j_iconst hc dX11_goesAlong_28 ?_
  refine j_aload_nR hc 0 dX11_goesAlong_29 rfl rfl ?_
  refine j_getR (c' := 2) hc fl_RX11_24 rfl rfl (fun hv => (sv_k hv hm rfl)) dX11_goesAlong_30 ?_
  refine j_bipush hc dX11_goesAlong_33 (by decide) ?_
  refine j_iald (jn := 30) hc (fun hv => sv_kl hv hm rfl) (wlit 30 (by decide)) ⟨by decide, by decide⟩ rfl dX11_goesAlong_35 (fun cn120 => ?_)
  refine j_iast (jn := 1) hc (fun hv => sv_kl hv hm rfl) (wlit 1 (by decide)) ⟨by decide, by decide⟩ rfl cn120 dX11_goesAlong_36 (fun s121 es121 => ?_)
  replace h := h s121 es121
  refine j_aload_nR hc 0 dX11_goesAlong_37 rfl rfl ?_
  refine j_getR (c' := 12) hc fl_RX11_59 rfl rfl (fun hv => (sv_k hv hm rfl)) dX11_goesAlong_38 ?_
  refine j_iconst hc dX11_goesAlong_41 ?_
  refine j_aload_nR hc 0 dX11_goesAlong_42 rfl rfl ?_
  refine j_getR (c' := 2) hc fl_RX11_24 rfl rfl (fun hv => (sv_k hv hm rfl)) dX11_goesAlong_43 ?_
  refine j_bipush hc dX11_goesAlong_46 (by decide) ?_
  refine j_iald (jn := 31) hc (fun hv => sv_kl hv hm rfl) (wlit 31 (by decide)) ⟨by decide, by decide⟩ rfl dX11_goesAlong_48 (fun cn122 => ?_)
  refine j_iast (jn := 2) hc (fun hv => sv_kl hv hm rfl) (wlit 2 (by decide)) ⟨by decide, by decide⟩ rfl cn122 dX11_goesAlong_49 (fun s123 es123 => ?_)
  replace h := h s123 es123
  refine j_aload_nR hc 0 dX11_goesAlong_50 rfl rfl ?_
  refine j_getR (c' := 12) hc fl_RX11_59 rfl rfl (fun hv => (sv_k hv hm rfl)) dX11_goesAlong_51 ?_
  refine j_iconst hc dX11_goesAlong_54 ?_
  refine j_aload_nR hc 0 dX11_goesAlong_55 rfl rfl ?_
  refine j_getI hc fl_RX11_411 (Or.inl rfl) (fun hv => Or.inl (sv_k hv hm rfl)) dX11_goesAlong_56 (fun cn124 => ?_)
  refine j_iast (jn := 3) hc (fun hv => sv_kl hv hm rfl) (wlit 3 (by decide)) ⟨by decide, by decide⟩ rfl cn124 dX11_goesAlong_59 (fun s125 es125 => ?_)
  replace h := h s125 es125
  refine j_aload_nR hc 0 dX11_goesAlong_60 rfl rfl ?_
  refine j_getR (c' := 12) hc fl_RX11_59 rfl rfl (fun hv => (sv_k hv hm rfl)) dX11_goesAlong_61 ?_
  refine j_iconst hc dX11_goesAlong_64 ?_
  refine j_aload_nR hc 0 dX11_goesAlong_65 rfl rfl ?_
  refine j_getR (c' := 2) hc fl_RX11_24 rfl rfl (fun hv => (sv_k hv hm rfl)) dX11_goesAlong_66 ?_
  refine j_bipush hc dX11_goesAlong_69 (by decide) ?_
  refine j_iald (jn := 32) hc (fun hv => sv_kl hv hm rfl) (wlit 32 (by decide)) ⟨by decide, by decide⟩ rfl dX11_goesAlong_71 (fun cn126 => ?_)
  refine j_iast (jn := 4) hc (fun hv => sv_kl hv hm rfl) (wlit 4 (by decide)) ⟨by decide, by decide⟩ rfl cn126 dX11_goesAlong_72 (fun s127 es127 => ?_)
  replace h := h s127 es127
  refine j_aload_nR hc 0 dX11_goesAlong_73 rfl rfl ?_
  refine j_aload_nR hc 0 dX11_goesAlong_74 rfl rfl ?_
  refine j_getI hc fl_RX11_414 (Or.inl rfl) (fun hv => Or.inl (sv_k hv hm rfl)) dX11_goesAlong_75 (fun cn128 => ?_)
  refine j_putI hc fl_RX11_248 rfl rfl (fun hv => Or.inl (sv_k hv hm rfl)) cn128 dX11_goesAlong_78 (fun s129 es129 => ?_)
  replace h := h s129 es129
  refine j_aload_nR hc 0 dX11_goesAlong_81 rfl rfl ?_
  refine j_aload_nR hc 0 dX11_goesAlong_82 rfl rfl ?_
  refine j_aload_nR hc 0 dX11_goesAlong_83 rfl rfl ?_
  refine j_getI hc fl_RX11_248 (Or.inl rfl) (fun hv => Or.inl (sv_k hv hm rfl)) dX11_goesAlong_84 (fun cn130 => ?_)
  refine j_vI hc (k := 11) (by decide) (fun hv => Or.inl (sv_k hv hm rfl)) ml_RX11_251 mv_X11_codeAt (As := [vI (gI s129 0 22)]) (c_X11_codeAt (cx_E hc) hm cn130 h) rfl (by omega) (by decide) ⟨Nat.zero_le _, Nat.zero_le _⟩ (Nat.le_of_ble_eq_true rfl) rfl dX11_goesAlong_87 (fun r131 s132 cr131 h => ?_)
  refine j_putI hc fl_RX11_420 rfl rfl (fun hv => Or.inl (sv_k hv hm rfl)) cr131 dX11_goesAlong_90 (fun s133 es133 => ?_)
  replace h := h s133 es133
  refine j_aload_nR hc 0 dX11_goesAlong_93 rfl rfl ?_
  refine j_dup hc dX11_goesAlong_94 rfl ?_
  refine j_getI hc fl_RX11_248 (Or.inl rfl) (fun hv => Or.inl (sv_k hv hm rfl)) dX11_goesAlong_95 (fun cn134 => ?_)
  refine j_iconst hc dX11_goesAlong_98 ?_
  refine j_iadd hc dX11_goesAlong_99 ?_
  refine j_w (fun x135 ex135 cx135 => ?_)
  replace h := h x135 ex135
  refine j_putI hc fl_RX11_248 rfl rfl (fun hv => Or.inl (sv_k hv hm rfl)) cx135 dX11_goesAlong_100 (fun s136 es136 => ?_)
  replace h := h s136 es136
  refine j_aload_nR hc 0 dX11_goesAlong_103 rfl rfl ?_
  refine j_iconst hc dX11_goesAlong_104 ?_
  refine j_putZ hc fl_RX11_258 rfl rfl (fun hv => Or.inl (sv_k hv hm rfl)) (Or.inl rfl) dX11_goesAlong_105 (fun s137 es137 => ?_)
  replace h := h s137 es137
  refine j_aload_nR hc 0 dX11_goesAlong_108 rfl rfl ?_
  refine j_aload_nR hc 0 dX11_goesAlong_109 rfl rfl ?_
  refine j_getI hc fl_RX11_420 (Or.inl rfl) (fun hv => Or.inl (sv_k hv hm rfl)) dX11_goesAlong_110 (fun cn138 => ?_)
  refine j_bipush hc dX11_goesAlong_113 (by decide) ?_
  refine j_ic_ne hc cn138 (wlit 28 (by decide)) (tgt := 122) dX11_goesAlong_115 (by decide) (fun q141 => ?_) (fun q141 => ?_)
  · replace h := h.1 q141
    refine j_aload_nR hc 0 dX11_goesAlong_122 rfl rfl ?_
    refine j_iload_n hc 2 dX11_goesAlong_123 rfl rfl ?_
    refine j_vL hc (k := 11) (by decide) (fun hv => Or.inl (sv_k hv hm rfl)) ml_RX11_275 mv_X11_sumOf (As := [vI a2]) (c_X11_sumOf (cx_E hc) hm 60 ca2 h) rfl (by omega) (by decide) ⟨Nat.zero_le _, Nat.zero_le _⟩ (Nat.le_of_ble_eq_true rfl) rfl dX11_goesAlong_124 (fun r139 s140 cr139 h => ?_)
    refine j_sub (lv' := [(0, vR E 0), (2, vI a2)]) [0, 2] rfl ?_
    exact jb_X11_goesAlong_127 hc hm hr hh ca2 cr139 h
  · replace h := h.2 q141
    refine j_lconst (x := 0) hc dX11_goesAlong_118 rfl ?_
    refine j_goto (tgt := 127) hc dX11_goesAlong_119 (by decide) ?_
    refine j_sub (lv' := [(0, vR E 0), (2, vI a2)]) [0, 2] rfl ?_
    exact jb_X11_goesAlong_127 hc hm hr hh ca2 (llit 0 (by decide)) h
-- LitStrangersModel.small(J)I
theorem dX11_small_0 : decode cX11_small 0 = .ok (.lload_n 0, 1) := by decide +kernel
theorem dX11_small_1 : decode cX11_small 1 = .ok (.lconst 0, 1) := by decide +kernel
theorem dX11_small_2 : decode cX11_small 2 = .ok (.lcmp, 1) := by decide +kernel
theorem dX11_small_3 : decode cX11_small 3 = .ok (.ifCond .lt 11, 3) := by decide +kernel
theorem dX11_small_6 : decode cX11_small 6 = .ok (.lload_n 0, 1) := by decide +kernel
theorem dX11_small_7 : decode cX11_small 7 = .ok (.ldc2_w 436, 3) := by decide +kernel
theorem dX11_small_10 : decode cX11_small 10 = .ok (.lcmp, 1) := by decide +kernel
theorem dX11_small_11 : decode cX11_small 11 = .ok (.ifCond .le 7, 3) := by decide +kernel
theorem dX11_small_14 : decode cX11_small 14 = .ok (.iconst (-1), 1) := by decide +kernel
theorem dX11_small_15 : decode cX11_small 15 = .ok (.goto 5, 3) := by decide +kernel
theorem dX11_small_18 : decode cX11_small 18 = .ok (.lload_n 0, 1) := by decide +kernel
theorem dX11_small_19 : decode cX11_small 19 = .ok (.l2i, 1) := by decide +kernel
theorem dX11_small_20 : decode cX11_small 20 = .ok (.ireturn, 1) := by decide +kernel
def B_X11_small_20 (Q : Int → st_S → Prop)   (v0 : Int) (σ : st_S) : Prop := Q v0 σ
def B_X11_small_14 (Q : Int → st_S → Prop)    (σ : st_S) : Prop := B_X11_small_20 Q (-1) σ
def wp_X11_small (a1 : Int) (σ : st_S) (Q : Int → st_S → Prop) : Prop := (p_cmp a1 0 < 0 → B_X11_small_14 Q σ) ∧ (¬ p_cmp a1 0 < 0 → (p_cmp a1 1000000 ≤ 0 → B_X11_small_20 Q (o_l2i a1) σ) ∧ (¬ p_cmp a1 1000000 ≤ 0 → B_X11_small_14 Q σ))
set_option maxRecDepth 20000 in
theorem jb_X11_small_20 {X : jj_X} {E : ev_E} {n0 hN : Nat} (hc : Cx X E cX11_small 2 n0 hN RX11) (hm : eM E = 2) (hr : (xT X).sig.returnType = (some .int)) (hh : 1 ≤ hN) {Q : Int → st_S → Prop} {v0 : Int} (cv0 : wr v0 = v0) {σ : st_S} (h : B_X11_small_20 Q v0 σ) : J X E 2 n0 0 0 (MQ (xB X) (qI E (n0 + 0) Q) (xA X) (xS X) 0 0 (eF E)) σ 20 [] [vI v0] := by
  have hh1 : 1 ≤ hN := by omega
  replace h : Q v0 σ := h
  exact j_iret hc hr cv0 h dX11_small_20
set_option maxRecDepth 20000 in
theorem jb_X11_small_14 {X : jj_X} {E : ev_E} {n0 hN : Nat} (hc : Cx X E cX11_small 2 n0 hN RX11) (hm : eM E = 2) (hr : (xT X).sig.returnType = (some .int)) (hh : 1 ≤ hN) {Q : Int → st_S → Prop} {σ : st_S} (h : B_X11_small_14 Q σ) : J X E 2 n0 0 0 (MQ (xB X) (qI E (n0 + 0) Q) (xA X) (xS X) 0 0 (eF E)) σ 14 [] [] := by
  have hh1 : 1 ≤ hN := by omega
  replace h : B_X11_small_20 Q (-1) σ := h
  refine j_iconst hc dX11_small_14 ?_
  refine j_goto (tgt := 20) hc dX11_small_15 (by decide) ?_
  refine j_sub (lv' := []) [] rfl ?_
  exact jb_X11_small_20 hc hm hr hh (wlit (-1) (by decide)) h
set_option maxRecDepth 20000 in
theorem c_X11_small {l : Launch} {E : ev_E} (hE : Eok E) (hm : eM E = 2) {a1 : Int} (ca1 : wl a1 = a1) {σ : st_S} {Q : Int → st_S → Prop} (h : wp_X11_small a1 σ Q) : cM l yX11_small cX11_small 2 (some .int) E 1 0 0 [vL a1] σ (qI E (gN σ + 0) Q) := by
  refine cM_of (lv := [(0, vL a1)]) (by decide) hE (Nat.le_of_ble_eq_true rfl) (rfl) ?_
  intro X hX hc _ _ hr _ _
  subst hX
  have hh : 1 ≤ 1 := Nat.le_refl _
  have hh1 : 1 ≤ 1 := by omega
  replace h : (p_cmp a1 0 < 0 → B_X11_small_14 Q σ) ∧ (¬ p_cmp a1 0 < 0 → (p_cmp a1 1000000 ≤ 0 → B_X11_small_20 Q (o_l2i a1) σ) ∧ (¬ p_cmp a1 1000000 ≤ 0 → B_X11_small_14 Q σ)) := h
  refine j_lload_n hc 0 dX11_small_0 rfl rfl ?_
  refine j_lconst (x := 0) hc dX11_small_1 rfl ?_
  refine j_lcmp hc dX11_small_2 ?_
  refine j_if_lt hc (cn_cmp _ _) (tgt := 14) dX11_small_3 (by decide) (fun q2 => ?_) (fun q2 => ?_)
  · replace h := h.1 q2
    refine j_sub (lv' := []) [] rfl ?_
    exact jb_X11_small_14 hc hm hr hh h
  · replace h := h.2 q2
    refine j_lload_n hc 0 dX11_small_6 rfl rfl ?_
    refine j_ldc2 (x := 1000000) hc (by decide) kl_RX11_436 dX11_small_7 ?_
    refine j_lcmp hc dX11_small_10 ?_
    refine j_if_le hc (cn_cmp _ _) (tgt := 18) dX11_small_11 (by decide) (fun q1 => ?_) (fun q1 => ?_)
    · replace h := h.1 q1
      refine j_lload_n hc 0 dX11_small_18 rfl rfl ?_
      refine j_l2i hc dX11_small_19 ?_
      refine j_sub (lv' := []) [] rfl ?_
      exact jb_X11_small_20 hc hm hr hh (cn_l2i _) h
    · replace h := h.2 q1
      refine j_sub (lv' := []) [] rfl ?_
      exact jb_X11_small_14 hc hm hr hh h
-- LitStrangersModel.runs(I)Z
theorem dX11_runs_0 : decode cX11_runs 0 = .ok (.aload_n 0, 1) := by decide +kernel
theorem dX11_runs_1 : decode cX11_runs 1 = .ok (.iload_n 1, 1) := by decide +kernel
theorem dX11_runs_2 : decode cX11_runs 2 = .ok (.iconst 0, 1) := by decide +kernel
theorem dX11_runs_3 : decode cX11_runs 3 = .ok (.invokevirtual 438, 3) := by decide +kernel
theorem dX11_runs_6 : decode cX11_runs 6 = .ok (.aload_n 0, 1) := by decide +kernel
theorem dX11_runs_7 : decode cX11_runs 7 = .ok (.getfield 430, 3) := by decide +kernel
theorem dX11_runs_10 : decode cX11_runs 10 = .ok (.istore_n 2, 1) := by decide +kernel
theorem dX11_runs_11 : decode cX11_runs 11 = .ok (.aload_n 0, 1) := by decide +kernel
theorem dX11_runs_12 : decode cX11_runs 12 = .ok (.getfield 248, 3) := by decide +kernel
theorem dX11_runs_15 : decode cX11_runs 15 = .ok (.istore_n 3, 1) := by decide +kernel
theorem dX11_runs_16 : decode cX11_runs 16 = .ok (.iconst 0, 1) := by decide +kernel
theorem dX11_runs_17 : decode cX11_runs 17 = .ok (.istore 4, 2) := by decide +kernel
theorem dX11_runs_19 : decode cX11_runs 19 = .ok (.iload 4, 2) := by decide +kernel
theorem dX11_runs_21 : decode cX11_runs 21 = .ok (.iload_n 2, 1) := by decide +kernel
theorem dX11_runs_22 : decode cX11_runs 22 = .ok (.if_icmp .ge 106, 3) := by decide +kernel
theorem dX11_runs_25 : decode cX11_runs 25 = .ok (.aload_n 0, 1) := by decide +kernel
theorem dX11_runs_26 : decode cX11_runs 26 = .ok (.iload_n 1, 1) := by decide +kernel
theorem dX11_runs_27 : decode cX11_runs 27 = .ok (.iconst 1, 1) := by decide +kernel
theorem dX11_runs_28 : decode cX11_runs 28 = .ok (.invokevirtual 438, 3) := by decide +kernel
theorem dX11_runs_31 : decode cX11_runs 31 = .ok (.aload_n 0, 1) := by decide +kernel
theorem dX11_runs_32 : decode cX11_runs 32 = .ok (.getfield 433, 3) := by decide +kernel
theorem dX11_runs_35 : decode cX11_runs 35 = .ok (.ifCond .ne 6, 3) := by decide +kernel
theorem dX11_runs_38 : decode cX11_runs 38 = .ok (.goto 84, 3) := by decide +kernel
theorem dX11_runs_41 : decode cX11_runs 41 = .ok (.aload_n 0, 1) := by decide +kernel
theorem dX11_runs_42 : decode cX11_runs 42 = .ok (.getfield 427, 3) := by decide +kernel
theorem dX11_runs_45 : decode cX11_runs 45 = .ok (.ifCond .ne 8, 3) := by decide +kernel
theorem dX11_runs_48 : decode cX11_runs 48 = .ok (.bipush (-3), 2) := by decide +kernel
theorem dX11_runs_50 : decode cX11_runs 50 = .ok (.goto 53, 3) := by decide +kernel
theorem dX11_runs_53 : decode cX11_runs 53 = .ok (.aload_n 0, 1) := by decide +kernel
theorem dX11_runs_54 : decode cX11_runs 54 = .ok (.getfield 420, 3) := by decide +kernel
theorem dX11_runs_57 : decode cX11_runs 57 = .ok (.bipush 26, 2) := by decide +kernel
theorem dX11_runs_59 : decode cX11_runs 59 = .ok (.if_icmp .ne 17, 3) := by decide +kernel
theorem dX11_runs_62 : decode cX11_runs 62 = .ok (.aload_n 0, 1) := by decide +kernel
theorem dX11_runs_63 : decode cX11_runs 63 = .ok (.aload_n 0, 1) := by decide +kernel
theorem dX11_runs_64 : decode cX11_runs 64 = .ok (.getfield 423, 3) := by decide +kernel
theorem dX11_runs_67 : decode cX11_runs 67 = .ok (.invokestatic 442, 3) := by decide +kernel
theorem dX11_runs_70 : decode cX11_runs 70 = .ok (.invokevirtual 343, 3) := by decide +kernel
theorem dX11_runs_73 : decode cX11_runs 73 = .ok (.goto 30, 3) := by decide +kernel
theorem dX11_runs_76 : decode cX11_runs 76 = .ok (.aload_n 0, 1) := by decide +kernel
theorem dX11_runs_77 : decode cX11_runs 77 = .ok (.getfield 420, 3) := by decide +kernel
theorem dX11_runs_80 : decode cX11_runs 80 = .ok (.bipush 27, 2) := by decide +kernel
theorem dX11_runs_82 : decode cX11_runs 82 = .ok (.if_icmp .ne 17, 3) := by decide +kernel
theorem dX11_runs_85 : decode cX11_runs 85 = .ok (.aload_n 0, 1) := by decide +kernel
theorem dX11_runs_86 : decode cX11_runs 86 = .ok (.aload_n 0, 1) := by decide +kernel
theorem dX11_runs_87 : decode cX11_runs 87 = .ok (.getfield 423, 3) := by decide +kernel
theorem dX11_runs_90 : decode cX11_runs 90 = .ok (.invokestatic 442, 3) := by decide +kernel
theorem dX11_runs_93 : decode cX11_runs 93 = .ok (.invokevirtual 349, 3) := by decide +kernel
theorem dX11_runs_96 : decode cX11_runs 96 = .ok (.goto 7, 3) := by decide +kernel
theorem dX11_runs_99 : decode cX11_runs 99 = .ok (.aload_n 0, 1) := by decide +kernel
theorem dX11_runs_100 : decode cX11_runs 100 = .ok (.invokevirtual 352, 3) := by decide +kernel
theorem dX11_runs_103 : decode cX11_runs 103 = .ok (.istore 5, 2) := by decide +kernel
theorem dX11_runs_105 : decode cX11_runs 105 = .ok (.iload 5, 2) := by decide +kernel
theorem dX11_runs_107 : decode cX11_runs 107 = .ok (.ifCond .ge 5, 3) := by decide +kernel
theorem dX11_runs_110 : decode cX11_runs 110 = .ok (.iconst 0, 1) := by decide +kernel
theorem dX11_runs_111 : decode cX11_runs 111 = .ok (.ireturn, 1) := by decide +kernel
theorem dX11_runs_112 : decode cX11_runs 112 = .ok (.aload_n 0, 1) := by decide +kernel
theorem dX11_runs_113 : decode cX11_runs 113 = .ok (.dup, 1) := by decide +kernel
theorem dX11_runs_114 : decode cX11_runs 114 = .ok (.getfield 411, 3) := by decide +kernel
theorem dX11_runs_117 : decode cX11_runs 117 = .ok (.iconst 1, 1) := by decide +kernel
theorem dX11_runs_118 : decode cX11_runs 118 = .ok (.iadd, 1) := by decide +kernel
theorem dX11_runs_119 : decode cX11_runs 119 = .ok (.putfield 411, 3) := by decide +kernel
theorem dX11_runs_122 : decode cX11_runs 122 = .ok (.iinc 4 1, 3) := by decide +kernel
theorem dX11_runs_125 : decode cX11_runs 125 = .ok (.goto (-106), 3) := by decide +kernel
theorem dX11_runs_128 : decode cX11_runs 128 = .ok (.aload_n 0, 1) := by decide +kernel
theorem dX11_runs_129 : decode cX11_runs 129 = .ok (.iload_n 3, 1) := by decide +kernel
theorem dX11_runs_130 : decode cX11_runs 130 = .ok (.putfield 414, 3) := by decide +kernel
theorem dX11_runs_133 : decode cX11_runs 133 = .ok (.iconst 1, 1) := by decide +kernel
theorem dX11_runs_134 : decode cX11_runs 134 = .ok (.ireturn, 1) := by decide +kernel
def B_X11_runs_122 (Q : Int → st_S → Prop)  (k19 : Int → Int → Int → Int → st_S → Prop) (l1 : Int) (l2 : Int) (l3 : Int) (l4 : Int) (σ : st_S) : Prop := ∀ x33 : Int, x33 = wr (l4 + 1) → k19 l1 l2 l3 x33 σ
def B_X11_runs_103 (Q : Int → st_S → Prop)  (k19 : Int → Int → Int → Int → st_S → Prop) (l1 : Int) (l2 : Int) (l3 : Int) (l4 : Int) (v0 : Int) (σ : st_S) : Prop := (0 ≤ v0 → ∀ x35 : Int, x35 = wr (gI σ 0 42 + 1) → ∀ s36 : st_S, s36 = sI σ 0 42 x35 → B_X11_runs_122 Q k19 l1 l2 l3 l4 s36) ∧ (¬ 0 ≤ v0 → Q 0 σ)
def L_X11_runs_19 (Q : Int → st_S → Prop)   : Nat → Int → Int → Int → Int → st_S → Prop
  | 0 => fun _ _ _ _ _ => False
  | n + 1 => fun l1 l2 l3 l4 σ => (l2 ≤ l4 → ∀ s38 : st_S, s38 = sI σ 0 43 l3 → Q 1 s38) ∧ (¬ l2 ≤ l4 → wp_X11_goesAlong l1 1 σ (fun s40 => (¬ gI s40 0 47 = 0 → (¬ gI s40 0 46 = 0 → (¬ gI s40 0 45 = 26 → (¬ gI s40 0 45 = 27 → wp_X11_darkKept s40 (fun r45 s46 => B_X11_runs_103 Q (L_X11_runs_19 Q n) l1 l2 l3 l4 r45 s46)) ∧ (gI s40 0 45 = 27 → wp_X11_small (gI s40 0 48) s40 (fun r48 s49 => wp_X11_lightsKept r48 s49 (fun r50 s51 => B_X11_runs_103 Q (L_X11_runs_19 Q n) l1 l2 l3 l4 r50 s51)))) ∧ (gI s40 0 45 = 26 → wp_X11_small (gI s40 0 48) s40 (fun r54 s55 => wp_X11_sendsKept r54 s55 (fun r56 s57 => B_X11_runs_103 Q (L_X11_runs_19 Q n) l1 l2 l3 l4 r56 s57)))) ∧ (gI s40 0 46 = 0 → B_X11_runs_103 Q (L_X11_runs_19 Q n) l1 l2 l3 l4 (-3) s40)) ∧ (gI s40 0 47 = 0 → B_X11_runs_122 Q (L_X11_runs_19 Q n) l1 l2 l3 l4 s40)))
def wp_X11_runs (a1 : Int) (σ : st_S) (Q : Int → st_S → Prop) : Prop := wp_X11_goesAlong a1 0 σ (fun s63 => ∀ x65 : Int, x65 = gI s63 0 44 → ∀ x67 : Int, x67 = gI s63 0 22 → ∃ m19 : Nat, L_X11_runs_19 Q m19 a1 x65 x67 0 s63)
set_option maxRecDepth 20000 in
theorem jb_X11_runs_122 {X : jj_X} {E : ev_E} {n0 hN : Nat} (hc : Cx X E cX11_runs 6 n0 hN RX11) (hm : eM E = 2) (hr : (xT X).sig.returnType = (some .boolean)) (hh : 129 ≤ hN) {Q : Int → st_S → Prop} {k19 : Int → Int → Int → Int → st_S → Prop} (hk19 : ∀ {l1 : Int} {l2 : Int} {l3 : Int} {l4 : Int} (cl1 : wr l1 = l1) (cl2 : wr l2 = l2) (cl3 : wr l3 = l3) (cl4 : wr l4 = l4) {σ : st_S}, k19 l1 l2 l3 l4 σ → J X E 6 n0 0 0 (MQ (xB X) (qI E (n0 + 0) Q) (xA X) (xS X) 0 0 (eF E)) σ 19 [(0, vR E 0), (1, vI l1), (2, vI l2), (3, vI l3), (4, vI l4)] []) {l1 : Int} {l2 : Int} {l3 : Int} {l4 : Int} (cl1 : wr l1 = l1) (cl2 : wr l2 = l2) (cl3 : wr l3 = l3) (cl4 : wr l4 = l4) {σ : st_S} (h : B_X11_runs_122 Q k19 l1 l2 l3 l4 σ) : J X E 6 n0 0 0 (MQ (xB X) (qI E (n0 + 0) Q) (xA X) (xS X) 0 0 (eF E)) σ 122 [(0, vR E 0), (1, vI l1), (2, vI l2), (3, vI l3), (4, vI l4)] [] := by
  have hh1 : 1 ≤ hN := by omega
  replace h : ∀ x33 : Int, x33 = wr (l4 + 1) → k19 l1 l2 l3 x33 σ := h
  obtain ⟨x33, ex33⟩ : ∃ y : Int, y = wr (l4 + 1) := ⟨_, rfl⟩
  have cx33 : wr x33 = x33 := by rw [ex33]; exact wr_wr _
  replace h := h x33 ex33
  refine j_iinc (lv' := [(4, vI x33), (0, vR E 0), (1, vI l1), (2, vI l2), (3, vI l3)]) hc 4 dX11_runs_122 rfl (by decide) ex33 rfl ?_
  refine j_goto (tgt := 19) hc dX11_runs_125 (by decide) ?_
  refine j_sub (lv' := [(0, vR E 0), (1, vI l1), (2, vI l2), (3, vI l3), (4, vI x33)]) [1, 2, 3, 4, 0] rfl ?_
  exact hk19 cl1 cl2 cl3 cx33 h
set_option maxRecDepth 20000 in
theorem jb_X11_runs_103 {X : jj_X} {E : ev_E} {n0 hN : Nat} (hc : Cx X E cX11_runs 6 n0 hN RX11) (hm : eM E = 2) (hr : (xT X).sig.returnType = (some .boolean)) (hh : 129 ≤ hN) {Q : Int → st_S → Prop} {k19 : Int → Int → Int → Int → st_S → Prop} (hk19 : ∀ {l1 : Int} {l2 : Int} {l3 : Int} {l4 : Int} (cl1 : wr l1 = l1) (cl2 : wr l2 = l2) (cl3 : wr l3 = l3) (cl4 : wr l4 = l4) {σ : st_S}, k19 l1 l2 l3 l4 σ → J X E 6 n0 0 0 (MQ (xB X) (qI E (n0 + 0) Q) (xA X) (xS X) 0 0 (eF E)) σ 19 [(0, vR E 0), (1, vI l1), (2, vI l2), (3, vI l3), (4, vI l4)] []) {l1 : Int} {l2 : Int} {l3 : Int} {l4 : Int} {v0 : Int} (cl1 : wr l1 = l1) (cl2 : wr l2 = l2) (cl3 : wr l3 = l3) (cl4 : wr l4 = l4) (cv0 : wr v0 = v0) {σ : st_S} (h : B_X11_runs_103 Q k19 l1 l2 l3 l4 v0 σ) : J X E 6 n0 0 0 (MQ (xB X) (qI E (n0 + 0) Q) (xA X) (xS X) 0 0 (eF E)) σ 103 [(0, vR E 0), (1, vI l1), (2, vI l2), (3, vI l3), (4, vI l4)] [vI v0] := by
  have hh1 : 1 ≤ hN := by omega
  replace h : (0 ≤ v0 → ∀ x35 : Int, x35 = wr (gI σ 0 42 + 1) → ∀ s36 : st_S, s36 = sI σ 0 42 x35 → B_X11_runs_122 Q k19 l1 l2 l3 l4 s36) ∧ (¬ 0 ≤ v0 → Q 0 σ) := h
  refine j_istore (lv' := [(5, vI v0), (0, vR E 0), (1, vI l1), (2, vI l2), (3, vI l3), (4, vI l4)]) hc dX11_runs_103 (by decide) rfl ?_
  refine j_iload hc 0 dX11_runs_105 rfl ?_
  refine j_if_ge hc cv0 (tgt := 112) dX11_runs_107 (by decide) (fun q37 => ?_) (fun q37 => ?_)
  · replace h := h.1 q37
    refine j_aload_nR hc 1 dX11_runs_112 rfl rfl ?_
    refine j_dup hc dX11_runs_113 rfl ?_
    refine j_getI hc fl_RX11_411 (Or.inl rfl) (fun hv => Or.inl (sv_k hv hm rfl)) dX11_runs_114 (fun cn34 => ?_)
    refine j_iconst hc dX11_runs_117 ?_
    refine j_iadd hc dX11_runs_118 ?_
    refine j_w (fun x35 ex35 cx35 => ?_)
    replace h := h x35 ex35
    refine j_putI hc fl_RX11_411 rfl rfl (fun hv => Or.inl (sv_k hv hm rfl)) cx35 dX11_runs_119 (fun s36 es36 => ?_)
    replace h := h s36 es36
    refine j_sub (lv' := [(0, vR E 0), (1, vI l1), (2, vI l2), (3, vI l3), (4, vI l4)]) [1, 2, 3, 4, 5] rfl ?_
    exact jb_X11_runs_122 hc hm hr hh hk19 cl1 cl2 cl3 cl4 h
  · replace h := h.2 q37
    refine j_iconst hc dX11_runs_110 ?_
    exact j_zret hc hr (nar_bool (Or.inl rfl)) (by decide) h dX11_runs_111
set_option maxRecDepth 20000 in
theorem jl_X11_runs_19 {X : jj_X} {E : ev_E} {n0 hN : Nat} (hc : Cx X E cX11_runs 6 n0 hN RX11) (hm : eM E = 2) (hr : (xT X).sig.returnType = (some .boolean)) (hh : 129 ≤ hN) {Q : Int → st_S → Prop} : ∀ (n : Nat) {l1 : Int} {l2 : Int} {l3 : Int} {l4 : Int} (cl1 : wr l1 = l1) (cl2 : wr l2 = l2) (cl3 : wr l3 = l3) (cl4 : wr l4 = l4) {σ : st_S}, L_X11_runs_19 Q n l1 l2 l3 l4 σ → J X E 6 n0 0 0 (MQ (xB X) (qI E (n0 + 0) Q) (xA X) (xS X) 0 0 (eF E)) σ 19 [(0, vR E 0), (1, vI l1), (2, vI l2), (3, vI l3), (4, vI l4)] [] := by
  have hh1 : 1 ≤ hN := by omega
  intro n
  induction n with
  | zero => intro l1 l2 l3 l4 cl1 cl2 cl3 cl4 σ h; exact h.elim
  | succ n ih =>
    intro l1 l2 l3 l4 cl1 cl2 cl3 cl4 σ h
    have hk19 : ∀ {l1 : Int} {l2 : Int} {l3 : Int} {l4 : Int} (cl1 : wr l1 = l1) (cl2 : wr l2 = l2) (cl3 : wr l3 = l3) (cl4 : wr l4 = l4) {σ : st_S}, L_X11_runs_19 Q n l1 l2 l3 l4 σ → J X E 6 n0 0 0 (MQ (xB X) (qI E (n0 + 0) Q) (xA X) (xS X) 0 0 (eF E)) σ 19 [(0, vR E 0), (1, vI l1), (2, vI l2), (3, vI l3), (4, vI l4)] [] := ih
    replace h : (l2 ≤ l4 → ∀ s38 : st_S, s38 = sI σ 0 43 l3 → Q 1 s38) ∧ (¬ l2 ≤ l4 → wp_X11_goesAlong l1 1 σ (fun s40 => (¬ gI s40 0 47 = 0 → (¬ gI s40 0 46 = 0 → (¬ gI s40 0 45 = 26 → (¬ gI s40 0 45 = 27 → wp_X11_darkKept s40 (fun r45 s46 => B_X11_runs_103 Q (L_X11_runs_19 Q n) l1 l2 l3 l4 r45 s46)) ∧ (gI s40 0 45 = 27 → wp_X11_small (gI s40 0 48) s40 (fun r48 s49 => wp_X11_lightsKept r48 s49 (fun r50 s51 => B_X11_runs_103 Q (L_X11_runs_19 Q n) l1 l2 l3 l4 r50 s51)))) ∧ (gI s40 0 45 = 26 → wp_X11_small (gI s40 0 48) s40 (fun r54 s55 => wp_X11_sendsKept r54 s55 (fun r56 s57 => B_X11_runs_103 Q (L_X11_runs_19 Q n) l1 l2 l3 l4 r56 s57)))) ∧ (gI s40 0 46 = 0 → B_X11_runs_103 Q (L_X11_runs_19 Q n) l1 l2 l3 l4 (-3) s40)) ∧ (gI s40 0 47 = 0 → B_X11_runs_122 Q (L_X11_runs_19 Q n) l1 l2 l3 l4 s40))) := h
    refine j_iload hc 4 dX11_runs_19 rfl ?_
    refine j_iload_n hc 2 dX11_runs_21 rfl rfl ?_
    refine j_ic_ge hc cl4 cl2 (tgt := 128) dX11_runs_22 (by decide) (fun q61 => ?_) (fun q61 => ?_)
    · replace h := h.1 q61
      refine j_aload_nR hc 0 dX11_runs_128 rfl rfl ?_
      refine j_iload_n hc 3 dX11_runs_129 rfl rfl ?_
      refine j_putI hc fl_RX11_414 rfl rfl (fun hv => Or.inl (sv_k hv hm rfl)) cl3 dX11_runs_130 (fun s38 es38 => ?_)
      replace h := h s38 es38
      refine j_iconst hc dX11_runs_133 ?_
      exact j_zret hc hr (nar_bool (Or.inr rfl)) (by decide) h dX11_runs_134
    · replace h := h.2 q61
      refine j_aload_nR hc 0 dX11_runs_25 rfl rfl ?_
      refine j_iload_n hc 1 dX11_runs_26 rfl rfl ?_
      refine j_iconst hc dX11_runs_27 ?_
      refine j_vV hc (k := 11) (by decide) (fun hv => Or.inl (sv_k hv hm rfl)) ml_RX11_438 mv_X11_goesAlong (As := [vI l1, vI 1]) (c_X11_goesAlong (cx_E hc) hm cl1 (wlit 1 (by decide)) h) rfl (by omega) (by decide) ⟨Nat.zero_le _, Nat.zero_le _⟩ (Nat.le_of_ble_eq_true rfl) rfl dX11_runs_28 (fun s40 h => ?_)
      refine j_aload_nR hc 0 dX11_runs_31 rfl rfl ?_
      refine j_getI hc fl_RX11_433 (Or.inr rfl) (fun hv => Or.inl (sv_k hv hm rfl)) dX11_runs_32 (fun cn41 => ?_)
      refine j_if_ne hc cn41 (tgt := 41) dX11_runs_35 (by decide) (fun q60 => ?_) (fun q60 => ?_)
      · replace h := h.1 q60
        refine j_aload_nR hc 0 dX11_runs_41 rfl rfl ?_
        refine j_getI hc fl_RX11_427 (Or.inr rfl) (fun hv => Or.inl (sv_k hv hm rfl)) dX11_runs_42 (fun cn42 => ?_)
        refine j_if_ne hc cn42 (tgt := 53) dX11_runs_45 (by decide) (fun q59 => ?_) (fun q59 => ?_)
        · replace h := h.1 q59
          refine j_aload_nR hc 0 dX11_runs_53 rfl rfl ?_
          refine j_getI hc fl_RX11_420 (Or.inl rfl) (fun hv => Or.inl (sv_k hv hm rfl)) dX11_runs_54 (fun cn43 => ?_)
          refine j_bipush hc dX11_runs_57 (by decide) ?_
          refine j_ic_ne hc cn43 (wlit 26 (by decide)) (tgt := 76) dX11_runs_59 (by decide) (fun q58 => ?_) (fun q58 => ?_)
          · replace h := h.1 q58
            refine j_aload_nR hc 0 dX11_runs_76 rfl rfl ?_
            refine j_getI hc fl_RX11_420 (Or.inl rfl) (fun hv => Or.inl (sv_k hv hm rfl)) dX11_runs_77 (fun cn44 => ?_)
            refine j_bipush hc dX11_runs_80 (by decide) ?_
            refine j_ic_ne hc cn44 (wlit 27 (by decide)) (tgt := 99) dX11_runs_82 (by decide) (fun q52 => ?_) (fun q52 => ?_)
            · replace h := h.1 q52
              refine j_aload_nR hc 0 dX11_runs_99 rfl rfl ?_
              refine j_vI hc (k := 11) (by decide) (fun hv => Or.inl (sv_k hv hm rfl)) ml_RX11_352 mv_X11_darkKept (As := []) (c_X11_darkKept (cx_E hc) hm  h) rfl (by omega) (by decide) ⟨Nat.zero_le _, Nat.zero_le _⟩ (Nat.le_of_ble_eq_true rfl) rfl dX11_runs_100 (fun r45 s46 cr45 h => ?_)
              refine j_sub (lv' := [(0, vR E 0), (1, vI l1), (2, vI l2), (3, vI l3), (4, vI l4)]) [0, 1, 2, 3, 4] rfl ?_
              exact jb_X11_runs_103 hc hm hr hh hk19 cl1 cl2 cl3 cl4 cr45 h
            · replace h := h.2 q52
              refine j_aload_nR hc 0 dX11_runs_85 rfl rfl ?_
              refine j_aload_nR hc 0 dX11_runs_86 rfl rfl ?_
              refine j_getL hc fl_RX11_423 rfl (fun hv => Or.inl (sv_k hv hm rfl)) dX11_runs_87 (fun cn47 => ?_)
              refine j_sI hc ml_RX11_442 mv_X11_small (As := [vL (gI s40 0 48)]) (c_X11_small (cx_E hc) hm cn47 h) rfl (by omega) (by decide) ⟨Nat.zero_le _, Nat.zero_le _⟩ (Nat.le_of_ble_eq_true rfl) rfl dX11_runs_90 (fun r48 s49 cr48 h => ?_)
              refine j_vI hc (k := 11) (by decide) (fun hv => Or.inl (sv_k hv hm rfl)) ml_RX11_349 mv_X11_lightsKept (As := [vI r48]) (c_X11_lightsKept (cx_E hc) hm cr48 h) rfl (by omega) (by decide) ⟨Nat.zero_le _, Nat.zero_le _⟩ (Nat.le_of_ble_eq_true rfl) rfl dX11_runs_93 (fun r50 s51 cr50 h => ?_)
              refine j_goto (tgt := 103) hc dX11_runs_96 (by decide) ?_
              refine j_sub (lv' := [(0, vR E 0), (1, vI l1), (2, vI l2), (3, vI l3), (4, vI l4)]) [0, 1, 2, 3, 4] rfl ?_
              exact jb_X11_runs_103 hc hm hr hh hk19 cl1 cl2 cl3 cl4 cr50 h
          · replace h := h.2 q58
            refine j_aload_nR hc 0 dX11_runs_62 rfl rfl ?_
            refine j_aload_nR hc 0 dX11_runs_63 rfl rfl ?_
            refine j_getL hc fl_RX11_423 rfl (fun hv => Or.inl (sv_k hv hm rfl)) dX11_runs_64 (fun cn53 => ?_)
            refine j_sI hc ml_RX11_442 mv_X11_small (As := [vL (gI s40 0 48)]) (c_X11_small (cx_E hc) hm cn53 h) rfl (by omega) (by decide) ⟨Nat.zero_le _, Nat.zero_le _⟩ (Nat.le_of_ble_eq_true rfl) rfl dX11_runs_67 (fun r54 s55 cr54 h => ?_)
            refine j_vI hc (k := 11) (by decide) (fun hv => Or.inl (sv_k hv hm rfl)) ml_RX11_343 mv_X11_sendsKept (As := [vI r54]) (c_X11_sendsKept (cx_E hc) hm cr54 h) rfl (by omega) (by decide) ⟨Nat.zero_le _, Nat.zero_le _⟩ (Nat.le_of_ble_eq_true rfl) rfl dX11_runs_70 (fun r56 s57 cr56 h => ?_)
            refine j_goto (tgt := 103) hc dX11_runs_73 (by decide) ?_
            refine j_sub (lv' := [(0, vR E 0), (1, vI l1), (2, vI l2), (3, vI l3), (4, vI l4)]) [0, 1, 2, 3, 4] rfl ?_
            exact jb_X11_runs_103 hc hm hr hh hk19 cl1 cl2 cl3 cl4 cr56 h
        · replace h := h.2 q59
          refine j_bipush hc dX11_runs_48 (by decide) ?_
          refine j_goto (tgt := 103) hc dX11_runs_50 (by decide) ?_
          refine j_sub (lv' := [(0, vR E 0), (1, vI l1), (2, vI l2), (3, vI l3), (4, vI l4)]) [0, 1, 2, 3, 4] rfl ?_
          exact jb_X11_runs_103 hc hm hr hh hk19 cl1 cl2 cl3 cl4 (wlit (-3) (by decide)) h
      · replace h := h.2 q60
        refine j_goto (tgt := 122) hc dX11_runs_38 (by decide) ?_
        refine j_sub (lv' := [(0, vR E 0), (1, vI l1), (2, vI l2), (3, vI l3), (4, vI l4)]) [0, 1, 2, 3, 4] rfl ?_
        exact jb_X11_runs_122 hc hm hr hh hk19 cl1 cl2 cl3 cl4 h
set_option maxRecDepth 20000 in
theorem c_X11_runs {l : Launch} {E : ev_E} (hE : Eok E) (hm : eM E = 2) {a1 : Int} (ca1 : wr a1 = a1) {σ : st_S} {Q : Int → st_S → Prop} (h : wp_X11_runs a1 σ Q) : cM l yX11_runs cX11_runs 6 (some .boolean) E 129 0 0 [vR E 0, vI a1] σ (qI E (gN σ + 0) Q) := by
  refine cM_of (lv := [(0, vR E 0), (1, vI a1)]) (by decide) hE (Nat.le_of_ble_eq_true rfl) (rfl) ?_
  intro X hX hc _ _ hr _ _
  subst hX
  have hh : 129 ≤ 129 := Nat.le_refl _
  have hh1 : 1 ≤ 129 := by omega
  replace h : wp_X11_goesAlong a1 0 σ (fun s63 => ∀ x65 : Int, x65 = gI s63 0 44 → ∀ x67 : Int, x67 = gI s63 0 22 → ∃ m19 : Nat, L_X11_runs_19 Q m19 a1 x65 x67 0 s63) := h
  refine j_aload_nR hc 0 dX11_runs_0 rfl rfl ?_
  refine j_iload_n hc 1 dX11_runs_1 rfl rfl ?_
  refine j_iconst hc dX11_runs_2 ?_
  refine j_vV hc (k := 11) (by decide) (fun hv => Or.inl (sv_k hv hm rfl)) ml_RX11_438 mv_X11_goesAlong (As := [vI a1, vI 0]) (c_X11_goesAlong (cx_E hc) hm ca1 (wlit 0 (by decide)) h) rfl (by omega) (by decide) ⟨Nat.zero_le _, Nat.zero_le _⟩ (Nat.le_of_ble_eq_true rfl) rfl dX11_runs_3 (fun s63 h => ?_)
  refine j_aload_nR hc 0 dX11_runs_6 rfl rfl ?_
  refine j_getI hc fl_RX11_430 (Or.inl rfl) (fun hv => Or.inl (sv_k hv hm rfl)) dX11_runs_7 (fun cn64 => ?_)
  refine j_c cn64 (fun x65 ex65 cx65 => ?_)
  replace h := h x65 ex65
  refine j_istore_n (lv' := [(2, vI x65), (0, vR E 0), (1, vI a1)]) hc dX11_runs_10 rfl (by decide) rfl ?_
  refine j_aload_nR hc 1 dX11_runs_11 rfl rfl ?_
  refine j_getI hc fl_RX11_248 (Or.inl rfl) (fun hv => Or.inl (sv_k hv hm rfl)) dX11_runs_12 (fun cn66 => ?_)
  refine j_c cn66 (fun x67 ex67 cx67 => ?_)
  replace h := h x67 ex67
  refine j_istore_n (lv' := [(3, vI x67), (2, vI x65), (0, vR E 0), (1, vI a1)]) hc dX11_runs_15 rfl (by decide) rfl ?_
  refine j_iconst hc dX11_runs_16 ?_
  refine j_istore (lv' := [(4, vI 0), (3, vI x67), (2, vI x65), (0, vR E 0), (1, vI a1)]) hc dX11_runs_17 (by decide) rfl ?_
  obtain ⟨n19, h⟩ := h
  refine j_sub (lv' := [(0, vR E 0), (1, vI a1), (2, vI x65), (3, vI x67), (4, vI 0)]) [3, 4, 2, 1, 0] rfl ?_
  exact jl_X11_runs_19 hc hm hr hh n19 ca1 cx65 cx67 (wlit 0 (by decide)) h
-- LitStrangersModel.orders()I
theorem dX11_orders_0 : decode cX11_orders 0 = .ok (.aload_n 0, 1) := by decide +kernel
theorem dX11_orders_1 : decode cX11_orders 1 = .ok (.iconst (-1), 1) := by decide +kernel
theorem dX11_orders_2 : decode cX11_orders 2 = .ok (.putfield 100, 3) := by decide +kernel
theorem dX11_orders_5 : decode cX11_orders 5 = .ok (.aload_n 0, 1) := by decide +kernel
theorem dX11_orders_6 : decode cX11_orders 6 = .ok (.iconst 1, 1) := by decide +kernel
theorem dX11_orders_7 : decode cX11_orders 7 = .ok (.invokevirtual 238, 3) := by decide +kernel
theorem dX11_orders_10 : decode cX11_orders 10 = .ok (.ifCond .ne 10, 3) := by decide +kernel
theorem dX11_orders_13 : decode cX11_orders 13 = .ok (.aload_n 0, 1) := by decide +kernel
theorem dX11_orders_14 : decode cX11_orders 14 = .ok (.bipush (-6), 2) := by decide +kernel
theorem dX11_orders_16 : decode cX11_orders 16 = .ok (.invokevirtual 110, 3) := by decide +kernel
theorem dX11_orders_19 : decode cX11_orders 19 = .ok (.ireturn, 1) := by decide +kernel
theorem dX11_orders_20 : decode cX11_orders 20 = .ok (.iconst 0, 1) := by decide +kernel
theorem dX11_orders_21 : decode cX11_orders 21 = .ok (.istore_n 1, 1) := by decide +kernel
theorem dX11_orders_22 : decode cX11_orders 22 = .ok (.iload_n 1, 1) := by decide +kernel
theorem dX11_orders_23 : decode cX11_orders 23 = .ok (.bipush 34, 2) := by decide +kernel
theorem dX11_orders_25 : decode cX11_orders 25 = .ok (.if_icmp .ge 21, 3) := by decide +kernel
theorem dX11_orders_28 : decode cX11_orders 28 = .ok (.aload_n 0, 1) := by decide +kernel
theorem dX11_orders_29 : decode cX11_orders 29 = .ok (.getfield 34, 3) := by decide +kernel
theorem dX11_orders_32 : decode cX11_orders 32 = .ok (.iload_n 1, 1) := by decide +kernel
theorem dX11_orders_33 : decode cX11_orders 33 = .ok (.aload_n 0, 1) := by decide +kernel
theorem dX11_orders_34 : decode cX11_orders 34 = .ok (.getfield 24, 3) := by decide +kernel
theorem dX11_orders_37 : decode cX11_orders 37 = .ok (.iload_n 1, 1) := by decide +kernel
theorem dX11_orders_38 : decode cX11_orders 38 = .ok (.iaload, 1) := by decide +kernel
theorem dX11_orders_39 : decode cX11_orders 39 = .ok (.iastore, 1) := by decide +kernel
theorem dX11_orders_40 : decode cX11_orders 40 = .ok (.iinc 1 1, 3) := by decide +kernel
theorem dX11_orders_43 : decode cX11_orders 43 = .ok (.goto (-21), 3) := by decide +kernel
theorem dX11_orders_46 : decode cX11_orders 46 = .ok (.iconst 0, 1) := by decide +kernel
theorem dX11_orders_47 : decode cX11_orders 47 = .ok (.istore_n 1, 1) := by decide +kernel
theorem dX11_orders_48 : decode cX11_orders 48 = .ok (.iload_n 1, 1) := by decide +kernel
theorem dX11_orders_49 : decode cX11_orders 49 = .ok (.sipush 560, 3) := by decide +kernel
theorem dX11_orders_52 : decode cX11_orders 52 = .ok (.if_icmp .ge 21, 3) := by decide +kernel
theorem dX11_orders_55 : decode cX11_orders 55 = .ok (.aload_n 0, 1) := by decide +kernel
theorem dX11_orders_56 : decode cX11_orders 56 = .ok (.getfield 65, 3) := by decide +kernel
theorem dX11_orders_59 : decode cX11_orders 59 = .ok (.iload_n 1, 1) := by decide +kernel
theorem dX11_orders_60 : decode cX11_orders 60 = .ok (.aload_n 0, 1) := by decide +kernel
theorem dX11_orders_61 : decode cX11_orders 61 = .ok (.getfield 62, 3) := by decide +kernel
theorem dX11_orders_64 : decode cX11_orders 64 = .ok (.iload_n 1, 1) := by decide +kernel
theorem dX11_orders_65 : decode cX11_orders 65 = .ok (.iaload, 1) := by decide +kernel
theorem dX11_orders_66 : decode cX11_orders 66 = .ok (.iastore, 1) := by decide +kernel
theorem dX11_orders_67 : decode cX11_orders 67 = .ok (.iinc 1 1, 3) := by decide +kernel
theorem dX11_orders_70 : decode cX11_orders 70 = .ok (.goto (-22), 3) := by decide +kernel
theorem dX11_orders_73 : decode cX11_orders 73 = .ok (.aload_n 0, 1) := by decide +kernel
theorem dX11_orders_74 : decode cX11_orders 74 = .ok (.getfield 11, 3) := by decide +kernel
theorem dX11_orders_77 : decode cX11_orders 77 = .ok (.istore_n 1, 1) := by decide +kernel
theorem dX11_orders_78 : decode cX11_orders 78 = .ok (.aload_n 0, 1) := by decide +kernel
theorem dX11_orders_79 : decode cX11_orders 79 = .ok (.bipush 6, 2) := by decide +kernel
theorem dX11_orders_81 : decode cX11_orders 81 = .ok (.invokevirtual 242, 3) := by decide +kernel
theorem dX11_orders_84 : decode cX11_orders 84 = .ok (.aload_n 0, 1) := by decide +kernel
theorem dX11_orders_85 : decode cX11_orders 85 = .ok (.iconst 0, 1) := by decide +kernel
theorem dX11_orders_86 : decode cX11_orders 86 = .ok (.putfield 411, 3) := by decide +kernel
theorem dX11_orders_89 : decode cX11_orders 89 = .ok (.aload_n 0, 1) := by decide +kernel
theorem dX11_orders_90 : decode cX11_orders 90 = .ok (.sipush 2400, 3) := by decide +kernel
theorem dX11_orders_93 : decode cX11_orders 93 = .ok (.putfield 414, 3) := by decide +kernel
theorem dX11_orders_96 : decode cX11_orders 96 = .ok (.aload_n 0, 1) := by decide +kernel
theorem dX11_orders_97 : decode cX11_orders 97 = .ok (.getfield 414, 3) := by decide +kernel
theorem dX11_orders_100 : decode cX11_orders 100 = .ok (.aload_n 0, 1) := by decide +kernel
theorem dX11_orders_101 : decode cX11_orders 101 = .ok (.getfield 24, 3) := by decide +kernel
theorem dX11_orders_104 : decode cX11_orders 104 = .ok (.sipush 265, 3) := by decide +kernel
theorem dX11_orders_107 : decode cX11_orders 107 = .ok (.iaload, 1) := by decide +kernel
theorem dX11_orders_108 : decode cX11_orders 108 = .ok (.iadd, 1) := by decide +kernel
theorem dX11_orders_109 : decode cX11_orders 109 = .ok (.istore_n 2, 1) := by decide +kernel
theorem dX11_orders_110 : decode cX11_orders 110 = .ok (.iconst 0, 1) := by decide +kernel
theorem dX11_orders_111 : decode cX11_orders 111 = .ok (.istore_n 3, 1) := by decide +kernel
theorem dX11_orders_112 : decode cX11_orders 112 = .ok (.aload_n 0, 1) := by decide +kernel
theorem dX11_orders_113 : decode cX11_orders 113 = .ok (.getfield 414, 3) := by decide +kernel
theorem dX11_orders_116 : decode cX11_orders 116 = .ok (.iload_n 2, 1) := by decide +kernel
theorem dX11_orders_117 : decode cX11_orders 117 = .ok (.if_icmp .ge 98, 3) := by decide +kernel
theorem dX11_orders_120 : decode cX11_orders 120 = .ok (.aload_n 0, 1) := by decide +kernel
theorem dX11_orders_121 : decode cX11_orders 121 = .ok (.iload_n 2, 1) := by decide +kernel
theorem dX11_orders_122 : decode cX11_orders 122 = .ok (.invokevirtual 417, 3) := by decide +kernel
theorem dX11_orders_125 : decode cX11_orders 125 = .ok (.ifCond .eq 6, 3) := by decide +kernel
theorem dX11_orders_128 : decode cX11_orders 128 = .ok (.goto 81, 3) := by decide +kernel
theorem dX11_orders_131 : decode cX11_orders 131 = .ok (.iconst 0, 1) := by decide +kernel
theorem dX11_orders_132 : decode cX11_orders 132 = .ok (.istore 4, 2) := by decide +kernel
theorem dX11_orders_134 : decode cX11_orders 134 = .ok (.iload 4, 2) := by decide +kernel
theorem dX11_orders_136 : decode cX11_orders 136 = .ok (.bipush 34, 2) := by decide +kernel
theorem dX11_orders_138 : decode cX11_orders 138 = .ok (.if_icmp .ge 23, 3) := by decide +kernel
theorem dX11_orders_141 : decode cX11_orders 141 = .ok (.aload_n 0, 1) := by decide +kernel
theorem dX11_orders_142 : decode cX11_orders 142 = .ok (.getfield 24, 3) := by decide +kernel
theorem dX11_orders_145 : decode cX11_orders 145 = .ok (.iload 4, 2) := by decide +kernel
theorem dX11_orders_147 : decode cX11_orders 147 = .ok (.aload_n 0, 1) := by decide +kernel
theorem dX11_orders_148 : decode cX11_orders 148 = .ok (.getfield 34, 3) := by decide +kernel
theorem dX11_orders_151 : decode cX11_orders 151 = .ok (.iload 4, 2) := by decide +kernel
theorem dX11_orders_153 : decode cX11_orders 153 = .ok (.iaload, 1) := by decide +kernel
theorem dX11_orders_154 : decode cX11_orders 154 = .ok (.iastore, 1) := by decide +kernel
theorem dX11_orders_155 : decode cX11_orders 155 = .ok (.iinc 4 1, 3) := by decide +kernel
theorem dX11_orders_158 : decode cX11_orders 158 = .ok (.goto (-24), 3) := by decide +kernel
theorem dX11_orders_161 : decode cX11_orders 161 = .ok (.iconst 0, 1) := by decide +kernel
theorem dX11_orders_162 : decode cX11_orders 162 = .ok (.istore 4, 2) := by decide +kernel
theorem dX11_orders_164 : decode cX11_orders 164 = .ok (.iload 4, 2) := by decide +kernel
theorem dX11_orders_166 : decode cX11_orders 166 = .ok (.sipush 560, 3) := by decide +kernel
theorem dX11_orders_169 : decode cX11_orders 169 = .ok (.if_icmp .ge 23, 3) := by decide +kernel
theorem dX11_orders_172 : decode cX11_orders 172 = .ok (.aload_n 0, 1) := by decide +kernel
theorem dX11_orders_173 : decode cX11_orders 173 = .ok (.getfield 62, 3) := by decide +kernel
theorem dX11_orders_176 : decode cX11_orders 176 = .ok (.iload 4, 2) := by decide +kernel
theorem dX11_orders_178 : decode cX11_orders 178 = .ok (.aload_n 0, 1) := by decide +kernel
theorem dX11_orders_179 : decode cX11_orders 179 = .ok (.getfield 65, 3) := by decide +kernel
theorem dX11_orders_182 : decode cX11_orders 182 = .ok (.iload 4, 2) := by decide +kernel
theorem dX11_orders_184 : decode cX11_orders 184 = .ok (.iaload, 1) := by decide +kernel
theorem dX11_orders_185 : decode cX11_orders 185 = .ok (.iastore, 1) := by decide +kernel
theorem dX11_orders_186 : decode cX11_orders 186 = .ok (.iinc 4 1, 3) := by decide +kernel
theorem dX11_orders_189 : decode cX11_orders 189 = .ok (.goto (-25), 3) := by decide +kernel
theorem dX11_orders_192 : decode cX11_orders 192 = .ok (.aload_n 0, 1) := by decide +kernel
theorem dX11_orders_193 : decode cX11_orders 193 = .ok (.iload_n 1, 1) := by decide +kernel
theorem dX11_orders_194 : decode cX11_orders 194 = .ok (.putfield 11, 3) := by decide +kernel
theorem dX11_orders_197 : decode cX11_orders 197 = .ok (.aload_n 0, 1) := by decide +kernel
theorem dX11_orders_198 : decode cX11_orders 198 = .ok (.iload_n 3, 1) := by decide +kernel
theorem dX11_orders_199 : decode cX11_orders 199 = .ok (.putfield 100, 3) := by decide +kernel
theorem dX11_orders_202 : decode cX11_orders 202 = .ok (.aload_n 0, 1) := by decide +kernel
theorem dX11_orders_203 : decode cX11_orders 203 = .ok (.bipush (-3), 2) := by decide +kernel
theorem dX11_orders_205 : decode cX11_orders 205 = .ok (.invokevirtual 110, 3) := by decide +kernel
theorem dX11_orders_208 : decode cX11_orders 208 = .ok (.ireturn, 1) := by decide +kernel
theorem dX11_orders_209 : decode cX11_orders 209 = .ok (.iinc 3 1, 3) := by decide +kernel
theorem dX11_orders_212 : decode cX11_orders 212 = .ok (.goto (-100), 3) := by decide +kernel
theorem dX11_orders_215 : decode cX11_orders 215 = .ok (.aload_n 0, 1) := by decide +kernel
theorem dX11_orders_216 : decode cX11_orders 216 = .ok (.aload_n 0, 1) := by decide +kernel
theorem dX11_orders_217 : decode cX11_orders 217 = .ok (.getfield 411, 3) := by decide +kernel
theorem dX11_orders_220 : decode cX11_orders 220 = .ok (.invokevirtual 14, 3) := by decide +kernel
theorem dX11_orders_223 : decode cX11_orders 223 = .ok (.ireturn, 1) := by decide +kernel
def L_X11_orders_164 (Q : Int → st_S → Prop)   : Nat → Int → Int → Int → st_S → Prop
  | 0 => fun _ _ _ _ => False
  | n + 1 => fun l1 l3 l4 σ => (560 ≤ l4 → ∀ s61 : st_S, s61 = sI σ 0 28 l1 → ∀ s62 : st_S, s62 = sI s61 0 41 l3 → wp_X11_refuses (-3) s62 (fun r63 s64 => Q r63 s64)) ∧ (¬ 560 ≤ l4 → ix l4 560 ∧ ix l4 560 ∧ ∀ s68 : st_S, s68 = sI σ 13 (Int.toNat l4) (gI σ 14 (Int.toNat l4)) → ∀ x69 : Int, x69 = wr (l4 + 1) → (L_X11_orders_164 Q n) l1 l3 x69 s68)
def L_X11_orders_134 (Q : Int → st_S → Prop)   : Nat → Int → Int → Int → st_S → Prop
  | 0 => fun _ _ _ _ => False
  | n + 1 => fun l1 l3 l4 σ => (34 ≤ l4 → ∃ m164 : Nat, L_X11_orders_164 Q m164 l1 l3 0 σ) ∧ (¬ 34 ≤ l4 → ix l4 34 ∧ ix l4 5866 ∧ ∀ s74 : st_S, s74 = sI σ 2 (Int.toNat l4) (gI σ 5 (Int.toNat l4)) → ∀ x75 : Int, x75 = wr (l4 + 1) → (L_X11_orders_134 Q n) l1 l3 x75 s74)
def L_X11_orders_112 (Q : Int → st_S → Prop)   : Nat → Int → Int → Int → st_S → Prop
  | 0 => fun _ _ _ _ => False
  | n + 1 => fun l1 l2 l3 σ => (l2 ≤ gI σ 0 43 → wp_X11_good (gI σ 0 42) σ (fun r79 s80 => Q r79 s80)) ∧ (¬ l2 ≤ gI σ 0 43 → wp_X11_runs l2 σ (fun r81 s82 => (r81 = 0 → ∃ m134 : Nat, L_X11_orders_134 Q m134 l1 l3 0 s82) ∧ (¬ r81 = 0 → ∀ x83 : Int, x83 = wr (l3 + 1) → (L_X11_orders_112 Q n) l1 l2 x83 s82)))
def L_X11_orders_48 (Q : Int → st_S → Prop)   : Nat → Int → st_S → Prop
  | 0 => fun _ _ => False
  | n + 1 => fun l1 σ => (560 ≤ l1 → ∀ x87 : Int, x87 = gI σ 0 28 → wp_X11_lays 6 σ (fun s89 => ∀ s90 : st_S, s90 = sI s89 0 42 0 → ∀ s91 : st_S, s91 = sI s90 0 43 2400 → ∀ x94 : Int, x94 = wr (gI s91 0 43 + gI s91 2 265) → ∃ m112 : Nat, L_X11_orders_112 Q m112 x87 x94 0 s91)) ∧ (¬ 560 ≤ l1 → ix l1 560 ∧ ix l1 560 ∧ ∀ s98 : st_S, s98 = sI σ 14 (Int.toNat l1) (gI σ 13 (Int.toNat l1)) → ∀ x99 : Int, x99 = wr (l1 + 1) → (L_X11_orders_48 Q n) x99 s98)
def L_X11_orders_22 (Q : Int → st_S → Prop)   : Nat → Int → st_S → Prop
  | 0 => fun _ _ => False
  | n + 1 => fun l1 σ => (34 ≤ l1 → ∃ m48 : Nat, L_X11_orders_48 Q m48 0 σ) ∧ (¬ 34 ≤ l1 → ix l1 5866 ∧ ix l1 34 ∧ ∀ s104 : st_S, s104 = sI σ 5 (Int.toNat l1) (gI σ 2 (Int.toNat l1)) → ∀ x105 : Int, x105 = wr (l1 + 1) → (L_X11_orders_22 Q n) x105 s104)
def wp_X11_orders  (σ : st_S) (Q : Int → st_S → Prop) : Prop := ∀ s107 : st_S, s107 = sI σ 0 41 (-1) → wp_X11_readsAs 1 s107 (fun r108 s109 => (¬ r108 = 0 → ∃ m22 : Nat, L_X11_orders_22 Q m22 0 s109) ∧ (r108 = 0 → wp_X11_refuses (-6) s109 (fun r110 s111 => Q r110 s111)))
set_option maxRecDepth 20000 in
theorem jl_X11_orders_164 {X : jj_X} {E : ev_E} {n0 hN : Nat} (hc : Cx X E cX11_orders 5 n0 hN RX11) (hm : eM E = 2) (hr : (xT X).sig.returnType = (some .int)) (hh : 130 ≤ hN) {Q : Int → st_S → Prop} : ∀ (n : Nat) {l1 : Int} {l3 : Int} {l4 : Int} (cl1 : wr l1 = l1) (cl3 : wr l3 = l3) (cl4 : wr l4 = l4) {σ : st_S}, L_X11_orders_164 Q n l1 l3 l4 σ → J X E 5 n0 0 0 (MQ (xB X) (qI E (n0 + 0) Q) (xA X) (xS X) 0 0 (eF E)) σ 164 [(0, vR E 0), (1, vI l1), (3, vI l3), (4, vI l4)] [] := by
  have hh1 : 1 ≤ hN := by omega
  intro n
  induction n with
  | zero => intro l1 l3 l4 cl1 cl3 cl4 σ h; exact h.elim
  | succ n ih =>
    intro l1 l3 l4 cl1 cl3 cl4 σ h
    have hk164 : ∀ {l1 : Int} {l3 : Int} {l4 : Int} (cl1 : wr l1 = l1) (cl3 : wr l3 = l3) (cl4 : wr l4 = l4) {σ : st_S}, L_X11_orders_164 Q n l1 l3 l4 σ → J X E 5 n0 0 0 (MQ (xB X) (qI E (n0 + 0) Q) (xA X) (xS X) 0 0 (eF E)) σ 164 [(0, vR E 0), (1, vI l1), (3, vI l3), (4, vI l4)] [] := ih
    replace h : (560 ≤ l4 → ∀ s61 : st_S, s61 = sI σ 0 28 l1 → ∀ s62 : st_S, s62 = sI s61 0 41 l3 → wp_X11_refuses (-3) s62 (fun r63 s64 => Q r63 s64)) ∧ (¬ 560 ≤ l4 → ix l4 560 ∧ ix l4 560 ∧ ∀ s68 : st_S, s68 = sI σ 13 (Int.toNat l4) (gI σ 14 (Int.toNat l4)) → ∀ x69 : Int, x69 = wr (l4 + 1) → (L_X11_orders_164 Q n) l1 l3 x69 s68) := h
    refine j_iload hc 3 dX11_orders_164 rfl ?_
    refine j_sipush hc dX11_orders_166 (by decide) ?_
    refine j_ic_ge hc cl4 (wlit 560 (by decide)) (tgt := 192) dX11_orders_169 (by decide) (fun q70 => ?_) (fun q70 => ?_)
    · replace h := h.1 q70
      refine j_aload_nR hc 0 dX11_orders_192 rfl rfl ?_
      refine j_iload_n hc 1 dX11_orders_193 rfl rfl ?_
      refine j_putI hc fl_RX11_11 rfl rfl (fun hv => Or.inl (sv_k hv hm rfl)) cl1 dX11_orders_194 (fun s61 es61 => ?_)
      replace h := h s61 es61
      refine j_aload_nR hc 0 dX11_orders_197 rfl rfl ?_
      refine j_iload_n hc 2 dX11_orders_198 rfl rfl ?_
      refine j_putI hc fl_RX11_100 rfl rfl (fun hv => Or.inl (sv_k hv hm rfl)) cl3 dX11_orders_199 (fun s62 es62 => ?_)
      replace h := h s62 es62
      refine j_aload_nR hc 0 dX11_orders_202 rfl rfl ?_
      refine j_bipush hc dX11_orders_203 (by decide) ?_
      refine j_vI hc (k := 11) (by decide) (fun hv => Or.inl (sv_k hv hm rfl)) ml_RX11_110 mv_X11_refuses (As := [vI (-3)]) (c_X11_refuses (cx_E hc) hm (wlit (-3) (by decide)) h) rfl (by omega) (by decide) ⟨Nat.zero_le _, Nat.zero_le _⟩ (Nat.le_of_ble_eq_true rfl) rfl dX11_orders_205 (fun r63 s64 cr63 h => ?_)
      exact j_iret hc hr cr63 h dX11_orders_208
    · replace h := h.2 q70
      refine j_aload_nR hc 0 dX11_orders_172 rfl rfl ?_
      refine j_getR (c' := 13) hc fl_RX11_62 rfl rfl (fun hv => (sv_k hv hm rfl)) dX11_orders_173 ?_
      refine j_iload hc 3 dX11_orders_176 rfl ?_
      refine j_aload_nR hc 0 dX11_orders_178 rfl rfl ?_
      refine j_getR (c' := 14) hc fl_RX11_65 rfl rfl (fun hv => (sv_k hv hm rfl)) dX11_orders_179 ?_
      refine j_iload hc 3 dX11_orders_182 rfl ?_
      obtain ⟨b65, h⟩ := h
      refine j_iald (jn := (Int.toNat l4)) hc (fun hv => sv_kl hv hm rfl) cl4 b65 rfl dX11_orders_184 (fun cn66 => ?_)
      obtain ⟨b67, h⟩ := h
      refine j_iast (jn := (Int.toNat l4)) hc (fun hv => sv_kl hv hm rfl) cl4 b67 rfl cn66 dX11_orders_185 (fun s68 es68 => ?_)
      replace h := h s68 es68
      obtain ⟨x69, ex69⟩ : ∃ y : Int, y = wr (l4 + 1) := ⟨_, rfl⟩
      have cx69 : wr x69 = x69 := by rw [ex69]; exact wr_wr _
      replace h := h x69 ex69
      refine j_iinc (lv' := [(4, vI x69), (0, vR E 0), (1, vI l1), (3, vI l3)]) hc 3 dX11_orders_186 rfl (by decide) ex69 rfl ?_
      refine j_goto (tgt := 164) hc dX11_orders_189 (by decide) ?_
      refine j_sub (lv' := [(0, vR E 0), (1, vI l1), (3, vI l3), (4, vI x69)]) [1, 2, 3, 0] rfl ?_
      exact hk164 cl1 cl3 cx69 h
set_option maxRecDepth 20000 in
theorem jl_X11_orders_134 {X : jj_X} {E : ev_E} {n0 hN : Nat} (hc : Cx X E cX11_orders 5 n0 hN RX11) (hm : eM E = 2) (hr : (xT X).sig.returnType = (some .int)) (hh : 130 ≤ hN) {Q : Int → st_S → Prop} : ∀ (n : Nat) {l1 : Int} {l3 : Int} {l4 : Int} (cl1 : wr l1 = l1) (cl3 : wr l3 = l3) (cl4 : wr l4 = l4) {σ : st_S}, L_X11_orders_134 Q n l1 l3 l4 σ → J X E 5 n0 0 0 (MQ (xB X) (qI E (n0 + 0) Q) (xA X) (xS X) 0 0 (eF E)) σ 134 [(0, vR E 0), (1, vI l1), (3, vI l3), (4, vI l4)] [] := by
  have hh1 : 1 ≤ hN := by omega
  intro n
  induction n with
  | zero => intro l1 l3 l4 cl1 cl3 cl4 σ h; exact h.elim
  | succ n ih =>
    intro l1 l3 l4 cl1 cl3 cl4 σ h
    have hk134 : ∀ {l1 : Int} {l3 : Int} {l4 : Int} (cl1 : wr l1 = l1) (cl3 : wr l3 = l3) (cl4 : wr l4 = l4) {σ : st_S}, L_X11_orders_134 Q n l1 l3 l4 σ → J X E 5 n0 0 0 (MQ (xB X) (qI E (n0 + 0) Q) (xA X) (xS X) 0 0 (eF E)) σ 134 [(0, vR E 0), (1, vI l1), (3, vI l3), (4, vI l4)] [] := ih
    replace h : (34 ≤ l4 → ∃ m164 : Nat, L_X11_orders_164 Q m164 l1 l3 0 σ) ∧ (¬ 34 ≤ l4 → ix l4 34 ∧ ix l4 5866 ∧ ∀ s74 : st_S, s74 = sI σ 2 (Int.toNat l4) (gI σ 5 (Int.toNat l4)) → ∀ x75 : Int, x75 = wr (l4 + 1) → (L_X11_orders_134 Q n) l1 l3 x75 s74) := h
    refine j_iload hc 3 dX11_orders_134 rfl ?_
    refine j_bipush hc dX11_orders_136 (by decide) ?_
    refine j_ic_ge hc cl4 (wlit 34 (by decide)) (tgt := 161) dX11_orders_138 (by decide) (fun q76 => ?_) (fun q76 => ?_)
    · replace h := h.1 q76
      refine j_iconst hc dX11_orders_161 ?_
      refine j_istore (lv' := [(4, vI 0), (0, vR E 0), (1, vI l1), (3, vI l3)]) hc dX11_orders_162 (by decide) rfl ?_
      obtain ⟨n164, h⟩ := h
      refine j_sub (lv' := [(0, vR E 0), (1, vI l1), (3, vI l3), (4, vI 0)]) [1, 2, 3, 0] rfl ?_
      exact jl_X11_orders_164 hc hm hr hh n164 cl1 cl3 (wlit 0 (by decide)) h
    · replace h := h.2 q76
      refine j_aload_nR hc 0 dX11_orders_141 rfl rfl ?_
      refine j_getR (c' := 2) hc fl_RX11_24 rfl rfl (fun hv => (sv_k hv hm rfl)) dX11_orders_142 ?_
      refine j_iload hc 3 dX11_orders_145 rfl ?_
      refine j_aload_nR hc 0 dX11_orders_147 rfl rfl ?_
      refine j_getR (c' := 5) hc fl_RX11_34 rfl rfl (fun hv => (sv_k hv hm rfl)) dX11_orders_148 ?_
      refine j_iload hc 3 dX11_orders_151 rfl ?_
      obtain ⟨b71, h⟩ := h
      refine j_iald (jn := (Int.toNat l4)) hc (fun hv => sv_kl hv hm rfl) cl4 b71 rfl dX11_orders_153 (fun cn72 => ?_)
      obtain ⟨b73, h⟩ := h
      refine j_iast (jn := (Int.toNat l4)) hc (fun hv => sv_kl hv hm rfl) cl4 b73 rfl cn72 dX11_orders_154 (fun s74 es74 => ?_)
      replace h := h s74 es74
      obtain ⟨x75, ex75⟩ : ∃ y : Int, y = wr (l4 + 1) := ⟨_, rfl⟩
      have cx75 : wr x75 = x75 := by rw [ex75]; exact wr_wr _
      replace h := h x75 ex75
      refine j_iinc (lv' := [(4, vI x75), (0, vR E 0), (1, vI l1), (3, vI l3)]) hc 3 dX11_orders_155 rfl (by decide) ex75 rfl ?_
      refine j_goto (tgt := 134) hc dX11_orders_158 (by decide) ?_
      refine j_sub (lv' := [(0, vR E 0), (1, vI l1), (3, vI l3), (4, vI x75)]) [1, 2, 3, 0] rfl ?_
      exact hk134 cl1 cl3 cx75 h
set_option maxRecDepth 20000 in
theorem jl_X11_orders_112 {X : jj_X} {E : ev_E} {n0 hN : Nat} (hc : Cx X E cX11_orders 5 n0 hN RX11) (hm : eM E = 2) (hr : (xT X).sig.returnType = (some .int)) (hh : 130 ≤ hN) {Q : Int → st_S → Prop} : ∀ (n : Nat) {l1 : Int} {l2 : Int} {l3 : Int} (cl1 : wr l1 = l1) (cl2 : wr l2 = l2) (cl3 : wr l3 = l3) {σ : st_S}, L_X11_orders_112 Q n l1 l2 l3 σ → J X E 5 n0 0 0 (MQ (xB X) (qI E (n0 + 0) Q) (xA X) (xS X) 0 0 (eF E)) σ 112 [(0, vR E 0), (1, vI l1), (2, vI l2), (3, vI l3)] [] := by
  have hh1 : 1 ≤ hN := by omega
  intro n
  induction n with
  | zero => intro l1 l2 l3 cl1 cl2 cl3 σ h; exact h.elim
  | succ n ih =>
    intro l1 l2 l3 cl1 cl2 cl3 σ h
    have hk112 : ∀ {l1 : Int} {l2 : Int} {l3 : Int} (cl1 : wr l1 = l1) (cl2 : wr l2 = l2) (cl3 : wr l3 = l3) {σ : st_S}, L_X11_orders_112 Q n l1 l2 l3 σ → J X E 5 n0 0 0 (MQ (xB X) (qI E (n0 + 0) Q) (xA X) (xS X) 0 0 (eF E)) σ 112 [(0, vR E 0), (1, vI l1), (2, vI l2), (3, vI l3)] [] := ih
    replace h : (l2 ≤ gI σ 0 43 → wp_X11_good (gI σ 0 42) σ (fun r79 s80 => Q r79 s80)) ∧ (¬ l2 ≤ gI σ 0 43 → wp_X11_runs l2 σ (fun r81 s82 => (r81 = 0 → ∃ m134 : Nat, L_X11_orders_134 Q m134 l1 l3 0 s82) ∧ (¬ r81 = 0 → ∀ x83 : Int, x83 = wr (l3 + 1) → (L_X11_orders_112 Q n) l1 l2 x83 s82))) := h
    refine j_aload_nR hc 0 dX11_orders_112 rfl rfl ?_
    refine j_getI hc fl_RX11_414 (Or.inl rfl) (fun hv => Or.inl (sv_k hv hm rfl)) dX11_orders_113 (fun cn77 => ?_)
    refine j_iload_n hc 2 dX11_orders_116 rfl rfl ?_
    refine j_ic_ge hc cn77 cl2 (tgt := 215) dX11_orders_117 (by decide) (fun q85 => ?_) (fun q85 => ?_)
    · replace h := h.1 q85
      refine j_aload_nR hc 0 dX11_orders_215 rfl rfl ?_
      refine j_aload_nR hc 0 dX11_orders_216 rfl rfl ?_
      refine j_getI hc fl_RX11_411 (Or.inl rfl) (fun hv => Or.inl (sv_k hv hm rfl)) dX11_orders_217 (fun cn78 => ?_)
      refine j_vI hc (k := 11) (by decide) (fun hv => Or.inl (sv_k hv hm rfl)) ml_RX11_14 mv_X11_good (As := [vI (gI σ 0 42)]) (c_X11_good (cx_E hc) hm cn78 h) rfl (by omega) (by decide) ⟨Nat.zero_le _, Nat.zero_le _⟩ (Nat.le_of_ble_eq_true rfl) rfl dX11_orders_220 (fun r79 s80 cr79 h => ?_)
      exact j_iret hc hr cr79 h dX11_orders_223
    · replace h := h.2 q85
      refine j_aload_nR hc 0 dX11_orders_120 rfl rfl ?_
      refine j_iload_n hc 2 dX11_orders_121 rfl rfl ?_
      refine j_vI hc (k := 11) (by decide) (fun hv => Or.inl (sv_k hv hm rfl)) ml_RX11_417 mv_X11_runs (As := [vI l2]) (c_X11_runs (cx_E hc) hm cl2 h) rfl (by omega) (by decide) ⟨Nat.zero_le _, Nat.zero_le _⟩ (Nat.le_of_ble_eq_true rfl) rfl dX11_orders_122 (fun r81 s82 cr81 h => ?_)
      refine j_if_eq hc cr81 (tgt := 131) dX11_orders_125 (by decide) (fun q84 => ?_) (fun q84 => ?_)
      · replace h := h.1 q84
        refine j_iconst hc dX11_orders_131 ?_
        refine j_istore (lv' := [(4, vI 0), (0, vR E 0), (1, vI l1), (2, vI l2), (3, vI l3)]) hc dX11_orders_132 (by decide) rfl ?_
        obtain ⟨n134, h⟩ := h
        refine j_sub (lv' := [(0, vR E 0), (1, vI l1), (3, vI l3), (4, vI 0)]) [1, 2, 4, 0] rfl ?_
        exact jl_X11_orders_134 hc hm hr hh n134 cl1 cl3 (wlit 0 (by decide)) h
      · replace h := h.2 q84
        refine j_goto (tgt := 209) hc dX11_orders_128 (by decide) ?_
        obtain ⟨x83, ex83⟩ : ∃ y : Int, y = wr (l3 + 1) := ⟨_, rfl⟩
        have cx83 : wr x83 = x83 := by rw [ex83]; exact wr_wr _
        replace h := h x83 ex83
        refine j_iinc (lv' := [(3, vI x83), (0, vR E 0), (1, vI l1), (2, vI l2)]) hc 3 dX11_orders_209 rfl (by decide) ex83 rfl ?_
        refine j_goto (tgt := 112) hc dX11_orders_212 (by decide) ?_
        refine j_sub (lv' := [(0, vR E 0), (1, vI l1), (2, vI l2), (3, vI x83)]) [1, 2, 3, 0] rfl ?_
        exact hk112 cl1 cl2 cx83 h
set_option maxRecDepth 20000 in
theorem jl_X11_orders_48 {X : jj_X} {E : ev_E} {n0 hN : Nat} (hc : Cx X E cX11_orders 5 n0 hN RX11) (hm : eM E = 2) (hr : (xT X).sig.returnType = (some .int)) (hh : 130 ≤ hN) {Q : Int → st_S → Prop} : ∀ (n : Nat) {l1 : Int} (cl1 : wr l1 = l1) {σ : st_S}, L_X11_orders_48 Q n l1 σ → J X E 5 n0 0 0 (MQ (xB X) (qI E (n0 + 0) Q) (xA X) (xS X) 0 0 (eF E)) σ 48 [(0, vR E 0), (1, vI l1)] [] := by
  have hh1 : 1 ≤ hN := by omega
  intro n
  induction n with
  | zero => intro l1 cl1 σ h; exact h.elim
  | succ n ih =>
    intro l1 cl1 σ h
    have hk48 : ∀ {l1 : Int} (cl1 : wr l1 = l1) {σ : st_S}, L_X11_orders_48 Q n l1 σ → J X E 5 n0 0 0 (MQ (xB X) (qI E (n0 + 0) Q) (xA X) (xS X) 0 0 (eF E)) σ 48 [(0, vR E 0), (1, vI l1)] [] := ih
    replace h : (560 ≤ l1 → ∀ x87 : Int, x87 = gI σ 0 28 → wp_X11_lays 6 σ (fun s89 => ∀ s90 : st_S, s90 = sI s89 0 42 0 → ∀ s91 : st_S, s91 = sI s90 0 43 2400 → ∀ x94 : Int, x94 = wr (gI s91 0 43 + gI s91 2 265) → ∃ m112 : Nat, L_X11_orders_112 Q m112 x87 x94 0 s91)) ∧ (¬ 560 ≤ l1 → ix l1 560 ∧ ix l1 560 ∧ ∀ s98 : st_S, s98 = sI σ 14 (Int.toNat l1) (gI σ 13 (Int.toNat l1)) → ∀ x99 : Int, x99 = wr (l1 + 1) → (L_X11_orders_48 Q n) x99 s98) := h
    refine j_iload_n hc 1 dX11_orders_48 rfl rfl ?_
    refine j_sipush hc dX11_orders_49 (by decide) ?_
    refine j_ic_ge hc cl1 (wlit 560 (by decide)) (tgt := 73) dX11_orders_52 (by decide) (fun q100 => ?_) (fun q100 => ?_)
    · replace h := h.1 q100
      refine j_aload_nR hc 0 dX11_orders_73 rfl rfl ?_
      refine j_getI hc fl_RX11_11 (Or.inl rfl) (fun hv => Or.inl (sv_k hv hm rfl)) dX11_orders_74 (fun cn86 => ?_)
      refine j_c cn86 (fun x87 ex87 cx87 => ?_)
      replace h := h x87 ex87
      refine j_istore_n (lv' := [(1, vI x87), (0, vR E 0)]) hc dX11_orders_77 rfl (by decide) rfl ?_
      refine j_aload_nR hc 1 dX11_orders_78 rfl rfl ?_
      refine j_bipush hc dX11_orders_79 (by decide) ?_
      refine j_vV hc (k := 11) (by decide) (fun hv => Or.inl (sv_k hv hm rfl)) ml_RX11_242 mv_X11_lays (As := [vI 6]) (c_X11_lays (cx_E hc) hm (wlit 6 (by decide)) h) rfl (by omega) (by decide) ⟨Nat.zero_le _, Nat.zero_le _⟩ (Nat.le_of_ble_eq_true rfl) rfl dX11_orders_81 (fun s89 h => ?_)
      refine j_aload_nR hc 1 dX11_orders_84 rfl rfl ?_
      refine j_iconst hc dX11_orders_85 ?_
      refine j_putI hc fl_RX11_411 rfl rfl (fun hv => Or.inl (sv_k hv hm rfl)) (wlit 0 (by decide)) dX11_orders_86 (fun s90 es90 => ?_)
      replace h := h s90 es90
      refine j_aload_nR hc 1 dX11_orders_89 rfl rfl ?_
      refine j_sipush hc dX11_orders_90 (by decide) ?_
      refine j_putI hc fl_RX11_414 rfl rfl (fun hv => Or.inl (sv_k hv hm rfl)) (wlit 2400 (by decide)) dX11_orders_93 (fun s91 es91 => ?_)
      replace h := h s91 es91
      refine j_aload_nR hc 1 dX11_orders_96 rfl rfl ?_
      refine j_getI hc fl_RX11_414 (Or.inl rfl) (fun hv => Or.inl (sv_k hv hm rfl)) dX11_orders_97 (fun cn92 => ?_)
      refine j_aload_nR hc 1 dX11_orders_100 rfl rfl ?_
      refine j_getR (c' := 2) hc fl_RX11_24 rfl rfl (fun hv => (sv_k hv hm rfl)) dX11_orders_101 ?_
      refine j_sipush hc dX11_orders_104 (by decide) ?_
      refine j_iald (jn := 265) hc (fun hv => sv_kl hv hm rfl) (wlit 265 (by decide)) ⟨by decide, by decide⟩ rfl dX11_orders_107 (fun cn93 => ?_)
      refine j_iadd hc dX11_orders_108 ?_
      refine j_w (fun x94 ex94 cx94 => ?_)
      replace h := h x94 ex94
      refine j_istore_n (lv' := [(2, vI x94), (1, vI x87), (0, vR E 0)]) hc dX11_orders_109 rfl (by decide) rfl ?_
      refine j_iconst hc dX11_orders_110 ?_
      refine j_istore_n (lv' := [(3, vI 0), (2, vI x94), (1, vI x87), (0, vR E 0)]) hc dX11_orders_111 rfl (by decide) rfl ?_
      obtain ⟨n112, h⟩ := h
      refine j_sub (lv' := [(0, vR E 0), (1, vI x87), (2, vI x94), (3, vI 0)]) [3, 2, 1, 0] rfl ?_
      exact jl_X11_orders_112 hc hm hr hh n112 cx87 cx94 (wlit 0 (by decide)) h
    · replace h := h.2 q100
      refine j_aload_nR hc 0 dX11_orders_55 rfl rfl ?_
      refine j_getR (c' := 14) hc fl_RX11_65 rfl rfl (fun hv => (sv_k hv hm rfl)) dX11_orders_56 ?_
      refine j_iload_n hc 1 dX11_orders_59 rfl rfl ?_
      refine j_aload_nR hc 0 dX11_orders_60 rfl rfl ?_
      refine j_getR (c' := 13) hc fl_RX11_62 rfl rfl (fun hv => (sv_k hv hm rfl)) dX11_orders_61 ?_
      refine j_iload_n hc 1 dX11_orders_64 rfl rfl ?_
      obtain ⟨b95, h⟩ := h
      refine j_iald (jn := (Int.toNat l1)) hc (fun hv => sv_kl hv hm rfl) cl1 b95 rfl dX11_orders_65 (fun cn96 => ?_)
      obtain ⟨b97, h⟩ := h
      refine j_iast (jn := (Int.toNat l1)) hc (fun hv => sv_kl hv hm rfl) cl1 b97 rfl cn96 dX11_orders_66 (fun s98 es98 => ?_)
      replace h := h s98 es98
      obtain ⟨x99, ex99⟩ : ∃ y : Int, y = wr (l1 + 1) := ⟨_, rfl⟩
      have cx99 : wr x99 = x99 := by rw [ex99]; exact wr_wr _
      replace h := h x99 ex99
      refine j_iinc (lv' := [(1, vI x99), (0, vR E 0)]) hc 1 dX11_orders_67 rfl (by decide) ex99 rfl ?_
      refine j_goto (tgt := 48) hc dX11_orders_70 (by decide) ?_
      refine j_sub (lv' := [(0, vR E 0), (1, vI x99)]) [1, 0] rfl ?_
      exact hk48 cx99 h
set_option maxRecDepth 20000 in
theorem jl_X11_orders_22 {X : jj_X} {E : ev_E} {n0 hN : Nat} (hc : Cx X E cX11_orders 5 n0 hN RX11) (hm : eM E = 2) (hr : (xT X).sig.returnType = (some .int)) (hh : 130 ≤ hN) {Q : Int → st_S → Prop} : ∀ (n : Nat) {l1 : Int} (cl1 : wr l1 = l1) {σ : st_S}, L_X11_orders_22 Q n l1 σ → J X E 5 n0 0 0 (MQ (xB X) (qI E (n0 + 0) Q) (xA X) (xS X) 0 0 (eF E)) σ 22 [(0, vR E 0), (1, vI l1)] [] := by
  have hh1 : 1 ≤ hN := by omega
  intro n
  induction n with
  | zero => intro l1 cl1 σ h; exact h.elim
  | succ n ih =>
    intro l1 cl1 σ h
    have hk22 : ∀ {l1 : Int} (cl1 : wr l1 = l1) {σ : st_S}, L_X11_orders_22 Q n l1 σ → J X E 5 n0 0 0 (MQ (xB X) (qI E (n0 + 0) Q) (xA X) (xS X) 0 0 (eF E)) σ 22 [(0, vR E 0), (1, vI l1)] [] := ih
    replace h : (34 ≤ l1 → ∃ m48 : Nat, L_X11_orders_48 Q m48 0 σ) ∧ (¬ 34 ≤ l1 → ix l1 5866 ∧ ix l1 34 ∧ ∀ s104 : st_S, s104 = sI σ 5 (Int.toNat l1) (gI σ 2 (Int.toNat l1)) → ∀ x105 : Int, x105 = wr (l1 + 1) → (L_X11_orders_22 Q n) x105 s104) := h
    refine j_iload_n hc 1 dX11_orders_22 rfl rfl ?_
    refine j_bipush hc dX11_orders_23 (by decide) ?_
    refine j_ic_ge hc cl1 (wlit 34 (by decide)) (tgt := 46) dX11_orders_25 (by decide) (fun q106 => ?_) (fun q106 => ?_)
    · replace h := h.1 q106
      refine j_iconst hc dX11_orders_46 ?_
      refine j_istore_n (lv' := [(1, vI 0), (0, vR E 0)]) hc dX11_orders_47 rfl (by decide) rfl ?_
      obtain ⟨n48, h⟩ := h
      refine j_sub (lv' := [(0, vR E 0), (1, vI 0)]) [1, 0] rfl ?_
      exact jl_X11_orders_48 hc hm hr hh n48 (wlit 0 (by decide)) h
    · replace h := h.2 q106
      refine j_aload_nR hc 0 dX11_orders_28 rfl rfl ?_
      refine j_getR (c' := 5) hc fl_RX11_34 rfl rfl (fun hv => (sv_k hv hm rfl)) dX11_orders_29 ?_
      refine j_iload_n hc 1 dX11_orders_32 rfl rfl ?_
      refine j_aload_nR hc 0 dX11_orders_33 rfl rfl ?_
      refine j_getR (c' := 2) hc fl_RX11_24 rfl rfl (fun hv => (sv_k hv hm rfl)) dX11_orders_34 ?_
      refine j_iload_n hc 1 dX11_orders_37 rfl rfl ?_
      obtain ⟨b101, h⟩ := h
      refine j_iald (jn := (Int.toNat l1)) hc (fun hv => sv_kl hv hm rfl) cl1 b101 rfl dX11_orders_38 (fun cn102 => ?_)
      obtain ⟨b103, h⟩ := h
      refine j_iast (jn := (Int.toNat l1)) hc (fun hv => sv_kl hv hm rfl) cl1 b103 rfl cn102 dX11_orders_39 (fun s104 es104 => ?_)
      replace h := h s104 es104
      obtain ⟨x105, ex105⟩ : ∃ y : Int, y = wr (l1 + 1) := ⟨_, rfl⟩
      have cx105 : wr x105 = x105 := by rw [ex105]; exact wr_wr _
      replace h := h x105 ex105
      refine j_iinc (lv' := [(1, vI x105), (0, vR E 0)]) hc 1 dX11_orders_40 rfl (by decide) ex105 rfl ?_
      refine j_goto (tgt := 22) hc dX11_orders_43 (by decide) ?_
      refine j_sub (lv' := [(0, vR E 0), (1, vI x105)]) [1, 0] rfl ?_
      exact hk22 cx105 h
set_option maxRecDepth 20000 in
theorem c_X11_orders {l : Launch} {E : ev_E} (hE : Eok E) (hm : eM E = 2) {σ : st_S} {Q : Int → st_S → Prop} (h : wp_X11_orders σ Q) : cM l yX11_orders cX11_orders 5 (some .int) E 130 0 0 [vR E 0] σ (qI E (gN σ + 0) Q) := by
  refine cM_of (lv := [(0, vR E 0)]) (by decide) hE (Nat.le_of_ble_eq_true rfl) (rfl) ?_
  intro X hX hc _ _ hr _ _
  subst hX
  have hh : 130 ≤ 130 := Nat.le_refl _
  have hh1 : 1 ≤ 130 := by omega
  replace h : ∀ s107 : st_S, s107 = sI σ 0 41 (-1) → wp_X11_readsAs 1 s107 (fun r108 s109 => (¬ r108 = 0 → ∃ m22 : Nat, L_X11_orders_22 Q m22 0 s109) ∧ (r108 = 0 → wp_X11_refuses (-6) s109 (fun r110 s111 => Q r110 s111))) := h
  refine j_aload_nR hc 0 dX11_orders_0 rfl rfl ?_
  refine j_iconst hc dX11_orders_1 ?_
  refine j_putI hc fl_RX11_100 rfl rfl (fun hv => Or.inl (sv_k hv hm rfl)) (wlit (-1) (by decide)) dX11_orders_2 (fun s107 es107 => ?_)
  replace h := h s107 es107
  refine j_aload_nR hc 0 dX11_orders_5 rfl rfl ?_
  refine j_iconst hc dX11_orders_6 ?_
  refine j_vI hc (k := 11) (by decide) (fun hv => Or.inl (sv_k hv hm rfl)) ml_RX11_238 mv_X11_readsAs (As := [vI 1]) (c_X11_readsAs (cx_E hc) hm (wlit 1 (by decide)) h) rfl (by omega) (by decide) ⟨Nat.zero_le _, Nat.zero_le _⟩ (Nat.le_of_ble_eq_true rfl) rfl dX11_orders_7 (fun r108 s109 cr108 h => ?_)
  refine j_if_ne hc cr108 (tgt := 20) dX11_orders_10 (by decide) (fun q112 => ?_) (fun q112 => ?_)
  · replace h := h.1 q112
    refine j_iconst hc dX11_orders_20 ?_
    refine j_istore_n (lv' := [(1, vI 0), (0, vR E 0)]) hc dX11_orders_21 rfl (by decide) rfl ?_
    obtain ⟨n22, h⟩ := h
    refine j_sub (lv' := [(0, vR E 0), (1, vI 0)]) [1, 0] rfl ?_
    exact jl_X11_orders_22 hc hm hr hh n22 (wlit 0 (by decide)) h
  · replace h := h.2 q112
    refine j_aload_nR hc 0 dX11_orders_13 rfl rfl ?_
    refine j_bipush hc dX11_orders_14 (by decide) ?_
    refine j_vI hc (k := 11) (by decide) (fun hv => Or.inl (sv_k hv hm rfl)) ml_RX11_110 mv_X11_refuses (As := [vI (-6)]) (c_X11_refuses (cx_E hc) hm (wlit (-6) (by decide)) h) rfl (by omega) (by decide) ⟨Nat.zero_le _, Nat.zero_le _⟩ (Nat.le_of_ble_eq_true rfl) rfl dX11_orders_16 (fun r110 s111 cr110 h => ?_)
    exact j_iret hc hr cr110 h dX11_orders_19
-- LitStrangersModel.draws(I)I
theorem dX11_draws_0 : decode cX11_draws 0 = .ok (.aload_n 0, 1) := by decide +kernel
theorem dX11_draws_1 : decode cX11_draws 1 = .ok (.ldc2_w 446, 3) := by decide +kernel
theorem dX11_draws_4 : decode cX11_draws 4 = .ok (.aload_n 0, 1) := by decide +kernel
theorem dX11_draws_5 : decode cX11_draws 5 = .ok (.getfield 448, 3) := by decide +kernel
theorem dX11_draws_8 : decode cX11_draws 8 = .ok (.i2l, 1) := by decide +kernel
theorem dX11_draws_9 : decode cX11_draws 9 = .ok (.lmul, 1) := by decide +kernel
theorem dX11_draws_10 : decode cX11_draws 10 = .ok (.ldc2_w 451, 3) := by decide +kernel
theorem dX11_draws_13 : decode cX11_draws 13 = .ok (.ladd, 1) := by decide +kernel
theorem dX11_draws_14 : decode cX11_draws 14 = .ok (.ldc2_w 453, 3) := by decide +kernel
theorem dX11_draws_17 : decode cX11_draws 17 = .ok (.lrem, 1) := by decide +kernel
theorem dX11_draws_18 : decode cX11_draws 18 = .ok (.l2i, 1) := by decide +kernel
theorem dX11_draws_19 : decode cX11_draws 19 = .ok (.putfield 448, 3) := by decide +kernel
theorem dX11_draws_22 : decode cX11_draws 22 = .ok (.aload_n 0, 1) := by decide +kernel
theorem dX11_draws_23 : decode cX11_draws 23 = .ok (.getfield 448, 3) := by decide +kernel
theorem dX11_draws_26 : decode cX11_draws 26 = .ok (.iload_n 1, 1) := by decide +kernel
theorem dX11_draws_27 : decode cX11_draws 27 = .ok (.irem, 1) := by decide +kernel
theorem dX11_draws_28 : decode cX11_draws 28 = .ok (.ireturn, 1) := by decide +kernel
def wp_X11_draws (a1 : Int) (σ : st_S) (Q : Int → st_S → Prop) : Prop := ∀ s8 : st_S, s8 = sI σ 0 51 (o_l2i (p_rem ((1103 * gI σ 0 51) + 12345) 1000003)) → ¬ a1 = 0 ∧ Q (o_rem (gI s8 0 51) a1) s8
set_option maxRecDepth 20000 in
theorem c_X11_draws {l : Launch} {E : ev_E} (hE : Eok E) (hm : eM E = 2) {a1 : Int} (ca1 : wr a1 = a1) {σ : st_S} {Q : Int → st_S → Prop} (h : wp_X11_draws a1 σ Q) : cM l yX11_draws cX11_draws 2 (some .int) E 1 0 0 [vR E 0, vI a1] σ (qI E (gN σ + 0) Q) := by
  refine cM_of (lv := [(0, vR E 0), (1, vI a1)]) (by decide) hE (Nat.le_of_ble_eq_true rfl) (rfl) ?_
  intro X hX hc _ _ hr _ _
  subst hX
  have hh : 1 ≤ 1 := Nat.le_refl _
  have hh1 : 1 ≤ 1 := by omega
  replace h : ∀ s8 : st_S, s8 = sI σ 0 51 (o_l2i (p_rem ((1103 * gI σ 0 51) + 12345) 1000003)) → ¬ a1 = 0 ∧ Q (o_rem (gI s8 0 51) a1) s8 := h
  refine j_aload_nR hc 0 dX11_draws_0 rfl rfl ?_
  refine j_ldc2 (x := 1103) hc (by decide) kl_RX11_446 dX11_draws_1 ?_
  refine j_aload_nR hc 0 dX11_draws_4 rfl rfl ?_
  refine j_getI hc fl_RX11_448 (Or.inl rfl) (fun hv => Or.inl (sv_k hv hm rfl)) dX11_draws_5 (fun cn7 => ?_)
  refine j_i2l hc cn7 dX11_draws_8 ?_
  refine j_lmul hc dX11_draws_9 ?_
  refine j_ldc2 (x := 12345) hc (by decide) kl_RX11_451 dX11_draws_10 ?_
  refine j_ladd hc dX11_draws_13 ?_
  refine j_ldc2 (x := 1000003) hc (by decide) kl_RX11_453 dX11_draws_14 ?_
  refine j_lrem hc dX11_draws_17 (by decide) ?_
  refine j_l2i hc dX11_draws_18 ?_
  refine j_putI hc fl_RX11_448 rfl rfl (fun hv => Or.inl (sv_k hv hm rfl)) (cn_l2i _) dX11_draws_19 (fun s8 es8 => ?_)
  replace h := h s8 es8
  refine j_aload_nR hc 0 dX11_draws_22 rfl rfl ?_
  refine j_getI hc fl_RX11_448 (Or.inl rfl) (fun hv => Or.inl (sv_k hv hm rfl)) dX11_draws_23 (fun cn9 => ?_)
  refine j_iload_n hc 1 dX11_draws_26 rfl rfl ?_
  obtain ⟨z10, h⟩ := h
  refine j_irem hc dX11_draws_27 (by rw [ca1]; exact z10) ?_
  exact j_iret hc hr (cn_rem _ _) h dX11_draws_28
-- LitStrangersModel.laysWorthsOf(III)V
theorem dX11_laysWorthsOf_0 : decode cX11_laysWorthsOf 0 = .ok (.iconst 0, 1) := by decide +kernel
theorem dX11_laysWorthsOf_1 : decode cX11_laysWorthsOf 1 = .ok (.istore 4, 2) := by decide +kernel
theorem dX11_laysWorthsOf_3 : decode cX11_laysWorthsOf 3 = .ok (.iload 4, 2) := by decide +kernel
theorem dX11_laysWorthsOf_5 : decode cX11_laysWorthsOf 5 = .ok (.bipush 10, 2) := by decide +kernel
theorem dX11_laysWorthsOf_7 : decode cX11_laysWorthsOf 7 = .ok (.if_icmp .ge 109, 3) := by decide +kernel
theorem dX11_laysWorthsOf_10 : decode cX11_laysWorthsOf 10 = .ok (.aload_n 0, 1) := by decide +kernel
theorem dX11_laysWorthsOf_11 : decode cX11_laysWorthsOf 11 = .ok (.getfield 77, 3) := by decide +kernel
theorem dX11_laysWorthsOf_14 : decode cX11_laysWorthsOf 14 = .ok (.iload 4, 2) := by decide +kernel
theorem dX11_laysWorthsOf_16 : decode cX11_laysWorthsOf 16 = .ok (.iconst 0, 1) := by decide +kernel
theorem dX11_laysWorthsOf_17 : decode cX11_laysWorthsOf 17 = .ok (.iastore, 1) := by decide +kernel
theorem dX11_laysWorthsOf_18 : decode cX11_laysWorthsOf 18 = .ok (.aload_n 0, 1) := by decide +kernel
theorem dX11_laysWorthsOf_19 : decode cX11_laysWorthsOf 19 = .ok (.iload 4, 2) := by decide +kernel
theorem dX11_laysWorthsOf_21 : decode cX11_laysWorthsOf 21 = .ok (.invokevirtual 128, 3) := by decide +kernel
theorem dX11_laysWorthsOf_24 : decode cX11_laysWorthsOf 24 = .ok (.ifCond .eq 86, 3) := by decide +kernel
theorem dX11_laysWorthsOf_27 : decode cX11_laysWorthsOf 27 = .ok (.iload_n 2, 1) := by decide +kernel
theorem dX11_laysWorthsOf_28 : decode cX11_laysWorthsOf 28 = .ok (.iload 4, 2) := by decide +kernel
theorem dX11_laysWorthsOf_30 : decode cX11_laysWorthsOf 30 = .ok (.invokestatic 325, 3) := by decide +kernel
theorem dX11_laysWorthsOf_33 : decode cX11_laysWorthsOf 33 = .ok (.ifCond .ne 77, 3) := by decide +kernel
theorem dX11_laysWorthsOf_36 : decode cX11_laysWorthsOf 36 = .ok (.aload_n 0, 1) := by decide +kernel
theorem dX11_laysWorthsOf_37 : decode cX11_laysWorthsOf 37 = .ok (.getfield 68, 3) := by decide +kernel
theorem dX11_laysWorthsOf_40 : decode cX11_laysWorthsOf 40 = .ok (.iload 4, 2) := by decide +kernel
theorem dX11_laysWorthsOf_42 : decode cX11_laysWorthsOf 42 = .ok (.iaload, 1) := by decide +kernel
theorem dX11_laysWorthsOf_43 : decode cX11_laysWorthsOf 43 = .ok (.iload_n 1, 1) := by decide +kernel
theorem dX11_laysWorthsOf_44 : decode cX11_laysWorthsOf 44 = .ok (.if_icmp .gt 66, 3) := by decide +kernel
theorem dX11_laysWorthsOf_47 : decode cX11_laysWorthsOf 47 = .ok (.aload_n 0, 1) := by decide +kernel
theorem dX11_laysWorthsOf_48 : decode cX11_laysWorthsOf 48 = .ok (.getfield 24, 3) := by decide +kernel
theorem dX11_laysWorthsOf_51 : decode cX11_laysWorthsOf 51 = .ok (.iconst 0, 1) := by decide +kernel
theorem dX11_laysWorthsOf_52 : decode cX11_laysWorthsOf 52 = .ok (.iload 4, 2) := by decide +kernel
theorem dX11_laysWorthsOf_54 : decode cX11_laysWorthsOf 54 = .ok (.iadd, 1) := by decide +kernel
theorem dX11_laysWorthsOf_55 : decode cX11_laysWorthsOf 55 = .ok (.iaload, 1) := by decide +kernel
theorem dX11_laysWorthsOf_56 : decode cX11_laysWorthsOf 56 = .ok (.iconst 3, 1) := by decide +kernel
theorem dX11_laysWorthsOf_57 : decode cX11_laysWorthsOf 57 = .ok (.if_icmp .ne 6, 3) := by decide +kernel
theorem dX11_laysWorthsOf_60 : decode cX11_laysWorthsOf 60 = .ok (.goto 50, 3) := by decide +kernel
theorem dX11_laysWorthsOf_63 : decode cX11_laysWorthsOf 63 = .ok (.aload_n 0, 1) := by decide +kernel
theorem dX11_laysWorthsOf_64 : decode cX11_laysWorthsOf 64 = .ok (.iload 4, 2) := by decide +kernel
theorem dX11_laysWorthsOf_66 : decode cX11_laysWorthsOf 66 = .ok (.iload_n 2, 1) := by decide +kernel
theorem dX11_laysWorthsOf_67 : decode cX11_laysWorthsOf 67 = .ok (.invokevirtual 364, 3) := by decide +kernel
theorem dX11_laysWorthsOf_70 : decode cX11_laysWorthsOf 70 = .ok (.istore 5, 2) := by decide +kernel
theorem dX11_laysWorthsOf_72 : decode cX11_laysWorthsOf 72 = .ok (.iload 5, 2) := by decide +kernel
theorem dX11_laysWorthsOf_74 : decode cX11_laysWorthsOf 74 = .ok (.iconst 2, 1) := by decide +kernel
theorem dX11_laysWorthsOf_75 : decode cX11_laysWorthsOf 75 = .ok (.if_icmp .ge 35, 3) := by decide +kernel
theorem dX11_laysWorthsOf_78 : decode cX11_laysWorthsOf 78 = .ok (.aload_n 0, 1) := by decide +kernel
theorem dX11_laysWorthsOf_79 : decode cX11_laysWorthsOf 79 = .ok (.iload 4, 2) := by decide +kernel
theorem dX11_laysWorthsOf_81 : decode cX11_laysWorthsOf 81 = .ok (.iload 5, 2) := by decide +kernel
theorem dX11_laysWorthsOf_83 : decode cX11_laysWorthsOf 83 = .ok (.aload_n 0, 1) := by decide +kernel
theorem dX11_laysWorthsOf_84 : decode cX11_laysWorthsOf 84 = .ok (.getfield 24, 3) := by decide +kernel
theorem dX11_laysWorthsOf_87 : decode cX11_laysWorthsOf 87 = .ok (.bipush 33, 2) := by decide +kernel
theorem dX11_laysWorthsOf_89 : decode cX11_laysWorthsOf 89 = .ok (.iaload, 1) := by decide +kernel
theorem dX11_laysWorthsOf_90 : decode cX11_laysWorthsOf 90 = .ok (.iload_n 1, 1) := by decide +kernel
theorem dX11_laysWorthsOf_91 : decode cX11_laysWorthsOf 91 = .ok (.iadd, 1) := by decide +kernel
theorem dX11_laysWorthsOf_92 : decode cX11_laysWorthsOf 92 = .ok (.iload_n 3, 1) := by decide +kernel
theorem dX11_laysWorthsOf_93 : decode cX11_laysWorthsOf 93 = .ok (.invokevirtual 315, 3) := by decide +kernel
theorem dX11_laysWorthsOf_96 : decode cX11_laysWorthsOf 96 = .ok (.ifCond .ne 14, 3) := by decide +kernel
theorem dX11_laysWorthsOf_99 : decode cX11_laysWorthsOf 99 = .ok (.aload_n 0, 1) := by decide +kernel
theorem dX11_laysWorthsOf_100 : decode cX11_laysWorthsOf 100 = .ok (.getfield 77, 3) := by decide +kernel
theorem dX11_laysWorthsOf_103 : decode cX11_laysWorthsOf 103 = .ok (.iload 4, 2) := by decide +kernel
theorem dX11_laysWorthsOf_105 : decode cX11_laysWorthsOf 105 = .ok (.iconst 2, 1) := by decide +kernel
theorem dX11_laysWorthsOf_106 : decode cX11_laysWorthsOf 106 = .ok (.iload 5, 2) := by decide +kernel
theorem dX11_laysWorthsOf_108 : decode cX11_laysWorthsOf 108 = .ok (.isub, 1) := by decide +kernel
theorem dX11_laysWorthsOf_109 : decode cX11_laysWorthsOf 109 = .ok (.iastore, 1) := by decide +kernel
theorem dX11_laysWorthsOf_110 : decode cX11_laysWorthsOf 110 = .ok (.iinc 4 1, 3) := by decide +kernel
theorem dX11_laysWorthsOf_113 : decode cX11_laysWorthsOf 113 = .ok (.goto (-110), 3) := by decide +kernel
theorem dX11_laysWorthsOf_116 : decode cX11_laysWorthsOf 116 = .ok (.return_, 1) := by decide +kernel
def B_X11_laysWorthsOf_110 (Q : st_S → Prop)  (k3 : Int → Int → Int → Int → st_S → Prop) (l1 : Int) (l2 : Int) (l3 : Int) (l4 : Int) (σ : st_S) : Prop := ∀ x24 : Int, x24 = wr (l4 + 1) → k3 l1 l2 l3 x24 σ
def L_X11_laysWorthsOf_3 (Q : st_S → Prop)   : Nat → Int → Int → Int → Int → st_S → Prop
  | 0 => fun _ _ _ _ _ => False
  | n + 1 => fun l1 l2 l3 l4 σ => (10 ≤ l4 → Q σ) ∧ (¬ 10 ≤ l4 → ix l4 10 ∧ ∀ s26 : st_S, s26 = sI σ 18 (Int.toNat l4) 0 → wp_X11_isPerson l4 s26 (fun r27 s28 => (r27 = 0 → B_X11_laysWorthsOf_110 Q (L_X11_laysWorthsOf_3 Q n) l1 l2 l3 l4 s28) ∧ (¬ r27 = 0 → wp_X11_isIn l2 l4 s28 (fun r29 s30 => (¬ r29 = 0 → B_X11_laysWorthsOf_110 Q (L_X11_laysWorthsOf_3 Q n) l1 l2 l3 l4 s30) ∧ (r29 = 0 → ix l4 10 ∧ (l1 < gI s30 15 (Int.toNat l4) → B_X11_laysWorthsOf_110 Q (L_X11_laysWorthsOf_3 Q n) l1 l2 l3 l4 s30) ∧ (¬ l1 < gI s30 15 (Int.toNat l4) → ix (wr (0 + l4)) 5866 ∧ (¬ gI s30 2 (Int.toNat (wr (0 + l4))) = 3 → wp_X11_heardBy l4 l2 s30 (fun r35 s36 => (2 ≤ r35 → B_X11_laysWorthsOf_110 Q (L_X11_laysWorthsOf_3 Q n) l1 l2 l3 l4 s36) ∧ (¬ 2 ≤ r35 → wp_X11_isBarred l4 r35 (wr (gI s36 2 33 + l1)) l3 s36 (fun r38 s39 => (¬ r38 = 0 → B_X11_laysWorthsOf_110 Q (L_X11_laysWorthsOf_3 Q n) l1 l2 l3 l4 s39) ∧ (r38 = 0 → ∀ x40 : Int, x40 = wr (2 - r35) → ix l4 10 ∧ ∀ s42 : st_S, s42 = sI s39 18 (Int.toNat l4) x40 → B_X11_laysWorthsOf_110 Q (L_X11_laysWorthsOf_3 Q n) l1 l2 l3 l4 s42))))) ∧ (gI s30 2 (Int.toNat (wr (0 + l4))) = 3 → B_X11_laysWorthsOf_110 Q (L_X11_laysWorthsOf_3 Q n) l1 l2 l3 l4 s30)))))))
def wp_X11_laysWorthsOf (a1 : Int) (a2 : Int) (a3 : Int) (σ : st_S) (Q : st_S → Prop) : Prop := ∃ m3 : Nat, L_X11_laysWorthsOf_3 Q m3 a1 a2 a3 0 σ
set_option maxRecDepth 20000 in
theorem jb_X11_laysWorthsOf_110 {X : jj_X} {E : ev_E} {n0 hN : Nat} (hc : Cx X E cX11_laysWorthsOf 6 n0 hN RX11) (hm : eM E = 2) (hr : (xT X).sig.returnType = none) (hh : 127 ≤ hN) {Q : st_S → Prop} {k3 : Int → Int → Int → Int → st_S → Prop} (hk3 : ∀ {l1 : Int} {l2 : Int} {l3 : Int} {l4 : Int} (cl1 : wr l1 = l1) (cl2 : wr l2 = l2) (cl3 : wr l3 = l3) (cl4 : wr l4 = l4) {σ : st_S}, k3 l1 l2 l3 l4 σ → J X E 6 n0 0 0 (MQ (xB X) (qV E (n0 + 0) Q) (xA X) (xS X) 0 0 (eF E)) σ 3 [(0, vR E 0), (1, vI l1), (2, vI l2), (3, vI l3), (4, vI l4)] []) {l1 : Int} {l2 : Int} {l3 : Int} {l4 : Int} (cl1 : wr l1 = l1) (cl2 : wr l2 = l2) (cl3 : wr l3 = l3) (cl4 : wr l4 = l4) {σ : st_S} (h : B_X11_laysWorthsOf_110 Q k3 l1 l2 l3 l4 σ) : J X E 6 n0 0 0 (MQ (xB X) (qV E (n0 + 0) Q) (xA X) (xS X) 0 0 (eF E)) σ 110 [(0, vR E 0), (1, vI l1), (2, vI l2), (3, vI l3), (4, vI l4)] [] := by
  have hh1 : 1 ≤ hN := by omega
  replace h : ∀ x24 : Int, x24 = wr (l4 + 1) → k3 l1 l2 l3 x24 σ := h
  obtain ⟨x24, ex24⟩ : ∃ y : Int, y = wr (l4 + 1) := ⟨_, rfl⟩
  have cx24 : wr x24 = x24 := by rw [ex24]; exact wr_wr _
  replace h := h x24 ex24
  refine j_iinc (lv' := [(4, vI x24), (0, vR E 0), (1, vI l1), (2, vI l2), (3, vI l3)]) hc 4 dX11_laysWorthsOf_110 rfl (by decide) ex24 rfl ?_
  refine j_goto (tgt := 3) hc dX11_laysWorthsOf_113 (by decide) ?_
  refine j_sub (lv' := [(0, vR E 0), (1, vI l1), (2, vI l2), (3, vI l3), (4, vI x24)]) [1, 2, 3, 4, 0] rfl ?_
  exact hk3 cl1 cl2 cl3 cx24 h
set_option maxRecDepth 20000 in
theorem jl_X11_laysWorthsOf_3 {X : jj_X} {E : ev_E} {n0 hN : Nat} (hc : Cx X E cX11_laysWorthsOf 6 n0 hN RX11) (hm : eM E = 2) (hr : (xT X).sig.returnType = none) (hh : 127 ≤ hN) {Q : st_S → Prop} : ∀ (n : Nat) {l1 : Int} {l2 : Int} {l3 : Int} {l4 : Int} (cl1 : wr l1 = l1) (cl2 : wr l2 = l2) (cl3 : wr l3 = l3) (cl4 : wr l4 = l4) {σ : st_S}, L_X11_laysWorthsOf_3 Q n l1 l2 l3 l4 σ → J X E 6 n0 0 0 (MQ (xB X) (qV E (n0 + 0) Q) (xA X) (xS X) 0 0 (eF E)) σ 3 [(0, vR E 0), (1, vI l1), (2, vI l2), (3, vI l3), (4, vI l4)] [] := by
  have hh1 : 1 ≤ hN := by omega
  intro n
  induction n with
  | zero => intro l1 l2 l3 l4 cl1 cl2 cl3 cl4 σ h; exact h.elim
  | succ n ih =>
    intro l1 l2 l3 l4 cl1 cl2 cl3 cl4 σ h
    have hk3 : ∀ {l1 : Int} {l2 : Int} {l3 : Int} {l4 : Int} (cl1 : wr l1 = l1) (cl2 : wr l2 = l2) (cl3 : wr l3 = l3) (cl4 : wr l4 = l4) {σ : st_S}, L_X11_laysWorthsOf_3 Q n l1 l2 l3 l4 σ → J X E 6 n0 0 0 (MQ (xB X) (qV E (n0 + 0) Q) (xA X) (xS X) 0 0 (eF E)) σ 3 [(0, vR E 0), (1, vI l1), (2, vI l2), (3, vI l3), (4, vI l4)] [] := ih
    replace h : (10 ≤ l4 → Q σ) ∧ (¬ 10 ≤ l4 → ix l4 10 ∧ ∀ s26 : st_S, s26 = sI σ 18 (Int.toNat l4) 0 → wp_X11_isPerson l4 s26 (fun r27 s28 => (r27 = 0 → B_X11_laysWorthsOf_110 Q (L_X11_laysWorthsOf_3 Q n) l1 l2 l3 l4 s28) ∧ (¬ r27 = 0 → wp_X11_isIn l2 l4 s28 (fun r29 s30 => (¬ r29 = 0 → B_X11_laysWorthsOf_110 Q (L_X11_laysWorthsOf_3 Q n) l1 l2 l3 l4 s30) ∧ (r29 = 0 → ix l4 10 ∧ (l1 < gI s30 15 (Int.toNat l4) → B_X11_laysWorthsOf_110 Q (L_X11_laysWorthsOf_3 Q n) l1 l2 l3 l4 s30) ∧ (¬ l1 < gI s30 15 (Int.toNat l4) → ix (wr (0 + l4)) 5866 ∧ (¬ gI s30 2 (Int.toNat (wr (0 + l4))) = 3 → wp_X11_heardBy l4 l2 s30 (fun r35 s36 => (2 ≤ r35 → B_X11_laysWorthsOf_110 Q (L_X11_laysWorthsOf_3 Q n) l1 l2 l3 l4 s36) ∧ (¬ 2 ≤ r35 → wp_X11_isBarred l4 r35 (wr (gI s36 2 33 + l1)) l3 s36 (fun r38 s39 => (¬ r38 = 0 → B_X11_laysWorthsOf_110 Q (L_X11_laysWorthsOf_3 Q n) l1 l2 l3 l4 s39) ∧ (r38 = 0 → ∀ x40 : Int, x40 = wr (2 - r35) → ix l4 10 ∧ ∀ s42 : st_S, s42 = sI s39 18 (Int.toNat l4) x40 → B_X11_laysWorthsOf_110 Q (L_X11_laysWorthsOf_3 Q n) l1 l2 l3 l4 s42))))) ∧ (gI s30 2 (Int.toNat (wr (0 + l4))) = 3 → B_X11_laysWorthsOf_110 Q (L_X11_laysWorthsOf_3 Q n) l1 l2 l3 l4 s30))))))) := h
    refine j_iload hc 4 dX11_laysWorthsOf_3 rfl ?_
    refine j_bipush hc dX11_laysWorthsOf_5 (by decide) ?_
    refine j_ic_ge hc cl4 (wlit 10 (by decide)) (tgt := 116) dX11_laysWorthsOf_7 (by decide) (fun q49 => ?_) (fun q49 => ?_)
    · replace h := h.1 q49
      exact j_vret hc hr h dX11_laysWorthsOf_116
    · replace h := h.2 q49
      refine j_aload_nR hc 0 dX11_laysWorthsOf_10 rfl rfl ?_
      refine j_getR (c' := 18) hc fl_RX11_77 rfl rfl (fun hv => (sv_k hv hm rfl)) dX11_laysWorthsOf_11 ?_
      refine j_iload hc 4 dX11_laysWorthsOf_14 rfl ?_
      refine j_iconst hc dX11_laysWorthsOf_16 ?_
      obtain ⟨b25, h⟩ := h
      refine j_iast (jn := (Int.toNat l4)) hc (fun hv => sv_kl hv hm rfl) cl4 b25 rfl (wlit 0 (by decide)) dX11_laysWorthsOf_17 (fun s26 es26 => ?_)
      replace h := h s26 es26
      refine j_aload_nR hc 0 dX11_laysWorthsOf_18 rfl rfl ?_
      refine j_iload hc 4 dX11_laysWorthsOf_19 rfl ?_
      refine j_vI hc (k := 11) (by decide) (fun hv => Or.inl (sv_k hv hm rfl)) ml_RX11_128 mv_X11_isPerson (As := [vI l4]) (c_X11_isPerson (cx_E hc) hm cl4 h) rfl (by omega) (by decide) ⟨Nat.zero_le _, Nat.zero_le _⟩ (Nat.le_of_ble_eq_true rfl) rfl dX11_laysWorthsOf_21 (fun r27 s28 cr27 h => ?_)
      refine j_if_eq hc cr27 (tgt := 110) dX11_laysWorthsOf_24 (by decide) (fun q48 => ?_) (fun q48 => ?_)
      · replace h := h.1 q48
        refine j_sub (lv' := [(0, vR E 0), (1, vI l1), (2, vI l2), (3, vI l3), (4, vI l4)]) [0, 1, 2, 3, 4] rfl ?_
        exact jb_X11_laysWorthsOf_110 hc hm hr hh hk3 cl1 cl2 cl3 cl4 h
      · replace h := h.2 q48
        refine j_iload_n hc 2 dX11_laysWorthsOf_27 rfl rfl ?_
        refine j_iload hc 4 dX11_laysWorthsOf_28 rfl ?_
        refine j_sI hc ml_RX11_325 mv_X11_isIn (As := [vI l2, vI l4]) (c_X11_isIn (cx_E hc) hm cl2 cl4 h) rfl (by omega) (by decide) ⟨Nat.zero_le _, Nat.zero_le _⟩ (Nat.le_of_ble_eq_true rfl) rfl dX11_laysWorthsOf_30 (fun r29 s30 cr29 h => ?_)
        refine j_if_ne hc cr29 (tgt := 110) dX11_laysWorthsOf_33 (by decide) (fun q47 => ?_) (fun q47 => ?_)
        · replace h := h.1 q47
          refine j_sub (lv' := [(0, vR E 0), (1, vI l1), (2, vI l2), (3, vI l3), (4, vI l4)]) [0, 1, 2, 3, 4] rfl ?_
          exact jb_X11_laysWorthsOf_110 hc hm hr hh hk3 cl1 cl2 cl3 cl4 h
        · replace h := h.2 q47
          refine j_aload_nR hc 0 dX11_laysWorthsOf_36 rfl rfl ?_
          refine j_getR (c' := 15) hc fl_RX11_68 rfl rfl (fun hv => (sv_k hv hm rfl)) dX11_laysWorthsOf_37 ?_
          refine j_iload hc 4 dX11_laysWorthsOf_40 rfl ?_
          obtain ⟨b31, h⟩ := h
          refine j_iald (jn := (Int.toNat l4)) hc (fun hv => sv_kl hv hm rfl) cl4 b31 rfl dX11_laysWorthsOf_42 (fun cn32 => ?_)
          refine j_iload_n hc 1 dX11_laysWorthsOf_43 rfl rfl ?_
          refine j_ic_gt hc cn32 cl1 (tgt := 110) dX11_laysWorthsOf_44 (by decide) (fun q46 => ?_) (fun q46 => ?_)
          · replace h := h.1 q46
            refine j_sub (lv' := [(0, vR E 0), (1, vI l1), (2, vI l2), (3, vI l3), (4, vI l4)]) [0, 1, 2, 3, 4] rfl ?_
            exact jb_X11_laysWorthsOf_110 hc hm hr hh hk3 cl1 cl2 cl3 cl4 h
          · replace h := h.2 q46
            refine j_aload_nR hc 0 dX11_laysWorthsOf_47 rfl rfl ?_
            refine j_getR (c' := 2) hc fl_RX11_24 rfl rfl (fun hv => (sv_k hv hm rfl)) dX11_laysWorthsOf_48 ?_
            refine j_iconst hc dX11_laysWorthsOf_51 ?_
            refine j_iload hc 4 dX11_laysWorthsOf_52 rfl ?_
            refine j_iadd hc dX11_laysWorthsOf_54 ?_
            obtain ⟨b33, h⟩ := h
            refine j_iald (jn := (Int.toNat (wr (0 + l4)))) hc (fun hv => sv_kl hv hm rfl) rfl b33 rfl dX11_laysWorthsOf_55 (fun cn34 => ?_)
            refine j_iconst hc dX11_laysWorthsOf_56 ?_
            refine j_ic_ne hc cn34 (wlit 3 (by decide)) (tgt := 63) dX11_laysWorthsOf_57 (by decide) (fun q45 => ?_) (fun q45 => ?_)
            · replace h := h.1 q45
              refine j_aload_nR hc 0 dX11_laysWorthsOf_63 rfl rfl ?_
              refine j_iload hc 4 dX11_laysWorthsOf_64 rfl ?_
              refine j_iload_n hc 2 dX11_laysWorthsOf_66 rfl rfl ?_
              refine j_vI hc (k := 11) (by decide) (fun hv => Or.inl (sv_k hv hm rfl)) ml_RX11_364 mv_X11_heardBy (As := [vI l4, vI l2]) (c_X11_heardBy (cx_E hc) hm cl4 cl2 h) rfl (by omega) (by decide) ⟨Nat.zero_le _, Nat.zero_le _⟩ (Nat.le_of_ble_eq_true rfl) rfl dX11_laysWorthsOf_67 (fun r35 s36 cr35 h => ?_)
              refine j_istore (lv' := [(5, vI r35), (0, vR E 0), (1, vI l1), (2, vI l2), (3, vI l3), (4, vI l4)]) hc dX11_laysWorthsOf_70 (by decide) rfl ?_
              refine j_iload hc 0 dX11_laysWorthsOf_72 rfl ?_
              refine j_iconst hc dX11_laysWorthsOf_74 ?_
              refine j_ic_ge hc cr35 (wlit 2 (by decide)) (tgt := 110) dX11_laysWorthsOf_75 (by decide) (fun q44 => ?_) (fun q44 => ?_)
              · replace h := h.1 q44
                refine j_sub (lv' := [(0, vR E 0), (1, vI l1), (2, vI l2), (3, vI l3), (4, vI l4)]) [1, 2, 3, 4, 5] rfl ?_
                exact jb_X11_laysWorthsOf_110 hc hm hr hh hk3 cl1 cl2 cl3 cl4 h
              · replace h := h.2 q44
                refine j_aload_nR hc 1 dX11_laysWorthsOf_78 rfl rfl ?_
                refine j_iload hc 5 dX11_laysWorthsOf_79 rfl ?_
                refine j_iload hc 0 dX11_laysWorthsOf_81 rfl ?_
                refine j_aload_nR hc 1 dX11_laysWorthsOf_83 rfl rfl ?_
                refine j_getR (c' := 2) hc fl_RX11_24 rfl rfl (fun hv => (sv_k hv hm rfl)) dX11_laysWorthsOf_84 ?_
                refine j_bipush hc dX11_laysWorthsOf_87 (by decide) ?_
                refine j_iald (jn := 33) hc (fun hv => sv_kl hv hm rfl) (wlit 33 (by decide)) ⟨by decide, by decide⟩ rfl dX11_laysWorthsOf_89 (fun cn37 => ?_)
                refine j_iload_n hc 2 dX11_laysWorthsOf_90 rfl rfl ?_
                refine j_iadd hc dX11_laysWorthsOf_91 ?_
                refine j_iload_n hc 4 dX11_laysWorthsOf_92 rfl rfl ?_
                refine j_vI hc (k := 11) (by decide) (fun hv => Or.inl (sv_k hv hm rfl)) ml_RX11_315 mv_X11_isBarred (As := [vI l4, vI r35, vI (wr (gI s36 2 33 + l1)), vI l3]) (c_X11_isBarred (cx_E hc) hm cl4 cr35 (wr_wr _) cl3 h) rfl (by omega) (by decide) ⟨Nat.zero_le _, Nat.zero_le _⟩ (Nat.le_of_ble_eq_true rfl) (by simp only [vI_wr, vL_wl]; rfl) dX11_laysWorthsOf_93 (fun r38 s39 cr38 h => ?_)
                refine j_if_ne hc cr38 (tgt := 110) dX11_laysWorthsOf_96 (by decide) (fun q43 => ?_) (fun q43 => ?_)
                · replace h := h.1 q43
                  refine j_sub (lv' := [(0, vR E 0), (1, vI l1), (2, vI l2), (3, vI l3), (4, vI l4)]) [1, 2, 3, 4, 5] rfl ?_
                  exact jb_X11_laysWorthsOf_110 hc hm hr hh hk3 cl1 cl2 cl3 cl4 h
                · replace h := h.2 q43
                  refine j_aload_nR hc 1 dX11_laysWorthsOf_99 rfl rfl ?_
                  refine j_getR (c' := 18) hc fl_RX11_77 rfl rfl (fun hv => (sv_k hv hm rfl)) dX11_laysWorthsOf_100 ?_
                  refine j_iload hc 5 dX11_laysWorthsOf_103 rfl ?_
                  refine j_iconst hc dX11_laysWorthsOf_105 ?_
                  refine j_iload hc 0 dX11_laysWorthsOf_106 rfl ?_
                  refine j_isub hc dX11_laysWorthsOf_108 ?_
                  refine j_w (fun x40 ex40 cx40 => ?_)
                  replace h := h x40 ex40
                  obtain ⟨b41, h⟩ := h
                  refine j_iast (jn := (Int.toNat l4)) hc (fun hv => sv_kl hv hm rfl) cl4 b41 rfl cx40 dX11_laysWorthsOf_109 (fun s42 es42 => ?_)
                  replace h := h s42 es42
                  refine j_sub (lv' := [(0, vR E 0), (1, vI l1), (2, vI l2), (3, vI l3), (4, vI l4)]) [1, 2, 3, 4, 5] rfl ?_
                  exact jb_X11_laysWorthsOf_110 hc hm hr hh hk3 cl1 cl2 cl3 cl4 h
            · replace h := h.2 q45
              refine j_goto (tgt := 110) hc dX11_laysWorthsOf_60 (by decide) ?_
              refine j_sub (lv' := [(0, vR E 0), (1, vI l1), (2, vI l2), (3, vI l3), (4, vI l4)]) [0, 1, 2, 3, 4] rfl ?_
              exact jb_X11_laysWorthsOf_110 hc hm hr hh hk3 cl1 cl2 cl3 cl4 h
set_option maxRecDepth 20000 in
theorem c_X11_laysWorthsOf {l : Launch} {E : ev_E} (hE : Eok E) (hm : eM E = 2) {a1 : Int} {a2 : Int} {a3 : Int} (ca1 : wr a1 = a1) (ca2 : wr a2 = a2) (ca3 : wr a3 = a3) {σ : st_S} {Q : st_S → Prop} (h : wp_X11_laysWorthsOf a1 a2 a3 σ Q) : cM l yX11_laysWorthsOf cX11_laysWorthsOf 6 none E 127 0 0 [vR E 0, vI a1, vI a2, vI a3] σ (qV E (gN σ + 0) Q) := by
  refine cM_of (lv := [(0, vR E 0), (1, vI a1), (2, vI a2), (3, vI a3)]) (by decide) hE (Nat.le_of_ble_eq_true rfl) (rfl) ?_
  intro X hX hc _ _ hr _ _
  subst hX
  have hh : 127 ≤ 127 := Nat.le_refl _
  have hh1 : 1 ≤ 127 := by omega
  replace h : ∃ m3 : Nat, L_X11_laysWorthsOf_3 Q m3 a1 a2 a3 0 σ := h
  refine j_iconst hc dX11_laysWorthsOf_0 ?_
  refine j_istore (lv' := [(4, vI 0), (0, vR E 0), (1, vI a1), (2, vI a2), (3, vI a3)]) hc dX11_laysWorthsOf_1 (by decide) rfl ?_
  obtain ⟨n3, h⟩ := h
  refine j_sub (lv' := [(0, vR E 0), (1, vI a1), (2, vI a2), (3, vI a3), (4, vI 0)]) [1, 2, 3, 4, 0] rfl ?_
  exact jl_X11_laysWorthsOf_3 hc hm hr hh n3 ca1 ca2 ca3 (wlit 0 (by decide)) h
-- LitStrangersModel.winter(II)I
theorem dX11_winter_0 : decode cX11_winter 0 = .ok (.iload_n 1, 1) := by decide +kernel
theorem dX11_winter_1 : decode cX11_winter 1 = .ok (.iconst 0, 1) := by decide +kernel
theorem dX11_winter_2 : decode cX11_winter 2 = .ok (.ldc 160, 2) := by decide +kernel
theorem dX11_winter_4 : decode cX11_winter 4 = .ok (.invokestatic 106, 3) := by decide +kernel
theorem dX11_winter_7 : decode cX11_winter 7 = .ok (.ifCond .eq 13, 3) := by decide +kernel
theorem dX11_winter_10 : decode cX11_winter 10 = .ok (.iload_n 2, 1) := by decide +kernel
theorem dX11_winter_11 : decode cX11_winter 11 = .ok (.iconst 1, 1) := by decide +kernel
theorem dX11_winter_12 : decode cX11_winter 12 = .ok (.bipush 60, 2) := by decide +kernel
theorem dX11_winter_14 : decode cX11_winter 14 = .ok (.invokestatic 106, 3) := by decide +kernel
theorem dX11_winter_17 : decode cX11_winter 17 = .ok (.ifCond .ne 9, 3) := by decide +kernel
theorem dX11_winter_20 : decode cX11_winter 20 = .ok (.aload_n 0, 1) := by decide +kernel
theorem dX11_winter_21 : decode cX11_winter 21 = .ok (.iconst (-1), 1) := by decide +kernel
theorem dX11_winter_22 : decode cX11_winter 22 = .ok (.invokevirtual 110, 3) := by decide +kernel
theorem dX11_winter_25 : decode cX11_winter 25 = .ok (.ireturn, 1) := by decide +kernel
theorem dX11_winter_26 : decode cX11_winter 26 = .ok (.aload_n 0, 1) := by decide +kernel
theorem dX11_winter_27 : decode cX11_winter 27 = .ok (.invokevirtual 385, 3) := by decide +kernel
theorem dX11_winter_30 : decode cX11_winter 30 = .ok (.aload_n 0, 1) := by decide +kernel
theorem dX11_winter_31 : decode cX11_winter 31 = .ok (.iload_n 1, 1) := by decide +kernel
theorem dX11_winter_32 : decode cX11_winter 32 = .ok (.putfield 448, 3) := by decide +kernel
theorem dX11_winter_35 : decode cX11_winter 35 = .ok (.aload_n 0, 1) := by decide +kernel
theorem dX11_winter_36 : decode cX11_winter 36 = .ok (.iload_n 2, 1) := by decide +kernel
theorem dX11_winter_37 : decode cX11_winter 37 = .ok (.putfield 455, 3) := by decide +kernel
theorem dX11_winter_40 : decode cX11_winter 40 = .ok (.iconst 0, 1) := by decide +kernel
theorem dX11_winter_41 : decode cX11_winter 41 = .ok (.istore_n 3, 1) := by decide +kernel
theorem dX11_winter_42 : decode cX11_winter 42 = .ok (.iconst 0, 1) := by decide +kernel
theorem dX11_winter_43 : decode cX11_winter 43 = .ok (.istore 4, 2) := by decide +kernel
theorem dX11_winter_45 : decode cX11_winter 45 = .ok (.iconst 0, 1) := by decide +kernel
theorem dX11_winter_46 : decode cX11_winter 46 = .ok (.istore 5, 2) := by decide +kernel
theorem dX11_winter_48 : decode cX11_winter 48 = .ok (.iload 5, 2) := by decide +kernel
theorem dX11_winter_50 : decode cX11_winter 50 = .ok (.iload_n 2, 1) := by decide +kernel
theorem dX11_winter_51 : decode cX11_winter 51 = .ok (.if_icmp .ge 99, 3) := by decide +kernel
theorem dX11_winter_54 : decode cX11_winter 54 = .ok (.aload_n 0, 1) := by decide +kernel
theorem dX11_winter_55 : decode cX11_winter 55 = .ok (.bipush 10, 2) := by decide +kernel
theorem dX11_winter_57 : decode cX11_winter 57 = .ok (.invokevirtual 458, 3) := by decide +kernel
theorem dX11_winter_60 : decode cX11_winter 60 = .ok (.aload_n 0, 1) := by decide +kernel
theorem dX11_winter_61 : decode cX11_winter 61 = .ok (.getfield 24, 3) := by decide +kernel
theorem dX11_winter_64 : decode cX11_winter 64 = .ok (.sipush 254, 3) := by decide +kernel
theorem dX11_winter_67 : decode cX11_winter 67 = .ok (.iaload, 1) := by decide +kernel
theorem dX11_winter_68 : decode cX11_winter 68 = .ok (.if_icmp .ge 7, 3) := by decide +kernel
theorem dX11_winter_71 : decode cX11_winter 71 = .ok (.iconst 1, 1) := by decide +kernel
theorem dX11_winter_72 : decode cX11_winter 72 = .ok (.goto 4, 3) := by decide +kernel
theorem dX11_winter_75 : decode cX11_winter 75 = .ok (.iconst 0, 1) := by decide +kernel
theorem dX11_winter_76 : decode cX11_winter 76 = .ok (.istore 6, 2) := by decide +kernel
theorem dX11_winter_78 : decode cX11_winter 78 = .ok (.aload_n 0, 1) := by decide +kernel
theorem dX11_winter_79 : decode cX11_winter 79 = .ok (.iload 5, 2) := by decide +kernel
theorem dX11_winter_81 : decode cX11_winter 81 = .ok (.iload_n 3, 1) := by decide +kernel
theorem dX11_winter_82 : decode cX11_winter 82 = .ok (.iload 6, 2) := by decide +kernel
theorem dX11_winter_84 : decode cX11_winter 84 = .ok (.invokevirtual 461, 3) := by decide +kernel
theorem dX11_winter_87 : decode cX11_winter 87 = .ok (.aload_n 0, 1) := by decide +kernel
theorem dX11_winter_88 : decode cX11_winter 88 = .ok (.iconst 0, 1) := by decide +kernel
theorem dX11_winter_89 : decode cX11_winter 89 = .ok (.iload 6, 2) := by decide +kernel
theorem dX11_winter_91 : decode cX11_winter 91 = .ok (.invokestatic 331, 3) := by decide +kernel
theorem dX11_winter_94 : decode cX11_winter 94 = .ok (.invokevirtual 376, 3) := by decide +kernel
theorem dX11_winter_97 : decode cX11_winter 97 = .ok (.istore 7, 2) := by decide +kernel
theorem dX11_winter_99 : decode cX11_winter 99 = .ok (.aload_n 0, 1) := by decide +kernel
theorem dX11_winter_100 : decode cX11_winter 100 = .ok (.getfield 103, 3) := by decide +kernel
theorem dX11_winter_103 : decode cX11_winter 103 = .ok (.iload 5, 2) := by decide +kernel
theorem dX11_winter_105 : decode cX11_winter 105 = .ok (.iload 7, 2) := by decide +kernel
theorem dX11_winter_107 : decode cX11_winter 107 = .ok (.iconst (-1), 1) := by decide +kernel
theorem dX11_winter_108 : decode cX11_winter 108 = .ok (.if_icmp .ne 7, 3) := by decide +kernel
theorem dX11_winter_111 : decode cX11_winter 111 = .ok (.iconst 0, 1) := by decide +kernel
theorem dX11_winter_112 : decode cX11_winter 112 = .ok (.goto 5, 3) := by decide +kernel
theorem dX11_winter_115 : decode cX11_winter 115 = .ok (.iload 7, 2) := by decide +kernel
theorem dX11_winter_117 : decode cX11_winter 117 = .ok (.iastore, 1) := by decide +kernel
theorem dX11_winter_118 : decode cX11_winter 118 = .ok (.iload_n 3, 1) := by decide +kernel
theorem dX11_winter_119 : decode cX11_winter 119 = .ok (.aload_n 0, 1) := by decide +kernel
theorem dX11_winter_120 : decode cX11_winter 120 = .ok (.getfield 103, 3) := by decide +kernel
theorem dX11_winter_123 : decode cX11_winter 123 = .ok (.iload 5, 2) := by decide +kernel
theorem dX11_winter_125 : decode cX11_winter 125 = .ok (.iaload, 1) := by decide +kernel
theorem dX11_winter_126 : decode cX11_winter 126 = .ok (.ior, 1) := by decide +kernel
theorem dX11_winter_127 : decode cX11_winter 127 = .ok (.istore_n 3, 1) := by decide +kernel
theorem dX11_winter_128 : decode cX11_winter 128 = .ok (.iload 4, 2) := by decide +kernel
theorem dX11_winter_130 : decode cX11_winter 130 = .ok (.iload 7, 2) := by decide +kernel
theorem dX11_winter_132 : decode cX11_winter 132 = .ok (.iconst (-1), 1) := by decide +kernel
theorem dX11_winter_133 : decode cX11_winter 133 = .ok (.if_icmp .ne 7, 3) := by decide +kernel
theorem dX11_winter_136 : decode cX11_winter 136 = .ok (.iconst 0, 1) := by decide +kernel
theorem dX11_winter_137 : decode cX11_winter 137 = .ok (.goto 4, 3) := by decide +kernel
theorem dX11_winter_140 : decode cX11_winter 140 = .ok (.iconst 1, 1) := by decide +kernel
theorem dX11_winter_141 : decode cX11_winter 141 = .ok (.iadd, 1) := by decide +kernel
theorem dX11_winter_142 : decode cX11_winter 142 = .ok (.istore 4, 2) := by decide +kernel
theorem dX11_winter_144 : decode cX11_winter 144 = .ok (.iinc 5 1, 3) := by decide +kernel
theorem dX11_winter_147 : decode cX11_winter 147 = .ok (.goto (-99), 3) := by decide +kernel
theorem dX11_winter_150 : decode cX11_winter 150 = .ok (.aload_n 0, 1) := by decide +kernel
theorem dX11_winter_151 : decode cX11_winter 151 = .ok (.iload 4, 2) := by decide +kernel
theorem dX11_winter_153 : decode cX11_winter 153 = .ok (.invokevirtual 14, 3) := by decide +kernel
theorem dX11_winter_156 : decode cX11_winter 156 = .ok (.ireturn, 1) := by decide +kernel
def B_X11_winter_20 (Q : Int → st_S → Prop)    (σ : st_S) : Prop := wp_X11_refuses (-1) σ (fun r38 s39 => Q r38 s39)
def B_X11_winter_141 (Q : Int → st_S → Prop)  (k48 : Int → Int → Int → Int → st_S → Prop) (l2 : Int) (l3 : Int) (l5 : Int) (v0 : Int) (v1 : Int) (σ : st_S) : Prop := ∀ x40 : Int, x40 = wr (v1 + v0) → ∀ x41 : Int, x41 = wr (l5 + 1) → k48 l2 l3 x40 x41 σ
def B_X11_winter_117 (Q : Int → st_S → Prop)  (k48 : Int → Int → Int → Int → st_S → Prop) (l2 : Int) (l3 : Int) (l4 : Int) (l5 : Int) (l7 : Int) (v0 : Int) (v1 : Int) (σ : st_S) : Prop := ix (wr v1) 60 ∧ ∀ s43 : st_S, s43 = sI σ 25 (Int.toNat (wr v1)) v0 → ix l5 60 ∧ ∀ x46 : Int, x46 = o_or l3 (gI s43 25 (Int.toNat l5)) → (¬ l7 = (-1) → B_X11_winter_141 Q k48 l2 x46 l5 1 l4 s43) ∧ (l7 = (-1) → B_X11_winter_141 Q k48 l2 x46 l5 0 l4 s43)
def B_X11_winter_76 (Q : Int → st_S → Prop)  (k48 : Int → Int → Int → Int → st_S → Prop) (l2 : Int) (l3 : Int) (l4 : Int) (l5 : Int) (v0 : Int) (σ : st_S) : Prop := wp_X11_laysWorthsOf l5 l3 v0 σ (fun s49 => wp_X11_needOn v0 s49 (fun r50 s51 => wp_X11_crewBehind 0 r50 s51 (fun r52 s53 => (¬ r52 = (-1) → B_X11_winter_117 Q k48 l2 l3 l4 l5 r52 r52 l5 s53) ∧ (r52 = (-1) → B_X11_winter_117 Q k48 l2 l3 l4 l5 r52 0 l5 s53))))
def L_X11_winter_48 (Q : Int → st_S → Prop)   : Nat → Int → Int → Int → Int → st_S → Prop
  | 0 => fun _ _ _ _ _ => False
  | n + 1 => fun l2 l3 l4 l5 σ => (l2 ≤ l5 → wp_X11_good l4 σ (fun r55 s56 => Q r55 s56)) ∧ (¬ l2 ≤ l5 → wp_X11_draws 10 σ (fun r57 s58 => (gI s58 2 254 ≤ r57 → B_X11_winter_76 Q (L_X11_winter_48 Q n) l2 l3 l4 l5 0 s58) ∧ (¬ gI s58 2 254 ≤ r57 → B_X11_winter_76 Q (L_X11_winter_48 Q n) l2 l3 l4 l5 1 s58)))
def wp_X11_winter (a1 : Int) (a2 : Int) (σ : st_S) (Q : Int → st_S → Prop) : Prop := wp_X11_lies a1 0 1000000 σ (fun r62 s63 => (r62 = 0 → B_X11_winter_20 Q s63) ∧ (¬ r62 = 0 → wp_X11_lies a2 1 60 s63 (fun r64 s65 => (¬ r64 = 0 → wp_X11_looks s65 (fun s67 => ∀ s68 : st_S, s68 = sI s67 0 51 a1 → ∀ s69 : st_S, s69 = sI s68 0 50 a2 → ∃ m48 : Nat, L_X11_winter_48 Q m48 a2 0 0 0 s69)) ∧ (r64 = 0 → B_X11_winter_20 Q s65))))
set_option maxRecDepth 20000 in
theorem jb_X11_winter_20 {X : jj_X} {E : ev_E} {n0 hN : Nat} (hc : Cx X E cX11_winter 8 n0 hN RX11) (hm : eM E = 2) (hr : (xT X).sig.returnType = (some .int)) (hh : 128 ≤ hN) {Q : Int → st_S → Prop} {σ : st_S} (h : B_X11_winter_20 Q σ) : J X E 8 n0 0 0 (MQ (xB X) (qI E (n0 + 0) Q) (xA X) (xS X) 0 0 (eF E)) σ 20 [(0, vR E 0)] [] := by
  have hh1 : 1 ≤ hN := by omega
  replace h : wp_X11_refuses (-1) σ (fun r38 s39 => Q r38 s39) := h
  refine j_aload_nR hc 0 dX11_winter_20 rfl rfl ?_
  refine j_iconst hc dX11_winter_21 ?_
  refine j_vI hc (k := 11) (by decide) (fun hv => Or.inl (sv_k hv hm rfl)) ml_RX11_110 mv_X11_refuses (As := [vI (-1)]) (c_X11_refuses (cx_E hc) hm (wlit (-1) (by decide)) h) rfl (by omega) (by decide) ⟨Nat.zero_le _, Nat.zero_le _⟩ (Nat.le_of_ble_eq_true rfl) rfl dX11_winter_22 (fun r38 s39 cr38 h => ?_)
  exact j_iret hc hr cr38 h dX11_winter_25
set_option maxRecDepth 20000 in
theorem jb_X11_winter_141 {X : jj_X} {E : ev_E} {n0 hN : Nat} (hc : Cx X E cX11_winter 8 n0 hN RX11) (hm : eM E = 2) (hr : (xT X).sig.returnType = (some .int)) (hh : 128 ≤ hN) {Q : Int → st_S → Prop} {k48 : Int → Int → Int → Int → st_S → Prop} (hk48 : ∀ {l2 : Int} {l3 : Int} {l4 : Int} {l5 : Int} (cl2 : wr l2 = l2) (cl3 : wr l3 = l3) (cl4 : wr l4 = l4) (cl5 : wr l5 = l5) {σ : st_S}, k48 l2 l3 l4 l5 σ → J X E 8 n0 0 0 (MQ (xB X) (qI E (n0 + 0) Q) (xA X) (xS X) 0 0 (eF E)) σ 48 [(0, vR E 0), (2, vI l2), (3, vI l3), (4, vI l4), (5, vI l5)] []) {l2 : Int} {l3 : Int} {l5 : Int} {v0 : Int} {v1 : Int} (cl2 : wr l2 = l2) (cl3 : wr l3 = l3) (cl5 : wr l5 = l5) (cv0 : wr v0 = v0) {σ : st_S} (h : B_X11_winter_141 Q k48 l2 l3 l5 v0 v1 σ) : J X E 8 n0 0 0 (MQ (xB X) (qI E (n0 + 0) Q) (xA X) (xS X) 0 0 (eF E)) σ 141 [(0, vR E 0), (2, vI l2), (3, vI l3), (5, vI l5)] [vI v0, vI v1] := by
  have hh1 : 1 ≤ hN := by omega
  replace h : ∀ x40 : Int, x40 = wr (v1 + v0) → ∀ x41 : Int, x41 = wr (l5 + 1) → k48 l2 l3 x40 x41 σ := h
  refine j_iadd hc dX11_winter_141 ?_
  refine j_w (fun x40 ex40 cx40 => ?_)
  replace h := h x40 ex40
  refine j_istore (lv' := [(4, vI x40), (0, vR E 0), (2, vI l2), (3, vI l3), (5, vI l5)]) hc dX11_winter_142 (by decide) rfl ?_
  obtain ⟨x41, ex41⟩ : ∃ y : Int, y = wr (l5 + 1) := ⟨_, rfl⟩
  have cx41 : wr x41 = x41 := by rw [ex41]; exact wr_wr _
  replace h := h x41 ex41
  refine j_iinc (lv' := [(5, vI x41), (4, vI x40), (0, vR E 0), (2, vI l2), (3, vI l3)]) hc 4 dX11_winter_144 rfl (by decide) ex41 rfl ?_
  refine j_goto (tgt := 48) hc dX11_winter_147 (by decide) ?_
  refine j_sub (lv' := [(0, vR E 0), (2, vI l2), (3, vI l3), (4, vI x40), (5, vI x41)]) [2, 3, 4, 1, 0] rfl ?_
  exact hk48 cl2 cl3 cx40 cx41 h
set_option maxRecDepth 20000 in
theorem jb_X11_winter_117 {X : jj_X} {E : ev_E} {n0 hN : Nat} (hc : Cx X E cX11_winter 8 n0 hN RX11) (hm : eM E = 2) (hr : (xT X).sig.returnType = (some .int)) (hh : 128 ≤ hN) {Q : Int → st_S → Prop} {k48 : Int → Int → Int → Int → st_S → Prop} (hk48 : ∀ {l2 : Int} {l3 : Int} {l4 : Int} {l5 : Int} (cl2 : wr l2 = l2) (cl3 : wr l3 = l3) (cl4 : wr l4 = l4) (cl5 : wr l5 = l5) {σ : st_S}, k48 l2 l3 l4 l5 σ → J X E 8 n0 0 0 (MQ (xB X) (qI E (n0 + 0) Q) (xA X) (xS X) 0 0 (eF E)) σ 48 [(0, vR E 0), (2, vI l2), (3, vI l3), (4, vI l4), (5, vI l5)] []) {l2 : Int} {l3 : Int} {l4 : Int} {l5 : Int} {l7 : Int} {v0 : Int} {v1 : Int} (cl2 : wr l2 = l2) (cl3 : wr l3 = l3) (cl4 : wr l4 = l4) (cl5 : wr l5 = l5) (cl7 : wr l7 = l7) (cv0 : wr v0 = v0) {σ : st_S} (h : B_X11_winter_117 Q k48 l2 l3 l4 l5 l7 v0 v1 σ) : J X E 8 n0 0 0 (MQ (xB X) (qI E (n0 + 0) Q) (xA X) (xS X) 0 0 (eF E)) σ 117 [(0, vR E 0), (2, vI l2), (3, vI l3), (4, vI l4), (5, vI l5), (7, vI l7)] [vI v0, vI v1, vR E 25] := by
  have hh1 : 1 ≤ hN := by omega
  replace h : ix (wr v1) 60 ∧ ∀ s43 : st_S, s43 = sI σ 25 (Int.toNat (wr v1)) v0 → ix l5 60 ∧ ∀ x46 : Int, x46 = o_or l3 (gI s43 25 (Int.toNat l5)) → (¬ l7 = (-1) → B_X11_winter_141 Q k48 l2 x46 l5 1 l4 s43) ∧ (l7 = (-1) → B_X11_winter_141 Q k48 l2 x46 l5 0 l4 s43) := h
  obtain ⟨b42, h⟩ := h
  refine j_iast (jn := (Int.toNat (wr v1))) hc (fun hv => sv_kl hv hm rfl) rfl b42 rfl cv0 dX11_winter_117 (fun s43 es43 => ?_)
  replace h := h s43 es43
  refine j_iload_n hc 2 dX11_winter_118 rfl rfl ?_
  refine j_aload_nR hc 0 dX11_winter_119 rfl rfl ?_
  refine j_getR (c' := 25) hc fl_RX11_103 rfl rfl (fun hv => (sv_k hv hm rfl)) dX11_winter_120 ?_
  refine j_iload hc 4 dX11_winter_123 rfl ?_
  obtain ⟨b44, h⟩ := h
  refine j_iald (jn := (Int.toNat l5)) hc (fun hv => sv_kl hv hm rfl) cl5 b44 rfl dX11_winter_125 (fun cn45 => ?_)
  refine j_ior hc dX11_winter_126 ?_
  refine j_c (cn_or _ _) (fun x46 ex46 cx46 => ?_)
  replace h := h x46 ex46
  refine j_istore_n (lv' := [(3, vI x46), (0, vR E 0), (2, vI l2), (4, vI l4), (5, vI l5), (7, vI l7)]) hc dX11_winter_127 rfl (by decide) rfl ?_
  refine j_iload hc 3 dX11_winter_128 rfl ?_
  refine j_iload hc 5 dX11_winter_130 rfl ?_
  refine j_iconst hc dX11_winter_132 ?_
  refine j_ic_ne hc cl7 (wlit (-1) (by decide)) (tgt := 140) dX11_winter_133 (by decide) (fun q47 => ?_) (fun q47 => ?_)
  · replace h := h.1 q47
    refine j_iconst hc dX11_winter_140 ?_
    refine j_sub (lv' := [(0, vR E 0), (2, vI l2), (3, vI x46), (5, vI l5)]) [1, 2, 0, 4] rfl ?_
    exact jb_X11_winter_141 hc hm hr hh hk48 cl2 cx46 cl5 (wlit 1 (by decide)) h
  · replace h := h.2 q47
    refine j_iconst hc dX11_winter_136 ?_
    refine j_goto (tgt := 141) hc dX11_winter_137 (by decide) ?_
    refine j_sub (lv' := [(0, vR E 0), (2, vI l2), (3, vI x46), (5, vI l5)]) [1, 2, 0, 4] rfl ?_
    exact jb_X11_winter_141 hc hm hr hh hk48 cl2 cx46 cl5 (wlit 0 (by decide)) h
set_option maxRecDepth 20000 in
theorem jb_X11_winter_76 {X : jj_X} {E : ev_E} {n0 hN : Nat} (hc : Cx X E cX11_winter 8 n0 hN RX11) (hm : eM E = 2) (hr : (xT X).sig.returnType = (some .int)) (hh : 128 ≤ hN) {Q : Int → st_S → Prop} {k48 : Int → Int → Int → Int → st_S → Prop} (hk48 : ∀ {l2 : Int} {l3 : Int} {l4 : Int} {l5 : Int} (cl2 : wr l2 = l2) (cl3 : wr l3 = l3) (cl4 : wr l4 = l4) (cl5 : wr l5 = l5) {σ : st_S}, k48 l2 l3 l4 l5 σ → J X E 8 n0 0 0 (MQ (xB X) (qI E (n0 + 0) Q) (xA X) (xS X) 0 0 (eF E)) σ 48 [(0, vR E 0), (2, vI l2), (3, vI l3), (4, vI l4), (5, vI l5)] []) {l2 : Int} {l3 : Int} {l4 : Int} {l5 : Int} {v0 : Int} (cl2 : wr l2 = l2) (cl3 : wr l3 = l3) (cl4 : wr l4 = l4) (cl5 : wr l5 = l5) (cv0 : wr v0 = v0) {σ : st_S} (h : B_X11_winter_76 Q k48 l2 l3 l4 l5 v0 σ) : J X E 8 n0 0 0 (MQ (xB X) (qI E (n0 + 0) Q) (xA X) (xS X) 0 0 (eF E)) σ 76 [(0, vR E 0), (2, vI l2), (3, vI l3), (4, vI l4), (5, vI l5)] [vI v0] := by
  have hh1 : 1 ≤ hN := by omega
  replace h : wp_X11_laysWorthsOf l5 l3 v0 σ (fun s49 => wp_X11_needOn v0 s49 (fun r50 s51 => wp_X11_crewBehind 0 r50 s51 (fun r52 s53 => (¬ r52 = (-1) → B_X11_winter_117 Q k48 l2 l3 l4 l5 r52 r52 l5 s53) ∧ (r52 = (-1) → B_X11_winter_117 Q k48 l2 l3 l4 l5 r52 0 l5 s53)))) := h
  refine j_istore (lv' := [(6, vI v0), (0, vR E 0), (2, vI l2), (3, vI l3), (4, vI l4), (5, vI l5)]) hc dX11_winter_76 (by decide) rfl ?_
  refine j_aload_nR hc 1 dX11_winter_78 rfl rfl ?_
  refine j_iload hc 5 dX11_winter_79 rfl ?_
  refine j_iload_n hc 3 dX11_winter_81 rfl rfl ?_
  refine j_iload hc 0 dX11_winter_82 rfl ?_
  refine j_vV hc (k := 11) (by decide) (fun hv => Or.inl (sv_k hv hm rfl)) ml_RX11_461 mv_X11_laysWorthsOf (As := [vI l5, vI l3, vI v0]) (c_X11_laysWorthsOf (cx_E hc) hm cl5 cl3 cv0 h) rfl (by omega) (by decide) ⟨Nat.zero_le _, Nat.zero_le _⟩ (Nat.le_of_ble_eq_true rfl) rfl dX11_winter_84 (fun s49 h => ?_)
  refine j_aload_nR hc 1 dX11_winter_87 rfl rfl ?_
  refine j_iconst hc dX11_winter_88 ?_
  refine j_iload hc 0 dX11_winter_89 rfl ?_
  refine j_sI hc ml_RX11_331 mv_X11_needOn (As := [vI v0]) (c_X11_needOn (cx_E hc) hm cv0 h) rfl (by omega) (by decide) ⟨Nat.zero_le _, Nat.zero_le _⟩ (Nat.le_of_ble_eq_true rfl) rfl dX11_winter_91 (fun r50 s51 cr50 h => ?_)
  refine j_vI hc (k := 11) (by decide) (fun hv => Or.inl (sv_k hv hm rfl)) ml_RX11_376 mv_X11_crewBehind (As := [vI 0, vI r50]) (c_X11_crewBehind (cx_E hc) hm (wlit 0 (by decide)) cr50 h) rfl (by omega) (by decide) ⟨Nat.zero_le _, Nat.zero_le _⟩ (Nat.le_of_ble_eq_true rfl) rfl dX11_winter_94 (fun r52 s53 cr52 h => ?_)
  refine j_istore (lv' := [(7, vI r52), (6, vI v0), (0, vR E 0), (2, vI l2), (3, vI l3), (4, vI l4), (5, vI l5)]) hc dX11_winter_97 (by decide) rfl ?_
  refine j_aload_nR hc 2 dX11_winter_99 rfl rfl ?_
  refine j_getR (c' := 25) hc fl_RX11_103 rfl rfl (fun hv => (sv_k hv hm rfl)) dX11_winter_100 ?_
  refine j_iload hc 6 dX11_winter_103 rfl ?_
  refine j_iload hc 0 dX11_winter_105 rfl ?_
  refine j_iconst hc dX11_winter_107 ?_
  refine j_ic_ne hc cr52 (wlit (-1) (by decide)) (tgt := 115) dX11_winter_108 (by decide) (fun q54 => ?_) (fun q54 => ?_)
  · replace h := h.1 q54
    refine j_iload hc 0 dX11_winter_115 rfl ?_
    refine j_sub (lv' := [(0, vR E 0), (2, vI l2), (3, vI l3), (4, vI l4), (5, vI l5), (7, vI r52)]) [2, 3, 4, 5, 6, 0] rfl ?_
    exact jb_X11_winter_117 hc hm hr hh hk48 cl2 cl3 cl4 cl5 cr52 cr52 h
  · replace h := h.2 q54
    refine j_iconst hc dX11_winter_111 ?_
    refine j_goto (tgt := 117) hc dX11_winter_112 (by decide) ?_
    refine j_sub (lv' := [(0, vR E 0), (2, vI l2), (3, vI l3), (4, vI l4), (5, vI l5), (7, vI r52)]) [2, 3, 4, 5, 6, 0] rfl ?_
    exact jb_X11_winter_117 hc hm hr hh hk48 cl2 cl3 cl4 cl5 cr52 (wlit 0 (by decide)) h
set_option maxRecDepth 20000 in
theorem jl_X11_winter_48 {X : jj_X} {E : ev_E} {n0 hN : Nat} (hc : Cx X E cX11_winter 8 n0 hN RX11) (hm : eM E = 2) (hr : (xT X).sig.returnType = (some .int)) (hh : 128 ≤ hN) {Q : Int → st_S → Prop} : ∀ (n : Nat) {l2 : Int} {l3 : Int} {l4 : Int} {l5 : Int} (cl2 : wr l2 = l2) (cl3 : wr l3 = l3) (cl4 : wr l4 = l4) (cl5 : wr l5 = l5) {σ : st_S}, L_X11_winter_48 Q n l2 l3 l4 l5 σ → J X E 8 n0 0 0 (MQ (xB X) (qI E (n0 + 0) Q) (xA X) (xS X) 0 0 (eF E)) σ 48 [(0, vR E 0), (2, vI l2), (3, vI l3), (4, vI l4), (5, vI l5)] [] := by
  have hh1 : 1 ≤ hN := by omega
  intro n
  induction n with
  | zero => intro l2 l3 l4 l5 cl2 cl3 cl4 cl5 σ h; exact h.elim
  | succ n ih =>
    intro l2 l3 l4 l5 cl2 cl3 cl4 cl5 σ h
    have hk48 : ∀ {l2 : Int} {l3 : Int} {l4 : Int} {l5 : Int} (cl2 : wr l2 = l2) (cl3 : wr l3 = l3) (cl4 : wr l4 = l4) (cl5 : wr l5 = l5) {σ : st_S}, L_X11_winter_48 Q n l2 l3 l4 l5 σ → J X E 8 n0 0 0 (MQ (xB X) (qI E (n0 + 0) Q) (xA X) (xS X) 0 0 (eF E)) σ 48 [(0, vR E 0), (2, vI l2), (3, vI l3), (4, vI l4), (5, vI l5)] [] := ih
    replace h : (l2 ≤ l5 → wp_X11_good l4 σ (fun r55 s56 => Q r55 s56)) ∧ (¬ l2 ≤ l5 → wp_X11_draws 10 σ (fun r57 s58 => (gI s58 2 254 ≤ r57 → B_X11_winter_76 Q (L_X11_winter_48 Q n) l2 l3 l4 l5 0 s58) ∧ (¬ gI s58 2 254 ≤ r57 → B_X11_winter_76 Q (L_X11_winter_48 Q n) l2 l3 l4 l5 1 s58))) := h
    refine j_iload hc 4 dX11_winter_48 rfl ?_
    refine j_iload_n hc 1 dX11_winter_50 rfl rfl ?_
    refine j_ic_ge hc cl5 cl2 (tgt := 150) dX11_winter_51 (by decide) (fun q61 => ?_) (fun q61 => ?_)
    · replace h := h.1 q61
      refine j_aload_nR hc 0 dX11_winter_150 rfl rfl ?_
      refine j_iload hc 3 dX11_winter_151 rfl ?_
      refine j_vI hc (k := 11) (by decide) (fun hv => Or.inl (sv_k hv hm rfl)) ml_RX11_14 mv_X11_good (As := [vI l4]) (c_X11_good (cx_E hc) hm cl4 h) rfl (by omega) (by decide) ⟨Nat.zero_le _, Nat.zero_le _⟩ (Nat.le_of_ble_eq_true rfl) rfl dX11_winter_153 (fun r55 s56 cr55 h => ?_)
      exact j_iret hc hr cr55 h dX11_winter_156
    · replace h := h.2 q61
      refine j_aload_nR hc 0 dX11_winter_54 rfl rfl ?_
      refine j_bipush hc dX11_winter_55 (by decide) ?_
      refine j_vI hc (k := 11) (by decide) (fun hv => Or.inl (sv_k hv hm rfl)) ml_RX11_458 mv_X11_draws (As := [vI 10]) (c_X11_draws (cx_E hc) hm (wlit 10 (by decide)) h) rfl (by omega) (by decide) ⟨Nat.zero_le _, Nat.zero_le _⟩ (Nat.le_of_ble_eq_true rfl) rfl dX11_winter_57 (fun r57 s58 cr57 h => ?_)
      refine j_aload_nR hc 0 dX11_winter_60 rfl rfl ?_
      refine j_getR (c' := 2) hc fl_RX11_24 rfl rfl (fun hv => (sv_k hv hm rfl)) dX11_winter_61 ?_
      refine j_sipush hc dX11_winter_64 (by decide) ?_
      refine j_iald (jn := 254) hc (fun hv => sv_kl hv hm rfl) (wlit 254 (by decide)) ⟨by decide, by decide⟩ rfl dX11_winter_67 (fun cn59 => ?_)
      refine j_ic_ge hc cr57 cn59 (tgt := 75) dX11_winter_68 (by decide) (fun q60 => ?_) (fun q60 => ?_)
      · replace h := h.1 q60
        refine j_iconst hc dX11_winter_75 ?_
        refine j_sub (lv' := [(0, vR E 0), (2, vI l2), (3, vI l3), (4, vI l4), (5, vI l5)]) [0, 1, 2, 3, 4] rfl ?_
        exact jb_X11_winter_76 hc hm hr hh hk48 cl2 cl3 cl4 cl5 (wlit 0 (by decide)) h
      · replace h := h.2 q60
        refine j_iconst hc dX11_winter_71 ?_
        refine j_goto (tgt := 76) hc dX11_winter_72 (by decide) ?_
        refine j_sub (lv' := [(0, vR E 0), (2, vI l2), (3, vI l3), (4, vI l4), (5, vI l5)]) [0, 1, 2, 3, 4] rfl ?_
        exact jb_X11_winter_76 hc hm hr hh hk48 cl2 cl3 cl4 cl5 (wlit 1 (by decide)) h
set_option maxRecDepth 20000 in
theorem c_X11_winter {l : Launch} {E : ev_E} (hE : Eok E) (hm : eM E = 2) {a1 : Int} {a2 : Int} (ca1 : wr a1 = a1) (ca2 : wr a2 = a2) {σ : st_S} {Q : Int → st_S → Prop} (h : wp_X11_winter a1 a2 σ Q) : cM l yX11_winter cX11_winter 8 (some .int) E 128 0 0 [vR E 0, vI a1, vI a2] σ (qI E (gN σ + 0) Q) := by
  refine cM_of (lv := [(0, vR E 0), (1, vI a1), (2, vI a2)]) (by decide) hE (Nat.le_of_ble_eq_true rfl) (rfl) ?_
  intro X hX hc _ _ hr _ _
  subst hX
  have hh : 128 ≤ 128 := Nat.le_refl _
  have hh1 : 1 ≤ 128 := by omega
  replace h : wp_X11_lies a1 0 1000000 σ (fun r62 s63 => (r62 = 0 → B_X11_winter_20 Q s63) ∧ (¬ r62 = 0 → wp_X11_lies a2 1 60 s63 (fun r64 s65 => (¬ r64 = 0 → wp_X11_looks s65 (fun s67 => ∀ s68 : st_S, s68 = sI s67 0 51 a1 → ∀ s69 : st_S, s69 = sI s68 0 50 a2 → ∃ m48 : Nat, L_X11_winter_48 Q m48 a2 0 0 0 s69)) ∧ (r64 = 0 → B_X11_winter_20 Q s65)))) := h
  refine j_iload_n hc 1 dX11_winter_0 rfl rfl ?_
  refine j_iconst hc dX11_winter_1 ?_
  refine j_ldc (x := 1000000) hc (by decide) kc_RX11_160 dX11_winter_2 ?_
  refine j_sI hc ml_RX11_106 mv_X11_lies (As := [vI a1, vI 0, vI 1000000]) (c_X11_lies (cx_E hc) hm ca1 (wlit 0 (by decide)) (wlit 1000000 (by decide)) h) rfl (by omega) (by decide) ⟨Nat.zero_le _, Nat.zero_le _⟩ (Nat.le_of_ble_eq_true rfl) rfl dX11_winter_4 (fun r62 s63 cr62 h => ?_)
  refine j_if_eq hc cr62 (tgt := 20) dX11_winter_7 (by decide) (fun q71 => ?_) (fun q71 => ?_)
  · replace h := h.1 q71
    refine j_sub (lv' := [(0, vR E 0)]) [0] rfl ?_
    exact jb_X11_winter_20 hc hm hr hh h
  · replace h := h.2 q71
    refine j_iload_n hc 2 dX11_winter_10 rfl rfl ?_
    refine j_iconst hc dX11_winter_11 ?_
    refine j_bipush hc dX11_winter_12 (by decide) ?_
    refine j_sI hc ml_RX11_106 mv_X11_lies (As := [vI a2, vI 1, vI 60]) (c_X11_lies (cx_E hc) hm ca2 (wlit 1 (by decide)) (wlit 60 (by decide)) h) rfl (by omega) (by decide) ⟨Nat.zero_le _, Nat.zero_le _⟩ (Nat.le_of_ble_eq_true rfl) rfl dX11_winter_14 (fun r64 s65 cr64 h => ?_)
    refine j_if_ne hc cr64 (tgt := 26) dX11_winter_17 (by decide) (fun q70 => ?_) (fun q70 => ?_)
    · replace h := h.1 q70
      refine j_aload_nR hc 0 dX11_winter_26 rfl rfl ?_
      refine j_vV hc (k := 11) (by decide) (fun hv => Or.inl (sv_k hv hm rfl)) ml_RX11_385 mv_X11_looks (As := []) (c_X11_looks (cx_E hc) hm  h) rfl (by omega) (by decide) ⟨Nat.zero_le _, Nat.zero_le _⟩ (Nat.le_of_ble_eq_true rfl) rfl dX11_winter_27 (fun s67 h => ?_)
      refine j_aload_nR hc 0 dX11_winter_30 rfl rfl ?_
      refine j_iload_n hc 1 dX11_winter_31 rfl rfl ?_
      refine j_putI hc fl_RX11_448 rfl rfl (fun hv => Or.inl (sv_k hv hm rfl)) ca1 dX11_winter_32 (fun s68 es68 => ?_)
      replace h := h s68 es68
      refine j_aload_nR hc 0 dX11_winter_35 rfl rfl ?_
      refine j_iload_n hc 2 dX11_winter_36 rfl rfl ?_
      refine j_putI hc fl_RX11_455 rfl rfl (fun hv => Or.inl (sv_k hv hm rfl)) ca2 dX11_winter_37 (fun s69 es69 => ?_)
      replace h := h s69 es69
      refine j_iconst hc dX11_winter_40 ?_
      refine j_istore_n (lv' := [(3, vI 0), (0, vR E 0), (1, vI a1), (2, vI a2)]) hc dX11_winter_41 rfl (by decide) rfl ?_
      refine j_iconst hc dX11_winter_42 ?_
      refine j_istore (lv' := [(4, vI 0), (3, vI 0), (0, vR E 0), (1, vI a1), (2, vI a2)]) hc dX11_winter_43 (by decide) rfl ?_
      refine j_iconst hc dX11_winter_45 ?_
      refine j_istore (lv' := [(5, vI 0), (4, vI 0), (3, vI 0), (0, vR E 0), (1, vI a1), (2, vI a2)]) hc dX11_winter_46 (by decide) rfl ?_
      obtain ⟨n48, h⟩ := h
      refine j_sub (lv' := [(0, vR E 0), (2, vI a2), (3, vI 0), (4, vI 0), (5, vI 0)]) [3, 5, 2, 1, 0] rfl ?_
      exact jl_X11_winter_48 hc hm hr hh n48 ca2 (wlit 0 (by decide)) (wlit 0 (by decide)) (wlit 0 (by decide)) h
    · replace h := h.2 q70
      refine j_sub (lv' := [(0, vR E 0)]) [0] rfl ?_
      exact jb_X11_winter_20 hc hm hr hh h
-- LitStrangersModel.drawn(I)I
theorem dX11_drawn_0 : decode cX11_drawn 0 = .ok (.iload_n 1, 1) := by decide +kernel
theorem dX11_drawn_1 : decode cX11_drawn 1 = .ok (.iconst 0, 1) := by decide +kernel
theorem dX11_drawn_2 : decode cX11_drawn 2 = .ok (.aload_n 0, 1) := by decide +kernel
theorem dX11_drawn_3 : decode cX11_drawn 3 = .ok (.getfield 455, 3) := by decide +kernel
theorem dX11_drawn_6 : decode cX11_drawn 6 = .ok (.iconst 1, 1) := by decide +kernel
theorem dX11_drawn_7 : decode cX11_drawn 7 = .ok (.isub, 1) := by decide +kernel
theorem dX11_drawn_8 : decode cX11_drawn 8 = .ok (.invokestatic 106, 3) := by decide +kernel
theorem dX11_drawn_11 : decode cX11_drawn 11 = .ok (.ifCond .eq 12, 3) := by decide +kernel
theorem dX11_drawn_14 : decode cX11_drawn 14 = .ok (.aload_n 0, 1) := by decide +kernel
theorem dX11_drawn_15 : decode cX11_drawn 15 = .ok (.getfield 103, 3) := by decide +kernel
theorem dX11_drawn_18 : decode cX11_drawn 18 = .ok (.iload_n 1, 1) := by decide +kernel
theorem dX11_drawn_19 : decode cX11_drawn 19 = .ok (.iaload, 1) := by decide +kernel
theorem dX11_drawn_20 : decode cX11_drawn 20 = .ok (.goto 4, 3) := by decide +kernel
theorem dX11_drawn_23 : decode cX11_drawn 23 = .ok (.iconst (-1), 1) := by decide +kernel
theorem dX11_drawn_24 : decode cX11_drawn 24 = .ok (.ireturn, 1) := by decide +kernel
def B_X11_drawn_24 (Q : Int → st_S → Prop)   (v0 : Int) (σ : st_S) : Prop := Q v0 σ
def wp_X11_drawn (a1 : Int) (σ : st_S) (Q : Int → st_S → Prop) : Prop := wp_X11_lies a1 0 (wr (gI σ 0 50 - 1)) σ (fun r7 s8 => (r7 = 0 → B_X11_drawn_24 Q (-1) s8) ∧ (¬ r7 = 0 → ix a1 60 ∧ B_X11_drawn_24 Q (gI s8 25 (Int.toNat a1)) s8))
set_option maxRecDepth 20000 in
theorem jb_X11_drawn_24 {X : jj_X} {E : ev_E} {n0 hN : Nat} (hc : Cx X E cX11_drawn 2 n0 hN RX11) (hm : eM E = 2) (hr : (xT X).sig.returnType = (some .int)) (hh : 2 ≤ hN) {Q : Int → st_S → Prop} {v0 : Int} (cv0 : wr v0 = v0) {σ : st_S} (h : B_X11_drawn_24 Q v0 σ) : J X E 2 n0 0 0 (MQ (xB X) (qI E (n0 + 0) Q) (xA X) (xS X) 0 0 (eF E)) σ 24 [] [vI v0] := by
  have hh1 : 1 ≤ hN := by omega
  replace h : Q v0 σ := h
  exact j_iret hc hr cv0 h dX11_drawn_24
set_option maxRecDepth 20000 in
theorem c_X11_drawn {l : Launch} {E : ev_E} (hE : Eok E) (hm : eM E = 2) {a1 : Int} (ca1 : wr a1 = a1) {σ : st_S} {Q : Int → st_S → Prop} (h : wp_X11_drawn a1 σ Q) : cM l yX11_drawn cX11_drawn 2 (some .int) E 2 0 0 [vR E 0, vI a1] σ (qI E (gN σ + 0) Q) := by
  refine cM_of (lv := [(0, vR E 0), (1, vI a1)]) (by decide) hE (Nat.le_of_ble_eq_true rfl) (rfl) ?_
  intro X hX hc _ _ hr _ _
  subst hX
  have hh : 2 ≤ 2 := Nat.le_refl _
  have hh1 : 1 ≤ 2 := by omega
  replace h : wp_X11_lies a1 0 (wr (gI σ 0 50 - 1)) σ (fun r7 s8 => (r7 = 0 → B_X11_drawn_24 Q (-1) s8) ∧ (¬ r7 = 0 → ix a1 60 ∧ B_X11_drawn_24 Q (gI s8 25 (Int.toNat a1)) s8)) := h
  refine j_iload_n hc 1 dX11_drawn_0 rfl rfl ?_
  refine j_iconst hc dX11_drawn_1 ?_
  refine j_aload_nR hc 0 dX11_drawn_2 rfl rfl ?_
  refine j_getI hc fl_RX11_455 (Or.inl rfl) (fun hv => Or.inl (sv_k hv hm rfl)) dX11_drawn_3 (fun cn6 => ?_)
  refine j_iconst hc dX11_drawn_6 ?_
  refine j_isub hc dX11_drawn_7 ?_
  refine j_sI hc ml_RX11_106 mv_X11_lies (As := [vI a1, vI 0, vI (wr (gI σ 0 50 - 1))]) (c_X11_lies (cx_E hc) hm ca1 (wlit 0 (by decide)) (wr_wr _) h) rfl (by omega) (by decide) ⟨Nat.zero_le _, Nat.zero_le _⟩ (Nat.le_of_ble_eq_true rfl) (by simp only [vI_wr, vL_wl]; rfl) dX11_drawn_8 (fun r7 s8 cr7 h => ?_)
  refine j_if_eq hc cr7 (tgt := 23) dX11_drawn_11 (by decide) (fun q11 => ?_) (fun q11 => ?_)
  · replace h := h.1 q11
    refine j_iconst hc dX11_drawn_23 ?_
    refine j_sub (lv' := []) [] rfl ?_
    exact jb_X11_drawn_24 hc hm hr hh (wlit (-1) (by decide)) h
  · replace h := h.2 q11
    refine j_aload_nR hc 0 dX11_drawn_14 rfl rfl ?_
    refine j_getR (c' := 25) hc fl_RX11_103 rfl rfl (fun hv => (sv_k hv hm rfl)) dX11_drawn_15 ?_
    refine j_iload_n hc 1 dX11_drawn_18 rfl rfl ?_
    obtain ⟨b9, h⟩ := h
    refine j_iald (jn := (Int.toNat a1)) hc (fun hv => sv_kl hv hm rfl) ca1 b9 rfl dX11_drawn_19 (fun cn10 => ?_)
    refine j_goto (tgt := 24) hc dX11_drawn_20 (by decide) ?_
    refine j_sub (lv' := []) [] rfl ?_
    exact jb_X11_drawn_24 hc hm hr hh cn10 h
-- LitStrangersModel.count(I)I
theorem dX11_count_0 : decode cX11_count 0 = .ok (.iconst 0, 1) := by decide +kernel
theorem dX11_count_1 : decode cX11_count 1 = .ok (.istore_n 2, 1) := by decide +kernel
theorem dX11_count_2 : decode cX11_count 2 = .ok (.iconst 0, 1) := by decide +kernel
theorem dX11_count_3 : decode cX11_count 3 = .ok (.istore_n 3, 1) := by decide +kernel
theorem dX11_count_4 : decode cX11_count 4 = .ok (.iload_n 3, 1) := by decide +kernel
theorem dX11_count_5 : decode cX11_count 5 = .ok (.aload_n 0, 1) := by decide +kernel
theorem dX11_count_6 : decode cX11_count 6 = .ok (.invokevirtual 116, 3) := by decide +kernel
theorem dX11_count_9 : decode cX11_count 9 = .ok (.if_icmp .ge 42, 3) := by decide +kernel
theorem dX11_count_12 : decode cX11_count 12 = .ok (.iconst 0, 1) := by decide +kernel
theorem dX11_count_13 : decode cX11_count 13 = .ok (.istore 4, 2) := by decide +kernel
theorem dX11_count_15 : decode cX11_count 15 = .ok (.iload 4, 2) := by decide +kernel
theorem dX11_count_17 : decode cX11_count 17 = .ok (.iload_n 3, 1) := by decide +kernel
theorem dX11_count_18 : decode cX11_count 18 = .ok (.if_icmp .ge 27, 3) := by decide +kernel
theorem dX11_count_21 : decode cX11_count 21 = .ok (.iload_n 2, 1) := by decide +kernel
theorem dX11_count_22 : decode cX11_count 22 = .ok (.aload_n 0, 1) := by decide +kernel
theorem dX11_count_23 : decode cX11_count 23 = .ok (.iload_n 3, 1) := by decide +kernel
theorem dX11_count_24 : decode cX11_count 24 = .ok (.iload 4, 2) := by decide +kernel
theorem dX11_count_26 : decode cX11_count 26 = .ok (.invokevirtual 334, 3) := by decide +kernel
theorem dX11_count_29 : decode cX11_count 29 = .ok (.ifCond .eq 7, 3) := by decide +kernel
theorem dX11_count_32 : decode cX11_count 32 = .ok (.iconst 1, 1) := by decide +kernel
theorem dX11_count_33 : decode cX11_count 33 = .ok (.goto 4, 3) := by decide +kernel
theorem dX11_count_36 : decode cX11_count 36 = .ok (.iconst 0, 1) := by decide +kernel
theorem dX11_count_37 : decode cX11_count 37 = .ok (.iadd, 1) := by decide +kernel
theorem dX11_count_38 : decode cX11_count 38 = .ok (.istore_n 2, 1) := by decide +kernel
theorem dX11_count_39 : decode cX11_count 39 = .ok (.iinc 4 1, 3) := by decide +kernel
theorem dX11_count_42 : decode cX11_count 42 = .ok (.goto (-27), 3) := by decide +kernel
theorem dX11_count_45 : decode cX11_count 45 = .ok (.iinc 3 1, 3) := by decide +kernel
theorem dX11_count_48 : decode cX11_count 48 = .ok (.goto (-44), 3) := by decide +kernel
theorem dX11_count_51 : decode cX11_count 51 = .ok (.iload_n 1, 1) := by decide +kernel
theorem dX11_count_52 : decode cX11_count 52 = .ok (.tableswitch 190 0 16 #[84, 89, 91, 99, 107, 115, 124, 129, 134, 134, 134, 144, 151, 159, 168, 176, 176], 84) := by decide +kernel
theorem dX11_count_136 : decode cX11_count 136 = .ok (.aload_n 0, 1) := by decide +kernel
theorem dX11_count_137 : decode cX11_count 137 = .ok (.invokevirtual 116, 3) := by decide +kernel
theorem dX11_count_140 : decode cX11_count 140 = .ok (.ireturn, 1) := by decide +kernel
theorem dX11_count_141 : decode cX11_count 141 = .ok (.iload_n 2, 1) := by decide +kernel
theorem dX11_count_142 : decode cX11_count 142 = .ok (.ireturn, 1) := by decide +kernel
theorem dX11_count_143 : decode cX11_count 143 = .ok (.aload_n 0, 1) := by decide +kernel
theorem dX11_count_144 : decode cX11_count 144 = .ok (.getfield 24, 3) := by decide +kernel
theorem dX11_count_147 : decode cX11_count 147 = .ok (.bipush 30, 2) := by decide +kernel
theorem dX11_count_149 : decode cX11_count 149 = .ok (.iaload, 1) := by decide +kernel
theorem dX11_count_150 : decode cX11_count 150 = .ok (.ireturn, 1) := by decide +kernel
theorem dX11_count_151 : decode cX11_count 151 = .ok (.aload_n 0, 1) := by decide +kernel
theorem dX11_count_152 : decode cX11_count 152 = .ok (.getfield 24, 3) := by decide +kernel
theorem dX11_count_155 : decode cX11_count 155 = .ok (.bipush 31, 2) := by decide +kernel
theorem dX11_count_157 : decode cX11_count 157 = .ok (.iaload, 1) := by decide +kernel
theorem dX11_count_158 : decode cX11_count 158 = .ok (.ireturn, 1) := by decide +kernel
theorem dX11_count_159 : decode cX11_count 159 = .ok (.aload_n 0, 1) := by decide +kernel
theorem dX11_count_160 : decode cX11_count 160 = .ok (.getfield 24, 3) := by decide +kernel
theorem dX11_count_163 : decode cX11_count 163 = .ok (.bipush 32, 2) := by decide +kernel
theorem dX11_count_165 : decode cX11_count 165 = .ok (.iaload, 1) := by decide +kernel
theorem dX11_count_166 : decode cX11_count 166 = .ok (.ireturn, 1) := by decide +kernel
theorem dX11_count_167 : decode cX11_count 167 = .ok (.aload_n 0, 1) := by decide +kernel
theorem dX11_count_168 : decode cX11_count 168 = .ok (.getfield 24, 3) := by decide +kernel
theorem dX11_count_171 : decode cX11_count 171 = .ok (.sipush 257, 3) := by decide +kernel
theorem dX11_count_174 : decode cX11_count 174 = .ok (.iaload, 1) := by decide +kernel
theorem dX11_count_175 : decode cX11_count 175 = .ok (.ireturn, 1) := by decide +kernel
theorem dX11_count_176 : decode cX11_count 176 = .ok (.aload_n 0, 1) := by decide +kernel
theorem dX11_count_177 : decode cX11_count 177 = .ok (.getfield 11, 3) := by decide +kernel
theorem dX11_count_180 : decode cX11_count 180 = .ok (.ireturn, 1) := by decide +kernel
theorem dX11_count_181 : decode cX11_count 181 = .ok (.aload_n 0, 1) := by decide +kernel
theorem dX11_count_182 : decode cX11_count 182 = .ok (.getfield 141, 3) := by decide +kernel
theorem dX11_count_185 : decode cX11_count 185 = .ok (.ireturn, 1) := by decide +kernel
theorem dX11_count_186 : decode cX11_count 186 = .ok (.aload_n 0, 1) := by decide +kernel
theorem dX11_count_187 : decode cX11_count 187 = .ok (.getfield 7, 3) := by decide +kernel
theorem dX11_count_190 : decode cX11_count 190 = .ok (.iload_n 1, 1) := by decide +kernel
theorem dX11_count_191 : decode cX11_count 191 = .ok (.bipush 7, 2) := by decide +kernel
theorem dX11_count_193 : decode cX11_count 193 = .ok (.isub, 1) := by decide +kernel
theorem dX11_count_194 : decode cX11_count 194 = .ok (.iaload, 1) := by decide +kernel
theorem dX11_count_195 : decode cX11_count 195 = .ok (.ireturn, 1) := by decide +kernel
theorem dX11_count_196 : decode cX11_count 196 = .ok (.aload_n 0, 1) := by decide +kernel
theorem dX11_count_197 : decode cX11_count 197 = .ok (.getfield 7, 3) := by decide +kernel
theorem dX11_count_200 : decode cX11_count 200 = .ok (.iconst 5, 1) := by decide +kernel
theorem dX11_count_201 : decode cX11_count 201 = .ok (.iaload, 1) := by decide +kernel
theorem dX11_count_202 : decode cX11_count 202 = .ok (.ireturn, 1) := by decide +kernel
theorem dX11_count_203 : decode cX11_count 203 = .ok (.aload_n 0, 1) := by decide +kernel
theorem dX11_count_204 : decode cX11_count 204 = .ok (.getfield 7, 3) := by decide +kernel
theorem dX11_count_207 : decode cX11_count 207 = .ok (.bipush 6, 2) := by decide +kernel
theorem dX11_count_209 : decode cX11_count 209 = .ok (.iaload, 1) := by decide +kernel
theorem dX11_count_210 : decode cX11_count 210 = .ok (.ireturn, 1) := by decide +kernel
theorem dX11_count_211 : decode cX11_count 211 = .ok (.aload_n 0, 1) := by decide +kernel
theorem dX11_count_212 : decode cX11_count 212 = .ok (.getfield 24, 3) := by decide +kernel
theorem dX11_count_215 : decode cX11_count 215 = .ok (.sipush 258, 3) := by decide +kernel
theorem dX11_count_218 : decode cX11_count 218 = .ok (.iaload, 1) := by decide +kernel
theorem dX11_count_219 : decode cX11_count 219 = .ok (.ireturn, 1) := by decide +kernel
theorem dX11_count_220 : decode cX11_count 220 = .ok (.aload_n 0, 1) := by decide +kernel
theorem dX11_count_221 : decode cX11_count 221 = .ok (.getfield 24, 3) := by decide +kernel
theorem dX11_count_224 : decode cX11_count 224 = .ok (.bipush 33, 2) := by decide +kernel
theorem dX11_count_226 : decode cX11_count 226 = .ok (.iaload, 1) := by decide +kernel
theorem dX11_count_227 : decode cX11_count 227 = .ok (.ireturn, 1) := by decide +kernel
theorem dX11_count_228 : decode cX11_count 228 = .ok (.aload_n 0, 1) := by decide +kernel
theorem dX11_count_229 : decode cX11_count 229 = .ok (.getfield 24, 3) := by decide +kernel
theorem dX11_count_232 : decode cX11_count 232 = .ok (.sipush 254, 3) := by decide +kernel
theorem dX11_count_235 : decode cX11_count 235 = .ok (.iload_n 1, 1) := by decide +kernel
theorem dX11_count_236 : decode cX11_count 236 = .ok (.iadd, 1) := by decide +kernel
theorem dX11_count_237 : decode cX11_count 237 = .ok (.bipush 15, 2) := by decide +kernel
theorem dX11_count_239 : decode cX11_count 239 = .ok (.isub, 1) := by decide +kernel
theorem dX11_count_240 : decode cX11_count 240 = .ok (.iaload, 1) := by decide +kernel
theorem dX11_count_241 : decode cX11_count 241 = .ok (.ireturn, 1) := by decide +kernel
theorem dX11_count_242 : decode cX11_count 242 = .ok (.iconst (-1), 1) := by decide +kernel
theorem dX11_count_243 : decode cX11_count 243 = .ok (.ireturn, 1) := by decide +kernel
def B_X11_count_37 (Q : Int → st_S → Prop)  (k4 : Int → Int → Int → st_S → Prop) (k15 : Int → Int → Int → Int → st_S → Prop) (l1 : Int) (l3 : Int) (l4 : Int) (v0 : Int) (v1 : Int) (σ : st_S) : Prop := ∀ x35 : Int, x35 = wr (v1 + v0) → ∀ x36 : Int, x36 = wr (l4 + 1) → k15 l1 x35 l3 x36 σ
def L_X11_count_15 (Q : Int → st_S → Prop)  (k4 : Int → Int → Int → st_S → Prop) : Nat → Int → Int → Int → Int → st_S → Prop
  | 0 => fun _ _ _ _ _ => False
  | n + 1 => fun l1 l2 l3 l4 σ => (l3 ≤ l4 → ∀ x37 : Int, x37 = wr (l3 + 1) → k4 l1 l2 x37 σ) ∧ (¬ l3 ≤ l4 → wp_X11_doTalk l3 l4 σ (fun r38 s39 => (r38 = 0 → B_X11_count_37 Q k4 (L_X11_count_15 Q k4 n) l1 l3 l4 0 l2 s39) ∧ (¬ r38 = 0 → B_X11_count_37 Q k4 (L_X11_count_15 Q k4 n) l1 l3 l4 1 l2 s39)))
def L_X11_count_4 (Q : Int → st_S → Prop)   : Nat → Int → Int → Int → st_S → Prop
  | 0 => fun _ _ _ _ => False
  | n + 1 => fun l1 l2 l3 σ => wp_X11_people σ (fun r42 s43 => (r42 ≤ l3 → (l1 = 0 → wp_X11_people s43 (fun r44 s45 => Q r44 s45)) ∧ (l1 = 1 → Q l2 s43) ∧ (l1 = 2 → Q (gI s43 2 30) s43) ∧ (l1 = 3 → Q (gI s43 2 31) s43) ∧ (l1 = 4 → Q (gI s43 2 32) s43) ∧ (l1 = 5 → Q (gI s43 2 257) s43) ∧ (l1 = 6 → Q (gI s43 0 28) s43) ∧ (l1 = 7 → Q (gI s43 0 13) s43) ∧ (l1 = 8 → ix (wr (l1 - 7)) 7 ∧ Q (gI s43 1 (Int.toNat (wr (l1 - 7)))) s43) ∧ (l1 = 9 → ix (wr (l1 - 7)) 7 ∧ Q (gI s43 1 (Int.toNat (wr (l1 - 7)))) s43) ∧ (l1 = 10 → ix (wr (l1 - 7)) 7 ∧ Q (gI s43 1 (Int.toNat (wr (l1 - 7)))) s43) ∧ (l1 = 11 → Q (gI s43 1 5) s43) ∧ (l1 = 12 → Q (gI s43 1 6) s43) ∧ (l1 = 13 → Q (gI s43 2 258) s43) ∧ (l1 = 14 → Q (gI s43 2 33) s43) ∧ (l1 = 15 → ix (wr ((254 + l1) - 15)) 5866 ∧ Q (gI s43 2 (Int.toNat (wr ((254 + l1) - 15)))) s43) ∧ (l1 = 16 → ix (wr ((254 + l1) - 15)) 5866 ∧ Q (gI s43 2 (Int.toNat (wr ((254 + l1) - 15)))) s43) ∧ (l1 < 0 ∨ 16 < l1 → Q (-1) s43)) ∧ (¬ r42 ≤ l3 → ∃ m15 : Nat, L_X11_count_15 Q (L_X11_count_4 Q n) m15 l1 l2 l3 0 s43))
def wp_X11_count (a1 : Int) (σ : st_S) (Q : Int → st_S → Prop) : Prop := ∃ m4 : Nat, L_X11_count_4 Q m4 a1 0 0 σ
set_option maxRecDepth 20000 in
theorem jb_X11_count_37 {X : jj_X} {E : ev_E} {n0 hN : Nat} (hc : Cx X E cX11_count 5 n0 hN RX11) (hm : eM E = 2) (hr : (xT X).sig.returnType = (some .int)) (hh : 2 ≤ hN) {Q : Int → st_S → Prop} {k4 : Int → Int → Int → st_S → Prop} (hk4 : ∀ {l1 : Int} {l2 : Int} {l3 : Int} (cl1 : wr l1 = l1) (cl2 : wr l2 = l2) (cl3 : wr l3 = l3) {σ : st_S}, k4 l1 l2 l3 σ → J X E 5 n0 0 0 (MQ (xB X) (qI E (n0 + 0) Q) (xA X) (xS X) 0 0 (eF E)) σ 4 [(0, vR E 0), (1, vI l1), (2, vI l2), (3, vI l3)] []) {k15 : Int → Int → Int → Int → st_S → Prop} (hk15 : ∀ {l1 : Int} {l2 : Int} {l3 : Int} {l4 : Int} (cl1 : wr l1 = l1) (cl2 : wr l2 = l2) (cl3 : wr l3 = l3) (cl4 : wr l4 = l4) {σ : st_S}, k15 l1 l2 l3 l4 σ → J X E 5 n0 0 0 (MQ (xB X) (qI E (n0 + 0) Q) (xA X) (xS X) 0 0 (eF E)) σ 15 [(0, vR E 0), (1, vI l1), (2, vI l2), (3, vI l3), (4, vI l4)] []) {l1 : Int} {l3 : Int} {l4 : Int} {v0 : Int} {v1 : Int} (cl1 : wr l1 = l1) (cl3 : wr l3 = l3) (cl4 : wr l4 = l4) (cv0 : wr v0 = v0) {σ : st_S} (h : B_X11_count_37 Q k4 k15 l1 l3 l4 v0 v1 σ) : J X E 5 n0 0 0 (MQ (xB X) (qI E (n0 + 0) Q) (xA X) (xS X) 0 0 (eF E)) σ 37 [(0, vR E 0), (1, vI l1), (3, vI l3), (4, vI l4)] [vI v0, vI v1] := by
  have hh1 : 1 ≤ hN := by omega
  replace h : ∀ x35 : Int, x35 = wr (v1 + v0) → ∀ x36 : Int, x36 = wr (l4 + 1) → k15 l1 x35 l3 x36 σ := h
  refine j_iadd hc dX11_count_37 ?_
  refine j_w (fun x35 ex35 cx35 => ?_)
  replace h := h x35 ex35
  refine j_istore_n (lv' := [(2, vI x35), (0, vR E 0), (1, vI l1), (3, vI l3), (4, vI l4)]) hc dX11_count_38 rfl (by decide) rfl ?_
  obtain ⟨x36, ex36⟩ : ∃ y : Int, y = wr (l4 + 1) := ⟨_, rfl⟩
  have cx36 : wr x36 = x36 := by rw [ex36]; exact wr_wr _
  replace h := h x36 ex36
  refine j_iinc (lv' := [(4, vI x36), (2, vI x35), (0, vR E 0), (1, vI l1), (3, vI l3)]) hc 4 dX11_count_39 rfl (by decide) ex36 rfl ?_
  refine j_goto (tgt := 15) hc dX11_count_42 (by decide) ?_
  refine j_sub (lv' := [(0, vR E 0), (1, vI l1), (2, vI x35), (3, vI l3), (4, vI x36)]) [2, 3, 1, 4, 0] rfl ?_
  exact hk15 cl1 cx35 cl3 cx36 h
set_option maxRecDepth 20000 in
theorem jl_X11_count_15 {X : jj_X} {E : ev_E} {n0 hN : Nat} (hc : Cx X E cX11_count 5 n0 hN RX11) (hm : eM E = 2) (hr : (xT X).sig.returnType = (some .int)) (hh : 2 ≤ hN) {Q : Int → st_S → Prop} {k4 : Int → Int → Int → st_S → Prop} (hk4 : ∀ {l1 : Int} {l2 : Int} {l3 : Int} (cl1 : wr l1 = l1) (cl2 : wr l2 = l2) (cl3 : wr l3 = l3) {σ : st_S}, k4 l1 l2 l3 σ → J X E 5 n0 0 0 (MQ (xB X) (qI E (n0 + 0) Q) (xA X) (xS X) 0 0 (eF E)) σ 4 [(0, vR E 0), (1, vI l1), (2, vI l2), (3, vI l3)] []) : ∀ (n : Nat) {l1 : Int} {l2 : Int} {l3 : Int} {l4 : Int} (cl1 : wr l1 = l1) (cl2 : wr l2 = l2) (cl3 : wr l3 = l3) (cl4 : wr l4 = l4) {σ : st_S}, L_X11_count_15 Q k4 n l1 l2 l3 l4 σ → J X E 5 n0 0 0 (MQ (xB X) (qI E (n0 + 0) Q) (xA X) (xS X) 0 0 (eF E)) σ 15 [(0, vR E 0), (1, vI l1), (2, vI l2), (3, vI l3), (4, vI l4)] [] := by
  have hh1 : 1 ≤ hN := by omega
  intro n
  induction n with
  | zero => intro l1 l2 l3 l4 cl1 cl2 cl3 cl4 σ h; exact h.elim
  | succ n ih =>
    intro l1 l2 l3 l4 cl1 cl2 cl3 cl4 σ h
    have hk15 : ∀ {l1 : Int} {l2 : Int} {l3 : Int} {l4 : Int} (cl1 : wr l1 = l1) (cl2 : wr l2 = l2) (cl3 : wr l3 = l3) (cl4 : wr l4 = l4) {σ : st_S}, L_X11_count_15 Q k4 n l1 l2 l3 l4 σ → J X E 5 n0 0 0 (MQ (xB X) (qI E (n0 + 0) Q) (xA X) (xS X) 0 0 (eF E)) σ 15 [(0, vR E 0), (1, vI l1), (2, vI l2), (3, vI l3), (4, vI l4)] [] := ih
    replace h : (l3 ≤ l4 → ∀ x37 : Int, x37 = wr (l3 + 1) → k4 l1 l2 x37 σ) ∧ (¬ l3 ≤ l4 → wp_X11_doTalk l3 l4 σ (fun r38 s39 => (r38 = 0 → B_X11_count_37 Q k4 (L_X11_count_15 Q k4 n) l1 l3 l4 0 l2 s39) ∧ (¬ r38 = 0 → B_X11_count_37 Q k4 (L_X11_count_15 Q k4 n) l1 l3 l4 1 l2 s39))) := h
    refine j_iload hc 4 dX11_count_15 rfl ?_
    refine j_iload_n hc 3 dX11_count_17 rfl rfl ?_
    refine j_ic_ge hc cl4 cl3 (tgt := 45) dX11_count_18 (by decide) (fun q41 => ?_) (fun q41 => ?_)
    · replace h := h.1 q41
      obtain ⟨x37, ex37⟩ : ∃ y : Int, y = wr (l3 + 1) := ⟨_, rfl⟩
      have cx37 : wr x37 = x37 := by rw [ex37]; exact wr_wr _
      replace h := h x37 ex37
      refine j_iinc (lv' := [(3, vI x37), (0, vR E 0), (1, vI l1), (2, vI l2), (4, vI l4)]) hc 3 dX11_count_45 rfl (by decide) ex37 rfl ?_
      refine j_goto (tgt := 4) hc dX11_count_48 (by decide) ?_
      refine j_sub (lv' := [(0, vR E 0), (1, vI l1), (2, vI l2), (3, vI x37)]) [1, 2, 3, 0] rfl ?_
      exact hk4 cl1 cl2 cx37 h
    · replace h := h.2 q41
      refine j_iload_n hc 2 dX11_count_21 rfl rfl ?_
      refine j_aload_nR hc 0 dX11_count_22 rfl rfl ?_
      refine j_iload_n hc 3 dX11_count_23 rfl rfl ?_
      refine j_iload hc 4 dX11_count_24 rfl ?_
      refine j_vI hc (k := 11) (by decide) (fun hv => Or.inl (sv_k hv hm rfl)) ml_RX11_334 mv_X11_doTalk (As := [vI l3, vI l4]) (c_X11_doTalk (cx_E hc) hm cl3 cl4 h) rfl (by omega) (by decide) ⟨Nat.zero_le _, Nat.zero_le _⟩ (Nat.le_of_ble_eq_true rfl) rfl dX11_count_26 (fun r38 s39 cr38 h => ?_)
      refine j_if_eq hc cr38 (tgt := 36) dX11_count_29 (by decide) (fun q40 => ?_) (fun q40 => ?_)
      · replace h := h.1 q40
        refine j_iconst hc dX11_count_36 ?_
        refine j_sub (lv' := [(0, vR E 0), (1, vI l1), (3, vI l3), (4, vI l4)]) [0, 1, 3, 4] rfl ?_
        exact jb_X11_count_37 hc hm hr hh hk4 hk15 cl1 cl3 cl4 (wlit 0 (by decide)) h
      · replace h := h.2 q40
        refine j_iconst hc dX11_count_32 ?_
        refine j_goto (tgt := 37) hc dX11_count_33 (by decide) ?_
        refine j_sub (lv' := [(0, vR E 0), (1, vI l1), (3, vI l3), (4, vI l4)]) [0, 1, 3, 4] rfl ?_
        exact jb_X11_count_37 hc hm hr hh hk4 hk15 cl1 cl3 cl4 (wlit 1 (by decide)) h
set_option maxRecDepth 20000 in
theorem jl_X11_count_4 {X : jj_X} {E : ev_E} {n0 hN : Nat} (hc : Cx X E cX11_count 5 n0 hN RX11) (hm : eM E = 2) (hr : (xT X).sig.returnType = (some .int)) (hh : 2 ≤ hN) {Q : Int → st_S → Prop} : ∀ (n : Nat) {l1 : Int} {l2 : Int} {l3 : Int} (cl1 : wr l1 = l1) (cl2 : wr l2 = l2) (cl3 : wr l3 = l3) {σ : st_S}, L_X11_count_4 Q n l1 l2 l3 σ → J X E 5 n0 0 0 (MQ (xB X) (qI E (n0 + 0) Q) (xA X) (xS X) 0 0 (eF E)) σ 4 [(0, vR E 0), (1, vI l1), (2, vI l2), (3, vI l3)] [] := by
  have hh1 : 1 ≤ hN := by omega
  intro n
  induction n with
  | zero => intro l1 l2 l3 cl1 cl2 cl3 σ h; exact h.elim
  | succ n ih =>
    intro l1 l2 l3 cl1 cl2 cl3 σ h
    have hk4 : ∀ {l1 : Int} {l2 : Int} {l3 : Int} (cl1 : wr l1 = l1) (cl2 : wr l2 = l2) (cl3 : wr l3 = l3) {σ : st_S}, L_X11_count_4 Q n l1 l2 l3 σ → J X E 5 n0 0 0 (MQ (xB X) (qI E (n0 + 0) Q) (xA X) (xS X) 0 0 (eF E)) σ 4 [(0, vR E 0), (1, vI l1), (2, vI l2), (3, vI l3)] [] := ih
    replace h : wp_X11_people σ (fun r42 s43 => (r42 ≤ l3 → (l1 = 0 → wp_X11_people s43 (fun r44 s45 => Q r44 s45)) ∧ (l1 = 1 → Q l2 s43) ∧ (l1 = 2 → Q (gI s43 2 30) s43) ∧ (l1 = 3 → Q (gI s43 2 31) s43) ∧ (l1 = 4 → Q (gI s43 2 32) s43) ∧ (l1 = 5 → Q (gI s43 2 257) s43) ∧ (l1 = 6 → Q (gI s43 0 28) s43) ∧ (l1 = 7 → Q (gI s43 0 13) s43) ∧ (l1 = 8 → ix (wr (l1 - 7)) 7 ∧ Q (gI s43 1 (Int.toNat (wr (l1 - 7)))) s43) ∧ (l1 = 9 → ix (wr (l1 - 7)) 7 ∧ Q (gI s43 1 (Int.toNat (wr (l1 - 7)))) s43) ∧ (l1 = 10 → ix (wr (l1 - 7)) 7 ∧ Q (gI s43 1 (Int.toNat (wr (l1 - 7)))) s43) ∧ (l1 = 11 → Q (gI s43 1 5) s43) ∧ (l1 = 12 → Q (gI s43 1 6) s43) ∧ (l1 = 13 → Q (gI s43 2 258) s43) ∧ (l1 = 14 → Q (gI s43 2 33) s43) ∧ (l1 = 15 → ix (wr ((254 + l1) - 15)) 5866 ∧ Q (gI s43 2 (Int.toNat (wr ((254 + l1) - 15)))) s43) ∧ (l1 = 16 → ix (wr ((254 + l1) - 15)) 5866 ∧ Q (gI s43 2 (Int.toNat (wr ((254 + l1) - 15)))) s43) ∧ (l1 < 0 ∨ 16 < l1 → Q (-1) s43)) ∧ (¬ r42 ≤ l3 → ∃ m15 : Nat, L_X11_count_15 Q (L_X11_count_4 Q n) m15 l1 l2 l3 0 s43)) := h
    refine j_iload_n hc 3 dX11_count_4 rfl rfl ?_
    refine j_aload_nR hc 0 dX11_count_5 rfl rfl ?_
    refine j_vI hc (k := 11) (by decide) (fun hv => Or.inl (sv_k hv hm rfl)) ml_RX11_116 mv_X11_people (As := []) (c_X11_people (cx_E hc) hm  h) rfl (by omega) (by decide) ⟨Nat.zero_le _, Nat.zero_le _⟩ (Nat.le_of_ble_eq_true rfl) rfl dX11_count_6 (fun r42 s43 cr42 h => ?_)
    refine j_ic_ge hc cl3 cr42 (tgt := 51) dX11_count_9 (by decide) (fun q66 => ?_) (fun q66 => ?_)
    · replace h := h.1 q66
      refine j_iload_n hc 1 dX11_count_51 rfl rfl ?_
      rcases Decidable.em (l1 = 0) with q0 | q0
      · replace h := h.1 q0
        refine j_ts (tgt := 136) (off := 84) hc cl1 dX11_count_52 0 q0 (by decide) (by decide) (by decide) (by decide) ?_
        refine j_aload_nR hc 0 dX11_count_136 rfl rfl ?_
        refine j_vI hc (k := 11) (by decide) (fun hv => Or.inl (sv_k hv hm rfl)) ml_RX11_116 mv_X11_people (As := []) (c_X11_people (cx_E hc) hm  h) rfl (by omega) (by decide) ⟨Nat.zero_le _, Nat.zero_le _⟩ (Nat.le_of_ble_eq_true rfl) rfl dX11_count_137 (fun r44 s45 cr44 h => ?_)
        exact j_iret hc hr cr44 h dX11_count_140
      · rcases Decidable.em (l1 = 1) with q1 | q1
        · replace h := h.2.1 q1
          refine j_ts (tgt := 141) (off := 89) hc cl1 dX11_count_52 1 q1 (by decide) (by decide) (by decide) (by decide) ?_
          refine j_iload_n hc 2 dX11_count_141 rfl rfl ?_
          exact j_iret hc hr cl2 h dX11_count_142
        · rcases Decidable.em (l1 = 2) with q2 | q2
          · replace h := h.2.2.1 q2
            refine j_ts (tgt := 143) (off := 91) hc cl1 dX11_count_52 2 q2 (by decide) (by decide) (by decide) (by decide) ?_
            refine j_aload_nR hc 0 dX11_count_143 rfl rfl ?_
            refine j_getR (c' := 2) hc fl_RX11_24 rfl rfl (fun hv => (sv_k hv hm rfl)) dX11_count_144 ?_
            refine j_bipush hc dX11_count_147 (by decide) ?_
            refine j_iald (jn := 30) hc (fun hv => sv_kl hv hm rfl) (wlit 30 (by decide)) ⟨by decide, by decide⟩ rfl dX11_count_149 (fun cn46 => ?_)
            exact j_iret hc hr cn46 h dX11_count_150
          · rcases Decidable.em (l1 = 3) with q3 | q3
            · replace h := h.2.2.2.1 q3
              refine j_ts (tgt := 151) (off := 99) hc cl1 dX11_count_52 3 q3 (by decide) (by decide) (by decide) (by decide) ?_
              refine j_aload_nR hc 0 dX11_count_151 rfl rfl ?_
              refine j_getR (c' := 2) hc fl_RX11_24 rfl rfl (fun hv => (sv_k hv hm rfl)) dX11_count_152 ?_
              refine j_bipush hc dX11_count_155 (by decide) ?_
              refine j_iald (jn := 31) hc (fun hv => sv_kl hv hm rfl) (wlit 31 (by decide)) ⟨by decide, by decide⟩ rfl dX11_count_157 (fun cn47 => ?_)
              exact j_iret hc hr cn47 h dX11_count_158
            · rcases Decidable.em (l1 = 4) with q4 | q4
              · replace h := h.2.2.2.2.1 q4
                refine j_ts (tgt := 159) (off := 107) hc cl1 dX11_count_52 4 q4 (by decide) (by decide) (by decide) (by decide) ?_
                refine j_aload_nR hc 0 dX11_count_159 rfl rfl ?_
                refine j_getR (c' := 2) hc fl_RX11_24 rfl rfl (fun hv => (sv_k hv hm rfl)) dX11_count_160 ?_
                refine j_bipush hc dX11_count_163 (by decide) ?_
                refine j_iald (jn := 32) hc (fun hv => sv_kl hv hm rfl) (wlit 32 (by decide)) ⟨by decide, by decide⟩ rfl dX11_count_165 (fun cn48 => ?_)
                exact j_iret hc hr cn48 h dX11_count_166
              · rcases Decidable.em (l1 = 5) with q5 | q5
                · replace h := h.2.2.2.2.2.1 q5
                  refine j_ts (tgt := 167) (off := 115) hc cl1 dX11_count_52 5 q5 (by decide) (by decide) (by decide) (by decide) ?_
                  refine j_aload_nR hc 0 dX11_count_167 rfl rfl ?_
                  refine j_getR (c' := 2) hc fl_RX11_24 rfl rfl (fun hv => (sv_k hv hm rfl)) dX11_count_168 ?_
                  refine j_sipush hc dX11_count_171 (by decide) ?_
                  refine j_iald (jn := 257) hc (fun hv => sv_kl hv hm rfl) (wlit 257 (by decide)) ⟨by decide, by decide⟩ rfl dX11_count_174 (fun cn49 => ?_)
                  exact j_iret hc hr cn49 h dX11_count_175
                · rcases Decidable.em (l1 = 6) with q6 | q6
                  · replace h := h.2.2.2.2.2.2.1 q6
                    refine j_ts (tgt := 176) (off := 124) hc cl1 dX11_count_52 6 q6 (by decide) (by decide) (by decide) (by decide) ?_
                    refine j_aload_nR hc 0 dX11_count_176 rfl rfl ?_
                    refine j_getI hc fl_RX11_11 (Or.inl rfl) (fun hv => Or.inl (sv_k hv hm rfl)) dX11_count_177 (fun cn50 => ?_)
                    exact j_iret hc hr cn50 h dX11_count_180
                  · rcases Decidable.em (l1 = 7) with q7 | q7
                    · replace h := h.2.2.2.2.2.2.2.1 q7
                      refine j_ts (tgt := 181) (off := 129) hc cl1 dX11_count_52 7 q7 (by decide) (by decide) (by decide) (by decide) ?_
                      refine j_aload_nR hc 0 dX11_count_181 rfl rfl ?_
                      refine j_getI hc fl_RX11_141 (Or.inl rfl) (fun hv => Or.inl (sv_k hv hm rfl)) dX11_count_182 (fun cn51 => ?_)
                      exact j_iret hc hr cn51 h dX11_count_185
                    · rcases Decidable.em (l1 = 8) with q8 | q8
                      · replace h := h.2.2.2.2.2.2.2.2.1 q8
                        refine j_ts (tgt := 186) (off := 134) hc cl1 dX11_count_52 8 q8 (by decide) (by decide) (by decide) (by decide) ?_
                        refine j_aload_nR hc 0 dX11_count_186 rfl rfl ?_
                        refine j_getR (c' := 1) hc fl_RX11_7 rfl rfl (fun hv => (sv_k hv hm rfl)) dX11_count_187 ?_
                        refine j_iload_n hc 1 dX11_count_190 rfl rfl ?_
                        refine j_bipush hc dX11_count_191 (by decide) ?_
                        refine j_isub hc dX11_count_193 ?_
                        obtain ⟨b52, h⟩ := h
                        refine j_iald (jn := (Int.toNat (wr (l1 - 7)))) hc (fun hv => sv_kl hv hm rfl) rfl b52 rfl dX11_count_194 (fun cn53 => ?_)
                        exact j_iret hc hr cn53 h dX11_count_195
                      · rcases Decidable.em (l1 = 9) with q9 | q9
                        · replace h := h.2.2.2.2.2.2.2.2.2.1 q9
                          refine j_ts (tgt := 186) (off := 134) hc cl1 dX11_count_52 9 q9 (by decide) (by decide) (by decide) (by decide) ?_
                          refine j_aload_nR hc 0 dX11_count_186 rfl rfl ?_
                          refine j_getR (c' := 1) hc fl_RX11_7 rfl rfl (fun hv => (sv_k hv hm rfl)) dX11_count_187 ?_
                          refine j_iload_n hc 1 dX11_count_190 rfl rfl ?_
                          refine j_bipush hc dX11_count_191 (by decide) ?_
                          refine j_isub hc dX11_count_193 ?_
                          obtain ⟨b54, h⟩ := h
                          refine j_iald (jn := (Int.toNat (wr (l1 - 7)))) hc (fun hv => sv_kl hv hm rfl) rfl b54 rfl dX11_count_194 (fun cn55 => ?_)
                          exact j_iret hc hr cn55 h dX11_count_195
                        · rcases Decidable.em (l1 = 10) with q10 | q10
                          · replace h := h.2.2.2.2.2.2.2.2.2.2.1 q10
                            refine j_ts (tgt := 186) (off := 134) hc cl1 dX11_count_52 10 q10 (by decide) (by decide) (by decide) (by decide) ?_
                            refine j_aload_nR hc 0 dX11_count_186 rfl rfl ?_
                            refine j_getR (c' := 1) hc fl_RX11_7 rfl rfl (fun hv => (sv_k hv hm rfl)) dX11_count_187 ?_
                            refine j_iload_n hc 1 dX11_count_190 rfl rfl ?_
                            refine j_bipush hc dX11_count_191 (by decide) ?_
                            refine j_isub hc dX11_count_193 ?_
                            obtain ⟨b56, h⟩ := h
                            refine j_iald (jn := (Int.toNat (wr (l1 - 7)))) hc (fun hv => sv_kl hv hm rfl) rfl b56 rfl dX11_count_194 (fun cn57 => ?_)
                            exact j_iret hc hr cn57 h dX11_count_195
                          · rcases Decidable.em (l1 = 11) with q11 | q11
                            · replace h := h.2.2.2.2.2.2.2.2.2.2.2.1 q11
                              refine j_ts (tgt := 196) (off := 144) hc cl1 dX11_count_52 11 q11 (by decide) (by decide) (by decide) (by decide) ?_
                              refine j_aload_nR hc 0 dX11_count_196 rfl rfl ?_
                              refine j_getR (c' := 1) hc fl_RX11_7 rfl rfl (fun hv => (sv_k hv hm rfl)) dX11_count_197 ?_
                              refine j_iconst hc dX11_count_200 ?_
                              refine j_iald (jn := 5) hc (fun hv => sv_kl hv hm rfl) (wlit 5 (by decide)) ⟨by decide, by decide⟩ rfl dX11_count_201 (fun cn58 => ?_)
                              exact j_iret hc hr cn58 h dX11_count_202
                            · rcases Decidable.em (l1 = 12) with q12 | q12
                              · replace h := h.2.2.2.2.2.2.2.2.2.2.2.2.1 q12
                                refine j_ts (tgt := 203) (off := 151) hc cl1 dX11_count_52 12 q12 (by decide) (by decide) (by decide) (by decide) ?_
                                refine j_aload_nR hc 0 dX11_count_203 rfl rfl ?_
                                refine j_getR (c' := 1) hc fl_RX11_7 rfl rfl (fun hv => (sv_k hv hm rfl)) dX11_count_204 ?_
                                refine j_bipush hc dX11_count_207 (by decide) ?_
                                refine j_iald (jn := 6) hc (fun hv => sv_kl hv hm rfl) (wlit 6 (by decide)) ⟨by decide, by decide⟩ rfl dX11_count_209 (fun cn59 => ?_)
                                exact j_iret hc hr cn59 h dX11_count_210
                              · rcases Decidable.em (l1 = 13) with q13 | q13
                                · replace h := h.2.2.2.2.2.2.2.2.2.2.2.2.2.1 q13
                                  refine j_ts (tgt := 211) (off := 159) hc cl1 dX11_count_52 13 q13 (by decide) (by decide) (by decide) (by decide) ?_
                                  refine j_aload_nR hc 0 dX11_count_211 rfl rfl ?_
                                  refine j_getR (c' := 2) hc fl_RX11_24 rfl rfl (fun hv => (sv_k hv hm rfl)) dX11_count_212 ?_
                                  refine j_sipush hc dX11_count_215 (by decide) ?_
                                  refine j_iald (jn := 258) hc (fun hv => sv_kl hv hm rfl) (wlit 258 (by decide)) ⟨by decide, by decide⟩ rfl dX11_count_218 (fun cn60 => ?_)
                                  exact j_iret hc hr cn60 h dX11_count_219
                                · rcases Decidable.em (l1 = 14) with q14 | q14
                                  · replace h := h.2.2.2.2.2.2.2.2.2.2.2.2.2.2.1 q14
                                    refine j_ts (tgt := 220) (off := 168) hc cl1 dX11_count_52 14 q14 (by decide) (by decide) (by decide) (by decide) ?_
                                    refine j_aload_nR hc 0 dX11_count_220 rfl rfl ?_
                                    refine j_getR (c' := 2) hc fl_RX11_24 rfl rfl (fun hv => (sv_k hv hm rfl)) dX11_count_221 ?_
                                    refine j_bipush hc dX11_count_224 (by decide) ?_
                                    refine j_iald (jn := 33) hc (fun hv => sv_kl hv hm rfl) (wlit 33 (by decide)) ⟨by decide, by decide⟩ rfl dX11_count_226 (fun cn61 => ?_)
                                    exact j_iret hc hr cn61 h dX11_count_227
                                  · rcases Decidable.em (l1 = 15) with q15 | q15
                                    · replace h := h.2.2.2.2.2.2.2.2.2.2.2.2.2.2.2.1 q15
                                      refine j_ts (tgt := 228) (off := 176) hc cl1 dX11_count_52 15 q15 (by decide) (by decide) (by decide) (by decide) ?_
                                      refine j_aload_nR hc 0 dX11_count_228 rfl rfl ?_
                                      refine j_getR (c' := 2) hc fl_RX11_24 rfl rfl (fun hv => (sv_k hv hm rfl)) dX11_count_229 ?_
                                      refine j_sipush hc dX11_count_232 (by decide) ?_
                                      refine j_iload_n hc 1 dX11_count_235 rfl rfl ?_
                                      refine j_iadd hc dX11_count_236 ?_
                                      refine j_bipush hc dX11_count_237 (by decide) ?_
                                      refine j_isub hc dX11_count_239 ?_
                                      obtain ⟨b62, h⟩ := h
                                      refine j_iald (jn := (Int.toNat (wr ((254 + l1) - 15)))) hc (fun hv => sv_kl hv hm rfl) rfl b62 rfl dX11_count_240 (fun cn63 => ?_)
                                      exact j_iret hc hr cn63 h dX11_count_241
                                    · rcases Decidable.em (l1 = 16) with q16 | q16
                                      · replace h := h.2.2.2.2.2.2.2.2.2.2.2.2.2.2.2.2.1 q16
                                        refine j_ts (tgt := 228) (off := 176) hc cl1 dX11_count_52 16 q16 (by decide) (by decide) (by decide) (by decide) ?_
                                        refine j_aload_nR hc 0 dX11_count_228 rfl rfl ?_
                                        refine j_getR (c' := 2) hc fl_RX11_24 rfl rfl (fun hv => (sv_k hv hm rfl)) dX11_count_229 ?_
                                        refine j_sipush hc dX11_count_232 (by decide) ?_
                                        refine j_iload_n hc 1 dX11_count_235 rfl rfl ?_
                                        refine j_iadd hc dX11_count_236 ?_
                                        refine j_bipush hc dX11_count_237 (by decide) ?_
                                        refine j_isub hc dX11_count_239 ?_
                                        obtain ⟨b64, h⟩ := h
                                        refine j_iald (jn := (Int.toNat (wr ((254 + l1) - 15)))) hc (fun hv => sv_kl hv hm rfl) rfl b64 rfl dX11_count_240 (fun cn65 => ?_)
                                        exact j_iret hc hr cn65 h dX11_count_241
                                      · have qd : l1 < 0 ∨ 16 < l1 := by omega
                                        replace h := h.2.2.2.2.2.2.2.2.2.2.2.2.2.2.2.2.2 qd
                                        refine j_td (tgt := 242) hc cl1 dX11_count_52 qd (by decide) ?_
                                        refine j_iconst hc dX11_count_242 ?_
                                        exact j_iret hc hr (wlit (-1) (by decide)) h dX11_count_243
    · replace h := h.2 q66
      refine j_iconst hc dX11_count_12 ?_
      refine j_istore (lv' := [(4, vI 0), (0, vR E 0), (1, vI l1), (2, vI l2), (3, vI l3)]) hc dX11_count_13 (by decide) rfl ?_
      obtain ⟨n15, h⟩ := h
      refine j_sub (lv' := [(0, vR E 0), (1, vI l1), (2, vI l2), (3, vI l3), (4, vI 0)]) [1, 2, 3, 4, 0] rfl ?_
      exact jl_X11_count_15 hc hm hr hh hk4 n15 cl1 cl2 cl3 (wlit 0 (by decide)) h
set_option maxRecDepth 20000 in
theorem c_X11_count {l : Launch} {E : ev_E} (hE : Eok E) (hm : eM E = 2) {a1 : Int} (ca1 : wr a1 = a1) {σ : st_S} {Q : Int → st_S → Prop} (h : wp_X11_count a1 σ Q) : cM l yX11_count cX11_count 5 (some .int) E 2 0 0 [vR E 0, vI a1] σ (qI E (gN σ + 0) Q) := by
  refine cM_of (lv := [(0, vR E 0), (1, vI a1)]) (by decide) hE (Nat.le_of_ble_eq_true rfl) (rfl) ?_
  intro X hX hc _ _ hr _ _
  subst hX
  have hh : 2 ≤ 2 := Nat.le_refl _
  have hh1 : 1 ≤ 2 := by omega
  replace h : ∃ m4 : Nat, L_X11_count_4 Q m4 a1 0 0 σ := h
  refine j_iconst hc dX11_count_0 ?_
  refine j_istore_n (lv' := [(2, vI 0), (0, vR E 0), (1, vI a1)]) hc dX11_count_1 rfl (by decide) rfl ?_
  refine j_iconst hc dX11_count_2 ?_
  refine j_istore_n (lv' := [(3, vI 0), (2, vI 0), (0, vR E 0), (1, vI a1)]) hc dX11_count_3 rfl (by decide) rfl ?_
  obtain ⟨n4, h⟩ := h
  refine j_sub (lv' := [(0, vR E 0), (1, vI a1), (2, vI 0), (3, vI 0)]) [2, 3, 1, 0] rfl ?_
  exact jl_X11_count_4 hc hm hr hh n4 ca1 (wlit 0 (by decide)) (wlit 0 (by decide)) h
-- LitStrangersModel.status()I
theorem dX11_status_0 : decode cX11_status 0 = .ok (.aload_n 0, 1) := by decide +kernel
theorem dX11_status_1 : decode cX11_status 1 = .ok (.getfield 3, 3) := by decide +kernel
theorem dX11_status_4 : decode cX11_status 4 = .ok (.ireturn, 1) := by decide +kernel
def wp_X11_status  (σ : st_S) (Q : Int → st_S → Prop) : Prop := Q (gI σ 0 0) σ
set_option maxRecDepth 20000 in
theorem c_X11_status {l : Launch} {E : ev_E} (hE : Eok E) (hm : eM E = 2) {σ : st_S} {Q : Int → st_S → Prop} (h : wp_X11_status σ Q) : cM l yX11_status cX11_status 1 (some .int) E 1 0 0 [vR E 0] σ (qI E (gN σ + 0) Q) := by
  refine cM_of (lv := [(0, vR E 0)]) (by decide) hE (Nat.le_of_ble_eq_true rfl) (rfl) ?_
  intro X hX hc _ _ hr _ _
  subst hX
  have hh : 1 ≤ 1 := Nat.le_refl _
  have hh1 : 1 ≤ 1 := by omega
  replace h : Q (gI σ 0 0) σ := h
  refine j_aload_nR hc 0 dX11_status_0 rfl rfl ?_
  refine j_getI hc fl_RX11_3 (Or.inl rfl) (fun hv => Or.inl (sv_k hv hm rfl)) dX11_status_1 (fun cn2 => ?_)
  exact j_iret hc hr cn2 h dX11_status_4
