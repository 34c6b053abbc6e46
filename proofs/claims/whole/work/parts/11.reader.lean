-- LitStrangers$Reader.append(I)V
theorem dX6_append_0 : decode cX6_append 0 = .ok (.bipush 24, 2) := by decide +kernel
theorem dX6_append_2 : decode cX6_append 2 = .ok (.istore_n 2, 1) := by decide +kernel
theorem dX6_append_3 : decode cX6_append 3 = .ok (.iload_n 2, 1) := by decide +kernel
theorem dX6_append_4 : decode cX6_append 4 = .ok (.ifCond .lt 52, 3) := by decide +kernel
theorem dX6_append_7 : decode cX6_append 7 = .ok (.aload_n 0, 1) := by decide +kernel
theorem dX6_append_8 : decode cX6_append 8 = .ok (.getfield 26, 3) := by decide +kernel
theorem dX6_append_11 : decode cX6_append 11 = .ok (.ifCond .lt 39, 3) := by decide +kernel
theorem dX6_append_14 : decode cX6_append 14 = .ok (.aload_n 0, 1) := by decide +kernel
theorem dX6_append_15 : decode cX6_append 15 = .ok (.getfield 26, 3) := by decide +kernel
theorem dX6_append_18 : decode cX6_append 18 = .ok (.sipush 400, 3) := by decide +kernel
theorem dX6_append_21 : decode cX6_append 21 = .ok (.if_icmp .ge 29, 3) := by decide +kernel
theorem dX6_append_24 : decode cX6_append 24 = .ok (.aload_n 0, 1) := by decide +kernel
theorem dX6_append_25 : decode cX6_append 25 = .ok (.getfield 9, 3) := by decide +kernel
theorem dX6_append_28 : decode cX6_append 28 = .ok (.aload_n 0, 1) := by decide +kernel
theorem dX6_append_29 : decode cX6_append 29 = .ok (.getfield 26, 3) := by decide +kernel
theorem dX6_append_32 : decode cX6_append 32 = .ok (.iload_n 1, 1) := by decide +kernel
theorem dX6_append_33 : decode cX6_append 33 = .ok (.iload_n 2, 1) := by decide +kernel
theorem dX6_append_34 : decode cX6_append 34 = .ok (.ishr, 1) := by decide +kernel
theorem dX6_append_35 : decode cX6_append 35 = .ok (.sipush 255, 3) := by decide +kernel
theorem dX6_append_38 : decode cX6_append 38 = .ok (.iand, 1) := by decide +kernel
theorem dX6_append_39 : decode cX6_append 39 = .ok (.iastore, 1) := by decide +kernel
theorem dX6_append_40 : decode cX6_append 40 = .ok (.aload_n 0, 1) := by decide +kernel
theorem dX6_append_41 : decode cX6_append 41 = .ok (.dup, 1) := by decide +kernel
theorem dX6_append_42 : decode cX6_append 42 = .ok (.getfield 26, 3) := by decide +kernel
theorem dX6_append_45 : decode cX6_append 45 = .ok (.iconst 1, 1) := by decide +kernel
theorem dX6_append_46 : decode cX6_append 46 = .ok (.iadd, 1) := by decide +kernel
theorem dX6_append_47 : decode cX6_append 47 = .ok (.putfield 26, 3) := by decide +kernel
theorem dX6_append_50 : decode cX6_append 50 = .ok (.iinc 2 (-8), 3) := by decide +kernel
theorem dX6_append_53 : decode cX6_append 53 = .ok (.goto (-50), 3) := by decide +kernel
theorem dX6_append_56 : decode cX6_append 56 = .ok (.return_, 1) := by decide +kernel
def B_X6_append_50 (Q : st_S → Prop)  (k3 : Int → Int → st_S → Prop) (l1 : Int) (l2 : Int) (σ : st_S) : Prop := ∀ x12 : Int, x12 = wr (l2 + (-8)) → k3 l1 x12 σ
def L_X6_append_3 (Q : st_S → Prop)   : Nat → Int → Int → st_S → Prop
  | 0 => fun _ _ _ => False
  | n + 1 => fun l1 l2 σ => (l2 < 0 → Q σ) ∧ (¬ l2 < 0 → (gI σ 12 1 < 0 → B_X6_append_50 Q (L_X6_append_3 Q n) l1 l2 σ) ∧ (¬ gI σ 12 1 < 0 → (400 ≤ gI σ 12 1 → B_X6_append_50 Q (L_X6_append_3 Q n) l1 l2 σ) ∧ (¬ 400 ≤ gI σ 12 1 → ix (gI σ 12 1) 400 ∧ ∀ s17 : st_S, s17 = sI σ 13 (Int.toNat (gI σ 12 1)) (o_and (o_shr l1 l2) 255) → ∀ x19 : Int, x19 = wr (gI s17 12 1 + 1) → ∀ s20 : st_S, s20 = sI s17 12 1 x19 → B_X6_append_50 Q (L_X6_append_3 Q n) l1 l2 s20)))
def wp_X6_append (a1 : Int) (σ : st_S) (Q : st_S → Prop) : Prop := ∃ m3 : Nat, L_X6_append_3 Q m3 a1 24 σ
set_option maxRecDepth 20000 in
theorem jb_X6_append_50 {X : jj_X} {E : ev_E} {n0 hN : Nat} (hc : Cx X E cX6_append 3 n0 hN RX6) (hm : eM E = 1) (hr : (xT X).sig.returnType = none) (hh : 1 ≤ hN) {Q : st_S → Prop} {k3 : Int → Int → st_S → Prop} (hk3 : ∀ {l1 : Int} {l2 : Int} (cl1 : wr l1 = l1) (cl2 : wr l2 = l2) {σ : st_S}, k3 l1 l2 σ → J X E 3 n0 0 0 (MQ (xB X) (qV E (n0 + 0) Q) (xA X) (xS X) 0 0 (eF E)) σ 3 [(0, vR E 12), (1, vI l1), (2, vI l2)] []) {l1 : Int} {l2 : Int} (cl1 : wr l1 = l1) (cl2 : wr l2 = l2) {σ : st_S} (h : B_X6_append_50 Q k3 l1 l2 σ) : J X E 3 n0 0 0 (MQ (xB X) (qV E (n0 + 0) Q) (xA X) (xS X) 0 0 (eF E)) σ 50 [(0, vR E 12), (1, vI l1), (2, vI l2)] [] := by
  have hh1 : 1 ≤ hN := by omega
  replace h : ∀ x12 : Int, x12 = wr (l2 + (-8)) → k3 l1 x12 σ := h
  obtain ⟨x12, ex12⟩ : ∃ y : Int, y = wr (l2 + (-8)) := ⟨_, rfl⟩
  have cx12 : wr x12 = x12 := by rw [ex12]; exact wr_wr _
  replace h := h x12 ex12
  refine j_iinc (lv' := [(2, vI x12), (0, vR E 12), (1, vI l1)]) hc 2 dX6_append_50 rfl (by decide) ex12 rfl ?_
  refine j_goto (tgt := 3) hc dX6_append_53 (by decide) ?_
  refine j_sub (lv' := [(0, vR E 12), (1, vI l1), (2, vI x12)]) [1, 2, 0] rfl ?_
  exact hk3 cl1 cx12 h
set_option maxRecDepth 20000 in
theorem jl_X6_append_3 {X : jj_X} {E : ev_E} {n0 hN : Nat} (hc : Cx X E cX6_append 3 n0 hN RX6) (hm : eM E = 1) (hr : (xT X).sig.returnType = none) (hh : 1 ≤ hN) {Q : st_S → Prop} : ∀ (n : Nat) {l1 : Int} {l2 : Int} (cl1 : wr l1 = l1) (cl2 : wr l2 = l2) {σ : st_S}, L_X6_append_3 Q n l1 l2 σ → J X E 3 n0 0 0 (MQ (xB X) (qV E (n0 + 0) Q) (xA X) (xS X) 0 0 (eF E)) σ 3 [(0, vR E 12), (1, vI l1), (2, vI l2)] [] := by
  have hh1 : 1 ≤ hN := by omega
  intro n
  induction n with
  | zero => intro l1 l2 cl1 cl2 σ h; exact h.elim
  | succ n ih =>
    intro l1 l2 cl1 cl2 σ h
    have hk3 : ∀ {l1 : Int} {l2 : Int} (cl1 : wr l1 = l1) (cl2 : wr l2 = l2) {σ : st_S}, L_X6_append_3 Q n l1 l2 σ → J X E 3 n0 0 0 (MQ (xB X) (qV E (n0 + 0) Q) (xA X) (xS X) 0 0 (eF E)) σ 3 [(0, vR E 12), (1, vI l1), (2, vI l2)] [] := ih
    replace h : (l2 < 0 → Q σ) ∧ (¬ l2 < 0 → (gI σ 12 1 < 0 → B_X6_append_50 Q (L_X6_append_3 Q n) l1 l2 σ) ∧ (¬ gI σ 12 1 < 0 → (400 ≤ gI σ 12 1 → B_X6_append_50 Q (L_X6_append_3 Q n) l1 l2 σ) ∧ (¬ 400 ≤ gI σ 12 1 → ix (gI σ 12 1) 400 ∧ ∀ s17 : st_S, s17 = sI σ 13 (Int.toNat (gI σ 12 1)) (o_and (o_shr l1 l2) 255) → ∀ x19 : Int, x19 = wr (gI s17 12 1 + 1) → ∀ s20 : st_S, s20 = sI s17 12 1 x19 → B_X6_append_50 Q (L_X6_append_3 Q n) l1 l2 s20))) := h
    refine j_iload_n hc 2 dX6_append_3 rfl rfl ?_
    refine j_if_lt hc cl2 (tgt := 56) dX6_append_4 (by decide) (fun q23 => ?_) (fun q23 => ?_)
    · replace h := h.1 q23
      exact j_vret hc hr h dX6_append_56
    · replace h := h.2 q23
      refine j_aload_nR hc 0 dX6_append_7 rfl rfl ?_
      refine j_getI hc fl_RX6_26 (Or.inl rfl) (fun hv => Or.inl (sv_k hv hm rfl)) dX6_append_8 (fun cn13 => ?_)
      refine j_if_lt hc cn13 (tgt := 50) dX6_append_11 (by decide) (fun q22 => ?_) (fun q22 => ?_)
      · replace h := h.1 q22
        refine j_sub (lv' := [(0, vR E 12), (1, vI l1), (2, vI l2)]) [0, 1, 2] rfl ?_
        exact jb_X6_append_50 hc hm hr hh hk3 cl1 cl2 h
      · replace h := h.2 q22
        refine j_aload_nR hc 0 dX6_append_14 rfl rfl ?_
        refine j_getI hc fl_RX6_26 (Or.inl rfl) (fun hv => Or.inl (sv_k hv hm rfl)) dX6_append_15 (fun cn14 => ?_)
        refine j_sipush hc dX6_append_18 (by decide) ?_
        refine j_ic_ge hc cn14 (wlit 400 (by decide)) (tgt := 50) dX6_append_21 (by decide) (fun q21 => ?_) (fun q21 => ?_)
        · replace h := h.1 q21
          refine j_sub (lv' := [(0, vR E 12), (1, vI l1), (2, vI l2)]) [0, 1, 2] rfl ?_
          exact jb_X6_append_50 hc hm hr hh hk3 cl1 cl2 h
        · replace h := h.2 q21
          refine j_aload_nR hc 0 dX6_append_24 rfl rfl ?_
          refine j_getR (c' := 13) hc fl_RX6_9 rfl rfl (fun hv => (sv_k hv hm rfl)) dX6_append_25 ?_
          refine j_aload_nR hc 0 dX6_append_28 rfl rfl ?_
          refine j_getI hc fl_RX6_26 (Or.inl rfl) (fun hv => Or.inl (sv_k hv hm rfl)) dX6_append_29 (fun cn15 => ?_)
          refine j_iload_n hc 1 dX6_append_32 rfl rfl ?_
          refine j_iload_n hc 2 dX6_append_33 rfl rfl ?_
          refine j_ishr hc dX6_append_34 ?_
          refine j_sipush hc dX6_append_35 (by decide) ?_
          refine j_iand hc dX6_append_38 ?_
          obtain ⟨b16, h⟩ := h
          refine j_iast (jn := (Int.toNat (gI σ 12 1))) hc (fun hv => sv_kl hv hm rfl) cn15 b16 rfl (cn_and _ _) dX6_append_39 (fun s17 es17 => ?_)
          replace h := h s17 es17
          refine j_aload_nR hc 0 dX6_append_40 rfl rfl ?_
          refine j_dup hc dX6_append_41 rfl ?_
          refine j_getI hc fl_RX6_26 (Or.inl rfl) (fun hv => Or.inl (sv_k hv hm rfl)) dX6_append_42 (fun cn18 => ?_)
          refine j_iconst hc dX6_append_45 ?_
          refine j_iadd hc dX6_append_46 ?_
          refine j_w (fun x19 ex19 cx19 => ?_)
          replace h := h x19 ex19
          refine j_putI hc fl_RX6_26 rfl rfl (fun hv => Or.inl (sv_k hv hm rfl)) cx19 dX6_append_47 (fun s20 es20 => ?_)
          replace h := h s20 es20
          refine j_sub (lv' := [(0, vR E 12), (1, vI l1), (2, vI l2)]) [0, 1, 2] rfl ?_
          exact jb_X6_append_50 hc hm hr hh hk3 cl1 cl2 h
set_option maxRecDepth 20000 in
theorem c_X6_append {l : Launch} {E : ev_E} (hE : Eok E) (hm : eM E = 1) {a1 : Int} (ca1 : wr a1 = a1) {σ : st_S} {Q : st_S → Prop} (h : wp_X6_append a1 σ Q) : cM l yX6_append cX6_append 3 none E 1 0 0 [vR E 12, vI a1] σ (qV E (gN σ + 0) Q) := by
  refine cM_of (lv := [(0, vR E 12), (1, vI a1)]) (by decide) hE (Nat.le_of_ble_eq_true rfl) (rfl) ?_
  intro X hX hc _ _ hr _ _
  subst hX
  have hh : 1 ≤ 1 := Nat.le_refl _
  have hh1 : 1 ≤ 1 := by omega
  replace h : ∃ m3 : Nat, L_X6_append_3 Q m3 a1 24 σ := h
  refine j_bipush hc dX6_append_0 (by decide) ?_
  refine j_istore_n (lv' := [(2, vI 24), (0, vR E 12), (1, vI a1)]) hc dX6_append_2 rfl (by decide) rfl ?_
  obtain ⟨n3, h⟩ := h
  refine j_sub (lv' := [(0, vR E 12), (1, vI a1), (2, vI 24)]) [1, 2, 0] rfl ?_
  exact jl_X6_append_3 hc hm hr hh n3 ca1 (wlit 24 (by decide)) h
-- LitStrangers$Reader.kindOf(I)I
theorem dX6_kindOf_0 : decode cX6_kindOf 0 = .ok (.iload_n 0, 1) := by decide +kernel
theorem dX6_kindOf_1 : decode cX6_kindOf 1 = .ok (.bipush 97, 2) := by decide +kernel
theorem dX6_kindOf_3 : decode cX6_kindOf 3 = .ok (.if_icmp .lt 11, 3) := by decide +kernel
theorem dX6_kindOf_6 : decode cX6_kindOf 6 = .ok (.iload_n 0, 1) := by decide +kernel
theorem dX6_kindOf_7 : decode cX6_kindOf 7 = .ok (.bipush 122, 2) := by decide +kernel
theorem dX6_kindOf_9 : decode cX6_kindOf 9 = .ok (.if_icmp .gt 5, 3) := by decide +kernel
theorem dX6_kindOf_12 : decode cX6_kindOf 12 = .ok (.iconst 1, 1) := by decide +kernel
theorem dX6_kindOf_13 : decode cX6_kindOf 13 = .ok (.ireturn, 1) := by decide +kernel
theorem dX6_kindOf_14 : decode cX6_kindOf 14 = .ok (.iload_n 0, 1) := by decide +kernel
theorem dX6_kindOf_15 : decode cX6_kindOf 15 = .ok (.bipush 48, 2) := by decide +kernel
theorem dX6_kindOf_17 : decode cX6_kindOf 17 = .ok (.if_icmp .lt 13, 3) := by decide +kernel
theorem dX6_kindOf_20 : decode cX6_kindOf 20 = .ok (.iload_n 0, 1) := by decide +kernel
theorem dX6_kindOf_21 : decode cX6_kindOf 21 = .ok (.bipush 57, 2) := by decide +kernel
theorem dX6_kindOf_23 : decode cX6_kindOf 23 = .ok (.if_icmp .gt 7, 3) := by decide +kernel
theorem dX6_kindOf_26 : decode cX6_kindOf 26 = .ok (.iconst 2, 1) := by decide +kernel
theorem dX6_kindOf_27 : decode cX6_kindOf 27 = .ok (.goto 4, 3) := by decide +kernel
theorem dX6_kindOf_30 : decode cX6_kindOf 30 = .ok (.iconst 3, 1) := by decide +kernel
theorem dX6_kindOf_31 : decode cX6_kindOf 31 = .ok (.ireturn, 1) := by decide +kernel
def B_X6_kindOf_31 (Q : Int → st_S → Prop)   (v0 : Int) (σ : st_S) : Prop := Q v0 σ
def B_X6_kindOf_30 (Q : Int → st_S → Prop)    (σ : st_S) : Prop := B_X6_kindOf_31 Q 3 σ
def B_X6_kindOf_14 (Q : Int → st_S → Prop)   (l0 : Int) (σ : st_S) : Prop := (l0 < 48 → B_X6_kindOf_30 Q σ) ∧ (¬ l0 < 48 → (57 < l0 → B_X6_kindOf_30 Q σ) ∧ (¬ 57 < l0 → B_X6_kindOf_31 Q 2 σ))
def wp_X6_kindOf (a1 : Int) (σ : st_S) (Q : Int → st_S → Prop) : Prop := (a1 < 97 → B_X6_kindOf_14 Q a1 σ) ∧ (¬ a1 < 97 → (122 < a1 → B_X6_kindOf_14 Q a1 σ) ∧ (¬ 122 < a1 → Q 1 σ))
set_option maxRecDepth 20000 in
theorem jb_X6_kindOf_31 {X : jj_X} {E : ev_E} {n0 hN : Nat} (hc : Cx X E cX6_kindOf 1 n0 hN RX6) (hm : eM E = 1) (hr : (xT X).sig.returnType = (some .int)) (hh : 1 ≤ hN) {Q : Int → st_S → Prop} {v0 : Int} (cv0 : wr v0 = v0) {σ : st_S} (h : B_X6_kindOf_31 Q v0 σ) : J X E 1 n0 0 0 (MQ (xB X) (qI E (n0 + 0) Q) (xA X) (xS X) 0 0 (eF E)) σ 31 [] [vI v0] := by
  have hh1 : 1 ≤ hN := by omega
  replace h : Q v0 σ := h
  exact j_iret hc hr cv0 h dX6_kindOf_31
set_option maxRecDepth 20000 in
theorem jb_X6_kindOf_30 {X : jj_X} {E : ev_E} {n0 hN : Nat} (hc : Cx X E cX6_kindOf 1 n0 hN RX6) (hm : eM E = 1) (hr : (xT X).sig.returnType = (some .int)) (hh : 1 ≤ hN) {Q : Int → st_S → Prop} {σ : st_S} (h : B_X6_kindOf_30 Q σ) : J X E 1 n0 0 0 (MQ (xB X) (qI E (n0 + 0) Q) (xA X) (xS X) 0 0 (eF E)) σ 30 [] [] := by
  have hh1 : 1 ≤ hN := by omega
  replace h : B_X6_kindOf_31 Q 3 σ := h
  refine j_iconst hc dX6_kindOf_30 ?_
  refine j_sub (lv' := []) [] rfl ?_
  exact jb_X6_kindOf_31 hc hm hr hh (wlit 3 (by decide)) h
set_option maxRecDepth 20000 in
theorem jb_X6_kindOf_14 {X : jj_X} {E : ev_E} {n0 hN : Nat} (hc : Cx X E cX6_kindOf 1 n0 hN RX6) (hm : eM E = 1) (hr : (xT X).sig.returnType = (some .int)) (hh : 1 ≤ hN) {Q : Int → st_S → Prop} {l0 : Int} (cl0 : wr l0 = l0) {σ : st_S} (h : B_X6_kindOf_14 Q l0 σ) : J X E 1 n0 0 0 (MQ (xB X) (qI E (n0 + 0) Q) (xA X) (xS X) 0 0 (eF E)) σ 14 [(0, vI l0)] [] := by
  have hh1 : 1 ≤ hN := by omega
  replace h : (l0 < 48 → B_X6_kindOf_30 Q σ) ∧ (¬ l0 < 48 → (57 < l0 → B_X6_kindOf_30 Q σ) ∧ (¬ 57 < l0 → B_X6_kindOf_31 Q 2 σ)) := h
  refine j_iload_n hc 0 dX6_kindOf_14 rfl rfl ?_
  refine j_bipush hc dX6_kindOf_15 (by decide) ?_
  refine j_ic_lt hc cl0 (wlit 48 (by decide)) (tgt := 30) dX6_kindOf_17 (by decide) (fun q2 => ?_) (fun q2 => ?_)
  · replace h := h.1 q2
    refine j_sub (lv' := []) [] rfl ?_
    exact jb_X6_kindOf_30 hc hm hr hh h
  · replace h := h.2 q2
    refine j_iload_n hc 0 dX6_kindOf_20 rfl rfl ?_
    refine j_bipush hc dX6_kindOf_21 (by decide) ?_
    refine j_ic_gt hc cl0 (wlit 57 (by decide)) (tgt := 30) dX6_kindOf_23 (by decide) (fun q1 => ?_) (fun q1 => ?_)
    · replace h := h.1 q1
      refine j_sub (lv' := []) [] rfl ?_
      exact jb_X6_kindOf_30 hc hm hr hh h
    · replace h := h.2 q1
      refine j_iconst hc dX6_kindOf_26 ?_
      refine j_goto (tgt := 31) hc dX6_kindOf_27 (by decide) ?_
      refine j_sub (lv' := []) [] rfl ?_
      exact jb_X6_kindOf_31 hc hm hr hh (wlit 2 (by decide)) h
set_option maxRecDepth 20000 in
theorem c_X6_kindOf {l : Launch} {E : ev_E} (hE : Eok E) (hm : eM E = 1) {a1 : Int} (ca1 : wr a1 = a1) {σ : st_S} {Q : Int → st_S → Prop} (h : wp_X6_kindOf a1 σ Q) : cM l yX6_kindOf cX6_kindOf 1 (some .int) E 1 0 0 [vI a1] σ (qI E (gN σ + 0) Q) := by
  refine cM_of (lv := [(0, vI a1)]) (by decide) hE (Nat.le_of_ble_eq_true rfl) (rfl) ?_
  intro X hX hc _ _ hr _ _
  subst hX
  have hh : 1 ≤ 1 := Nat.le_refl _
  have hh1 : 1 ≤ 1 := by omega
  replace h : (a1 < 97 → B_X6_kindOf_14 Q a1 σ) ∧ (¬ a1 < 97 → (122 < a1 → B_X6_kindOf_14 Q a1 σ) ∧ (¬ 122 < a1 → Q 1 σ)) := h
  refine j_iload_n hc 0 dX6_kindOf_0 rfl rfl ?_
  refine j_bipush hc dX6_kindOf_1 (by decide) ?_
  refine j_ic_lt hc ca1 (wlit 97 (by decide)) (tgt := 14) dX6_kindOf_3 (by decide) (fun q4 => ?_) (fun q4 => ?_)
  · replace h := h.1 q4
    refine j_sub (lv' := [(0, vI a1)]) [0] rfl ?_
    exact jb_X6_kindOf_14 hc hm hr hh ca1 h
  · replace h := h.2 q4
    refine j_iload_n hc 0 dX6_kindOf_6 rfl rfl ?_
    refine j_bipush hc dX6_kindOf_7 (by decide) ?_
    refine j_ic_gt hc ca1 (wlit 122 (by decide)) (tgt := 14) dX6_kindOf_9 (by decide) (fun q3 => ?_) (fun q3 => ?_)
    · replace h := h.1 q3
      refine j_sub (lv' := [(0, vI a1)]) [0] rfl ?_
      exact jb_X6_kindOf_14 hc hm hr hh ca1 h
    · replace h := h.2 q3
      refine j_iconst hc dX6_kindOf_12 ?_
      exact j_iret hc hr (wlit 1 (by decide)) h dX6_kindOf_13
-- LitStrangers$Reader.advance()V
theorem dX6_advance_0 : decode cX6_advance 0 = .ok (.aload_n 0, 1) := by decide +kernel
theorem dX6_advance_1 : decode cX6_advance 1 = .ok (.aload_n 0, 1) := by decide +kernel
theorem dX6_advance_2 : decode cX6_advance 2 = .ok (.getfield 40, 3) := by decide +kernel
theorem dX6_advance_5 : decode cX6_advance 5 = .ok (.putfield 61, 3) := by decide +kernel
theorem dX6_advance_8 : decode cX6_advance 8 = .ok (.aload_n 0, 1) := by decide +kernel
theorem dX6_advance_9 : decode cX6_advance 9 = .ok (.getfield 61, 3) := by decide +kernel
theorem dX6_advance_12 : decode cX6_advance 12 = .ok (.aload_n 0, 1) := by decide +kernel
theorem dX6_advance_13 : decode cX6_advance 13 = .ok (.getfield 26, 3) := by decide +kernel
theorem dX6_advance_16 : decode cX6_advance 16 = .ok (.if_icmp .ge 30, 3) := by decide +kernel
theorem dX6_advance_19 : decode cX6_advance 19 = .ok (.aload_n 0, 1) := by decide +kernel
theorem dX6_advance_20 : decode cX6_advance 20 = .ok (.getfield 9, 3) := by decide +kernel
theorem dX6_advance_23 : decode cX6_advance 23 = .ok (.aload_n 0, 1) := by decide +kernel
theorem dX6_advance_24 : decode cX6_advance 24 = .ok (.getfield 61, 3) := by decide +kernel
theorem dX6_advance_27 : decode cX6_advance 27 = .ok (.iaload, 1) := by decide +kernel
theorem dX6_advance_28 : decode cX6_advance 28 = .ok (.bipush 32, 2) := by decide +kernel
theorem dX6_advance_30 : decode cX6_advance 30 = .ok (.if_icmp .ne 16, 3) := by decide +kernel
theorem dX6_advance_33 : decode cX6_advance 33 = .ok (.aload_n 0, 1) := by decide +kernel
theorem dX6_advance_34 : decode cX6_advance 34 = .ok (.dup, 1) := by decide +kernel
theorem dX6_advance_35 : decode cX6_advance 35 = .ok (.getfield 61, 3) := by decide +kernel
theorem dX6_advance_38 : decode cX6_advance 38 = .ok (.iconst 1, 1) := by decide +kernel
theorem dX6_advance_39 : decode cX6_advance 39 = .ok (.iadd, 1) := by decide +kernel
theorem dX6_advance_40 : decode cX6_advance 40 = .ok (.putfield 61, 3) := by decide +kernel
theorem dX6_advance_43 : decode cX6_advance 43 = .ok (.goto (-35), 3) := by decide +kernel
theorem dX6_advance_46 : decode cX6_advance 46 = .ok (.aload_n 0, 1) := by decide +kernel
theorem dX6_advance_47 : decode cX6_advance 47 = .ok (.aload_n 0, 1) := by decide +kernel
theorem dX6_advance_48 : decode cX6_advance 48 = .ok (.getfield 61, 3) := by decide +kernel
theorem dX6_advance_51 : decode cX6_advance 51 = .ok (.putfield 40, 3) := by decide +kernel
theorem dX6_advance_54 : decode cX6_advance 54 = .ok (.aload_n 0, 1) := by decide +kernel
theorem dX6_advance_55 : decode cX6_advance 55 = .ok (.iconst 0, 1) := by decide +kernel
theorem dX6_advance_56 : decode cX6_advance 56 = .ok (.putfield 101, 3) := by decide +kernel
theorem dX6_advance_59 : decode cX6_advance 59 = .ok (.aload_n 0, 1) := by decide +kernel
theorem dX6_advance_60 : decode cX6_advance 60 = .ok (.aload_n 0, 1) := by decide +kernel
theorem dX6_advance_61 : decode cX6_advance 61 = .ok (.getfield 61, 3) := by decide +kernel
theorem dX6_advance_64 : decode cX6_advance 64 = .ok (.aload_n 0, 1) := by decide +kernel
theorem dX6_advance_65 : decode cX6_advance 65 = .ok (.getfield 26, 3) := by decide +kernel
theorem dX6_advance_68 : decode cX6_advance 68 = .ok (.if_icmp .ge 18, 3) := by decide +kernel
theorem dX6_advance_71 : decode cX6_advance 71 = .ok (.aload_n 0, 1) := by decide +kernel
theorem dX6_advance_72 : decode cX6_advance 72 = .ok (.getfield 9, 3) := by decide +kernel
theorem dX6_advance_75 : decode cX6_advance 75 = .ok (.aload_n 0, 1) := by decide +kernel
theorem dX6_advance_76 : decode cX6_advance 76 = .ok (.getfield 61, 3) := by decide +kernel
theorem dX6_advance_79 : decode cX6_advance 79 = .ok (.iaload, 1) := by decide +kernel
theorem dX6_advance_80 : decode cX6_advance 80 = .ok (.invokestatic 160, 3) := by decide +kernel
theorem dX6_advance_83 : decode cX6_advance 83 = .ok (.goto 4, 3) := by decide +kernel
theorem dX6_advance_86 : decode cX6_advance 86 = .ok (.iconst 0, 1) := by decide +kernel
theorem dX6_advance_87 : decode cX6_advance 87 = .ok (.putfield 50, 3) := by decide +kernel
theorem dX6_advance_90 : decode cX6_advance 90 = .ok (.aload_n 0, 1) := by decide +kernel
theorem dX6_advance_91 : decode cX6_advance 91 = .ok (.getfield 40, 3) := by decide +kernel
theorem dX6_advance_94 : decode cX6_advance 94 = .ok (.aload_n 0, 1) := by decide +kernel
theorem dX6_advance_95 : decode cX6_advance 95 = .ok (.getfield 26, 3) := by decide +kernel
theorem dX6_advance_98 : decode cX6_advance 98 = .ok (.if_icmp .ge 92, 3) := by decide +kernel
theorem dX6_advance_101 : decode cX6_advance 101 = .ok (.aload_n 0, 1) := by decide +kernel
theorem dX6_advance_102 : decode cX6_advance 102 = .ok (.getfield 9, 3) := by decide +kernel
theorem dX6_advance_105 : decode cX6_advance 105 = .ok (.aload_n 0, 1) := by decide +kernel
theorem dX6_advance_106 : decode cX6_advance 106 = .ok (.getfield 40, 3) := by decide +kernel
theorem dX6_advance_109 : decode cX6_advance 109 = .ok (.iaload, 1) := by decide +kernel
theorem dX6_advance_110 : decode cX6_advance 110 = .ok (.invokestatic 160, 3) := by decide +kernel
theorem dX6_advance_113 : decode cX6_advance 113 = .ok (.aload_n 0, 1) := by decide +kernel
theorem dX6_advance_114 : decode cX6_advance 114 = .ok (.getfield 50, 3) := by decide +kernel
theorem dX6_advance_117 : decode cX6_advance 117 = .ok (.if_icmp .ne 73, 3) := by decide +kernel
theorem dX6_advance_120 : decode cX6_advance 120 = .ok (.aload_n 0, 1) := by decide +kernel
theorem dX6_advance_121 : decode cX6_advance 121 = .ok (.getfield 50, 3) := by decide +kernel
theorem dX6_advance_124 : decode cX6_advance 124 = .ok (.iconst 3, 1) := by decide +kernel
theorem dX6_advance_125 : decode cX6_advance 125 = .ok (.if_icmp .ne 14, 3) := by decide +kernel
theorem dX6_advance_128 : decode cX6_advance 128 = .ok (.aload_n 0, 1) := by decide +kernel
theorem dX6_advance_129 : decode cX6_advance 129 = .ok (.getfield 40, 3) := by decide +kernel
theorem dX6_advance_132 : decode cX6_advance 132 = .ok (.aload_n 0, 1) := by decide +kernel
theorem dX6_advance_133 : decode cX6_advance 133 = .ok (.getfield 61, 3) := by decide +kernel
theorem dX6_advance_136 : decode cX6_advance 136 = .ok (.if_icmp .ne 54, 3) := by decide +kernel
theorem dX6_advance_139 : decode cX6_advance 139 = .ok (.aload_n 0, 1) := by decide +kernel
theorem dX6_advance_140 : decode cX6_advance 140 = .ok (.getfield 50, 3) := by decide +kernel
theorem dX6_advance_143 : decode cX6_advance 143 = .ok (.iconst 2, 1) := by decide +kernel
theorem dX6_advance_144 : decode cX6_advance 144 = .ok (.if_icmp .ne 33, 3) := by decide +kernel
theorem dX6_advance_147 : decode cX6_advance 147 = .ok (.aload_n 0, 1) := by decide +kernel
theorem dX6_advance_148 : decode cX6_advance 148 = .ok (.aload_n 0, 1) := by decide +kernel
theorem dX6_advance_149 : decode cX6_advance 149 = .ok (.getfield 101, 3) := by decide +kernel
theorem dX6_advance_152 : decode cX6_advance 152 = .ok (.bipush 10, 2) := by decide +kernel
theorem dX6_advance_154 : decode cX6_advance 154 = .ok (.imul, 1) := by decide +kernel
theorem dX6_advance_155 : decode cX6_advance 155 = .ok (.aload_n 0, 1) := by decide +kernel
theorem dX6_advance_156 : decode cX6_advance 156 = .ok (.getfield 9, 3) := by decide +kernel
theorem dX6_advance_159 : decode cX6_advance 159 = .ok (.aload_n 0, 1) := by decide +kernel
theorem dX6_advance_160 : decode cX6_advance 160 = .ok (.getfield 40, 3) := by decide +kernel
theorem dX6_advance_163 : decode cX6_advance 163 = .ok (.iaload, 1) := by decide +kernel
theorem dX6_advance_164 : decode cX6_advance 164 = .ok (.iadd, 1) := by decide +kernel
theorem dX6_advance_165 : decode cX6_advance 165 = .ok (.bipush 48, 2) := by decide +kernel
theorem dX6_advance_167 : decode cX6_advance 167 = .ok (.isub, 1) := by decide +kernel
theorem dX6_advance_168 : decode cX6_advance 168 = .ok (.sipush 1001, 3) := by decide +kernel
theorem dX6_advance_171 : decode cX6_advance 171 = .ok (.invokestatic 163, 3) := by decide +kernel
theorem dX6_advance_174 : decode cX6_advance 174 = .ok (.putfield 101, 3) := by decide +kernel
theorem dX6_advance_177 : decode cX6_advance 177 = .ok (.aload_n 0, 1) := by decide +kernel
theorem dX6_advance_178 : decode cX6_advance 178 = .ok (.dup, 1) := by decide +kernel
theorem dX6_advance_179 : decode cX6_advance 179 = .ok (.getfield 40, 3) := by decide +kernel
theorem dX6_advance_182 : decode cX6_advance 182 = .ok (.iconst 1, 1) := by decide +kernel
theorem dX6_advance_183 : decode cX6_advance 183 = .ok (.iadd, 1) := by decide +kernel
theorem dX6_advance_184 : decode cX6_advance 184 = .ok (.putfield 40, 3) := by decide +kernel
theorem dX6_advance_187 : decode cX6_advance 187 = .ok (.goto (-97), 3) := by decide +kernel
theorem dX6_advance_190 : decode cX6_advance 190 = .ok (.return_, 1) := by decide +kernel
def B_X6_advance_177 (Q : st_S → Prop)  (k90 : st_S → Prop)  (σ : st_S) : Prop := ∀ x49 : Int, x49 = wr (gI σ 12 7 + 1) → ∀ s50 : st_S, s50 = sI σ 12 7 x49 → k90 s50
def B_X6_advance_139 (Q : st_S → Prop)  (k90 : st_S → Prop)  (σ : st_S) : Prop := (¬ gI σ 12 5 = 2 → B_X6_advance_177 Q k90 σ) ∧ (gI σ 12 5 = 2 → ix (gI σ 12 7) 400 ∧ ∀ s57 : st_S, s57 = sI σ 12 8 (o_min (wr (((gI σ 12 8 * 10) + gI σ 13 (Int.toNat (gI σ 12 7))) - 48)) 1001) → B_X6_advance_177 Q k90 s57)
def B_X6_advance_190 (Q : st_S → Prop)    (σ : st_S) : Prop := Q σ
def L_X6_advance_90 (Q : st_S → Prop)   : Nat → st_S → Prop
  | 0 => fun  _ => False
  | n + 1 => fun  σ => (gI σ 12 1 ≤ gI σ 12 7 → B_X6_advance_190 Q σ) ∧ (¬ gI σ 12 1 ≤ gI σ 12 7 → ix (gI σ 12 7) 400 ∧ wp_X6_kindOf (gI σ 13 (Int.toNat (gI σ 12 7))) σ (fun r64 s65 => (¬ r64 = gI s65 12 5 → B_X6_advance_190 Q s65) ∧ (r64 = gI s65 12 5 → (¬ gI s65 12 5 = 3 → B_X6_advance_139 Q (L_X6_advance_90 Q n) s65) ∧ (gI s65 12 5 = 3 → (¬ gI s65 12 7 = gI s65 12 6 → B_X6_advance_190 Q s65) ∧ (gI s65 12 7 = gI s65 12 6 → B_X6_advance_139 Q (L_X6_advance_90 Q n) s65)))))
def B_X6_advance_87 (Q : st_S → Prop)   (v0 : Int) (σ : st_S) : Prop := ∀ s74 : st_S, s74 = sI σ 12 5 v0 → ∃ m90 : Nat, L_X6_advance_90 Q m90 s74
def B_X6_advance_46 (Q : st_S → Prop)    (σ : st_S) : Prop := ∀ s76 : st_S, s76 = sI σ 12 7 (gI σ 12 6) → ∀ s77 : st_S, s77 = sI s76 12 8 0 → (gI s77 12 1 ≤ gI s77 12 6 → B_X6_advance_87 Q 0 s77) ∧ (¬ gI s77 12 1 ≤ gI s77 12 6 → ix (gI s77 12 6) 400 ∧ wp_X6_kindOf (gI s77 13 (Int.toNat (gI s77 12 6))) s77 (fun r83 s84 => B_X6_advance_87 Q r83 s84))
def L_X6_advance_8 (Q : st_S → Prop)   : Nat → st_S → Prop
  | 0 => fun  _ => False
  | n + 1 => fun  σ => (gI σ 12 1 ≤ gI σ 12 6 → B_X6_advance_46 Q σ) ∧ (¬ gI σ 12 1 ≤ gI σ 12 6 → ix (gI σ 12 6) 400 ∧ (¬ gI σ 13 (Int.toNat (gI σ 12 6)) = 32 → B_X6_advance_46 Q σ) ∧ (gI σ 13 (Int.toNat (gI σ 12 6)) = 32 → ∀ x92 : Int, x92 = wr (gI σ 12 6 + 1) → ∀ s93 : st_S, s93 = sI σ 12 6 x92 → (L_X6_advance_8 Q n) s93))
def wp_X6_advance  (σ : st_S) (Q : st_S → Prop) : Prop := ∀ s97 : st_S, s97 = sI σ 12 6 (gI σ 12 7) → ∃ m8 : Nat, L_X6_advance_8 Q m8 s97
set_option maxRecDepth 20000 in
theorem jb_X6_advance_177 {X : jj_X} {E : ev_E} {n0 hN : Nat} (hc : Cx X E cX6_advance 1 n0 hN RX6) (hm : eM E = 1) (hr : (xT X).sig.returnType = none) (hh : 2 ≤ hN) {Q : st_S → Prop} {k90 : st_S → Prop} (hk90 : ∀ {σ : st_S}, k90 σ → J X E 1 n0 0 0 (MQ (xB X) (qV E (n0 + 0) Q) (xA X) (xS X) 0 0 (eF E)) σ 90 [(0, vR E 12)] []) {σ : st_S} (h : B_X6_advance_177 Q k90 σ) : J X E 1 n0 0 0 (MQ (xB X) (qV E (n0 + 0) Q) (xA X) (xS X) 0 0 (eF E)) σ 177 [(0, vR E 12)] [] := by
  have hh1 : 1 ≤ hN := by omega
  replace h : ∀ x49 : Int, x49 = wr (gI σ 12 7 + 1) → ∀ s50 : st_S, s50 = sI σ 12 7 x49 → k90 s50 := h
  refine j_aload_nR hc 0 dX6_advance_177 rfl rfl ?_
  refine j_dup hc dX6_advance_178 rfl ?_
  refine j_getI hc fl_RX6_40 (Or.inl rfl) (fun hv => Or.inl (sv_k hv hm rfl)) dX6_advance_179 (fun cn48 => ?_)
  refine j_iconst hc dX6_advance_182 ?_
  refine j_iadd hc dX6_advance_183 ?_
  refine j_w (fun x49 ex49 cx49 => ?_)
  replace h := h x49 ex49
  refine j_putI hc fl_RX6_40 rfl rfl (fun hv => Or.inl (sv_k hv hm rfl)) cx49 dX6_advance_184 (fun s50 es50 => ?_)
  replace h := h s50 es50
  refine j_goto (tgt := 90) hc dX6_advance_187 (by decide) ?_
  refine j_sub (lv' := [(0, vR E 12)]) [0] rfl ?_
  exact hk90 h
set_option maxRecDepth 20000 in
theorem jb_X6_advance_139 {X : jj_X} {E : ev_E} {n0 hN : Nat} (hc : Cx X E cX6_advance 1 n0 hN RX6) (hm : eM E = 1) (hr : (xT X).sig.returnType = none) (hh : 2 ≤ hN) {Q : st_S → Prop} {k90 : st_S → Prop} (hk90 : ∀ {σ : st_S}, k90 σ → J X E 1 n0 0 0 (MQ (xB X) (qV E (n0 + 0) Q) (xA X) (xS X) 0 0 (eF E)) σ 90 [(0, vR E 12)] []) {σ : st_S} (h : B_X6_advance_139 Q k90 σ) : J X E 1 n0 0 0 (MQ (xB X) (qV E (n0 + 0) Q) (xA X) (xS X) 0 0 (eF E)) σ 139 [(0, vR E 12)] [] := by
  have hh1 : 1 ≤ hN := by omega
  replace h : (¬ gI σ 12 5 = 2 → B_X6_advance_177 Q k90 σ) ∧ (gI σ 12 5 = 2 → ix (gI σ 12 7) 400 ∧ ∀ s57 : st_S, s57 = sI σ 12 8 (o_min (wr (((gI σ 12 8 * 10) + gI σ 13 (Int.toNat (gI σ 12 7))) - 48)) 1001) → B_X6_advance_177 Q k90 s57) := h
  refine j_aload_nR hc 0 dX6_advance_139 rfl rfl ?_
  refine j_getI hc fl_RX6_50 (Or.inl rfl) (fun hv => Or.inl (sv_k hv hm rfl)) dX6_advance_140 (fun cn51 => ?_)
  refine j_iconst hc dX6_advance_143 ?_
  refine j_ic_ne hc cn51 (wlit 2 (by decide)) (tgt := 177) dX6_advance_144 (by decide) (fun q58 => ?_) (fun q58 => ?_)
  · replace h := h.1 q58
    refine j_sub (lv' := [(0, vR E 12)]) [0] rfl ?_
    exact jb_X6_advance_177 hc hm hr hh hk90 h
  · replace h := h.2 q58
    refine j_aload_nR hc 0 dX6_advance_147 rfl rfl ?_
    refine j_aload_nR hc 0 dX6_advance_148 rfl rfl ?_
    refine j_getI hc fl_RX6_101 (Or.inl rfl) (fun hv => Or.inl (sv_k hv hm rfl)) dX6_advance_149 (fun cn52 => ?_)
    refine j_bipush hc dX6_advance_152 (by decide) ?_
    refine j_imul hc dX6_advance_154 ?_
    refine j_aload_nR hc 0 dX6_advance_155 rfl rfl ?_
    refine j_getR (c' := 13) hc fl_RX6_9 rfl rfl (fun hv => (sv_k hv hm rfl)) dX6_advance_156 ?_
    refine j_aload_nR hc 0 dX6_advance_159 rfl rfl ?_
    refine j_getI hc fl_RX6_40 (Or.inl rfl) (fun hv => Or.inl (sv_k hv hm rfl)) dX6_advance_160 (fun cn53 => ?_)
    obtain ⟨b54, h⟩ := h
    refine j_iald (jn := (Int.toNat (gI σ 12 7))) hc (fun hv => sv_kl hv hm rfl) cn53 b54 rfl dX6_advance_163 (fun cn55 => ?_)
    refine j_iadd hc dX6_advance_164 ?_
    refine j_bipush hc dX6_advance_165 (by decide) ?_
    refine j_isub hc dX6_advance_167 ?_
    refine j_sipush hc dX6_advance_168 (by decide) ?_
    refine j_mmin hc mm_RX6_163 hh1 rfl (wlit 1001 (by decide)) (Nat.le_of_ble_eq_true rfl) ⟨Nat.zero_le _, Nat.zero_le _⟩ dX6_advance_171 (fun cn56 => ?_)
    refine j_putI hc fl_RX6_101 rfl rfl (fun hv => Or.inl (sv_k hv hm rfl)) cn56 dX6_advance_174 (fun s57 es57 => ?_)
    replace h := h s57 es57
    refine j_sub (lv' := [(0, vR E 12)]) [0] rfl ?_
    exact jb_X6_advance_177 hc hm hr hh hk90 h
set_option maxRecDepth 20000 in
theorem jb_X6_advance_190 {X : jj_X} {E : ev_E} {n0 hN : Nat} (hc : Cx X E cX6_advance 1 n0 hN RX6) (hm : eM E = 1) (hr : (xT X).sig.returnType = none) (hh : 2 ≤ hN) {Q : st_S → Prop} {σ : st_S} (h : B_X6_advance_190 Q σ) : J X E 1 n0 0 0 (MQ (xB X) (qV E (n0 + 0) Q) (xA X) (xS X) 0 0 (eF E)) σ 190 [] [] := by
  have hh1 : 1 ≤ hN := by omega
  replace h : Q σ := h
  exact j_vret hc hr h dX6_advance_190
set_option maxRecDepth 20000 in
theorem jl_X6_advance_90 {X : jj_X} {E : ev_E} {n0 hN : Nat} (hc : Cx X E cX6_advance 1 n0 hN RX6) (hm : eM E = 1) (hr : (xT X).sig.returnType = none) (hh : 2 ≤ hN) {Q : st_S → Prop} : ∀ (n : Nat) {σ : st_S}, L_X6_advance_90 Q n σ → J X E 1 n0 0 0 (MQ (xB X) (qV E (n0 + 0) Q) (xA X) (xS X) 0 0 (eF E)) σ 90 [(0, vR E 12)] [] := by
  have hh1 : 1 ≤ hN := by omega
  intro n
  induction n with
  | zero => intro  σ h; exact h.elim
  | succ n ih =>
    intro  σ h
    have hk90 : ∀ {σ : st_S}, L_X6_advance_90 Q n σ → J X E 1 n0 0 0 (MQ (xB X) (qV E (n0 + 0) Q) (xA X) (xS X) 0 0 (eF E)) σ 90 [(0, vR E 12)] [] := ih
    replace h : (gI σ 12 1 ≤ gI σ 12 7 → B_X6_advance_190 Q σ) ∧ (¬ gI σ 12 1 ≤ gI σ 12 7 → ix (gI σ 12 7) 400 ∧ wp_X6_kindOf (gI σ 13 (Int.toNat (gI σ 12 7))) σ (fun r64 s65 => (¬ r64 = gI s65 12 5 → B_X6_advance_190 Q s65) ∧ (r64 = gI s65 12 5 → (¬ gI s65 12 5 = 3 → B_X6_advance_139 Q (L_X6_advance_90 Q n) s65) ∧ (gI s65 12 5 = 3 → (¬ gI s65 12 7 = gI s65 12 6 → B_X6_advance_190 Q s65) ∧ (gI s65 12 7 = gI s65 12 6 → B_X6_advance_139 Q (L_X6_advance_90 Q n) s65))))) := h
    refine j_aload_nR hc 0 dX6_advance_90 rfl rfl ?_
    refine j_getI hc fl_RX6_40 (Or.inl rfl) (fun hv => Or.inl (sv_k hv hm rfl)) dX6_advance_91 (fun cn59 => ?_)
    refine j_aload_nR hc 0 dX6_advance_94 rfl rfl ?_
    refine j_getI hc fl_RX6_26 (Or.inl rfl) (fun hv => Or.inl (sv_k hv hm rfl)) dX6_advance_95 (fun cn60 => ?_)
    refine j_ic_ge hc cn59 cn60 (tgt := 190) dX6_advance_98 (by decide) (fun q73 => ?_) (fun q73 => ?_)
    · replace h := h.1 q73
      refine j_sub (lv' := []) [] rfl ?_
      exact jb_X6_advance_190 hc hm hr hh h
    · replace h := h.2 q73
      refine j_aload_nR hc 0 dX6_advance_101 rfl rfl ?_
      refine j_getR (c' := 13) hc fl_RX6_9 rfl rfl (fun hv => (sv_k hv hm rfl)) dX6_advance_102 ?_
      refine j_aload_nR hc 0 dX6_advance_105 rfl rfl ?_
      refine j_getI hc fl_RX6_40 (Or.inl rfl) (fun hv => Or.inl (sv_k hv hm rfl)) dX6_advance_106 (fun cn61 => ?_)
      obtain ⟨b62, h⟩ := h
      refine j_iald (jn := (Int.toNat (gI σ 12 7))) hc (fun hv => sv_kl hv hm rfl) cn61 b62 rfl dX6_advance_109 (fun cn63 => ?_)
      refine j_sI hc ml_RX6_160 mv_X6_kindOf (As := [vI (gI σ 13 (Int.toNat (gI σ 12 7)))]) (c_X6_kindOf (cx_E hc) hm cn63 h) rfl (by omega) (by decide) ⟨Nat.zero_le _, Nat.zero_le _⟩ (Nat.le_of_ble_eq_true rfl) rfl dX6_advance_110 (fun r64 s65 cr64 h => ?_)
      refine j_aload_nR hc 0 dX6_advance_113 rfl rfl ?_
      refine j_getI hc fl_RX6_50 (Or.inl rfl) (fun hv => Or.inl (sv_k hv hm rfl)) dX6_advance_114 (fun cn66 => ?_)
      refine j_ic_ne hc cr64 cn66 (tgt := 190) dX6_advance_117 (by decide) (fun q72 => ?_) (fun q72 => ?_)
      · replace h := h.1 q72
        refine j_sub (lv' := []) [] rfl ?_
        exact jb_X6_advance_190 hc hm hr hh h
      · replace h := h.2 q72
        refine j_aload_nR hc 0 dX6_advance_120 rfl rfl ?_
        refine j_getI hc fl_RX6_50 (Or.inl rfl) (fun hv => Or.inl (sv_k hv hm rfl)) dX6_advance_121 (fun cn67 => ?_)
        refine j_iconst hc dX6_advance_124 ?_
        refine j_ic_ne hc cn67 (wlit 3 (by decide)) (tgt := 139) dX6_advance_125 (by decide) (fun q71 => ?_) (fun q71 => ?_)
        · replace h := h.1 q71
          refine j_sub (lv' := [(0, vR E 12)]) [0] rfl ?_
          exact jb_X6_advance_139 hc hm hr hh hk90 h
        · replace h := h.2 q71
          refine j_aload_nR hc 0 dX6_advance_128 rfl rfl ?_
          refine j_getI hc fl_RX6_40 (Or.inl rfl) (fun hv => Or.inl (sv_k hv hm rfl)) dX6_advance_129 (fun cn68 => ?_)
          refine j_aload_nR hc 0 dX6_advance_132 rfl rfl ?_
          refine j_getI hc fl_RX6_61 (Or.inl rfl) (fun hv => Or.inl (sv_k hv hm rfl)) dX6_advance_133 (fun cn69 => ?_)
          refine j_ic_ne hc cn68 cn69 (tgt := 190) dX6_advance_136 (by decide) (fun q70 => ?_) (fun q70 => ?_)
          · replace h := h.1 q70
            refine j_sub (lv' := []) [] rfl ?_
            exact jb_X6_advance_190 hc hm hr hh h
          · replace h := h.2 q70
            refine j_sub (lv' := [(0, vR E 12)]) [0] rfl ?_
            exact jb_X6_advance_139 hc hm hr hh hk90 h
set_option maxRecDepth 20000 in
theorem jb_X6_advance_87 {X : jj_X} {E : ev_E} {n0 hN : Nat} (hc : Cx X E cX6_advance 1 n0 hN RX6) (hm : eM E = 1) (hr : (xT X).sig.returnType = none) (hh : 2 ≤ hN) {Q : st_S → Prop} {v0 : Int} (cv0 : wr v0 = v0) {σ : st_S} (h : B_X6_advance_87 Q v0 σ) : J X E 1 n0 0 0 (MQ (xB X) (qV E (n0 + 0) Q) (xA X) (xS X) 0 0 (eF E)) σ 87 [(0, vR E 12)] [vI v0, vR E 12] := by
  have hh1 : 1 ≤ hN := by omega
  replace h : ∀ s74 : st_S, s74 = sI σ 12 5 v0 → ∃ m90 : Nat, L_X6_advance_90 Q m90 s74 := h
  refine j_putI hc fl_RX6_50 rfl rfl (fun hv => Or.inl (sv_k hv hm rfl)) cv0 dX6_advance_87 (fun s74 es74 => ?_)
  replace h := h s74 es74
  obtain ⟨n90, h⟩ := h
  refine j_sub (lv' := [(0, vR E 12)]) [0] rfl ?_
  exact jl_X6_advance_90 hc hm hr hh n90 h
set_option maxRecDepth 20000 in
theorem jb_X6_advance_46 {X : jj_X} {E : ev_E} {n0 hN : Nat} (hc : Cx X E cX6_advance 1 n0 hN RX6) (hm : eM E = 1) (hr : (xT X).sig.returnType = none) (hh : 2 ≤ hN) {Q : st_S → Prop} {σ : st_S} (h : B_X6_advance_46 Q σ) : J X E 1 n0 0 0 (MQ (xB X) (qV E (n0 + 0) Q) (xA X) (xS X) 0 0 (eF E)) σ 46 [(0, vR E 12)] [] := by
  have hh1 : 1 ≤ hN := by omega
  replace h : ∀ s76 : st_S, s76 = sI σ 12 7 (gI σ 12 6) → ∀ s77 : st_S, s77 = sI s76 12 8 0 → (gI s77 12 1 ≤ gI s77 12 6 → B_X6_advance_87 Q 0 s77) ∧ (¬ gI s77 12 1 ≤ gI s77 12 6 → ix (gI s77 12 6) 400 ∧ wp_X6_kindOf (gI s77 13 (Int.toNat (gI s77 12 6))) s77 (fun r83 s84 => B_X6_advance_87 Q r83 s84)) := h
  refine j_aload_nR hc 0 dX6_advance_46 rfl rfl ?_
  refine j_aload_nR hc 0 dX6_advance_47 rfl rfl ?_
  refine j_getI hc fl_RX6_61 (Or.inl rfl) (fun hv => Or.inl (sv_k hv hm rfl)) dX6_advance_48 (fun cn75 => ?_)
  refine j_putI hc fl_RX6_40 rfl rfl (fun hv => Or.inl (sv_k hv hm rfl)) cn75 dX6_advance_51 (fun s76 es76 => ?_)
  replace h := h s76 es76
  refine j_aload_nR hc 0 dX6_advance_54 rfl rfl ?_
  refine j_iconst hc dX6_advance_55 ?_
  refine j_putI hc fl_RX6_101 rfl rfl (fun hv => Or.inl (sv_k hv hm rfl)) (wlit 0 (by decide)) dX6_advance_56 (fun s77 es77 => ?_)
  replace h := h s77 es77
  refine j_aload_nR hc 0 dX6_advance_59 rfl rfl ?_
  refine j_aload_nR hc 0 dX6_advance_60 rfl rfl ?_
  refine j_getI hc fl_RX6_61 (Or.inl rfl) (fun hv => Or.inl (sv_k hv hm rfl)) dX6_advance_61 (fun cn78 => ?_)
  refine j_aload_nR hc 0 dX6_advance_64 rfl rfl ?_
  refine j_getI hc fl_RX6_26 (Or.inl rfl) (fun hv => Or.inl (sv_k hv hm rfl)) dX6_advance_65 (fun cn79 => ?_)
  refine j_ic_ge hc cn78 cn79 (tgt := 86) dX6_advance_68 (by decide) (fun q85 => ?_) (fun q85 => ?_)
  · replace h := h.1 q85
    refine j_iconst hc dX6_advance_86 ?_
    refine j_sub (lv' := [(0, vR E 12)]) [0] rfl ?_
    exact jb_X6_advance_87 hc hm hr hh (wlit 0 (by decide)) h
  · replace h := h.2 q85
    refine j_aload_nR hc 0 dX6_advance_71 rfl rfl ?_
    refine j_getR (c' := 13) hc fl_RX6_9 rfl rfl (fun hv => (sv_k hv hm rfl)) dX6_advance_72 ?_
    refine j_aload_nR hc 0 dX6_advance_75 rfl rfl ?_
    refine j_getI hc fl_RX6_61 (Or.inl rfl) (fun hv => Or.inl (sv_k hv hm rfl)) dX6_advance_76 (fun cn80 => ?_)
    obtain ⟨b81, h⟩ := h
    refine j_iald (jn := (Int.toNat (gI s77 12 6))) hc (fun hv => sv_kl hv hm rfl) cn80 b81 rfl dX6_advance_79 (fun cn82 => ?_)
    refine j_sI hc ml_RX6_160 mv_X6_kindOf (As := [vI (gI s77 13 (Int.toNat (gI s77 12 6)))]) (c_X6_kindOf (cx_E hc) hm cn82 h) rfl (by omega) (by decide) ⟨Nat.zero_le _, Nat.zero_le _⟩ (Nat.le_of_ble_eq_true rfl) rfl dX6_advance_80 (fun r83 s84 cr83 h => ?_)
    refine j_goto (tgt := 87) hc dX6_advance_83 (by decide) ?_
    refine j_sub (lv' := [(0, vR E 12)]) [0] rfl ?_
    exact jb_X6_advance_87 hc hm hr hh cr83 h
set_option maxRecDepth 20000 in
theorem jl_X6_advance_8 {X : jj_X} {E : ev_E} {n0 hN : Nat} (hc : Cx X E cX6_advance 1 n0 hN RX6) (hm : eM E = 1) (hr : (xT X).sig.returnType = none) (hh : 2 ≤ hN) {Q : st_S → Prop} : ∀ (n : Nat) {σ : st_S}, L_X6_advance_8 Q n σ → J X E 1 n0 0 0 (MQ (xB X) (qV E (n0 + 0) Q) (xA X) (xS X) 0 0 (eF E)) σ 8 [(0, vR E 12)] [] := by
  have hh1 : 1 ≤ hN := by omega
  intro n
  induction n with
  | zero => intro  σ h; exact h.elim
  | succ n ih =>
    intro  σ h
    have hk8 : ∀ {σ : st_S}, L_X6_advance_8 Q n σ → J X E 1 n0 0 0 (MQ (xB X) (qV E (n0 + 0) Q) (xA X) (xS X) 0 0 (eF E)) σ 8 [(0, vR E 12)] [] := ih
    replace h : (gI σ 12 1 ≤ gI σ 12 6 → B_X6_advance_46 Q σ) ∧ (¬ gI σ 12 1 ≤ gI σ 12 6 → ix (gI σ 12 6) 400 ∧ (¬ gI σ 13 (Int.toNat (gI σ 12 6)) = 32 → B_X6_advance_46 Q σ) ∧ (gI σ 13 (Int.toNat (gI σ 12 6)) = 32 → ∀ x92 : Int, x92 = wr (gI σ 12 6 + 1) → ∀ s93 : st_S, s93 = sI σ 12 6 x92 → (L_X6_advance_8 Q n) s93)) := h
    refine j_aload_nR hc 0 dX6_advance_8 rfl rfl ?_
    refine j_getI hc fl_RX6_61 (Or.inl rfl) (fun hv => Or.inl (sv_k hv hm rfl)) dX6_advance_9 (fun cn86 => ?_)
    refine j_aload_nR hc 0 dX6_advance_12 rfl rfl ?_
    refine j_getI hc fl_RX6_26 (Or.inl rfl) (fun hv => Or.inl (sv_k hv hm rfl)) dX6_advance_13 (fun cn87 => ?_)
    refine j_ic_ge hc cn86 cn87 (tgt := 46) dX6_advance_16 (by decide) (fun q95 => ?_) (fun q95 => ?_)
    · replace h := h.1 q95
      refine j_sub (lv' := [(0, vR E 12)]) [0] rfl ?_
      exact jb_X6_advance_46 hc hm hr hh h
    · replace h := h.2 q95
      refine j_aload_nR hc 0 dX6_advance_19 rfl rfl ?_
      refine j_getR (c' := 13) hc fl_RX6_9 rfl rfl (fun hv => (sv_k hv hm rfl)) dX6_advance_20 ?_
      refine j_aload_nR hc 0 dX6_advance_23 rfl rfl ?_
      refine j_getI hc fl_RX6_61 (Or.inl rfl) (fun hv => Or.inl (sv_k hv hm rfl)) dX6_advance_24 (fun cn88 => ?_)
      obtain ⟨b89, h⟩ := h
      refine j_iald (jn := (Int.toNat (gI σ 12 6))) hc (fun hv => sv_kl hv hm rfl) cn88 b89 rfl dX6_advance_27 (fun cn90 => ?_)
      refine j_bipush hc dX6_advance_28 (by decide) ?_
      refine j_ic_ne hc cn90 (wlit 32 (by decide)) (tgt := 46) dX6_advance_30 (by decide) (fun q94 => ?_) (fun q94 => ?_)
      · replace h := h.1 q94
        refine j_sub (lv' := [(0, vR E 12)]) [0] rfl ?_
        exact jb_X6_advance_46 hc hm hr hh h
      · replace h := h.2 q94
        refine j_aload_nR hc 0 dX6_advance_33 rfl rfl ?_
        refine j_dup hc dX6_advance_34 rfl ?_
        refine j_getI hc fl_RX6_61 (Or.inl rfl) (fun hv => Or.inl (sv_k hv hm rfl)) dX6_advance_35 (fun cn91 => ?_)
        refine j_iconst hc dX6_advance_38 ?_
        refine j_iadd hc dX6_advance_39 ?_
        refine j_w (fun x92 ex92 cx92 => ?_)
        replace h := h x92 ex92
        refine j_putI hc fl_RX6_61 rfl rfl (fun hv => Or.inl (sv_k hv hm rfl)) cx92 dX6_advance_40 (fun s93 es93 => ?_)
        replace h := h s93 es93
        refine j_goto (tgt := 8) hc dX6_advance_43 (by decide) ?_
        refine j_sub (lv' := [(0, vR E 12)]) [0] rfl ?_
        exact hk8 h
set_option maxRecDepth 20000 in
theorem c_X6_advance {l : Launch} {E : ev_E} (hE : Eok E) (hm : eM E = 1) {σ : st_S} {Q : st_S → Prop} (h : wp_X6_advance σ Q) : cM l yX6_advance cX6_advance 1 none E 2 0 0 [vR E 12] σ (qV E (gN σ + 0) Q) := by
  refine cM_of (lv := [(0, vR E 12)]) (by decide) hE (Nat.le_of_ble_eq_true rfl) (rfl) ?_
  intro X hX hc _ _ hr _ _
  subst hX
  have hh : 2 ≤ 2 := Nat.le_refl _
  have hh1 : 1 ≤ 2 := by omega
  replace h : ∀ s97 : st_S, s97 = sI σ 12 6 (gI σ 12 7) → ∃ m8 : Nat, L_X6_advance_8 Q m8 s97 := h
  refine j_aload_nR hc 0 dX6_advance_0 rfl rfl ?_
  refine j_aload_nR hc 0 dX6_advance_1 rfl rfl ?_
  refine j_getI hc fl_RX6_40 (Or.inl rfl) (fun hv => Or.inl (sv_k hv hm rfl)) dX6_advance_2 (fun cn96 => ?_)
  refine j_putI hc fl_RX6_61 rfl rfl (fun hv => Or.inl (sv_k hv hm rfl)) cn96 dX6_advance_5 (fun s97 es97 => ?_)
  replace h := h s97 es97
  obtain ⟨n8, h⟩ := h
  refine j_sub (lv' := [(0, vR E 12)]) [0] rfl ?_
  exact jl_X6_advance_8 hc hm hr hh n8 h
-- LitStrangers$Reader.fail()Z
theorem dX6_fail_0 : decode cX6_fail 0 = .ok (.aload_n 0, 1) := by decide +kernel
theorem dX6_fail_1 : decode cX6_fail 1 = .ok (.aload_n 0, 1) := by decide +kernel
theorem dX6_fail_2 : decode cX6_fail 2 = .ok (.getfield 61, 3) := by decide +kernel
theorem dX6_fail_5 : decode cX6_fail 5 = .ok (.putfield 22, 3) := by decide +kernel
theorem dX6_fail_8 : decode cX6_fail 8 = .ok (.iconst 0, 1) := by decide +kernel
theorem dX6_fail_9 : decode cX6_fail 9 = .ok (.ireturn, 1) := by decide +kernel
def wp_X6_fail  (σ : st_S) (Q : Int → st_S → Prop) : Prop := ∀ s5 : st_S, s5 = sI σ 12 3 (gI σ 12 6) → Q 0 s5
set_option maxRecDepth 20000 in
theorem c_X6_fail {l : Launch} {E : ev_E} (hE : Eok E) (hm : eM E = 1) {σ : st_S} {Q : Int → st_S → Prop} (h : wp_X6_fail σ Q) : cM l yX6_fail cX6_fail 1 (some .boolean) E 1 0 0 [vR E 12] σ (qI E (gN σ + 0) Q) := by
  refine cM_of (lv := [(0, vR E 12)]) (by decide) hE (Nat.le_of_ble_eq_true rfl) (rfl) ?_
  intro X hX hc _ _ hr _ _
  subst hX
  have hh : 1 ≤ 1 := Nat.le_refl _
  have hh1 : 1 ≤ 1 := by omega
  replace h : ∀ s5 : st_S, s5 = sI σ 12 3 (gI σ 12 6) → Q 0 s5 := h
  refine j_aload_nR hc 0 dX6_fail_0 rfl rfl ?_
  refine j_aload_nR hc 0 dX6_fail_1 rfl rfl ?_
  refine j_getI hc fl_RX6_61 (Or.inl rfl) (fun hv => Or.inl (sv_k hv hm rfl)) dX6_fail_2 (fun cn4 => ?_)
  refine j_putI hc fl_RX6_22 rfl rfl (fun hv => Or.inl (sv_k hv hm rfl)) cn4 dX6_fail_5 (fun s5 es5 => ?_)
  replace h := h s5 es5
  refine j_iconst hc dX6_fail_8 ?_
  exact j_zret hc hr (nar_bool (Or.inl rfl)) (by decide) h dX6_fail_9
-- LitStrangers$Reader.sign()I
theorem dX6_sign_0 : decode cX6_sign 0 = .ok (.aload_n 0, 1) := by decide +kernel
theorem dX6_sign_1 : decode cX6_sign 1 = .ok (.getfield 61, 3) := by decide +kernel
theorem dX6_sign_4 : decode cX6_sign 4 = .ok (.ifCond .lt 26, 3) := by decide +kernel
theorem dX6_sign_7 : decode cX6_sign 7 = .ok (.aload_n 0, 1) := by decide +kernel
theorem dX6_sign_8 : decode cX6_sign 8 = .ok (.getfield 61, 3) := by decide +kernel
theorem dX6_sign_11 : decode cX6_sign 11 = .ok (.aload_n 0, 1) := by decide +kernel
theorem dX6_sign_12 : decode cX6_sign 12 = .ok (.getfield 26, 3) := by decide +kernel
theorem dX6_sign_15 : decode cX6_sign 15 = .ok (.if_icmp .ge 15, 3) := by decide +kernel
theorem dX6_sign_18 : decode cX6_sign 18 = .ok (.aload_n 0, 1) := by decide +kernel
theorem dX6_sign_19 : decode cX6_sign 19 = .ok (.getfield 9, 3) := by decide +kernel
theorem dX6_sign_22 : decode cX6_sign 22 = .ok (.aload_n 0, 1) := by decide +kernel
theorem dX6_sign_23 : decode cX6_sign 23 = .ok (.getfield 61, 3) := by decide +kernel
theorem dX6_sign_26 : decode cX6_sign 26 = .ok (.iaload, 1) := by decide +kernel
theorem dX6_sign_27 : decode cX6_sign 27 = .ok (.goto 4, 3) := by decide +kernel
theorem dX6_sign_30 : decode cX6_sign 30 = .ok (.iconst 0, 1) := by decide +kernel
theorem dX6_sign_31 : decode cX6_sign 31 = .ok (.ireturn, 1) := by decide +kernel
def B_X6_sign_31 (Q : Int → st_S → Prop)   (v0 : Int) (σ : st_S) : Prop := Q v0 σ
def B_X6_sign_30 (Q : Int → st_S → Prop)    (σ : st_S) : Prop := B_X6_sign_31 Q 0 σ
def wp_X6_sign  (σ : st_S) (Q : Int → st_S → Prop) : Prop := (gI σ 12 6 < 0 → B_X6_sign_30 Q σ) ∧ (¬ gI σ 12 6 < 0 → (gI σ 12 1 ≤ gI σ 12 6 → B_X6_sign_30 Q σ) ∧ (¬ gI σ 12 1 ≤ gI σ 12 6 → ix (gI σ 12 6) 400 ∧ B_X6_sign_31 Q (gI σ 13 (Int.toNat (gI σ 12 6))) σ))
set_option maxRecDepth 20000 in
theorem jb_X6_sign_31 {X : jj_X} {E : ev_E} {n0 hN : Nat} (hc : Cx X E cX6_sign 1 n0 hN RX6) (hm : eM E = 1) (hr : (xT X).sig.returnType = (some .int)) (hh : 1 ≤ hN) {Q : Int → st_S → Prop} {v0 : Int} (cv0 : wr v0 = v0) {σ : st_S} (h : B_X6_sign_31 Q v0 σ) : J X E 1 n0 0 0 (MQ (xB X) (qI E (n0 + 0) Q) (xA X) (xS X) 0 0 (eF E)) σ 31 [] [vI v0] := by
  have hh1 : 1 ≤ hN := by omega
  replace h : Q v0 σ := h
  exact j_iret hc hr cv0 h dX6_sign_31
set_option maxRecDepth 20000 in
theorem jb_X6_sign_30 {X : jj_X} {E : ev_E} {n0 hN : Nat} (hc : Cx X E cX6_sign 1 n0 hN RX6) (hm : eM E = 1) (hr : (xT X).sig.returnType = (some .int)) (hh : 1 ≤ hN) {Q : Int → st_S → Prop} {σ : st_S} (h : B_X6_sign_30 Q σ) : J X E 1 n0 0 0 (MQ (xB X) (qI E (n0 + 0) Q) (xA X) (xS X) 0 0 (eF E)) σ 30 [] [] := by
  have hh1 : 1 ≤ hN := by omega
  replace h : B_X6_sign_31 Q 0 σ := h
  refine j_iconst hc dX6_sign_30 ?_
  refine j_sub (lv' := []) [] rfl ?_
  exact jb_X6_sign_31 hc hm hr hh (wlit 0 (by decide)) h
set_option maxRecDepth 20000 in
theorem c_X6_sign {l : Launch} {E : ev_E} (hE : Eok E) (hm : eM E = 1) {σ : st_S} {Q : Int → st_S → Prop} (h : wp_X6_sign σ Q) : cM l yX6_sign cX6_sign 1 (some .int) E 1 0 0 [vR E 12] σ (qI E (gN σ + 0) Q) := by
  refine cM_of (lv := [(0, vR E 12)]) (by decide) hE (Nat.le_of_ble_eq_true rfl) (rfl) ?_
  intro X hX hc _ _ hr _ _
  subst hX
  have hh : 1 ≤ 1 := Nat.le_refl _
  have hh1 : 1 ≤ 1 := by omega
  replace h : (gI σ 12 6 < 0 → B_X6_sign_30 Q σ) ∧ (¬ gI σ 12 6 < 0 → (gI σ 12 1 ≤ gI σ 12 6 → B_X6_sign_30 Q σ) ∧ (¬ gI σ 12 1 ≤ gI σ 12 6 → ix (gI σ 12 6) 400 ∧ B_X6_sign_31 Q (gI σ 13 (Int.toNat (gI σ 12 6))) σ)) := h
  refine j_aload_nR hc 0 dX6_sign_0 rfl rfl ?_
  refine j_getI hc fl_RX6_61 (Or.inl rfl) (fun hv => Or.inl (sv_k hv hm rfl)) dX6_sign_1 (fun cn7 => ?_)
  refine j_if_lt hc cn7 (tgt := 30) dX6_sign_4 (by decide) (fun q14 => ?_) (fun q14 => ?_)
  · replace h := h.1 q14
    refine j_sub (lv' := []) [] rfl ?_
    exact jb_X6_sign_30 hc hm hr hh h
  · replace h := h.2 q14
    refine j_aload_nR hc 0 dX6_sign_7 rfl rfl ?_
    refine j_getI hc fl_RX6_61 (Or.inl rfl) (fun hv => Or.inl (sv_k hv hm rfl)) dX6_sign_8 (fun cn8 => ?_)
    refine j_aload_nR hc 0 dX6_sign_11 rfl rfl ?_
    refine j_getI hc fl_RX6_26 (Or.inl rfl) (fun hv => Or.inl (sv_k hv hm rfl)) dX6_sign_12 (fun cn9 => ?_)
    refine j_ic_ge hc cn8 cn9 (tgt := 30) dX6_sign_15 (by decide) (fun q13 => ?_) (fun q13 => ?_)
    · replace h := h.1 q13
      refine j_sub (lv' := []) [] rfl ?_
      exact jb_X6_sign_30 hc hm hr hh h
    · replace h := h.2 q13
      refine j_aload_nR hc 0 dX6_sign_18 rfl rfl ?_
      refine j_getR (c' := 13) hc fl_RX6_9 rfl rfl (fun hv => (sv_k hv hm rfl)) dX6_sign_19 ?_
      refine j_aload_nR hc 0 dX6_sign_22 rfl rfl ?_
      refine j_getI hc fl_RX6_61 (Or.inl rfl) (fun hv => Or.inl (sv_k hv hm rfl)) dX6_sign_23 (fun cn10 => ?_)
      obtain ⟨b11, h⟩ := h
      refine j_iald (jn := (Int.toNat (gI σ 12 6))) hc (fun hv => sv_kl hv hm rfl) cn10 b11 rfl dX6_sign_26 (fun cn12 => ?_)
      refine j_goto (tgt := 31) hc dX6_sign_27 (by decide) ?_
      refine j_sub (lv' := []) [] rfl ?_
      exact jb_X6_sign_31 hc hm hr hh cn12 h
-- LitStrangers$Reader.isSign(C)Z
theorem dX6_isSign_0 : decode cX6_isSign 0 = .ok (.aload_n 0, 1) := by decide +kernel
theorem dX6_isSign_1 : decode cX6_isSign 1 = .ok (.getfield 50, 3) := by decide +kernel
theorem dX6_isSign_4 : decode cX6_isSign 4 = .ok (.iconst 3, 1) := by decide +kernel
theorem dX6_isSign_5 : decode cX6_isSign 5 = .ok (.if_icmp .ne 15, 3) := by decide +kernel
theorem dX6_isSign_8 : decode cX6_isSign 8 = .ok (.aload_n 0, 1) := by decide +kernel
theorem dX6_isSign_9 : decode cX6_isSign 9 = .ok (.invokevirtual 136, 3) := by decide +kernel
theorem dX6_isSign_12 : decode cX6_isSign 12 = .ok (.iload_n 1, 1) := by decide +kernel
theorem dX6_isSign_13 : decode cX6_isSign 13 = .ok (.if_icmp .ne 7, 3) := by decide +kernel
theorem dX6_isSign_16 : decode cX6_isSign 16 = .ok (.iconst 1, 1) := by decide +kernel
theorem dX6_isSign_17 : decode cX6_isSign 17 = .ok (.goto 4, 3) := by decide +kernel
theorem dX6_isSign_20 : decode cX6_isSign 20 = .ok (.iconst 0, 1) := by decide +kernel
theorem dX6_isSign_21 : decode cX6_isSign 21 = .ok (.ireturn, 1) := by decide +kernel
def B_X6_isSign_21 (Q : Int → st_S → Prop)   (v0 : Int) (σ : st_S) : Prop := (v0 = 0 ∨ v0 = 1) ∧ Q v0 σ
def B_X6_isSign_20 (Q : Int → st_S → Prop)    (σ : st_S) : Prop := B_X6_isSign_21 Q 0 σ
def wp_X6_isSign (a1 : Int) (σ : st_S) (Q : Int → st_S → Prop) : Prop := (¬ gI σ 12 5 = 3 → B_X6_isSign_20 Q σ) ∧ (gI σ 12 5 = 3 → wp_X6_sign σ (fun r5 s6 => (¬ r5 = a1 → B_X6_isSign_20 Q s6) ∧ (r5 = a1 → B_X6_isSign_21 Q 1 s6)))
set_option maxRecDepth 20000 in
theorem jb_X6_isSign_21 {X : jj_X} {E : ev_E} {n0 hN : Nat} (hc : Cx X E cX6_isSign 2 n0 hN RX6) (hm : eM E = 1) (hr : (xT X).sig.returnType = (some .boolean)) (hh : 2 ≤ hN) {Q : Int → st_S → Prop} {v0 : Int} (cv0 : wr v0 = v0) {σ : st_S} (h : B_X6_isSign_21 Q v0 σ) : J X E 2 n0 0 0 (MQ (xB X) (qI E (n0 + 0) Q) (xA X) (xS X) 0 0 (eF E)) σ 21 [] [vI v0] := by
  have hh1 : 1 ≤ hN := by omega
  replace h : (v0 = 0 ∨ v0 = 1) ∧ Q v0 σ := h
  exact j_zret hc hr (nar_bool h.1) (by rcases h.1 with e | e <;> (rw [e]; decide)) h.2 dX6_isSign_21
set_option maxRecDepth 20000 in
theorem jb_X6_isSign_20 {X : jj_X} {E : ev_E} {n0 hN : Nat} (hc : Cx X E cX6_isSign 2 n0 hN RX6) (hm : eM E = 1) (hr : (xT X).sig.returnType = (some .boolean)) (hh : 2 ≤ hN) {Q : Int → st_S → Prop} {σ : st_S} (h : B_X6_isSign_20 Q σ) : J X E 2 n0 0 0 (MQ (xB X) (qI E (n0 + 0) Q) (xA X) (xS X) 0 0 (eF E)) σ 20 [] [] := by
  have hh1 : 1 ≤ hN := by omega
  replace h : B_X6_isSign_21 Q 0 σ := h
  refine j_iconst hc dX6_isSign_20 ?_
  refine j_sub (lv' := []) [] rfl ?_
  exact jb_X6_isSign_21 hc hm hr hh (wlit 0 (by decide)) h
set_option maxRecDepth 20000 in
theorem c_X6_isSign {l : Launch} {E : ev_E} (hE : Eok E) (hm : eM E = 1) {a1 : Int} (ca1 : wr a1 = a1) {σ : st_S} {Q : Int → st_S → Prop} (h : wp_X6_isSign a1 σ Q) : cM l yX6_isSign cX6_isSign 2 (some .boolean) E 2 0 0 [vR E 12, vI a1] σ (qI E (gN σ + 0) Q) := by
  refine cM_of (lv := [(0, vR E 12), (1, vI a1)]) (by decide) hE (Nat.le_of_ble_eq_true rfl) (rfl) ?_
  intro X hX hc _ _ hr _ _
  subst hX
  have hh : 2 ≤ 2 := Nat.le_refl _
  have hh1 : 1 ≤ 2 := by omega
  replace h : (¬ gI σ 12 5 = 3 → B_X6_isSign_20 Q σ) ∧ (gI σ 12 5 = 3 → wp_X6_sign σ (fun r5 s6 => (¬ r5 = a1 → B_X6_isSign_20 Q s6) ∧ (r5 = a1 → B_X6_isSign_21 Q 1 s6))) := h
  refine j_aload_nR hc 0 dX6_isSign_0 rfl rfl ?_
  refine j_getI hc fl_RX6_50 (Or.inl rfl) (fun hv => Or.inl (sv_k hv hm rfl)) dX6_isSign_1 (fun cn4 => ?_)
  refine j_iconst hc dX6_isSign_4 ?_
  refine j_ic_ne hc cn4 (wlit 3 (by decide)) (tgt := 20) dX6_isSign_5 (by decide) (fun q8 => ?_) (fun q8 => ?_)
  · replace h := h.1 q8
    refine j_sub (lv' := []) [] rfl ?_
    exact jb_X6_isSign_20 hc hm hr hh h
  · replace h := h.2 q8
    refine j_aload_nR hc 0 dX6_isSign_8 rfl rfl ?_
    refine j_vI hc (k := 6) (by decide) (fun hv => Or.inl (sv_k hv hm rfl)) ml_RX6_136 mv_X6_sign (As := []) (c_X6_sign (cx_E hc) hm  h) rfl (by omega) (by decide) ⟨Nat.zero_le _, Nat.zero_le _⟩ (Nat.le_of_ble_eq_true rfl) rfl dX6_isSign_9 (fun r5 s6 cr5 h => ?_)
    refine j_iload_n hc 1 dX6_isSign_12 rfl rfl ?_
    refine j_ic_ne hc cr5 ca1 (tgt := 20) dX6_isSign_13 (by decide) (fun q7 => ?_) (fun q7 => ?_)
    · replace h := h.1 q7
      refine j_sub (lv' := []) [] rfl ?_
      exact jb_X6_isSign_20 hc hm hr hh h
    · replace h := h.2 q7
      refine j_iconst hc dX6_isSign_16 ?_
      refine j_goto (tgt := 21) hc dX6_isSign_17 (by decide) ?_
      refine j_sub (lv' := []) [] rfl ?_
      exact jb_X6_isSign_21 hc hm hr hh (wlit 1 (by decide)) h
-- LitStrangers$Reader.isWithin(Ljava/lang/String;II)Z
theorem dX6_isWithin_0 : decode cX6_isWithin 0 = .ok (.aload_n 0, 1) := by decide +kernel
theorem dX6_isWithin_1 : decode cX6_isWithin 1 = .ok (.getfield 50, 3) := by decide +kernel
theorem dX6_isWithin_4 : decode cX6_isWithin 4 = .ok (.iconst 1, 1) := by decide +kernel
theorem dX6_isWithin_5 : decode cX6_isWithin 5 = .ok (.if_icmp .ne 18, 3) := by decide +kernel
theorem dX6_isWithin_8 : decode cX6_isWithin 8 = .ok (.aload_n 0, 1) := by decide +kernel
theorem dX6_isWithin_9 : decode cX6_isWithin 9 = .ok (.getfield 40, 3) := by decide +kernel
theorem dX6_isWithin_12 : decode cX6_isWithin 12 = .ok (.aload_n 0, 1) := by decide +kernel
theorem dX6_isWithin_13 : decode cX6_isWithin 13 = .ok (.getfield 61, 3) := by decide +kernel
theorem dX6_isWithin_16 : decode cX6_isWithin 16 = .ok (.isub, 1) := by decide +kernel
theorem dX6_isWithin_17 : decode cX6_isWithin 17 = .ok (.iload_n 3, 1) := by decide +kernel
theorem dX6_isWithin_18 : decode cX6_isWithin 18 = .ok (.iload_n 2, 1) := by decide +kernel
theorem dX6_isWithin_19 : decode cX6_isWithin 19 = .ok (.isub, 1) := by decide +kernel
theorem dX6_isWithin_20 : decode cX6_isWithin 20 = .ok (.if_icmp .eq 5, 3) := by decide +kernel
theorem dX6_isWithin_23 : decode cX6_isWithin 23 = .ok (.iconst 0, 1) := by decide +kernel
theorem dX6_isWithin_24 : decode cX6_isWithin 24 = .ok (.ireturn, 1) := by decide +kernel
theorem dX6_isWithin_25 : decode cX6_isWithin 25 = .ok (.iload_n 2, 1) := by decide +kernel
theorem dX6_isWithin_26 : decode cX6_isWithin 26 = .ok (.istore 4, 2) := by decide +kernel
theorem dX6_isWithin_28 : decode cX6_isWithin 28 = .ok (.iload 4, 2) := by decide +kernel
theorem dX6_isWithin_30 : decode cX6_isWithin 30 = .ok (.iload_n 3, 1) := by decide +kernel
theorem dX6_isWithin_31 : decode cX6_isWithin 31 = .ok (.if_icmp .ge 34, 3) := by decide +kernel
theorem dX6_isWithin_34 : decode cX6_isWithin 34 = .ok (.aload_n 1, 1) := by decide +kernel
theorem dX6_isWithin_35 : decode cX6_isWithin 35 = .ok (.iload 4, 2) := by decide +kernel
theorem dX6_isWithin_37 : decode cX6_isWithin 37 = .ok (.invokevirtual 175, 3) := by decide +kernel
theorem dX6_isWithin_40 : decode cX6_isWithin 40 = .ok (.aload_n 0, 1) := by decide +kernel
theorem dX6_isWithin_41 : decode cX6_isWithin 41 = .ok (.getfield 9, 3) := by decide +kernel
theorem dX6_isWithin_44 : decode cX6_isWithin 44 = .ok (.aload_n 0, 1) := by decide +kernel
theorem dX6_isWithin_45 : decode cX6_isWithin 45 = .ok (.getfield 61, 3) := by decide +kernel
theorem dX6_isWithin_48 : decode cX6_isWithin 48 = .ok (.iload 4, 2) := by decide +kernel
theorem dX6_isWithin_50 : decode cX6_isWithin 50 = .ok (.iadd, 1) := by decide +kernel
theorem dX6_isWithin_51 : decode cX6_isWithin 51 = .ok (.iload_n 2, 1) := by decide +kernel
theorem dX6_isWithin_52 : decode cX6_isWithin 52 = .ok (.isub, 1) := by decide +kernel
theorem dX6_isWithin_53 : decode cX6_isWithin 53 = .ok (.iaload, 1) := by decide +kernel
theorem dX6_isWithin_54 : decode cX6_isWithin 54 = .ok (.if_icmp .eq 5, 3) := by decide +kernel
theorem dX6_isWithin_57 : decode cX6_isWithin 57 = .ok (.iconst 0, 1) := by decide +kernel
theorem dX6_isWithin_58 : decode cX6_isWithin 58 = .ok (.ireturn, 1) := by decide +kernel
theorem dX6_isWithin_59 : decode cX6_isWithin 59 = .ok (.iinc 4 1, 3) := by decide +kernel
theorem dX6_isWithin_62 : decode cX6_isWithin 62 = .ok (.goto (-34), 3) := by decide +kernel
theorem dX6_isWithin_65 : decode cX6_isWithin 65 = .ok (.iconst 1, 1) := by decide +kernel
theorem dX6_isWithin_66 : decode cX6_isWithin 66 = .ok (.ireturn, 1) := by decide +kernel
def B_X6_isWithin_23 (Q : Int → st_S → Prop)    (σ : st_S) : Prop := Q 0 σ
def L_X6_isWithin_28 (Q : Int → st_S → Prop)   : Nat → Nat → Int → Int → Int → st_S → Prop
  | 0 => fun _ _ _ _ _ => False
  | n + 1 => fun l1 l2 l3 l4 σ => (l3 ≤ l4 → Q 1 σ) ∧ (¬ l3 ≤ l4 → l1 < sNum ∧ wp_J0_charAt_5068e l1 l4 σ (fun r11 s12 => ix (wr ((gI s12 12 6 + l4) - l2)) 400 ∧ (r11 = gI s12 13 (Int.toNat (wr ((gI s12 12 6 + l4) - l2))) → ∀ x17 : Int, x17 = wr (l4 + 1) → (L_X6_isWithin_28 Q n) l1 l2 l3 x17 s12) ∧ (¬ r11 = gI s12 13 (Int.toNat (wr ((gI s12 12 6 + l4) - l2))) → Q 0 s12)))
def wp_X6_isWithin (a1 : Nat) (a2 : Int) (a3 : Int) (σ : st_S) (Q : Int → st_S → Prop) : Prop := (¬ gI σ 12 5 = 1 → B_X6_isWithin_23 Q σ) ∧ (gI σ 12 5 = 1 → (wr (gI σ 12 7 - gI σ 12 6) = wr (a3 - a2) → ∃ m28 : Nat, L_X6_isWithin_28 Q m28 a1 a2 a3 a2 σ) ∧ (¬ wr (gI σ 12 7 - gI σ 12 6) = wr (a3 - a2) → B_X6_isWithin_23 Q σ))
set_option maxRecDepth 20000 in
theorem jb_X6_isWithin_23 {X : jj_X} {E : ev_E} {n0 hN : Nat} (hc : Cx X E cX6_isWithin 5 n0 hN RX6) (hm : eM E = 1) (hr : (xT X).sig.returnType = (some .boolean)) (hh : 5 ≤ hN) {Q : Int → st_S → Prop} {σ : st_S} (h : B_X6_isWithin_23 Q σ) : J X E 5 n0 0 0 (MQ (xB X) (qI E (n0 + 0) Q) (xA X) (xS X) 0 0 (eF E)) σ 23 [] [] := by
  have hh1 : 1 ≤ hN := by omega
  replace h : Q 0 σ := h
  refine j_iconst hc dX6_isWithin_23 ?_
  exact j_zret hc hr (nar_bool (Or.inl rfl)) (by decide) h dX6_isWithin_24
set_option maxRecDepth 20000 in
theorem jl_X6_isWithin_28 {X : jj_X} {E : ev_E} {n0 hN : Nat} (hc : Cx X E cX6_isWithin 5 n0 hN RX6) (hm : eM E = 1) (hr : (xT X).sig.returnType = (some .boolean)) (hh : 5 ≤ hN) {Q : Int → st_S → Prop} : ∀ (n : Nat) {l1 : Nat} {l2 : Int} {l3 : Int} {l4 : Int} (cl2 : wr l2 = l2) (cl3 : wr l3 = l3) (cl4 : wr l4 = l4) {σ : st_S}, L_X6_isWithin_28 Q n l1 l2 l3 l4 σ → J X E 5 n0 0 0 (MQ (xB X) (qI E (n0 + 0) Q) (xA X) (xS X) 0 0 (eF E)) σ 28 [(0, vR E 12), (1, vS E l1), (2, vI l2), (3, vI l3), (4, vI l4)] [] := by
  have hh1 : 1 ≤ hN := by omega
  intro n
  induction n with
  | zero => intro l1 l2 l3 l4 cl2 cl3 cl4 σ h; exact h.elim
  | succ n ih =>
    intro l1 l2 l3 l4 cl2 cl3 cl4 σ h
    have hk28 : ∀ {l1 : Nat} {l2 : Int} {l3 : Int} {l4 : Int} (cl2 : wr l2 = l2) (cl3 : wr l3 = l3) (cl4 : wr l4 = l4) {σ : st_S}, L_X6_isWithin_28 Q n l1 l2 l3 l4 σ → J X E 5 n0 0 0 (MQ (xB X) (qI E (n0 + 0) Q) (xA X) (xS X) 0 0 (eF E)) σ 28 [(0, vR E 12), (1, vS E l1), (2, vI l2), (3, vI l3), (4, vI l4)] [] := ih
    replace h : (l3 ≤ l4 → Q 1 σ) ∧ (¬ l3 ≤ l4 → l1 < sNum ∧ wp_J0_charAt_5068e l1 l4 σ (fun r11 s12 => ix (wr ((gI s12 12 6 + l4) - l2)) 400 ∧ (r11 = gI s12 13 (Int.toNat (wr ((gI s12 12 6 + l4) - l2))) → ∀ x17 : Int, x17 = wr (l4 + 1) → (L_X6_isWithin_28 Q n) l1 l2 l3 x17 s12) ∧ (¬ r11 = gI s12 13 (Int.toNat (wr ((gI s12 12 6 + l4) - l2))) → Q 0 s12))) := h
    refine j_iload hc 4 dX6_isWithin_28 rfl ?_
    refine j_iload_n hc 3 dX6_isWithin_30 rfl rfl ?_
    refine j_ic_ge hc cl4 cl3 (tgt := 65) dX6_isWithin_31 (by decide) (fun q19 => ?_) (fun q19 => ?_)
    · replace h := h.1 q19
      refine j_iconst hc dX6_isWithin_65 ?_
      exact j_zret hc hr (nar_bool (Or.inr rfl)) (by decide) h dX6_isWithin_66
    · replace h := h.2 q19
      refine j_aload_nS hc 1 dX6_isWithin_34 rfl rfl ?_
      refine j_iload hc 4 dX6_isWithin_35 rfl ?_
      obtain ⟨b13, h⟩ := h
      refine j_wI hc b13 ml_RX6_175 mv_J0_charAt_5068e (As := [vI l4]) (c_J0_charAt_5068e (cx_E hc) cl4 h) rfl (by omega) (by decide) ⟨Nat.zero_le _, Nat.zero_le _⟩ (Nat.le_of_ble_eq_true rfl) rfl dX6_isWithin_37 (fun r11 s12 cr11 h => ?_)
      refine j_aload_nR hc 0 dX6_isWithin_40 rfl rfl ?_
      refine j_getR (c' := 13) hc fl_RX6_9 rfl rfl (fun hv => (sv_k hv hm rfl)) dX6_isWithin_41 ?_
      refine j_aload_nR hc 0 dX6_isWithin_44 rfl rfl ?_
      refine j_getI hc fl_RX6_61 (Or.inl rfl) (fun hv => Or.inl (sv_k hv hm rfl)) dX6_isWithin_45 (fun cn14 => ?_)
      refine j_iload hc 4 dX6_isWithin_48 rfl ?_
      refine j_iadd hc dX6_isWithin_50 ?_
      refine j_iload_n hc 2 dX6_isWithin_51 rfl rfl ?_
      refine j_isub hc dX6_isWithin_52 ?_
      obtain ⟨b15, h⟩ := h
      refine j_iald (jn := (Int.toNat (wr ((gI s12 12 6 + l4) - l2)))) hc (fun hv => sv_kl hv hm rfl) rfl b15 rfl dX6_isWithin_53 (fun cn16 => ?_)
      refine j_ic_eq hc cr11 cn16 (tgt := 59) dX6_isWithin_54 (by decide) (fun q18 => ?_) (fun q18 => ?_)
      · replace h := h.1 q18
        obtain ⟨x17, ex17⟩ : ∃ y : Int, y = wr (l4 + 1) := ⟨_, rfl⟩
        have cx17 : wr x17 = x17 := by rw [ex17]; exact wr_wr _
        replace h := h x17 ex17
        refine j_iinc (lv' := [(4, vI x17), (0, vR E 12), (1, vS E l1), (2, vI l2), (3, vI l3)]) hc 4 dX6_isWithin_59 rfl (by decide) ex17 rfl ?_
        refine j_goto (tgt := 28) hc dX6_isWithin_62 (by decide) ?_
        refine j_sub (lv' := [(0, vR E 12), (1, vS E l1), (2, vI l2), (3, vI l3), (4, vI x17)]) [1, 2, 3, 4, 0] rfl ?_
        exact hk28 cl2 cl3 cx17 h
      · replace h := h.2 q18
        refine j_iconst hc dX6_isWithin_57 ?_
        exact j_zret hc hr (nar_bool (Or.inl rfl)) (by decide) h dX6_isWithin_58
set_option maxRecDepth 20000 in
theorem c_X6_isWithin {l : Launch} {E : ev_E} (hE : Eok E) (hm : eM E = 1) {a1 : Nat} {a2 : Int} {a3 : Int} (ca2 : wr a2 = a2) (ca3 : wr a3 = a3) {σ : st_S} {Q : Int → st_S → Prop} (h : wp_X6_isWithin a1 a2 a3 σ Q) : cM l yX6_isWithin cX6_isWithin 5 (some .boolean) E 5 0 0 [vR E 12, vS E a1, vI a2, vI a3] σ (qI E (gN σ + 0) Q) := by
  refine cM_of (lv := [(0, vR E 12), (1, vS E a1), (2, vI a2), (3, vI a3)]) (by decide) hE (Nat.le_of_ble_eq_true rfl) (rfl) ?_
  intro X hX hc _ _ hr _ _
  subst hX
  have hh : 5 ≤ 5 := Nat.le_refl _
  have hh1 : 1 ≤ 5 := by omega
  replace h : (¬ gI σ 12 5 = 1 → B_X6_isWithin_23 Q σ) ∧ (gI σ 12 5 = 1 → (wr (gI σ 12 7 - gI σ 12 6) = wr (a3 - a2) → ∃ m28 : Nat, L_X6_isWithin_28 Q m28 a1 a2 a3 a2 σ) ∧ (¬ wr (gI σ 12 7 - gI σ 12 6) = wr (a3 - a2) → B_X6_isWithin_23 Q σ)) := h
  refine j_aload_nR hc 0 dX6_isWithin_0 rfl rfl ?_
  refine j_getI hc fl_RX6_50 (Or.inl rfl) (fun hv => Or.inl (sv_k hv hm rfl)) dX6_isWithin_1 (fun cn20 => ?_)
  refine j_iconst hc dX6_isWithin_4 ?_
  refine j_ic_ne hc cn20 (wlit 1 (by decide)) (tgt := 23) dX6_isWithin_5 (by decide) (fun q24 => ?_) (fun q24 => ?_)
  · replace h := h.1 q24
    refine j_sub (lv' := []) [] rfl ?_
    exact jb_X6_isWithin_23 hc hm hr hh h
  · replace h := h.2 q24
    refine j_aload_nR hc 0 dX6_isWithin_8 rfl rfl ?_
    refine j_getI hc fl_RX6_40 (Or.inl rfl) (fun hv => Or.inl (sv_k hv hm rfl)) dX6_isWithin_9 (fun cn21 => ?_)
    refine j_aload_nR hc 0 dX6_isWithin_12 rfl rfl ?_
    refine j_getI hc fl_RX6_61 (Or.inl rfl) (fun hv => Or.inl (sv_k hv hm rfl)) dX6_isWithin_13 (fun cn22 => ?_)
    refine j_isub hc dX6_isWithin_16 ?_
    refine j_iload_n hc 3 dX6_isWithin_17 rfl rfl ?_
    refine j_iload_n hc 2 dX6_isWithin_18 rfl rfl ?_
    refine j_isub hc dX6_isWithin_19 ?_
    refine j_ic_eq hc rfl rfl (tgt := 25) dX6_isWithin_20 (by decide) (fun q23 => ?_) (fun q23 => ?_)
    · replace h := h.1 q23
      refine j_iload_n hc 2 dX6_isWithin_25 rfl rfl ?_
      refine j_istore (lv' := [(4, vI a2), (0, vR E 12), (1, vS E a1), (2, vI a2), (3, vI a3)]) hc dX6_isWithin_26 (by decide) rfl ?_
      obtain ⟨n28, h⟩ := h
      refine j_sub (lv' := [(0, vR E 12), (1, vS E a1), (2, vI a2), (3, vI a3), (4, vI a2)]) [1, 2, 3, 4, 0] rfl ?_
      exact jl_X6_isWithin_28 hc hm hr hh n28 ca2 ca3 ca2 h
    · replace h := h.2 q23
      refine j_sub (lv' := []) [] rfl ?_
      exact jb_X6_isWithin_23 hc hm hr hh h
-- LitStrangers$Reader.isWord(Ljava/lang/String;)Z
theorem dX6_isWord_0 : decode cX6_isWord 0 = .ok (.aload_n 0, 1) := by decide +kernel
theorem dX6_isWord_1 : decode cX6_isWord 1 = .ok (.aload_n 1, 1) := by decide +kernel
theorem dX6_isWord_2 : decode cX6_isWord 2 = .ok (.iconst 0, 1) := by decide +kernel
theorem dX6_isWord_3 : decode cX6_isWord 3 = .ok (.aload_n 1, 1) := by decide +kernel
theorem dX6_isWord_4 : decode cX6_isWord 4 = .ok (.invokevirtual 169, 3) := by decide +kernel
theorem dX6_isWord_7 : decode cX6_isWord 7 = .ok (.invokevirtual 171, 3) := by decide +kernel
theorem dX6_isWord_10 : decode cX6_isWord 10 = .ok (.ireturn, 1) := by decide +kernel
def wp_X6_isWord (a1 : Nat) (σ : st_S) (Q : Int → st_S → Prop) : Prop := a1 < sNum ∧ wp_J0_length_8abf5 a1 σ (fun r5 s6 => wp_X6_isWithin a1 0 r5 s6 (fun r8 s9 => (r8 = 0 ∨ r8 = 1) ∧ Q r8 s9))
set_option maxRecDepth 20000 in
theorem c_X6_isWord {l : Launch} {E : ev_E} (hE : Eok E) (hm : eM E = 1) {a1 : Nat} {σ : st_S} {Q : Int → st_S → Prop} (h : wp_X6_isWord a1 σ Q) : cM l yX6_isWord cX6_isWord 2 (some .boolean) E 6 0 0 [vR E 12, vS E a1] σ (qI E (gN σ + 0) Q) := by
  refine cM_of (lv := [(0, vR E 12), (1, vS E a1)]) (by decide) hE (Nat.le_of_ble_eq_true rfl) (rfl) ?_
  intro X hX hc _ _ hr _ _
  subst hX
  have hh : 6 ≤ 6 := Nat.le_refl _
  have hh1 : 1 ≤ 6 := by omega
  replace h : a1 < sNum ∧ wp_J0_length_8abf5 a1 σ (fun r5 s6 => wp_X6_isWithin a1 0 r5 s6 (fun r8 s9 => (r8 = 0 ∨ r8 = 1) ∧ Q r8 s9)) := h
  refine j_aload_nR hc 0 dX6_isWord_0 rfl rfl ?_
  refine j_aload_nS hc 1 dX6_isWord_1 rfl rfl ?_
  refine j_iconst hc dX6_isWord_2 ?_
  refine j_aload_nS hc 1 dX6_isWord_3 rfl rfl ?_
  obtain ⟨b7, h⟩ := h
  refine j_wI hc b7 ml_RX6_169 mv_J0_length_8abf5 (As := []) (c_J0_length_8abf5 (cx_E hc)  h) rfl (by omega) (by decide) ⟨Nat.zero_le _, Nat.zero_le _⟩ (Nat.le_of_ble_eq_true rfl) rfl dX6_isWord_4 (fun r5 s6 cr5 h => ?_)
  refine j_vI hc (k := 6) (by decide) (fun hv => Or.inl (sv_k hv hm rfl)) ml_RX6_171 mv_X6_isWithin (As := [vS E a1, vI 0, vI r5]) (c_X6_isWithin (cx_E hc) hm (wlit 0 (by decide)) cr5 h) rfl (by omega) (by decide) ⟨Nat.zero_le _, Nat.zero_le _⟩ (Nat.le_of_ble_eq_true rfl) rfl dX6_isWord_7 (fun r8 s9 cr8 h => ?_)
  exact j_zret hc hr (nar_bool h.1) (by rcases h.1 with e | e <;> (rw [e]; decide)) h.2 dX6_isWord_10
-- LitStrangers$Reader.place(Ljava/lang/String;)I
theorem dX6_place_0 : decode cX6_place 0 = .ok (.iconst 0, 1) := by decide +kernel
theorem dX6_place_1 : decode cX6_place 1 = .ok (.istore_n 2, 1) := by decide +kernel
theorem dX6_place_2 : decode cX6_place 2 = .ok (.iconst 0, 1) := by decide +kernel
theorem dX6_place_3 : decode cX6_place 3 = .ok (.istore_n 3, 1) := by decide +kernel
theorem dX6_place_4 : decode cX6_place 4 = .ok (.iconst 0, 1) := by decide +kernel
theorem dX6_place_5 : decode cX6_place 5 = .ok (.istore 4, 2) := by decide +kernel
theorem dX6_place_7 : decode cX6_place 7 = .ok (.iload 4, 2) := by decide +kernel
theorem dX6_place_9 : decode cX6_place 9 = .ok (.aload_n 1, 1) := by decide +kernel
theorem dX6_place_10 : decode cX6_place 10 = .ok (.invokevirtual 169, 3) := by decide +kernel
theorem dX6_place_13 : decode cX6_place 13 = .ok (.if_icmp .gt 50, 3) := by decide +kernel
theorem dX6_place_16 : decode cX6_place 16 = .ok (.iload 4, 2) := by decide +kernel
theorem dX6_place_18 : decode cX6_place 18 = .ok (.aload_n 1, 1) := by decide +kernel
theorem dX6_place_19 : decode cX6_place 19 = .ok (.invokevirtual 169, 3) := by decide +kernel
theorem dX6_place_22 : decode cX6_place 22 = .ok (.if_icmp .eq 14, 3) := by decide +kernel
theorem dX6_place_25 : decode cX6_place 25 = .ok (.aload_n 1, 1) := by decide +kernel
theorem dX6_place_26 : decode cX6_place 26 = .ok (.iload 4, 2) := by decide +kernel
theorem dX6_place_28 : decode cX6_place 28 = .ok (.invokevirtual 175, 3) := by decide +kernel
theorem dX6_place_31 : decode cX6_place 31 = .ok (.bipush 32, 2) := by decide +kernel
theorem dX6_place_33 : decode cX6_place 33 = .ok (.if_icmp .ne 24, 3) := by decide +kernel
theorem dX6_place_36 : decode cX6_place 36 = .ok (.aload_n 0, 1) := by decide +kernel
theorem dX6_place_37 : decode cX6_place 37 = .ok (.aload_n 1, 1) := by decide +kernel
theorem dX6_place_38 : decode cX6_place 38 = .ok (.iload_n 3, 1) := by decide +kernel
theorem dX6_place_39 : decode cX6_place 39 = .ok (.iload 4, 2) := by decide +kernel
theorem dX6_place_41 : decode cX6_place 41 = .ok (.invokevirtual 171, 3) := by decide +kernel
theorem dX6_place_44 : decode cX6_place 44 = .ok (.ifCond .eq 5, 3) := by decide +kernel
theorem dX6_place_47 : decode cX6_place 47 = .ok (.iload_n 2, 1) := by decide +kernel
theorem dX6_place_48 : decode cX6_place 48 = .ok (.ireturn, 1) := by decide +kernel
theorem dX6_place_49 : decode cX6_place 49 = .ok (.iinc 2 1, 3) := by decide +kernel
theorem dX6_place_52 : decode cX6_place 52 = .ok (.iload 4, 2) := by decide +kernel
theorem dX6_place_54 : decode cX6_place 54 = .ok (.iconst 1, 1) := by decide +kernel
theorem dX6_place_55 : decode cX6_place 55 = .ok (.iadd, 1) := by decide +kernel
theorem dX6_place_56 : decode cX6_place 56 = .ok (.istore_n 3, 1) := by decide +kernel
theorem dX6_place_57 : decode cX6_place 57 = .ok (.iinc 4 1, 3) := by decide +kernel
theorem dX6_place_60 : decode cX6_place 60 = .ok (.goto (-53), 3) := by decide +kernel
theorem dX6_place_63 : decode cX6_place 63 = .ok (.iconst (-1), 1) := by decide +kernel
theorem dX6_place_64 : decode cX6_place 64 = .ok (.ireturn, 1) := by decide +kernel
def B_X6_place_57 (Q : Int → st_S → Prop)  (k7 : Nat → Int → Int → Int → st_S → Prop) (l1 : Nat) (l2 : Int) (l3 : Int) (l4 : Int) (σ : st_S) : Prop := ∀ x15 : Int, x15 = wr (l4 + 1) → k7 l1 l2 l3 x15 σ
def B_X6_place_36 (Q : Int → st_S → Prop)  (k7 : Nat → Int → Int → Int → st_S → Prop) (l1 : Nat) (l2 : Int) (l3 : Int) (l4 : Int) (σ : st_S) : Prop := wp_X6_isWithin l1 l3 l4 σ (fun r16 s17 => (r16 = 0 → ∀ x18 : Int, x18 = wr (l2 + 1) → ∀ x19 : Int, x19 = wr (l4 + 1) → B_X6_place_57 Q k7 l1 x18 x19 l4 s17) ∧ (¬ r16 = 0 → Q l2 s17))
def L_X6_place_7 (Q : Int → st_S → Prop)   : Nat → Nat → Int → Int → Int → st_S → Prop
  | 0 => fun _ _ _ _ _ => False
  | n + 1 => fun l1 l2 l3 l4 σ => l1 < sNum ∧ wp_J0_length_8abf5 l1 σ (fun r21 s22 => (r21 < l4 → Q (-1) s22) ∧ (¬ r21 < l4 → l1 < sNum ∧ wp_J0_length_8abf5 l1 s22 (fun r24 s25 => (l4 = r24 → B_X6_place_36 Q (L_X6_place_7 Q n) l1 l2 l3 l4 s25) ∧ (¬ l4 = r24 → l1 < sNum ∧ wp_J0_charAt_5068e l1 l4 s25 (fun r27 s28 => (¬ r27 = 32 → B_X6_place_57 Q (L_X6_place_7 Q n) l1 l2 l3 l4 s28) ∧ (r27 = 32 → B_X6_place_36 Q (L_X6_place_7 Q n) l1 l2 l3 l4 s28))))))
def wp_X6_place (a1 : Nat) (σ : st_S) (Q : Int → st_S → Prop) : Prop := ∃ m7 : Nat, L_X6_place_7 Q m7 a1 0 0 0 σ
set_option maxRecDepth 20000 in
theorem jb_X6_place_57 {X : jj_X} {E : ev_E} {n0 hN : Nat} (hc : Cx X E cX6_place 5 n0 hN RX6) (hm : eM E = 1) (hr : (xT X).sig.returnType = (some .int)) (hh : 6 ≤ hN) {Q : Int → st_S → Prop} {k7 : Nat → Int → Int → Int → st_S → Prop} (hk7 : ∀ {l1 : Nat} {l2 : Int} {l3 : Int} {l4 : Int} (cl2 : wr l2 = l2) (cl3 : wr l3 = l3) (cl4 : wr l4 = l4) {σ : st_S}, k7 l1 l2 l3 l4 σ → J X E 5 n0 0 0 (MQ (xB X) (qI E (n0 + 0) Q) (xA X) (xS X) 0 0 (eF E)) σ 7 [(0, vR E 12), (1, vS E l1), (2, vI l2), (3, vI l3), (4, vI l4)] []) {l1 : Nat} {l2 : Int} {l3 : Int} {l4 : Int} (cl2 : wr l2 = l2) (cl3 : wr l3 = l3) (cl4 : wr l4 = l4) {σ : st_S} (h : B_X6_place_57 Q k7 l1 l2 l3 l4 σ) : J X E 5 n0 0 0 (MQ (xB X) (qI E (n0 + 0) Q) (xA X) (xS X) 0 0 (eF E)) σ 57 [(0, vR E 12), (1, vS E l1), (2, vI l2), (3, vI l3), (4, vI l4)] [] := by
  have hh1 : 1 ≤ hN := by omega
  replace h : ∀ x15 : Int, x15 = wr (l4 + 1) → k7 l1 l2 l3 x15 σ := h
  obtain ⟨x15, ex15⟩ : ∃ y : Int, y = wr (l4 + 1) := ⟨_, rfl⟩
  have cx15 : wr x15 = x15 := by rw [ex15]; exact wr_wr _
  replace h := h x15 ex15
  refine j_iinc (lv' := [(4, vI x15), (0, vR E 12), (1, vS E l1), (2, vI l2), (3, vI l3)]) hc 4 dX6_place_57 rfl (by decide) ex15 rfl ?_
  refine j_goto (tgt := 7) hc dX6_place_60 (by decide) ?_
  refine j_sub (lv' := [(0, vR E 12), (1, vS E l1), (2, vI l2), (3, vI l3), (4, vI x15)]) [1, 2, 3, 4, 0] rfl ?_
  exact hk7 cl2 cl3 cx15 h
set_option maxRecDepth 20000 in
theorem jb_X6_place_36 {X : jj_X} {E : ev_E} {n0 hN : Nat} (hc : Cx X E cX6_place 5 n0 hN RX6) (hm : eM E = 1) (hr : (xT X).sig.returnType = (some .int)) (hh : 6 ≤ hN) {Q : Int → st_S → Prop} {k7 : Nat → Int → Int → Int → st_S → Prop} (hk7 : ∀ {l1 : Nat} {l2 : Int} {l3 : Int} {l4 : Int} (cl2 : wr l2 = l2) (cl3 : wr l3 = l3) (cl4 : wr l4 = l4) {σ : st_S}, k7 l1 l2 l3 l4 σ → J X E 5 n0 0 0 (MQ (xB X) (qI E (n0 + 0) Q) (xA X) (xS X) 0 0 (eF E)) σ 7 [(0, vR E 12), (1, vS E l1), (2, vI l2), (3, vI l3), (4, vI l4)] []) {l1 : Nat} {l2 : Int} {l3 : Int} {l4 : Int} (cl2 : wr l2 = l2) (cl3 : wr l3 = l3) (cl4 : wr l4 = l4) {σ : st_S} (h : B_X6_place_36 Q k7 l1 l2 l3 l4 σ) : J X E 5 n0 0 0 (MQ (xB X) (qI E (n0 + 0) Q) (xA X) (xS X) 0 0 (eF E)) σ 36 [(0, vR E 12), (1, vS E l1), (2, vI l2), (3, vI l3), (4, vI l4)] [] := by
  have hh1 : 1 ≤ hN := by omega
  replace h : wp_X6_isWithin l1 l3 l4 σ (fun r16 s17 => (r16 = 0 → ∀ x18 : Int, x18 = wr (l2 + 1) → ∀ x19 : Int, x19 = wr (l4 + 1) → B_X6_place_57 Q k7 l1 x18 x19 l4 s17) ∧ (¬ r16 = 0 → Q l2 s17)) := h
  refine j_aload_nR hc 0 dX6_place_36 rfl rfl ?_
  refine j_aload_nS hc 1 dX6_place_37 rfl rfl ?_
  refine j_iload_n hc 3 dX6_place_38 rfl rfl ?_
  refine j_iload hc 4 dX6_place_39 rfl ?_
  refine j_vI hc (k := 6) (by decide) (fun hv => Or.inl (sv_k hv hm rfl)) ml_RX6_171 mv_X6_isWithin (As := [vS E l1, vI l3, vI l4]) (c_X6_isWithin (cx_E hc) hm cl3 cl4 h) rfl (by omega) (by decide) ⟨Nat.zero_le _, Nat.zero_le _⟩ (Nat.le_of_ble_eq_true rfl) rfl dX6_place_41 (fun r16 s17 cr16 h => ?_)
  refine j_if_eq hc cr16 (tgt := 49) dX6_place_44 (by decide) (fun q20 => ?_) (fun q20 => ?_)
  · replace h := h.1 q20
    obtain ⟨x18, ex18⟩ : ∃ y : Int, y = wr (l2 + 1) := ⟨_, rfl⟩
    have cx18 : wr x18 = x18 := by rw [ex18]; exact wr_wr _
    replace h := h x18 ex18
    refine j_iinc (lv' := [(2, vI x18), (0, vR E 12), (1, vS E l1), (3, vI l3), (4, vI l4)]) hc 2 dX6_place_49 rfl (by decide) ex18 rfl ?_
    refine j_iload hc 4 dX6_place_52 rfl ?_
    refine j_iconst hc dX6_place_54 ?_
    refine j_iadd hc dX6_place_55 ?_
    refine j_w (fun x19 ex19 cx19 => ?_)
    replace h := h x19 ex19
    refine j_istore_n (lv' := [(3, vI x19), (2, vI x18), (0, vR E 12), (1, vS E l1), (4, vI l4)]) hc dX6_place_56 rfl (by decide) rfl ?_
    refine j_sub (lv' := [(0, vR E 12), (1, vS E l1), (2, vI x18), (3, vI x19), (4, vI l4)]) [2, 3, 1, 0, 4] rfl ?_
    exact jb_X6_place_57 hc hm hr hh hk7 cx18 cx19 cl4 h
  · replace h := h.2 q20
    refine j_iload_n hc 2 dX6_place_47 rfl rfl ?_
    exact j_iret hc hr cl2 h dX6_place_48
set_option maxRecDepth 20000 in
theorem jl_X6_place_7 {X : jj_X} {E : ev_E} {n0 hN : Nat} (hc : Cx X E cX6_place 5 n0 hN RX6) (hm : eM E = 1) (hr : (xT X).sig.returnType = (some .int)) (hh : 6 ≤ hN) {Q : Int → st_S → Prop} : ∀ (n : Nat) {l1 : Nat} {l2 : Int} {l3 : Int} {l4 : Int} (cl2 : wr l2 = l2) (cl3 : wr l3 = l3) (cl4 : wr l4 = l4) {σ : st_S}, L_X6_place_7 Q n l1 l2 l3 l4 σ → J X E 5 n0 0 0 (MQ (xB X) (qI E (n0 + 0) Q) (xA X) (xS X) 0 0 (eF E)) σ 7 [(0, vR E 12), (1, vS E l1), (2, vI l2), (3, vI l3), (4, vI l4)] [] := by
  have hh1 : 1 ≤ hN := by omega
  intro n
  induction n with
  | zero => intro l1 l2 l3 l4 cl2 cl3 cl4 σ h; exact h.elim
  | succ n ih =>
    intro l1 l2 l3 l4 cl2 cl3 cl4 σ h
    have hk7 : ∀ {l1 : Nat} {l2 : Int} {l3 : Int} {l4 : Int} (cl2 : wr l2 = l2) (cl3 : wr l3 = l3) (cl4 : wr l4 = l4) {σ : st_S}, L_X6_place_7 Q n l1 l2 l3 l4 σ → J X E 5 n0 0 0 (MQ (xB X) (qI E (n0 + 0) Q) (xA X) (xS X) 0 0 (eF E)) σ 7 [(0, vR E 12), (1, vS E l1), (2, vI l2), (3, vI l3), (4, vI l4)] [] := ih
    replace h : l1 < sNum ∧ wp_J0_length_8abf5 l1 σ (fun r21 s22 => (r21 < l4 → Q (-1) s22) ∧ (¬ r21 < l4 → l1 < sNum ∧ wp_J0_length_8abf5 l1 s22 (fun r24 s25 => (l4 = r24 → B_X6_place_36 Q (L_X6_place_7 Q n) l1 l2 l3 l4 s25) ∧ (¬ l4 = r24 → l1 < sNum ∧ wp_J0_charAt_5068e l1 l4 s25 (fun r27 s28 => (¬ r27 = 32 → B_X6_place_57 Q (L_X6_place_7 Q n) l1 l2 l3 l4 s28) ∧ (r27 = 32 → B_X6_place_36 Q (L_X6_place_7 Q n) l1 l2 l3 l4 s28)))))) := h
    refine j_iload hc 4 dX6_place_7 rfl ?_
    refine j_aload_nS hc 1 dX6_place_9 rfl rfl ?_
    obtain ⟨b23, h⟩ := h
    refine j_wI hc b23 ml_RX6_169 mv_J0_length_8abf5 (As := []) (c_J0_length_8abf5 (cx_E hc)  h) rfl (by omega) (by decide) ⟨Nat.zero_le _, Nat.zero_le _⟩ (Nat.le_of_ble_eq_true rfl) rfl dX6_place_10 (fun r21 s22 cr21 h => ?_)
    refine j_ic_gt hc cl4 cr21 (tgt := 63) dX6_place_13 (by decide) (fun q32 => ?_) (fun q32 => ?_)
    · replace h := h.1 q32
      refine j_iconst hc dX6_place_63 ?_
      exact j_iret hc hr (wlit (-1) (by decide)) h dX6_place_64
    · replace h := h.2 q32
      refine j_iload hc 4 dX6_place_16 rfl ?_
      refine j_aload_nS hc 1 dX6_place_18 rfl rfl ?_
      obtain ⟨b26, h⟩ := h
      refine j_wI hc b26 ml_RX6_169 mv_J0_length_8abf5 (As := []) (c_J0_length_8abf5 (cx_E hc)  h) rfl (by omega) (by decide) ⟨Nat.zero_le _, Nat.zero_le _⟩ (Nat.le_of_ble_eq_true rfl) rfl dX6_place_19 (fun r24 s25 cr24 h => ?_)
      refine j_ic_eq hc cl4 cr24 (tgt := 36) dX6_place_22 (by decide) (fun q31 => ?_) (fun q31 => ?_)
      · replace h := h.1 q31
        refine j_sub (lv' := [(0, vR E 12), (1, vS E l1), (2, vI l2), (3, vI l3), (4, vI l4)]) [0, 1, 2, 3, 4] rfl ?_
        exact jb_X6_place_36 hc hm hr hh hk7 cl2 cl3 cl4 h
      · replace h := h.2 q31
        refine j_aload_nS hc 1 dX6_place_25 rfl rfl ?_
        refine j_iload hc 4 dX6_place_26 rfl ?_
        obtain ⟨b29, h⟩ := h
        refine j_wI hc b29 ml_RX6_175 mv_J0_charAt_5068e (As := [vI l4]) (c_J0_charAt_5068e (cx_E hc) cl4 h) rfl (by omega) (by decide) ⟨Nat.zero_le _, Nat.zero_le _⟩ (Nat.le_of_ble_eq_true rfl) rfl dX6_place_28 (fun r27 s28 cr27 h => ?_)
        refine j_bipush hc dX6_place_31 (by decide) ?_
        refine j_ic_ne hc cr27 (wlit 32 (by decide)) (tgt := 57) dX6_place_33 (by decide) (fun q30 => ?_) (fun q30 => ?_)
        · replace h := h.1 q30
          refine j_sub (lv' := [(0, vR E 12), (1, vS E l1), (2, vI l2), (3, vI l3), (4, vI l4)]) [0, 1, 2, 3, 4] rfl ?_
          exact jb_X6_place_57 hc hm hr hh hk7 cl2 cl3 cl4 h
        · replace h := h.2 q30
          refine j_sub (lv' := [(0, vR E 12), (1, vS E l1), (2, vI l2), (3, vI l3), (4, vI l4)]) [0, 1, 2, 3, 4] rfl ?_
          exact jb_X6_place_36 hc hm hr hh hk7 cl2 cl3 cl4 h
set_option maxRecDepth 20000 in
theorem c_X6_place {l : Launch} {E : ev_E} (hE : Eok E) (hm : eM E = 1) {a1 : Nat} {σ : st_S} {Q : Int → st_S → Prop} (h : wp_X6_place a1 σ Q) : cM l yX6_place cX6_place 5 (some .int) E 6 0 0 [vR E 12, vS E a1] σ (qI E (gN σ + 0) Q) := by
  refine cM_of (lv := [(0, vR E 12), (1, vS E a1)]) (by decide) hE (Nat.le_of_ble_eq_true rfl) (rfl) ?_
  intro X hX hc _ _ hr _ _
  subst hX
  have hh : 6 ≤ 6 := Nat.le_refl _
  have hh1 : 1 ≤ 6 := by omega
  replace h : ∃ m7 : Nat, L_X6_place_7 Q m7 a1 0 0 0 σ := h
  refine j_iconst hc dX6_place_0 ?_
  refine j_istore_n (lv' := [(2, vI 0), (0, vR E 12), (1, vS E a1)]) hc dX6_place_1 rfl (by decide) rfl ?_
  refine j_iconst hc dX6_place_2 ?_
  refine j_istore_n (lv' := [(3, vI 0), (2, vI 0), (0, vR E 12), (1, vS E a1)]) hc dX6_place_3 rfl (by decide) rfl ?_
  refine j_iconst hc dX6_place_4 ?_
  refine j_istore (lv' := [(4, vI 0), (3, vI 0), (2, vI 0), (0, vR E 12), (1, vS E a1)]) hc dX6_place_5 (by decide) rfl ?_
  obtain ⟨n7, h⟩ := h
  refine j_sub (lv' := [(0, vR E 12), (1, vS E a1), (2, vI 0), (3, vI 0), (4, vI 0)]) [3, 4, 2, 1, 0] rfl ?_
  exact jl_X6_place_7 hc hm hr hh n7 (wlit 0 (by decide)) (wlit 0 (by decide)) (wlit 0 (by decide)) h
-- LitStrangers$Reader.joint(I)I
theorem dX6_joint_0 : decode cX6_joint 0 = .ok (.iload_n 1, 1) := by decide +kernel
theorem dX6_joint_1 : decode cX6_joint 1 = .ok (.ifCond .ne 19, 3) := by decide +kernel
theorem dX6_joint_4 : decode cX6_joint 4 = .ok (.aload_n 0, 1) := by decide +kernel
theorem dX6_joint_5 : decode cX6_joint 5 = .ok (.ldc 152, 2) := by decide +kernel
theorem dX6_joint_7 : decode cX6_joint 7 = .ok (.invokevirtual 89, 3) := by decide +kernel
theorem dX6_joint_10 : decode cX6_joint 10 = .ok (.ifCond .eq 8, 3) := by decide +kernel
theorem dX6_joint_13 : decode cX6_joint 13 = .ok (.bipush 11, 2) := by decide +kernel
theorem dX6_joint_15 : decode cX6_joint 15 = .ok (.goto 4, 3) := by decide +kernel
theorem dX6_joint_18 : decode cX6_joint 18 = .ok (.iconst (-1), 1) := by decide +kernel
theorem dX6_joint_19 : decode cX6_joint 19 = .ok (.ireturn, 1) := by decide +kernel
theorem dX6_joint_20 : decode cX6_joint 20 = .ok (.iload_n 1, 1) := by decide +kernel
theorem dX6_joint_21 : decode cX6_joint 21 = .ok (.iconst 1, 1) := by decide +kernel
theorem dX6_joint_22 : decode cX6_joint 22 = .ok (.if_icmp .ne 19, 3) := by decide +kernel
theorem dX6_joint_25 : decode cX6_joint 25 = .ok (.aload_n 0, 1) := by decide +kernel
theorem dX6_joint_26 : decode cX6_joint 26 = .ok (.ldc 154, 2) := by decide +kernel
theorem dX6_joint_28 : decode cX6_joint 28 = .ok (.invokevirtual 89, 3) := by decide +kernel
theorem dX6_joint_31 : decode cX6_joint 31 = .ok (.ifCond .eq 8, 3) := by decide +kernel
theorem dX6_joint_34 : decode cX6_joint 34 = .ok (.bipush 12, 2) := by decide +kernel
theorem dX6_joint_36 : decode cX6_joint 36 = .ok (.goto 4, 3) := by decide +kernel
theorem dX6_joint_39 : decode cX6_joint 39 = .ok (.iconst (-1), 1) := by decide +kernel
theorem dX6_joint_40 : decode cX6_joint 40 = .ok (.ireturn, 1) := by decide +kernel
theorem dX6_joint_41 : decode cX6_joint 41 = .ok (.aload_n 0, 1) := by decide +kernel
theorem dX6_joint_42 : decode cX6_joint 42 = .ok (.getfield 50, 3) := by decide +kernel
theorem dX6_joint_45 : decode cX6_joint 45 = .ok (.iconst 3, 1) := by decide +kernel
theorem dX6_joint_46 : decode cX6_joint 46 = .ok (.if_icmp .eq 5, 3) := by decide +kernel
theorem dX6_joint_49 : decode cX6_joint 49 = .ok (.iconst (-1), 1) := by decide +kernel
theorem dX6_joint_50 : decode cX6_joint 50 = .ok (.ireturn, 1) := by decide +kernel
theorem dX6_joint_51 : decode cX6_joint 51 = .ok (.iload_n 1, 1) := by decide +kernel
theorem dX6_joint_52 : decode cX6_joint 52 = .ok (.iconst 2, 1) := by decide +kernel
theorem dX6_joint_53 : decode cX6_joint 53 = .ok (.if_icmp .ne 8, 3) := by decide +kernel
theorem dX6_joint_56 : decode cX6_joint 56 = .ok (.ldc 156, 2) := by decide +kernel
theorem dX6_joint_58 : decode cX6_joint 58 = .ok (.goto 5, 3) := by decide +kernel
theorem dX6_joint_61 : decode cX6_joint 61 = .ok (.ldc 158, 2) := by decide +kernel
theorem dX6_joint_63 : decode cX6_joint 63 = .ok (.aload_n 0, 1) := by decide +kernel
theorem dX6_joint_64 : decode cX6_joint 64 = .ok (.invokevirtual 136, 3) := by decide +kernel
theorem dX6_joint_67 : decode cX6_joint 67 = .ok (.i2c, 1) := by decide +kernel
theorem dX6_joint_68 : decode cX6_joint 68 = .ok (.invokevirtual 140, 3) := by decide +kernel
theorem dX6_joint_71 : decode cX6_joint 71 = .ok (.istore_n 2, 1) := by decide +kernel
theorem dX6_joint_72 : decode cX6_joint 72 = .ok (.iload_n 2, 1) := by decide +kernel
theorem dX6_joint_73 : decode cX6_joint 73 = .ok (.ifCond .ge 7, 3) := by decide +kernel
theorem dX6_joint_76 : decode cX6_joint 76 = .ok (.iconst (-1), 1) := by decide +kernel
theorem dX6_joint_77 : decode cX6_joint 77 = .ok (.goto 15, 3) := by decide +kernel
theorem dX6_joint_80 : decode cX6_joint 80 = .ok (.iload_n 2, 1) := by decide +kernel
theorem dX6_joint_81 : decode cX6_joint 81 = .ok (.iload_n 1, 1) := by decide +kernel
theorem dX6_joint_82 : decode cX6_joint 82 = .ok (.iconst 2, 1) := by decide +kernel
theorem dX6_joint_83 : decode cX6_joint 83 = .ok (.if_icmp .ne 7, 3) := by decide +kernel
theorem dX6_joint_86 : decode cX6_joint 86 = .ok (.iconst 2, 1) := by decide +kernel
theorem dX6_joint_87 : decode cX6_joint 87 = .ok (.goto 4, 3) := by decide +kernel
theorem dX6_joint_90 : decode cX6_joint 90 = .ok (.iconst 4, 1) := by decide +kernel
theorem dX6_joint_91 : decode cX6_joint 91 = .ok (.iadd, 1) := by decide +kernel
theorem dX6_joint_92 : decode cX6_joint 92 = .ok (.ireturn, 1) := by decide +kernel
def B_X6_joint_19 (Q : Int → st_S → Prop)   (v0 : Int) (σ : st_S) : Prop := Q v0 σ
def B_X6_joint_40 (Q : Int → st_S → Prop)   (v0 : Int) (σ : st_S) : Prop := Q v0 σ
def B_X6_joint_92 (Q : Int → st_S → Prop)   (v0 : Int) (σ : st_S) : Prop := Q v0 σ
def B_X6_joint_91 (Q : Int → st_S → Prop)   (v0 : Int) (v1 : Int) (σ : st_S) : Prop := ∀ x15 : Int, x15 = wr (v1 + v0) → B_X6_joint_92 Q x15 σ
def B_X6_joint_63 (Q : Int → st_S → Prop)   (l1 : Int) (v0 : Nat) (σ : st_S) : Prop := wp_X6_sign σ (fun r16 s17 => v0 < sNum ∧ wp_J0_indexOf_0f7a4 v0 (o_i2c r16) s17 (fun r18 s19 => (0 ≤ r18 → (¬ l1 = 2 → B_X6_joint_91 Q 4 r18 s19) ∧ (l1 = 2 → B_X6_joint_91 Q 2 r18 s19)) ∧ (¬ 0 ≤ r18 → B_X6_joint_92 Q (-1) s19)))
def wp_X6_joint (a1 : Int) (σ : st_S) (Q : Int → st_S → Prop) : Prop := (¬ a1 = 0 → (¬ a1 = 1 → (gI σ 12 5 = 3 → (¬ a1 = 2 → B_X6_joint_63 Q a1 11 σ) ∧ (a1 = 2 → B_X6_joint_63 Q a1 10 σ)) ∧ (¬ gI σ 12 5 = 3 → Q (-1) σ)) ∧ (a1 = 1 → wp_X6_isWord 8 σ (fun r26 s27 => (r26 = 0 → B_X6_joint_40 Q (-1) s27) ∧ (¬ r26 = 0 → B_X6_joint_40 Q 12 s27)))) ∧ (a1 = 0 → wp_X6_isWord 7 σ (fun r30 s31 => (r30 = 0 → B_X6_joint_19 Q (-1) s31) ∧ (¬ r30 = 0 → B_X6_joint_19 Q 11 s31)))
set_option maxRecDepth 20000 in
theorem jb_X6_joint_19 {X : jj_X} {E : ev_E} {n0 hN : Nat} (hc : Cx X E cX6_joint 3 n0 hN RX6) (hm : eM E = 1) (hr : (xT X).sig.returnType = (some .int)) (hh : 7 ≤ hN) {Q : Int → st_S → Prop} {v0 : Int} (cv0 : wr v0 = v0) {σ : st_S} (h : B_X6_joint_19 Q v0 σ) : J X E 3 n0 0 0 (MQ (xB X) (qI E (n0 + 0) Q) (xA X) (xS X) 0 0 (eF E)) σ 19 [] [vI v0] := by
  have hh1 : 1 ≤ hN := by omega
  replace h : Q v0 σ := h
  exact j_iret hc hr cv0 h dX6_joint_19
set_option maxRecDepth 20000 in
theorem jb_X6_joint_40 {X : jj_X} {E : ev_E} {n0 hN : Nat} (hc : Cx X E cX6_joint 3 n0 hN RX6) (hm : eM E = 1) (hr : (xT X).sig.returnType = (some .int)) (hh : 7 ≤ hN) {Q : Int → st_S → Prop} {v0 : Int} (cv0 : wr v0 = v0) {σ : st_S} (h : B_X6_joint_40 Q v0 σ) : J X E 3 n0 0 0 (MQ (xB X) (qI E (n0 + 0) Q) (xA X) (xS X) 0 0 (eF E)) σ 40 [] [vI v0] := by
  have hh1 : 1 ≤ hN := by omega
  replace h : Q v0 σ := h
  exact j_iret hc hr cv0 h dX6_joint_40
set_option maxRecDepth 20000 in
theorem jb_X6_joint_92 {X : jj_X} {E : ev_E} {n0 hN : Nat} (hc : Cx X E cX6_joint 3 n0 hN RX6) (hm : eM E = 1) (hr : (xT X).sig.returnType = (some .int)) (hh : 7 ≤ hN) {Q : Int → st_S → Prop} {v0 : Int} (cv0 : wr v0 = v0) {σ : st_S} (h : B_X6_joint_92 Q v0 σ) : J X E 3 n0 0 0 (MQ (xB X) (qI E (n0 + 0) Q) (xA X) (xS X) 0 0 (eF E)) σ 92 [] [vI v0] := by
  have hh1 : 1 ≤ hN := by omega
  replace h : Q v0 σ := h
  exact j_iret hc hr cv0 h dX6_joint_92
set_option maxRecDepth 20000 in
theorem jb_X6_joint_91 {X : jj_X} {E : ev_E} {n0 hN : Nat} (hc : Cx X E cX6_joint 3 n0 hN RX6) (hm : eM E = 1) (hr : (xT X).sig.returnType = (some .int)) (hh : 7 ≤ hN) {Q : Int → st_S → Prop} {v0 : Int} {v1 : Int} (cv0 : wr v0 = v0) {σ : st_S} (h : B_X6_joint_91 Q v0 v1 σ) : J X E 3 n0 0 0 (MQ (xB X) (qI E (n0 + 0) Q) (xA X) (xS X) 0 0 (eF E)) σ 91 [] [vI v0, vI v1] := by
  have hh1 : 1 ≤ hN := by omega
  replace h : ∀ x15 : Int, x15 = wr (v1 + v0) → B_X6_joint_92 Q x15 σ := h
  refine j_iadd hc dX6_joint_91 ?_
  refine j_w (fun x15 ex15 cx15 => ?_)
  replace h := h x15 ex15
  refine j_sub (lv' := []) [] rfl ?_
  exact jb_X6_joint_92 hc hm hr hh cx15 h
set_option maxRecDepth 20000 in
theorem jb_X6_joint_63 {X : jj_X} {E : ev_E} {n0 hN : Nat} (hc : Cx X E cX6_joint 3 n0 hN RX6) (hm : eM E = 1) (hr : (xT X).sig.returnType = (some .int)) (hh : 7 ≤ hN) {Q : Int → st_S → Prop} {l1 : Int} {v0 : Nat} (cl1 : wr l1 = l1) {σ : st_S} (h : B_X6_joint_63 Q l1 v0 σ) : J X E 3 n0 0 0 (MQ (xB X) (qI E (n0 + 0) Q) (xA X) (xS X) 0 0 (eF E)) σ 63 [(0, vR E 12), (1, vI l1)] [vS E v0] := by
  have hh1 : 1 ≤ hN := by omega
  replace h : wp_X6_sign σ (fun r16 s17 => v0 < sNum ∧ wp_J0_indexOf_0f7a4 v0 (o_i2c r16) s17 (fun r18 s19 => (0 ≤ r18 → (¬ l1 = 2 → B_X6_joint_91 Q 4 r18 s19) ∧ (l1 = 2 → B_X6_joint_91 Q 2 r18 s19)) ∧ (¬ 0 ≤ r18 → B_X6_joint_92 Q (-1) s19))) := h
  refine j_aload_nR hc 0 dX6_joint_63 rfl rfl ?_
  refine j_vI hc (k := 6) (by decide) (fun hv => Or.inl (sv_k hv hm rfl)) ml_RX6_136 mv_X6_sign (As := []) (c_X6_sign (cx_E hc) hm  h) rfl (by omega) (by decide) ⟨Nat.zero_le _, Nat.zero_le _⟩ (Nat.le_of_ble_eq_true rfl) rfl dX6_joint_64 (fun r16 s17 cr16 h => ?_)
  refine j_i2c hc dX6_joint_67 ?_
  obtain ⟨b20, h⟩ := h
  refine j_wI hc b20 ml_RX6_140 mv_J0_indexOf_0f7a4 (As := [vI (o_i2c r16)]) (c_J0_indexOf_0f7a4 (cx_E hc) (cn_i2c _) h) rfl (by omega) (by decide) ⟨Nat.zero_le _, Nat.zero_le _⟩ (Nat.le_of_ble_eq_true rfl) rfl dX6_joint_68 (fun r18 s19 cr18 h => ?_)
  refine j_istore_n (lv' := [(2, vI r18), (0, vR E 12), (1, vI l1)]) hc dX6_joint_71 rfl (by decide) rfl ?_
  refine j_iload_n hc 0 dX6_joint_72 rfl rfl ?_
  refine j_if_ge hc cr18 (tgt := 80) dX6_joint_73 (by decide) (fun q22 => ?_) (fun q22 => ?_)
  · replace h := h.1 q22
    refine j_iload_n hc 0 dX6_joint_80 rfl rfl ?_
    refine j_iload_n hc 2 dX6_joint_81 rfl rfl ?_
    refine j_iconst hc dX6_joint_82 ?_
    refine j_ic_ne hc cl1 (wlit 2 (by decide)) (tgt := 90) dX6_joint_83 (by decide) (fun q21 => ?_) (fun q21 => ?_)
    · replace h := h.1 q21
      refine j_iconst hc dX6_joint_90 ?_
      refine j_sub (lv' := []) [] rfl ?_
      exact jb_X6_joint_91 hc hm hr hh (wlit 4 (by decide)) h
    · replace h := h.2 q21
      refine j_iconst hc dX6_joint_86 ?_
      refine j_goto (tgt := 91) hc dX6_joint_87 (by decide) ?_
      refine j_sub (lv' := []) [] rfl ?_
      exact jb_X6_joint_91 hc hm hr hh (wlit 2 (by decide)) h
  · replace h := h.2 q22
    refine j_iconst hc dX6_joint_76 ?_
    refine j_goto (tgt := 92) hc dX6_joint_77 (by decide) ?_
    refine j_sub (lv' := []) [] rfl ?_
    exact jb_X6_joint_92 hc hm hr hh (wlit (-1) (by decide)) h
set_option maxRecDepth 20000 in
theorem c_X6_joint {l : Launch} {E : ev_E} (hE : Eok E) (hm : eM E = 1) {a1 : Int} (ca1 : wr a1 = a1) {σ : st_S} {Q : Int → st_S → Prop} (h : wp_X6_joint a1 σ Q) : cM l yX6_joint cX6_joint 3 (some .int) E 7 0 0 [vR E 12, vI a1] σ (qI E (gN σ + 0) Q) := by
  refine cM_of (lv := [(0, vR E 12), (1, vI a1)]) (by decide) hE (Nat.le_of_ble_eq_true rfl) (rfl) ?_
  intro X hX hc _ _ hr _ _
  subst hX
  have hh : 7 ≤ 7 := Nat.le_refl _
  have hh1 : 1 ≤ 7 := by omega
  replace h : (¬ a1 = 0 → (¬ a1 = 1 → (gI σ 12 5 = 3 → (¬ a1 = 2 → B_X6_joint_63 Q a1 11 σ) ∧ (a1 = 2 → B_X6_joint_63 Q a1 10 σ)) ∧ (¬ gI σ 12 5 = 3 → Q (-1) σ)) ∧ (a1 = 1 → wp_X6_isWord 8 σ (fun r26 s27 => (r26 = 0 → B_X6_joint_40 Q (-1) s27) ∧ (¬ r26 = 0 → B_X6_joint_40 Q 12 s27)))) ∧ (a1 = 0 → wp_X6_isWord 7 σ (fun r30 s31 => (r30 = 0 → B_X6_joint_19 Q (-1) s31) ∧ (¬ r30 = 0 → B_X6_joint_19 Q 11 s31))) := h
  refine j_iload_n hc 1 dX6_joint_0 rfl rfl ?_
  refine j_if_ne hc ca1 (tgt := 20) dX6_joint_1 (by decide) (fun q33 => ?_) (fun q33 => ?_)
  · replace h := h.1 q33
    refine j_iload_n hc 1 dX6_joint_20 rfl rfl ?_
    refine j_iconst hc dX6_joint_21 ?_
    refine j_ic_ne hc ca1 (wlit 1 (by decide)) (tgt := 41) dX6_joint_22 (by decide) (fun q29 => ?_) (fun q29 => ?_)
    · replace h := h.1 q29
      refine j_aload_nR hc 0 dX6_joint_41 rfl rfl ?_
      refine j_getI hc fl_RX6_50 (Or.inl rfl) (fun hv => Or.inl (sv_k hv hm rfl)) dX6_joint_42 (fun cn23 => ?_)
      refine j_iconst hc dX6_joint_45 ?_
      refine j_ic_eq hc cn23 (wlit 3 (by decide)) (tgt := 51) dX6_joint_46 (by decide) (fun q25 => ?_) (fun q25 => ?_)
      · replace h := h.1 q25
        refine j_iload_n hc 1 dX6_joint_51 rfl rfl ?_
        refine j_iconst hc dX6_joint_52 ?_
        refine j_ic_ne hc ca1 (wlit 2 (by decide)) (tgt := 61) dX6_joint_53 (by decide) (fun q24 => ?_) (fun q24 => ?_)
        · replace h := h.1 q24
          refine j_ldcS (k := 11) hc rfl dX6_joint_61 ?_
          refine j_sub (lv' := [(0, vR E 12), (1, vI a1)]) [0, 1] rfl ?_
          exact jb_X6_joint_63 hc hm hr hh ca1 h
        · replace h := h.2 q24
          refine j_ldcS (k := 10) hc rfl dX6_joint_56 ?_
          refine j_goto (tgt := 63) hc dX6_joint_58 (by decide) ?_
          refine j_sub (lv' := [(0, vR E 12), (1, vI a1)]) [0, 1] rfl ?_
          exact jb_X6_joint_63 hc hm hr hh ca1 h
      · replace h := h.2 q25
        refine j_iconst hc dX6_joint_49 ?_
        exact j_iret hc hr (wlit (-1) (by decide)) h dX6_joint_50
    · replace h := h.2 q29
      refine j_aload_nR hc 0 dX6_joint_25 rfl rfl ?_
      refine j_ldcS (k := 8) hc rfl dX6_joint_26 ?_
      refine j_vI hc (k := 6) (by decide) (fun hv => Or.inl (sv_k hv hm rfl)) ml_RX6_89 mv_X6_isWord (As := [vS E 8]) (c_X6_isWord (cx_E hc) hm  h) rfl (by omega) (by decide) ⟨Nat.zero_le _, Nat.zero_le _⟩ (Nat.le_of_ble_eq_true rfl) rfl dX6_joint_28 (fun r26 s27 cr26 h => ?_)
      refine j_if_eq hc cr26 (tgt := 39) dX6_joint_31 (by decide) (fun q28 => ?_) (fun q28 => ?_)
      · replace h := h.1 q28
        refine j_iconst hc dX6_joint_39 ?_
        refine j_sub (lv' := []) [] rfl ?_
        exact jb_X6_joint_40 hc hm hr hh (wlit (-1) (by decide)) h
      · replace h := h.2 q28
        refine j_bipush hc dX6_joint_34 (by decide) ?_
        refine j_goto (tgt := 40) hc dX6_joint_36 (by decide) ?_
        refine j_sub (lv' := []) [] rfl ?_
        exact jb_X6_joint_40 hc hm hr hh (wlit 12 (by decide)) h
  · replace h := h.2 q33
    refine j_aload_nR hc 0 dX6_joint_4 rfl rfl ?_
    refine j_ldcS (k := 7) hc rfl dX6_joint_5 ?_
    refine j_vI hc (k := 6) (by decide) (fun hv => Or.inl (sv_k hv hm rfl)) ml_RX6_89 mv_X6_isWord (As := [vS E 7]) (c_X6_isWord (cx_E hc) hm  h) rfl (by omega) (by decide) ⟨Nat.zero_le _, Nat.zero_le _⟩ (Nat.le_of_ble_eq_true rfl) rfl dX6_joint_7 (fun r30 s31 cr30 h => ?_)
    refine j_if_eq hc cr30 (tgt := 18) dX6_joint_10 (by decide) (fun q32 => ?_) (fun q32 => ?_)
    · replace h := h.1 q32
      refine j_iconst hc dX6_joint_18 ?_
      refine j_sub (lv' := []) [] rfl ?_
      exact jb_X6_joint_19 hc hm hr hh (wlit (-1) (by decide)) h
    · replace h := h.2 q32
      refine j_bipush hc dX6_joint_13 (by decide) ?_
      refine j_goto (tgt := 19) hc dX6_joint_15 (by decide) ?_
      refine j_sub (lv' := []) [] rfl ?_
      exact jb_X6_joint_19 hc hm hr hh (wlit 11 (by decide)) h
-- LitStrangers$Reader.readWord(I)Z
theorem dX6_readWord_0 : decode cX6_readWord 0 = .ok (.aload_n 0, 1) := by decide +kernel
theorem dX6_readWord_1 : decode cX6_readWord 1 = .ok (.getfield 29, 3) := by decide +kernel
theorem dX6_readWord_4 : decode cX6_readWord 4 = .ok (.ifCond .eq 8, 3) := by decide +kernel
theorem dX6_readWord_7 : decode cX6_readWord 7 = .ok (.iload_n 1, 1) := by decide +kernel
theorem dX6_readWord_8 : decode cX6_readWord 8 = .ok (.iconst 5, 1) := by decide +kernel
theorem dX6_readWord_9 : decode cX6_readWord 9 = .ok (.if_icmp .ge 14, 3) := by decide +kernel
theorem dX6_readWord_12 : decode cX6_readWord 12 = .ok (.aload_n 0, 1) := by decide +kernel
theorem dX6_readWord_13 : decode cX6_readWord 13 = .ok (.getfield 18, 3) := by decide +kernel
theorem dX6_readWord_16 : decode cX6_readWord 16 = .ok (.iconst 1, 1) := by decide +kernel
theorem dX6_readWord_17 : decode cX6_readWord 17 = .ok (.iload_n 1, 1) := by decide +kernel
theorem dX6_readWord_18 : decode cX6_readWord 18 = .ok (.invokevirtual 111, 3) := by decide +kernel
theorem dX6_readWord_21 : decode cX6_readWord 21 = .ok (.iconst 1, 1) := by decide +kernel
theorem dX6_readWord_22 : decode cX6_readWord 22 = .ok (.ireturn, 1) := by decide +kernel
theorem dX6_readWord_23 : decode cX6_readWord 23 = .ok (.aload_n 0, 1) := by decide +kernel
theorem dX6_readWord_24 : decode cX6_readWord 24 = .ok (.getfield 50, 3) := by decide +kernel
theorem dX6_readWord_27 : decode cX6_readWord 27 = .ok (.iconst 2, 1) := by decide +kernel
theorem dX6_readWord_28 : decode cX6_readWord 28 = .ok (.if_icmp .ne 12, 3) := by decide +kernel
theorem dX6_readWord_31 : decode cX6_readWord 31 = .ok (.aload_n 0, 1) := by decide +kernel
theorem dX6_readWord_32 : decode cX6_readWord 32 = .ok (.getfield 101, 3) := by decide +kernel
theorem dX6_readWord_35 : decode cX6_readWord 35 = .ok (.bipush 10, 2) := by decide +kernel
theorem dX6_readWord_37 : decode cX6_readWord 37 = .ok (.if_icmp .lt 8, 3) := by decide +kernel
theorem dX6_readWord_40 : decode cX6_readWord 40 = .ok (.aload_n 0, 1) := by decide +kernel
theorem dX6_readWord_41 : decode cX6_readWord 41 = .ok (.invokevirtual 57, 3) := by decide +kernel
theorem dX6_readWord_44 : decode cX6_readWord 44 = .ok (.ireturn, 1) := by decide +kernel
theorem dX6_readWord_45 : decode cX6_readWord 45 = .ok (.aload_n 0, 1) := by decide +kernel
theorem dX6_readWord_46 : decode cX6_readWord 46 = .ok (.getfield 18, 3) := by decide +kernel
theorem dX6_readWord_49 : decode cX6_readWord 49 = .ok (.iconst 1, 1) := by decide +kernel
theorem dX6_readWord_50 : decode cX6_readWord 50 = .ok (.iconst 5, 1) := by decide +kernel
theorem dX6_readWord_51 : decode cX6_readWord 51 = .ok (.iload_n 1, 1) := by decide +kernel
theorem dX6_readWord_52 : decode cX6_readWord 52 = .ok (.iconst 5, 1) := by decide +kernel
theorem dX6_readWord_53 : decode cX6_readWord 53 = .ok (.isub, 1) := by decide +kernel
theorem dX6_readWord_54 : decode cX6_readWord 54 = .ok (.bipush 10, 2) := by decide +kernel
theorem dX6_readWord_56 : decode cX6_readWord 56 = .ok (.imul, 1) := by decide +kernel
theorem dX6_readWord_57 : decode cX6_readWord 57 = .ok (.iadd, 1) := by decide +kernel
theorem dX6_readWord_58 : decode cX6_readWord 58 = .ok (.aload_n 0, 1) := by decide +kernel
theorem dX6_readWord_59 : decode cX6_readWord 59 = .ok (.getfield 101, 3) := by decide +kernel
theorem dX6_readWord_62 : decode cX6_readWord 62 = .ok (.iadd, 1) := by decide +kernel
theorem dX6_readWord_63 : decode cX6_readWord 63 = .ok (.invokevirtual 111, 3) := by decide +kernel
theorem dX6_readWord_66 : decode cX6_readWord 66 = .ok (.aload_n 0, 1) := by decide +kernel
theorem dX6_readWord_67 : decode cX6_readWord 67 = .ok (.invokevirtual 43, 3) := by decide +kernel
theorem dX6_readWord_70 : decode cX6_readWord 70 = .ok (.iconst 1, 1) := by decide +kernel
theorem dX6_readWord_71 : decode cX6_readWord 71 = .ok (.ireturn, 1) := by decide +kernel
def B_X6_readWord_12 (Q : Int → st_S → Prop)   (l1 : Int) (σ : st_S) : Prop := wp_X9_add 1 l1 σ (fun s14 => Q 1 s14)
def B_X6_readWord_40 (Q : Int → st_S → Prop)    (σ : st_S) : Prop := wp_X6_fail σ (fun r15 s16 => (r15 = 0 ∨ r15 = 1) ∧ Q r15 s16)
def wp_X6_readWord (a1 : Int) (σ : st_S) (Q : Int → st_S → Prop) : Prop := (gI σ 12 4 = 0 → B_X6_readWord_12 Q a1 σ) ∧ (¬ gI σ 12 4 = 0 → (5 ≤ a1 → (¬ gI σ 12 5 = 2 → B_X6_readWord_40 Q σ) ∧ (gI σ 12 5 = 2 → (gI σ 12 8 < 10 → wp_X9_add 1 (wr ((5 + ((a1 - 5) * 10)) + gI σ 12 8)) σ (fun s22 => wp_X6_advance s22 (fun s24 => Q 1 s24))) ∧ (¬ gI σ 12 8 < 10 → B_X6_readWord_40 Q σ))) ∧ (¬ 5 ≤ a1 → B_X6_readWord_12 Q a1 σ))
set_option maxRecDepth 20000 in
theorem jb_X6_readWord_12 {X : jj_X} {E : ev_E} {n0 hN : Nat} (hc : Cx X E cX6_readWord 2 n0 hN RX6) (hm : eM E = 1) (hr : (xT X).sig.returnType = (some .boolean)) (hh : 3 ≤ hN) {Q : Int → st_S → Prop} {l1 : Int} (cl1 : wr l1 = l1) {σ : st_S} (h : B_X6_readWord_12 Q l1 σ) : J X E 2 n0 0 0 (MQ (xB X) (qI E (n0 + 0) Q) (xA X) (xS X) 0 0 (eF E)) σ 12 [(0, vR E 12), (1, vI l1)] [] := by
  have hh1 : 1 ≤ hN := by omega
  replace h : wp_X9_add 1 l1 σ (fun s14 => Q 1 s14) := h
  refine j_aload_nR hc 0 dX6_readWord_12 rfl rfl ?_
  refine j_getR (c' := 14) hc fl_RX6_18 rfl rfl (fun hv => (sv_k hv hm rfl)) dX6_readWord_13 ?_
  refine j_iconst hc dX6_readWord_16 ?_
  refine j_iload_n hc 1 dX6_readWord_17 rfl rfl ?_
  refine j_vV hc (k := 9) (by decide) (fun hv => Or.inl (sv_k hv hm rfl)) ml_RX6_111 mv_X9_add (As := [vI 1, vI l1]) (c_X9_add (cx_E hc) hm (wlit 1 (by decide)) cl1 h) rfl (by omega) (by decide) ⟨Nat.zero_le _, Nat.zero_le _⟩ (Nat.le_of_ble_eq_true rfl) rfl dX6_readWord_18 (fun s14 h => ?_)
  refine j_iconst hc dX6_readWord_21 ?_
  exact j_zret hc hr (nar_bool (Or.inr rfl)) (by decide) h dX6_readWord_22
set_option maxRecDepth 20000 in
theorem jb_X6_readWord_40 {X : jj_X} {E : ev_E} {n0 hN : Nat} (hc : Cx X E cX6_readWord 2 n0 hN RX6) (hm : eM E = 1) (hr : (xT X).sig.returnType = (some .boolean)) (hh : 3 ≤ hN) {Q : Int → st_S → Prop} {σ : st_S} (h : B_X6_readWord_40 Q σ) : J X E 2 n0 0 0 (MQ (xB X) (qI E (n0 + 0) Q) (xA X) (xS X) 0 0 (eF E)) σ 40 [(0, vR E 12)] [] := by
  have hh1 : 1 ≤ hN := by omega
  replace h : wp_X6_fail σ (fun r15 s16 => (r15 = 0 ∨ r15 = 1) ∧ Q r15 s16) := h
  refine j_aload_nR hc 0 dX6_readWord_40 rfl rfl ?_
  refine j_vI hc (k := 6) (by decide) (fun hv => Or.inl (sv_k hv hm rfl)) ml_RX6_57 mv_X6_fail (As := []) (c_X6_fail (cx_E hc) hm  h) rfl (by omega) (by decide) ⟨Nat.zero_le _, Nat.zero_le _⟩ (Nat.le_of_ble_eq_true rfl) rfl dX6_readWord_41 (fun r15 s16 cr15 h => ?_)
  exact j_zret hc hr (nar_bool h.1) (by rcases h.1 with e | e <;> (rw [e]; decide)) h.2 dX6_readWord_44
set_option maxRecDepth 20000 in
theorem c_X6_readWord {l : Launch} {E : ev_E} (hE : Eok E) (hm : eM E = 1) {a1 : Int} (ca1 : wr a1 = a1) {σ : st_S} {Q : Int → st_S → Prop} (h : wp_X6_readWord a1 σ Q) : cM l yX6_readWord cX6_readWord 2 (some .boolean) E 3 0 0 [vR E 12, vI a1] σ (qI E (gN σ + 0) Q) := by
  refine cM_of (lv := [(0, vR E 12), (1, vI a1)]) (by decide) hE (Nat.le_of_ble_eq_true rfl) (rfl) ?_
  intro X hX hc _ _ hr _ _
  subst hX
  have hh : 3 ≤ 3 := Nat.le_refl _
  have hh1 : 1 ≤ 3 := by omega
  replace h : (gI σ 12 4 = 0 → B_X6_readWord_12 Q a1 σ) ∧ (¬ gI σ 12 4 = 0 → (5 ≤ a1 → (¬ gI σ 12 5 = 2 → B_X6_readWord_40 Q σ) ∧ (gI σ 12 5 = 2 → (gI σ 12 8 < 10 → wp_X9_add 1 (wr ((5 + ((a1 - 5) * 10)) + gI σ 12 8)) σ (fun s22 => wp_X6_advance s22 (fun s24 => Q 1 s24))) ∧ (¬ gI σ 12 8 < 10 → B_X6_readWord_40 Q σ))) ∧ (¬ 5 ≤ a1 → B_X6_readWord_12 Q a1 σ)) := h
  refine j_aload_nR hc 0 dX6_readWord_0 rfl rfl ?_
  refine j_getI hc fl_RX6_29 (Or.inr rfl) (fun hv => Or.inl (sv_k hv hm rfl)) dX6_readWord_1 (fun cn17 => ?_)
  refine j_if_eq hc cn17 (tgt := 12) dX6_readWord_4 (by decide) (fun q28 => ?_) (fun q28 => ?_)
  · replace h := h.1 q28
    refine j_sub (lv' := [(0, vR E 12), (1, vI a1)]) [0, 1] rfl ?_
    exact jb_X6_readWord_12 hc hm hr hh ca1 h
  · replace h := h.2 q28
    refine j_iload_n hc 1 dX6_readWord_7 rfl rfl ?_
    refine j_iconst hc dX6_readWord_8 ?_
    refine j_ic_ge hc ca1 (wlit 5 (by decide)) (tgt := 23) dX6_readWord_9 (by decide) (fun q27 => ?_) (fun q27 => ?_)
    · replace h := h.1 q27
      refine j_aload_nR hc 0 dX6_readWord_23 rfl rfl ?_
      refine j_getI hc fl_RX6_50 (Or.inl rfl) (fun hv => Or.inl (sv_k hv hm rfl)) dX6_readWord_24 (fun cn18 => ?_)
      refine j_iconst hc dX6_readWord_27 ?_
      refine j_ic_ne hc cn18 (wlit 2 (by decide)) (tgt := 40) dX6_readWord_28 (by decide) (fun q26 => ?_) (fun q26 => ?_)
      · replace h := h.1 q26
        refine j_sub (lv' := [(0, vR E 12)]) [0] rfl ?_
        exact jb_X6_readWord_40 hc hm hr hh h
      · replace h := h.2 q26
        refine j_aload_nR hc 0 dX6_readWord_31 rfl rfl ?_
        refine j_getI hc fl_RX6_101 (Or.inl rfl) (fun hv => Or.inl (sv_k hv hm rfl)) dX6_readWord_32 (fun cn19 => ?_)
        refine j_bipush hc dX6_readWord_35 (by decide) ?_
        refine j_ic_lt hc cn19 (wlit 10 (by decide)) (tgt := 45) dX6_readWord_37 (by decide) (fun q25 => ?_) (fun q25 => ?_)
        · replace h := h.1 q25
          refine j_aload_nR hc 0 dX6_readWord_45 rfl rfl ?_
          refine j_getR (c' := 14) hc fl_RX6_18 rfl rfl (fun hv => (sv_k hv hm rfl)) dX6_readWord_46 ?_
          refine j_iconst hc dX6_readWord_49 ?_
          refine j_iconst hc dX6_readWord_50 ?_
          refine j_iload_n hc 1 dX6_readWord_51 rfl rfl ?_
          refine j_iconst hc dX6_readWord_52 ?_
          refine j_isub hc dX6_readWord_53 ?_
          refine j_bipush hc dX6_readWord_54 (by decide) ?_
          refine j_imul hc dX6_readWord_56 ?_
          refine j_iadd hc dX6_readWord_57 ?_
          refine j_aload_nR hc 0 dX6_readWord_58 rfl rfl ?_
          refine j_getI hc fl_RX6_101 (Or.inl rfl) (fun hv => Or.inl (sv_k hv hm rfl)) dX6_readWord_59 (fun cn20 => ?_)
          refine j_iadd hc dX6_readWord_62 ?_
          refine j_vV hc (k := 9) (by decide) (fun hv => Or.inl (sv_k hv hm rfl)) ml_RX6_111 mv_X9_add (As := [vI 1, vI (wr ((5 + ((a1 - 5) * 10)) + gI σ 12 8))]) (c_X9_add (cx_E hc) hm (wlit 1 (by decide)) (wr_wr _) h) rfl (by omega) (by decide) ⟨Nat.zero_le _, Nat.zero_le _⟩ (Nat.le_of_ble_eq_true rfl) (by simp only [vI_wr, vL_wl]; rfl) dX6_readWord_63 (fun s22 h => ?_)
          refine j_aload_nR hc 0 dX6_readWord_66 rfl rfl ?_
          refine j_vV hc (k := 6) (by decide) (fun hv => Or.inl (sv_k hv hm rfl)) ml_RX6_43 mv_X6_advance (As := []) (c_X6_advance (cx_E hc) hm  h) rfl (by omega) (by decide) ⟨Nat.zero_le _, Nat.zero_le _⟩ (Nat.le_of_ble_eq_true rfl) rfl dX6_readWord_67 (fun s24 h => ?_)
          refine j_iconst hc dX6_readWord_70 ?_
          exact j_zret hc hr (nar_bool (Or.inr rfl)) (by decide) h dX6_readWord_71
        · replace h := h.2 q25
          refine j_sub (lv' := [(0, vR E 12)]) [0] rfl ?_
          exact jb_X6_readWord_40 hc hm hr hh h
    · replace h := h.2 q27
      refine j_sub (lv' := [(0, vR E 12), (1, vI a1)]) [0, 1] rfl ?_
      exact jb_X6_readWord_12 hc hm hr hh ca1 h
-- LitStrangers$Reader.readBracket(ICI)Z, LitStrangers$Reader.readChain(II)Z, LitStrangers$Reader.readComparison(I)Z, LitStrangers$Reader.readLink(II)Z, LitStrangers$Reader.readPart(I)Z, LitStrangers$Reader.readPlain(I)Z
theorem dX6_readBracket_0 : decode cX6_readBracket 0 = .ok (.iload_n 3, 1) := by decide +kernel
theorem dX6_readBracket_1 : decode cX6_readBracket 1 = .ok (.bipush 8, 2) := by decide +kernel
theorem dX6_readBracket_3 : decode cX6_readBracket 3 = .ok (.if_icmp .lt 8, 3) := by decide +kernel
theorem dX6_readBracket_6 : decode cX6_readBracket 6 = .ok (.aload_n 0, 1) := by decide +kernel
theorem dX6_readBracket_7 : decode cX6_readBracket 7 = .ok (.invokevirtual 57, 3) := by decide +kernel
theorem dX6_readBracket_10 : decode cX6_readBracket 10 = .ok (.ireturn, 1) := by decide +kernel
theorem dX6_readBracket_11 : decode cX6_readBracket 11 = .ok (.aload_n 0, 1) := by decide +kernel
theorem dX6_readBracket_12 : decode cX6_readBracket 12 = .ok (.invokevirtual 43, 3) := by decide +kernel
theorem dX6_readBracket_15 : decode cX6_readBracket 15 = .ok (.aload_n 0, 1) := by decide +kernel
theorem dX6_readBracket_16 : decode cX6_readBracket 16 = .ok (.iload_n 1, 1) := by decide +kernel
theorem dX6_readBracket_17 : decode cX6_readBracket 17 = .ok (.iload_n 3, 1) := by decide +kernel
theorem dX6_readBracket_18 : decode cX6_readBracket 18 = .ok (.iconst 1, 1) := by decide +kernel
theorem dX6_readBracket_19 : decode cX6_readBracket 19 = .ok (.iadd, 1) := by decide +kernel
theorem dX6_readBracket_20 : decode cX6_readBracket 20 = .ok (.invokevirtual 81, 3) := by decide +kernel
theorem dX6_readBracket_23 : decode cX6_readBracket 23 = .ok (.ifCond .ne 5, 3) := by decide +kernel
theorem dX6_readBracket_26 : decode cX6_readBracket 26 = .ok (.iconst 0, 1) := by decide +kernel
theorem dX6_readBracket_27 : decode cX6_readBracket 27 = .ok (.ireturn, 1) := by decide +kernel
theorem dX6_readBracket_28 : decode cX6_readBracket 28 = .ok (.aload_n 0, 1) := by decide +kernel
theorem dX6_readBracket_29 : decode cX6_readBracket 29 = .ok (.iload_n 2, 1) := by decide +kernel
theorem dX6_readBracket_30 : decode cX6_readBracket 30 = .ok (.invokevirtual 53, 3) := by decide +kernel
theorem dX6_readBracket_33 : decode cX6_readBracket 33 = .ok (.ifCond .ne 8, 3) := by decide +kernel
theorem dX6_readBracket_36 : decode cX6_readBracket 36 = .ok (.aload_n 0, 1) := by decide +kernel
theorem dX6_readBracket_37 : decode cX6_readBracket 37 = .ok (.invokevirtual 57, 3) := by decide +kernel
theorem dX6_readBracket_40 : decode cX6_readBracket 40 = .ok (.ireturn, 1) := by decide +kernel
theorem dX6_readBracket_41 : decode cX6_readBracket 41 = .ok (.aload_n 0, 1) := by decide +kernel
theorem dX6_readBracket_42 : decode cX6_readBracket 42 = .ok (.invokevirtual 43, 3) := by decide +kernel
theorem dX6_readBracket_45 : decode cX6_readBracket 45 = .ok (.iconst 1, 1) := by decide +kernel
theorem dX6_readBracket_46 : decode cX6_readBracket 46 = .ok (.ireturn, 1) := by decide +kernel
theorem dX6_readChain_0 : decode cX6_readChain 0 = .ok (.aload_n 0, 1) := by decide +kernel
theorem dX6_readChain_1 : decode cX6_readChain 1 = .ok (.iload_n 1, 1) := by decide +kernel
theorem dX6_readChain_2 : decode cX6_readChain 2 = .ok (.iload_n 2, 1) := by decide +kernel
theorem dX6_readChain_3 : decode cX6_readChain 3 = .ok (.invokevirtual 104, 3) := by decide +kernel
theorem dX6_readChain_6 : decode cX6_readChain 6 = .ok (.ifCond .ne 5, 3) := by decide +kernel
theorem dX6_readChain_9 : decode cX6_readChain 9 = .ok (.iconst 0, 1) := by decide +kernel
theorem dX6_readChain_10 : decode cX6_readChain 10 = .ok (.ireturn, 1) := by decide +kernel
theorem dX6_readChain_11 : decode cX6_readChain 11 = .ok (.iconst 0, 1) := by decide +kernel
theorem dX6_readChain_12 : decode cX6_readChain 12 = .ok (.istore_n 3, 1) := by decide +kernel
theorem dX6_readChain_13 : decode cX6_readChain 13 = .ok (.iload_n 3, 1) := by decide +kernel
theorem dX6_readChain_14 : decode cX6_readChain 14 = .ok (.sipush 400, 3) := by decide +kernel
theorem dX6_readChain_17 : decode cX6_readChain 17 = .ok (.if_icmp .ge 115, 3) := by decide +kernel
theorem dX6_readChain_20 : decode cX6_readChain 20 = .ok (.aload_n 0, 1) := by decide +kernel
theorem dX6_readChain_21 : decode cX6_readChain 21 = .ok (.iload_n 1, 1) := by decide +kernel
theorem dX6_readChain_22 : decode cX6_readChain 22 = .ok (.invokevirtual 107, 3) := by decide +kernel
theorem dX6_readChain_25 : decode cX6_readChain 25 = .ok (.istore 4, 2) := by decide +kernel
theorem dX6_readChain_27 : decode cX6_readChain 27 = .ok (.iload 4, 2) := by decide +kernel
theorem dX6_readChain_29 : decode cX6_readChain 29 = .ok (.iconst (-1), 1) := by decide +kernel
theorem dX6_readChain_30 : decode cX6_readChain 30 = .ok (.if_icmp .ne 5, 3) := by decide +kernel
theorem dX6_readChain_33 : decode cX6_readChain 33 = .ok (.iconst 1, 1) := by decide +kernel
theorem dX6_readChain_34 : decode cX6_readChain 34 = .ok (.ireturn, 1) := by decide +kernel
theorem dX6_readChain_35 : decode cX6_readChain 35 = .ok (.aload_n 0, 1) := by decide +kernel
theorem dX6_readChain_36 : decode cX6_readChain 36 = .ok (.getfield 18, 3) := by decide +kernel
theorem dX6_readChain_39 : decode cX6_readChain 39 = .ok (.getfield 33, 3) := by decide +kernel
theorem dX6_readChain_42 : decode cX6_readChain 42 = .ok (.istore 5, 2) := by decide +kernel
theorem dX6_readChain_44 : decode cX6_readChain 44 = .ok (.iload_n 1, 1) := by decide +kernel
theorem dX6_readChain_45 : decode cX6_readChain 45 = .ok (.ifCond .eq 8, 3) := by decide +kernel
theorem dX6_readChain_48 : decode cX6_readChain 48 = .ok (.iload_n 1, 1) := by decide +kernel
theorem dX6_readChain_49 : decode cX6_readChain 49 = .ok (.iconst 1, 1) := by decide +kernel
theorem dX6_readChain_50 : decode cX6_readChain 50 = .ok (.if_icmp .ne 7, 3) := by decide +kernel
theorem dX6_readChain_53 : decode cX6_readChain 53 = .ok (.iconst 1, 1) := by decide +kernel
theorem dX6_readChain_54 : decode cX6_readChain 54 = .ok (.goto 4, 3) := by decide +kernel
theorem dX6_readChain_57 : decode cX6_readChain 57 = .ok (.iconst 0, 1) := by decide +kernel
theorem dX6_readChain_58 : decode cX6_readChain 58 = .ok (.istore 6, 2) := by decide +kernel
theorem dX6_readChain_60 : decode cX6_readChain 60 = .ok (.iload 6, 2) := by decide +kernel
theorem dX6_readChain_62 : decode cX6_readChain 62 = .ok (.ifCond .eq 13, 3) := by decide +kernel
theorem dX6_readChain_65 : decode cX6_readChain 65 = .ok (.aload_n 0, 1) := by decide +kernel
theorem dX6_readChain_66 : decode cX6_readChain 66 = .ok (.getfield 18, 3) := by decide +kernel
theorem dX6_readChain_69 : decode cX6_readChain 69 = .ok (.iload 4, 2) := by decide +kernel
theorem dX6_readChain_71 : decode cX6_readChain 71 = .ok (.iconst 0, 1) := by decide +kernel
theorem dX6_readChain_72 : decode cX6_readChain 72 = .ok (.invokevirtual 111, 3) := by decide +kernel
theorem dX6_readChain_75 : decode cX6_readChain 75 = .ok (.aload_n 0, 1) := by decide +kernel
theorem dX6_readChain_76 : decode cX6_readChain 76 = .ok (.invokevirtual 43, 3) := by decide +kernel
theorem dX6_readChain_79 : decode cX6_readChain 79 = .ok (.aload_n 0, 1) := by decide +kernel
theorem dX6_readChain_80 : decode cX6_readChain 80 = .ok (.iload_n 1, 1) := by decide +kernel
theorem dX6_readChain_81 : decode cX6_readChain 81 = .ok (.iload_n 2, 1) := by decide +kernel
theorem dX6_readChain_82 : decode cX6_readChain 82 = .ok (.invokevirtual 104, 3) := by decide +kernel
theorem dX6_readChain_85 : decode cX6_readChain 85 = .ok (.ifCond .ne 5, 3) := by decide +kernel
theorem dX6_readChain_88 : decode cX6_readChain 88 = .ok (.iconst 0, 1) := by decide +kernel
theorem dX6_readChain_89 : decode cX6_readChain 89 = .ok (.ireturn, 1) := by decide +kernel
theorem dX6_readChain_90 : decode cX6_readChain 90 = .ok (.iload 6, 2) := by decide +kernel
theorem dX6_readChain_92 : decode cX6_readChain 92 = .ok (.ifCond .eq 24, 3) := by decide +kernel
theorem dX6_readChain_95 : decode cX6_readChain 95 = .ok (.aload_n 0, 1) := by decide +kernel
theorem dX6_readChain_96 : decode cX6_readChain 96 = .ok (.getfield 18, 3) := by decide +kernel
theorem dX6_readChain_99 : decode cX6_readChain 99 = .ok (.iload 5, 2) := by decide +kernel
theorem dX6_readChain_101 : decode cX6_readChain 101 = .ok (.iload 4, 2) := by decide +kernel
theorem dX6_readChain_103 : decode cX6_readChain 103 = .ok (.aload_n 0, 1) := by decide +kernel
theorem dX6_readChain_104 : decode cX6_readChain 104 = .ok (.getfield 18, 3) := by decide +kernel
theorem dX6_readChain_107 : decode cX6_readChain 107 = .ok (.getfield 33, 3) := by decide +kernel
theorem dX6_readChain_110 : decode cX6_readChain 110 = .ok (.invokevirtual 115, 3) := by decide +kernel
theorem dX6_readChain_113 : decode cX6_readChain 113 = .ok (.goto 13, 3) := by decide +kernel
theorem dX6_readChain_116 : decode cX6_readChain 116 = .ok (.aload_n 0, 1) := by decide +kernel
theorem dX6_readChain_117 : decode cX6_readChain 117 = .ok (.getfield 18, 3) := by decide +kernel
theorem dX6_readChain_120 : decode cX6_readChain 120 = .ok (.iload 4, 2) := by decide +kernel
theorem dX6_readChain_122 : decode cX6_readChain 122 = .ok (.iconst 0, 1) := by decide +kernel
theorem dX6_readChain_123 : decode cX6_readChain 123 = .ok (.invokevirtual 111, 3) := by decide +kernel
theorem dX6_readChain_126 : decode cX6_readChain 126 = .ok (.iinc 3 1, 3) := by decide +kernel
theorem dX6_readChain_129 : decode cX6_readChain 129 = .ok (.goto (-116), 3) := by decide +kernel
theorem dX6_readChain_132 : decode cX6_readChain 132 = .ok (.aload_n 0, 1) := by decide +kernel
theorem dX6_readChain_133 : decode cX6_readChain 133 = .ok (.invokevirtual 57, 3) := by decide +kernel
theorem dX6_readChain_136 : decode cX6_readChain 136 = .ok (.ireturn, 1) := by decide +kernel
theorem dX6_readComparison_0 : decode cX6_readComparison 0 = .ok (.aload_n 0, 1) := by decide +kernel
theorem dX6_readComparison_1 : decode cX6_readComparison 1 = .ok (.iconst 2, 1) := by decide +kernel
theorem dX6_readComparison_2 : decode cX6_readComparison 2 = .ok (.iload_n 1, 1) := by decide +kernel
theorem dX6_readComparison_3 : decode cX6_readComparison 3 = .ok (.invokevirtual 81, 3) := by decide +kernel
theorem dX6_readComparison_6 : decode cX6_readComparison 6 = .ok (.ifCond .ne 5, 3) := by decide +kernel
theorem dX6_readComparison_9 : decode cX6_readComparison 9 = .ok (.iconst 0, 1) := by decide +kernel
theorem dX6_readComparison_10 : decode cX6_readComparison 10 = .ok (.ireturn, 1) := by decide +kernel
theorem dX6_readComparison_11 : decode cX6_readComparison 11 = .ok (.aload_n 0, 1) := by decide +kernel
theorem dX6_readComparison_12 : decode cX6_readComparison 12 = .ok (.getfield 50, 3) := by decide +kernel
theorem dX6_readComparison_15 : decode cX6_readComparison 15 = .ok (.iconst 3, 1) := by decide +kernel
theorem dX6_readComparison_16 : decode cX6_readComparison 16 = .ok (.if_icmp .ne 16, 3) := by decide +kernel
theorem dX6_readComparison_19 : decode cX6_readComparison 19 = .ok (.ldc 134, 2) := by decide +kernel
theorem dX6_readComparison_21 : decode cX6_readComparison 21 = .ok (.aload_n 0, 1) := by decide +kernel
theorem dX6_readComparison_22 : decode cX6_readComparison 22 = .ok (.invokevirtual 136, 3) := by decide +kernel
theorem dX6_readComparison_25 : decode cX6_readComparison 25 = .ok (.i2c, 1) := by decide +kernel
theorem dX6_readComparison_26 : decode cX6_readComparison 26 = .ok (.invokevirtual 140, 3) := by decide +kernel
theorem dX6_readComparison_29 : decode cX6_readComparison 29 = .ok (.goto 4, 3) := by decide +kernel
theorem dX6_readComparison_32 : decode cX6_readComparison 32 = .ok (.iconst (-1), 1) := by decide +kernel
theorem dX6_readComparison_33 : decode cX6_readComparison 33 = .ok (.istore_n 2, 1) := by decide +kernel
theorem dX6_readComparison_34 : decode cX6_readComparison 34 = .ok (.iload_n 2, 1) := by decide +kernel
theorem dX6_readComparison_35 : decode cX6_readComparison 35 = .ok (.ifCond .ge 8, 3) := by decide +kernel
theorem dX6_readComparison_38 : decode cX6_readComparison 38 = .ok (.aload_n 0, 1) := by decide +kernel
theorem dX6_readComparison_39 : decode cX6_readComparison 39 = .ok (.invokevirtual 57, 3) := by decide +kernel
theorem dX6_readComparison_42 : decode cX6_readComparison 42 = .ok (.ireturn, 1) := by decide +kernel
theorem dX6_readComparison_43 : decode cX6_readComparison 43 = .ok (.aload_n 0, 1) := by decide +kernel
theorem dX6_readComparison_44 : decode cX6_readComparison 44 = .ok (.invokevirtual 43, 3) := by decide +kernel
theorem dX6_readComparison_47 : decode cX6_readComparison 47 = .ok (.aload_n 0, 1) := by decide +kernel
theorem dX6_readComparison_48 : decode cX6_readComparison 48 = .ok (.iconst 2, 1) := by decide +kernel
theorem dX6_readComparison_49 : decode cX6_readComparison 49 = .ok (.iload_n 1, 1) := by decide +kernel
theorem dX6_readComparison_50 : decode cX6_readComparison 50 = .ok (.invokevirtual 81, 3) := by decide +kernel
theorem dX6_readComparison_53 : decode cX6_readComparison 53 = .ok (.ifCond .ne 5, 3) := by decide +kernel
theorem dX6_readComparison_56 : decode cX6_readComparison 56 = .ok (.iconst 0, 1) := by decide +kernel
theorem dX6_readComparison_57 : decode cX6_readComparison 57 = .ok (.ireturn, 1) := by decide +kernel
theorem dX6_readComparison_58 : decode cX6_readComparison 58 = .ok (.aload_n 0, 1) := by decide +kernel
theorem dX6_readComparison_59 : decode cX6_readComparison 59 = .ok (.getfield 18, 3) := by decide +kernel
theorem dX6_readComparison_62 : decode cX6_readComparison 62 = .ok (.bipush 7, 2) := by decide +kernel
theorem dX6_readComparison_64 : decode cX6_readComparison 64 = .ok (.iload_n 2, 1) := by decide +kernel
theorem dX6_readComparison_65 : decode cX6_readComparison 65 = .ok (.iadd, 1) := by decide +kernel
theorem dX6_readComparison_66 : decode cX6_readComparison 66 = .ok (.iconst 0, 1) := by decide +kernel
theorem dX6_readComparison_67 : decode cX6_readComparison 67 = .ok (.invokevirtual 111, 3) := by decide +kernel
theorem dX6_readComparison_70 : decode cX6_readComparison 70 = .ok (.iconst 1, 1) := by decide +kernel
theorem dX6_readComparison_71 : decode cX6_readComparison 71 = .ok (.ireturn, 1) := by decide +kernel
theorem dX6_readLink_0 : decode cX6_readLink 0 = .ok (.iload_n 1, 1) := by decide +kernel
theorem dX6_readLink_1 : decode cX6_readLink 1 = .ok (.tableswitch 47 0 2 #[27, 34, 40], 27) := by decide +kernel
theorem dX6_readLink_28 : decode cX6_readLink 28 = .ok (.aload_n 0, 1) := by decide +kernel
theorem dX6_readLink_29 : decode cX6_readLink 29 = .ok (.iconst 1, 1) := by decide +kernel
theorem dX6_readLink_30 : decode cX6_readLink 30 = .ok (.iload_n 2, 1) := by decide +kernel
theorem dX6_readLink_31 : decode cX6_readLink 31 = .ok (.invokevirtual 81, 3) := by decide +kernel
theorem dX6_readLink_34 : decode cX6_readLink 34 = .ok (.ireturn, 1) := by decide +kernel
theorem dX6_readLink_35 : decode cX6_readLink 35 = .ok (.aload_n 0, 1) := by decide +kernel
theorem dX6_readLink_36 : decode cX6_readLink 36 = .ok (.iload_n 2, 1) := by decide +kernel
theorem dX6_readLink_37 : decode cX6_readLink 37 = .ok (.invokevirtual 119, 3) := by decide +kernel
theorem dX6_readLink_40 : decode cX6_readLink 40 = .ok (.ireturn, 1) := by decide +kernel
theorem dX6_readLink_41 : decode cX6_readLink 41 = .ok (.aload_n 0, 1) := by decide +kernel
theorem dX6_readLink_42 : decode cX6_readLink 42 = .ok (.iconst 3, 1) := by decide +kernel
theorem dX6_readLink_43 : decode cX6_readLink 43 = .ok (.iload_n 2, 1) := by decide +kernel
theorem dX6_readLink_44 : decode cX6_readLink 44 = .ok (.invokevirtual 81, 3) := by decide +kernel
theorem dX6_readLink_47 : decode cX6_readLink 47 = .ok (.ireturn, 1) := by decide +kernel
theorem dX6_readLink_48 : decode cX6_readLink 48 = .ok (.aload_n 0, 1) := by decide +kernel
theorem dX6_readLink_49 : decode cX6_readLink 49 = .ok (.iload_n 2, 1) := by decide +kernel
theorem dX6_readLink_50 : decode cX6_readLink 50 = .ok (.invokevirtual 122, 3) := by decide +kernel
theorem dX6_readLink_53 : decode cX6_readLink 53 = .ok (.ireturn, 1) := by decide +kernel
theorem dX6_readPart_0 : decode cX6_readPart 0 = .ok (.aload_n 0, 1) := by decide +kernel
theorem dX6_readPart_1 : decode cX6_readPart 1 = .ok (.bipush 91, 2) := by decide +kernel
theorem dX6_readPart_3 : decode cX6_readPart 3 = .ok (.invokevirtual 53, 3) := by decide +kernel
theorem dX6_readPart_6 : decode cX6_readPart 6 = .ok (.ifCond .eq 12, 3) := by decide +kernel
theorem dX6_readPart_9 : decode cX6_readPart 9 = .ok (.aload_n 0, 1) := by decide +kernel
theorem dX6_readPart_10 : decode cX6_readPart 10 = .ok (.iconst 2, 1) := by decide +kernel
theorem dX6_readPart_11 : decode cX6_readPart 11 = .ok (.bipush 93, 2) := by decide +kernel
theorem dX6_readPart_13 : decode cX6_readPart 13 = .ok (.iload_n 1, 1) := by decide +kernel
theorem dX6_readPart_14 : decode cX6_readPart 14 = .ok (.invokevirtual 127, 3) := by decide +kernel
theorem dX6_readPart_17 : decode cX6_readPart 17 = .ok (.ireturn, 1) := by decide +kernel
theorem dX6_readPart_18 : decode cX6_readPart 18 = .ok (.aload_n 0, 1) := by decide +kernel
theorem dX6_readPart_19 : decode cX6_readPart 19 = .ok (.aload_n 0, 1) := by decide +kernel
theorem dX6_readPart_20 : decode cX6_readPart 20 = .ok (.getfield 29, 3) := by decide +kernel
theorem dX6_readPart_23 : decode cX6_readPart 23 = .ok (.ifCond .eq 8, 3) := by decide +kernel
theorem dX6_readPart_26 : decode cX6_readPart 26 = .ok (.ldc 145, 2) := by decide +kernel
theorem dX6_readPart_28 : decode cX6_readPart 28 = .ok (.goto 5, 3) := by decide +kernel
theorem dX6_readPart_31 : decode cX6_readPart 31 = .ok (.ldc 147, 2) := by decide +kernel
theorem dX6_readPart_33 : decode cX6_readPart 33 = .ok (.invokevirtual 68, 3) := by decide +kernel
theorem dX6_readPart_36 : decode cX6_readPart 36 = .ok (.istore_n 2, 1) := by decide +kernel
theorem dX6_readPart_37 : decode cX6_readPart 37 = .ok (.aload_n 0, 1) := by decide +kernel
theorem dX6_readPart_38 : decode cX6_readPart 38 = .ok (.getfield 50, 3) := by decide +kernel
theorem dX6_readPart_41 : decode cX6_readPart 41 = .ok (.iconst 2, 1) := by decide +kernel
theorem dX6_readPart_42 : decode cX6_readPart 42 = .ok (.if_icmp .ne 17, 3) := by decide +kernel
theorem dX6_readPart_45 : decode cX6_readPart 45 = .ok (.aload_n 0, 1) := by decide +kernel
theorem dX6_readPart_46 : decode cX6_readPart 46 = .ok (.getfield 101, 3) := by decide +kernel
theorem dX6_readPart_49 : decode cX6_readPart 49 = .ok (.sipush 1000, 3) := by decide +kernel
theorem dX6_readPart_52 : decode cX6_readPart 52 = .ok (.if_icmp .gt 7, 3) := by decide +kernel
theorem dX6_readPart_55 : decode cX6_readPart 55 = .ok (.iconst 1, 1) := by decide +kernel
theorem dX6_readPart_56 : decode cX6_readPart 56 = .ok (.goto 4, 3) := by decide +kernel
theorem dX6_readPart_59 : decode cX6_readPart 59 = .ok (.iconst 0, 1) := by decide +kernel
theorem dX6_readPart_60 : decode cX6_readPart 60 = .ok (.istore_n 3, 1) := by decide +kernel
theorem dX6_readPart_61 : decode cX6_readPart 61 = .ok (.iload_n 2, 1) := by decide +kernel
theorem dX6_readPart_62 : decode cX6_readPart 62 = .ok (.iconst (-1), 1) := by decide +kernel
theorem dX6_readPart_63 : decode cX6_readPart 63 = .ok (.if_icmp .ne 7, 3) := by decide +kernel
theorem dX6_readPart_66 : decode cX6_readPart 66 = .ok (.iload_n 3, 1) := by decide +kernel
theorem dX6_readPart_67 : decode cX6_readPart 67 = .ok (.ifCond .eq 12, 3) := by decide +kernel
theorem dX6_readPart_70 : decode cX6_readPart 70 = .ok (.aload_n 0, 1) := by decide +kernel
theorem dX6_readPart_71 : decode cX6_readPart 71 = .ok (.getfield 37, 3) := by decide +kernel
theorem dX6_readPart_74 : decode cX6_readPart 74 = .ok (.bipush 50, 2) := by decide +kernel
theorem dX6_readPart_76 : decode cX6_readPart 76 = .ok (.if_icmp .lt 8, 3) := by decide +kernel
theorem dX6_readPart_79 : decode cX6_readPart 79 = .ok (.aload_n 0, 1) := by decide +kernel
theorem dX6_readPart_80 : decode cX6_readPart 80 = .ok (.invokevirtual 57, 3) := by decide +kernel
theorem dX6_readPart_83 : decode cX6_readPart 83 = .ok (.ireturn, 1) := by decide +kernel
theorem dX6_readPart_84 : decode cX6_readPart 84 = .ok (.aload_n 0, 1) := by decide +kernel
theorem dX6_readPart_85 : decode cX6_readPart 85 = .ok (.dup, 1) := by decide +kernel
theorem dX6_readPart_86 : decode cX6_readPart 86 = .ok (.getfield 37, 3) := by decide +kernel
theorem dX6_readPart_89 : decode cX6_readPart 89 = .ok (.iconst 1, 1) := by decide +kernel
theorem dX6_readPart_90 : decode cX6_readPart 90 = .ok (.iadd, 1) := by decide +kernel
theorem dX6_readPart_91 : decode cX6_readPart 91 = .ok (.putfield 37, 3) := by decide +kernel
theorem dX6_readPart_94 : decode cX6_readPart 94 = .ok (.iload_n 3, 1) := by decide +kernel
theorem dX6_readPart_95 : decode cX6_readPart 95 = .ok (.ifCond .eq 15, 3) := by decide +kernel
theorem dX6_readPart_98 : decode cX6_readPart 98 = .ok (.aload_n 0, 1) := by decide +kernel
theorem dX6_readPart_99 : decode cX6_readPart 99 = .ok (.getfield 18, 3) := by decide +kernel
theorem dX6_readPart_102 : decode cX6_readPart 102 = .ok (.iconst 0, 1) := by decide +kernel
theorem dX6_readPart_103 : decode cX6_readPart 103 = .ok (.aload_n 0, 1) := by decide +kernel
theorem dX6_readPart_104 : decode cX6_readPart 104 = .ok (.getfield 101, 3) := by decide +kernel
theorem dX6_readPart_107 : decode cX6_readPart 107 = .ok (.invokevirtual 111, 3) := by decide +kernel
theorem dX6_readPart_110 : decode cX6_readPart 110 = .ok (.aload_n 0, 1) := by decide +kernel
theorem dX6_readPart_111 : decode cX6_readPart 111 = .ok (.invokevirtual 43, 3) := by decide +kernel
theorem dX6_readPart_114 : decode cX6_readPart 114 = .ok (.iload_n 3, 1) := by decide +kernel
theorem dX6_readPart_115 : decode cX6_readPart 115 = .ok (.ifCond .eq 5, 3) := by decide +kernel
theorem dX6_readPart_118 : decode cX6_readPart 118 = .ok (.iconst 1, 1) := by decide +kernel
theorem dX6_readPart_119 : decode cX6_readPart 119 = .ok (.ireturn, 1) := by decide +kernel
theorem dX6_readPart_120 : decode cX6_readPart 120 = .ok (.aload_n 0, 1) := by decide +kernel
theorem dX6_readPart_121 : decode cX6_readPart 121 = .ok (.iload_n 2, 1) := by decide +kernel
theorem dX6_readPart_122 : decode cX6_readPart 122 = .ok (.invokevirtual 149, 3) := by decide +kernel
theorem dX6_readPart_125 : decode cX6_readPart 125 = .ok (.ireturn, 1) := by decide +kernel
theorem dX6_readPlain_0 : decode cX6_readPlain 0 = .ok (.iconst 0, 1) := by decide +kernel
theorem dX6_readPlain_1 : decode cX6_readPlain 1 = .ok (.istore_n 2, 1) := by decide +kernel
theorem dX6_readPlain_2 : decode cX6_readPlain 2 = .ok (.iconst 0, 1) := by decide +kernel
theorem dX6_readPlain_3 : decode cX6_readPlain 3 = .ok (.istore_n 3, 1) := by decide +kernel
theorem dX6_readPlain_4 : decode cX6_readPlain 4 = .ok (.iload_n 3, 1) := by decide +kernel
theorem dX6_readPlain_5 : decode cX6_readPlain 5 = .ok (.sipush 400, 3) := by decide +kernel
theorem dX6_readPlain_8 : decode cX6_readPlain 8 = .ok (.if_icmp .ge 32, 3) := by decide +kernel
theorem dX6_readPlain_11 : decode cX6_readPlain 11 = .ok (.aload_n 0, 1) := by decide +kernel
theorem dX6_readPlain_12 : decode cX6_readPlain 12 = .ok (.ldc 125, 2) := by decide +kernel
theorem dX6_readPlain_14 : decode cX6_readPlain 14 = .ok (.invokevirtual 89, 3) := by decide +kernel
theorem dX6_readPlain_17 : decode cX6_readPlain 17 = .ok (.ifCond .eq 23, 3) := by decide +kernel
theorem dX6_readPlain_20 : decode cX6_readPlain 20 = .ok (.iload_n 2, 1) := by decide +kernel
theorem dX6_readPlain_21 : decode cX6_readPlain 21 = .ok (.ifCond .ne 7, 3) := by decide +kernel
theorem dX6_readPlain_24 : decode cX6_readPlain 24 = .ok (.iconst 1, 1) := by decide +kernel
theorem dX6_readPlain_25 : decode cX6_readPlain 25 = .ok (.goto 4, 3) := by decide +kernel
theorem dX6_readPlain_28 : decode cX6_readPlain 28 = .ok (.iconst 0, 1) := by decide +kernel
theorem dX6_readPlain_29 : decode cX6_readPlain 29 = .ok (.istore_n 2, 1) := by decide +kernel
theorem dX6_readPlain_30 : decode cX6_readPlain 30 = .ok (.aload_n 0, 1) := by decide +kernel
theorem dX6_readPlain_31 : decode cX6_readPlain 31 = .ok (.invokevirtual 43, 3) := by decide +kernel
theorem dX6_readPlain_34 : decode cX6_readPlain 34 = .ok (.iinc 3 1, 3) := by decide +kernel
theorem dX6_readPlain_37 : decode cX6_readPlain 37 = .ok (.goto (-33), 3) := by decide +kernel
theorem dX6_readPlain_40 : decode cX6_readPlain 40 = .ok (.aload_n 0, 1) := by decide +kernel
theorem dX6_readPlain_41 : decode cX6_readPlain 41 = .ok (.bipush 40, 2) := by decide +kernel
theorem dX6_readPlain_43 : decode cX6_readPlain 43 = .ok (.invokevirtual 53, 3) := by decide +kernel
theorem dX6_readPlain_46 : decode cX6_readPlain 46 = .ok (.ifCond .eq 14, 3) := by decide +kernel
theorem dX6_readPlain_49 : decode cX6_readPlain 49 = .ok (.aload_n 0, 1) := by decide +kernel
theorem dX6_readPlain_50 : decode cX6_readPlain 50 = .ok (.iconst 0, 1) := by decide +kernel
theorem dX6_readPlain_51 : decode cX6_readPlain 51 = .ok (.bipush 41, 2) := by decide +kernel
theorem dX6_readPlain_53 : decode cX6_readPlain 53 = .ok (.iload_n 1, 1) := by decide +kernel
theorem dX6_readPlain_54 : decode cX6_readPlain 54 = .ok (.invokevirtual 127, 3) := by decide +kernel
theorem dX6_readPlain_57 : decode cX6_readPlain 57 = .ok (.goto 8, 3) := by decide +kernel
theorem dX6_readPlain_60 : decode cX6_readPlain 60 = .ok (.aload_n 0, 1) := by decide +kernel
theorem dX6_readPlain_61 : decode cX6_readPlain 61 = .ok (.iload_n 1, 1) := by decide +kernel
theorem dX6_readPlain_62 : decode cX6_readPlain 62 = .ok (.invokevirtual 131, 3) := by decide +kernel
theorem dX6_readPlain_65 : decode cX6_readPlain 65 = .ok (.istore_n 3, 1) := by decide +kernel
theorem dX6_readPlain_66 : decode cX6_readPlain 66 = .ok (.iload_n 3, 1) := by decide +kernel
theorem dX6_readPlain_67 : decode cX6_readPlain 67 = .ok (.ifCond .eq 17, 3) := by decide +kernel
theorem dX6_readPlain_70 : decode cX6_readPlain 70 = .ok (.iload_n 2, 1) := by decide +kernel
theorem dX6_readPlain_71 : decode cX6_readPlain 71 = .ok (.ifCond .eq 13, 3) := by decide +kernel
theorem dX6_readPlain_74 : decode cX6_readPlain 74 = .ok (.aload_n 0, 1) := by decide +kernel
theorem dX6_readPlain_75 : decode cX6_readPlain 75 = .ok (.getfield 18, 3) := by decide +kernel
theorem dX6_readPlain_78 : decode cX6_readPlain 78 = .ok (.bipush 10, 2) := by decide +kernel
theorem dX6_readPlain_80 : decode cX6_readPlain 80 = .ok (.iconst 0, 1) := by decide +kernel
theorem dX6_readPlain_81 : decode cX6_readPlain 81 = .ok (.invokevirtual 111, 3) := by decide +kernel
theorem dX6_readPlain_84 : decode cX6_readPlain 84 = .ok (.iload_n 3, 1) := by decide +kernel
theorem dX6_readPlain_85 : decode cX6_readPlain 85 = .ok (.ireturn, 1) := by decide +kernel
def e_X6_readBracket (rc_X6_readBracket : Int → Int → Int → st_S → (Int → st_S → Prop) → Prop) (rc_X6_readChain : Int → Int → st_S → (Int → st_S → Prop) → Prop) (rc_X6_readComparison : Int → st_S → (Int → st_S → Prop) → Prop) (rc_X6_readLink : Int → Int → st_S → (Int → st_S → Prop) → Prop) (rc_X6_readPart : Int → st_S → (Int → st_S → Prop) → Prop) (rc_X6_readPlain : Int → st_S → (Int → st_S → Prop) → Prop) (a1 : Int) (a2 : Int) (a3 : Int) (σ : st_S) (Q : Int → st_S → Prop) : Prop := (a3 < 8 → wp_X6_advance σ (fun s14 => rc_X6_readChain a1 (wr (a3 + 1)) s14 (fun r15 s16 => (¬ r15 = 0 → wp_X6_isSign a2 s16 (fun r17 s18 => (¬ r17 = 0 → wp_X6_advance s18 (fun s20 => Q 1 s20)) ∧ (r17 = 0 → wp_X6_fail s18 (fun r21 s22 => (r21 = 0 ∨ r21 = 1) ∧ Q r21 s22)))) ∧ (r15 = 0 → Q 0 s16)))) ∧ (¬ a3 < 8 → wp_X6_fail σ (fun r25 s26 => (r25 = 0 ∨ r25 = 1) ∧ Q r25 s26))
def B_X6_readChain_126 (Q : Int → st_S → Prop) (rc_X6_readBracket : Int → Int → Int → st_S → (Int → st_S → Prop) → Prop) (rc_X6_readChain : Int → Int → st_S → (Int → st_S → Prop) → Prop) (rc_X6_readComparison : Int → st_S → (Int → st_S → Prop) → Prop) (rc_X6_readLink : Int → Int → st_S → (Int → st_S → Prop) → Prop) (rc_X6_readPart : Int → st_S → (Int → st_S → Prop) → Prop) (rc_X6_readPlain : Int → st_S → (Int → st_S → Prop) → Prop) (k13 : Int → Int → Int → st_S → Prop) (l1 : Int) (l2 : Int) (l3 : Int) (σ : st_S) : Prop := ∀ x24 : Int, x24 = wr (l3 + 1) → k13 l1 l2 x24 σ
def B_X6_readChain_75 (Q : Int → st_S → Prop) (rc_X6_readBracket : Int → Int → Int → st_S → (Int → st_S → Prop) → Prop) (rc_X6_readChain : Int → Int → st_S → (Int → st_S → Prop) → Prop) (rc_X6_readComparison : Int → st_S → (Int → st_S → Prop) → Prop) (rc_X6_readLink : Int → Int → st_S → (Int → st_S → Prop) → Prop) (rc_X6_readPart : Int → st_S → (Int → st_S → Prop) → Prop) (rc_X6_readPlain : Int → st_S → (Int → st_S → Prop) → Prop) (k13 : Int → Int → Int → st_S → Prop) (l1 : Int) (l2 : Int) (l3 : Int) (l4 : Int) (l5 : Int) (l6 : Int) (σ : st_S) : Prop := wp_X6_advance σ (fun s26 => rc_X6_readLink l1 l2 s26 (fun r27 s28 => (¬ r27 = 0 → (l6 = 0 → wp_X9_add l4 0 s28 (fun s30 => B_X6_readChain_126 Q rc_X6_readBracket rc_X6_readChain rc_X6_readComparison rc_X6_readLink rc_X6_readPart rc_X6_readPlain k13 l1 l2 l3 s30)) ∧ (¬ l6 = 0 → wp_X9_replace l5 l4 (gI s28 14 6) s28 (fun s33 => B_X6_readChain_126 Q rc_X6_readBracket rc_X6_readChain rc_X6_readComparison rc_X6_readLink rc_X6_readPart rc_X6_readPlain k13 l1 l2 l3 s33))) ∧ (r27 = 0 → Q 0 s28)))
def B_X6_readChain_58 (Q : Int → st_S → Prop) (rc_X6_readBracket : Int → Int → Int → st_S → (Int → st_S → Prop) → Prop) (rc_X6_readChain : Int → Int → st_S → (Int → st_S → Prop) → Prop) (rc_X6_readComparison : Int → st_S → (Int → st_S → Prop) → Prop) (rc_X6_readLink : Int → Int → st_S → (Int → st_S → Prop) → Prop) (rc_X6_readPart : Int → st_S → (Int → st_S → Prop) → Prop) (rc_X6_readPlain : Int → st_S → (Int → st_S → Prop) → Prop) (k13 : Int → Int → Int → st_S → Prop) (l1 : Int) (l2 : Int) (l3 : Int) (l4 : Int) (l5 : Int) (v0 : Int) (σ : st_S) : Prop := (v0 = 0 → B_X6_readChain_75 Q rc_X6_readBracket rc_X6_readChain rc_X6_readComparison rc_X6_readLink rc_X6_readPart rc_X6_readPlain k13 l1 l2 l3 l4 l5 v0 σ) ∧ (¬ v0 = 0 → wp_X9_add l4 0 σ (fun s37 => B_X6_readChain_75 Q rc_X6_readBracket rc_X6_readChain rc_X6_readComparison rc_X6_readLink rc_X6_readPart rc_X6_readPlain k13 l1 l2 l3 l4 l5 v0 s37))
def B_X6_readChain_53 (Q : Int → st_S → Prop) (rc_X6_readBracket : Int → Int → Int → st_S → (Int → st_S → Prop) → Prop) (rc_X6_readChain : Int → Int → st_S → (Int → st_S → Prop) → Prop) (rc_X6_readComparison : Int → st_S → (Int → st_S → Prop) → Prop) (rc_X6_readLink : Int → Int → st_S → (Int → st_S → Prop) → Prop) (rc_X6_readPart : Int → st_S → (Int → st_S → Prop) → Prop) (rc_X6_readPlain : Int → st_S → (Int → st_S → Prop) → Prop) (k13 : Int → Int → Int → st_S → Prop) (l1 : Int) (l2 : Int) (l3 : Int) (l4 : Int) (l5 : Int) (σ : st_S) : Prop := B_X6_readChain_58 Q rc_X6_readBracket rc_X6_readChain rc_X6_readComparison rc_X6_readLink rc_X6_readPart rc_X6_readPlain k13 l1 l2 l3 l4 l5 1 σ
def L_X6_readChain_13 (Q : Int → st_S → Prop) (rc_X6_readBracket : Int → Int → Int → st_S → (Int → st_S → Prop) → Prop) (rc_X6_readChain : Int → Int → st_S → (Int → st_S → Prop) → Prop) (rc_X6_readComparison : Int → st_S → (Int → st_S → Prop) → Prop) (rc_X6_readLink : Int → Int → st_S → (Int → st_S → Prop) → Prop) (rc_X6_readPart : Int → st_S → (Int → st_S → Prop) → Prop) (rc_X6_readPlain : Int → st_S → (Int → st_S → Prop) → Prop)  : Nat → Int → Int → Int → st_S → Prop
  | 0 => fun _ _ _ _ => False
  | n + 1 => fun l1 l2 l3 σ => (400 ≤ l3 → wp_X6_fail σ (fun r39 s40 => (r39 = 0 ∨ r39 = 1) ∧ Q r39 s40)) ∧ (¬ 400 ≤ l3 → wp_X6_joint l1 σ (fun r41 s42 => (¬ r41 = (-1) → ∀ x44 : Int, x44 = gI s42 14 6 → (l1 = 0 → B_X6_readChain_53 Q rc_X6_readBracket rc_X6_readChain rc_X6_readComparison rc_X6_readLink rc_X6_readPart rc_X6_readPlain (L_X6_readChain_13 Q rc_X6_readBracket rc_X6_readChain rc_X6_readComparison rc_X6_readLink rc_X6_readPart rc_X6_readPlain n) l1 l2 l3 r41 x44 s42) ∧ (¬ l1 = 0 → (¬ l1 = 1 → B_X6_readChain_58 Q rc_X6_readBracket rc_X6_readChain rc_X6_readComparison rc_X6_readLink rc_X6_readPart rc_X6_readPlain (L_X6_readChain_13 Q rc_X6_readBracket rc_X6_readChain rc_X6_readComparison rc_X6_readLink rc_X6_readPart rc_X6_readPlain n) l1 l2 l3 r41 x44 0 s42) ∧ (l1 = 1 → B_X6_readChain_53 Q rc_X6_readBracket rc_X6_readChain rc_X6_readComparison rc_X6_readLink rc_X6_readPart rc_X6_readPlain (L_X6_readChain_13 Q rc_X6_readBracket rc_X6_readChain rc_X6_readComparison rc_X6_readLink rc_X6_readPart rc_X6_readPlain n) l1 l2 l3 r41 x44 s42))) ∧ (r41 = (-1) → Q 1 s42)))
def e_X6_readChain (rc_X6_readBracket : Int → Int → Int → st_S → (Int → st_S → Prop) → Prop) (rc_X6_readChain : Int → Int → st_S → (Int → st_S → Prop) → Prop) (rc_X6_readComparison : Int → st_S → (Int → st_S → Prop) → Prop) (rc_X6_readLink : Int → Int → st_S → (Int → st_S → Prop) → Prop) (rc_X6_readPart : Int → st_S → (Int → st_S → Prop) → Prop) (rc_X6_readPlain : Int → st_S → (Int → st_S → Prop) → Prop) (a1 : Int) (a2 : Int) (σ : st_S) (Q : Int → st_S → Prop) : Prop := rc_X6_readLink a1 a2 σ (fun r49 s50 => (¬ r49 = 0 → ∃ m13 : Nat, L_X6_readChain_13 Q rc_X6_readBracket rc_X6_readChain rc_X6_readComparison rc_X6_readLink rc_X6_readPart rc_X6_readPlain m13 a1 a2 0 s50) ∧ (r49 = 0 → Q 0 s50))
def B_X6_readComparison_33 (Q : Int → st_S → Prop) (rc_X6_readBracket : Int → Int → Int → st_S → (Int → st_S → Prop) → Prop) (rc_X6_readChain : Int → Int → st_S → (Int → st_S → Prop) → Prop) (rc_X6_readComparison : Int → st_S → (Int → st_S → Prop) → Prop) (rc_X6_readLink : Int → Int → st_S → (Int → st_S → Prop) → Prop) (rc_X6_readPart : Int → st_S → (Int → st_S → Prop) → Prop) (rc_X6_readPlain : Int → st_S → (Int → st_S → Prop) → Prop)  (l1 : Int) (v0 : Int) (σ : st_S) : Prop := (0 ≤ v0 → wp_X6_advance σ (fun s18 => rc_X6_readChain 2 l1 s18 (fun r19 s20 => (¬ r19 = 0 → wp_X9_add (wr (7 + v0)) 0 s20 (fun s22 => Q 1 s22)) ∧ (r19 = 0 → Q 0 s20)))) ∧ (¬ 0 ≤ v0 → wp_X6_fail σ (fun r24 s25 => (r24 = 0 ∨ r24 = 1) ∧ Q r24 s25))
def e_X6_readComparison (rc_X6_readBracket : Int → Int → Int → st_S → (Int → st_S → Prop) → Prop) (rc_X6_readChain : Int → Int → st_S → (Int → st_S → Prop) → Prop) (rc_X6_readComparison : Int → st_S → (Int → st_S → Prop) → Prop) (rc_X6_readLink : Int → Int → st_S → (Int → st_S → Prop) → Prop) (rc_X6_readPart : Int → st_S → (Int → st_S → Prop) → Prop) (rc_X6_readPlain : Int → st_S → (Int → st_S → Prop) → Prop) (a1 : Int) (σ : st_S) (Q : Int → st_S → Prop) : Prop := rc_X6_readChain 2 a1 σ (fun r27 s28 => (¬ r27 = 0 → (¬ gI s28 12 5 = 3 → B_X6_readComparison_33 Q rc_X6_readBracket rc_X6_readChain rc_X6_readComparison rc_X6_readLink rc_X6_readPart rc_X6_readPlain a1 (-1) s28) ∧ (gI s28 12 5 = 3 → wp_X6_sign s28 (fun r30 s31 => wp_J0_indexOf_0f7a4 9 (o_i2c r30) s31 (fun r32 s33 => B_X6_readComparison_33 Q rc_X6_readBracket rc_X6_readChain rc_X6_readComparison rc_X6_readLink rc_X6_readPart rc_X6_readPlain a1 r32 s33)))) ∧ (r27 = 0 → Q 0 s28))
def e_X6_readLink (rc_X6_readBracket : Int → Int → Int → st_S → (Int → st_S → Prop) → Prop) (rc_X6_readChain : Int → Int → st_S → (Int → st_S → Prop) → Prop) (rc_X6_readComparison : Int → st_S → (Int → st_S → Prop) → Prop) (rc_X6_readLink : Int → Int → st_S → (Int → st_S → Prop) → Prop) (rc_X6_readPart : Int → st_S → (Int → st_S → Prop) → Prop) (rc_X6_readPlain : Int → st_S → (Int → st_S → Prop) → Prop) (a1 : Int) (a2 : Int) (σ : st_S) (Q : Int → st_S → Prop) : Prop := (a1 = 0 → rc_X6_readChain 1 a2 σ (fun r9 s10 => (r9 = 0 ∨ r9 = 1) ∧ Q r9 s10)) ∧ (a1 = 1 → rc_X6_readPlain a2 σ (fun r11 s12 => (r11 = 0 ∨ r11 = 1) ∧ Q r11 s12)) ∧ (a1 = 2 → rc_X6_readChain 3 a2 σ (fun r13 s14 => (r13 = 0 ∨ r13 = 1) ∧ Q r13 s14)) ∧ (a1 < 0 ∨ 2 < a1 → rc_X6_readPart a2 σ (fun r15 s16 => (r15 = 0 ∨ r15 = 1) ∧ Q r15 s16))
def B_X6_readPart_79 (Q : Int → st_S → Prop) (rc_X6_readBracket : Int → Int → Int → st_S → (Int → st_S → Prop) → Prop) (rc_X6_readChain : Int → Int → st_S → (Int → st_S → Prop) → Prop) (rc_X6_readComparison : Int → st_S → (Int → st_S → Prop) → Prop) (rc_X6_readLink : Int → Int → st_S → (Int → st_S → Prop) → Prop) (rc_X6_readPart : Int → st_S → (Int → st_S → Prop) → Prop) (rc_X6_readPlain : Int → st_S → (Int → st_S → Prop) → Prop)   (σ : st_S) : Prop := wp_X6_fail σ (fun r27 s28 => (r27 = 0 ∨ r27 = 1) ∧ Q r27 s28)
def B_X6_readPart_110 (Q : Int → st_S → Prop) (rc_X6_readBracket : Int → Int → Int → st_S → (Int → st_S → Prop) → Prop) (rc_X6_readChain : Int → Int → st_S → (Int → st_S → Prop) → Prop) (rc_X6_readComparison : Int → st_S → (Int → st_S → Prop) → Prop) (rc_X6_readLink : Int → Int → st_S → (Int → st_S → Prop) → Prop) (rc_X6_readPart : Int → st_S → (Int → st_S → Prop) → Prop) (rc_X6_readPlain : Int → st_S → (Int → st_S → Prop) → Prop)  (l2 : Int) (l3 : Int) (σ : st_S) : Prop := wp_X6_advance σ (fun s30 => (l3 = 0 → wp_X6_readWord l2 s30 (fun r31 s32 => (r31 = 0 ∨ r31 = 1) ∧ Q r31 s32)) ∧ (¬ l3 = 0 → Q 1 s30))
def B_X6_readPart_70 (Q : Int → st_S → Prop) (rc_X6_readBracket : Int → Int → Int → st_S → (Int → st_S → Prop) → Prop) (rc_X6_readChain : Int → Int → st_S → (Int → st_S → Prop) → Prop) (rc_X6_readComparison : Int → st_S → (Int → st_S → Prop) → Prop) (rc_X6_readLink : Int → Int → st_S → (Int → st_S → Prop) → Prop) (rc_X6_readPart : Int → st_S → (Int → st_S → Prop) → Prop) (rc_X6_readPlain : Int → st_S → (Int → st_S → Prop) → Prop)  (l2 : Int) (l3 : Int) (σ : st_S) : Prop := (gI σ 12 9 < 50 → ∀ x36 : Int, x36 = wr (gI σ 12 9 + 1) → ∀ s37 : st_S, s37 = sI σ 12 9 x36 → (l3 = 0 → B_X6_readPart_110 Q rc_X6_readBracket rc_X6_readChain rc_X6_readComparison rc_X6_readLink rc_X6_readPart rc_X6_readPlain l2 l3 s37) ∧ (¬ l3 = 0 → wp_X9_add 0 (gI s37 12 8) s37 (fun s40 => B_X6_readPart_110 Q rc_X6_readBracket rc_X6_readChain rc_X6_readComparison rc_X6_readLink rc_X6_readPart rc_X6_readPlain l2 l3 s40))) ∧ (¬ gI σ 12 9 < 50 → B_X6_readPart_79 Q rc_X6_readBracket rc_X6_readChain rc_X6_readComparison rc_X6_readLink rc_X6_readPart rc_X6_readPlain σ)
def B_X6_readPart_60 (Q : Int → st_S → Prop) (rc_X6_readBracket : Int → Int → Int → st_S → (Int → st_S → Prop) → Prop) (rc_X6_readChain : Int → Int → st_S → (Int → st_S → Prop) → Prop) (rc_X6_readComparison : Int → st_S → (Int → st_S → Prop) → Prop) (rc_X6_readLink : Int → Int → st_S → (Int → st_S → Prop) → Prop) (rc_X6_readPart : Int → st_S → (Int → st_S → Prop) → Prop) (rc_X6_readPlain : Int → st_S → (Int → st_S → Prop) → Prop)  (l2 : Int) (v0 : Int) (σ : st_S) : Prop := (¬ l2 = (-1) → B_X6_readPart_70 Q rc_X6_readBracket rc_X6_readChain rc_X6_readComparison rc_X6_readLink rc_X6_readPart rc_X6_readPlain l2 v0 σ) ∧ (l2 = (-1) → (v0 = 0 → B_X6_readPart_79 Q rc_X6_readBracket rc_X6_readChain rc_X6_readComparison rc_X6_readLink rc_X6_readPart rc_X6_readPlain σ) ∧ (¬ v0 = 0 → B_X6_readPart_70 Q rc_X6_readBracket rc_X6_readChain rc_X6_readComparison rc_X6_readLink rc_X6_readPart rc_X6_readPlain l2 v0 σ))
def B_X6_readPart_59 (Q : Int → st_S → Prop) (rc_X6_readBracket : Int → Int → Int → st_S → (Int → st_S → Prop) → Prop) (rc_X6_readChain : Int → Int → st_S → (Int → st_S → Prop) → Prop) (rc_X6_readComparison : Int → st_S → (Int → st_S → Prop) → Prop) (rc_X6_readLink : Int → Int → st_S → (Int → st_S → Prop) → Prop) (rc_X6_readPart : Int → st_S → (Int → st_S → Prop) → Prop) (rc_X6_readPlain : Int → st_S → (Int → st_S → Prop) → Prop)  (l2 : Int) (σ : st_S) : Prop := B_X6_readPart_60 Q rc_X6_readBracket rc_X6_readChain rc_X6_readComparison rc_X6_readLink rc_X6_readPart rc_X6_readPlain l2 0 σ
def B_X6_readPart_33 (Q : Int → st_S → Prop) (rc_X6_readBracket : Int → Int → Int → st_S → (Int → st_S → Prop) → Prop) (rc_X6_readChain : Int → Int → st_S → (Int → st_S → Prop) → Prop) (rc_X6_readComparison : Int → st_S → (Int → st_S → Prop) → Prop) (rc_X6_readLink : Int → Int → st_S → (Int → st_S → Prop) → Prop) (rc_X6_readPart : Int → st_S → (Int → st_S → Prop) → Prop) (rc_X6_readPlain : Int → st_S → (Int → st_S → Prop) → Prop)  (v0 : Nat) (σ : st_S) : Prop := wp_X6_place v0 σ (fun r45 s46 => (¬ gI s46 12 5 = 2 → B_X6_readPart_59 Q rc_X6_readBracket rc_X6_readChain rc_X6_readComparison rc_X6_readLink rc_X6_readPart rc_X6_readPlain r45 s46) ∧ (gI s46 12 5 = 2 → (1000 < gI s46 12 8 → B_X6_readPart_59 Q rc_X6_readBracket rc_X6_readChain rc_X6_readComparison rc_X6_readLink rc_X6_readPart rc_X6_readPlain r45 s46) ∧ (¬ 1000 < gI s46 12 8 → B_X6_readPart_60 Q rc_X6_readBracket rc_X6_readChain rc_X6_readComparison rc_X6_readLink rc_X6_readPart rc_X6_readPlain r45 1 s46)))
def e_X6_readPart (rc_X6_readBracket : Int → Int → Int → st_S → (Int → st_S → Prop) → Prop) (rc_X6_readChain : Int → Int → st_S → (Int → st_S → Prop) → Prop) (rc_X6_readComparison : Int → st_S → (Int → st_S → Prop) → Prop) (rc_X6_readLink : Int → Int → st_S → (Int → st_S → Prop) → Prop) (rc_X6_readPart : Int → st_S → (Int → st_S → Prop) → Prop) (rc_X6_readPlain : Int → st_S → (Int → st_S → Prop) → Prop) (a1 : Int) (σ : st_S) (Q : Int → st_S → Prop) : Prop := wp_X6_isSign 91 σ (fun r51 s52 => (r51 = 0 → (gI s52 12 4 = 0 → B_X6_readPart_33 Q rc_X6_readBracket rc_X6_readChain rc_X6_readComparison rc_X6_readLink rc_X6_readPart rc_X6_readPlain 1 s52) ∧ (¬ gI s52 12 4 = 0 → B_X6_readPart_33 Q rc_X6_readBracket rc_X6_readChain rc_X6_readComparison rc_X6_readLink rc_X6_readPart rc_X6_readPlain 3 s52)) ∧ (¬ r51 = 0 → rc_X6_readBracket 2 93 a1 s52 (fun r55 s56 => (r55 = 0 ∨ r55 = 1) ∧ Q r55 s56)))
def B_X6_readPlain_29 (Q : Int → st_S → Prop) (rc_X6_readBracket : Int → Int → Int → st_S → (Int → st_S → Prop) → Prop) (rc_X6_readChain : Int → Int → st_S → (Int → st_S → Prop) → Prop) (rc_X6_readComparison : Int → st_S → (Int → st_S → Prop) → Prop) (rc_X6_readLink : Int → Int → st_S → (Int → st_S → Prop) → Prop) (rc_X6_readPart : Int → st_S → (Int → st_S → Prop) → Prop) (rc_X6_readPlain : Int → st_S → (Int → st_S → Prop) → Prop) (k4 : Int → Int → Int → st_S → Prop) (l1 : Int) (l3 : Int) (v0 : Int) (σ : st_S) : Prop := wp_X6_advance σ (fun s19 => ∀ x20 : Int, x20 = wr (l3 + 1) → k4 l1 v0 x20 s19)
def B_X6_readPlain_84 (Q : Int → st_S → Prop) (rc_X6_readBracket : Int → Int → Int → st_S → (Int → st_S → Prop) → Prop) (rc_X6_readChain : Int → Int → st_S → (Int → st_S → Prop) → Prop) (rc_X6_readComparison : Int → st_S → (Int → st_S → Prop) → Prop) (rc_X6_readLink : Int → Int → st_S → (Int → st_S → Prop) → Prop) (rc_X6_readPart : Int → st_S → (Int → st_S → Prop) → Prop) (rc_X6_readPlain : Int → st_S → (Int → st_S → Prop) → Prop)  (l3 : Int) (σ : st_S) : Prop := (l3 = 0 ∨ l3 = 1) ∧ Q l3 σ
def B_X6_readPlain_65 (Q : Int → st_S → Prop) (rc_X6_readBracket : Int → Int → Int → st_S → (Int → st_S → Prop) → Prop) (rc_X6_readChain : Int → Int → st_S → (Int → st_S → Prop) → Prop) (rc_X6_readComparison : Int → st_S → (Int → st_S → Prop) → Prop) (rc_X6_readLink : Int → Int → st_S → (Int → st_S → Prop) → Prop) (rc_X6_readPart : Int → st_S → (Int → st_S → Prop) → Prop) (rc_X6_readPlain : Int → st_S → (Int → st_S → Prop) → Prop)  (l2 : Int) (v0 : Int) (σ : st_S) : Prop := (v0 = 0 → B_X6_readPlain_84 Q rc_X6_readBracket rc_X6_readChain rc_X6_readComparison rc_X6_readLink rc_X6_readPart rc_X6_readPlain v0 σ) ∧ (¬ v0 = 0 → (l2 = 0 → B_X6_readPlain_84 Q rc_X6_readBracket rc_X6_readChain rc_X6_readComparison rc_X6_readLink rc_X6_readPart rc_X6_readPlain v0 σ) ∧ (¬ l2 = 0 → wp_X9_add 10 0 σ (fun s22 => B_X6_readPlain_84 Q rc_X6_readBracket rc_X6_readChain rc_X6_readComparison rc_X6_readLink rc_X6_readPart rc_X6_readPlain v0 s22)))
def B_X6_readPlain_40 (Q : Int → st_S → Prop) (rc_X6_readBracket : Int → Int → Int → st_S → (Int → st_S → Prop) → Prop) (rc_X6_readChain : Int → Int → st_S → (Int → st_S → Prop) → Prop) (rc_X6_readComparison : Int → st_S → (Int → st_S → Prop) → Prop) (rc_X6_readLink : Int → Int → st_S → (Int → st_S → Prop) → Prop) (rc_X6_readPart : Int → st_S → (Int → st_S → Prop) → Prop) (rc_X6_readPlain : Int → st_S → (Int → st_S → Prop) → Prop)  (l1 : Int) (l2 : Int) (σ : st_S) : Prop := wp_X6_isSign 40 σ (fun r25 s26 => (r25 = 0 → rc_X6_readComparison l1 s26 (fun r27 s28 => B_X6_readPlain_65 Q rc_X6_readBracket rc_X6_readChain rc_X6_readComparison rc_X6_readLink rc_X6_readPart rc_X6_readPlain l2 r27 s28)) ∧ (¬ r25 = 0 → rc_X6_readBracket 0 41 l1 s26 (fun r29 s30 => B_X6_readPlain_65 Q rc_X6_readBracket rc_X6_readChain rc_X6_readComparison rc_X6_readLink rc_X6_readPart rc_X6_readPlain l2 r29 s30)))
def L_X6_readPlain_4 (Q : Int → st_S → Prop) (rc_X6_readBracket : Int → Int → Int → st_S → (Int → st_S → Prop) → Prop) (rc_X6_readChain : Int → Int → st_S → (Int → st_S → Prop) → Prop) (rc_X6_readComparison : Int → st_S → (Int → st_S → Prop) → Prop) (rc_X6_readLink : Int → Int → st_S → (Int → st_S → Prop) → Prop) (rc_X6_readPart : Int → st_S → (Int → st_S → Prop) → Prop) (rc_X6_readPlain : Int → st_S → (Int → st_S → Prop) → Prop)  : Nat → Int → Int → Int → st_S → Prop
  | 0 => fun _ _ _ _ => False
  | n + 1 => fun l1 l2 l3 σ => (400 ≤ l3 → B_X6_readPlain_40 Q rc_X6_readBracket rc_X6_readChain rc_X6_readComparison rc_X6_readLink rc_X6_readPart rc_X6_readPlain l1 l2 σ) ∧ (¬ 400 ≤ l3 → wp_X6_isWord 6 σ (fun r32 s33 => (r32 = 0 → B_X6_readPlain_40 Q rc_X6_readBracket rc_X6_readChain rc_X6_readComparison rc_X6_readLink rc_X6_readPart rc_X6_readPlain l1 l2 s33) ∧ (¬ r32 = 0 → (¬ l2 = 0 → B_X6_readPlain_29 Q rc_X6_readBracket rc_X6_readChain rc_X6_readComparison rc_X6_readLink rc_X6_readPart rc_X6_readPlain (L_X6_readPlain_4 Q rc_X6_readBracket rc_X6_readChain rc_X6_readComparison rc_X6_readLink rc_X6_readPart rc_X6_readPlain n) l1 l3 0 s33) ∧ (l2 = 0 → B_X6_readPlain_29 Q rc_X6_readBracket rc_X6_readChain rc_X6_readComparison rc_X6_readLink rc_X6_readPart rc_X6_readPlain (L_X6_readPlain_4 Q rc_X6_readBracket rc_X6_readChain rc_X6_readComparison rc_X6_readLink rc_X6_readPart rc_X6_readPlain n) l1 l3 1 s33))))
def e_X6_readPlain (rc_X6_readBracket : Int → Int → Int → st_S → (Int → st_S → Prop) → Prop) (rc_X6_readChain : Int → Int → st_S → (Int → st_S → Prop) → Prop) (rc_X6_readComparison : Int → st_S → (Int → st_S → Prop) → Prop) (rc_X6_readLink : Int → Int → st_S → (Int → st_S → Prop) → Prop) (rc_X6_readPart : Int → st_S → (Int → st_S → Prop) → Prop) (rc_X6_readPlain : Int → st_S → (Int → st_S → Prop) → Prop) (a1 : Int) (σ : st_S) (Q : Int → st_S → Prop) : Prop := ∃ m4 : Nat, L_X6_readPlain_4 Q rc_X6_readBracket rc_X6_readChain rc_X6_readComparison rc_X6_readLink rc_X6_readPart rc_X6_readPlain m4 a1 0 0 σ
def G_X6_readBracket : Nat → (Int → Int → Int → st_S → (Int → st_S → Prop) → Prop) × (Int → Int → st_S → (Int → st_S → Prop) → Prop) × (Int → st_S → (Int → st_S → Prop) → Prop) × (Int → Int → st_S → (Int → st_S → Prop) → Prop) × (Int → st_S → (Int → st_S → Prop) → Prop) × (Int → st_S → (Int → st_S → Prop) → Prop)
  | 0 => (fun _ _ _ _ _ => False, fun _ _ _ _ => False, fun _ _ _ => False, fun _ _ _ _ => False, fun _ _ _ => False, fun _ _ _ => False)
  | d + 1 => (e_X6_readBracket ((G_X6_readBracket d).1) ((G_X6_readBracket d).2.1) ((G_X6_readBracket d).2.2.1) ((G_X6_readBracket d).2.2.2.1) ((G_X6_readBracket d).2.2.2.2.1) ((G_X6_readBracket d).2.2.2.2.2), e_X6_readChain ((G_X6_readBracket d).1) ((G_X6_readBracket d).2.1) ((G_X6_readBracket d).2.2.1) ((G_X6_readBracket d).2.2.2.1) ((G_X6_readBracket d).2.2.2.2.1) ((G_X6_readBracket d).2.2.2.2.2), e_X6_readComparison ((G_X6_readBracket d).1) ((G_X6_readBracket d).2.1) ((G_X6_readBracket d).2.2.1) ((G_X6_readBracket d).2.2.2.1) ((G_X6_readBracket d).2.2.2.2.1) ((G_X6_readBracket d).2.2.2.2.2), e_X6_readLink ((G_X6_readBracket d).1) ((G_X6_readBracket d).2.1) ((G_X6_readBracket d).2.2.1) ((G_X6_readBracket d).2.2.2.1) ((G_X6_readBracket d).2.2.2.2.1) ((G_X6_readBracket d).2.2.2.2.2), e_X6_readPart ((G_X6_readBracket d).1) ((G_X6_readBracket d).2.1) ((G_X6_readBracket d).2.2.1) ((G_X6_readBracket d).2.2.2.1) ((G_X6_readBracket d).2.2.2.2.1) ((G_X6_readBracket d).2.2.2.2.2), e_X6_readPlain ((G_X6_readBracket d).1) ((G_X6_readBracket d).2.1) ((G_X6_readBracket d).2.2.1) ((G_X6_readBracket d).2.2.2.1) ((G_X6_readBracket d).2.2.2.2.1) ((G_X6_readBracket d).2.2.2.2.2))
def wp_X6_readBracket (d : Nat) : Int → Int → Int → st_S → (Int → st_S → Prop) → Prop := (G_X6_readBracket d).1
def wp_X6_readChain (d : Nat) : Int → Int → st_S → (Int → st_S → Prop) → Prop := (G_X6_readBracket d).2.1
def wp_X6_readComparison (d : Nat) : Int → st_S → (Int → st_S → Prop) → Prop := (G_X6_readBracket d).2.2.1
def wp_X6_readLink (d : Nat) : Int → Int → st_S → (Int → st_S → Prop) → Prop := (G_X6_readBracket d).2.2.2.1
def wp_X6_readPart (d : Nat) : Int → st_S → (Int → st_S → Prop) → Prop := (G_X6_readBracket d).2.2.2.2.1
def wp_X6_readPlain (d : Nat) : Int → st_S → (Int → st_S → Prop) → Prop := (G_X6_readBracket d).2.2.2.2.2
set_option maxRecDepth 20000 in
theorem ce_X6_readBracket {d : Nat} {rc_X6_readBracket : Int → Int → Int → st_S → (Int → st_S → Prop) → Prop} (hr_X6_readBracket : ∀ {l : Launch} {E : ev_E} (hE : Eok E) (hm : eM E = 1) {a1 : Int} {a2 : Int} {a3 : Int} (ca1 : wr a1 = a1) (ca2 : wr a2 = a2) (ca3 : wr a3 = a3) {σ : st_S} {Q : Int → st_S → Prop}, rc_X6_readBracket a1 a2 a3 σ Q → cM l yX6_readBracket cX6_readBracket 4 (some .boolean) E (8 + d) 0 0 [vR E 12, vI a1, vI a2, vI a3] σ (qI E (gN σ + 0) Q)) {rc_X6_readChain : Int → Int → st_S → (Int → st_S → Prop) → Prop} (hr_X6_readChain : ∀ {l : Launch} {E : ev_E} (hE : Eok E) (hm : eM E = 1) {a1 : Int} {a2 : Int} (ca1 : wr a1 = a1) (ca2 : wr a2 = a2) {σ : st_S} {Q : Int → st_S → Prop}, rc_X6_readChain a1 a2 σ Q → cM l yX6_readChain cX6_readChain 7 (some .boolean) E (8 + d) 0 0 [vR E 12, vI a1, vI a2] σ (qI E (gN σ + 0) Q)) {rc_X6_readComparison : Int → st_S → (Int → st_S → Prop) → Prop} (hr_X6_readComparison : ∀ {l : Launch} {E : ev_E} (hE : Eok E) (hm : eM E = 1) {a1 : Int} (ca1 : wr a1 = a1) {σ : st_S} {Q : Int → st_S → Prop}, rc_X6_readComparison a1 σ Q → cM l yX6_readComparison cX6_readComparison 3 (some .boolean) E (8 + d) 0 0 [vR E 12, vI a1] σ (qI E (gN σ + 0) Q)) {rc_X6_readLink : Int → Int → st_S → (Int → st_S → Prop) → Prop} (hr_X6_readLink : ∀ {l : Launch} {E : ev_E} (hE : Eok E) (hm : eM E = 1) {a1 : Int} {a2 : Int} (ca1 : wr a1 = a1) (ca2 : wr a2 = a2) {σ : st_S} {Q : Int → st_S → Prop}, rc_X6_readLink a1 a2 σ Q → cM l yX6_readLink cX6_readLink 3 (some .boolean) E (8 + d) 0 0 [vR E 12, vI a1, vI a2] σ (qI E (gN σ + 0) Q)) {rc_X6_readPart : Int → st_S → (Int → st_S → Prop) → Prop} (hr_X6_readPart : ∀ {l : Launch} {E : ev_E} (hE : Eok E) (hm : eM E = 1) {a1 : Int} (ca1 : wr a1 = a1) {σ : st_S} {Q : Int → st_S → Prop}, rc_X6_readPart a1 σ Q → cM l yX6_readPart cX6_readPart 4 (some .boolean) E (8 + d) 0 0 [vR E 12, vI a1] σ (qI E (gN σ + 0) Q)) {rc_X6_readPlain : Int → st_S → (Int → st_S → Prop) → Prop} (hr_X6_readPlain : ∀ {l : Launch} {E : ev_E} (hE : Eok E) (hm : eM E = 1) {a1 : Int} (ca1 : wr a1 = a1) {σ : st_S} {Q : Int → st_S → Prop}, rc_X6_readPlain a1 σ Q → cM l yX6_readPlain cX6_readPlain 4 (some .boolean) E (8 + d) 0 0 [vR E 12, vI a1] σ (qI E (gN σ + 0) Q)) {l : Launch} {E : ev_E} (hE : Eok E) (hm : eM E = 1) {a1 : Int} {a2 : Int} {a3 : Int} (ca1 : wr a1 = a1) (ca2 : wr a2 = a2) (ca3 : wr a3 = a3) {σ : st_S} {Q : Int → st_S → Prop} (h : e_X6_readBracket rc_X6_readBracket rc_X6_readChain rc_X6_readComparison rc_X6_readLink rc_X6_readPart rc_X6_readPlain a1 a2 a3 σ Q) : cM l yX6_readBracket cX6_readBracket 4 (some .boolean) E (8 + (d + 1)) 0 0 [vR E 12, vI a1, vI a2, vI a3] σ (qI E (gN σ + 0) Q) := by
  refine cM_of (lv := [(0, vR E 12), (1, vI a1), (2, vI a2), (3, vI a3)]) (by decide) hE (Nat.le_of_ble_eq_true rfl) (rfl) ?_
  intro X hX hc _ _ hr _ _
  subst hX
  have hh : 8 + (d + 1) ≤ 8 + (d + 1) := Nat.le_refl _
  have hh1 : 1 ≤ 8 + (d + 1) := by omega
  replace h : (a3 < 8 → wp_X6_advance σ (fun s14 => rc_X6_readChain a1 (wr (a3 + 1)) s14 (fun r15 s16 => (¬ r15 = 0 → wp_X6_isSign a2 s16 (fun r17 s18 => (¬ r17 = 0 → wp_X6_advance s18 (fun s20 => Q 1 s20)) ∧ (r17 = 0 → wp_X6_fail s18 (fun r21 s22 => (r21 = 0 ∨ r21 = 1) ∧ Q r21 s22)))) ∧ (r15 = 0 → Q 0 s16)))) ∧ (¬ a3 < 8 → wp_X6_fail σ (fun r25 s26 => (r25 = 0 ∨ r25 = 1) ∧ Q r25 s26)) := h
  refine j_iload_n hc 3 dX6_readBracket_0 rfl rfl ?_
  refine j_bipush hc dX6_readBracket_1 (by decide) ?_
  refine j_ic_lt hc ca3 (wlit 8 (by decide)) (tgt := 11) dX6_readBracket_3 (by decide) (fun q27 => ?_) (fun q27 => ?_)
  · replace h := h.1 q27
    refine j_aload_nR hc 0 dX6_readBracket_11 rfl rfl ?_
    refine j_vV hc (k := 6) (by decide) (fun hv => Or.inl (sv_k hv hm rfl)) ml_RX6_43 mv_X6_advance (As := []) (c_X6_advance (cx_E hc) hm  h) rfl (by omega) (by decide) ⟨Nat.zero_le _, Nat.zero_le _⟩ (Nat.le_of_ble_eq_true rfl) rfl dX6_readBracket_12 (fun s14 h => ?_)
    refine j_aload_nR hc 0 dX6_readBracket_15 rfl rfl ?_
    refine j_iload_n hc 1 dX6_readBracket_16 rfl rfl ?_
    refine j_iload_n hc 3 dX6_readBracket_17 rfl rfl ?_
    refine j_iconst hc dX6_readBracket_18 ?_
    refine j_iadd hc dX6_readBracket_19 ?_
    refine j_vI hc (k := 6) (by decide) (fun hv => Or.inl (sv_k hv hm rfl)) ml_RX6_81 mv_X6_readChain (As := [vI a1, vI (wr (a3 + 1))]) (hr_X6_readChain (cx_E hc) hm ca1 (wr_wr _) h) rfl (by omega) (by decide) ⟨Nat.zero_le _, Nat.zero_le _⟩ (Nat.le_of_ble_eq_true rfl) (by simp only [vI_wr, vL_wl]; rfl) dX6_readBracket_20 (fun r15 s16 cr15 h => ?_)
    refine j_if_ne hc cr15 (tgt := 28) dX6_readBracket_23 (by decide) (fun q24 => ?_) (fun q24 => ?_)
    · replace h := h.1 q24
      refine j_aload_nR hc 0 dX6_readBracket_28 rfl rfl ?_
      refine j_iload_n hc 2 dX6_readBracket_29 rfl rfl ?_
      refine j_vI hc (k := 6) (by decide) (fun hv => Or.inl (sv_k hv hm rfl)) ml_RX6_53 mv_X6_isSign (As := [vI a2]) (c_X6_isSign (cx_E hc) hm ca2 h) rfl (by omega) (by decide) ⟨Nat.zero_le _, Nat.zero_le _⟩ (Nat.le_of_ble_eq_true rfl) rfl dX6_readBracket_30 (fun r17 s18 cr17 h => ?_)
      refine j_if_ne hc cr17 (tgt := 41) dX6_readBracket_33 (by decide) (fun q23 => ?_) (fun q23 => ?_)
      · replace h := h.1 q23
        refine j_aload_nR hc 0 dX6_readBracket_41 rfl rfl ?_
        refine j_vV hc (k := 6) (by decide) (fun hv => Or.inl (sv_k hv hm rfl)) ml_RX6_43 mv_X6_advance (As := []) (c_X6_advance (cx_E hc) hm  h) rfl (by omega) (by decide) ⟨Nat.zero_le _, Nat.zero_le _⟩ (Nat.le_of_ble_eq_true rfl) rfl dX6_readBracket_42 (fun s20 h => ?_)
        refine j_iconst hc dX6_readBracket_45 ?_
        exact j_zret hc hr (nar_bool (Or.inr rfl)) (by decide) h dX6_readBracket_46
      · replace h := h.2 q23
        refine j_aload_nR hc 0 dX6_readBracket_36 rfl rfl ?_
        refine j_vI hc (k := 6) (by decide) (fun hv => Or.inl (sv_k hv hm rfl)) ml_RX6_57 mv_X6_fail (As := []) (c_X6_fail (cx_E hc) hm  h) rfl (by omega) (by decide) ⟨Nat.zero_le _, Nat.zero_le _⟩ (Nat.le_of_ble_eq_true rfl) rfl dX6_readBracket_37 (fun r21 s22 cr21 h => ?_)
        exact j_zret hc hr (nar_bool h.1) (by rcases h.1 with e | e <;> (rw [e]; decide)) h.2 dX6_readBracket_40
    · replace h := h.2 q24
      refine j_iconst hc dX6_readBracket_26 ?_
      exact j_zret hc hr (nar_bool (Or.inl rfl)) (by decide) h dX6_readBracket_27
  · replace h := h.2 q27
    refine j_aload_nR hc 0 dX6_readBracket_6 rfl rfl ?_
    refine j_vI hc (k := 6) (by decide) (fun hv => Or.inl (sv_k hv hm rfl)) ml_RX6_57 mv_X6_fail (As := []) (c_X6_fail (cx_E hc) hm  h) rfl (by omega) (by decide) ⟨Nat.zero_le _, Nat.zero_le _⟩ (Nat.le_of_ble_eq_true rfl) rfl dX6_readBracket_7 (fun r25 s26 cr25 h => ?_)
    exact j_zret hc hr (nar_bool h.1) (by rcases h.1 with e | e <;> (rw [e]; decide)) h.2 dX6_readBracket_10
set_option maxRecDepth 20000 in
theorem jb_X6_readChain_126 {X : jj_X} {E : ev_E} {n0 hN : Nat} (hc : Cx X E cX6_readChain 7 n0 hN RX6) (hm : eM E = 1) (hr : (xT X).sig.returnType = (some .boolean)) {d : Nat} (hh : 8 + (d + 1) ≤ hN) {Q : Int → st_S → Prop} {rc_X6_readBracket : Int → Int → Int → st_S → (Int → st_S → Prop) → Prop} (hr_X6_readBracket : ∀ {l : Launch} {E : ev_E} (hE : Eok E) (hm : eM E = 1) {a1 : Int} {a2 : Int} {a3 : Int} (ca1 : wr a1 = a1) (ca2 : wr a2 = a2) (ca3 : wr a3 = a3) {σ : st_S} {Q : Int → st_S → Prop}, rc_X6_readBracket a1 a2 a3 σ Q → cM l yX6_readBracket cX6_readBracket 4 (some .boolean) E (8 + d) 0 0 [vR E 12, vI a1, vI a2, vI a3] σ (qI E (gN σ + 0) Q)) {rc_X6_readChain : Int → Int → st_S → (Int → st_S → Prop) → Prop} (hr_X6_readChain : ∀ {l : Launch} {E : ev_E} (hE : Eok E) (hm : eM E = 1) {a1 : Int} {a2 : Int} (ca1 : wr a1 = a1) (ca2 : wr a2 = a2) {σ : st_S} {Q : Int → st_S → Prop}, rc_X6_readChain a1 a2 σ Q → cM l yX6_readChain cX6_readChain 7 (some .boolean) E (8 + d) 0 0 [vR E 12, vI a1, vI a2] σ (qI E (gN σ + 0) Q)) {rc_X6_readComparison : Int → st_S → (Int → st_S → Prop) → Prop} (hr_X6_readComparison : ∀ {l : Launch} {E : ev_E} (hE : Eok E) (hm : eM E = 1) {a1 : Int} (ca1 : wr a1 = a1) {σ : st_S} {Q : Int → st_S → Prop}, rc_X6_readComparison a1 σ Q → cM l yX6_readComparison cX6_readComparison 3 (some .boolean) E (8 + d) 0 0 [vR E 12, vI a1] σ (qI E (gN σ + 0) Q)) {rc_X6_readLink : Int → Int → st_S → (Int → st_S → Prop) → Prop} (hr_X6_readLink : ∀ {l : Launch} {E : ev_E} (hE : Eok E) (hm : eM E = 1) {a1 : Int} {a2 : Int} (ca1 : wr a1 = a1) (ca2 : wr a2 = a2) {σ : st_S} {Q : Int → st_S → Prop}, rc_X6_readLink a1 a2 σ Q → cM l yX6_readLink cX6_readLink 3 (some .boolean) E (8 + d) 0 0 [vR E 12, vI a1, vI a2] σ (qI E (gN σ + 0) Q)) {rc_X6_readPart : Int → st_S → (Int → st_S → Prop) → Prop} (hr_X6_readPart : ∀ {l : Launch} {E : ev_E} (hE : Eok E) (hm : eM E = 1) {a1 : Int} (ca1 : wr a1 = a1) {σ : st_S} {Q : Int → st_S → Prop}, rc_X6_readPart a1 σ Q → cM l yX6_readPart cX6_readPart 4 (some .boolean) E (8 + d) 0 0 [vR E 12, vI a1] σ (qI E (gN σ + 0) Q)) {rc_X6_readPlain : Int → st_S → (Int → st_S → Prop) → Prop} (hr_X6_readPlain : ∀ {l : Launch} {E : ev_E} (hE : Eok E) (hm : eM E = 1) {a1 : Int} (ca1 : wr a1 = a1) {σ : st_S} {Q : Int → st_S → Prop}, rc_X6_readPlain a1 σ Q → cM l yX6_readPlain cX6_readPlain 4 (some .boolean) E (8 + d) 0 0 [vR E 12, vI a1] σ (qI E (gN σ + 0) Q)) {k13 : Int → Int → Int → st_S → Prop} (hk13 : ∀ {l1 : Int} {l2 : Int} {l3 : Int} (cl1 : wr l1 = l1) (cl2 : wr l2 = l2) (cl3 : wr l3 = l3) {σ : st_S}, k13 l1 l2 l3 σ → J X E 7 n0 0 0 (MQ (xB X) (qI E (n0 + 0) Q) (xA X) (xS X) 0 0 (eF E)) σ 13 [(0, vR E 12), (1, vI l1), (2, vI l2), (3, vI l3)] []) {l1 : Int} {l2 : Int} {l3 : Int} (cl1 : wr l1 = l1) (cl2 : wr l2 = l2) (cl3 : wr l3 = l3) {σ : st_S} (h : B_X6_readChain_126 Q rc_X6_readBracket rc_X6_readChain rc_X6_readComparison rc_X6_readLink rc_X6_readPart rc_X6_readPlain k13 l1 l2 l3 σ) : J X E 7 n0 0 0 (MQ (xB X) (qI E (n0 + 0) Q) (xA X) (xS X) 0 0 (eF E)) σ 126 [(0, vR E 12), (1, vI l1), (2, vI l2), (3, vI l3)] [] := by
  have hh1 : 1 ≤ hN := by omega
  replace h : ∀ x24 : Int, x24 = wr (l3 + 1) → k13 l1 l2 x24 σ := h
  obtain ⟨x24, ex24⟩ : ∃ y : Int, y = wr (l3 + 1) := ⟨_, rfl⟩
  have cx24 : wr x24 = x24 := by rw [ex24]; exact wr_wr _
  replace h := h x24 ex24
  refine j_iinc (lv' := [(3, vI x24), (0, vR E 12), (1, vI l1), (2, vI l2)]) hc 3 dX6_readChain_126 rfl (by decide) ex24 rfl ?_
  refine j_goto (tgt := 13) hc dX6_readChain_129 (by decide) ?_
  refine j_sub (lv' := [(0, vR E 12), (1, vI l1), (2, vI l2), (3, vI x24)]) [1, 2, 3, 0] rfl ?_
  exact hk13 cl1 cl2 cx24 h
set_option maxRecDepth 20000 in
theorem jb_X6_readChain_75 {X : jj_X} {E : ev_E} {n0 hN : Nat} (hc : Cx X E cX6_readChain 7 n0 hN RX6) (hm : eM E = 1) (hr : (xT X).sig.returnType = (some .boolean)) {d : Nat} (hh : 8 + (d + 1) ≤ hN) {Q : Int → st_S → Prop} {rc_X6_readBracket : Int → Int → Int → st_S → (Int → st_S → Prop) → Prop} (hr_X6_readBracket : ∀ {l : Launch} {E : ev_E} (hE : Eok E) (hm : eM E = 1) {a1 : Int} {a2 : Int} {a3 : Int} (ca1 : wr a1 = a1) (ca2 : wr a2 = a2) (ca3 : wr a3 = a3) {σ : st_S} {Q : Int → st_S → Prop}, rc_X6_readBracket a1 a2 a3 σ Q → cM l yX6_readBracket cX6_readBracket 4 (some .boolean) E (8 + d) 0 0 [vR E 12, vI a1, vI a2, vI a3] σ (qI E (gN σ + 0) Q)) {rc_X6_readChain : Int → Int → st_S → (Int → st_S → Prop) → Prop} (hr_X6_readChain : ∀ {l : Launch} {E : ev_E} (hE : Eok E) (hm : eM E = 1) {a1 : Int} {a2 : Int} (ca1 : wr a1 = a1) (ca2 : wr a2 = a2) {σ : st_S} {Q : Int → st_S → Prop}, rc_X6_readChain a1 a2 σ Q → cM l yX6_readChain cX6_readChain 7 (some .boolean) E (8 + d) 0 0 [vR E 12, vI a1, vI a2] σ (qI E (gN σ + 0) Q)) {rc_X6_readComparison : Int → st_S → (Int → st_S → Prop) → Prop} (hr_X6_readComparison : ∀ {l : Launch} {E : ev_E} (hE : Eok E) (hm : eM E = 1) {a1 : Int} (ca1 : wr a1 = a1) {σ : st_S} {Q : Int → st_S → Prop}, rc_X6_readComparison a1 σ Q → cM l yX6_readComparison cX6_readComparison 3 (some .boolean) E (8 + d) 0 0 [vR E 12, vI a1] σ (qI E (gN σ + 0) Q)) {rc_X6_readLink : Int → Int → st_S → (Int → st_S → Prop) → Prop} (hr_X6_readLink : ∀ {l : Launch} {E : ev_E} (hE : Eok E) (hm : eM E = 1) {a1 : Int} {a2 : Int} (ca1 : wr a1 = a1) (ca2 : wr a2 = a2) {σ : st_S} {Q : Int → st_S → Prop}, rc_X6_readLink a1 a2 σ Q → cM l yX6_readLink cX6_readLink 3 (some .boolean) E (8 + d) 0 0 [vR E 12, vI a1, vI a2] σ (qI E (gN σ + 0) Q)) {rc_X6_readPart : Int → st_S → (Int → st_S → Prop) → Prop} (hr_X6_readPart : ∀ {l : Launch} {E : ev_E} (hE : Eok E) (hm : eM E = 1) {a1 : Int} (ca1 : wr a1 = a1) {σ : st_S} {Q : Int → st_S → Prop}, rc_X6_readPart a1 σ Q → cM l yX6_readPart cX6_readPart 4 (some .boolean) E (8 + d) 0 0 [vR E 12, vI a1] σ (qI E (gN σ + 0) Q)) {rc_X6_readPlain : Int → st_S → (Int → st_S → Prop) → Prop} (hr_X6_readPlain : ∀ {l : Launch} {E : ev_E} (hE : Eok E) (hm : eM E = 1) {a1 : Int} (ca1 : wr a1 = a1) {σ : st_S} {Q : Int → st_S → Prop}, rc_X6_readPlain a1 σ Q → cM l yX6_readPlain cX6_readPlain 4 (some .boolean) E (8 + d) 0 0 [vR E 12, vI a1] σ (qI E (gN σ + 0) Q)) {k13 : Int → Int → Int → st_S → Prop} (hk13 : ∀ {l1 : Int} {l2 : Int} {l3 : Int} (cl1 : wr l1 = l1) (cl2 : wr l2 = l2) (cl3 : wr l3 = l3) {σ : st_S}, k13 l1 l2 l3 σ → J X E 7 n0 0 0 (MQ (xB X) (qI E (n0 + 0) Q) (xA X) (xS X) 0 0 (eF E)) σ 13 [(0, vR E 12), (1, vI l1), (2, vI l2), (3, vI l3)] []) {l1 : Int} {l2 : Int} {l3 : Int} {l4 : Int} {l5 : Int} {l6 : Int} (cl1 : wr l1 = l1) (cl2 : wr l2 = l2) (cl3 : wr l3 = l3) (cl4 : wr l4 = l4) (cl5 : wr l5 = l5) (cl6 : wr l6 = l6) {σ : st_S} (h : B_X6_readChain_75 Q rc_X6_readBracket rc_X6_readChain rc_X6_readComparison rc_X6_readLink rc_X6_readPart rc_X6_readPlain k13 l1 l2 l3 l4 l5 l6 σ) : J X E 7 n0 0 0 (MQ (xB X) (qI E (n0 + 0) Q) (xA X) (xS X) 0 0 (eF E)) σ 75 [(0, vR E 12), (1, vI l1), (2, vI l2), (3, vI l3), (4, vI l4), (5, vI l5), (6, vI l6)] [] := by
  have hh1 : 1 ≤ hN := by omega
  replace h : wp_X6_advance σ (fun s26 => rc_X6_readLink l1 l2 s26 (fun r27 s28 => (¬ r27 = 0 → (l6 = 0 → wp_X9_add l4 0 s28 (fun s30 => B_X6_readChain_126 Q rc_X6_readBracket rc_X6_readChain rc_X6_readComparison rc_X6_readLink rc_X6_readPart rc_X6_readPlain k13 l1 l2 l3 s30)) ∧ (¬ l6 = 0 → wp_X9_replace l5 l4 (gI s28 14 6) s28 (fun s33 => B_X6_readChain_126 Q rc_X6_readBracket rc_X6_readChain rc_X6_readComparison rc_X6_readLink rc_X6_readPart rc_X6_readPlain k13 l1 l2 l3 s33))) ∧ (r27 = 0 → Q 0 s28))) := h
  refine j_aload_nR hc 0 dX6_readChain_75 rfl rfl ?_
  refine j_vV hc (k := 6) (by decide) (fun hv => Or.inl (sv_k hv hm rfl)) ml_RX6_43 mv_X6_advance (As := []) (c_X6_advance (cx_E hc) hm  h) rfl (by omega) (by decide) ⟨Nat.zero_le _, Nat.zero_le _⟩ (Nat.le_of_ble_eq_true rfl) rfl dX6_readChain_76 (fun s26 h => ?_)
  refine j_aload_nR hc 0 dX6_readChain_79 rfl rfl ?_
  refine j_iload_n hc 1 dX6_readChain_80 rfl rfl ?_
  refine j_iload_n hc 2 dX6_readChain_81 rfl rfl ?_
  refine j_vI hc (k := 6) (by decide) (fun hv => Or.inl (sv_k hv hm rfl)) ml_RX6_104 mv_X6_readLink (As := [vI l1, vI l2]) (hr_X6_readLink (cx_E hc) hm cl1 cl2 h) rfl (by omega) (by decide) ⟨Nat.zero_le _, Nat.zero_le _⟩ (Nat.le_of_ble_eq_true rfl) rfl dX6_readChain_82 (fun r27 s28 cr27 h => ?_)
  refine j_if_ne hc cr27 (tgt := 90) dX6_readChain_85 (by decide) (fun q35 => ?_) (fun q35 => ?_)
  · replace h := h.1 q35
    refine j_iload hc 6 dX6_readChain_90 rfl ?_
    refine j_if_eq hc cl6 (tgt := 116) dX6_readChain_92 (by decide) (fun q34 => ?_) (fun q34 => ?_)
    · replace h := h.1 q34
      refine j_aload_nR hc 0 dX6_readChain_116 rfl rfl ?_
      refine j_getR (c' := 14) hc fl_RX6_18 rfl rfl (fun hv => (sv_k hv hm rfl)) dX6_readChain_117 ?_
      refine j_iload hc 4 dX6_readChain_120 rfl ?_
      refine j_iconst hc dX6_readChain_122 ?_
      refine j_vV hc (k := 9) (by decide) (fun hv => Or.inl (sv_k hv hm rfl)) ml_RX6_111 mv_X9_add (As := [vI l4, vI 0]) (c_X9_add (cx_E hc) hm cl4 (wlit 0 (by decide)) h) rfl (by omega) (by decide) ⟨Nat.zero_le _, Nat.zero_le _⟩ (Nat.le_of_ble_eq_true rfl) rfl dX6_readChain_123 (fun s30 h => ?_)
      refine j_sub (lv' := [(0, vR E 12), (1, vI l1), (2, vI l2), (3, vI l3)]) [0, 1, 2, 3] rfl ?_
      exact jb_X6_readChain_126 hc hm hr hh hr_X6_readBracket hr_X6_readChain hr_X6_readComparison hr_X6_readLink hr_X6_readPart hr_X6_readPlain hk13 cl1 cl2 cl3 h
    · replace h := h.2 q34
      refine j_aload_nR hc 0 dX6_readChain_95 rfl rfl ?_
      refine j_getR (c' := 14) hc fl_RX6_18 rfl rfl (fun hv => (sv_k hv hm rfl)) dX6_readChain_96 ?_
      refine j_iload hc 5 dX6_readChain_99 rfl ?_
      refine j_iload hc 4 dX6_readChain_101 rfl ?_
      refine j_aload_nR hc 0 dX6_readChain_103 rfl rfl ?_
      refine j_getR (c' := 14) hc fl_RX6_18 rfl rfl (fun hv => (sv_k hv hm rfl)) dX6_readChain_104 ?_
      refine j_getI hc fl_RX6_33 (Or.inl rfl) (fun hv => Or.inl (sv_k hv hm rfl)) dX6_readChain_107 (fun cn31 => ?_)
      refine j_vV hc (k := 9) (by decide) (fun hv => Or.inl (sv_k hv hm rfl)) ml_RX6_115 mv_X9_replace (As := [vI l5, vI l4, vI (gI s28 14 6)]) (c_X9_replace (cx_E hc) hm cl5 cl4 cn31 h) rfl (by omega) (by decide) ⟨Nat.zero_le _, Nat.zero_le _⟩ (Nat.le_of_ble_eq_true rfl) rfl dX6_readChain_110 (fun s33 h => ?_)
      refine j_goto (tgt := 126) hc dX6_readChain_113 (by decide) ?_
      refine j_sub (lv' := [(0, vR E 12), (1, vI l1), (2, vI l2), (3, vI l3)]) [0, 1, 2, 3] rfl ?_
      exact jb_X6_readChain_126 hc hm hr hh hr_X6_readBracket hr_X6_readChain hr_X6_readComparison hr_X6_readLink hr_X6_readPart hr_X6_readPlain hk13 cl1 cl2 cl3 h
  · replace h := h.2 q35
    refine j_iconst hc dX6_readChain_88 ?_
    exact j_zret hc hr (nar_bool (Or.inl rfl)) (by decide) h dX6_readChain_89
set_option maxRecDepth 20000 in
theorem jb_X6_readChain_58 {X : jj_X} {E : ev_E} {n0 hN : Nat} (hc : Cx X E cX6_readChain 7 n0 hN RX6) (hm : eM E = 1) (hr : (xT X).sig.returnType = (some .boolean)) {d : Nat} (hh : 8 + (d + 1) ≤ hN) {Q : Int → st_S → Prop} {rc_X6_readBracket : Int → Int → Int → st_S → (Int → st_S → Prop) → Prop} (hr_X6_readBracket : ∀ {l : Launch} {E : ev_E} (hE : Eok E) (hm : eM E = 1) {a1 : Int} {a2 : Int} {a3 : Int} (ca1 : wr a1 = a1) (ca2 : wr a2 = a2) (ca3 : wr a3 = a3) {σ : st_S} {Q : Int → st_S → Prop}, rc_X6_readBracket a1 a2 a3 σ Q → cM l yX6_readBracket cX6_readBracket 4 (some .boolean) E (8 + d) 0 0 [vR E 12, vI a1, vI a2, vI a3] σ (qI E (gN σ + 0) Q)) {rc_X6_readChain : Int → Int → st_S → (Int → st_S → Prop) → Prop} (hr_X6_readChain : ∀ {l : Launch} {E : ev_E} (hE : Eok E) (hm : eM E = 1) {a1 : Int} {a2 : Int} (ca1 : wr a1 = a1) (ca2 : wr a2 = a2) {σ : st_S} {Q : Int → st_S → Prop}, rc_X6_readChain a1 a2 σ Q → cM l yX6_readChain cX6_readChain 7 (some .boolean) E (8 + d) 0 0 [vR E 12, vI a1, vI a2] σ (qI E (gN σ + 0) Q)) {rc_X6_readComparison : Int → st_S → (Int → st_S → Prop) → Prop} (hr_X6_readComparison : ∀ {l : Launch} {E : ev_E} (hE : Eok E) (hm : eM E = 1) {a1 : Int} (ca1 : wr a1 = a1) {σ : st_S} {Q : Int → st_S → Prop}, rc_X6_readComparison a1 σ Q → cM l yX6_readComparison cX6_readComparison 3 (some .boolean) E (8 + d) 0 0 [vR E 12, vI a1] σ (qI E (gN σ + 0) Q)) {rc_X6_readLink : Int → Int → st_S → (Int → st_S → Prop) → Prop} (hr_X6_readLink : ∀ {l : Launch} {E : ev_E} (hE : Eok E) (hm : eM E = 1) {a1 : Int} {a2 : Int} (ca1 : wr a1 = a1) (ca2 : wr a2 = a2) {σ : st_S} {Q : Int → st_S → Prop}, rc_X6_readLink a1 a2 σ Q → cM l yX6_readLink cX6_readLink 3 (some .boolean) E (8 + d) 0 0 [vR E 12, vI a1, vI a2] σ (qI E (gN σ + 0) Q)) {rc_X6_readPart : Int → st_S → (Int → st_S → Prop) → Prop} (hr_X6_readPart : ∀ {l : Launch} {E : ev_E} (hE : Eok E) (hm : eM E = 1) {a1 : Int} (ca1 : wr a1 = a1) {σ : st_S} {Q : Int → st_S → Prop}, rc_X6_readPart a1 σ Q → cM l yX6_readPart cX6_readPart 4 (some .boolean) E (8 + d) 0 0 [vR E 12, vI a1] σ (qI E (gN σ + 0) Q)) {rc_X6_readPlain : Int → st_S → (Int → st_S → Prop) → Prop} (hr_X6_readPlain : ∀ {l : Launch} {E : ev_E} (hE : Eok E) (hm : eM E = 1) {a1 : Int} (ca1 : wr a1 = a1) {σ : st_S} {Q : Int → st_S → Prop}, rc_X6_readPlain a1 σ Q → cM l yX6_readPlain cX6_readPlain 4 (some .boolean) E (8 + d) 0 0 [vR E 12, vI a1] σ (qI E (gN σ + 0) Q)) {k13 : Int → Int → Int → st_S → Prop} (hk13 : ∀ {l1 : Int} {l2 : Int} {l3 : Int} (cl1 : wr l1 = l1) (cl2 : wr l2 = l2) (cl3 : wr l3 = l3) {σ : st_S}, k13 l1 l2 l3 σ → J X E 7 n0 0 0 (MQ (xB X) (qI E (n0 + 0) Q) (xA X) (xS X) 0 0 (eF E)) σ 13 [(0, vR E 12), (1, vI l1), (2, vI l2), (3, vI l3)] []) {l1 : Int} {l2 : Int} {l3 : Int} {l4 : Int} {l5 : Int} {v0 : Int} (cl1 : wr l1 = l1) (cl2 : wr l2 = l2) (cl3 : wr l3 = l3) (cl4 : wr l4 = l4) (cl5 : wr l5 = l5) (cv0 : wr v0 = v0) {σ : st_S} (h : B_X6_readChain_58 Q rc_X6_readBracket rc_X6_readChain rc_X6_readComparison rc_X6_readLink rc_X6_readPart rc_X6_readPlain k13 l1 l2 l3 l4 l5 v0 σ) : J X E 7 n0 0 0 (MQ (xB X) (qI E (n0 + 0) Q) (xA X) (xS X) 0 0 (eF E)) σ 58 [(0, vR E 12), (1, vI l1), (2, vI l2), (3, vI l3), (4, vI l4), (5, vI l5)] [vI v0] := by
  have hh1 : 1 ≤ hN := by omega
  replace h : (v0 = 0 → B_X6_readChain_75 Q rc_X6_readBracket rc_X6_readChain rc_X6_readComparison rc_X6_readLink rc_X6_readPart rc_X6_readPlain k13 l1 l2 l3 l4 l5 v0 σ) ∧ (¬ v0 = 0 → wp_X9_add l4 0 σ (fun s37 => B_X6_readChain_75 Q rc_X6_readBracket rc_X6_readChain rc_X6_readComparison rc_X6_readLink rc_X6_readPart rc_X6_readPlain k13 l1 l2 l3 l4 l5 v0 s37)) := h
  refine j_istore (lv' := [(6, vI v0), (0, vR E 12), (1, vI l1), (2, vI l2), (3, vI l3), (4, vI l4), (5, vI l5)]) hc dX6_readChain_58 (by decide) rfl ?_
  refine j_iload hc 0 dX6_readChain_60 rfl ?_
  refine j_if_eq hc cv0 (tgt := 75) dX6_readChain_62 (by decide) (fun q38 => ?_) (fun q38 => ?_)
  · replace h := h.1 q38
    refine j_sub (lv' := [(0, vR E 12), (1, vI l1), (2, vI l2), (3, vI l3), (4, vI l4), (5, vI l5), (6, vI v0)]) [1, 2, 3, 4, 5, 6, 0] rfl ?_
    exact jb_X6_readChain_75 hc hm hr hh hr_X6_readBracket hr_X6_readChain hr_X6_readComparison hr_X6_readLink hr_X6_readPart hr_X6_readPlain hk13 cl1 cl2 cl3 cl4 cl5 cv0 h
  · replace h := h.2 q38
    refine j_aload_nR hc 1 dX6_readChain_65 rfl rfl ?_
    refine j_getR (c' := 14) hc fl_RX6_18 rfl rfl (fun hv => (sv_k hv hm rfl)) dX6_readChain_66 ?_
    refine j_iload hc 5 dX6_readChain_69 rfl ?_
    refine j_iconst hc dX6_readChain_71 ?_
    refine j_vV hc (k := 9) (by decide) (fun hv => Or.inl (sv_k hv hm rfl)) ml_RX6_111 mv_X9_add (As := [vI l4, vI 0]) (c_X9_add (cx_E hc) hm cl4 (wlit 0 (by decide)) h) rfl (by omega) (by decide) ⟨Nat.zero_le _, Nat.zero_le _⟩ (Nat.le_of_ble_eq_true rfl) rfl dX6_readChain_72 (fun s37 h => ?_)
    refine j_sub (lv' := [(0, vR E 12), (1, vI l1), (2, vI l2), (3, vI l3), (4, vI l4), (5, vI l5), (6, vI v0)]) [1, 2, 3, 4, 5, 6, 0] rfl ?_
    exact jb_X6_readChain_75 hc hm hr hh hr_X6_readBracket hr_X6_readChain hr_X6_readComparison hr_X6_readLink hr_X6_readPart hr_X6_readPlain hk13 cl1 cl2 cl3 cl4 cl5 cv0 h
set_option maxRecDepth 20000 in
theorem jb_X6_readChain_53 {X : jj_X} {E : ev_E} {n0 hN : Nat} (hc : Cx X E cX6_readChain 7 n0 hN RX6) (hm : eM E = 1) (hr : (xT X).sig.returnType = (some .boolean)) {d : Nat} (hh : 8 + (d + 1) ≤ hN) {Q : Int → st_S → Prop} {rc_X6_readBracket : Int → Int → Int → st_S → (Int → st_S → Prop) → Prop} (hr_X6_readBracket : ∀ {l : Launch} {E : ev_E} (hE : Eok E) (hm : eM E = 1) {a1 : Int} {a2 : Int} {a3 : Int} (ca1 : wr a1 = a1) (ca2 : wr a2 = a2) (ca3 : wr a3 = a3) {σ : st_S} {Q : Int → st_S → Prop}, rc_X6_readBracket a1 a2 a3 σ Q → cM l yX6_readBracket cX6_readBracket 4 (some .boolean) E (8 + d) 0 0 [vR E 12, vI a1, vI a2, vI a3] σ (qI E (gN σ + 0) Q)) {rc_X6_readChain : Int → Int → st_S → (Int → st_S → Prop) → Prop} (hr_X6_readChain : ∀ {l : Launch} {E : ev_E} (hE : Eok E) (hm : eM E = 1) {a1 : Int} {a2 : Int} (ca1 : wr a1 = a1) (ca2 : wr a2 = a2) {σ : st_S} {Q : Int → st_S → Prop}, rc_X6_readChain a1 a2 σ Q → cM l yX6_readChain cX6_readChain 7 (some .boolean) E (8 + d) 0 0 [vR E 12, vI a1, vI a2] σ (qI E (gN σ + 0) Q)) {rc_X6_readComparison : Int → st_S → (Int → st_S → Prop) → Prop} (hr_X6_readComparison : ∀ {l : Launch} {E : ev_E} (hE : Eok E) (hm : eM E = 1) {a1 : Int} (ca1 : wr a1 = a1) {σ : st_S} {Q : Int → st_S → Prop}, rc_X6_readComparison a1 σ Q → cM l yX6_readComparison cX6_readComparison 3 (some .boolean) E (8 + d) 0 0 [vR E 12, vI a1] σ (qI E (gN σ + 0) Q)) {rc_X6_readLink : Int → Int → st_S → (Int → st_S → Prop) → Prop} (hr_X6_readLink : ∀ {l : Launch} {E : ev_E} (hE : Eok E) (hm : eM E = 1) {a1 : Int} {a2 : Int} (ca1 : wr a1 = a1) (ca2 : wr a2 = a2) {σ : st_S} {Q : Int → st_S → Prop}, rc_X6_readLink a1 a2 σ Q → cM l yX6_readLink cX6_readLink 3 (some .boolean) E (8 + d) 0 0 [vR E 12, vI a1, vI a2] σ (qI E (gN σ + 0) Q)) {rc_X6_readPart : Int → st_S → (Int → st_S → Prop) → Prop} (hr_X6_readPart : ∀ {l : Launch} {E : ev_E} (hE : Eok E) (hm : eM E = 1) {a1 : Int} (ca1 : wr a1 = a1) {σ : st_S} {Q : Int → st_S → Prop}, rc_X6_readPart a1 σ Q → cM l yX6_readPart cX6_readPart 4 (some .boolean) E (8 + d) 0 0 [vR E 12, vI a1] σ (qI E (gN σ + 0) Q)) {rc_X6_readPlain : Int → st_S → (Int → st_S → Prop) → Prop} (hr_X6_readPlain : ∀ {l : Launch} {E : ev_E} (hE : Eok E) (hm : eM E = 1) {a1 : Int} (ca1 : wr a1 = a1) {σ : st_S} {Q : Int → st_S → Prop}, rc_X6_readPlain a1 σ Q → cM l yX6_readPlain cX6_readPlain 4 (some .boolean) E (8 + d) 0 0 [vR E 12, vI a1] σ (qI E (gN σ + 0) Q)) {k13 : Int → Int → Int → st_S → Prop} (hk13 : ∀ {l1 : Int} {l2 : Int} {l3 : Int} (cl1 : wr l1 = l1) (cl2 : wr l2 = l2) (cl3 : wr l3 = l3) {σ : st_S}, k13 l1 l2 l3 σ → J X E 7 n0 0 0 (MQ (xB X) (qI E (n0 + 0) Q) (xA X) (xS X) 0 0 (eF E)) σ 13 [(0, vR E 12), (1, vI l1), (2, vI l2), (3, vI l3)] []) {l1 : Int} {l2 : Int} {l3 : Int} {l4 : Int} {l5 : Int} (cl1 : wr l1 = l1) (cl2 : wr l2 = l2) (cl3 : wr l3 = l3) (cl4 : wr l4 = l4) (cl5 : wr l5 = l5) {σ : st_S} (h : B_X6_readChain_53 Q rc_X6_readBracket rc_X6_readChain rc_X6_readComparison rc_X6_readLink rc_X6_readPart rc_X6_readPlain k13 l1 l2 l3 l4 l5 σ) : J X E 7 n0 0 0 (MQ (xB X) (qI E (n0 + 0) Q) (xA X) (xS X) 0 0 (eF E)) σ 53 [(0, vR E 12), (1, vI l1), (2, vI l2), (3, vI l3), (4, vI l4), (5, vI l5)] [] := by
  have hh1 : 1 ≤ hN := by omega
  replace h : B_X6_readChain_58 Q rc_X6_readBracket rc_X6_readChain rc_X6_readComparison rc_X6_readLink rc_X6_readPart rc_X6_readPlain k13 l1 l2 l3 l4 l5 1 σ := h
  refine j_iconst hc dX6_readChain_53 ?_
  refine j_goto (tgt := 58) hc dX6_readChain_54 (by decide) ?_
  refine j_sub (lv' := [(0, vR E 12), (1, vI l1), (2, vI l2), (3, vI l3), (4, vI l4), (5, vI l5)]) [0, 1, 2, 3, 4, 5] rfl ?_
  exact jb_X6_readChain_58 hc hm hr hh hr_X6_readBracket hr_X6_readChain hr_X6_readComparison hr_X6_readLink hr_X6_readPart hr_X6_readPlain hk13 cl1 cl2 cl3 cl4 cl5 (wlit 1 (by decide)) h
set_option maxRecDepth 20000 in
theorem jl_X6_readChain_13 {X : jj_X} {E : ev_E} {n0 hN : Nat} (hc : Cx X E cX6_readChain 7 n0 hN RX6) (hm : eM E = 1) (hr : (xT X).sig.returnType = (some .boolean)) {d : Nat} (hh : 8 + (d + 1) ≤ hN) {Q : Int → st_S → Prop} {rc_X6_readBracket : Int → Int → Int → st_S → (Int → st_S → Prop) → Prop} (hr_X6_readBracket : ∀ {l : Launch} {E : ev_E} (hE : Eok E) (hm : eM E = 1) {a1 : Int} {a2 : Int} {a3 : Int} (ca1 : wr a1 = a1) (ca2 : wr a2 = a2) (ca3 : wr a3 = a3) {σ : st_S} {Q : Int → st_S → Prop}, rc_X6_readBracket a1 a2 a3 σ Q → cM l yX6_readBracket cX6_readBracket 4 (some .boolean) E (8 + d) 0 0 [vR E 12, vI a1, vI a2, vI a3] σ (qI E (gN σ + 0) Q)) {rc_X6_readChain : Int → Int → st_S → (Int → st_S → Prop) → Prop} (hr_X6_readChain : ∀ {l : Launch} {E : ev_E} (hE : Eok E) (hm : eM E = 1) {a1 : Int} {a2 : Int} (ca1 : wr a1 = a1) (ca2 : wr a2 = a2) {σ : st_S} {Q : Int → st_S → Prop}, rc_X6_readChain a1 a2 σ Q → cM l yX6_readChain cX6_readChain 7 (some .boolean) E (8 + d) 0 0 [vR E 12, vI a1, vI a2] σ (qI E (gN σ + 0) Q)) {rc_X6_readComparison : Int → st_S → (Int → st_S → Prop) → Prop} (hr_X6_readComparison : ∀ {l : Launch} {E : ev_E} (hE : Eok E) (hm : eM E = 1) {a1 : Int} (ca1 : wr a1 = a1) {σ : st_S} {Q : Int → st_S → Prop}, rc_X6_readComparison a1 σ Q → cM l yX6_readComparison cX6_readComparison 3 (some .boolean) E (8 + d) 0 0 [vR E 12, vI a1] σ (qI E (gN σ + 0) Q)) {rc_X6_readLink : Int → Int → st_S → (Int → st_S → Prop) → Prop} (hr_X6_readLink : ∀ {l : Launch} {E : ev_E} (hE : Eok E) (hm : eM E = 1) {a1 : Int} {a2 : Int} (ca1 : wr a1 = a1) (ca2 : wr a2 = a2) {σ : st_S} {Q : Int → st_S → Prop}, rc_X6_readLink a1 a2 σ Q → cM l yX6_readLink cX6_readLink 3 (some .boolean) E (8 + d) 0 0 [vR E 12, vI a1, vI a2] σ (qI E (gN σ + 0) Q)) {rc_X6_readPart : Int → st_S → (Int → st_S → Prop) → Prop} (hr_X6_readPart : ∀ {l : Launch} {E : ev_E} (hE : Eok E) (hm : eM E = 1) {a1 : Int} (ca1 : wr a1 = a1) {σ : st_S} {Q : Int → st_S → Prop}, rc_X6_readPart a1 σ Q → cM l yX6_readPart cX6_readPart 4 (some .boolean) E (8 + d) 0 0 [vR E 12, vI a1] σ (qI E (gN σ + 0) Q)) {rc_X6_readPlain : Int → st_S → (Int → st_S → Prop) → Prop} (hr_X6_readPlain : ∀ {l : Launch} {E : ev_E} (hE : Eok E) (hm : eM E = 1) {a1 : Int} (ca1 : wr a1 = a1) {σ : st_S} {Q : Int → st_S → Prop}, rc_X6_readPlain a1 σ Q → cM l yX6_readPlain cX6_readPlain 4 (some .boolean) E (8 + d) 0 0 [vR E 12, vI a1] σ (qI E (gN σ + 0) Q)) : ∀ (n : Nat) {l1 : Int} {l2 : Int} {l3 : Int} (cl1 : wr l1 = l1) (cl2 : wr l2 = l2) (cl3 : wr l3 = l3) {σ : st_S}, L_X6_readChain_13 Q rc_X6_readBracket rc_X6_readChain rc_X6_readComparison rc_X6_readLink rc_X6_readPart rc_X6_readPlain n l1 l2 l3 σ → J X E 7 n0 0 0 (MQ (xB X) (qI E (n0 + 0) Q) (xA X) (xS X) 0 0 (eF E)) σ 13 [(0, vR E 12), (1, vI l1), (2, vI l2), (3, vI l3)] [] := by
  have hh1 : 1 ≤ hN := by omega
  intro n
  induction n with
  | zero => intro l1 l2 l3 cl1 cl2 cl3 σ h; exact h.elim
  | succ n ih =>
    intro l1 l2 l3 cl1 cl2 cl3 σ h
    have hk13 : ∀ {l1 : Int} {l2 : Int} {l3 : Int} (cl1 : wr l1 = l1) (cl2 : wr l2 = l2) (cl3 : wr l3 = l3) {σ : st_S}, L_X6_readChain_13 Q rc_X6_readBracket rc_X6_readChain rc_X6_readComparison rc_X6_readLink rc_X6_readPart rc_X6_readPlain n l1 l2 l3 σ → J X E 7 n0 0 0 (MQ (xB X) (qI E (n0 + 0) Q) (xA X) (xS X) 0 0 (eF E)) σ 13 [(0, vR E 12), (1, vI l1), (2, vI l2), (3, vI l3)] [] := ih
    replace h : (400 ≤ l3 → wp_X6_fail σ (fun r39 s40 => (r39 = 0 ∨ r39 = 1) ∧ Q r39 s40)) ∧ (¬ 400 ≤ l3 → wp_X6_joint l1 σ (fun r41 s42 => (¬ r41 = (-1) → ∀ x44 : Int, x44 = gI s42 14 6 → (l1 = 0 → B_X6_readChain_53 Q rc_X6_readBracket rc_X6_readChain rc_X6_readComparison rc_X6_readLink rc_X6_readPart rc_X6_readPlain (L_X6_readChain_13 Q rc_X6_readBracket rc_X6_readChain rc_X6_readComparison rc_X6_readLink rc_X6_readPart rc_X6_readPlain n) l1 l2 l3 r41 x44 s42) ∧ (¬ l1 = 0 → (¬ l1 = 1 → B_X6_readChain_58 Q rc_X6_readBracket rc_X6_readChain rc_X6_readComparison rc_X6_readLink rc_X6_readPart rc_X6_readPlain (L_X6_readChain_13 Q rc_X6_readBracket rc_X6_readChain rc_X6_readComparison rc_X6_readLink rc_X6_readPart rc_X6_readPlain n) l1 l2 l3 r41 x44 0 s42) ∧ (l1 = 1 → B_X6_readChain_53 Q rc_X6_readBracket rc_X6_readChain rc_X6_readComparison rc_X6_readLink rc_X6_readPart rc_X6_readPlain (L_X6_readChain_13 Q rc_X6_readBracket rc_X6_readChain rc_X6_readComparison rc_X6_readLink rc_X6_readPart rc_X6_readPlain n) l1 l2 l3 r41 x44 s42))) ∧ (r41 = (-1) → Q 1 s42))) := h
    refine j_iload_n hc 3 dX6_readChain_13 rfl rfl ?_
    refine j_sipush hc dX6_readChain_14 (by decide) ?_
    refine j_ic_ge hc cl3 (wlit 400 (by decide)) (tgt := 132) dX6_readChain_17 (by decide) (fun q48 => ?_) (fun q48 => ?_)
    · replace h := h.1 q48
      refine j_aload_nR hc 0 dX6_readChain_132 rfl rfl ?_
      refine j_vI hc (k := 6) (by decide) (fun hv => Or.inl (sv_k hv hm rfl)) ml_RX6_57 mv_X6_fail (As := []) (c_X6_fail (cx_E hc) hm  h) rfl (by omega) (by decide) ⟨Nat.zero_le _, Nat.zero_le _⟩ (Nat.le_of_ble_eq_true rfl) rfl dX6_readChain_133 (fun r39 s40 cr39 h => ?_)
      exact j_zret hc hr (nar_bool h.1) (by rcases h.1 with e | e <;> (rw [e]; decide)) h.2 dX6_readChain_136
    · replace h := h.2 q48
      refine j_aload_nR hc 0 dX6_readChain_20 rfl rfl ?_
      refine j_iload_n hc 1 dX6_readChain_21 rfl rfl ?_
      refine j_vI hc (k := 6) (by decide) (fun hv => Or.inl (sv_k hv hm rfl)) ml_RX6_107 mv_X6_joint (As := [vI l1]) (c_X6_joint (cx_E hc) hm cl1 h) rfl (by omega) (by decide) ⟨Nat.zero_le _, Nat.zero_le _⟩ (Nat.le_of_ble_eq_true rfl) rfl dX6_readChain_22 (fun r41 s42 cr41 h => ?_)
      refine j_istore (lv' := [(4, vI r41), (0, vR E 12), (1, vI l1), (2, vI l2), (3, vI l3)]) hc dX6_readChain_25 (by decide) rfl ?_
      refine j_iload hc 0 dX6_readChain_27 rfl ?_
      refine j_iconst hc dX6_readChain_29 ?_
      refine j_ic_ne hc cr41 (wlit (-1) (by decide)) (tgt := 35) dX6_readChain_30 (by decide) (fun q47 => ?_) (fun q47 => ?_)
      · replace h := h.1 q47
        refine j_aload_nR hc 1 dX6_readChain_35 rfl rfl ?_
        refine j_getR (c' := 14) hc fl_RX6_18 rfl rfl (fun hv => (sv_k hv hm rfl)) dX6_readChain_36 ?_
        refine j_getI hc fl_RX6_33 (Or.inl rfl) (fun hv => Or.inl (sv_k hv hm rfl)) dX6_readChain_39 (fun cn43 => ?_)
        refine j_c cn43 (fun x44 ex44 cx44 => ?_)
        replace h := h x44 ex44
        refine j_istore (lv' := [(5, vI x44), (4, vI r41), (0, vR E 12), (1, vI l1), (2, vI l2), (3, vI l3)]) hc dX6_readChain_42 (by decide) rfl ?_
        refine j_iload_n hc 3 dX6_readChain_44 rfl rfl ?_
        refine j_if_eq hc cl1 (tgt := 53) dX6_readChain_45 (by decide) (fun q46 => ?_) (fun q46 => ?_)
        · replace h := h.1 q46
          refine j_sub (lv' := [(0, vR E 12), (1, vI l1), (2, vI l2), (3, vI l3), (4, vI r41), (5, vI x44)]) [2, 3, 4, 5, 1, 0] rfl ?_
          exact jb_X6_readChain_53 hc hm hr hh hr_X6_readBracket hr_X6_readChain hr_X6_readComparison hr_X6_readLink hr_X6_readPart hr_X6_readPlain hk13 cl1 cl2 cl3 cr41 cx44 h
        · replace h := h.2 q46
          refine j_iload_n hc 3 dX6_readChain_48 rfl rfl ?_
          refine j_iconst hc dX6_readChain_49 ?_
          refine j_ic_ne hc cl1 (wlit 1 (by decide)) (tgt := 57) dX6_readChain_50 (by decide) (fun q45 => ?_) (fun q45 => ?_)
          · replace h := h.1 q45
            refine j_iconst hc dX6_readChain_57 ?_
            refine j_sub (lv' := [(0, vR E 12), (1, vI l1), (2, vI l2), (3, vI l3), (4, vI r41), (5, vI x44)]) [2, 3, 4, 5, 1, 0] rfl ?_
            exact jb_X6_readChain_58 hc hm hr hh hr_X6_readBracket hr_X6_readChain hr_X6_readComparison hr_X6_readLink hr_X6_readPart hr_X6_readPlain hk13 cl1 cl2 cl3 cr41 cx44 (wlit 0 (by decide)) h
          · replace h := h.2 q45
            refine j_sub (lv' := [(0, vR E 12), (1, vI l1), (2, vI l2), (3, vI l3), (4, vI r41), (5, vI x44)]) [2, 3, 4, 5, 1, 0] rfl ?_
            exact jb_X6_readChain_53 hc hm hr hh hr_X6_readBracket hr_X6_readChain hr_X6_readComparison hr_X6_readLink hr_X6_readPart hr_X6_readPlain hk13 cl1 cl2 cl3 cr41 cx44 h
      · replace h := h.2 q47
        refine j_iconst hc dX6_readChain_33 ?_
        exact j_zret hc hr (nar_bool (Or.inr rfl)) (by decide) h dX6_readChain_34
set_option maxRecDepth 20000 in
theorem ce_X6_readChain {d : Nat} {rc_X6_readBracket : Int → Int → Int → st_S → (Int → st_S → Prop) → Prop} (hr_X6_readBracket : ∀ {l : Launch} {E : ev_E} (hE : Eok E) (hm : eM E = 1) {a1 : Int} {a2 : Int} {a3 : Int} (ca1 : wr a1 = a1) (ca2 : wr a2 = a2) (ca3 : wr a3 = a3) {σ : st_S} {Q : Int → st_S → Prop}, rc_X6_readBracket a1 a2 a3 σ Q → cM l yX6_readBracket cX6_readBracket 4 (some .boolean) E (8 + d) 0 0 [vR E 12, vI a1, vI a2, vI a3] σ (qI E (gN σ + 0) Q)) {rc_X6_readChain : Int → Int → st_S → (Int → st_S → Prop) → Prop} (hr_X6_readChain : ∀ {l : Launch} {E : ev_E} (hE : Eok E) (hm : eM E = 1) {a1 : Int} {a2 : Int} (ca1 : wr a1 = a1) (ca2 : wr a2 = a2) {σ : st_S} {Q : Int → st_S → Prop}, rc_X6_readChain a1 a2 σ Q → cM l yX6_readChain cX6_readChain 7 (some .boolean) E (8 + d) 0 0 [vR E 12, vI a1, vI a2] σ (qI E (gN σ + 0) Q)) {rc_X6_readComparison : Int → st_S → (Int → st_S → Prop) → Prop} (hr_X6_readComparison : ∀ {l : Launch} {E : ev_E} (hE : Eok E) (hm : eM E = 1) {a1 : Int} (ca1 : wr a1 = a1) {σ : st_S} {Q : Int → st_S → Prop}, rc_X6_readComparison a1 σ Q → cM l yX6_readComparison cX6_readComparison 3 (some .boolean) E (8 + d) 0 0 [vR E 12, vI a1] σ (qI E (gN σ + 0) Q)) {rc_X6_readLink : Int → Int → st_S → (Int → st_S → Prop) → Prop} (hr_X6_readLink : ∀ {l : Launch} {E : ev_E} (hE : Eok E) (hm : eM E = 1) {a1 : Int} {a2 : Int} (ca1 : wr a1 = a1) (ca2 : wr a2 = a2) {σ : st_S} {Q : Int → st_S → Prop}, rc_X6_readLink a1 a2 σ Q → cM l yX6_readLink cX6_readLink 3 (some .boolean) E (8 + d) 0 0 [vR E 12, vI a1, vI a2] σ (qI E (gN σ + 0) Q)) {rc_X6_readPart : Int → st_S → (Int → st_S → Prop) → Prop} (hr_X6_readPart : ∀ {l : Launch} {E : ev_E} (hE : Eok E) (hm : eM E = 1) {a1 : Int} (ca1 : wr a1 = a1) {σ : st_S} {Q : Int → st_S → Prop}, rc_X6_readPart a1 σ Q → cM l yX6_readPart cX6_readPart 4 (some .boolean) E (8 + d) 0 0 [vR E 12, vI a1] σ (qI E (gN σ + 0) Q)) {rc_X6_readPlain : Int → st_S → (Int → st_S → Prop) → Prop} (hr_X6_readPlain : ∀ {l : Launch} {E : ev_E} (hE : Eok E) (hm : eM E = 1) {a1 : Int} (ca1 : wr a1 = a1) {σ : st_S} {Q : Int → st_S → Prop}, rc_X6_readPlain a1 σ Q → cM l yX6_readPlain cX6_readPlain 4 (some .boolean) E (8 + d) 0 0 [vR E 12, vI a1] σ (qI E (gN σ + 0) Q)) {l : Launch} {E : ev_E} (hE : Eok E) (hm : eM E = 1) {a1 : Int} {a2 : Int} (ca1 : wr a1 = a1) (ca2 : wr a2 = a2) {σ : st_S} {Q : Int → st_S → Prop} (h : e_X6_readChain rc_X6_readBracket rc_X6_readChain rc_X6_readComparison rc_X6_readLink rc_X6_readPart rc_X6_readPlain a1 a2 σ Q) : cM l yX6_readChain cX6_readChain 7 (some .boolean) E (8 + (d + 1)) 0 0 [vR E 12, vI a1, vI a2] σ (qI E (gN σ + 0) Q) := by
  refine cM_of (lv := [(0, vR E 12), (1, vI a1), (2, vI a2)]) (by decide) hE (Nat.le_of_ble_eq_true rfl) (rfl) ?_
  intro X hX hc _ _ hr _ _
  subst hX
  have hh : 8 + (d + 1) ≤ 8 + (d + 1) := Nat.le_refl _
  have hh1 : 1 ≤ 8 + (d + 1) := by omega
  replace h : rc_X6_readLink a1 a2 σ (fun r49 s50 => (¬ r49 = 0 → ∃ m13 : Nat, L_X6_readChain_13 Q rc_X6_readBracket rc_X6_readChain rc_X6_readComparison rc_X6_readLink rc_X6_readPart rc_X6_readPlain m13 a1 a2 0 s50) ∧ (r49 = 0 → Q 0 s50)) := h
  refine j_aload_nR hc 0 dX6_readChain_0 rfl rfl ?_
  refine j_iload_n hc 1 dX6_readChain_1 rfl rfl ?_
  refine j_iload_n hc 2 dX6_readChain_2 rfl rfl ?_
  refine j_vI hc (k := 6) (by decide) (fun hv => Or.inl (sv_k hv hm rfl)) ml_RX6_104 mv_X6_readLink (As := [vI a1, vI a2]) (hr_X6_readLink (cx_E hc) hm ca1 ca2 h) rfl (by omega) (by decide) ⟨Nat.zero_le _, Nat.zero_le _⟩ (Nat.le_of_ble_eq_true rfl) rfl dX6_readChain_3 (fun r49 s50 cr49 h => ?_)
  refine j_if_ne hc cr49 (tgt := 11) dX6_readChain_6 (by decide) (fun q51 => ?_) (fun q51 => ?_)
  · replace h := h.1 q51
    refine j_iconst hc dX6_readChain_11 ?_
    refine j_istore_n (lv' := [(3, vI 0), (0, vR E 12), (1, vI a1), (2, vI a2)]) hc dX6_readChain_12 rfl (by decide) rfl ?_
    obtain ⟨n13, h⟩ := h
    refine j_sub (lv' := [(0, vR E 12), (1, vI a1), (2, vI a2), (3, vI 0)]) [1, 2, 3, 0] rfl ?_
    exact jl_X6_readChain_13 hc hm hr hh hr_X6_readBracket hr_X6_readChain hr_X6_readComparison hr_X6_readLink hr_X6_readPart hr_X6_readPlain n13 ca1 ca2 (wlit 0 (by decide)) h
  · replace h := h.2 q51
    refine j_iconst hc dX6_readChain_9 ?_
    exact j_zret hc hr (nar_bool (Or.inl rfl)) (by decide) h dX6_readChain_10
set_option maxRecDepth 20000 in
theorem jb_X6_readComparison_33 {X : jj_X} {E : ev_E} {n0 hN : Nat} (hc : Cx X E cX6_readComparison 3 n0 hN RX6) (hm : eM E = 1) (hr : (xT X).sig.returnType = (some .boolean)) {d : Nat} (hh : 8 + (d + 1) ≤ hN) {Q : Int → st_S → Prop} {rc_X6_readBracket : Int → Int → Int → st_S → (Int → st_S → Prop) → Prop} (hr_X6_readBracket : ∀ {l : Launch} {E : ev_E} (hE : Eok E) (hm : eM E = 1) {a1 : Int} {a2 : Int} {a3 : Int} (ca1 : wr a1 = a1) (ca2 : wr a2 = a2) (ca3 : wr a3 = a3) {σ : st_S} {Q : Int → st_S → Prop}, rc_X6_readBracket a1 a2 a3 σ Q → cM l yX6_readBracket cX6_readBracket 4 (some .boolean) E (8 + d) 0 0 [vR E 12, vI a1, vI a2, vI a3] σ (qI E (gN σ + 0) Q)) {rc_X6_readChain : Int → Int → st_S → (Int → st_S → Prop) → Prop} (hr_X6_readChain : ∀ {l : Launch} {E : ev_E} (hE : Eok E) (hm : eM E = 1) {a1 : Int} {a2 : Int} (ca1 : wr a1 = a1) (ca2 : wr a2 = a2) {σ : st_S} {Q : Int → st_S → Prop}, rc_X6_readChain a1 a2 σ Q → cM l yX6_readChain cX6_readChain 7 (some .boolean) E (8 + d) 0 0 [vR E 12, vI a1, vI a2] σ (qI E (gN σ + 0) Q)) {rc_X6_readComparison : Int → st_S → (Int → st_S → Prop) → Prop} (hr_X6_readComparison : ∀ {l : Launch} {E : ev_E} (hE : Eok E) (hm : eM E = 1) {a1 : Int} (ca1 : wr a1 = a1) {σ : st_S} {Q : Int → st_S → Prop}, rc_X6_readComparison a1 σ Q → cM l yX6_readComparison cX6_readComparison 3 (some .boolean) E (8 + d) 0 0 [vR E 12, vI a1] σ (qI E (gN σ + 0) Q)) {rc_X6_readLink : Int → Int → st_S → (Int → st_S → Prop) → Prop} (hr_X6_readLink : ∀ {l : Launch} {E : ev_E} (hE : Eok E) (hm : eM E = 1) {a1 : Int} {a2 : Int} (ca1 : wr a1 = a1) (ca2 : wr a2 = a2) {σ : st_S} {Q : Int → st_S → Prop}, rc_X6_readLink a1 a2 σ Q → cM l yX6_readLink cX6_readLink 3 (some .boolean) E (8 + d) 0 0 [vR E 12, vI a1, vI a2] σ (qI E (gN σ + 0) Q)) {rc_X6_readPart : Int → st_S → (Int → st_S → Prop) → Prop} (hr_X6_readPart : ∀ {l : Launch} {E : ev_E} (hE : Eok E) (hm : eM E = 1) {a1 : Int} (ca1 : wr a1 = a1) {σ : st_S} {Q : Int → st_S → Prop}, rc_X6_readPart a1 σ Q → cM l yX6_readPart cX6_readPart 4 (some .boolean) E (8 + d) 0 0 [vR E 12, vI a1] σ (qI E (gN σ + 0) Q)) {rc_X6_readPlain : Int → st_S → (Int → st_S → Prop) → Prop} (hr_X6_readPlain : ∀ {l : Launch} {E : ev_E} (hE : Eok E) (hm : eM E = 1) {a1 : Int} (ca1 : wr a1 = a1) {σ : st_S} {Q : Int → st_S → Prop}, rc_X6_readPlain a1 σ Q → cM l yX6_readPlain cX6_readPlain 4 (some .boolean) E (8 + d) 0 0 [vR E 12, vI a1] σ (qI E (gN σ + 0) Q)) {l1 : Int} {v0 : Int} (cl1 : wr l1 = l1) (cv0 : wr v0 = v0) {σ : st_S} (h : B_X6_readComparison_33 Q rc_X6_readBracket rc_X6_readChain rc_X6_readComparison rc_X6_readLink rc_X6_readPart rc_X6_readPlain l1 v0 σ) : J X E 3 n0 0 0 (MQ (xB X) (qI E (n0 + 0) Q) (xA X) (xS X) 0 0 (eF E)) σ 33 [(0, vR E 12), (1, vI l1)] [vI v0] := by
  have hh1 : 1 ≤ hN := by omega
  replace h : (0 ≤ v0 → wp_X6_advance σ (fun s18 => rc_X6_readChain 2 l1 s18 (fun r19 s20 => (¬ r19 = 0 → wp_X9_add (wr (7 + v0)) 0 s20 (fun s22 => Q 1 s22)) ∧ (r19 = 0 → Q 0 s20)))) ∧ (¬ 0 ≤ v0 → wp_X6_fail σ (fun r24 s25 => (r24 = 0 ∨ r24 = 1) ∧ Q r24 s25)) := h
  refine j_istore_n (lv' := [(2, vI v0), (0, vR E 12), (1, vI l1)]) hc dX6_readComparison_33 rfl (by decide) rfl ?_
  refine j_iload_n hc 0 dX6_readComparison_34 rfl rfl ?_
  refine j_if_ge hc cv0 (tgt := 43) dX6_readComparison_35 (by decide) (fun q26 => ?_) (fun q26 => ?_)
  · replace h := h.1 q26
    refine j_aload_nR hc 1 dX6_readComparison_43 rfl rfl ?_
    refine j_vV hc (k := 6) (by decide) (fun hv => Or.inl (sv_k hv hm rfl)) ml_RX6_43 mv_X6_advance (As := []) (c_X6_advance (cx_E hc) hm  h) rfl (by omega) (by decide) ⟨Nat.zero_le _, Nat.zero_le _⟩ (Nat.le_of_ble_eq_true rfl) rfl dX6_readComparison_44 (fun s18 h => ?_)
    refine j_aload_nR hc 1 dX6_readComparison_47 rfl rfl ?_
    refine j_iconst hc dX6_readComparison_48 ?_
    refine j_iload_n hc 2 dX6_readComparison_49 rfl rfl ?_
    refine j_vI hc (k := 6) (by decide) (fun hv => Or.inl (sv_k hv hm rfl)) ml_RX6_81 mv_X6_readChain (As := [vI 2, vI l1]) (hr_X6_readChain (cx_E hc) hm (wlit 2 (by decide)) cl1 h) rfl (by omega) (by decide) ⟨Nat.zero_le _, Nat.zero_le _⟩ (Nat.le_of_ble_eq_true rfl) rfl dX6_readComparison_50 (fun r19 s20 cr19 h => ?_)
    refine j_if_ne hc cr19 (tgt := 58) dX6_readComparison_53 (by decide) (fun q23 => ?_) (fun q23 => ?_)
    · replace h := h.1 q23
      refine j_aload_nR hc 1 dX6_readComparison_58 rfl rfl ?_
      refine j_getR (c' := 14) hc fl_RX6_18 rfl rfl (fun hv => (sv_k hv hm rfl)) dX6_readComparison_59 ?_
      refine j_bipush hc dX6_readComparison_62 (by decide) ?_
      refine j_iload_n hc 0 dX6_readComparison_64 rfl rfl ?_
      refine j_iadd hc dX6_readComparison_65 ?_
      refine j_iconst hc dX6_readComparison_66 ?_
      refine j_vV hc (k := 9) (by decide) (fun hv => Or.inl (sv_k hv hm rfl)) ml_RX6_111 mv_X9_add (As := [vI (wr (7 + v0)), vI 0]) (c_X9_add (cx_E hc) hm (wr_wr _) (wlit 0 (by decide)) h) rfl (by omega) (by decide) ⟨Nat.zero_le _, Nat.zero_le _⟩ (Nat.le_of_ble_eq_true rfl) (by simp only [vI_wr, vL_wl]; rfl) dX6_readComparison_67 (fun s22 h => ?_)
      refine j_iconst hc dX6_readComparison_70 ?_
      exact j_zret hc hr (nar_bool (Or.inr rfl)) (by decide) h dX6_readComparison_71
    · replace h := h.2 q23
      refine j_iconst hc dX6_readComparison_56 ?_
      exact j_zret hc hr (nar_bool (Or.inl rfl)) (by decide) h dX6_readComparison_57
  · replace h := h.2 q26
    refine j_aload_nR hc 1 dX6_readComparison_38 rfl rfl ?_
    refine j_vI hc (k := 6) (by decide) (fun hv => Or.inl (sv_k hv hm rfl)) ml_RX6_57 mv_X6_fail (As := []) (c_X6_fail (cx_E hc) hm  h) rfl (by omega) (by decide) ⟨Nat.zero_le _, Nat.zero_le _⟩ (Nat.le_of_ble_eq_true rfl) rfl dX6_readComparison_39 (fun r24 s25 cr24 h => ?_)
    exact j_zret hc hr (nar_bool h.1) (by rcases h.1 with e | e <;> (rw [e]; decide)) h.2 dX6_readComparison_42
set_option maxRecDepth 20000 in
theorem ce_X6_readComparison {d : Nat} {rc_X6_readBracket : Int → Int → Int → st_S → (Int → st_S → Prop) → Prop} (hr_X6_readBracket : ∀ {l : Launch} {E : ev_E} (hE : Eok E) (hm : eM E = 1) {a1 : Int} {a2 : Int} {a3 : Int} (ca1 : wr a1 = a1) (ca2 : wr a2 = a2) (ca3 : wr a3 = a3) {σ : st_S} {Q : Int → st_S → Prop}, rc_X6_readBracket a1 a2 a3 σ Q → cM l yX6_readBracket cX6_readBracket 4 (some .boolean) E (8 + d) 0 0 [vR E 12, vI a1, vI a2, vI a3] σ (qI E (gN σ + 0) Q)) {rc_X6_readChain : Int → Int → st_S → (Int → st_S → Prop) → Prop} (hr_X6_readChain : ∀ {l : Launch} {E : ev_E} (hE : Eok E) (hm : eM E = 1) {a1 : Int} {a2 : Int} (ca1 : wr a1 = a1) (ca2 : wr a2 = a2) {σ : st_S} {Q : Int → st_S → Prop}, rc_X6_readChain a1 a2 σ Q → cM l yX6_readChain cX6_readChain 7 (some .boolean) E (8 + d) 0 0 [vR E 12, vI a1, vI a2] σ (qI E (gN σ + 0) Q)) {rc_X6_readComparison : Int → st_S → (Int → st_S → Prop) → Prop} (hr_X6_readComparison : ∀ {l : Launch} {E : ev_E} (hE : Eok E) (hm : eM E = 1) {a1 : Int} (ca1 : wr a1 = a1) {σ : st_S} {Q : Int → st_S → Prop}, rc_X6_readComparison a1 σ Q → cM l yX6_readComparison cX6_readComparison 3 (some .boolean) E (8 + d) 0 0 [vR E 12, vI a1] σ (qI E (gN σ + 0) Q)) {rc_X6_readLink : Int → Int → st_S → (Int → st_S → Prop) → Prop} (hr_X6_readLink : ∀ {l : Launch} {E : ev_E} (hE : Eok E) (hm : eM E = 1) {a1 : Int} {a2 : Int} (ca1 : wr a1 = a1) (ca2 : wr a2 = a2) {σ : st_S} {Q : Int → st_S → Prop}, rc_X6_readLink a1 a2 σ Q → cM l yX6_readLink cX6_readLink 3 (some .boolean) E (8 + d) 0 0 [vR E 12, vI a1, vI a2] σ (qI E (gN σ + 0) Q)) {rc_X6_readPart : Int → st_S → (Int → st_S → Prop) → Prop} (hr_X6_readPart : ∀ {l : Launch} {E : ev_E} (hE : Eok E) (hm : eM E = 1) {a1 : Int} (ca1 : wr a1 = a1) {σ : st_S} {Q : Int → st_S → Prop}, rc_X6_readPart a1 σ Q → cM l yX6_readPart cX6_readPart 4 (some .boolean) E (8 + d) 0 0 [vR E 12, vI a1] σ (qI E (gN σ + 0) Q)) {rc_X6_readPlain : Int → st_S → (Int → st_S → Prop) → Prop} (hr_X6_readPlain : ∀ {l : Launch} {E : ev_E} (hE : Eok E) (hm : eM E = 1) {a1 : Int} (ca1 : wr a1 = a1) {σ : st_S} {Q : Int → st_S → Prop}, rc_X6_readPlain a1 σ Q → cM l yX6_readPlain cX6_readPlain 4 (some .boolean) E (8 + d) 0 0 [vR E 12, vI a1] σ (qI E (gN σ + 0) Q)) {l : Launch} {E : ev_E} (hE : Eok E) (hm : eM E = 1) {a1 : Int} (ca1 : wr a1 = a1) {σ : st_S} {Q : Int → st_S → Prop} (h : e_X6_readComparison rc_X6_readBracket rc_X6_readChain rc_X6_readComparison rc_X6_readLink rc_X6_readPart rc_X6_readPlain a1 σ Q) : cM l yX6_readComparison cX6_readComparison 3 (some .boolean) E (8 + (d + 1)) 0 0 [vR E 12, vI a1] σ (qI E (gN σ + 0) Q) := by
  refine cM_of (lv := [(0, vR E 12), (1, vI a1)]) (by decide) hE (Nat.le_of_ble_eq_true rfl) (rfl) ?_
  intro X hX hc _ _ hr _ _
  subst hX
  have hh : 8 + (d + 1) ≤ 8 + (d + 1) := Nat.le_refl _
  have hh1 : 1 ≤ 8 + (d + 1) := by omega
  replace h : rc_X6_readChain 2 a1 σ (fun r27 s28 => (¬ r27 = 0 → (¬ gI s28 12 5 = 3 → B_X6_readComparison_33 Q rc_X6_readBracket rc_X6_readChain rc_X6_readComparison rc_X6_readLink rc_X6_readPart rc_X6_readPlain a1 (-1) s28) ∧ (gI s28 12 5 = 3 → wp_X6_sign s28 (fun r30 s31 => wp_J0_indexOf_0f7a4 9 (o_i2c r30) s31 (fun r32 s33 => B_X6_readComparison_33 Q rc_X6_readBracket rc_X6_readChain rc_X6_readComparison rc_X6_readLink rc_X6_readPart rc_X6_readPlain a1 r32 s33)))) ∧ (r27 = 0 → Q 0 s28)) := h
  refine j_aload_nR hc 0 dX6_readComparison_0 rfl rfl ?_
  refine j_iconst hc dX6_readComparison_1 ?_
  refine j_iload_n hc 1 dX6_readComparison_2 rfl rfl ?_
  refine j_vI hc (k := 6) (by decide) (fun hv => Or.inl (sv_k hv hm rfl)) ml_RX6_81 mv_X6_readChain (As := [vI 2, vI a1]) (hr_X6_readChain (cx_E hc) hm (wlit 2 (by decide)) ca1 h) rfl (by omega) (by decide) ⟨Nat.zero_le _, Nat.zero_le _⟩ (Nat.le_of_ble_eq_true rfl) rfl dX6_readComparison_3 (fun r27 s28 cr27 h => ?_)
  refine j_if_ne hc cr27 (tgt := 11) dX6_readComparison_6 (by decide) (fun q36 => ?_) (fun q36 => ?_)
  · replace h := h.1 q36
    refine j_aload_nR hc 0 dX6_readComparison_11 rfl rfl ?_
    refine j_getI hc fl_RX6_50 (Or.inl rfl) (fun hv => Or.inl (sv_k hv hm rfl)) dX6_readComparison_12 (fun cn29 => ?_)
    refine j_iconst hc dX6_readComparison_15 ?_
    refine j_ic_ne hc cn29 (wlit 3 (by decide)) (tgt := 32) dX6_readComparison_16 (by decide) (fun q35 => ?_) (fun q35 => ?_)
    · replace h := h.1 q35
      refine j_iconst hc dX6_readComparison_32 ?_
      refine j_sub (lv' := [(0, vR E 12), (1, vI a1)]) [0, 1] rfl ?_
      exact jb_X6_readComparison_33 hc hm hr hh hr_X6_readBracket hr_X6_readChain hr_X6_readComparison hr_X6_readLink hr_X6_readPart hr_X6_readPlain ca1 (wlit (-1) (by decide)) h
    · replace h := h.2 q35
      refine j_ldcS (k := 9) hc rfl dX6_readComparison_19 ?_
      refine j_aload_nR hc 0 dX6_readComparison_21 rfl rfl ?_
      refine j_vI hc (k := 6) (by decide) (fun hv => Or.inl (sv_k hv hm rfl)) ml_RX6_136 mv_X6_sign (As := []) (c_X6_sign (cx_E hc) hm  h) rfl (by omega) (by decide) ⟨Nat.zero_le _, Nat.zero_le _⟩ (Nat.le_of_ble_eq_true rfl) rfl dX6_readComparison_22 (fun r30 s31 cr30 h => ?_)
      refine j_i2c hc dX6_readComparison_25 ?_
      refine j_wI hc (by decide) ml_RX6_140 mv_J0_indexOf_0f7a4 (As := [vI (o_i2c r30)]) (c_J0_indexOf_0f7a4 (cx_E hc) (cn_i2c _) h) rfl (by omega) (by decide) ⟨Nat.zero_le _, Nat.zero_le _⟩ (Nat.le_of_ble_eq_true rfl) rfl dX6_readComparison_26 (fun r32 s33 cr32 h => ?_)
      refine j_goto (tgt := 33) hc dX6_readComparison_29 (by decide) ?_
      refine j_sub (lv' := [(0, vR E 12), (1, vI a1)]) [0, 1] rfl ?_
      exact jb_X6_readComparison_33 hc hm hr hh hr_X6_readBracket hr_X6_readChain hr_X6_readComparison hr_X6_readLink hr_X6_readPart hr_X6_readPlain ca1 cr32 h
  · replace h := h.2 q36
    refine j_iconst hc dX6_readComparison_9 ?_
    exact j_zret hc hr (nar_bool (Or.inl rfl)) (by decide) h dX6_readComparison_10
set_option maxRecDepth 20000 in
theorem ce_X6_readLink {d : Nat} {rc_X6_readBracket : Int → Int → Int → st_S → (Int → st_S → Prop) → Prop} (hr_X6_readBracket : ∀ {l : Launch} {E : ev_E} (hE : Eok E) (hm : eM E = 1) {a1 : Int} {a2 : Int} {a3 : Int} (ca1 : wr a1 = a1) (ca2 : wr a2 = a2) (ca3 : wr a3 = a3) {σ : st_S} {Q : Int → st_S → Prop}, rc_X6_readBracket a1 a2 a3 σ Q → cM l yX6_readBracket cX6_readBracket 4 (some .boolean) E (8 + d) 0 0 [vR E 12, vI a1, vI a2, vI a3] σ (qI E (gN σ + 0) Q)) {rc_X6_readChain : Int → Int → st_S → (Int → st_S → Prop) → Prop} (hr_X6_readChain : ∀ {l : Launch} {E : ev_E} (hE : Eok E) (hm : eM E = 1) {a1 : Int} {a2 : Int} (ca1 : wr a1 = a1) (ca2 : wr a2 = a2) {σ : st_S} {Q : Int → st_S → Prop}, rc_X6_readChain a1 a2 σ Q → cM l yX6_readChain cX6_readChain 7 (some .boolean) E (8 + d) 0 0 [vR E 12, vI a1, vI a2] σ (qI E (gN σ + 0) Q)) {rc_X6_readComparison : Int → st_S → (Int → st_S → Prop) → Prop} (hr_X6_readComparison : ∀ {l : Launch} {E : ev_E} (hE : Eok E) (hm : eM E = 1) {a1 : Int} (ca1 : wr a1 = a1) {σ : st_S} {Q : Int → st_S → Prop}, rc_X6_readComparison a1 σ Q → cM l yX6_readComparison cX6_readComparison 3 (some .boolean) E (8 + d) 0 0 [vR E 12, vI a1] σ (qI E (gN σ + 0) Q)) {rc_X6_readLink : Int → Int → st_S → (Int → st_S → Prop) → Prop} (hr_X6_readLink : ∀ {l : Launch} {E : ev_E} (hE : Eok E) (hm : eM E = 1) {a1 : Int} {a2 : Int} (ca1 : wr a1 = a1) (ca2 : wr a2 = a2) {σ : st_S} {Q : Int → st_S → Prop}, rc_X6_readLink a1 a2 σ Q → cM l yX6_readLink cX6_readLink 3 (some .boolean) E (8 + d) 0 0 [vR E 12, vI a1, vI a2] σ (qI E (gN σ + 0) Q)) {rc_X6_readPart : Int → st_S → (Int → st_S → Prop) → Prop} (hr_X6_readPart : ∀ {l : Launch} {E : ev_E} (hE : Eok E) (hm : eM E = 1) {a1 : Int} (ca1 : wr a1 = a1) {σ : st_S} {Q : Int → st_S → Prop}, rc_X6_readPart a1 σ Q → cM l yX6_readPart cX6_readPart 4 (some .boolean) E (8 + d) 0 0 [vR E 12, vI a1] σ (qI E (gN σ + 0) Q)) {rc_X6_readPlain : Int → st_S → (Int → st_S → Prop) → Prop} (hr_X6_readPlain : ∀ {l : Launch} {E : ev_E} (hE : Eok E) (hm : eM E = 1) {a1 : Int} (ca1 : wr a1 = a1) {σ : st_S} {Q : Int → st_S → Prop}, rc_X6_readPlain a1 σ Q → cM l yX6_readPlain cX6_readPlain 4 (some .boolean) E (8 + d) 0 0 [vR E 12, vI a1] σ (qI E (gN σ + 0) Q)) {l : Launch} {E : ev_E} (hE : Eok E) (hm : eM E = 1) {a1 : Int} {a2 : Int} (ca1 : wr a1 = a1) (ca2 : wr a2 = a2) {σ : st_S} {Q : Int → st_S → Prop} (h : e_X6_readLink rc_X6_readBracket rc_X6_readChain rc_X6_readComparison rc_X6_readLink rc_X6_readPart rc_X6_readPlain a1 a2 σ Q) : cM l yX6_readLink cX6_readLink 3 (some .boolean) E (8 + (d + 1)) 0 0 [vR E 12, vI a1, vI a2] σ (qI E (gN σ + 0) Q) := by
  refine cM_of (lv := [(0, vR E 12), (1, vI a1), (2, vI a2)]) (by decide) hE (Nat.le_of_ble_eq_true rfl) (rfl) ?_
  intro X hX hc _ _ hr _ _
  subst hX
  have hh : 8 + (d + 1) ≤ 8 + (d + 1) := Nat.le_refl _
  have hh1 : 1 ≤ 8 + (d + 1) := by omega
  replace h : (a1 = 0 → rc_X6_readChain 1 a2 σ (fun r9 s10 => (r9 = 0 ∨ r9 = 1) ∧ Q r9 s10)) ∧ (a1 = 1 → rc_X6_readPlain a2 σ (fun r11 s12 => (r11 = 0 ∨ r11 = 1) ∧ Q r11 s12)) ∧ (a1 = 2 → rc_X6_readChain 3 a2 σ (fun r13 s14 => (r13 = 0 ∨ r13 = 1) ∧ Q r13 s14)) ∧ (a1 < 0 ∨ 2 < a1 → rc_X6_readPart a2 σ (fun r15 s16 => (r15 = 0 ∨ r15 = 1) ∧ Q r15 s16)) := h
  refine j_iload_n hc 1 dX6_readLink_0 rfl rfl ?_
  rcases Decidable.em (a1 = 0) with q0 | q0
  · replace h := h.1 q0
    refine j_ts (tgt := 28) (off := 27) hc ca1 dX6_readLink_1 0 q0 (by decide) (by decide) (by decide) (by decide) ?_
    refine j_aload_nR hc 0 dX6_readLink_28 rfl rfl ?_
    refine j_iconst hc dX6_readLink_29 ?_
    refine j_iload_n hc 2 dX6_readLink_30 rfl rfl ?_
    refine j_vI hc (k := 6) (by decide) (fun hv => Or.inl (sv_k hv hm rfl)) ml_RX6_81 mv_X6_readChain (As := [vI 1, vI a2]) (hr_X6_readChain (cx_E hc) hm (wlit 1 (by decide)) ca2 h) rfl (by omega) (by decide) ⟨Nat.zero_le _, Nat.zero_le _⟩ (Nat.le_of_ble_eq_true rfl) rfl dX6_readLink_31 (fun r9 s10 cr9 h => ?_)
    exact j_zret hc hr (nar_bool h.1) (by rcases h.1 with e | e <;> (rw [e]; decide)) h.2 dX6_readLink_34
  · rcases Decidable.em (a1 = 1) with q1 | q1
    · replace h := h.2.1 q1
      refine j_ts (tgt := 35) (off := 34) hc ca1 dX6_readLink_1 1 q1 (by decide) (by decide) (by decide) (by decide) ?_
      refine j_aload_nR hc 0 dX6_readLink_35 rfl rfl ?_
      refine j_iload_n hc 2 dX6_readLink_36 rfl rfl ?_
      refine j_vI hc (k := 6) (by decide) (fun hv => Or.inl (sv_k hv hm rfl)) ml_RX6_119 mv_X6_readPlain (As := [vI a2]) (hr_X6_readPlain (cx_E hc) hm ca2 h) rfl (by omega) (by decide) ⟨Nat.zero_le _, Nat.zero_le _⟩ (Nat.le_of_ble_eq_true rfl) rfl dX6_readLink_37 (fun r11 s12 cr11 h => ?_)
      exact j_zret hc hr (nar_bool h.1) (by rcases h.1 with e | e <;> (rw [e]; decide)) h.2 dX6_readLink_40
    · rcases Decidable.em (a1 = 2) with q2 | q2
      · replace h := h.2.2.1 q2
        refine j_ts (tgt := 41) (off := 40) hc ca1 dX6_readLink_1 2 q2 (by decide) (by decide) (by decide) (by decide) ?_
        refine j_aload_nR hc 0 dX6_readLink_41 rfl rfl ?_
        refine j_iconst hc dX6_readLink_42 ?_
        refine j_iload_n hc 2 dX6_readLink_43 rfl rfl ?_
        refine j_vI hc (k := 6) (by decide) (fun hv => Or.inl (sv_k hv hm rfl)) ml_RX6_81 mv_X6_readChain (As := [vI 3, vI a2]) (hr_X6_readChain (cx_E hc) hm (wlit 3 (by decide)) ca2 h) rfl (by omega) (by decide) ⟨Nat.zero_le _, Nat.zero_le _⟩ (Nat.le_of_ble_eq_true rfl) rfl dX6_readLink_44 (fun r13 s14 cr13 h => ?_)
        exact j_zret hc hr (nar_bool h.1) (by rcases h.1 with e | e <;> (rw [e]; decide)) h.2 dX6_readLink_47
      · have qd : a1 < 0 ∨ 2 < a1 := by omega
        replace h := h.2.2.2 qd
        refine j_td (tgt := 48) hc ca1 dX6_readLink_1 qd (by decide) ?_
        refine j_aload_nR hc 0 dX6_readLink_48 rfl rfl ?_
        refine j_iload_n hc 2 dX6_readLink_49 rfl rfl ?_
        refine j_vI hc (k := 6) (by decide) (fun hv => Or.inl (sv_k hv hm rfl)) ml_RX6_122 mv_X6_readPart (As := [vI a2]) (hr_X6_readPart (cx_E hc) hm ca2 h) rfl (by omega) (by decide) ⟨Nat.zero_le _, Nat.zero_le _⟩ (Nat.le_of_ble_eq_true rfl) rfl dX6_readLink_50 (fun r15 s16 cr15 h => ?_)
        exact j_zret hc hr (nar_bool h.1) (by rcases h.1 with e | e <;> (rw [e]; decide)) h.2 dX6_readLink_53
set_option maxRecDepth 20000 in
theorem jb_X6_readPart_79 {X : jj_X} {E : ev_E} {n0 hN : Nat} (hc : Cx X E cX6_readPart 4 n0 hN RX6) (hm : eM E = 1) (hr : (xT X).sig.returnType = (some .boolean)) {d : Nat} (hh : 8 + (d + 1) ≤ hN) {Q : Int → st_S → Prop} {rc_X6_readBracket : Int → Int → Int → st_S → (Int → st_S → Prop) → Prop} (hr_X6_readBracket : ∀ {l : Launch} {E : ev_E} (hE : Eok E) (hm : eM E = 1) {a1 : Int} {a2 : Int} {a3 : Int} (ca1 : wr a1 = a1) (ca2 : wr a2 = a2) (ca3 : wr a3 = a3) {σ : st_S} {Q : Int → st_S → Prop}, rc_X6_readBracket a1 a2 a3 σ Q → cM l yX6_readBracket cX6_readBracket 4 (some .boolean) E (8 + d) 0 0 [vR E 12, vI a1, vI a2, vI a3] σ (qI E (gN σ + 0) Q)) {rc_X6_readChain : Int → Int → st_S → (Int → st_S → Prop) → Prop} (hr_X6_readChain : ∀ {l : Launch} {E : ev_E} (hE : Eok E) (hm : eM E = 1) {a1 : Int} {a2 : Int} (ca1 : wr a1 = a1) (ca2 : wr a2 = a2) {σ : st_S} {Q : Int → st_S → Prop}, rc_X6_readChain a1 a2 σ Q → cM l yX6_readChain cX6_readChain 7 (some .boolean) E (8 + d) 0 0 [vR E 12, vI a1, vI a2] σ (qI E (gN σ + 0) Q)) {rc_X6_readComparison : Int → st_S → (Int → st_S → Prop) → Prop} (hr_X6_readComparison : ∀ {l : Launch} {E : ev_E} (hE : Eok E) (hm : eM E = 1) {a1 : Int} (ca1 : wr a1 = a1) {σ : st_S} {Q : Int → st_S → Prop}, rc_X6_readComparison a1 σ Q → cM l yX6_readComparison cX6_readComparison 3 (some .boolean) E (8 + d) 0 0 [vR E 12, vI a1] σ (qI E (gN σ + 0) Q)) {rc_X6_readLink : Int → Int → st_S → (Int → st_S → Prop) → Prop} (hr_X6_readLink : ∀ {l : Launch} {E : ev_E} (hE : Eok E) (hm : eM E = 1) {a1 : Int} {a2 : Int} (ca1 : wr a1 = a1) (ca2 : wr a2 = a2) {σ : st_S} {Q : Int → st_S → Prop}, rc_X6_readLink a1 a2 σ Q → cM l yX6_readLink cX6_readLink 3 (some .boolean) E (8 + d) 0 0 [vR E 12, vI a1, vI a2] σ (qI E (gN σ + 0) Q)) {rc_X6_readPart : Int → st_S → (Int → st_S → Prop) → Prop} (hr_X6_readPart : ∀ {l : Launch} {E : ev_E} (hE : Eok E) (hm : eM E = 1) {a1 : Int} (ca1 : wr a1 = a1) {σ : st_S} {Q : Int → st_S → Prop}, rc_X6_readPart a1 σ Q → cM l yX6_readPart cX6_readPart 4 (some .boolean) E (8 + d) 0 0 [vR E 12, vI a1] σ (qI E (gN σ + 0) Q)) {rc_X6_readPlain : Int → st_S → (Int → st_S → Prop) → Prop} (hr_X6_readPlain : ∀ {l : Launch} {E : ev_E} (hE : Eok E) (hm : eM E = 1) {a1 : Int} (ca1 : wr a1 = a1) {σ : st_S} {Q : Int → st_S → Prop}, rc_X6_readPlain a1 σ Q → cM l yX6_readPlain cX6_readPlain 4 (some .boolean) E (8 + d) 0 0 [vR E 12, vI a1] σ (qI E (gN σ + 0) Q)) {σ : st_S} (h : B_X6_readPart_79 Q rc_X6_readBracket rc_X6_readChain rc_X6_readComparison rc_X6_readLink rc_X6_readPart rc_X6_readPlain σ) : J X E 4 n0 0 0 (MQ (xB X) (qI E (n0 + 0) Q) (xA X) (xS X) 0 0 (eF E)) σ 79 [(0, vR E 12)] [] := by
  have hh1 : 1 ≤ hN := by omega
  replace h : wp_X6_fail σ (fun r27 s28 => (r27 = 0 ∨ r27 = 1) ∧ Q r27 s28) := h
  refine j_aload_nR hc 0 dX6_readPart_79 rfl rfl ?_
  refine j_vI hc (k := 6) (by decide) (fun hv => Or.inl (sv_k hv hm rfl)) ml_RX6_57 mv_X6_fail (As := []) (c_X6_fail (cx_E hc) hm  h) rfl (by omega) (by decide) ⟨Nat.zero_le _, Nat.zero_le _⟩ (Nat.le_of_ble_eq_true rfl) rfl dX6_readPart_80 (fun r27 s28 cr27 h => ?_)
  exact j_zret hc hr (nar_bool h.1) (by rcases h.1 with e | e <;> (rw [e]; decide)) h.2 dX6_readPart_83
set_option maxRecDepth 20000 in
theorem jb_X6_readPart_110 {X : jj_X} {E : ev_E} {n0 hN : Nat} (hc : Cx X E cX6_readPart 4 n0 hN RX6) (hm : eM E = 1) (hr : (xT X).sig.returnType = (some .boolean)) {d : Nat} (hh : 8 + (d + 1) ≤ hN) {Q : Int → st_S → Prop} {rc_X6_readBracket : Int → Int → Int → st_S → (Int → st_S → Prop) → Prop} (hr_X6_readBracket : ∀ {l : Launch} {E : ev_E} (hE : Eok E) (hm : eM E = 1) {a1 : Int} {a2 : Int} {a3 : Int} (ca1 : wr a1 = a1) (ca2 : wr a2 = a2) (ca3 : wr a3 = a3) {σ : st_S} {Q : Int → st_S → Prop}, rc_X6_readBracket a1 a2 a3 σ Q → cM l yX6_readBracket cX6_readBracket 4 (some .boolean) E (8 + d) 0 0 [vR E 12, vI a1, vI a2, vI a3] σ (qI E (gN σ + 0) Q)) {rc_X6_readChain : Int → Int → st_S → (Int → st_S → Prop) → Prop} (hr_X6_readChain : ∀ {l : Launch} {E : ev_E} (hE : Eok E) (hm : eM E = 1) {a1 : Int} {a2 : Int} (ca1 : wr a1 = a1) (ca2 : wr a2 = a2) {σ : st_S} {Q : Int → st_S → Prop}, rc_X6_readChain a1 a2 σ Q → cM l yX6_readChain cX6_readChain 7 (some .boolean) E (8 + d) 0 0 [vR E 12, vI a1, vI a2] σ (qI E (gN σ + 0) Q)) {rc_X6_readComparison : Int → st_S → (Int → st_S → Prop) → Prop} (hr_X6_readComparison : ∀ {l : Launch} {E : ev_E} (hE : Eok E) (hm : eM E = 1) {a1 : Int} (ca1 : wr a1 = a1) {σ : st_S} {Q : Int → st_S → Prop}, rc_X6_readComparison a1 σ Q → cM l yX6_readComparison cX6_readComparison 3 (some .boolean) E (8 + d) 0 0 [vR E 12, vI a1] σ (qI E (gN σ + 0) Q)) {rc_X6_readLink : Int → Int → st_S → (Int → st_S → Prop) → Prop} (hr_X6_readLink : ∀ {l : Launch} {E : ev_E} (hE : Eok E) (hm : eM E = 1) {a1 : Int} {a2 : Int} (ca1 : wr a1 = a1) (ca2 : wr a2 = a2) {σ : st_S} {Q : Int → st_S → Prop}, rc_X6_readLink a1 a2 σ Q → cM l yX6_readLink cX6_readLink 3 (some .boolean) E (8 + d) 0 0 [vR E 12, vI a1, vI a2] σ (qI E (gN σ + 0) Q)) {rc_X6_readPart : Int → st_S → (Int → st_S → Prop) → Prop} (hr_X6_readPart : ∀ {l : Launch} {E : ev_E} (hE : Eok E) (hm : eM E = 1) {a1 : Int} (ca1 : wr a1 = a1) {σ : st_S} {Q : Int → st_S → Prop}, rc_X6_readPart a1 σ Q → cM l yX6_readPart cX6_readPart 4 (some .boolean) E (8 + d) 0 0 [vR E 12, vI a1] σ (qI E (gN σ + 0) Q)) {rc_X6_readPlain : Int → st_S → (Int → st_S → Prop) → Prop} (hr_X6_readPlain : ∀ {l : Launch} {E : ev_E} (hE : Eok E) (hm : eM E = 1) {a1 : Int} (ca1 : wr a1 = a1) {σ : st_S} {Q : Int → st_S → Prop}, rc_X6_readPlain a1 σ Q → cM l yX6_readPlain cX6_readPlain 4 (some .boolean) E (8 + d) 0 0 [vR E 12, vI a1] σ (qI E (gN σ + 0) Q)) {l2 : Int} {l3 : Int} (cl2 : wr l2 = l2) (cl3 : wr l3 = l3) {σ : st_S} (h : B_X6_readPart_110 Q rc_X6_readBracket rc_X6_readChain rc_X6_readComparison rc_X6_readLink rc_X6_readPart rc_X6_readPlain l2 l3 σ) : J X E 4 n0 0 0 (MQ (xB X) (qI E (n0 + 0) Q) (xA X) (xS X) 0 0 (eF E)) σ 110 [(0, vR E 12), (2, vI l2), (3, vI l3)] [] := by
  have hh1 : 1 ≤ hN := by omega
  replace h : wp_X6_advance σ (fun s30 => (l3 = 0 → wp_X6_readWord l2 s30 (fun r31 s32 => (r31 = 0 ∨ r31 = 1) ∧ Q r31 s32)) ∧ (¬ l3 = 0 → Q 1 s30)) := h
  refine j_aload_nR hc 0 dX6_readPart_110 rfl rfl ?_
  refine j_vV hc (k := 6) (by decide) (fun hv => Or.inl (sv_k hv hm rfl)) ml_RX6_43 mv_X6_advance (As := []) (c_X6_advance (cx_E hc) hm  h) rfl (by omega) (by decide) ⟨Nat.zero_le _, Nat.zero_le _⟩ (Nat.le_of_ble_eq_true rfl) rfl dX6_readPart_111 (fun s30 h => ?_)
  refine j_iload_n hc 2 dX6_readPart_114 rfl rfl ?_
  refine j_if_eq hc cl3 (tgt := 120) dX6_readPart_115 (by decide) (fun q33 => ?_) (fun q33 => ?_)
  · replace h := h.1 q33
    refine j_aload_nR hc 0 dX6_readPart_120 rfl rfl ?_
    refine j_iload_n hc 1 dX6_readPart_121 rfl rfl ?_
    refine j_vI hc (k := 6) (by decide) (fun hv => Or.inl (sv_k hv hm rfl)) ml_RX6_149 mv_X6_readWord (As := [vI l2]) (c_X6_readWord (cx_E hc) hm cl2 h) rfl (by omega) (by decide) ⟨Nat.zero_le _, Nat.zero_le _⟩ (Nat.le_of_ble_eq_true rfl) rfl dX6_readPart_122 (fun r31 s32 cr31 h => ?_)
    exact j_zret hc hr (nar_bool h.1) (by rcases h.1 with e | e <;> (rw [e]; decide)) h.2 dX6_readPart_125
  · replace h := h.2 q33
    refine j_iconst hc dX6_readPart_118 ?_
    exact j_zret hc hr (nar_bool (Or.inr rfl)) (by decide) h dX6_readPart_119
set_option maxRecDepth 20000 in
theorem jb_X6_readPart_70 {X : jj_X} {E : ev_E} {n0 hN : Nat} (hc : Cx X E cX6_readPart 4 n0 hN RX6) (hm : eM E = 1) (hr : (xT X).sig.returnType = (some .boolean)) {d : Nat} (hh : 8 + (d + 1) ≤ hN) {Q : Int → st_S → Prop} {rc_X6_readBracket : Int → Int → Int → st_S → (Int → st_S → Prop) → Prop} (hr_X6_readBracket : ∀ {l : Launch} {E : ev_E} (hE : Eok E) (hm : eM E = 1) {a1 : Int} {a2 : Int} {a3 : Int} (ca1 : wr a1 = a1) (ca2 : wr a2 = a2) (ca3 : wr a3 = a3) {σ : st_S} {Q : Int → st_S → Prop}, rc_X6_readBracket a1 a2 a3 σ Q → cM l yX6_readBracket cX6_readBracket 4 (some .boolean) E (8 + d) 0 0 [vR E 12, vI a1, vI a2, vI a3] σ (qI E (gN σ + 0) Q)) {rc_X6_readChain : Int → Int → st_S → (Int → st_S → Prop) → Prop} (hr_X6_readChain : ∀ {l : Launch} {E : ev_E} (hE : Eok E) (hm : eM E = 1) {a1 : Int} {a2 : Int} (ca1 : wr a1 = a1) (ca2 : wr a2 = a2) {σ : st_S} {Q : Int → st_S → Prop}, rc_X6_readChain a1 a2 σ Q → cM l yX6_readChain cX6_readChain 7 (some .boolean) E (8 + d) 0 0 [vR E 12, vI a1, vI a2] σ (qI E (gN σ + 0) Q)) {rc_X6_readComparison : Int → st_S → (Int → st_S → Prop) → Prop} (hr_X6_readComparison : ∀ {l : Launch} {E : ev_E} (hE : Eok E) (hm : eM E = 1) {a1 : Int} (ca1 : wr a1 = a1) {σ : st_S} {Q : Int → st_S → Prop}, rc_X6_readComparison a1 σ Q → cM l yX6_readComparison cX6_readComparison 3 (some .boolean) E (8 + d) 0 0 [vR E 12, vI a1] σ (qI E (gN σ + 0) Q)) {rc_X6_readLink : Int → Int → st_S → (Int → st_S → Prop) → Prop} (hr_X6_readLink : ∀ {l : Launch} {E : ev_E} (hE : Eok E) (hm : eM E = 1) {a1 : Int} {a2 : Int} (ca1 : wr a1 = a1) (ca2 : wr a2 = a2) {σ : st_S} {Q : Int → st_S → Prop}, rc_X6_readLink a1 a2 σ Q → cM l yX6_readLink cX6_readLink 3 (some .boolean) E (8 + d) 0 0 [vR E 12, vI a1, vI a2] σ (qI E (gN σ + 0) Q)) {rc_X6_readPart : Int → st_S → (Int → st_S → Prop) → Prop} (hr_X6_readPart : ∀ {l : Launch} {E : ev_E} (hE : Eok E) (hm : eM E = 1) {a1 : Int} (ca1 : wr a1 = a1) {σ : st_S} {Q : Int → st_S → Prop}, rc_X6_readPart a1 σ Q → cM l yX6_readPart cX6_readPart 4 (some .boolean) E (8 + d) 0 0 [vR E 12, vI a1] σ (qI E (gN σ + 0) Q)) {rc_X6_readPlain : Int → st_S → (Int → st_S → Prop) → Prop} (hr_X6_readPlain : ∀ {l : Launch} {E : ev_E} (hE : Eok E) (hm : eM E = 1) {a1 : Int} (ca1 : wr a1 = a1) {σ : st_S} {Q : Int → st_S → Prop}, rc_X6_readPlain a1 σ Q → cM l yX6_readPlain cX6_readPlain 4 (some .boolean) E (8 + d) 0 0 [vR E 12, vI a1] σ (qI E (gN σ + 0) Q)) {l2 : Int} {l3 : Int} (cl2 : wr l2 = l2) (cl3 : wr l3 = l3) {σ : st_S} (h : B_X6_readPart_70 Q rc_X6_readBracket rc_X6_readChain rc_X6_readComparison rc_X6_readLink rc_X6_readPart rc_X6_readPlain l2 l3 σ) : J X E 4 n0 0 0 (MQ (xB X) (qI E (n0 + 0) Q) (xA X) (xS X) 0 0 (eF E)) σ 70 [(0, vR E 12), (2, vI l2), (3, vI l3)] [] := by
  have hh1 : 1 ≤ hN := by omega
  replace h : (gI σ 12 9 < 50 → ∀ x36 : Int, x36 = wr (gI σ 12 9 + 1) → ∀ s37 : st_S, s37 = sI σ 12 9 x36 → (l3 = 0 → B_X6_readPart_110 Q rc_X6_readBracket rc_X6_readChain rc_X6_readComparison rc_X6_readLink rc_X6_readPart rc_X6_readPlain l2 l3 s37) ∧ (¬ l3 = 0 → wp_X9_add 0 (gI s37 12 8) s37 (fun s40 => B_X6_readPart_110 Q rc_X6_readBracket rc_X6_readChain rc_X6_readComparison rc_X6_readLink rc_X6_readPart rc_X6_readPlain l2 l3 s40))) ∧ (¬ gI σ 12 9 < 50 → B_X6_readPart_79 Q rc_X6_readBracket rc_X6_readChain rc_X6_readComparison rc_X6_readLink rc_X6_readPart rc_X6_readPlain σ) := h
  refine j_aload_nR hc 0 dX6_readPart_70 rfl rfl ?_
  refine j_getI hc fl_RX6_37 (Or.inl rfl) (fun hv => Or.inl (sv_k hv hm rfl)) dX6_readPart_71 (fun cn34 => ?_)
  refine j_bipush hc dX6_readPart_74 (by decide) ?_
  refine j_ic_lt hc cn34 (wlit 50 (by decide)) (tgt := 84) dX6_readPart_76 (by decide) (fun q42 => ?_) (fun q42 => ?_)
  · replace h := h.1 q42
    refine j_aload_nR hc 0 dX6_readPart_84 rfl rfl ?_
    refine j_dup hc dX6_readPart_85 rfl ?_
    refine j_getI hc fl_RX6_37 (Or.inl rfl) (fun hv => Or.inl (sv_k hv hm rfl)) dX6_readPart_86 (fun cn35 => ?_)
    refine j_iconst hc dX6_readPart_89 ?_
    refine j_iadd hc dX6_readPart_90 ?_
    refine j_w (fun x36 ex36 cx36 => ?_)
    replace h := h x36 ex36
    refine j_putI hc fl_RX6_37 rfl rfl (fun hv => Or.inl (sv_k hv hm rfl)) cx36 dX6_readPart_91 (fun s37 es37 => ?_)
    replace h := h s37 es37
    refine j_iload_n hc 2 dX6_readPart_94 rfl rfl ?_
    refine j_if_eq hc cl3 (tgt := 110) dX6_readPart_95 (by decide) (fun q41 => ?_) (fun q41 => ?_)
    · replace h := h.1 q41
      refine j_sub (lv' := [(0, vR E 12), (2, vI l2), (3, vI l3)]) [0, 1, 2] rfl ?_
      exact jb_X6_readPart_110 hc hm hr hh hr_X6_readBracket hr_X6_readChain hr_X6_readComparison hr_X6_readLink hr_X6_readPart hr_X6_readPlain cl2 cl3 h
    · replace h := h.2 q41
      refine j_aload_nR hc 0 dX6_readPart_98 rfl rfl ?_
      refine j_getR (c' := 14) hc fl_RX6_18 rfl rfl (fun hv => (sv_k hv hm rfl)) dX6_readPart_99 ?_
      refine j_iconst hc dX6_readPart_102 ?_
      refine j_aload_nR hc 0 dX6_readPart_103 rfl rfl ?_
      refine j_getI hc fl_RX6_101 (Or.inl rfl) (fun hv => Or.inl (sv_k hv hm rfl)) dX6_readPart_104 (fun cn38 => ?_)
      refine j_vV hc (k := 9) (by decide) (fun hv => Or.inl (sv_k hv hm rfl)) ml_RX6_111 mv_X9_add (As := [vI 0, vI (gI s37 12 8)]) (c_X9_add (cx_E hc) hm (wlit 0 (by decide)) cn38 h) rfl (by omega) (by decide) ⟨Nat.zero_le _, Nat.zero_le _⟩ (Nat.le_of_ble_eq_true rfl) rfl dX6_readPart_107 (fun s40 h => ?_)
      refine j_sub (lv' := [(0, vR E 12), (2, vI l2), (3, vI l3)]) [0, 1, 2] rfl ?_
      exact jb_X6_readPart_110 hc hm hr hh hr_X6_readBracket hr_X6_readChain hr_X6_readComparison hr_X6_readLink hr_X6_readPart hr_X6_readPlain cl2 cl3 h
  · replace h := h.2 q42
    refine j_sub (lv' := [(0, vR E 12)]) [0] rfl ?_
    exact jb_X6_readPart_79 hc hm hr hh hr_X6_readBracket hr_X6_readChain hr_X6_readComparison hr_X6_readLink hr_X6_readPart hr_X6_readPlain h
set_option maxRecDepth 20000 in
theorem jb_X6_readPart_60 {X : jj_X} {E : ev_E} {n0 hN : Nat} (hc : Cx X E cX6_readPart 4 n0 hN RX6) (hm : eM E = 1) (hr : (xT X).sig.returnType = (some .boolean)) {d : Nat} (hh : 8 + (d + 1) ≤ hN) {Q : Int → st_S → Prop} {rc_X6_readBracket : Int → Int → Int → st_S → (Int → st_S → Prop) → Prop} (hr_X6_readBracket : ∀ {l : Launch} {E : ev_E} (hE : Eok E) (hm : eM E = 1) {a1 : Int} {a2 : Int} {a3 : Int} (ca1 : wr a1 = a1) (ca2 : wr a2 = a2) (ca3 : wr a3 = a3) {σ : st_S} {Q : Int → st_S → Prop}, rc_X6_readBracket a1 a2 a3 σ Q → cM l yX6_readBracket cX6_readBracket 4 (some .boolean) E (8 + d) 0 0 [vR E 12, vI a1, vI a2, vI a3] σ (qI E (gN σ + 0) Q)) {rc_X6_readChain : Int → Int → st_S → (Int → st_S → Prop) → Prop} (hr_X6_readChain : ∀ {l : Launch} {E : ev_E} (hE : Eok E) (hm : eM E = 1) {a1 : Int} {a2 : Int} (ca1 : wr a1 = a1) (ca2 : wr a2 = a2) {σ : st_S} {Q : Int → st_S → Prop}, rc_X6_readChain a1 a2 σ Q → cM l yX6_readChain cX6_readChain 7 (some .boolean) E (8 + d) 0 0 [vR E 12, vI a1, vI a2] σ (qI E (gN σ + 0) Q)) {rc_X6_readComparison : Int → st_S → (Int → st_S → Prop) → Prop} (hr_X6_readComparison : ∀ {l : Launch} {E : ev_E} (hE : Eok E) (hm : eM E = 1) {a1 : Int} (ca1 : wr a1 = a1) {σ : st_S} {Q : Int → st_S → Prop}, rc_X6_readComparison a1 σ Q → cM l yX6_readComparison cX6_readComparison 3 (some .boolean) E (8 + d) 0 0 [vR E 12, vI a1] σ (qI E (gN σ + 0) Q)) {rc_X6_readLink : Int → Int → st_S → (Int → st_S → Prop) → Prop} (hr_X6_readLink : ∀ {l : Launch} {E : ev_E} (hE : Eok E) (hm : eM E = 1) {a1 : Int} {a2 : Int} (ca1 : wr a1 = a1) (ca2 : wr a2 = a2) {σ : st_S} {Q : Int → st_S → Prop}, rc_X6_readLink a1 a2 σ Q → cM l yX6_readLink cX6_readLink 3 (some .boolean) E (8 + d) 0 0 [vR E 12, vI a1, vI a2] σ (qI E (gN σ + 0) Q)) {rc_X6_readPart : Int → st_S → (Int → st_S → Prop) → Prop} (hr_X6_readPart : ∀ {l : Launch} {E : ev_E} (hE : Eok E) (hm : eM E = 1) {a1 : Int} (ca1 : wr a1 = a1) {σ : st_S} {Q : Int → st_S → Prop}, rc_X6_readPart a1 σ Q → cM l yX6_readPart cX6_readPart 4 (some .boolean) E (8 + d) 0 0 [vR E 12, vI a1] σ (qI E (gN σ + 0) Q)) {rc_X6_readPlain : Int → st_S → (Int → st_S → Prop) → Prop} (hr_X6_readPlain : ∀ {l : Launch} {E : ev_E} (hE : Eok E) (hm : eM E = 1) {a1 : Int} (ca1 : wr a1 = a1) {σ : st_S} {Q : Int → st_S → Prop}, rc_X6_readPlain a1 σ Q → cM l yX6_readPlain cX6_readPlain 4 (some .boolean) E (8 + d) 0 0 [vR E 12, vI a1] σ (qI E (gN σ + 0) Q)) {l2 : Int} {v0 : Int} (cl2 : wr l2 = l2) (cv0 : wr v0 = v0) {σ : st_S} (h : B_X6_readPart_60 Q rc_X6_readBracket rc_X6_readChain rc_X6_readComparison rc_X6_readLink rc_X6_readPart rc_X6_readPlain l2 v0 σ) : J X E 4 n0 0 0 (MQ (xB X) (qI E (n0 + 0) Q) (xA X) (xS X) 0 0 (eF E)) σ 60 [(0, vR E 12), (2, vI l2)] [vI v0] := by
  have hh1 : 1 ≤ hN := by omega
  replace h : (¬ l2 = (-1) → B_X6_readPart_70 Q rc_X6_readBracket rc_X6_readChain rc_X6_readComparison rc_X6_readLink rc_X6_readPart rc_X6_readPlain l2 v0 σ) ∧ (l2 = (-1) → (v0 = 0 → B_X6_readPart_79 Q rc_X6_readBracket rc_X6_readChain rc_X6_readComparison rc_X6_readLink rc_X6_readPart rc_X6_readPlain σ) ∧ (¬ v0 = 0 → B_X6_readPart_70 Q rc_X6_readBracket rc_X6_readChain rc_X6_readComparison rc_X6_readLink rc_X6_readPart rc_X6_readPlain l2 v0 σ)) := h
  refine j_istore_n (lv' := [(3, vI v0), (0, vR E 12), (2, vI l2)]) hc dX6_readPart_60 rfl (by decide) rfl ?_
  refine j_iload_n hc 2 dX6_readPart_61 rfl rfl ?_
  refine j_iconst hc dX6_readPart_62 ?_
  refine j_ic_ne hc cl2 (wlit (-1) (by decide)) (tgt := 70) dX6_readPart_63 (by decide) (fun q44 => ?_) (fun q44 => ?_)
  · replace h := h.1 q44
    refine j_sub (lv' := [(0, vR E 12), (2, vI l2), (3, vI v0)]) [1, 2, 0] rfl ?_
    exact jb_X6_readPart_70 hc hm hr hh hr_X6_readBracket hr_X6_readChain hr_X6_readComparison hr_X6_readLink hr_X6_readPart hr_X6_readPlain cl2 cv0 h
  · replace h := h.2 q44
    refine j_iload_n hc 0 dX6_readPart_66 rfl rfl ?_
    refine j_if_eq hc cv0 (tgt := 79) dX6_readPart_67 (by decide) (fun q43 => ?_) (fun q43 => ?_)
    · replace h := h.1 q43
      refine j_sub (lv' := [(0, vR E 12)]) [1] rfl ?_
      exact jb_X6_readPart_79 hc hm hr hh hr_X6_readBracket hr_X6_readChain hr_X6_readComparison hr_X6_readLink hr_X6_readPart hr_X6_readPlain h
    · replace h := h.2 q43
      refine j_sub (lv' := [(0, vR E 12), (2, vI l2), (3, vI v0)]) [1, 2, 0] rfl ?_
      exact jb_X6_readPart_70 hc hm hr hh hr_X6_readBracket hr_X6_readChain hr_X6_readComparison hr_X6_readLink hr_X6_readPart hr_X6_readPlain cl2 cv0 h
set_option maxRecDepth 20000 in
theorem jb_X6_readPart_59 {X : jj_X} {E : ev_E} {n0 hN : Nat} (hc : Cx X E cX6_readPart 4 n0 hN RX6) (hm : eM E = 1) (hr : (xT X).sig.returnType = (some .boolean)) {d : Nat} (hh : 8 + (d + 1) ≤ hN) {Q : Int → st_S → Prop} {rc_X6_readBracket : Int → Int → Int → st_S → (Int → st_S → Prop) → Prop} (hr_X6_readBracket : ∀ {l : Launch} {E : ev_E} (hE : Eok E) (hm : eM E = 1) {a1 : Int} {a2 : Int} {a3 : Int} (ca1 : wr a1 = a1) (ca2 : wr a2 = a2) (ca3 : wr a3 = a3) {σ : st_S} {Q : Int → st_S → Prop}, rc_X6_readBracket a1 a2 a3 σ Q → cM l yX6_readBracket cX6_readBracket 4 (some .boolean) E (8 + d) 0 0 [vR E 12, vI a1, vI a2, vI a3] σ (qI E (gN σ + 0) Q)) {rc_X6_readChain : Int → Int → st_S → (Int → st_S → Prop) → Prop} (hr_X6_readChain : ∀ {l : Launch} {E : ev_E} (hE : Eok E) (hm : eM E = 1) {a1 : Int} {a2 : Int} (ca1 : wr a1 = a1) (ca2 : wr a2 = a2) {σ : st_S} {Q : Int → st_S → Prop}, rc_X6_readChain a1 a2 σ Q → cM l yX6_readChain cX6_readChain 7 (some .boolean) E (8 + d) 0 0 [vR E 12, vI a1, vI a2] σ (qI E (gN σ + 0) Q)) {rc_X6_readComparison : Int → st_S → (Int → st_S → Prop) → Prop} (hr_X6_readComparison : ∀ {l : Launch} {E : ev_E} (hE : Eok E) (hm : eM E = 1) {a1 : Int} (ca1 : wr a1 = a1) {σ : st_S} {Q : Int → st_S → Prop}, rc_X6_readComparison a1 σ Q → cM l yX6_readComparison cX6_readComparison 3 (some .boolean) E (8 + d) 0 0 [vR E 12, vI a1] σ (qI E (gN σ + 0) Q)) {rc_X6_readLink : Int → Int → st_S → (Int → st_S → Prop) → Prop} (hr_X6_readLink : ∀ {l : Launch} {E : ev_E} (hE : Eok E) (hm : eM E = 1) {a1 : Int} {a2 : Int} (ca1 : wr a1 = a1) (ca2 : wr a2 = a2) {σ : st_S} {Q : Int → st_S → Prop}, rc_X6_readLink a1 a2 σ Q → cM l yX6_readLink cX6_readLink 3 (some .boolean) E (8 + d) 0 0 [vR E 12, vI a1, vI a2] σ (qI E (gN σ + 0) Q)) {rc_X6_readPart : Int → st_S → (Int → st_S → Prop) → Prop} (hr_X6_readPart : ∀ {l : Launch} {E : ev_E} (hE : Eok E) (hm : eM E = 1) {a1 : Int} (ca1 : wr a1 = a1) {σ : st_S} {Q : Int → st_S → Prop}, rc_X6_readPart a1 σ Q → cM l yX6_readPart cX6_readPart 4 (some .boolean) E (8 + d) 0 0 [vR E 12, vI a1] σ (qI E (gN σ + 0) Q)) {rc_X6_readPlain : Int → st_S → (Int → st_S → Prop) → Prop} (hr_X6_readPlain : ∀ {l : Launch} {E : ev_E} (hE : Eok E) (hm : eM E = 1) {a1 : Int} (ca1 : wr a1 = a1) {σ : st_S} {Q : Int → st_S → Prop}, rc_X6_readPlain a1 σ Q → cM l yX6_readPlain cX6_readPlain 4 (some .boolean) E (8 + d) 0 0 [vR E 12, vI a1] σ (qI E (gN σ + 0) Q)) {l2 : Int} (cl2 : wr l2 = l2) {σ : st_S} (h : B_X6_readPart_59 Q rc_X6_readBracket rc_X6_readChain rc_X6_readComparison rc_X6_readLink rc_X6_readPart rc_X6_readPlain l2 σ) : J X E 4 n0 0 0 (MQ (xB X) (qI E (n0 + 0) Q) (xA X) (xS X) 0 0 (eF E)) σ 59 [(0, vR E 12), (2, vI l2)] [] := by
  have hh1 : 1 ≤ hN := by omega
  replace h : B_X6_readPart_60 Q rc_X6_readBracket rc_X6_readChain rc_X6_readComparison rc_X6_readLink rc_X6_readPart rc_X6_readPlain l2 0 σ := h
  refine j_iconst hc dX6_readPart_59 ?_
  refine j_sub (lv' := [(0, vR E 12), (2, vI l2)]) [0, 1] rfl ?_
  exact jb_X6_readPart_60 hc hm hr hh hr_X6_readBracket hr_X6_readChain hr_X6_readComparison hr_X6_readLink hr_X6_readPart hr_X6_readPlain cl2 (wlit 0 (by decide)) h
set_option maxRecDepth 20000 in
theorem jb_X6_readPart_33 {X : jj_X} {E : ev_E} {n0 hN : Nat} (hc : Cx X E cX6_readPart 4 n0 hN RX6) (hm : eM E = 1) (hr : (xT X).sig.returnType = (some .boolean)) {d : Nat} (hh : 8 + (d + 1) ≤ hN) {Q : Int → st_S → Prop} {rc_X6_readBracket : Int → Int → Int → st_S → (Int → st_S → Prop) → Prop} (hr_X6_readBracket : ∀ {l : Launch} {E : ev_E} (hE : Eok E) (hm : eM E = 1) {a1 : Int} {a2 : Int} {a3 : Int} (ca1 : wr a1 = a1) (ca2 : wr a2 = a2) (ca3 : wr a3 = a3) {σ : st_S} {Q : Int → st_S → Prop}, rc_X6_readBracket a1 a2 a3 σ Q → cM l yX6_readBracket cX6_readBracket 4 (some .boolean) E (8 + d) 0 0 [vR E 12, vI a1, vI a2, vI a3] σ (qI E (gN σ + 0) Q)) {rc_X6_readChain : Int → Int → st_S → (Int → st_S → Prop) → Prop} (hr_X6_readChain : ∀ {l : Launch} {E : ev_E} (hE : Eok E) (hm : eM E = 1) {a1 : Int} {a2 : Int} (ca1 : wr a1 = a1) (ca2 : wr a2 = a2) {σ : st_S} {Q : Int → st_S → Prop}, rc_X6_readChain a1 a2 σ Q → cM l yX6_readChain cX6_readChain 7 (some .boolean) E (8 + d) 0 0 [vR E 12, vI a1, vI a2] σ (qI E (gN σ + 0) Q)) {rc_X6_readComparison : Int → st_S → (Int → st_S → Prop) → Prop} (hr_X6_readComparison : ∀ {l : Launch} {E : ev_E} (hE : Eok E) (hm : eM E = 1) {a1 : Int} (ca1 : wr a1 = a1) {σ : st_S} {Q : Int → st_S → Prop}, rc_X6_readComparison a1 σ Q → cM l yX6_readComparison cX6_readComparison 3 (some .boolean) E (8 + d) 0 0 [vR E 12, vI a1] σ (qI E (gN σ + 0) Q)) {rc_X6_readLink : Int → Int → st_S → (Int → st_S → Prop) → Prop} (hr_X6_readLink : ∀ {l : Launch} {E : ev_E} (hE : Eok E) (hm : eM E = 1) {a1 : Int} {a2 : Int} (ca1 : wr a1 = a1) (ca2 : wr a2 = a2) {σ : st_S} {Q : Int → st_S → Prop}, rc_X6_readLink a1 a2 σ Q → cM l yX6_readLink cX6_readLink 3 (some .boolean) E (8 + d) 0 0 [vR E 12, vI a1, vI a2] σ (qI E (gN σ + 0) Q)) {rc_X6_readPart : Int → st_S → (Int → st_S → Prop) → Prop} (hr_X6_readPart : ∀ {l : Launch} {E : ev_E} (hE : Eok E) (hm : eM E = 1) {a1 : Int} (ca1 : wr a1 = a1) {σ : st_S} {Q : Int → st_S → Prop}, rc_X6_readPart a1 σ Q → cM l yX6_readPart cX6_readPart 4 (some .boolean) E (8 + d) 0 0 [vR E 12, vI a1] σ (qI E (gN σ + 0) Q)) {rc_X6_readPlain : Int → st_S → (Int → st_S → Prop) → Prop} (hr_X6_readPlain : ∀ {l : Launch} {E : ev_E} (hE : Eok E) (hm : eM E = 1) {a1 : Int} (ca1 : wr a1 = a1) {σ : st_S} {Q : Int → st_S → Prop}, rc_X6_readPlain a1 σ Q → cM l yX6_readPlain cX6_readPlain 4 (some .boolean) E (8 + d) 0 0 [vR E 12, vI a1] σ (qI E (gN σ + 0) Q)) {v0 : Nat} {σ : st_S} (h : B_X6_readPart_33 Q rc_X6_readBracket rc_X6_readChain rc_X6_readComparison rc_X6_readLink rc_X6_readPart rc_X6_readPlain v0 σ) : J X E 4 n0 0 0 (MQ (xB X) (qI E (n0 + 0) Q) (xA X) (xS X) 0 0 (eF E)) σ 33 [(0, vR E 12)] [vS E v0, vR E 12] := by
  have hh1 : 1 ≤ hN := by omega
  replace h : wp_X6_place v0 σ (fun r45 s46 => (¬ gI s46 12 5 = 2 → B_X6_readPart_59 Q rc_X6_readBracket rc_X6_readChain rc_X6_readComparison rc_X6_readLink rc_X6_readPart rc_X6_readPlain r45 s46) ∧ (gI s46 12 5 = 2 → (1000 < gI s46 12 8 → B_X6_readPart_59 Q rc_X6_readBracket rc_X6_readChain rc_X6_readComparison rc_X6_readLink rc_X6_readPart rc_X6_readPlain r45 s46) ∧ (¬ 1000 < gI s46 12 8 → B_X6_readPart_60 Q rc_X6_readBracket rc_X6_readChain rc_X6_readComparison rc_X6_readLink rc_X6_readPart rc_X6_readPlain r45 1 s46))) := h
  refine j_vI hc (k := 6) (by decide) (fun hv => Or.inl (sv_k hv hm rfl)) ml_RX6_68 mv_X6_place (As := [vS E v0]) (c_X6_place (cx_E hc) hm  h) rfl (by omega) (by decide) ⟨Nat.zero_le _, Nat.zero_le _⟩ (Nat.le_of_ble_eq_true rfl) rfl dX6_readPart_33 (fun r45 s46 cr45 h => ?_)
  refine j_istore_n (lv' := [(2, vI r45), (0, vR E 12)]) hc dX6_readPart_36 rfl (by decide) rfl ?_
  refine j_aload_nR hc 1 dX6_readPart_37 rfl rfl ?_
  refine j_getI hc fl_RX6_50 (Or.inl rfl) (fun hv => Or.inl (sv_k hv hm rfl)) dX6_readPart_38 (fun cn47 => ?_)
  refine j_iconst hc dX6_readPart_41 ?_
  refine j_ic_ne hc cn47 (wlit 2 (by decide)) (tgt := 59) dX6_readPart_42 (by decide) (fun q50 => ?_) (fun q50 => ?_)
  · replace h := h.1 q50
    refine j_sub (lv' := [(0, vR E 12), (2, vI r45)]) [1, 0] rfl ?_
    exact jb_X6_readPart_59 hc hm hr hh hr_X6_readBracket hr_X6_readChain hr_X6_readComparison hr_X6_readLink hr_X6_readPart hr_X6_readPlain cr45 h
  · replace h := h.2 q50
    refine j_aload_nR hc 1 dX6_readPart_45 rfl rfl ?_
    refine j_getI hc fl_RX6_101 (Or.inl rfl) (fun hv => Or.inl (sv_k hv hm rfl)) dX6_readPart_46 (fun cn48 => ?_)
    refine j_sipush hc dX6_readPart_49 (by decide) ?_
    refine j_ic_gt hc cn48 (wlit 1000 (by decide)) (tgt := 59) dX6_readPart_52 (by decide) (fun q49 => ?_) (fun q49 => ?_)
    · replace h := h.1 q49
      refine j_sub (lv' := [(0, vR E 12), (2, vI r45)]) [1, 0] rfl ?_
      exact jb_X6_readPart_59 hc hm hr hh hr_X6_readBracket hr_X6_readChain hr_X6_readComparison hr_X6_readLink hr_X6_readPart hr_X6_readPlain cr45 h
    · replace h := h.2 q49
      refine j_iconst hc dX6_readPart_55 ?_
      refine j_goto (tgt := 60) hc dX6_readPart_56 (by decide) ?_
      refine j_sub (lv' := [(0, vR E 12), (2, vI r45)]) [1, 0] rfl ?_
      exact jb_X6_readPart_60 hc hm hr hh hr_X6_readBracket hr_X6_readChain hr_X6_readComparison hr_X6_readLink hr_X6_readPart hr_X6_readPlain cr45 (wlit 1 (by decide)) h
set_option maxRecDepth 20000 in
theorem ce_X6_readPart {d : Nat} {rc_X6_readBracket : Int → Int → Int → st_S → (Int → st_S → Prop) → Prop} (hr_X6_readBracket : ∀ {l : Launch} {E : ev_E} (hE : Eok E) (hm : eM E = 1) {a1 : Int} {a2 : Int} {a3 : Int} (ca1 : wr a1 = a1) (ca2 : wr a2 = a2) (ca3 : wr a3 = a3) {σ : st_S} {Q : Int → st_S → Prop}, rc_X6_readBracket a1 a2 a3 σ Q → cM l yX6_readBracket cX6_readBracket 4 (some .boolean) E (8 + d) 0 0 [vR E 12, vI a1, vI a2, vI a3] σ (qI E (gN σ + 0) Q)) {rc_X6_readChain : Int → Int → st_S → (Int → st_S → Prop) → Prop} (hr_X6_readChain : ∀ {l : Launch} {E : ev_E} (hE : Eok E) (hm : eM E = 1) {a1 : Int} {a2 : Int} (ca1 : wr a1 = a1) (ca2 : wr a2 = a2) {σ : st_S} {Q : Int → st_S → Prop}, rc_X6_readChain a1 a2 σ Q → cM l yX6_readChain cX6_readChain 7 (some .boolean) E (8 + d) 0 0 [vR E 12, vI a1, vI a2] σ (qI E (gN σ + 0) Q)) {rc_X6_readComparison : Int → st_S → (Int → st_S → Prop) → Prop} (hr_X6_readComparison : ∀ {l : Launch} {E : ev_E} (hE : Eok E) (hm : eM E = 1) {a1 : Int} (ca1 : wr a1 = a1) {σ : st_S} {Q : Int → st_S → Prop}, rc_X6_readComparison a1 σ Q → cM l yX6_readComparison cX6_readComparison 3 (some .boolean) E (8 + d) 0 0 [vR E 12, vI a1] σ (qI E (gN σ + 0) Q)) {rc_X6_readLink : Int → Int → st_S → (Int → st_S → Prop) → Prop} (hr_X6_readLink : ∀ {l : Launch} {E : ev_E} (hE : Eok E) (hm : eM E = 1) {a1 : Int} {a2 : Int} (ca1 : wr a1 = a1) (ca2 : wr a2 = a2) {σ : st_S} {Q : Int → st_S → Prop}, rc_X6_readLink a1 a2 σ Q → cM l yX6_readLink cX6_readLink 3 (some .boolean) E (8 + d) 0 0 [vR E 12, vI a1, vI a2] σ (qI E (gN σ + 0) Q)) {rc_X6_readPart : Int → st_S → (Int → st_S → Prop) → Prop} (hr_X6_readPart : ∀ {l : Launch} {E : ev_E} (hE : Eok E) (hm : eM E = 1) {a1 : Int} (ca1 : wr a1 = a1) {σ : st_S} {Q : Int → st_S → Prop}, rc_X6_readPart a1 σ Q → cM l yX6_readPart cX6_readPart 4 (some .boolean) E (8 + d) 0 0 [vR E 12, vI a1] σ (qI E (gN σ + 0) Q)) {rc_X6_readPlain : Int → st_S → (Int → st_S → Prop) → Prop} (hr_X6_readPlain : ∀ {l : Launch} {E : ev_E} (hE : Eok E) (hm : eM E = 1) {a1 : Int} (ca1 : wr a1 = a1) {σ : st_S} {Q : Int → st_S → Prop}, rc_X6_readPlain a1 σ Q → cM l yX6_readPlain cX6_readPlain 4 (some .boolean) E (8 + d) 0 0 [vR E 12, vI a1] σ (qI E (gN σ + 0) Q)) {l : Launch} {E : ev_E} (hE : Eok E) (hm : eM E = 1) {a1 : Int} (ca1 : wr a1 = a1) {σ : st_S} {Q : Int → st_S → Prop} (h : e_X6_readPart rc_X6_readBracket rc_X6_readChain rc_X6_readComparison rc_X6_readLink rc_X6_readPart rc_X6_readPlain a1 σ Q) : cM l yX6_readPart cX6_readPart 4 (some .boolean) E (8 + (d + 1)) 0 0 [vR E 12, vI a1] σ (qI E (gN σ + 0) Q) := by
  refine cM_of (lv := [(0, vR E 12), (1, vI a1)]) (by decide) hE (Nat.le_of_ble_eq_true rfl) (rfl) ?_
  intro X hX hc _ _ hr _ _
  subst hX
  have hh : 8 + (d + 1) ≤ 8 + (d + 1) := Nat.le_refl _
  have hh1 : 1 ≤ 8 + (d + 1) := by omega
  replace h : wp_X6_isSign 91 σ (fun r51 s52 => (r51 = 0 → (gI s52 12 4 = 0 → B_X6_readPart_33 Q rc_X6_readBracket rc_X6_readChain rc_X6_readComparison rc_X6_readLink rc_X6_readPart rc_X6_readPlain 1 s52) ∧ (¬ gI s52 12 4 = 0 → B_X6_readPart_33 Q rc_X6_readBracket rc_X6_readChain rc_X6_readComparison rc_X6_readLink rc_X6_readPart rc_X6_readPlain 3 s52)) ∧ (¬ r51 = 0 → rc_X6_readBracket 2 93 a1 s52 (fun r55 s56 => (r55 = 0 ∨ r55 = 1) ∧ Q r55 s56))) := h
  refine j_aload_nR hc 0 dX6_readPart_0 rfl rfl ?_
  refine j_bipush hc dX6_readPart_1 (by decide) ?_
  refine j_vI hc (k := 6) (by decide) (fun hv => Or.inl (sv_k hv hm rfl)) ml_RX6_53 mv_X6_isSign (As := [vI 91]) (c_X6_isSign (cx_E hc) hm (wlit 91 (by decide)) h) rfl (by omega) (by decide) ⟨Nat.zero_le _, Nat.zero_le _⟩ (Nat.le_of_ble_eq_true rfl) rfl dX6_readPart_3 (fun r51 s52 cr51 h => ?_)
  refine j_if_eq hc cr51 (tgt := 18) dX6_readPart_6 (by decide) (fun q57 => ?_) (fun q57 => ?_)
  · replace h := h.1 q57
    refine j_aload_nR hc 0 dX6_readPart_18 rfl rfl ?_
    refine j_aload_nR hc 0 dX6_readPart_19 rfl rfl ?_
    refine j_getI hc fl_RX6_29 (Or.inr rfl) (fun hv => Or.inl (sv_k hv hm rfl)) dX6_readPart_20 (fun cn53 => ?_)
    refine j_if_eq hc cn53 (tgt := 31) dX6_readPart_23 (by decide) (fun q54 => ?_) (fun q54 => ?_)
    · replace h := h.1 q54
      refine j_ldcS (k := 1) hc rfl dX6_readPart_31 ?_
      refine j_sub (lv' := [(0, vR E 12)]) [0] rfl ?_
      exact jb_X6_readPart_33 hc hm hr hh hr_X6_readBracket hr_X6_readChain hr_X6_readComparison hr_X6_readLink hr_X6_readPart hr_X6_readPlain h
    · replace h := h.2 q54
      refine j_ldcS (k := 3) hc rfl dX6_readPart_26 ?_
      refine j_goto (tgt := 33) hc dX6_readPart_28 (by decide) ?_
      refine j_sub (lv' := [(0, vR E 12)]) [0] rfl ?_
      exact jb_X6_readPart_33 hc hm hr hh hr_X6_readBracket hr_X6_readChain hr_X6_readComparison hr_X6_readLink hr_X6_readPart hr_X6_readPlain h
  · replace h := h.2 q57
    refine j_aload_nR hc 0 dX6_readPart_9 rfl rfl ?_
    refine j_iconst hc dX6_readPart_10 ?_
    refine j_bipush hc dX6_readPart_11 (by decide) ?_
    refine j_iload_n hc 1 dX6_readPart_13 rfl rfl ?_
    refine j_vI hc (k := 6) (by decide) (fun hv => Or.inl (sv_k hv hm rfl)) ml_RX6_127 mv_X6_readBracket (As := [vI 2, vI 93, vI a1]) (hr_X6_readBracket (cx_E hc) hm (wlit 2 (by decide)) (wlit 93 (by decide)) ca1 h) rfl (by omega) (by decide) ⟨Nat.zero_le _, Nat.zero_le _⟩ (Nat.le_of_ble_eq_true rfl) rfl dX6_readPart_14 (fun r55 s56 cr55 h => ?_)
    exact j_zret hc hr (nar_bool h.1) (by rcases h.1 with e | e <;> (rw [e]; decide)) h.2 dX6_readPart_17
set_option maxRecDepth 20000 in
theorem jb_X6_readPlain_29 {X : jj_X} {E : ev_E} {n0 hN : Nat} (hc : Cx X E cX6_readPlain 4 n0 hN RX6) (hm : eM E = 1) (hr : (xT X).sig.returnType = (some .boolean)) {d : Nat} (hh : 8 + (d + 1) ≤ hN) {Q : Int → st_S → Prop} {rc_X6_readBracket : Int → Int → Int → st_S → (Int → st_S → Prop) → Prop} (hr_X6_readBracket : ∀ {l : Launch} {E : ev_E} (hE : Eok E) (hm : eM E = 1) {a1 : Int} {a2 : Int} {a3 : Int} (ca1 : wr a1 = a1) (ca2 : wr a2 = a2) (ca3 : wr a3 = a3) {σ : st_S} {Q : Int → st_S → Prop}, rc_X6_readBracket a1 a2 a3 σ Q → cM l yX6_readBracket cX6_readBracket 4 (some .boolean) E (8 + d) 0 0 [vR E 12, vI a1, vI a2, vI a3] σ (qI E (gN σ + 0) Q)) {rc_X6_readChain : Int → Int → st_S → (Int → st_S → Prop) → Prop} (hr_X6_readChain : ∀ {l : Launch} {E : ev_E} (hE : Eok E) (hm : eM E = 1) {a1 : Int} {a2 : Int} (ca1 : wr a1 = a1) (ca2 : wr a2 = a2) {σ : st_S} {Q : Int → st_S → Prop}, rc_X6_readChain a1 a2 σ Q → cM l yX6_readChain cX6_readChain 7 (some .boolean) E (8 + d) 0 0 [vR E 12, vI a1, vI a2] σ (qI E (gN σ + 0) Q)) {rc_X6_readComparison : Int → st_S → (Int → st_S → Prop) → Prop} (hr_X6_readComparison : ∀ {l : Launch} {E : ev_E} (hE : Eok E) (hm : eM E = 1) {a1 : Int} (ca1 : wr a1 = a1) {σ : st_S} {Q : Int → st_S → Prop}, rc_X6_readComparison a1 σ Q → cM l yX6_readComparison cX6_readComparison 3 (some .boolean) E (8 + d) 0 0 [vR E 12, vI a1] σ (qI E (gN σ + 0) Q)) {rc_X6_readLink : Int → Int → st_S → (Int → st_S → Prop) → Prop} (hr_X6_readLink : ∀ {l : Launch} {E : ev_E} (hE : Eok E) (hm : eM E = 1) {a1 : Int} {a2 : Int} (ca1 : wr a1 = a1) (ca2 : wr a2 = a2) {σ : st_S} {Q : Int → st_S → Prop}, rc_X6_readLink a1 a2 σ Q → cM l yX6_readLink cX6_readLink 3 (some .boolean) E (8 + d) 0 0 [vR E 12, vI a1, vI a2] σ (qI E (gN σ + 0) Q)) {rc_X6_readPart : Int → st_S → (Int → st_S → Prop) → Prop} (hr_X6_readPart : ∀ {l : Launch} {E : ev_E} (hE : Eok E) (hm : eM E = 1) {a1 : Int} (ca1 : wr a1 = a1) {σ : st_S} {Q : Int → st_S → Prop}, rc_X6_readPart a1 σ Q → cM l yX6_readPart cX6_readPart 4 (some .boolean) E (8 + d) 0 0 [vR E 12, vI a1] σ (qI E (gN σ + 0) Q)) {rc_X6_readPlain : Int → st_S → (Int → st_S → Prop) → Prop} (hr_X6_readPlain : ∀ {l : Launch} {E : ev_E} (hE : Eok E) (hm : eM E = 1) {a1 : Int} (ca1 : wr a1 = a1) {σ : st_S} {Q : Int → st_S → Prop}, rc_X6_readPlain a1 σ Q → cM l yX6_readPlain cX6_readPlain 4 (some .boolean) E (8 + d) 0 0 [vR E 12, vI a1] σ (qI E (gN σ + 0) Q)) {k4 : Int → Int → Int → st_S → Prop} (hk4 : ∀ {l1 : Int} {l2 : Int} {l3 : Int} (cl1 : wr l1 = l1) (cl2 : wr l2 = l2) (cl3 : wr l3 = l3) {σ : st_S}, k4 l1 l2 l3 σ → J X E 4 n0 0 0 (MQ (xB X) (qI E (n0 + 0) Q) (xA X) (xS X) 0 0 (eF E)) σ 4 [(0, vR E 12), (1, vI l1), (2, vI l2), (3, vI l3)] []) {l1 : Int} {l3 : Int} {v0 : Int} (cl1 : wr l1 = l1) (cl3 : wr l3 = l3) (cv0 : wr v0 = v0) {σ : st_S} (h : B_X6_readPlain_29 Q rc_X6_readBracket rc_X6_readChain rc_X6_readComparison rc_X6_readLink rc_X6_readPart rc_X6_readPlain k4 l1 l3 v0 σ) : J X E 4 n0 0 0 (MQ (xB X) (qI E (n0 + 0) Q) (xA X) (xS X) 0 0 (eF E)) σ 29 [(0, vR E 12), (1, vI l1), (3, vI l3)] [vI v0] := by
  have hh1 : 1 ≤ hN := by omega
  replace h : wp_X6_advance σ (fun s19 => ∀ x20 : Int, x20 = wr (l3 + 1) → k4 l1 v0 x20 s19) := h
  refine j_istore_n (lv' := [(2, vI v0), (0, vR E 12), (1, vI l1), (3, vI l3)]) hc dX6_readPlain_29 rfl (by decide) rfl ?_
  refine j_aload_nR hc 1 dX6_readPlain_30 rfl rfl ?_
  refine j_vV hc (k := 6) (by decide) (fun hv => Or.inl (sv_k hv hm rfl)) ml_RX6_43 mv_X6_advance (As := []) (c_X6_advance (cx_E hc) hm  h) rfl (by omega) (by decide) ⟨Nat.zero_le _, Nat.zero_le _⟩ (Nat.le_of_ble_eq_true rfl) rfl dX6_readPlain_31 (fun s19 h => ?_)
  obtain ⟨x20, ex20⟩ : ∃ y : Int, y = wr (l3 + 1) := ⟨_, rfl⟩
  have cx20 : wr x20 = x20 := by rw [ex20]; exact wr_wr _
  replace h := h x20 ex20
  refine j_iinc (lv' := [(3, vI x20), (2, vI v0), (0, vR E 12), (1, vI l1)]) hc 3 dX6_readPlain_34 rfl (by decide) ex20 rfl ?_
  refine j_goto (tgt := 4) hc dX6_readPlain_37 (by decide) ?_
  refine j_sub (lv' := [(0, vR E 12), (1, vI l1), (2, vI v0), (3, vI x20)]) [2, 3, 1, 0] rfl ?_
  exact hk4 cl1 cv0 cx20 h
set_option maxRecDepth 20000 in
theorem jb_X6_readPlain_84 {X : jj_X} {E : ev_E} {n0 hN : Nat} (hc : Cx X E cX6_readPlain 4 n0 hN RX6) (hm : eM E = 1) (hr : (xT X).sig.returnType = (some .boolean)) {d : Nat} (hh : 8 + (d + 1) ≤ hN) {Q : Int → st_S → Prop} {rc_X6_readBracket : Int → Int → Int → st_S → (Int → st_S → Prop) → Prop} (hr_X6_readBracket : ∀ {l : Launch} {E : ev_E} (hE : Eok E) (hm : eM E = 1) {a1 : Int} {a2 : Int} {a3 : Int} (ca1 : wr a1 = a1) (ca2 : wr a2 = a2) (ca3 : wr a3 = a3) {σ : st_S} {Q : Int → st_S → Prop}, rc_X6_readBracket a1 a2 a3 σ Q → cM l yX6_readBracket cX6_readBracket 4 (some .boolean) E (8 + d) 0 0 [vR E 12, vI a1, vI a2, vI a3] σ (qI E (gN σ + 0) Q)) {rc_X6_readChain : Int → Int → st_S → (Int → st_S → Prop) → Prop} (hr_X6_readChain : ∀ {l : Launch} {E : ev_E} (hE : Eok E) (hm : eM E = 1) {a1 : Int} {a2 : Int} (ca1 : wr a1 = a1) (ca2 : wr a2 = a2) {σ : st_S} {Q : Int → st_S → Prop}, rc_X6_readChain a1 a2 σ Q → cM l yX6_readChain cX6_readChain 7 (some .boolean) E (8 + d) 0 0 [vR E 12, vI a1, vI a2] σ (qI E (gN σ + 0) Q)) {rc_X6_readComparison : Int → st_S → (Int → st_S → Prop) → Prop} (hr_X6_readComparison : ∀ {l : Launch} {E : ev_E} (hE : Eok E) (hm : eM E = 1) {a1 : Int} (ca1 : wr a1 = a1) {σ : st_S} {Q : Int → st_S → Prop}, rc_X6_readComparison a1 σ Q → cM l yX6_readComparison cX6_readComparison 3 (some .boolean) E (8 + d) 0 0 [vR E 12, vI a1] σ (qI E (gN σ + 0) Q)) {rc_X6_readLink : Int → Int → st_S → (Int → st_S → Prop) → Prop} (hr_X6_readLink : ∀ {l : Launch} {E : ev_E} (hE : Eok E) (hm : eM E = 1) {a1 : Int} {a2 : Int} (ca1 : wr a1 = a1) (ca2 : wr a2 = a2) {σ : st_S} {Q : Int → st_S → Prop}, rc_X6_readLink a1 a2 σ Q → cM l yX6_readLink cX6_readLink 3 (some .boolean) E (8 + d) 0 0 [vR E 12, vI a1, vI a2] σ (qI E (gN σ + 0) Q)) {rc_X6_readPart : Int → st_S → (Int → st_S → Prop) → Prop} (hr_X6_readPart : ∀ {l : Launch} {E : ev_E} (hE : Eok E) (hm : eM E = 1) {a1 : Int} (ca1 : wr a1 = a1) {σ : st_S} {Q : Int → st_S → Prop}, rc_X6_readPart a1 σ Q → cM l yX6_readPart cX6_readPart 4 (some .boolean) E (8 + d) 0 0 [vR E 12, vI a1] σ (qI E (gN σ + 0) Q)) {rc_X6_readPlain : Int → st_S → (Int → st_S → Prop) → Prop} (hr_X6_readPlain : ∀ {l : Launch} {E : ev_E} (hE : Eok E) (hm : eM E = 1) {a1 : Int} (ca1 : wr a1 = a1) {σ : st_S} {Q : Int → st_S → Prop}, rc_X6_readPlain a1 σ Q → cM l yX6_readPlain cX6_readPlain 4 (some .boolean) E (8 + d) 0 0 [vR E 12, vI a1] σ (qI E (gN σ + 0) Q)) {l3 : Int} (cl3 : wr l3 = l3) {σ : st_S} (h : B_X6_readPlain_84 Q rc_X6_readBracket rc_X6_readChain rc_X6_readComparison rc_X6_readLink rc_X6_readPart rc_X6_readPlain l3 σ) : J X E 4 n0 0 0 (MQ (xB X) (qI E (n0 + 0) Q) (xA X) (xS X) 0 0 (eF E)) σ 84 [(3, vI l3)] [] := by
  have hh1 : 1 ≤ hN := by omega
  replace h : (l3 = 0 ∨ l3 = 1) ∧ Q l3 σ := h
  refine j_iload_n hc 0 dX6_readPlain_84 rfl rfl ?_
  exact j_zret hc hr (nar_bool h.1) (by rcases h.1 with e | e <;> (rw [e]; decide)) h.2 dX6_readPlain_85
set_option maxRecDepth 20000 in
theorem jb_X6_readPlain_65 {X : jj_X} {E : ev_E} {n0 hN : Nat} (hc : Cx X E cX6_readPlain 4 n0 hN RX6) (hm : eM E = 1) (hr : (xT X).sig.returnType = (some .boolean)) {d : Nat} (hh : 8 + (d + 1) ≤ hN) {Q : Int → st_S → Prop} {rc_X6_readBracket : Int → Int → Int → st_S → (Int → st_S → Prop) → Prop} (hr_X6_readBracket : ∀ {l : Launch} {E : ev_E} (hE : Eok E) (hm : eM E = 1) {a1 : Int} {a2 : Int} {a3 : Int} (ca1 : wr a1 = a1) (ca2 : wr a2 = a2) (ca3 : wr a3 = a3) {σ : st_S} {Q : Int → st_S → Prop}, rc_X6_readBracket a1 a2 a3 σ Q → cM l yX6_readBracket cX6_readBracket 4 (some .boolean) E (8 + d) 0 0 [vR E 12, vI a1, vI a2, vI a3] σ (qI E (gN σ + 0) Q)) {rc_X6_readChain : Int → Int → st_S → (Int → st_S → Prop) → Prop} (hr_X6_readChain : ∀ {l : Launch} {E : ev_E} (hE : Eok E) (hm : eM E = 1) {a1 : Int} {a2 : Int} (ca1 : wr a1 = a1) (ca2 : wr a2 = a2) {σ : st_S} {Q : Int → st_S → Prop}, rc_X6_readChain a1 a2 σ Q → cM l yX6_readChain cX6_readChain 7 (some .boolean) E (8 + d) 0 0 [vR E 12, vI a1, vI a2] σ (qI E (gN σ + 0) Q)) {rc_X6_readComparison : Int → st_S → (Int → st_S → Prop) → Prop} (hr_X6_readComparison : ∀ {l : Launch} {E : ev_E} (hE : Eok E) (hm : eM E = 1) {a1 : Int} (ca1 : wr a1 = a1) {σ : st_S} {Q : Int → st_S → Prop}, rc_X6_readComparison a1 σ Q → cM l yX6_readComparison cX6_readComparison 3 (some .boolean) E (8 + d) 0 0 [vR E 12, vI a1] σ (qI E (gN σ + 0) Q)) {rc_X6_readLink : Int → Int → st_S → (Int → st_S → Prop) → Prop} (hr_X6_readLink : ∀ {l : Launch} {E : ev_E} (hE : Eok E) (hm : eM E = 1) {a1 : Int} {a2 : Int} (ca1 : wr a1 = a1) (ca2 : wr a2 = a2) {σ : st_S} {Q : Int → st_S → Prop}, rc_X6_readLink a1 a2 σ Q → cM l yX6_readLink cX6_readLink 3 (some .boolean) E (8 + d) 0 0 [vR E 12, vI a1, vI a2] σ (qI E (gN σ + 0) Q)) {rc_X6_readPart : Int → st_S → (Int → st_S → Prop) → Prop} (hr_X6_readPart : ∀ {l : Launch} {E : ev_E} (hE : Eok E) (hm : eM E = 1) {a1 : Int} (ca1 : wr a1 = a1) {σ : st_S} {Q : Int → st_S → Prop}, rc_X6_readPart a1 σ Q → cM l yX6_readPart cX6_readPart 4 (some .boolean) E (8 + d) 0 0 [vR E 12, vI a1] σ (qI E (gN σ + 0) Q)) {rc_X6_readPlain : Int → st_S → (Int → st_S → Prop) → Prop} (hr_X6_readPlain : ∀ {l : Launch} {E : ev_E} (hE : Eok E) (hm : eM E = 1) {a1 : Int} (ca1 : wr a1 = a1) {σ : st_S} {Q : Int → st_S → Prop}, rc_X6_readPlain a1 σ Q → cM l yX6_readPlain cX6_readPlain 4 (some .boolean) E (8 + d) 0 0 [vR E 12, vI a1] σ (qI E (gN σ + 0) Q)) {l2 : Int} {v0 : Int} (cl2 : wr l2 = l2) (cv0 : wr v0 = v0) {σ : st_S} (h : B_X6_readPlain_65 Q rc_X6_readBracket rc_X6_readChain rc_X6_readComparison rc_X6_readLink rc_X6_readPart rc_X6_readPlain l2 v0 σ) : J X E 4 n0 0 0 (MQ (xB X) (qI E (n0 + 0) Q) (xA X) (xS X) 0 0 (eF E)) σ 65 [(0, vR E 12), (2, vI l2)] [vI v0] := by
  have hh1 : 1 ≤ hN := by omega
  replace h : (v0 = 0 → B_X6_readPlain_84 Q rc_X6_readBracket rc_X6_readChain rc_X6_readComparison rc_X6_readLink rc_X6_readPart rc_X6_readPlain v0 σ) ∧ (¬ v0 = 0 → (l2 = 0 → B_X6_readPlain_84 Q rc_X6_readBracket rc_X6_readChain rc_X6_readComparison rc_X6_readLink rc_X6_readPart rc_X6_readPlain v0 σ) ∧ (¬ l2 = 0 → wp_X9_add 10 0 σ (fun s22 => B_X6_readPlain_84 Q rc_X6_readBracket rc_X6_readChain rc_X6_readComparison rc_X6_readLink rc_X6_readPart rc_X6_readPlain v0 s22))) := h
  refine j_istore_n (lv' := [(3, vI v0), (0, vR E 12), (2, vI l2)]) hc dX6_readPlain_65 rfl (by decide) rfl ?_
  refine j_iload_n hc 0 dX6_readPlain_66 rfl rfl ?_
  refine j_if_eq hc cv0 (tgt := 84) dX6_readPlain_67 (by decide) (fun q24 => ?_) (fun q24 => ?_)
  · replace h := h.1 q24
    refine j_sub (lv' := [(3, vI v0)]) [0] rfl ?_
    exact jb_X6_readPlain_84 hc hm hr hh hr_X6_readBracket hr_X6_readChain hr_X6_readComparison hr_X6_readLink hr_X6_readPart hr_X6_readPlain cv0 h
  · replace h := h.2 q24
    refine j_iload_n hc 2 dX6_readPlain_70 rfl rfl ?_
    refine j_if_eq hc cl2 (tgt := 84) dX6_readPlain_71 (by decide) (fun q23 => ?_) (fun q23 => ?_)
    · replace h := h.1 q23
      refine j_sub (lv' := [(3, vI v0)]) [0] rfl ?_
      exact jb_X6_readPlain_84 hc hm hr hh hr_X6_readBracket hr_X6_readChain hr_X6_readComparison hr_X6_readLink hr_X6_readPart hr_X6_readPlain cv0 h
    · replace h := h.2 q23
      refine j_aload_nR hc 1 dX6_readPlain_74 rfl rfl ?_
      refine j_getR (c' := 14) hc fl_RX6_18 rfl rfl (fun hv => (sv_k hv hm rfl)) dX6_readPlain_75 ?_
      refine j_bipush hc dX6_readPlain_78 (by decide) ?_
      refine j_iconst hc dX6_readPlain_80 ?_
      refine j_vV hc (k := 9) (by decide) (fun hv => Or.inl (sv_k hv hm rfl)) ml_RX6_111 mv_X9_add (As := [vI 10, vI 0]) (c_X9_add (cx_E hc) hm (wlit 10 (by decide)) (wlit 0 (by decide)) h) rfl (by omega) (by decide) ⟨Nat.zero_le _, Nat.zero_le _⟩ (Nat.le_of_ble_eq_true rfl) rfl dX6_readPlain_81 (fun s22 h => ?_)
      refine j_sub (lv' := [(3, vI v0)]) [0] rfl ?_
      exact jb_X6_readPlain_84 hc hm hr hh hr_X6_readBracket hr_X6_readChain hr_X6_readComparison hr_X6_readLink hr_X6_readPart hr_X6_readPlain cv0 h
set_option maxRecDepth 20000 in
theorem jb_X6_readPlain_40 {X : jj_X} {E : ev_E} {n0 hN : Nat} (hc : Cx X E cX6_readPlain 4 n0 hN RX6) (hm : eM E = 1) (hr : (xT X).sig.returnType = (some .boolean)) {d : Nat} (hh : 8 + (d + 1) ≤ hN) {Q : Int → st_S → Prop} {rc_X6_readBracket : Int → Int → Int → st_S → (Int → st_S → Prop) → Prop} (hr_X6_readBracket : ∀ {l : Launch} {E : ev_E} (hE : Eok E) (hm : eM E = 1) {a1 : Int} {a2 : Int} {a3 : Int} (ca1 : wr a1 = a1) (ca2 : wr a2 = a2) (ca3 : wr a3 = a3) {σ : st_S} {Q : Int → st_S → Prop}, rc_X6_readBracket a1 a2 a3 σ Q → cM l yX6_readBracket cX6_readBracket 4 (some .boolean) E (8 + d) 0 0 [vR E 12, vI a1, vI a2, vI a3] σ (qI E (gN σ + 0) Q)) {rc_X6_readChain : Int → Int → st_S → (Int → st_S → Prop) → Prop} (hr_X6_readChain : ∀ {l : Launch} {E : ev_E} (hE : Eok E) (hm : eM E = 1) {a1 : Int} {a2 : Int} (ca1 : wr a1 = a1) (ca2 : wr a2 = a2) {σ : st_S} {Q : Int → st_S → Prop}, rc_X6_readChain a1 a2 σ Q → cM l yX6_readChain cX6_readChain 7 (some .boolean) E (8 + d) 0 0 [vR E 12, vI a1, vI a2] σ (qI E (gN σ + 0) Q)) {rc_X6_readComparison : Int → st_S → (Int → st_S → Prop) → Prop} (hr_X6_readComparison : ∀ {l : Launch} {E : ev_E} (hE : Eok E) (hm : eM E = 1) {a1 : Int} (ca1 : wr a1 = a1) {σ : st_S} {Q : Int → st_S → Prop}, rc_X6_readComparison a1 σ Q → cM l yX6_readComparison cX6_readComparison 3 (some .boolean) E (8 + d) 0 0 [vR E 12, vI a1] σ (qI E (gN σ + 0) Q)) {rc_X6_readLink : Int → Int → st_S → (Int → st_S → Prop) → Prop} (hr_X6_readLink : ∀ {l : Launch} {E : ev_E} (hE : Eok E) (hm : eM E = 1) {a1 : Int} {a2 : Int} (ca1 : wr a1 = a1) (ca2 : wr a2 = a2) {σ : st_S} {Q : Int → st_S → Prop}, rc_X6_readLink a1 a2 σ Q → cM l yX6_readLink cX6_readLink 3 (some .boolean) E (8 + d) 0 0 [vR E 12, vI a1, vI a2] σ (qI E (gN σ + 0) Q)) {rc_X6_readPart : Int → st_S → (Int → st_S → Prop) → Prop} (hr_X6_readPart : ∀ {l : Launch} {E : ev_E} (hE : Eok E) (hm : eM E = 1) {a1 : Int} (ca1 : wr a1 = a1) {σ : st_S} {Q : Int → st_S → Prop}, rc_X6_readPart a1 σ Q → cM l yX6_readPart cX6_readPart 4 (some .boolean) E (8 + d) 0 0 [vR E 12, vI a1] σ (qI E (gN σ + 0) Q)) {rc_X6_readPlain : Int → st_S → (Int → st_S → Prop) → Prop} (hr_X6_readPlain : ∀ {l : Launch} {E : ev_E} (hE : Eok E) (hm : eM E = 1) {a1 : Int} (ca1 : wr a1 = a1) {σ : st_S} {Q : Int → st_S → Prop}, rc_X6_readPlain a1 σ Q → cM l yX6_readPlain cX6_readPlain 4 (some .boolean) E (8 + d) 0 0 [vR E 12, vI a1] σ (qI E (gN σ + 0) Q)) {l1 : Int} {l2 : Int} (cl1 : wr l1 = l1) (cl2 : wr l2 = l2) {σ : st_S} (h : B_X6_readPlain_40 Q rc_X6_readBracket rc_X6_readChain rc_X6_readComparison rc_X6_readLink rc_X6_readPart rc_X6_readPlain l1 l2 σ) : J X E 4 n0 0 0 (MQ (xB X) (qI E (n0 + 0) Q) (xA X) (xS X) 0 0 (eF E)) σ 40 [(0, vR E 12), (1, vI l1), (2, vI l2)] [] := by
  have hh1 : 1 ≤ hN := by omega
  replace h : wp_X6_isSign 40 σ (fun r25 s26 => (r25 = 0 → rc_X6_readComparison l1 s26 (fun r27 s28 => B_X6_readPlain_65 Q rc_X6_readBracket rc_X6_readChain rc_X6_readComparison rc_X6_readLink rc_X6_readPart rc_X6_readPlain l2 r27 s28)) ∧ (¬ r25 = 0 → rc_X6_readBracket 0 41 l1 s26 (fun r29 s30 => B_X6_readPlain_65 Q rc_X6_readBracket rc_X6_readChain rc_X6_readComparison rc_X6_readLink rc_X6_readPart rc_X6_readPlain l2 r29 s30))) := h
  refine j_aload_nR hc 0 dX6_readPlain_40 rfl rfl ?_
  refine j_bipush hc dX6_readPlain_41 (by decide) ?_
  refine j_vI hc (k := 6) (by decide) (fun hv => Or.inl (sv_k hv hm rfl)) ml_RX6_53 mv_X6_isSign (As := [vI 40]) (c_X6_isSign (cx_E hc) hm (wlit 40 (by decide)) h) rfl (by omega) (by decide) ⟨Nat.zero_le _, Nat.zero_le _⟩ (Nat.le_of_ble_eq_true rfl) rfl dX6_readPlain_43 (fun r25 s26 cr25 h => ?_)
  refine j_if_eq hc cr25 (tgt := 60) dX6_readPlain_46 (by decide) (fun q31 => ?_) (fun q31 => ?_)
  · replace h := h.1 q31
    refine j_aload_nR hc 0 dX6_readPlain_60 rfl rfl ?_
    refine j_iload_n hc 1 dX6_readPlain_61 rfl rfl ?_
    refine j_vI hc (k := 6) (by decide) (fun hv => Or.inl (sv_k hv hm rfl)) ml_RX6_131 mv_X6_readComparison (As := [vI l1]) (hr_X6_readComparison (cx_E hc) hm cl1 h) rfl (by omega) (by decide) ⟨Nat.zero_le _, Nat.zero_le _⟩ (Nat.le_of_ble_eq_true rfl) rfl dX6_readPlain_62 (fun r27 s28 cr27 h => ?_)
    refine j_sub (lv' := [(0, vR E 12), (2, vI l2)]) [0, 2] rfl ?_
    exact jb_X6_readPlain_65 hc hm hr hh hr_X6_readBracket hr_X6_readChain hr_X6_readComparison hr_X6_readLink hr_X6_readPart hr_X6_readPlain cl2 cr27 h
  · replace h := h.2 q31
    refine j_aload_nR hc 0 dX6_readPlain_49 rfl rfl ?_
    refine j_iconst hc dX6_readPlain_50 ?_
    refine j_bipush hc dX6_readPlain_51 (by decide) ?_
    refine j_iload_n hc 1 dX6_readPlain_53 rfl rfl ?_
    refine j_vI hc (k := 6) (by decide) (fun hv => Or.inl (sv_k hv hm rfl)) ml_RX6_127 mv_X6_readBracket (As := [vI 0, vI 41, vI l1]) (hr_X6_readBracket (cx_E hc) hm (wlit 0 (by decide)) (wlit 41 (by decide)) cl1 h) rfl (by omega) (by decide) ⟨Nat.zero_le _, Nat.zero_le _⟩ (Nat.le_of_ble_eq_true rfl) rfl dX6_readPlain_54 (fun r29 s30 cr29 h => ?_)
    refine j_goto (tgt := 65) hc dX6_readPlain_57 (by decide) ?_
    refine j_sub (lv' := [(0, vR E 12), (2, vI l2)]) [0, 2] rfl ?_
    exact jb_X6_readPlain_65 hc hm hr hh hr_X6_readBracket hr_X6_readChain hr_X6_readComparison hr_X6_readLink hr_X6_readPart hr_X6_readPlain cl2 cr29 h
set_option maxRecDepth 20000 in
theorem jl_X6_readPlain_4 {X : jj_X} {E : ev_E} {n0 hN : Nat} (hc : Cx X E cX6_readPlain 4 n0 hN RX6) (hm : eM E = 1) (hr : (xT X).sig.returnType = (some .boolean)) {d : Nat} (hh : 8 + (d + 1) ≤ hN) {Q : Int → st_S → Prop} {rc_X6_readBracket : Int → Int → Int → st_S → (Int → st_S → Prop) → Prop} (hr_X6_readBracket : ∀ {l : Launch} {E : ev_E} (hE : Eok E) (hm : eM E = 1) {a1 : Int} {a2 : Int} {a3 : Int} (ca1 : wr a1 = a1) (ca2 : wr a2 = a2) (ca3 : wr a3 = a3) {σ : st_S} {Q : Int → st_S → Prop}, rc_X6_readBracket a1 a2 a3 σ Q → cM l yX6_readBracket cX6_readBracket 4 (some .boolean) E (8 + d) 0 0 [vR E 12, vI a1, vI a2, vI a3] σ (qI E (gN σ + 0) Q)) {rc_X6_readChain : Int → Int → st_S → (Int → st_S → Prop) → Prop} (hr_X6_readChain : ∀ {l : Launch} {E : ev_E} (hE : Eok E) (hm : eM E = 1) {a1 : Int} {a2 : Int} (ca1 : wr a1 = a1) (ca2 : wr a2 = a2) {σ : st_S} {Q : Int → st_S → Prop}, rc_X6_readChain a1 a2 σ Q → cM l yX6_readChain cX6_readChain 7 (some .boolean) E (8 + d) 0 0 [vR E 12, vI a1, vI a2] σ (qI E (gN σ + 0) Q)) {rc_X6_readComparison : Int → st_S → (Int → st_S → Prop) → Prop} (hr_X6_readComparison : ∀ {l : Launch} {E : ev_E} (hE : Eok E) (hm : eM E = 1) {a1 : Int} (ca1 : wr a1 = a1) {σ : st_S} {Q : Int → st_S → Prop}, rc_X6_readComparison a1 σ Q → cM l yX6_readComparison cX6_readComparison 3 (some .boolean) E (8 + d) 0 0 [vR E 12, vI a1] σ (qI E (gN σ + 0) Q)) {rc_X6_readLink : Int → Int → st_S → (Int → st_S → Prop) → Prop} (hr_X6_readLink : ∀ {l : Launch} {E : ev_E} (hE : Eok E) (hm : eM E = 1) {a1 : Int} {a2 : Int} (ca1 : wr a1 = a1) (ca2 : wr a2 = a2) {σ : st_S} {Q : Int → st_S → Prop}, rc_X6_readLink a1 a2 σ Q → cM l yX6_readLink cX6_readLink 3 (some .boolean) E (8 + d) 0 0 [vR E 12, vI a1, vI a2] σ (qI E (gN σ + 0) Q)) {rc_X6_readPart : Int → st_S → (Int → st_S → Prop) → Prop} (hr_X6_readPart : ∀ {l : Launch} {E : ev_E} (hE : Eok E) (hm : eM E = 1) {a1 : Int} (ca1 : wr a1 = a1) {σ : st_S} {Q : Int → st_S → Prop}, rc_X6_readPart a1 σ Q → cM l yX6_readPart cX6_readPart 4 (some .boolean) E (8 + d) 0 0 [vR E 12, vI a1] σ (qI E (gN σ + 0) Q)) {rc_X6_readPlain : Int → st_S → (Int → st_S → Prop) → Prop} (hr_X6_readPlain : ∀ {l : Launch} {E : ev_E} (hE : Eok E) (hm : eM E = 1) {a1 : Int} (ca1 : wr a1 = a1) {σ : st_S} {Q : Int → st_S → Prop}, rc_X6_readPlain a1 σ Q → cM l yX6_readPlain cX6_readPlain 4 (some .boolean) E (8 + d) 0 0 [vR E 12, vI a1] σ (qI E (gN σ + 0) Q)) : ∀ (n : Nat) {l1 : Int} {l2 : Int} {l3 : Int} (cl1 : wr l1 = l1) (cl2 : wr l2 = l2) (cl3 : wr l3 = l3) {σ : st_S}, L_X6_readPlain_4 Q rc_X6_readBracket rc_X6_readChain rc_X6_readComparison rc_X6_readLink rc_X6_readPart rc_X6_readPlain n l1 l2 l3 σ → J X E 4 n0 0 0 (MQ (xB X) (qI E (n0 + 0) Q) (xA X) (xS X) 0 0 (eF E)) σ 4 [(0, vR E 12), (1, vI l1), (2, vI l2), (3, vI l3)] [] := by
  have hh1 : 1 ≤ hN := by omega
  intro n
  induction n with
  | zero => intro l1 l2 l3 cl1 cl2 cl3 σ h; exact h.elim
  | succ n ih =>
    intro l1 l2 l3 cl1 cl2 cl3 σ h
    have hk4 : ∀ {l1 : Int} {l2 : Int} {l3 : Int} (cl1 : wr l1 = l1) (cl2 : wr l2 = l2) (cl3 : wr l3 = l3) {σ : st_S}, L_X6_readPlain_4 Q rc_X6_readBracket rc_X6_readChain rc_X6_readComparison rc_X6_readLink rc_X6_readPart rc_X6_readPlain n l1 l2 l3 σ → J X E 4 n0 0 0 (MQ (xB X) (qI E (n0 + 0) Q) (xA X) (xS X) 0 0 (eF E)) σ 4 [(0, vR E 12), (1, vI l1), (2, vI l2), (3, vI l3)] [] := ih
    replace h : (400 ≤ l3 → B_X6_readPlain_40 Q rc_X6_readBracket rc_X6_readChain rc_X6_readComparison rc_X6_readLink rc_X6_readPart rc_X6_readPlain l1 l2 σ) ∧ (¬ 400 ≤ l3 → wp_X6_isWord 6 σ (fun r32 s33 => (r32 = 0 → B_X6_readPlain_40 Q rc_X6_readBracket rc_X6_readChain rc_X6_readComparison rc_X6_readLink rc_X6_readPart rc_X6_readPlain l1 l2 s33) ∧ (¬ r32 = 0 → (¬ l2 = 0 → B_X6_readPlain_29 Q rc_X6_readBracket rc_X6_readChain rc_X6_readComparison rc_X6_readLink rc_X6_readPart rc_X6_readPlain (L_X6_readPlain_4 Q rc_X6_readBracket rc_X6_readChain rc_X6_readComparison rc_X6_readLink rc_X6_readPart rc_X6_readPlain n) l1 l3 0 s33) ∧ (l2 = 0 → B_X6_readPlain_29 Q rc_X6_readBracket rc_X6_readChain rc_X6_readComparison rc_X6_readLink rc_X6_readPart rc_X6_readPlain (L_X6_readPlain_4 Q rc_X6_readBracket rc_X6_readChain rc_X6_readComparison rc_X6_readLink rc_X6_readPart rc_X6_readPlain n) l1 l3 1 s33)))) := h
    refine j_iload_n hc 3 dX6_readPlain_4 rfl rfl ?_
    refine j_sipush hc dX6_readPlain_5 (by decide) ?_
    refine j_ic_ge hc cl3 (wlit 400 (by decide)) (tgt := 40) dX6_readPlain_8 (by decide) (fun q36 => ?_) (fun q36 => ?_)
    · replace h := h.1 q36
      refine j_sub (lv' := [(0, vR E 12), (1, vI l1), (2, vI l2)]) [0, 1, 2] rfl ?_
      exact jb_X6_readPlain_40 hc hm hr hh hr_X6_readBracket hr_X6_readChain hr_X6_readComparison hr_X6_readLink hr_X6_readPart hr_X6_readPlain cl1 cl2 h
    · replace h := h.2 q36
      refine j_aload_nR hc 0 dX6_readPlain_11 rfl rfl ?_
      refine j_ldcS (k := 6) hc rfl dX6_readPlain_12 ?_
      refine j_vI hc (k := 6) (by decide) (fun hv => Or.inl (sv_k hv hm rfl)) ml_RX6_89 mv_X6_isWord (As := [vS E 6]) (c_X6_isWord (cx_E hc) hm  h) rfl (by omega) (by decide) ⟨Nat.zero_le _, Nat.zero_le _⟩ (Nat.le_of_ble_eq_true rfl) rfl dX6_readPlain_14 (fun r32 s33 cr32 h => ?_)
      refine j_if_eq hc cr32 (tgt := 40) dX6_readPlain_17 (by decide) (fun q35 => ?_) (fun q35 => ?_)
      · replace h := h.1 q35
        refine j_sub (lv' := [(0, vR E 12), (1, vI l1), (2, vI l2)]) [0, 1, 2] rfl ?_
        exact jb_X6_readPlain_40 hc hm hr hh hr_X6_readBracket hr_X6_readChain hr_X6_readComparison hr_X6_readLink hr_X6_readPart hr_X6_readPlain cl1 cl2 h
      · replace h := h.2 q35
        refine j_iload_n hc 2 dX6_readPlain_20 rfl rfl ?_
        refine j_if_ne hc cl2 (tgt := 28) dX6_readPlain_21 (by decide) (fun q34 => ?_) (fun q34 => ?_)
        · replace h := h.1 q34
          refine j_iconst hc dX6_readPlain_28 ?_
          refine j_sub (lv' := [(0, vR E 12), (1, vI l1), (3, vI l3)]) [0, 1, 3] rfl ?_
          exact jb_X6_readPlain_29 hc hm hr hh hr_X6_readBracket hr_X6_readChain hr_X6_readComparison hr_X6_readLink hr_X6_readPart hr_X6_readPlain hk4 cl1 cl3 (wlit 0 (by decide)) h
        · replace h := h.2 q34
          refine j_iconst hc dX6_readPlain_24 ?_
          refine j_goto (tgt := 29) hc dX6_readPlain_25 (by decide) ?_
          refine j_sub (lv' := [(0, vR E 12), (1, vI l1), (3, vI l3)]) [0, 1, 3] rfl ?_
          exact jb_X6_readPlain_29 hc hm hr hh hr_X6_readBracket hr_X6_readChain hr_X6_readComparison hr_X6_readLink hr_X6_readPart hr_X6_readPlain hk4 cl1 cl3 (wlit 1 (by decide)) h
set_option maxRecDepth 20000 in
theorem ce_X6_readPlain {d : Nat} {rc_X6_readBracket : Int → Int → Int → st_S → (Int → st_S → Prop) → Prop} (hr_X6_readBracket : ∀ {l : Launch} {E : ev_E} (hE : Eok E) (hm : eM E = 1) {a1 : Int} {a2 : Int} {a3 : Int} (ca1 : wr a1 = a1) (ca2 : wr a2 = a2) (ca3 : wr a3 = a3) {σ : st_S} {Q : Int → st_S → Prop}, rc_X6_readBracket a1 a2 a3 σ Q → cM l yX6_readBracket cX6_readBracket 4 (some .boolean) E (8 + d) 0 0 [vR E 12, vI a1, vI a2, vI a3] σ (qI E (gN σ + 0) Q)) {rc_X6_readChain : Int → Int → st_S → (Int → st_S → Prop) → Prop} (hr_X6_readChain : ∀ {l : Launch} {E : ev_E} (hE : Eok E) (hm : eM E = 1) {a1 : Int} {a2 : Int} (ca1 : wr a1 = a1) (ca2 : wr a2 = a2) {σ : st_S} {Q : Int → st_S → Prop}, rc_X6_readChain a1 a2 σ Q → cM l yX6_readChain cX6_readChain 7 (some .boolean) E (8 + d) 0 0 [vR E 12, vI a1, vI a2] σ (qI E (gN σ + 0) Q)) {rc_X6_readComparison : Int → st_S → (Int → st_S → Prop) → Prop} (hr_X6_readComparison : ∀ {l : Launch} {E : ev_E} (hE : Eok E) (hm : eM E = 1) {a1 : Int} (ca1 : wr a1 = a1) {σ : st_S} {Q : Int → st_S → Prop}, rc_X6_readComparison a1 σ Q → cM l yX6_readComparison cX6_readComparison 3 (some .boolean) E (8 + d) 0 0 [vR E 12, vI a1] σ (qI E (gN σ + 0) Q)) {rc_X6_readLink : Int → Int → st_S → (Int → st_S → Prop) → Prop} (hr_X6_readLink : ∀ {l : Launch} {E : ev_E} (hE : Eok E) (hm : eM E = 1) {a1 : Int} {a2 : Int} (ca1 : wr a1 = a1) (ca2 : wr a2 = a2) {σ : st_S} {Q : Int → st_S → Prop}, rc_X6_readLink a1 a2 σ Q → cM l yX6_readLink cX6_readLink 3 (some .boolean) E (8 + d) 0 0 [vR E 12, vI a1, vI a2] σ (qI E (gN σ + 0) Q)) {rc_X6_readPart : Int → st_S → (Int → st_S → Prop) → Prop} (hr_X6_readPart : ∀ {l : Launch} {E : ev_E} (hE : Eok E) (hm : eM E = 1) {a1 : Int} (ca1 : wr a1 = a1) {σ : st_S} {Q : Int → st_S → Prop}, rc_X6_readPart a1 σ Q → cM l yX6_readPart cX6_readPart 4 (some .boolean) E (8 + d) 0 0 [vR E 12, vI a1] σ (qI E (gN σ + 0) Q)) {rc_X6_readPlain : Int → st_S → (Int → st_S → Prop) → Prop} (hr_X6_readPlain : ∀ {l : Launch} {E : ev_E} (hE : Eok E) (hm : eM E = 1) {a1 : Int} (ca1 : wr a1 = a1) {σ : st_S} {Q : Int → st_S → Prop}, rc_X6_readPlain a1 σ Q → cM l yX6_readPlain cX6_readPlain 4 (some .boolean) E (8 + d) 0 0 [vR E 12, vI a1] σ (qI E (gN σ + 0) Q)) {l : Launch} {E : ev_E} (hE : Eok E) (hm : eM E = 1) {a1 : Int} (ca1 : wr a1 = a1) {σ : st_S} {Q : Int → st_S → Prop} (h : e_X6_readPlain rc_X6_readBracket rc_X6_readChain rc_X6_readComparison rc_X6_readLink rc_X6_readPart rc_X6_readPlain a1 σ Q) : cM l yX6_readPlain cX6_readPlain 4 (some .boolean) E (8 + (d + 1)) 0 0 [vR E 12, vI a1] σ (qI E (gN σ + 0) Q) := by
  refine cM_of (lv := [(0, vR E 12), (1, vI a1)]) (by decide) hE (Nat.le_of_ble_eq_true rfl) (rfl) ?_
  intro X hX hc _ _ hr _ _
  subst hX
  have hh : 8 + (d + 1) ≤ 8 + (d + 1) := Nat.le_refl _
  have hh1 : 1 ≤ 8 + (d + 1) := by omega
  replace h : ∃ m4 : Nat, L_X6_readPlain_4 Q rc_X6_readBracket rc_X6_readChain rc_X6_readComparison rc_X6_readLink rc_X6_readPart rc_X6_readPlain m4 a1 0 0 σ := h
  refine j_iconst hc dX6_readPlain_0 ?_
  refine j_istore_n (lv' := [(2, vI 0), (0, vR E 12), (1, vI a1)]) hc dX6_readPlain_1 rfl (by decide) rfl ?_
  refine j_iconst hc dX6_readPlain_2 ?_
  refine j_istore_n (lv' := [(3, vI 0), (2, vI 0), (0, vR E 12), (1, vI a1)]) hc dX6_readPlain_3 rfl (by decide) rfl ?_
  obtain ⟨n4, h⟩ := h
  refine j_sub (lv' := [(0, vR E 12), (1, vI a1), (2, vI 0), (3, vI 0)]) [2, 3, 1, 0] rfl ?_
  exact jl_X6_readPlain_4 hc hm hr hh hr_X6_readBracket hr_X6_readChain hr_X6_readComparison hr_X6_readLink hr_X6_readPart hr_X6_readPlain n4 ca1 (wlit 0 (by decide)) (wlit 0 (by decide)) h
theorem ca_X6_readBracket : ∀ d : Nat, (∀ {l : Launch} {E : ev_E} (hE : Eok E) (hm : eM E = 1) {a1 : Int} {a2 : Int} {a3 : Int} (ca1 : wr a1 = a1) (ca2 : wr a2 = a2) (ca3 : wr a3 = a3) {σ : st_S} {Q : Int → st_S → Prop}, wp_X6_readBracket d a1 a2 a3 σ Q → cM l yX6_readBracket cX6_readBracket 4 (some .boolean) E (8 + d) 0 0 [vR E 12, vI a1, vI a2, vI a3] σ (qI E (gN σ + 0) Q)) ∧ (∀ {l : Launch} {E : ev_E} (hE : Eok E) (hm : eM E = 1) {a1 : Int} {a2 : Int} (ca1 : wr a1 = a1) (ca2 : wr a2 = a2) {σ : st_S} {Q : Int → st_S → Prop}, wp_X6_readChain d a1 a2 σ Q → cM l yX6_readChain cX6_readChain 7 (some .boolean) E (8 + d) 0 0 [vR E 12, vI a1, vI a2] σ (qI E (gN σ + 0) Q)) ∧ (∀ {l : Launch} {E : ev_E} (hE : Eok E) (hm : eM E = 1) {a1 : Int} (ca1 : wr a1 = a1) {σ : st_S} {Q : Int → st_S → Prop}, wp_X6_readComparison d a1 σ Q → cM l yX6_readComparison cX6_readComparison 3 (some .boolean) E (8 + d) 0 0 [vR E 12, vI a1] σ (qI E (gN σ + 0) Q)) ∧ (∀ {l : Launch} {E : ev_E} (hE : Eok E) (hm : eM E = 1) {a1 : Int} {a2 : Int} (ca1 : wr a1 = a1) (ca2 : wr a2 = a2) {σ : st_S} {Q : Int → st_S → Prop}, wp_X6_readLink d a1 a2 σ Q → cM l yX6_readLink cX6_readLink 3 (some .boolean) E (8 + d) 0 0 [vR E 12, vI a1, vI a2] σ (qI E (gN σ + 0) Q)) ∧ (∀ {l : Launch} {E : ev_E} (hE : Eok E) (hm : eM E = 1) {a1 : Int} (ca1 : wr a1 = a1) {σ : st_S} {Q : Int → st_S → Prop}, wp_X6_readPart d a1 σ Q → cM l yX6_readPart cX6_readPart 4 (some .boolean) E (8 + d) 0 0 [vR E 12, vI a1] σ (qI E (gN σ + 0) Q)) ∧ (∀ {l : Launch} {E : ev_E} (hE : Eok E) (hm : eM E = 1) {a1 : Int} (ca1 : wr a1 = a1) {σ : st_S} {Q : Int → st_S → Prop}, wp_X6_readPlain d a1 σ Q → cM l yX6_readPlain cX6_readPlain 4 (some .boolean) E (8 + d) 0 0 [vR E 12, vI a1] σ (qI E (gN σ + 0) Q)) := by
  intro d
  induction d with
  | zero => exact ⟨(fun {l} {E} hE hm {a1} {a2} {a3} ca1 ca2 ca3 {σ} {Q} h => h.elim), (fun {l} {E} hE hm {a1} {a2} ca1 ca2 {σ} {Q} h => h.elim), (fun {l} {E} hE hm {a1} ca1 {σ} {Q} h => h.elim), (fun {l} {E} hE hm {a1} {a2} ca1 ca2 {σ} {Q} h => h.elim), (fun {l} {E} hE hm {a1} ca1 {σ} {Q} h => h.elim), (fun {l} {E} hE hm {a1} ca1 {σ} {Q} h => h.elim)⟩
  | succ d ih =>
    obtain ⟨q0, q1, q2, q3, q4, q5⟩ := ih
    exact ⟨(fun {l} {E} hE hm {a1} {a2} {a3} ca1 ca2 ca3 {σ} {Q} h => ce_X6_readBracket (d := d) (rc_X6_readBracket := wp_X6_readBracket d) (rc_X6_readChain := wp_X6_readChain d) (rc_X6_readComparison := wp_X6_readComparison d) (rc_X6_readLink := wp_X6_readLink d) (rc_X6_readPart := wp_X6_readPart d) (rc_X6_readPlain := wp_X6_readPlain d) @q0 @q1 @q2 @q3 @q4 @q5 hE hm ca1 ca2 ca3 h), (fun {l} {E} hE hm {a1} {a2} ca1 ca2 {σ} {Q} h => ce_X6_readChain (d := d) (rc_X6_readBracket := wp_X6_readBracket d) (rc_X6_readChain := wp_X6_readChain d) (rc_X6_readComparison := wp_X6_readComparison d) (rc_X6_readLink := wp_X6_readLink d) (rc_X6_readPart := wp_X6_readPart d) (rc_X6_readPlain := wp_X6_readPlain d) @q0 @q1 @q2 @q3 @q4 @q5 hE hm ca1 ca2 h), (fun {l} {E} hE hm {a1} ca1 {σ} {Q} h => ce_X6_readComparison (d := d) (rc_X6_readBracket := wp_X6_readBracket d) (rc_X6_readChain := wp_X6_readChain d) (rc_X6_readComparison := wp_X6_readComparison d) (rc_X6_readLink := wp_X6_readLink d) (rc_X6_readPart := wp_X6_readPart d) (rc_X6_readPlain := wp_X6_readPlain d) @q0 @q1 @q2 @q3 @q4 @q5 hE hm ca1 h), (fun {l} {E} hE hm {a1} {a2} ca1 ca2 {σ} {Q} h => ce_X6_readLink (d := d) (rc_X6_readBracket := wp_X6_readBracket d) (rc_X6_readChain := wp_X6_readChain d) (rc_X6_readComparison := wp_X6_readComparison d) (rc_X6_readLink := wp_X6_readLink d) (rc_X6_readPart := wp_X6_readPart d) (rc_X6_readPlain := wp_X6_readPlain d) @q0 @q1 @q2 @q3 @q4 @q5 hE hm ca1 ca2 h), (fun {l} {E} hE hm {a1} ca1 {σ} {Q} h => ce_X6_readPart (d := d) (rc_X6_readBracket := wp_X6_readBracket d) (rc_X6_readChain := wp_X6_readChain d) (rc_X6_readComparison := wp_X6_readComparison d) (rc_X6_readLink := wp_X6_readLink d) (rc_X6_readPart := wp_X6_readPart d) (rc_X6_readPlain := wp_X6_readPlain d) @q0 @q1 @q2 @q3 @q4 @q5 hE hm ca1 h), (fun {l} {E} hE hm {a1} ca1 {σ} {Q} h => ce_X6_readPlain (d := d) (rc_X6_readBracket := wp_X6_readBracket d) (rc_X6_readChain := wp_X6_readChain d) (rc_X6_readComparison := wp_X6_readComparison d) (rc_X6_readLink := wp_X6_readLink d) (rc_X6_readPart := wp_X6_readPart d) (rc_X6_readPlain := wp_X6_readPlain d) @q0 @q1 @q2 @q3 @q4 @q5 hE hm ca1 h)⟩
theorem c_X6_readBracket {l : Launch} {E : ev_E} (hE : Eok E) (hm : eM E = 1) (d : Nat) {a1 : Int} {a2 : Int} {a3 : Int} (ca1 : wr a1 = a1) (ca2 : wr a2 = a2) (ca3 : wr a3 = a3) {σ : st_S} {Q : Int → st_S → Prop} : wp_X6_readBracket d a1 a2 a3 σ Q → cM l yX6_readBracket cX6_readBracket 4 (some .boolean) E (8 + d) 0 0 [vR E 12, vI a1, vI a2, vI a3] σ (qI E (gN σ + 0) Q) := fun h => (ca_X6_readBracket d).1 hE hm ca1 ca2 ca3 h
theorem c_X6_readChain {l : Launch} {E : ev_E} (hE : Eok E) (hm : eM E = 1) (d : Nat) {a1 : Int} {a2 : Int} (ca1 : wr a1 = a1) (ca2 : wr a2 = a2) {σ : st_S} {Q : Int → st_S → Prop} : wp_X6_readChain d a1 a2 σ Q → cM l yX6_readChain cX6_readChain 7 (some .boolean) E (8 + d) 0 0 [vR E 12, vI a1, vI a2] σ (qI E (gN σ + 0) Q) := fun h => (ca_X6_readBracket d).2.1 hE hm ca1 ca2 h
theorem c_X6_readComparison {l : Launch} {E : ev_E} (hE : Eok E) (hm : eM E = 1) (d : Nat) {a1 : Int} (ca1 : wr a1 = a1) {σ : st_S} {Q : Int → st_S → Prop} : wp_X6_readComparison d a1 σ Q → cM l yX6_readComparison cX6_readComparison 3 (some .boolean) E (8 + d) 0 0 [vR E 12, vI a1] σ (qI E (gN σ + 0) Q) := fun h => (ca_X6_readBracket d).2.2.1 hE hm ca1 h
theorem c_X6_readLink {l : Launch} {E : ev_E} (hE : Eok E) (hm : eM E = 1) (d : Nat) {a1 : Int} {a2 : Int} (ca1 : wr a1 = a1) (ca2 : wr a2 = a2) {σ : st_S} {Q : Int → st_S → Prop} : wp_X6_readLink d a1 a2 σ Q → cM l yX6_readLink cX6_readLink 3 (some .boolean) E (8 + d) 0 0 [vR E 12, vI a1, vI a2] σ (qI E (gN σ + 0) Q) := fun h => (ca_X6_readBracket d).2.2.2.1 hE hm ca1 ca2 h
theorem c_X6_readPart {l : Launch} {E : ev_E} (hE : Eok E) (hm : eM E = 1) (d : Nat) {a1 : Int} (ca1 : wr a1 = a1) {σ : st_S} {Q : Int → st_S → Prop} : wp_X6_readPart d a1 σ Q → cM l yX6_readPart cX6_readPart 4 (some .boolean) E (8 + d) 0 0 [vR E 12, vI a1] σ (qI E (gN σ + 0) Q) := fun h => (ca_X6_readBracket d).2.2.2.2.1 hE hm ca1 h
theorem c_X6_readPlain {l : Launch} {E : ev_E} (hE : Eok E) (hm : eM E = 1) (d : Nat) {a1 : Int} (ca1 : wr a1 = a1) {σ : st_S} {Q : Int → st_S → Prop} : wp_X6_readPlain d a1 σ Q → cM l yX6_readPlain cX6_readPlain 4 (some .boolean) E (8 + d) 0 0 [vR E 12, vI a1] σ (qI E (gN σ + 0) Q) := fun h => (ca_X6_readBracket d).2.2.2.2.2 hE hm ca1 h
-- LitStrangers$Reader.readTimes(I)Z
theorem dX6_readTimes_0 : decode cX6_readTimes 0 = .ok (.aload_n 0, 1) := by decide +kernel
theorem dX6_readTimes_1 : decode cX6_readTimes 1 = .ok (.invokevirtual 43, 3) := by decide +kernel
theorem dX6_readTimes_4 : decode cX6_readTimes 4 = .ok (.aload_n 0, 1) := by decide +kernel
theorem dX6_readTimes_5 : decode cX6_readTimes 5 = .ok (.getfield 50, 3) := by decide +kernel
theorem dX6_readTimes_8 : decode cX6_readTimes 8 = .ok (.iconst 2, 1) := by decide +kernel
theorem dX6_readTimes_9 : decode cX6_readTimes 9 = .ok (.if_icmp .ne 20, 3) := by decide +kernel
theorem dX6_readTimes_12 : decode cX6_readTimes 12 = .ok (.aload_n 0, 1) := by decide +kernel
theorem dX6_readTimes_13 : decode cX6_readTimes 13 = .ok (.getfield 101, 3) := by decide +kernel
theorem dX6_readTimes_16 : decode cX6_readTimes 16 = .ok (.iconst 1, 1) := by decide +kernel
theorem dX6_readTimes_17 : decode cX6_readTimes 17 = .ok (.if_icmp .lt 12, 3) := by decide +kernel
theorem dX6_readTimes_20 : decode cX6_readTimes 20 = .ok (.aload_n 0, 1) := by decide +kernel
theorem dX6_readTimes_21 : decode cX6_readTimes 21 = .ok (.getfield 101, 3) := by decide +kernel
theorem dX6_readTimes_24 : decode cX6_readTimes 24 = .ok (.bipush 20, 2) := by decide +kernel
theorem dX6_readTimes_26 : decode cX6_readTimes 26 = .ok (.if_icmp .le 8, 3) := by decide +kernel
theorem dX6_readTimes_29 : decode cX6_readTimes 29 = .ok (.aload_n 0, 1) := by decide +kernel
theorem dX6_readTimes_30 : decode cX6_readTimes 30 = .ok (.invokevirtual 57, 3) := by decide +kernel
theorem dX6_readTimes_33 : decode cX6_readTimes 33 = .ok (.ireturn, 1) := by decide +kernel
theorem dX6_readTimes_34 : decode cX6_readTimes 34 = .ok (.aload_n 0, 1) := by decide +kernel
theorem dX6_readTimes_35 : decode cX6_readTimes 35 = .ok (.getfield 18, 3) := by decide +kernel
theorem dX6_readTimes_38 : decode cX6_readTimes 38 = .ok (.getfield 75, 3) := by decide +kernel
theorem dX6_readTimes_41 : decode cX6_readTimes 41 = .ok (.iload_n 1, 1) := by decide +kernel
theorem dX6_readTimes_42 : decode cX6_readTimes 42 = .ok (.aload_n 0, 1) := by decide +kernel
theorem dX6_readTimes_43 : decode cX6_readTimes 43 = .ok (.getfield 101, 3) := by decide +kernel
theorem dX6_readTimes_46 : decode cX6_readTimes 46 = .ok (.iastore, 1) := by decide +kernel
theorem dX6_readTimes_47 : decode cX6_readTimes 47 = .ok (.aload_n 0, 1) := by decide +kernel
theorem dX6_readTimes_48 : decode cX6_readTimes 48 = .ok (.invokevirtual 43, 3) := by decide +kernel
theorem dX6_readTimes_51 : decode cX6_readTimes 51 = .ok (.iconst 1, 1) := by decide +kernel
theorem dX6_readTimes_52 : decode cX6_readTimes 52 = .ok (.ireturn, 1) := by decide +kernel
def B_X6_readTimes_29 (Q : Int → st_S → Prop)    (σ : st_S) : Prop := wp_X6_fail σ (fun r14 s15 => (r14 = 0 ∨ r14 = 1) ∧ Q r14 s15)
def wp_X6_readTimes (a1 : Int) (σ : st_S) (Q : Int → st_S → Prop) : Prop := wp_X6_advance σ (fun s17 => (¬ gI s17 12 5 = 2 → B_X6_readTimes_29 Q s17) ∧ (gI s17 12 5 = 2 → (gI s17 12 8 < 1 → B_X6_readTimes_29 Q s17) ∧ (¬ gI s17 12 8 < 1 → (gI s17 12 8 ≤ 20 → ix a1 12 ∧ ∀ s23 : st_S, s23 = sI s17 20 (Int.toNat a1) (gI s17 12 8) → wp_X6_advance s23 (fun s25 => Q 1 s25)) ∧ (¬ gI s17 12 8 ≤ 20 → B_X6_readTimes_29 Q s17))))
set_option maxRecDepth 20000 in
theorem jb_X6_readTimes_29 {X : jj_X} {E : ev_E} {n0 hN : Nat} (hc : Cx X E cX6_readTimes 2 n0 hN RX6) (hm : eM E = 1) (hr : (xT X).sig.returnType = (some .boolean)) (hh : 3 ≤ hN) {Q : Int → st_S → Prop} {σ : st_S} (h : B_X6_readTimes_29 Q σ) : J X E 2 n0 0 0 (MQ (xB X) (qI E (n0 + 0) Q) (xA X) (xS X) 0 0 (eF E)) σ 29 [(0, vR E 12)] [] := by
  have hh1 : 1 ≤ hN := by omega
  replace h : wp_X6_fail σ (fun r14 s15 => (r14 = 0 ∨ r14 = 1) ∧ Q r14 s15) := h
  refine j_aload_nR hc 0 dX6_readTimes_29 rfl rfl ?_
  refine j_vI hc (k := 6) (by decide) (fun hv => Or.inl (sv_k hv hm rfl)) ml_RX6_57 mv_X6_fail (As := []) (c_X6_fail (cx_E hc) hm  h) rfl (by omega) (by decide) ⟨Nat.zero_le _, Nat.zero_le _⟩ (Nat.le_of_ble_eq_true rfl) rfl dX6_readTimes_30 (fun r14 s15 cr14 h => ?_)
  exact j_zret hc hr (nar_bool h.1) (by rcases h.1 with e | e <;> (rw [e]; decide)) h.2 dX6_readTimes_33
set_option maxRecDepth 20000 in
theorem c_X6_readTimes {l : Launch} {E : ev_E} (hE : Eok E) (hm : eM E = 1) {a1 : Int} (ca1 : wr a1 = a1) {σ : st_S} {Q : Int → st_S → Prop} (h : wp_X6_readTimes a1 σ Q) : cM l yX6_readTimes cX6_readTimes 2 (some .boolean) E 3 0 0 [vR E 12, vI a1] σ (qI E (gN σ + 0) Q) := by
  refine cM_of (lv := [(0, vR E 12), (1, vI a1)]) (by decide) hE (Nat.le_of_ble_eq_true rfl) (rfl) ?_
  intro X hX hc _ _ hr _ _
  subst hX
  have hh : 3 ≤ 3 := Nat.le_refl _
  have hh1 : 1 ≤ 3 := by omega
  replace h : wp_X6_advance σ (fun s17 => (¬ gI s17 12 5 = 2 → B_X6_readTimes_29 Q s17) ∧ (gI s17 12 5 = 2 → (gI s17 12 8 < 1 → B_X6_readTimes_29 Q s17) ∧ (¬ gI s17 12 8 < 1 → (gI s17 12 8 ≤ 20 → ix a1 12 ∧ ∀ s23 : st_S, s23 = sI s17 20 (Int.toNat a1) (gI s17 12 8) → wp_X6_advance s23 (fun s25 => Q 1 s25)) ∧ (¬ gI s17 12 8 ≤ 20 → B_X6_readTimes_29 Q s17)))) := h
  refine j_aload_nR hc 0 dX6_readTimes_0 rfl rfl ?_
  refine j_vV hc (k := 6) (by decide) (fun hv => Or.inl (sv_k hv hm rfl)) ml_RX6_43 mv_X6_advance (As := []) (c_X6_advance (cx_E hc) hm  h) rfl (by omega) (by decide) ⟨Nat.zero_le _, Nat.zero_le _⟩ (Nat.le_of_ble_eq_true rfl) rfl dX6_readTimes_1 (fun s17 h => ?_)
  refine j_aload_nR hc 0 dX6_readTimes_4 rfl rfl ?_
  refine j_getI hc fl_RX6_50 (Or.inl rfl) (fun hv => Or.inl (sv_k hv hm rfl)) dX6_readTimes_5 (fun cn18 => ?_)
  refine j_iconst hc dX6_readTimes_8 ?_
  refine j_ic_ne hc cn18 (wlit 2 (by decide)) (tgt := 29) dX6_readTimes_9 (by decide) (fun q28 => ?_) (fun q28 => ?_)
  · replace h := h.1 q28
    refine j_sub (lv' := [(0, vR E 12)]) [0] rfl ?_
    exact jb_X6_readTimes_29 hc hm hr hh h
  · replace h := h.2 q28
    refine j_aload_nR hc 0 dX6_readTimes_12 rfl rfl ?_
    refine j_getI hc fl_RX6_101 (Or.inl rfl) (fun hv => Or.inl (sv_k hv hm rfl)) dX6_readTimes_13 (fun cn19 => ?_)
    refine j_iconst hc dX6_readTimes_16 ?_
    refine j_ic_lt hc cn19 (wlit 1 (by decide)) (tgt := 29) dX6_readTimes_17 (by decide) (fun q27 => ?_) (fun q27 => ?_)
    · replace h := h.1 q27
      refine j_sub (lv' := [(0, vR E 12)]) [0] rfl ?_
      exact jb_X6_readTimes_29 hc hm hr hh h
    · replace h := h.2 q27
      refine j_aload_nR hc 0 dX6_readTimes_20 rfl rfl ?_
      refine j_getI hc fl_RX6_101 (Or.inl rfl) (fun hv => Or.inl (sv_k hv hm rfl)) dX6_readTimes_21 (fun cn20 => ?_)
      refine j_bipush hc dX6_readTimes_24 (by decide) ?_
      refine j_ic_le hc cn20 (wlit 20 (by decide)) (tgt := 34) dX6_readTimes_26 (by decide) (fun q26 => ?_) (fun q26 => ?_)
      · replace h := h.1 q26
        refine j_aload_nR hc 0 dX6_readTimes_34 rfl rfl ?_
        refine j_getR (c' := 14) hc fl_RX6_18 rfl rfl (fun hv => (sv_k hv hm rfl)) dX6_readTimes_35 ?_
        refine j_getR (c' := 20) hc fl_RX6_75 rfl rfl (fun hv => (sv_k hv hm rfl)) dX6_readTimes_38 ?_
        refine j_iload_n hc 1 dX6_readTimes_41 rfl rfl ?_
        refine j_aload_nR hc 0 dX6_readTimes_42 rfl rfl ?_
        refine j_getI hc fl_RX6_101 (Or.inl rfl) (fun hv => Or.inl (sv_k hv hm rfl)) dX6_readTimes_43 (fun cn21 => ?_)
        obtain ⟨b22, h⟩ := h
        refine j_iast (jn := (Int.toNat a1)) hc (fun hv => sv_kl hv hm rfl) ca1 b22 rfl cn21 dX6_readTimes_46 (fun s23 es23 => ?_)
        replace h := h s23 es23
        refine j_aload_nR hc 0 dX6_readTimes_47 rfl rfl ?_
        refine j_vV hc (k := 6) (by decide) (fun hv => Or.inl (sv_k hv hm rfl)) ml_RX6_43 mv_X6_advance (As := []) (c_X6_advance (cx_E hc) hm  h) rfl (by omega) (by decide) ⟨Nat.zero_le _, Nat.zero_le _⟩ (Nat.le_of_ble_eq_true rfl) rfl dX6_readTimes_48 (fun s25 h => ?_)
        refine j_iconst hc dX6_readTimes_51 ?_
        exact j_zret hc hr (nar_bool (Or.inr rfl)) (by decide) h dX6_readTimes_52
      · replace h := h.2 q26
        refine j_sub (lv' := [(0, vR E 12)]) [0] rfl ?_
        exact jb_X6_readTimes_29 hc hm hr hh h
-- LitStrangers$Reader.readClause(I)Z
theorem dX6_readClause_0 : decode cX6_readClause 0 = .ok (.aload_n 0, 1) := by decide +kernel
theorem dX6_readClause_1 : decode cX6_readClause 1 = .ok (.aload_n 0, 1) := by decide +kernel
theorem dX6_readClause_2 : decode cX6_readClause 2 = .ok (.getfield 29, 3) := by decide +kernel
theorem dX6_readClause_5 : decode cX6_readClause 5 = .ok (.ifCond .eq 8, 3) := by decide +kernel
theorem dX6_readClause_8 : decode cX6_readClause 8 = .ok (.ldc 64, 2) := by decide +kernel
theorem dX6_readClause_10 : decode cX6_readClause 10 = .ok (.goto 5, 3) := by decide +kernel
theorem dX6_readClause_13 : decode cX6_readClause 13 = .ok (.ldc 66, 2) := by decide +kernel
theorem dX6_readClause_15 : decode cX6_readClause 15 = .ok (.invokevirtual 68, 3) := by decide +kernel
theorem dX6_readClause_18 : decode cX6_readClause 18 = .ok (.istore_n 2, 1) := by decide +kernel
theorem dX6_readClause_19 : decode cX6_readClause 19 = .ok (.iload_n 2, 1) := by decide +kernel
theorem dX6_readClause_20 : decode cX6_readClause 20 = .ok (.iconst (-1), 1) := by decide +kernel
theorem dX6_readClause_21 : decode cX6_readClause 21 = .ok (.if_icmp .ne 8, 3) := by decide +kernel
theorem dX6_readClause_24 : decode cX6_readClause 24 = .ok (.aload_n 0, 1) := by decide +kernel
theorem dX6_readClause_25 : decode cX6_readClause 25 = .ok (.invokevirtual 57, 3) := by decide +kernel
theorem dX6_readClause_28 : decode cX6_readClause 28 = .ok (.ireturn, 1) := by decide +kernel
theorem dX6_readClause_29 : decode cX6_readClause 29 = .ok (.aload_n 0, 1) := by decide +kernel
theorem dX6_readClause_30 : decode cX6_readClause 30 = .ok (.invokevirtual 43, 3) := by decide +kernel
theorem dX6_readClause_33 : decode cX6_readClause 33 = .ok (.aload_n 0, 1) := by decide +kernel
theorem dX6_readClause_34 : decode cX6_readClause 34 = .ok (.getfield 18, 3) := by decide +kernel
theorem dX6_readClause_37 : decode cX6_readClause 37 = .ok (.getfield 72, 3) := by decide +kernel
theorem dX6_readClause_40 : decode cX6_readClause 40 = .ok (.iload_n 1, 1) := by decide +kernel
theorem dX6_readClause_41 : decode cX6_readClause 41 = .ok (.iload_n 2, 1) := by decide +kernel
theorem dX6_readClause_42 : decode cX6_readClause 42 = .ok (.iastore, 1) := by decide +kernel
theorem dX6_readClause_43 : decode cX6_readClause 43 = .ok (.aload_n 0, 1) := by decide +kernel
theorem dX6_readClause_44 : decode cX6_readClause 44 = .ok (.getfield 18, 3) := by decide +kernel
theorem dX6_readClause_47 : decode cX6_readClause 47 = .ok (.getfield 75, 3) := by decide +kernel
theorem dX6_readClause_50 : decode cX6_readClause 50 = .ok (.iload_n 1, 1) := by decide +kernel
theorem dX6_readClause_51 : decode cX6_readClause 51 = .ok (.iconst 1, 1) := by decide +kernel
theorem dX6_readClause_52 : decode cX6_readClause 52 = .ok (.iastore, 1) := by decide +kernel
theorem dX6_readClause_53 : decode cX6_readClause 53 = .ok (.aload_n 0, 1) := by decide +kernel
theorem dX6_readClause_54 : decode cX6_readClause 54 = .ok (.getfield 18, 3) := by decide +kernel
theorem dX6_readClause_57 : decode cX6_readClause 57 = .ok (.getfield 78, 3) := by decide +kernel
theorem dX6_readClause_60 : decode cX6_readClause 60 = .ok (.iload_n 1, 1) := by decide +kernel
theorem dX6_readClause_61 : decode cX6_readClause 61 = .ok (.aload_n 0, 1) := by decide +kernel
theorem dX6_readClause_62 : decode cX6_readClause 62 = .ok (.getfield 18, 3) := by decide +kernel
theorem dX6_readClause_65 : decode cX6_readClause 65 = .ok (.getfield 33, 3) := by decide +kernel
theorem dX6_readClause_68 : decode cX6_readClause 68 = .ok (.iastore, 1) := by decide +kernel
theorem dX6_readClause_69 : decode cX6_readClause 69 = .ok (.iload_n 2, 1) := by decide +kernel
theorem dX6_readClause_70 : decode cX6_readClause 70 = .ok (.aload_n 0, 1) := by decide +kernel
theorem dX6_readClause_71 : decode cX6_readClause 71 = .ok (.getfield 29, 3) := by decide +kernel
theorem dX6_readClause_74 : decode cX6_readClause 74 = .ok (.ifCond .eq 7, 3) := by decide +kernel
theorem dX6_readClause_77 : decode cX6_readClause 77 = .ok (.iconst 2, 1) := by decide +kernel
theorem dX6_readClause_78 : decode cX6_readClause 78 = .ok (.goto 4, 3) := by decide +kernel
theorem dX6_readClause_81 : decode cX6_readClause 81 = .ok (.iconst 4, 1) := by decide +kernel
theorem dX6_readClause_82 : decode cX6_readClause 82 = .ok (.if_icmp .ge 14, 3) := by decide +kernel
theorem dX6_readClause_85 : decode cX6_readClause 85 = .ok (.aload_n 0, 1) := by decide +kernel
theorem dX6_readClause_86 : decode cX6_readClause 86 = .ok (.iconst 2, 1) := by decide +kernel
theorem dX6_readClause_87 : decode cX6_readClause 87 = .ok (.iconst 0, 1) := by decide +kernel
theorem dX6_readClause_88 : decode cX6_readClause 88 = .ok (.invokevirtual 81, 3) := by decide +kernel
theorem dX6_readClause_91 : decode cX6_readClause 91 = .ok (.ifCond .ne 5, 3) := by decide +kernel
theorem dX6_readClause_94 : decode cX6_readClause 94 = .ok (.iconst 0, 1) := by decide +kernel
theorem dX6_readClause_95 : decode cX6_readClause 95 = .ok (.ireturn, 1) := by decide +kernel
theorem dX6_readClause_96 : decode cX6_readClause 96 = .ok (.aload_n 0, 1) := by decide +kernel
theorem dX6_readClause_97 : decode cX6_readClause 97 = .ok (.getfield 18, 3) := by decide +kernel
theorem dX6_readClause_100 : decode cX6_readClause 100 = .ok (.getfield 85, 3) := by decide +kernel
theorem dX6_readClause_103 : decode cX6_readClause 103 = .ok (.iload_n 1, 1) := by decide +kernel
theorem dX6_readClause_104 : decode cX6_readClause 104 = .ok (.aload_n 0, 1) := by decide +kernel
theorem dX6_readClause_105 : decode cX6_readClause 105 = .ok (.getfield 18, 3) := by decide +kernel
theorem dX6_readClause_108 : decode cX6_readClause 108 = .ok (.getfield 33, 3) := by decide +kernel
theorem dX6_readClause_111 : decode cX6_readClause 111 = .ok (.iastore, 1) := by decide +kernel
theorem dX6_readClause_112 : decode cX6_readClause 112 = .ok (.aload_n 0, 1) := by decide +kernel
theorem dX6_readClause_113 : decode cX6_readClause 113 = .ok (.getfield 29, 3) := by decide +kernel
theorem dX6_readClause_116 : decode cX6_readClause 116 = .ok (.ifCond .eq 22, 3) := by decide +kernel
theorem dX6_readClause_119 : decode cX6_readClause 119 = .ok (.aload_n 0, 1) := by decide +kernel
theorem dX6_readClause_120 : decode cX6_readClause 120 = .ok (.ldc 88, 2) := by decide +kernel
theorem dX6_readClause_122 : decode cX6_readClause 122 = .ok (.invokevirtual 89, 3) := by decide +kernel
theorem dX6_readClause_125 : decode cX6_readClause 125 = .ok (.ifCond .eq 13, 3) := by decide +kernel
theorem dX6_readClause_128 : decode cX6_readClause 128 = .ok (.aload_n 0, 1) := by decide +kernel
theorem dX6_readClause_129 : decode cX6_readClause 129 = .ok (.iload_n 1, 1) := by decide +kernel
theorem dX6_readClause_130 : decode cX6_readClause 130 = .ok (.invokevirtual 93, 3) := by decide +kernel
theorem dX6_readClause_133 : decode cX6_readClause 133 = .ok (.ifCond .ne 5, 3) := by decide +kernel
theorem dX6_readClause_136 : decode cX6_readClause 136 = .ok (.iconst 0, 1) := by decide +kernel
theorem dX6_readClause_137 : decode cX6_readClause 137 = .ok (.ireturn, 1) := by decide +kernel
theorem dX6_readClause_138 : decode cX6_readClause 138 = .ok (.aload_n 0, 1) := by decide +kernel
theorem dX6_readClause_139 : decode cX6_readClause 139 = .ok (.ldc 96, 2) := by decide +kernel
theorem dX6_readClause_141 : decode cX6_readClause 141 = .ok (.invokevirtual 89, 3) := by decide +kernel
theorem dX6_readClause_144 : decode cX6_readClause 144 = .ok (.ifCond .eq 18, 3) := by decide +kernel
theorem dX6_readClause_147 : decode cX6_readClause 147 = .ok (.aload_n 0, 1) := by decide +kernel
theorem dX6_readClause_148 : decode cX6_readClause 148 = .ok (.invokevirtual 43, 3) := by decide +kernel
theorem dX6_readClause_151 : decode cX6_readClause 151 = .ok (.aload_n 0, 1) := by decide +kernel
theorem dX6_readClause_152 : decode cX6_readClause 152 = .ok (.iconst 0, 1) := by decide +kernel
theorem dX6_readClause_153 : decode cX6_readClause 153 = .ok (.iconst 0, 1) := by decide +kernel
theorem dX6_readClause_154 : decode cX6_readClause 154 = .ok (.invokevirtual 81, 3) := by decide +kernel
theorem dX6_readClause_157 : decode cX6_readClause 157 = .ok (.ifCond .ne 5, 3) := by decide +kernel
theorem dX6_readClause_160 : decode cX6_readClause 160 = .ok (.iconst 0, 1) := by decide +kernel
theorem dX6_readClause_161 : decode cX6_readClause 161 = .ok (.ireturn, 1) := by decide +kernel
theorem dX6_readClause_162 : decode cX6_readClause 162 = .ok (.aload_n 0, 1) := by decide +kernel
theorem dX6_readClause_163 : decode cX6_readClause 163 = .ok (.getfield 18, 3) := by decide +kernel
theorem dX6_readClause_166 : decode cX6_readClause 166 = .ok (.getfield 98, 3) := by decide +kernel
theorem dX6_readClause_169 : decode cX6_readClause 169 = .ok (.iload_n 1, 1) := by decide +kernel
theorem dX6_readClause_170 : decode cX6_readClause 170 = .ok (.aload_n 0, 1) := by decide +kernel
theorem dX6_readClause_171 : decode cX6_readClause 171 = .ok (.getfield 18, 3) := by decide +kernel
theorem dX6_readClause_174 : decode cX6_readClause 174 = .ok (.getfield 33, 3) := by decide +kernel
theorem dX6_readClause_177 : decode cX6_readClause 177 = .ok (.iastore, 1) := by decide +kernel
theorem dX6_readClause_178 : decode cX6_readClause 178 = .ok (.aload_n 0, 1) := by decide +kernel
theorem dX6_readClause_179 : decode cX6_readClause 179 = .ok (.getfield 18, 3) := by decide +kernel
theorem dX6_readClause_182 : decode cX6_readClause 182 = .ok (.iload_n 1, 1) := by decide +kernel
theorem dX6_readClause_183 : decode cX6_readClause 183 = .ok (.iconst 1, 1) := by decide +kernel
theorem dX6_readClause_184 : decode cX6_readClause 184 = .ok (.iadd, 1) := by decide +kernel
theorem dX6_readClause_185 : decode cX6_readClause 185 = .ok (.putfield 34, 3) := by decide +kernel
theorem dX6_readClause_188 : decode cX6_readClause 188 = .ok (.iconst 1, 1) := by decide +kernel
theorem dX6_readClause_189 : decode cX6_readClause 189 = .ok (.ireturn, 1) := by decide +kernel
def B_X6_readClause_162 (Q : Int → st_S → Prop)   (l1 : Int) (σ : st_S) : Prop := ix l1 12 ∧ ∀ s47 : st_S, s47 = sI σ 19 (Int.toNat l1) (gI σ 14 6) → ∀ x48 : Int, x48 = wr (l1 + 1) → ∀ s49 : st_S, s49 = sI s47 14 7 x48 → Q 1 s49
def B_X6_readClause_138 (Q : Int → st_S → Prop)   (l1 : Int) (σ : st_S) : Prop := wp_X6_isWord 5 σ (fun r50 s51 => (r50 = 0 → B_X6_readClause_162 Q l1 s51) ∧ (¬ r50 = 0 → wp_X6_advance s51 (fun s53 => wp_X6_readChain 80 0 0 s53 (fun r54 s55 => (¬ r54 = 0 → B_X6_readClause_162 Q l1 s55) ∧ (r54 = 0 → Q 0 s55)))))
def B_X6_readClause_96 (Q : Int → st_S → Prop)   (l1 : Int) (σ : st_S) : Prop := ix l1 12 ∧ ∀ s60 : st_S, s60 = sI σ 18 (Int.toNat l1) (gI σ 14 6) → (gI s60 12 4 = 0 → B_X6_readClause_138 Q l1 s60) ∧ (¬ gI s60 12 4 = 0 → wp_X6_isWord 4 s60 (fun r62 s63 => (r62 = 0 → B_X6_readClause_138 Q l1 s63) ∧ (¬ r62 = 0 → wp_X6_readTimes l1 s63 (fun r64 s65 => (¬ r64 = 0 → B_X6_readClause_138 Q l1 s65) ∧ (r64 = 0 → Q 0 s65)))))
def B_X6_readClause_82 (Q : Int → st_S → Prop)   (l1 : Int) (v0 : Int) (v1 : Int) (σ : st_S) : Prop := (v0 ≤ wr v1 → B_X6_readClause_96 Q l1 σ) ∧ (¬ v0 ≤ wr v1 → wp_X6_readChain 80 2 0 σ (fun r69 s70 => (¬ r69 = 0 → B_X6_readClause_96 Q l1 s70) ∧ (r69 = 0 → Q 0 s70)))
def B_X6_readClause_15 (Q : Int → st_S → Prop)   (l1 : Int) (v0 : Nat) (σ : st_S) : Prop := wp_X6_place v0 σ (fun r73 s74 => (¬ r73 = (-1) → wp_X6_advance s74 (fun s76 => ix l1 12 ∧ ∀ s78 : st_S, s78 = sI s76 16 (Int.toNat l1) r73 → ix l1 12 ∧ ∀ s80 : st_S, s80 = sI s78 20 (Int.toNat l1) 1 → ix l1 12 ∧ ∀ s83 : st_S, s83 = sI s80 17 (Int.toNat l1) (gI s80 14 6) → (gI s83 12 4 = 0 → B_X6_readClause_82 Q l1 4 r73 s83) ∧ (¬ gI s83 12 4 = 0 → B_X6_readClause_82 Q l1 2 r73 s83))) ∧ (r73 = (-1) → wp_X6_fail s74 (fun r86 s87 => (r86 = 0 ∨ r86 = 1) ∧ Q r86 s87)))
def wp_X6_readClause (a1 : Int) (σ : st_S) (Q : Int → st_S → Prop) : Prop := (gI σ 12 4 = 0 → B_X6_readClause_15 Q a1 0 σ) ∧ (¬ gI σ 12 4 = 0 → B_X6_readClause_15 Q a1 2 σ)
set_option maxRecDepth 20000 in
theorem jb_X6_readClause_162 {X : jj_X} {E : ev_E} {n0 hN : Nat} (hc : Cx X E cX6_readClause 3 n0 hN RX6) (hm : eM E = 1) (hr : (xT X).sig.returnType = (some .boolean)) (hh : 89 ≤ hN) {Q : Int → st_S → Prop} {l1 : Int} (cl1 : wr l1 = l1) {σ : st_S} (h : B_X6_readClause_162 Q l1 σ) : J X E 3 n0 0 0 (MQ (xB X) (qI E (n0 + 0) Q) (xA X) (xS X) 0 0 (eF E)) σ 162 [(0, vR E 12), (1, vI l1)] [] := by
  have hh1 : 1 ≤ hN := by omega
  replace h : ix l1 12 ∧ ∀ s47 : st_S, s47 = sI σ 19 (Int.toNat l1) (gI σ 14 6) → ∀ x48 : Int, x48 = wr (l1 + 1) → ∀ s49 : st_S, s49 = sI s47 14 7 x48 → Q 1 s49 := h
  refine j_aload_nR hc 0 dX6_readClause_162 rfl rfl ?_
  refine j_getR (c' := 14) hc fl_RX6_18 rfl rfl (fun hv => (sv_k hv hm rfl)) dX6_readClause_163 ?_
  refine j_getR (c' := 19) hc fl_RX6_98 rfl rfl (fun hv => (sv_k hv hm rfl)) dX6_readClause_166 ?_
  refine j_iload_n hc 1 dX6_readClause_169 rfl rfl ?_
  refine j_aload_nR hc 0 dX6_readClause_170 rfl rfl ?_
  refine j_getR (c' := 14) hc fl_RX6_18 rfl rfl (fun hv => (sv_k hv hm rfl)) dX6_readClause_171 ?_
  refine j_getI hc fl_RX6_33 (Or.inl rfl) (fun hv => Or.inl (sv_k hv hm rfl)) dX6_readClause_174 (fun cn45 => ?_)
  obtain ⟨b46, h⟩ := h
  refine j_iast (jn := (Int.toNat l1)) hc (fun hv => sv_kl hv hm rfl) cl1 b46 rfl cn45 dX6_readClause_177 (fun s47 es47 => ?_)
  replace h := h s47 es47
  refine j_aload_nR hc 0 dX6_readClause_178 rfl rfl ?_
  refine j_getR (c' := 14) hc fl_RX6_18 rfl rfl (fun hv => (sv_k hv hm rfl)) dX6_readClause_179 ?_
  refine j_iload_n hc 1 dX6_readClause_182 rfl rfl ?_
  refine j_iconst hc dX6_readClause_183 ?_
  refine j_iadd hc dX6_readClause_184 ?_
  refine j_w (fun x48 ex48 cx48 => ?_)
  replace h := h x48 ex48
  refine j_putI hc fl_RX6_34 rfl rfl (fun hv => Or.inl (sv_k hv hm rfl)) cx48 dX6_readClause_185 (fun s49 es49 => ?_)
  replace h := h s49 es49
  refine j_iconst hc dX6_readClause_188 ?_
  exact j_zret hc hr (nar_bool (Or.inr rfl)) (by decide) h dX6_readClause_189
set_option maxRecDepth 20000 in
theorem jb_X6_readClause_138 {X : jj_X} {E : ev_E} {n0 hN : Nat} (hc : Cx X E cX6_readClause 3 n0 hN RX6) (hm : eM E = 1) (hr : (xT X).sig.returnType = (some .boolean)) (hh : 89 ≤ hN) {Q : Int → st_S → Prop} {l1 : Int} (cl1 : wr l1 = l1) {σ : st_S} (h : B_X6_readClause_138 Q l1 σ) : J X E 3 n0 0 0 (MQ (xB X) (qI E (n0 + 0) Q) (xA X) (xS X) 0 0 (eF E)) σ 138 [(0, vR E 12), (1, vI l1)] [] := by
  have hh1 : 1 ≤ hN := by omega
  replace h : wp_X6_isWord 5 σ (fun r50 s51 => (r50 = 0 → B_X6_readClause_162 Q l1 s51) ∧ (¬ r50 = 0 → wp_X6_advance s51 (fun s53 => wp_X6_readChain 80 0 0 s53 (fun r54 s55 => (¬ r54 = 0 → B_X6_readClause_162 Q l1 s55) ∧ (r54 = 0 → Q 0 s55))))) := h
  refine j_aload_nR hc 0 dX6_readClause_138 rfl rfl ?_
  refine j_ldcS (k := 5) hc rfl dX6_readClause_139 ?_
  refine j_vI hc (k := 6) (by decide) (fun hv => Or.inl (sv_k hv hm rfl)) ml_RX6_89 mv_X6_isWord (As := [vS E 5]) (c_X6_isWord (cx_E hc) hm  h) rfl (by omega) (by decide) ⟨Nat.zero_le _, Nat.zero_le _⟩ (Nat.le_of_ble_eq_true rfl) rfl dX6_readClause_141 (fun r50 s51 cr50 h => ?_)
  refine j_if_eq hc cr50 (tgt := 162) dX6_readClause_144 (by decide) (fun q57 => ?_) (fun q57 => ?_)
  · replace h := h.1 q57
    refine j_sub (lv' := [(0, vR E 12), (1, vI l1)]) [0, 1] rfl ?_
    exact jb_X6_readClause_162 hc hm hr hh cl1 h
  · replace h := h.2 q57
    refine j_aload_nR hc 0 dX6_readClause_147 rfl rfl ?_
    refine j_vV hc (k := 6) (by decide) (fun hv => Or.inl (sv_k hv hm rfl)) ml_RX6_43 mv_X6_advance (As := []) (c_X6_advance (cx_E hc) hm  h) rfl (by omega) (by decide) ⟨Nat.zero_le _, Nat.zero_le _⟩ (Nat.le_of_ble_eq_true rfl) rfl dX6_readClause_148 (fun s53 h => ?_)
    refine j_aload_nR hc 0 dX6_readClause_151 rfl rfl ?_
    refine j_iconst hc dX6_readClause_152 ?_
    refine j_iconst hc dX6_readClause_153 ?_
    refine j_vI hc (k := 6) (by decide) (fun hv => Or.inl (sv_k hv hm rfl)) ml_RX6_81 mv_X6_readChain (As := [vI 0, vI 0]) (c_X6_readChain (cx_E hc) hm 80 (wlit 0 (by decide)) (wlit 0 (by decide)) h) rfl (by omega) (by decide) ⟨Nat.zero_le _, Nat.zero_le _⟩ (Nat.le_of_ble_eq_true rfl) rfl dX6_readClause_154 (fun r54 s55 cr54 h => ?_)
    refine j_if_ne hc cr54 (tgt := 162) dX6_readClause_157 (by decide) (fun q56 => ?_) (fun q56 => ?_)
    · replace h := h.1 q56
      refine j_sub (lv' := [(0, vR E 12), (1, vI l1)]) [0, 1] rfl ?_
      exact jb_X6_readClause_162 hc hm hr hh cl1 h
    · replace h := h.2 q56
      refine j_iconst hc dX6_readClause_160 ?_
      exact j_zret hc hr (nar_bool (Or.inl rfl)) (by decide) h dX6_readClause_161
set_option maxRecDepth 20000 in
theorem jb_X6_readClause_96 {X : jj_X} {E : ev_E} {n0 hN : Nat} (hc : Cx X E cX6_readClause 3 n0 hN RX6) (hm : eM E = 1) (hr : (xT X).sig.returnType = (some .boolean)) (hh : 89 ≤ hN) {Q : Int → st_S → Prop} {l1 : Int} (cl1 : wr l1 = l1) {σ : st_S} (h : B_X6_readClause_96 Q l1 σ) : J X E 3 n0 0 0 (MQ (xB X) (qI E (n0 + 0) Q) (xA X) (xS X) 0 0 (eF E)) σ 96 [(0, vR E 12), (1, vI l1)] [] := by
  have hh1 : 1 ≤ hN := by omega
  replace h : ix l1 12 ∧ ∀ s60 : st_S, s60 = sI σ 18 (Int.toNat l1) (gI σ 14 6) → (gI s60 12 4 = 0 → B_X6_readClause_138 Q l1 s60) ∧ (¬ gI s60 12 4 = 0 → wp_X6_isWord 4 s60 (fun r62 s63 => (r62 = 0 → B_X6_readClause_138 Q l1 s63) ∧ (¬ r62 = 0 → wp_X6_readTimes l1 s63 (fun r64 s65 => (¬ r64 = 0 → B_X6_readClause_138 Q l1 s65) ∧ (r64 = 0 → Q 0 s65))))) := h
  refine j_aload_nR hc 0 dX6_readClause_96 rfl rfl ?_
  refine j_getR (c' := 14) hc fl_RX6_18 rfl rfl (fun hv => (sv_k hv hm rfl)) dX6_readClause_97 ?_
  refine j_getR (c' := 18) hc fl_RX6_85 rfl rfl (fun hv => (sv_k hv hm rfl)) dX6_readClause_100 ?_
  refine j_iload_n hc 1 dX6_readClause_103 rfl rfl ?_
  refine j_aload_nR hc 0 dX6_readClause_104 rfl rfl ?_
  refine j_getR (c' := 14) hc fl_RX6_18 rfl rfl (fun hv => (sv_k hv hm rfl)) dX6_readClause_105 ?_
  refine j_getI hc fl_RX6_33 (Or.inl rfl) (fun hv => Or.inl (sv_k hv hm rfl)) dX6_readClause_108 (fun cn58 => ?_)
  obtain ⟨b59, h⟩ := h
  refine j_iast (jn := (Int.toNat l1)) hc (fun hv => sv_kl hv hm rfl) cl1 b59 rfl cn58 dX6_readClause_111 (fun s60 es60 => ?_)
  replace h := h s60 es60
  refine j_aload_nR hc 0 dX6_readClause_112 rfl rfl ?_
  refine j_getI hc fl_RX6_29 (Or.inr rfl) (fun hv => Or.inl (sv_k hv hm rfl)) dX6_readClause_113 (fun cn61 => ?_)
  refine j_if_eq hc cn61 (tgt := 138) dX6_readClause_116 (by decide) (fun q68 => ?_) (fun q68 => ?_)
  · replace h := h.1 q68
    refine j_sub (lv' := [(0, vR E 12), (1, vI l1)]) [0, 1] rfl ?_
    exact jb_X6_readClause_138 hc hm hr hh cl1 h
  · replace h := h.2 q68
    refine j_aload_nR hc 0 dX6_readClause_119 rfl rfl ?_
    refine j_ldcS (k := 4) hc rfl dX6_readClause_120 ?_
    refine j_vI hc (k := 6) (by decide) (fun hv => Or.inl (sv_k hv hm rfl)) ml_RX6_89 mv_X6_isWord (As := [vS E 4]) (c_X6_isWord (cx_E hc) hm  h) rfl (by omega) (by decide) ⟨Nat.zero_le _, Nat.zero_le _⟩ (Nat.le_of_ble_eq_true rfl) rfl dX6_readClause_122 (fun r62 s63 cr62 h => ?_)
    refine j_if_eq hc cr62 (tgt := 138) dX6_readClause_125 (by decide) (fun q67 => ?_) (fun q67 => ?_)
    · replace h := h.1 q67
      refine j_sub (lv' := [(0, vR E 12), (1, vI l1)]) [0, 1] rfl ?_
      exact jb_X6_readClause_138 hc hm hr hh cl1 h
    · replace h := h.2 q67
      refine j_aload_nR hc 0 dX6_readClause_128 rfl rfl ?_
      refine j_iload_n hc 1 dX6_readClause_129 rfl rfl ?_
      refine j_vI hc (k := 6) (by decide) (fun hv => Or.inl (sv_k hv hm rfl)) ml_RX6_93 mv_X6_readTimes (As := [vI l1]) (c_X6_readTimes (cx_E hc) hm cl1 h) rfl (by omega) (by decide) ⟨Nat.zero_le _, Nat.zero_le _⟩ (Nat.le_of_ble_eq_true rfl) rfl dX6_readClause_130 (fun r64 s65 cr64 h => ?_)
      refine j_if_ne hc cr64 (tgt := 138) dX6_readClause_133 (by decide) (fun q66 => ?_) (fun q66 => ?_)
      · replace h := h.1 q66
        refine j_sub (lv' := [(0, vR E 12), (1, vI l1)]) [0, 1] rfl ?_
        exact jb_X6_readClause_138 hc hm hr hh cl1 h
      · replace h := h.2 q66
        refine j_iconst hc dX6_readClause_136 ?_
        exact j_zret hc hr (nar_bool (Or.inl rfl)) (by decide) h dX6_readClause_137
set_option maxRecDepth 20000 in
theorem jb_X6_readClause_82 {X : jj_X} {E : ev_E} {n0 hN : Nat} (hc : Cx X E cX6_readClause 3 n0 hN RX6) (hm : eM E = 1) (hr : (xT X).sig.returnType = (some .boolean)) (hh : 89 ≤ hN) {Q : Int → st_S → Prop} {l1 : Int} {v0 : Int} {v1 : Int} (cl1 : wr l1 = l1) (cv0 : wr v0 = v0) {σ : st_S} (h : B_X6_readClause_82 Q l1 v0 v1 σ) : J X E 3 n0 0 0 (MQ (xB X) (qI E (n0 + 0) Q) (xA X) (xS X) 0 0 (eF E)) σ 82 [(0, vR E 12), (1, vI l1)] [vI v0, vI v1] := by
  have hh1 : 1 ≤ hN := by omega
  replace h : (v0 ≤ wr v1 → B_X6_readClause_96 Q l1 σ) ∧ (¬ v0 ≤ wr v1 → wp_X6_readChain 80 2 0 σ (fun r69 s70 => (¬ r69 = 0 → B_X6_readClause_96 Q l1 s70) ∧ (r69 = 0 → Q 0 s70))) := h
  refine j_ic_ge hc rfl cv0 (tgt := 96) dX6_readClause_82 (by decide) (fun q72 => ?_) (fun q72 => ?_)
  · replace h := h.1 q72
    refine j_sub (lv' := [(0, vR E 12), (1, vI l1)]) [0, 1] rfl ?_
    exact jb_X6_readClause_96 hc hm hr hh cl1 h
  · replace h := h.2 q72
    refine j_aload_nR hc 0 dX6_readClause_85 rfl rfl ?_
    refine j_iconst hc dX6_readClause_86 ?_
    refine j_iconst hc dX6_readClause_87 ?_
    refine j_vI hc (k := 6) (by decide) (fun hv => Or.inl (sv_k hv hm rfl)) ml_RX6_81 mv_X6_readChain (As := [vI 2, vI 0]) (c_X6_readChain (cx_E hc) hm 80 (wlit 2 (by decide)) (wlit 0 (by decide)) h) rfl (by omega) (by decide) ⟨Nat.zero_le _, Nat.zero_le _⟩ (Nat.le_of_ble_eq_true rfl) rfl dX6_readClause_88 (fun r69 s70 cr69 h => ?_)
    refine j_if_ne hc cr69 (tgt := 96) dX6_readClause_91 (by decide) (fun q71 => ?_) (fun q71 => ?_)
    · replace h := h.1 q71
      refine j_sub (lv' := [(0, vR E 12), (1, vI l1)]) [0, 1] rfl ?_
      exact jb_X6_readClause_96 hc hm hr hh cl1 h
    · replace h := h.2 q71
      refine j_iconst hc dX6_readClause_94 ?_
      exact j_zret hc hr (nar_bool (Or.inl rfl)) (by decide) h dX6_readClause_95
set_option maxRecDepth 20000 in
theorem jb_X6_readClause_15 {X : jj_X} {E : ev_E} {n0 hN : Nat} (hc : Cx X E cX6_readClause 3 n0 hN RX6) (hm : eM E = 1) (hr : (xT X).sig.returnType = (some .boolean)) (hh : 89 ≤ hN) {Q : Int → st_S → Prop} {l1 : Int} {v0 : Nat} (cl1 : wr l1 = l1) {σ : st_S} (h : B_X6_readClause_15 Q l1 v0 σ) : J X E 3 n0 0 0 (MQ (xB X) (qI E (n0 + 0) Q) (xA X) (xS X) 0 0 (eF E)) σ 15 [(0, vR E 12), (1, vI l1)] [vS E v0, vR E 12] := by
  have hh1 : 1 ≤ hN := by omega
  replace h : wp_X6_place v0 σ (fun r73 s74 => (¬ r73 = (-1) → wp_X6_advance s74 (fun s76 => ix l1 12 ∧ ∀ s78 : st_S, s78 = sI s76 16 (Int.toNat l1) r73 → ix l1 12 ∧ ∀ s80 : st_S, s80 = sI s78 20 (Int.toNat l1) 1 → ix l1 12 ∧ ∀ s83 : st_S, s83 = sI s80 17 (Int.toNat l1) (gI s80 14 6) → (gI s83 12 4 = 0 → B_X6_readClause_82 Q l1 4 r73 s83) ∧ (¬ gI s83 12 4 = 0 → B_X6_readClause_82 Q l1 2 r73 s83))) ∧ (r73 = (-1) → wp_X6_fail s74 (fun r86 s87 => (r86 = 0 ∨ r86 = 1) ∧ Q r86 s87))) := h
  refine j_vI hc (k := 6) (by decide) (fun hv => Or.inl (sv_k hv hm rfl)) ml_RX6_68 mv_X6_place (As := [vS E v0]) (c_X6_place (cx_E hc) hm  h) rfl (by omega) (by decide) ⟨Nat.zero_le _, Nat.zero_le _⟩ (Nat.le_of_ble_eq_true rfl) rfl dX6_readClause_15 (fun r73 s74 cr73 h => ?_)
  refine j_istore_n (lv' := [(2, vI r73), (0, vR E 12), (1, vI l1)]) hc dX6_readClause_18 rfl (by decide) rfl ?_
  refine j_iload_n hc 0 dX6_readClause_19 rfl rfl ?_
  refine j_iconst hc dX6_readClause_20 ?_
  refine j_ic_ne hc cr73 (wlit (-1) (by decide)) (tgt := 29) dX6_readClause_21 (by decide) (fun q88 => ?_) (fun q88 => ?_)
  · replace h := h.1 q88
    refine j_aload_nR hc 1 dX6_readClause_29 rfl rfl ?_
    refine j_vV hc (k := 6) (by decide) (fun hv => Or.inl (sv_k hv hm rfl)) ml_RX6_43 mv_X6_advance (As := []) (c_X6_advance (cx_E hc) hm  h) rfl (by omega) (by decide) ⟨Nat.zero_le _, Nat.zero_le _⟩ (Nat.le_of_ble_eq_true rfl) rfl dX6_readClause_30 (fun s76 h => ?_)
    refine j_aload_nR hc 1 dX6_readClause_33 rfl rfl ?_
    refine j_getR (c' := 14) hc fl_RX6_18 rfl rfl (fun hv => (sv_k hv hm rfl)) dX6_readClause_34 ?_
    refine j_getR (c' := 16) hc fl_RX6_72 rfl rfl (fun hv => (sv_k hv hm rfl)) dX6_readClause_37 ?_
    refine j_iload_n hc 2 dX6_readClause_40 rfl rfl ?_
    refine j_iload_n hc 0 dX6_readClause_41 rfl rfl ?_
    obtain ⟨b77, h⟩ := h
    refine j_iast (jn := (Int.toNat l1)) hc (fun hv => sv_kl hv hm rfl) cl1 b77 rfl cr73 dX6_readClause_42 (fun s78 es78 => ?_)
    replace h := h s78 es78
    refine j_aload_nR hc 1 dX6_readClause_43 rfl rfl ?_
    refine j_getR (c' := 14) hc fl_RX6_18 rfl rfl (fun hv => (sv_k hv hm rfl)) dX6_readClause_44 ?_
    refine j_getR (c' := 20) hc fl_RX6_75 rfl rfl (fun hv => (sv_k hv hm rfl)) dX6_readClause_47 ?_
    refine j_iload_n hc 2 dX6_readClause_50 rfl rfl ?_
    refine j_iconst hc dX6_readClause_51 ?_
    obtain ⟨b79, h⟩ := h
    refine j_iast (jn := (Int.toNat l1)) hc (fun hv => sv_kl hv hm rfl) cl1 b79 rfl (wlit 1 (by decide)) dX6_readClause_52 (fun s80 es80 => ?_)
    replace h := h s80 es80
    refine j_aload_nR hc 1 dX6_readClause_53 rfl rfl ?_
    refine j_getR (c' := 14) hc fl_RX6_18 rfl rfl (fun hv => (sv_k hv hm rfl)) dX6_readClause_54 ?_
    refine j_getR (c' := 17) hc fl_RX6_78 rfl rfl (fun hv => (sv_k hv hm rfl)) dX6_readClause_57 ?_
    refine j_iload_n hc 2 dX6_readClause_60 rfl rfl ?_
    refine j_aload_nR hc 1 dX6_readClause_61 rfl rfl ?_
    refine j_getR (c' := 14) hc fl_RX6_18 rfl rfl (fun hv => (sv_k hv hm rfl)) dX6_readClause_62 ?_
    refine j_getI hc fl_RX6_33 (Or.inl rfl) (fun hv => Or.inl (sv_k hv hm rfl)) dX6_readClause_65 (fun cn81 => ?_)
    obtain ⟨b82, h⟩ := h
    refine j_iast (jn := (Int.toNat l1)) hc (fun hv => sv_kl hv hm rfl) cl1 b82 rfl cn81 dX6_readClause_68 (fun s83 es83 => ?_)
    replace h := h s83 es83
    refine j_iload_n hc 0 dX6_readClause_69 rfl rfl ?_
    refine j_aload_nR hc 1 dX6_readClause_70 rfl rfl ?_
    refine j_getI hc fl_RX6_29 (Or.inr rfl) (fun hv => Or.inl (sv_k hv hm rfl)) dX6_readClause_71 (fun cn84 => ?_)
    refine j_if_eq hc cn84 (tgt := 81) dX6_readClause_74 (by decide) (fun q85 => ?_) (fun q85 => ?_)
    · replace h := h.1 q85
      refine j_iconst hc dX6_readClause_81 ?_
      refine j_sub (lv' := [(0, vR E 12), (1, vI l1)]) [1, 2] rfl ?_
      exact jb_X6_readClause_82 hc hm hr hh cl1 (wlit 4 (by decide)) h
    · replace h := h.2 q85
      refine j_iconst hc dX6_readClause_77 ?_
      refine j_goto (tgt := 82) hc dX6_readClause_78 (by decide) ?_
      refine j_sub (lv' := [(0, vR E 12), (1, vI l1)]) [1, 2] rfl ?_
      exact jb_X6_readClause_82 hc hm hr hh cl1 (wlit 2 (by decide)) h
  · replace h := h.2 q88
    refine j_aload_nR hc 1 dX6_readClause_24 rfl rfl ?_
    refine j_vI hc (k := 6) (by decide) (fun hv => Or.inl (sv_k hv hm rfl)) ml_RX6_57 mv_X6_fail (As := []) (c_X6_fail (cx_E hc) hm  h) rfl (by omega) (by decide) ⟨Nat.zero_le _, Nat.zero_le _⟩ (Nat.le_of_ble_eq_true rfl) rfl dX6_readClause_25 (fun r86 s87 cr86 h => ?_)
    exact j_zret hc hr (nar_bool h.1) (by rcases h.1 with e | e <;> (rw [e]; decide)) h.2 dX6_readClause_28
set_option maxRecDepth 20000 in
theorem c_X6_readClause {l : Launch} {E : ev_E} (hE : Eok E) (hm : eM E = 1) {a1 : Int} (ca1 : wr a1 = a1) {σ : st_S} {Q : Int → st_S → Prop} (h : wp_X6_readClause a1 σ Q) : cM l yX6_readClause cX6_readClause 3 (some .boolean) E 89 0 0 [vR E 12, vI a1] σ (qI E (gN σ + 0) Q) := by
  refine cM_of (lv := [(0, vR E 12), (1, vI a1)]) (by decide) hE (Nat.le_of_ble_eq_true rfl) (rfl) ?_
  intro X hX hc _ _ hr _ _
  subst hX
  have hh : 89 ≤ 89 := Nat.le_refl _
  have hh1 : 1 ≤ 89 := by omega
  replace h : (gI σ 12 4 = 0 → B_X6_readClause_15 Q a1 0 σ) ∧ (¬ gI σ 12 4 = 0 → B_X6_readClause_15 Q a1 2 σ) := h
  refine j_aload_nR hc 0 dX6_readClause_0 rfl rfl ?_
  refine j_aload_nR hc 0 dX6_readClause_1 rfl rfl ?_
  refine j_getI hc fl_RX6_29 (Or.inr rfl) (fun hv => Or.inl (sv_k hv hm rfl)) dX6_readClause_2 (fun cn89 => ?_)
  refine j_if_eq hc cn89 (tgt := 13) dX6_readClause_5 (by decide) (fun q90 => ?_) (fun q90 => ?_)
  · replace h := h.1 q90
    refine j_ldcS (k := 0) hc rfl dX6_readClause_13 ?_
    refine j_sub (lv' := [(0, vR E 12), (1, vI a1)]) [0, 1] rfl ?_
    exact jb_X6_readClause_15 hc hm hr hh ca1 h
  · replace h := h.2 q90
    refine j_ldcS (k := 2) hc rfl dX6_readClause_8 ?_
    refine j_goto (tgt := 15) hc dX6_readClause_10 (by decide) ?_
    refine j_sub (lv' := [(0, vR E 12), (1, vI a1)]) [0, 1] rfl ?_
    exact jb_X6_readClause_15 hc hm hr hh ca1 h
-- LitStrangers$Reader.read(Z)Z
theorem dX6_read_0 : decode cX6_read 0 = .ok (.aload_n 0, 1) := by decide +kernel
theorem dX6_read_1 : decode cX6_read 1 = .ok (.iload_n 1, 1) := by decide +kernel
theorem dX6_read_2 : decode cX6_read 2 = .ok (.putfield 29, 3) := by decide +kernel
theorem dX6_read_5 : decode cX6_read 5 = .ok (.aload_n 0, 1) := by decide +kernel
theorem dX6_read_6 : decode cX6_read 6 = .ok (.iconst (-1), 1) := by decide +kernel
theorem dX6_read_7 : decode cX6_read 7 = .ok (.putfield 22, 3) := by decide +kernel
theorem dX6_read_10 : decode cX6_read 10 = .ok (.aload_n 0, 1) := by decide +kernel
theorem dX6_read_11 : decode cX6_read 11 = .ok (.getfield 18, 3) := by decide +kernel
theorem dX6_read_14 : decode cX6_read 14 = .ok (.iconst 0, 1) := by decide +kernel
theorem dX6_read_15 : decode cX6_read 15 = .ok (.putfield 33, 3) := by decide +kernel
theorem dX6_read_18 : decode cX6_read 18 = .ok (.aload_n 0, 1) := by decide +kernel
theorem dX6_read_19 : decode cX6_read 19 = .ok (.getfield 18, 3) := by decide +kernel
theorem dX6_read_22 : decode cX6_read 22 = .ok (.iconst 0, 1) := by decide +kernel
theorem dX6_read_23 : decode cX6_read 23 = .ok (.putfield 34, 3) := by decide +kernel
theorem dX6_read_26 : decode cX6_read 26 = .ok (.aload_n 0, 1) := by decide +kernel
theorem dX6_read_27 : decode cX6_read 27 = .ok (.iconst 0, 1) := by decide +kernel
theorem dX6_read_28 : decode cX6_read 28 = .ok (.putfield 37, 3) := by decide +kernel
theorem dX6_read_31 : decode cX6_read 31 = .ok (.aload_n 0, 1) := by decide +kernel
theorem dX6_read_32 : decode cX6_read 32 = .ok (.iconst 0, 1) := by decide +kernel
theorem dX6_read_33 : decode cX6_read 33 = .ok (.putfield 40, 3) := by decide +kernel
theorem dX6_read_36 : decode cX6_read 36 = .ok (.aload_n 0, 1) := by decide +kernel
theorem dX6_read_37 : decode cX6_read 37 = .ok (.invokevirtual 43, 3) := by decide +kernel
theorem dX6_read_40 : decode cX6_read 40 = .ok (.iconst 0, 1) := by decide +kernel
theorem dX6_read_41 : decode cX6_read 41 = .ok (.istore_n 2, 1) := by decide +kernel
theorem dX6_read_42 : decode cX6_read 42 = .ok (.iload_n 2, 1) := by decide +kernel
theorem dX6_read_43 : decode cX6_read 43 = .ok (.bipush 12, 2) := by decide +kernel
theorem dX6_read_45 : decode cX6_read 45 = .ok (.if_icmp .ge 46, 3) := by decide +kernel
theorem dX6_read_48 : decode cX6_read 48 = .ok (.aload_n 0, 1) := by decide +kernel
theorem dX6_read_49 : decode cX6_read 49 = .ok (.iload_n 2, 1) := by decide +kernel
theorem dX6_read_50 : decode cX6_read 50 = .ok (.invokevirtual 46, 3) := by decide +kernel
theorem dX6_read_53 : decode cX6_read 53 = .ok (.ifCond .ne 5, 3) := by decide +kernel
theorem dX6_read_56 : decode cX6_read 56 = .ok (.iconst 0, 1) := by decide +kernel
theorem dX6_read_57 : decode cX6_read 57 = .ok (.ireturn, 1) := by decide +kernel
theorem dX6_read_58 : decode cX6_read 58 = .ok (.aload_n 0, 1) := by decide +kernel
theorem dX6_read_59 : decode cX6_read 59 = .ok (.getfield 50, 3) := by decide +kernel
theorem dX6_read_62 : decode cX6_read 62 = .ok (.ifCond .ne 5, 3) := by decide +kernel
theorem dX6_read_65 : decode cX6_read 65 = .ok (.iconst 1, 1) := by decide +kernel
theorem dX6_read_66 : decode cX6_read 66 = .ok (.ireturn, 1) := by decide +kernel
theorem dX6_read_67 : decode cX6_read 67 = .ok (.aload_n 0, 1) := by decide +kernel
theorem dX6_read_68 : decode cX6_read 68 = .ok (.bipush 59, 2) := by decide +kernel
theorem dX6_read_70 : decode cX6_read 70 = .ok (.invokevirtual 53, 3) := by decide +kernel
theorem dX6_read_73 : decode cX6_read 73 = .ok (.ifCond .ne 8, 3) := by decide +kernel
theorem dX6_read_76 : decode cX6_read 76 = .ok (.aload_n 0, 1) := by decide +kernel
theorem dX6_read_77 : decode cX6_read 77 = .ok (.invokevirtual 57, 3) := by decide +kernel
theorem dX6_read_80 : decode cX6_read 80 = .ok (.ireturn, 1) := by decide +kernel
theorem dX6_read_81 : decode cX6_read 81 = .ok (.aload_n 0, 1) := by decide +kernel
theorem dX6_read_82 : decode cX6_read 82 = .ok (.invokevirtual 43, 3) := by decide +kernel
theorem dX6_read_85 : decode cX6_read 85 = .ok (.iinc 2 1, 3) := by decide +kernel
theorem dX6_read_88 : decode cX6_read 88 = .ok (.goto (-46), 3) := by decide +kernel
theorem dX6_read_91 : decode cX6_read 91 = .ok (.aload_n 0, 1) := by decide +kernel
theorem dX6_read_92 : decode cX6_read 92 = .ok (.invokevirtual 57, 3) := by decide +kernel
theorem dX6_read_95 : decode cX6_read 95 = .ok (.ireturn, 1) := by decide +kernel
def L_X6_read_42 (Q : Int → st_S → Prop)   : Nat → Int → st_S → Prop
  | 0 => fun _ _ => False
  | n + 1 => fun l2 σ => (12 ≤ l2 → wp_X6_fail σ (fun r29 s30 => (r29 = 0 ∨ r29 = 1) ∧ Q r29 s30)) ∧ (¬ 12 ≤ l2 → wp_X6_readClause l2 σ (fun r31 s32 => (¬ r31 = 0 → (¬ gI s32 12 5 = 0 → wp_X6_isSign 59 s32 (fun r34 s35 => (¬ r34 = 0 → wp_X6_advance s35 (fun s37 => ∀ x38 : Int, x38 = wr (l2 + 1) → (L_X6_read_42 Q n) x38 s37)) ∧ (r34 = 0 → wp_X6_fail s35 (fun r39 s40 => (r39 = 0 ∨ r39 = 1) ∧ Q r39 s40)))) ∧ (gI s32 12 5 = 0 → Q 1 s32)) ∧ (r31 = 0 → Q 0 s32)))
def wp_X6_read (a1 : Int) (σ : st_S) (Q : Int → st_S → Prop) : Prop := (a1 = 0 ∨ a1 = 1) ∧ ∀ s45 : st_S, s45 = sI σ 12 4 a1 → ∀ s47 : st_S, s47 = sI s45 12 3 (-1) → ∀ s48 : st_S, s48 = sI s47 14 6 0 → ∀ s49 : st_S, s49 = sI s48 14 7 0 → ∀ s50 : st_S, s50 = sI s49 12 9 0 → ∀ s51 : st_S, s51 = sI s50 12 7 0 → wp_X6_advance s51 (fun s53 => ∃ m42 : Nat, L_X6_read_42 Q m42 0 s53)
set_option maxRecDepth 20000 in
theorem jl_X6_read_42 {X : jj_X} {E : ev_E} {n0 hN : Nat} (hc : Cx X E cX6_read 3 n0 hN RX6) (hm : eM E = 1) (hr : (xT X).sig.returnType = (some .boolean)) (hh : 90 ≤ hN) {Q : Int → st_S → Prop} : ∀ (n : Nat) {l2 : Int} (cl2 : wr l2 = l2) {σ : st_S}, L_X6_read_42 Q n l2 σ → J X E 3 n0 0 0 (MQ (xB X) (qI E (n0 + 0) Q) (xA X) (xS X) 0 0 (eF E)) σ 42 [(0, vR E 12), (2, vI l2)] [] := by
  have hh1 : 1 ≤ hN := by omega
  intro n
  induction n with
  | zero => intro l2 cl2 σ h; exact h.elim
  | succ n ih =>
    intro l2 cl2 σ h
    have hk42 : ∀ {l2 : Int} (cl2 : wr l2 = l2) {σ : st_S}, L_X6_read_42 Q n l2 σ → J X E 3 n0 0 0 (MQ (xB X) (qI E (n0 + 0) Q) (xA X) (xS X) 0 0 (eF E)) σ 42 [(0, vR E 12), (2, vI l2)] [] := ih
    replace h : (12 ≤ l2 → wp_X6_fail σ (fun r29 s30 => (r29 = 0 ∨ r29 = 1) ∧ Q r29 s30)) ∧ (¬ 12 ≤ l2 → wp_X6_readClause l2 σ (fun r31 s32 => (¬ r31 = 0 → (¬ gI s32 12 5 = 0 → wp_X6_isSign 59 s32 (fun r34 s35 => (¬ r34 = 0 → wp_X6_advance s35 (fun s37 => ∀ x38 : Int, x38 = wr (l2 + 1) → (L_X6_read_42 Q n) x38 s37)) ∧ (r34 = 0 → wp_X6_fail s35 (fun r39 s40 => (r39 = 0 ∨ r39 = 1) ∧ Q r39 s40)))) ∧ (gI s32 12 5 = 0 → Q 1 s32)) ∧ (r31 = 0 → Q 0 s32))) := h
    refine j_iload_n hc 1 dX6_read_42 rfl rfl ?_
    refine j_bipush hc dX6_read_43 (by decide) ?_
    refine j_ic_ge hc cl2 (wlit 12 (by decide)) (tgt := 91) dX6_read_45 (by decide) (fun q44 => ?_) (fun q44 => ?_)
    · replace h := h.1 q44
      refine j_aload_nR hc 0 dX6_read_91 rfl rfl ?_
      refine j_vI hc (k := 6) (by decide) (fun hv => Or.inl (sv_k hv hm rfl)) ml_RX6_57 mv_X6_fail (As := []) (c_X6_fail (cx_E hc) hm  h) rfl (by omega) (by decide) ⟨Nat.zero_le _, Nat.zero_le _⟩ (Nat.le_of_ble_eq_true rfl) rfl dX6_read_92 (fun r29 s30 cr29 h => ?_)
      exact j_zret hc hr (nar_bool h.1) (by rcases h.1 with e | e <;> (rw [e]; decide)) h.2 dX6_read_95
    · replace h := h.2 q44
      refine j_aload_nR hc 0 dX6_read_48 rfl rfl ?_
      refine j_iload_n hc 1 dX6_read_49 rfl rfl ?_
      refine j_vI hc (k := 6) (by decide) (fun hv => Or.inl (sv_k hv hm rfl)) ml_RX6_46 mv_X6_readClause (As := [vI l2]) (c_X6_readClause (cx_E hc) hm cl2 h) rfl (by omega) (by decide) ⟨Nat.zero_le _, Nat.zero_le _⟩ (Nat.le_of_ble_eq_true rfl) rfl dX6_read_50 (fun r31 s32 cr31 h => ?_)
      refine j_if_ne hc cr31 (tgt := 58) dX6_read_53 (by decide) (fun q43 => ?_) (fun q43 => ?_)
      · replace h := h.1 q43
        refine j_aload_nR hc 0 dX6_read_58 rfl rfl ?_
        refine j_getI hc fl_RX6_50 (Or.inl rfl) (fun hv => Or.inl (sv_k hv hm rfl)) dX6_read_59 (fun cn33 => ?_)
        refine j_if_ne hc cn33 (tgt := 67) dX6_read_62 (by decide) (fun q42 => ?_) (fun q42 => ?_)
        · replace h := h.1 q42
          refine j_aload_nR hc 0 dX6_read_67 rfl rfl ?_
          refine j_bipush hc dX6_read_68 (by decide) ?_
          refine j_vI hc (k := 6) (by decide) (fun hv => Or.inl (sv_k hv hm rfl)) ml_RX6_53 mv_X6_isSign (As := [vI 59]) (c_X6_isSign (cx_E hc) hm (wlit 59 (by decide)) h) rfl (by omega) (by decide) ⟨Nat.zero_le _, Nat.zero_le _⟩ (Nat.le_of_ble_eq_true rfl) rfl dX6_read_70 (fun r34 s35 cr34 h => ?_)
          refine j_if_ne hc cr34 (tgt := 81) dX6_read_73 (by decide) (fun q41 => ?_) (fun q41 => ?_)
          · replace h := h.1 q41
            refine j_aload_nR hc 0 dX6_read_81 rfl rfl ?_
            refine j_vV hc (k := 6) (by decide) (fun hv => Or.inl (sv_k hv hm rfl)) ml_RX6_43 mv_X6_advance (As := []) (c_X6_advance (cx_E hc) hm  h) rfl (by omega) (by decide) ⟨Nat.zero_le _, Nat.zero_le _⟩ (Nat.le_of_ble_eq_true rfl) rfl dX6_read_82 (fun s37 h => ?_)
            obtain ⟨x38, ex38⟩ : ∃ y : Int, y = wr (l2 + 1) := ⟨_, rfl⟩
            have cx38 : wr x38 = x38 := by rw [ex38]; exact wr_wr _
            replace h := h x38 ex38
            refine j_iinc (lv' := [(2, vI x38), (0, vR E 12)]) hc 1 dX6_read_85 rfl (by decide) ex38 rfl ?_
            refine j_goto (tgt := 42) hc dX6_read_88 (by decide) ?_
            refine j_sub (lv' := [(0, vR E 12), (2, vI x38)]) [1, 0] rfl ?_
            exact hk42 cx38 h
          · replace h := h.2 q41
            refine j_aload_nR hc 0 dX6_read_76 rfl rfl ?_
            refine j_vI hc (k := 6) (by decide) (fun hv => Or.inl (sv_k hv hm rfl)) ml_RX6_57 mv_X6_fail (As := []) (c_X6_fail (cx_E hc) hm  h) rfl (by omega) (by decide) ⟨Nat.zero_le _, Nat.zero_le _⟩ (Nat.le_of_ble_eq_true rfl) rfl dX6_read_77 (fun r39 s40 cr39 h => ?_)
            exact j_zret hc hr (nar_bool h.1) (by rcases h.1 with e | e <;> (rw [e]; decide)) h.2 dX6_read_80
        · replace h := h.2 q42
          refine j_iconst hc dX6_read_65 ?_
          exact j_zret hc hr (nar_bool (Or.inr rfl)) (by decide) h dX6_read_66
      · replace h := h.2 q43
        refine j_iconst hc dX6_read_56 ?_
        exact j_zret hc hr (nar_bool (Or.inl rfl)) (by decide) h dX6_read_57
set_option maxRecDepth 20000 in
theorem c_X6_read {l : Launch} {E : ev_E} (hE : Eok E) (hm : eM E = 1) {a1 : Int} (ca1 : wr a1 = a1) {σ : st_S} {Q : Int → st_S → Prop} (h : wp_X6_read a1 σ Q) : cM l yX6_read cX6_read 3 (some .boolean) E 90 0 0 [vR E 12, vI a1] σ (qI E (gN σ + 0) Q) := by
  refine cM_of (lv := [(0, vR E 12), (1, vI a1)]) (by decide) hE (Nat.le_of_ble_eq_true rfl) (rfl) ?_
  intro X hX hc _ _ hr _ _
  subst hX
  have hh : 90 ≤ 90 := Nat.le_refl _
  have hh1 : 1 ≤ 90 := by omega
  replace h : (a1 = 0 ∨ a1 = 1) ∧ ∀ s45 : st_S, s45 = sI σ 12 4 a1 → ∀ s47 : st_S, s47 = sI s45 12 3 (-1) → ∀ s48 : st_S, s48 = sI s47 14 6 0 → ∀ s49 : st_S, s49 = sI s48 14 7 0 → ∀ s50 : st_S, s50 = sI s49 12 9 0 → ∀ s51 : st_S, s51 = sI s50 12 7 0 → wp_X6_advance s51 (fun s53 => ∃ m42 : Nat, L_X6_read_42 Q m42 0 s53) := h
  refine j_aload_nR hc 0 dX6_read_0 rfl rfl ?_
  refine j_iload_n hc 1 dX6_read_1 rfl rfl ?_
  obtain ⟨z46, h⟩ := h
  refine j_putZ hc fl_RX6_29 rfl rfl (fun hv => Or.inl (sv_k hv hm rfl)) z46 dX6_read_2 (fun s45 es45 => ?_)
  replace h := h s45 es45
  refine j_aload_nR hc 0 dX6_read_5 rfl rfl ?_
  refine j_iconst hc dX6_read_6 ?_
  refine j_putI hc fl_RX6_22 rfl rfl (fun hv => Or.inl (sv_k hv hm rfl)) (wlit (-1) (by decide)) dX6_read_7 (fun s47 es47 => ?_)
  replace h := h s47 es47
  refine j_aload_nR hc 0 dX6_read_10 rfl rfl ?_
  refine j_getR (c' := 14) hc fl_RX6_18 rfl rfl (fun hv => (sv_k hv hm rfl)) dX6_read_11 ?_
  refine j_iconst hc dX6_read_14 ?_
  refine j_putI hc fl_RX6_33 rfl rfl (fun hv => Or.inl (sv_k hv hm rfl)) (wlit 0 (by decide)) dX6_read_15 (fun s48 es48 => ?_)
  replace h := h s48 es48
  refine j_aload_nR hc 0 dX6_read_18 rfl rfl ?_
  refine j_getR (c' := 14) hc fl_RX6_18 rfl rfl (fun hv => (sv_k hv hm rfl)) dX6_read_19 ?_
  refine j_iconst hc dX6_read_22 ?_
  refine j_putI hc fl_RX6_34 rfl rfl (fun hv => Or.inl (sv_k hv hm rfl)) (wlit 0 (by decide)) dX6_read_23 (fun s49 es49 => ?_)
  replace h := h s49 es49
  refine j_aload_nR hc 0 dX6_read_26 rfl rfl ?_
  refine j_iconst hc dX6_read_27 ?_
  refine j_putI hc fl_RX6_37 rfl rfl (fun hv => Or.inl (sv_k hv hm rfl)) (wlit 0 (by decide)) dX6_read_28 (fun s50 es50 => ?_)
  replace h := h s50 es50
  refine j_aload_nR hc 0 dX6_read_31 rfl rfl ?_
  refine j_iconst hc dX6_read_32 ?_
  refine j_putI hc fl_RX6_40 rfl rfl (fun hv => Or.inl (sv_k hv hm rfl)) (wlit 0 (by decide)) dX6_read_33 (fun s51 es51 => ?_)
  replace h := h s51 es51
  refine j_aload_nR hc 0 dX6_read_36 rfl rfl ?_
  refine j_vV hc (k := 6) (by decide) (fun hv => Or.inl (sv_k hv hm rfl)) ml_RX6_43 mv_X6_advance (As := []) (c_X6_advance (cx_E hc) hm  h) rfl (by omega) (by decide) ⟨Nat.zero_le _, Nat.zero_le _⟩ (Nat.le_of_ble_eq_true rfl) rfl dX6_read_37 (fun s53 h => ?_)
  refine j_iconst hc dX6_read_40 ?_
  refine j_istore_n (lv' := [(2, vI 0), (0, vR E 12), (1, vI a1)]) hc dX6_read_41 rfl (by decide) rfl ?_
  obtain ⟨n42, h⟩ := h
  refine j_sub (lv' := [(0, vR E 12), (2, vI 0)]) [1, 0] rfl ?_
  exact jl_X6_read_42 hc hm hr hh n42 (wlit 0 (by decide)) h
