-- LitStrangersModel.lies(III)Z
theorem dX11_lies_0 : decode cX11_lies 0 = .ok (.iload_n 0, 1) := by decide +kernel
theorem dX11_lies_1 : decode cX11_lies 1 = .ok (.iload_n 1, 1) := by decide +kernel
theorem dX11_lies_2 : decode cX11_lies 2 = .ok (.if_icmp .lt 12, 3) := by decide +kernel
theorem dX11_lies_5 : decode cX11_lies 5 = .ok (.iload_n 0, 1) := by decide +kernel
theorem dX11_lies_6 : decode cX11_lies 6 = .ok (.iload_n 2, 1) := by decide +kernel
theorem dX11_lies_7 : decode cX11_lies 7 = .ok (.if_icmp .gt 7, 3) := by decide +kernel
theorem dX11_lies_10 : decode cX11_lies 10 = .ok (.iconst 1, 1) := by decide +kernel
theorem dX11_lies_11 : decode cX11_lies 11 = .ok (.goto 4, 3) := by decide +kernel
theorem dX11_lies_14 : decode cX11_lies 14 = .ok (.iconst 0, 1) := by decide +kernel
theorem dX11_lies_15 : decode cX11_lies 15 = .ok (.ireturn, 1) := by decide +kernel
def B_X11_lies_15 (Q : Int → st_S → Prop)   (v0 : Int) (σ : st_S) : Prop := (v0 = 0 ∨ v0 = 1) ∧ Q v0 σ
def B_X11_lies_14 (Q : Int → st_S → Prop)    (σ : st_S) : Prop := B_X11_lies_15 Q 0 σ
def wp_X11_lies (a1 : Int) (a2 : Int) (a3 : Int) (σ : st_S) (Q : Int → st_S → Prop) : Prop := (a1 < a2 → B_X11_lies_14 Q σ) ∧ (¬ a1 < a2 → (a3 < a1 → B_X11_lies_14 Q σ) ∧ (¬ a3 < a1 → B_X11_lies_15 Q 1 σ))
set_option maxRecDepth 20000 in
theorem jb_X11_lies_15 {X : jj_X} {E : ev_E} {n0 hN : Nat} (hc : Cx X E cX11_lies 3 n0 hN RX11) (hm : eM E = 2) (hr : (xT X).sig.returnType = (some .boolean)) (hh : 1 ≤ hN) {Q : Int → st_S → Prop} {v0 : Int} (cv0 : wr v0 = v0) {σ : st_S} (h : B_X11_lies_15 Q v0 σ) : J X E 3 n0 0 0 (MQ (xB X) (qI E (n0 + 0) Q) (xA X) (xS X) 0 0 (eF E)) σ 15 [] [vI v0] := by
  have hh1 : 1 ≤ hN := by omega
  replace h : (v0 = 0 ∨ v0 = 1) ∧ Q v0 σ := h
  exact j_zret hc hr (nar_bool h.1) (by rcases h.1 with e | e <;> (rw [e]; decide)) h.2 dX11_lies_15
set_option maxRecDepth 20000 in
theorem jb_X11_lies_14 {X : jj_X} {E : ev_E} {n0 hN : Nat} (hc : Cx X E cX11_lies 3 n0 hN RX11) (hm : eM E = 2) (hr : (xT X).sig.returnType = (some .boolean)) (hh : 1 ≤ hN) {Q : Int → st_S → Prop} {σ : st_S} (h : B_X11_lies_14 Q σ) : J X E 3 n0 0 0 (MQ (xB X) (qI E (n0 + 0) Q) (xA X) (xS X) 0 0 (eF E)) σ 14 [] [] := by
  have hh1 : 1 ≤ hN := by omega
  replace h : B_X11_lies_15 Q 0 σ := h
  refine j_iconst hc dX11_lies_14 ?_
  refine j_sub (lv' := []) [] rfl ?_
  exact jb_X11_lies_15 hc hm hr hh (wlit 0 (by decide)) h
set_option maxRecDepth 20000 in
theorem c_X11_lies {l : Launch} {E : ev_E} (hE : Eok E) (hm : eM E = 2) {a1 : Int} {a2 : Int} {a3 : Int} (ca1 : wr a1 = a1) (ca2 : wr a2 = a2) (ca3 : wr a3 = a3) {σ : st_S} {Q : Int → st_S → Prop} (h : wp_X11_lies a1 a2 a3 σ Q) : cM l yX11_lies cX11_lies 3 (some .boolean) E 1 0 0 [vI a1, vI a2, vI a3] σ (qI E (gN σ + 0) Q) := by
  refine cM_of (lv := [(0, vI a1), (1, vI a2), (2, vI a3)]) (by decide) hE (Nat.le_of_ble_eq_true rfl) (rfl) ?_
  intro X hX hc _ _ hr _ _
  subst hX
  have hh : 1 ≤ 1 := Nat.le_refl _
  have hh1 : 1 ≤ 1 := by omega
  replace h : (a1 < a2 → B_X11_lies_14 Q σ) ∧ (¬ a1 < a2 → (a3 < a1 → B_X11_lies_14 Q σ) ∧ (¬ a3 < a1 → B_X11_lies_15 Q 1 σ)) := h
  refine j_iload_n hc 0 dX11_lies_0 rfl rfl ?_
  refine j_iload_n hc 1 dX11_lies_1 rfl rfl ?_
  refine j_ic_lt hc ca1 ca2 (tgt := 14) dX11_lies_2 (by decide) (fun q2 => ?_) (fun q2 => ?_)
  · replace h := h.1 q2
    refine j_sub (lv' := []) [] rfl ?_
    exact jb_X11_lies_14 hc hm hr hh h
  · replace h := h.2 q2
    refine j_iload_n hc 0 dX11_lies_5 rfl rfl ?_
    refine j_iload_n hc 2 dX11_lies_6 rfl rfl ?_
    refine j_ic_gt hc ca1 ca3 (tgt := 14) dX11_lies_7 (by decide) (fun q1 => ?_) (fun q1 => ?_)
    · replace h := h.1 q1
      refine j_sub (lv' := []) [] rfl ?_
      exact jb_X11_lies_14 hc hm hr hh h
    · replace h := h.2 q1
      refine j_iconst hc dX11_lies_10 ?_
      refine j_goto (tgt := 15) hc dX11_lies_11 (by decide) ?_
      refine j_sub (lv' := []) [] rfl ?_
      exact jb_X11_lies_15 hc hm hr hh (wlit 1 (by decide)) h
-- LitStrangersModel.refuses(I)I
theorem dX11_refuses_0 : decode cX11_refuses 0 = .ok (.aload_n 0, 1) := by decide +kernel
theorem dX11_refuses_1 : decode cX11_refuses 1 = .ok (.iload_n 1, 1) := by decide +kernel
theorem dX11_refuses_2 : decode cX11_refuses 2 = .ok (.putfield 3, 3) := by decide +kernel
theorem dX11_refuses_5 : decode cX11_refuses 5 = .ok (.aload_n 0, 1) := by decide +kernel
theorem dX11_refuses_6 : decode cX11_refuses 6 = .ok (.getfield 7, 3) := by decide +kernel
theorem dX11_refuses_9 : decode cX11_refuses 9 = .ok (.iload_n 1, 1) := by decide +kernel
theorem dX11_refuses_10 : decode cX11_refuses 10 = .ok (.ineg, 1) := by decide +kernel
theorem dX11_refuses_11 : decode cX11_refuses 11 = .ok (.dup2, 1) := by decide +kernel
theorem dX11_refuses_12 : decode cX11_refuses 12 = .ok (.iaload, 1) := by decide +kernel
theorem dX11_refuses_13 : decode cX11_refuses 13 = .ok (.iconst 1, 1) := by decide +kernel
theorem dX11_refuses_14 : decode cX11_refuses 14 = .ok (.iadd, 1) := by decide +kernel
theorem dX11_refuses_15 : decode cX11_refuses 15 = .ok (.iastore, 1) := by decide +kernel
theorem dX11_refuses_16 : decode cX11_refuses 16 = .ok (.iload_n 1, 1) := by decide +kernel
theorem dX11_refuses_17 : decode cX11_refuses 17 = .ok (.ireturn, 1) := by decide +kernel
def wp_X11_refuses (a1 : Int) (σ : st_S) (Q : Int → st_S → Prop) : Prop := ∀ s8 : st_S, s8 = sI σ 0 0 a1 → ix (wr (-a1)) 7 ∧ ∀ x11 : Int, x11 = wr (gI s8 1 (Int.toNat (wr (-a1))) + 1) → ix (wr (-a1)) 7 ∧ ∀ s13 : st_S, s13 = sI s8 1 (Int.toNat (wr (-a1))) x11 → Q a1 s13
set_option maxRecDepth 20000 in
theorem c_X11_refuses {l : Launch} {E : ev_E} (hE : Eok E) (hm : eM E = 2) {a1 : Int} (ca1 : wr a1 = a1) {σ : st_S} {Q : Int → st_S → Prop} (h : wp_X11_refuses a1 σ Q) : cM l yX11_refuses cX11_refuses 2 (some .int) E 1 0 0 [vR E 0, vI a1] σ (qI E (gN σ + 0) Q) := by
  refine cM_of (lv := [(0, vR E 0), (1, vI a1)]) (by decide) hE (Nat.le_of_ble_eq_true rfl) (rfl) ?_
  intro X hX hc _ _ hr _ _
  subst hX
  have hh : 1 ≤ 1 := Nat.le_refl _
  have hh1 : 1 ≤ 1 := by omega
  replace h : ∀ s8 : st_S, s8 = sI σ 0 0 a1 → ix (wr (-a1)) 7 ∧ ∀ x11 : Int, x11 = wr (gI s8 1 (Int.toNat (wr (-a1))) + 1) → ix (wr (-a1)) 7 ∧ ∀ s13 : st_S, s13 = sI s8 1 (Int.toNat (wr (-a1))) x11 → Q a1 s13 := h
  refine j_aload_nR hc 0 dX11_refuses_0 rfl rfl ?_
  refine j_iload_n hc 1 dX11_refuses_1 rfl rfl ?_
  refine j_putI hc fl_RX11_3 rfl rfl (fun hv => Or.inl (sv_k hv hm rfl)) ca1 dX11_refuses_2 (fun s8 es8 => ?_)
  replace h := h s8 es8
  refine j_aload_nR hc 0 dX11_refuses_5 rfl rfl ?_
  refine j_getR (c' := 1) hc fl_RX11_7 rfl rfl (fun hv => (sv_k hv hm rfl)) dX11_refuses_6 ?_
  refine j_iload_n hc 1 dX11_refuses_9 rfl rfl ?_
  refine j_ineg hc dX11_refuses_10 ?_
  refine j_dup2 hc dX11_refuses_11 rfl rfl ?_
  obtain ⟨b9, h⟩ := h
  refine j_iald (jn := (Int.toNat (wr (-a1)))) hc (fun hv => sv_kl hv hm rfl) rfl b9 rfl dX11_refuses_12 (fun cn10 => ?_)
  refine j_iconst hc dX11_refuses_13 ?_
  refine j_iadd hc dX11_refuses_14 ?_
  refine j_w (fun x11 ex11 cx11 => ?_)
  replace h := h x11 ex11
  obtain ⟨b12, h⟩ := h
  refine j_iast (jn := (Int.toNat (wr (-a1)))) hc (fun hv => sv_kl hv hm rfl) rfl b12 rfl cx11 dX11_refuses_15 (fun s13 es13 => ?_)
  replace h := h s13 es13
  refine j_iload_n hc 1 dX11_refuses_16 rfl rfl ?_
  exact j_iret hc hr ca1 h dX11_refuses_17
-- LitStrangersModel.good(I)I
theorem dX11_good_0 : decode cX11_good 0 = .ok (.aload_n 0, 1) := by decide +kernel
theorem dX11_good_1 : decode cX11_good 1 = .ok (.iconst 0, 1) := by decide +kernel
theorem dX11_good_2 : decode cX11_good 2 = .ok (.putfield 3, 3) := by decide +kernel
theorem dX11_good_5 : decode cX11_good 5 = .ok (.iload_n 1, 1) := by decide +kernel
theorem dX11_good_6 : decode cX11_good 6 = .ok (.ireturn, 1) := by decide +kernel
def wp_X11_good (a1 : Int) (σ : st_S) (Q : Int → st_S → Prop) : Prop := ∀ s3 : st_S, s3 = sI σ 0 0 0 → Q a1 s3
set_option maxRecDepth 20000 in
theorem c_X11_good {l : Launch} {E : ev_E} (hE : Eok E) (hm : eM E = 2) {a1 : Int} (ca1 : wr a1 = a1) {σ : st_S} {Q : Int → st_S → Prop} (h : wp_X11_good a1 σ Q) : cM l yX11_good cX11_good 2 (some .int) E 1 0 0 [vR E 0, vI a1] σ (qI E (gN σ + 0) Q) := by
  refine cM_of (lv := [(0, vR E 0), (1, vI a1)]) (by decide) hE (Nat.le_of_ble_eq_true rfl) (rfl) ?_
  intro X hX hc _ _ hr _ _
  subst hX
  have hh : 1 ≤ 1 := Nat.le_refl _
  have hh1 : 1 ≤ 1 := by omega
  replace h : ∀ s3 : st_S, s3 = sI σ 0 0 0 → Q a1 s3 := h
  refine j_aload_nR hc 0 dX11_good_0 rfl rfl ?_
  refine j_iconst hc dX11_good_1 ?_
  refine j_putI hc fl_RX11_3 rfl rfl (fun hv => Or.inl (sv_k hv hm rfl)) (wlit 0 (by decide)) dX11_good_2 (fun s3 es3 => ?_)
  replace h := h s3 es3
  refine j_iload_n hc 1 dX11_good_5 rfl rfl ?_
  exact j_iret hc hr ca1 h dX11_good_6
-- LitStrangersModel.settled(I)I
theorem dX11_settled_0 : decode cX11_settled 0 = .ok (.aload_n 0, 1) := by decide +kernel
theorem dX11_settled_1 : decode cX11_settled 1 = .ok (.iconst 0, 1) := by decide +kernel
theorem dX11_settled_2 : decode cX11_settled 2 = .ok (.putfield 11, 3) := by decide +kernel
theorem dX11_settled_5 : decode cX11_settled 5 = .ok (.aload_n 0, 1) := by decide +kernel
theorem dX11_settled_6 : decode cX11_settled 6 = .ok (.iload_n 1, 1) := by decide +kernel
theorem dX11_settled_7 : decode cX11_settled 7 = .ok (.invokevirtual 14, 3) := by decide +kernel
theorem dX11_settled_10 : decode cX11_settled 10 = .ok (.ireturn, 1) := by decide +kernel
def wp_X11_settled (a1 : Int) (σ : st_S) (Q : Int → st_S → Prop) : Prop := ∀ s5 : st_S, s5 = sI σ 0 28 0 → wp_X11_good a1 s5 (fun r6 s7 => Q r6 s7)
set_option maxRecDepth 20000 in
theorem c_X11_settled {l : Launch} {E : ev_E} (hE : Eok E) (hm : eM E = 2) {a1 : Int} (ca1 : wr a1 = a1) {σ : st_S} {Q : Int → st_S → Prop} (h : wp_X11_settled a1 σ Q) : cM l yX11_settled cX11_settled 2 (some .int) E 2 0 0 [vR E 0, vI a1] σ (qI E (gN σ + 0) Q) := by
  refine cM_of (lv := [(0, vR E 0), (1, vI a1)]) (by decide) hE (Nat.le_of_ble_eq_true rfl) (rfl) ?_
  intro X hX hc _ _ hr _ _
  subst hX
  have hh : 2 ≤ 2 := Nat.le_refl _
  have hh1 : 1 ≤ 2 := by omega
  replace h : ∀ s5 : st_S, s5 = sI σ 0 28 0 → wp_X11_good a1 s5 (fun r6 s7 => Q r6 s7) := h
  refine j_aload_nR hc 0 dX11_settled_0 rfl rfl ?_
  refine j_iconst hc dX11_settled_1 ?_
  refine j_putI hc fl_RX11_11 rfl rfl (fun hv => Or.inl (sv_k hv hm rfl)) (wlit 0 (by decide)) dX11_settled_2 (fun s5 es5 => ?_)
  replace h := h s5 es5
  refine j_aload_nR hc 0 dX11_settled_5 rfl rfl ?_
  refine j_iload_n hc 1 dX11_settled_6 rfl rfl ?_
  refine j_vI hc (k := 11) (by decide) (fun hv => Or.inl (sv_k hv hm rfl)) ml_RX11_14 mv_X11_good (As := [vI a1]) (c_X11_good (cx_E hc) hm ca1 h) rfl (by omega) (by decide) ⟨Nat.zero_le _, Nat.zero_le _⟩ (Nat.le_of_ble_eq_true rfl) rfl dX11_settled_7 (fun r6 s7 cr6 h => ?_)
  exact j_iret hc hr cr6 h dX11_settled_10
-- LitStrangersModel.isIn(II)Z
theorem dX11_isIn_0 : decode cX11_isIn 0 = .ok (.iload_n 0, 1) := by decide +kernel
theorem dX11_isIn_1 : decode cX11_isIn 1 = .ok (.iload_n 1, 1) := by decide +kernel
theorem dX11_isIn_2 : decode cX11_isIn 2 = .ok (.ishr, 1) := by decide +kernel
theorem dX11_isIn_3 : decode cX11_isIn 3 = .ok (.iconst 1, 1) := by decide +kernel
theorem dX11_isIn_4 : decode cX11_isIn 4 = .ok (.iand, 1) := by decide +kernel
theorem dX11_isIn_5 : decode cX11_isIn 5 = .ok (.iconst 1, 1) := by decide +kernel
theorem dX11_isIn_6 : decode cX11_isIn 6 = .ok (.if_icmp .ne 7, 3) := by decide +kernel
theorem dX11_isIn_9 : decode cX11_isIn 9 = .ok (.iconst 1, 1) := by decide +kernel
theorem dX11_isIn_10 : decode cX11_isIn 10 = .ok (.goto 4, 3) := by decide +kernel
theorem dX11_isIn_13 : decode cX11_isIn 13 = .ok (.iconst 0, 1) := by decide +kernel
theorem dX11_isIn_14 : decode cX11_isIn 14 = .ok (.ireturn, 1) := by decide +kernel
def B_X11_isIn_14 (Q : Int → st_S → Prop)   (v0 : Int) (σ : st_S) : Prop := (v0 = 0 ∨ v0 = 1) ∧ Q v0 σ
def wp_X11_isIn (a1 : Int) (a2 : Int) (σ : st_S) (Q : Int → st_S → Prop) : Prop := (¬ o_and (o_shr a1 a2) 1 = 1 → B_X11_isIn_14 Q 0 σ) ∧ (o_and (o_shr a1 a2) 1 = 1 → B_X11_isIn_14 Q 1 σ)
set_option maxRecDepth 20000 in
theorem jb_X11_isIn_14 {X : jj_X} {E : ev_E} {n0 hN : Nat} (hc : Cx X E cX11_isIn 2 n0 hN RX11) (hm : eM E = 2) (hr : (xT X).sig.returnType = (some .boolean)) (hh : 1 ≤ hN) {Q : Int → st_S → Prop} {v0 : Int} (cv0 : wr v0 = v0) {σ : st_S} (h : B_X11_isIn_14 Q v0 σ) : J X E 2 n0 0 0 (MQ (xB X) (qI E (n0 + 0) Q) (xA X) (xS X) 0 0 (eF E)) σ 14 [] [vI v0] := by
  have hh1 : 1 ≤ hN := by omega
  replace h : (v0 = 0 ∨ v0 = 1) ∧ Q v0 σ := h
  exact j_zret hc hr (nar_bool h.1) (by rcases h.1 with e | e <;> (rw [e]; decide)) h.2 dX11_isIn_14
set_option maxRecDepth 20000 in
theorem c_X11_isIn {l : Launch} {E : ev_E} (hE : Eok E) (hm : eM E = 2) {a1 : Int} {a2 : Int} (ca1 : wr a1 = a1) (ca2 : wr a2 = a2) {σ : st_S} {Q : Int → st_S → Prop} (h : wp_X11_isIn a1 a2 σ Q) : cM l yX11_isIn cX11_isIn 2 (some .boolean) E 1 0 0 [vI a1, vI a2] σ (qI E (gN σ + 0) Q) := by
  refine cM_of (lv := [(0, vI a1), (1, vI a2)]) (by decide) hE (Nat.le_of_ble_eq_true rfl) (rfl) ?_
  intro X hX hc _ _ hr _ _
  subst hX
  have hh : 1 ≤ 1 := Nat.le_refl _
  have hh1 : 1 ≤ 1 := by omega
  replace h : (¬ o_and (o_shr a1 a2) 1 = 1 → B_X11_isIn_14 Q 0 σ) ∧ (o_and (o_shr a1 a2) 1 = 1 → B_X11_isIn_14 Q 1 σ) := h
  refine j_iload_n hc 0 dX11_isIn_0 rfl rfl ?_
  refine j_iload_n hc 1 dX11_isIn_1 rfl rfl ?_
  refine j_ishr hc dX11_isIn_2 ?_
  refine j_iconst hc dX11_isIn_3 ?_
  refine j_iand hc dX11_isIn_4 ?_
  refine j_iconst hc dX11_isIn_5 ?_
  refine j_ic_ne hc (cn_and _ _) (wlit 1 (by decide)) (tgt := 13) dX11_isIn_6 (by decide) (fun q1 => ?_) (fun q1 => ?_)
  · replace h := h.1 q1
    refine j_iconst hc dX11_isIn_13 ?_
    refine j_sub (lv' := []) [] rfl ?_
    exact jb_X11_isIn_14 hc hm hr hh (wlit 0 (by decide)) h
  · replace h := h.2 q1
    refine j_iconst hc dX11_isIn_9 ?_
    refine j_goto (tgt := 14) hc dX11_isIn_10 (by decide) ?_
    refine j_sub (lv' := []) [] rfl ?_
    exact jb_X11_isIn_14 hc hm hr hh (wlit 1 (by decide)) h
-- LitStrangersModel.ones(I)I
theorem dX11_ones_0 : decode cX11_ones 0 = .ok (.iconst 0, 1) := by decide +kernel
theorem dX11_ones_1 : decode cX11_ones 1 = .ok (.istore_n 1, 1) := by decide +kernel
theorem dX11_ones_2 : decode cX11_ones 2 = .ok (.iconst 0, 1) := by decide +kernel
theorem dX11_ones_3 : decode cX11_ones 3 = .ok (.istore_n 2, 1) := by decide +kernel
theorem dX11_ones_4 : decode cX11_ones 4 = .ok (.iload_n 2, 1) := by decide +kernel
theorem dX11_ones_5 : decode cX11_ones 5 = .ok (.bipush 10, 2) := by decide +kernel
theorem dX11_ones_7 : decode cX11_ones 7 = .ok (.if_icmp .ge 17, 3) := by decide +kernel
theorem dX11_ones_10 : decode cX11_ones 10 = .ok (.iload_n 1, 1) := by decide +kernel
theorem dX11_ones_11 : decode cX11_ones 11 = .ok (.iload_n 0, 1) := by decide +kernel
theorem dX11_ones_12 : decode cX11_ones 12 = .ok (.iload_n 2, 1) := by decide +kernel
theorem dX11_ones_13 : decode cX11_ones 13 = .ok (.ishr, 1) := by decide +kernel
theorem dX11_ones_14 : decode cX11_ones 14 = .ok (.iconst 1, 1) := by decide +kernel
theorem dX11_ones_15 : decode cX11_ones 15 = .ok (.iand, 1) := by decide +kernel
theorem dX11_ones_16 : decode cX11_ones 16 = .ok (.iadd, 1) := by decide +kernel
theorem dX11_ones_17 : decode cX11_ones 17 = .ok (.istore_n 1, 1) := by decide +kernel
theorem dX11_ones_18 : decode cX11_ones 18 = .ok (.iinc 2 1, 3) := by decide +kernel
theorem dX11_ones_21 : decode cX11_ones 21 = .ok (.goto (-17), 3) := by decide +kernel
theorem dX11_ones_24 : decode cX11_ones 24 = .ok (.iload_n 1, 1) := by decide +kernel
theorem dX11_ones_25 : decode cX11_ones 25 = .ok (.ireturn, 1) := by decide +kernel
def L_X11_ones_4 (Q : Int → st_S → Prop)   : Nat → Int → Int → Int → st_S → Prop
  | 0 => fun _ _ _ _ => False
  | n + 1 => fun l0 l1 l2 σ => (10 ≤ l2 → Q l1 σ) ∧ (¬ 10 ≤ l2 → ∀ x5 : Int, x5 = wr (l1 + o_and (o_shr l0 l2) 1) → ∀ x6 : Int, x6 = wr (l2 + 1) → (L_X11_ones_4 Q n) l0 x5 x6 σ)
def wp_X11_ones (a1 : Int) (σ : st_S) (Q : Int → st_S → Prop) : Prop := ∃ m4 : Nat, L_X11_ones_4 Q m4 a1 0 0 σ
set_option maxRecDepth 20000 in
theorem jl_X11_ones_4 {X : jj_X} {E : ev_E} {n0 hN : Nat} (hc : Cx X E cX11_ones 3 n0 hN RX11) (hm : eM E = 2) (hr : (xT X).sig.returnType = (some .int)) (hh : 1 ≤ hN) {Q : Int → st_S → Prop} : ∀ (n : Nat) {l0 : Int} {l1 : Int} {l2 : Int} (cl0 : wr l0 = l0) (cl1 : wr l1 = l1) (cl2 : wr l2 = l2) {σ : st_S}, L_X11_ones_4 Q n l0 l1 l2 σ → J X E 3 n0 0 0 (MQ (xB X) (qI E (n0 + 0) Q) (xA X) (xS X) 0 0 (eF E)) σ 4 [(0, vI l0), (1, vI l1), (2, vI l2)] [] := by
  have hh1 : 1 ≤ hN := by omega
  intro n
  induction n with
  | zero => intro l0 l1 l2 cl0 cl1 cl2 σ h; exact h.elim
  | succ n ih =>
    intro l0 l1 l2 cl0 cl1 cl2 σ h
    have hk4 : ∀ {l0 : Int} {l1 : Int} {l2 : Int} (cl0 : wr l0 = l0) (cl1 : wr l1 = l1) (cl2 : wr l2 = l2) {σ : st_S}, L_X11_ones_4 Q n l0 l1 l2 σ → J X E 3 n0 0 0 (MQ (xB X) (qI E (n0 + 0) Q) (xA X) (xS X) 0 0 (eF E)) σ 4 [(0, vI l0), (1, vI l1), (2, vI l2)] [] := ih
    replace h : (10 ≤ l2 → Q l1 σ) ∧ (¬ 10 ≤ l2 → ∀ x5 : Int, x5 = wr (l1 + o_and (o_shr l0 l2) 1) → ∀ x6 : Int, x6 = wr (l2 + 1) → (L_X11_ones_4 Q n) l0 x5 x6 σ) := h
    refine j_iload_n hc 2 dX11_ones_4 rfl rfl ?_
    refine j_bipush hc dX11_ones_5 (by decide) ?_
    refine j_ic_ge hc cl2 (wlit 10 (by decide)) (tgt := 24) dX11_ones_7 (by decide) (fun q7 => ?_) (fun q7 => ?_)
    · replace h := h.1 q7
      refine j_iload_n hc 1 dX11_ones_24 rfl rfl ?_
      exact j_iret hc hr cl1 h dX11_ones_25
    · replace h := h.2 q7
      refine j_iload_n hc 1 dX11_ones_10 rfl rfl ?_
      refine j_iload_n hc 0 dX11_ones_11 rfl rfl ?_
      refine j_iload_n hc 2 dX11_ones_12 rfl rfl ?_
      refine j_ishr hc dX11_ones_13 ?_
      refine j_iconst hc dX11_ones_14 ?_
      refine j_iand hc dX11_ones_15 ?_
      refine j_iadd hc dX11_ones_16 ?_
      refine j_w (fun x5 ex5 cx5 => ?_)
      replace h := h x5 ex5
      refine j_istore_n (lv' := [(1, vI x5), (0, vI l0), (2, vI l2)]) hc dX11_ones_17 rfl (by decide) rfl ?_
      obtain ⟨x6, ex6⟩ : ∃ y : Int, y = wr (l2 + 1) := ⟨_, rfl⟩
      have cx6 : wr x6 = x6 := by rw [ex6]; exact wr_wr _
      replace h := h x6 ex6
      refine j_iinc (lv' := [(2, vI x6), (1, vI x5), (0, vI l0)]) hc 2 dX11_ones_18 rfl (by decide) ex6 rfl ?_
      refine j_goto (tgt := 4) hc dX11_ones_21 (by decide) ?_
      refine j_sub (lv' := [(0, vI l0), (1, vI x5), (2, vI x6)]) [2, 1, 0] rfl ?_
      exact hk4 cl0 cx5 cx6 h
set_option maxRecDepth 20000 in
theorem c_X11_ones {l : Launch} {E : ev_E} (hE : Eok E) (hm : eM E = 2) {a1 : Int} (ca1 : wr a1 = a1) {σ : st_S} {Q : Int → st_S → Prop} (h : wp_X11_ones a1 σ Q) : cM l yX11_ones cX11_ones 3 (some .int) E 1 0 0 [vI a1] σ (qI E (gN σ + 0) Q) := by
  refine cM_of (lv := [(0, vI a1)]) (by decide) hE (Nat.le_of_ble_eq_true rfl) (rfl) ?_
  intro X hX hc _ _ hr _ _
  subst hX
  have hh : 1 ≤ 1 := Nat.le_refl _
  have hh1 : 1 ≤ 1 := by omega
  replace h : ∃ m4 : Nat, L_X11_ones_4 Q m4 a1 0 0 σ := h
  refine j_iconst hc dX11_ones_0 ?_
  refine j_istore_n (lv' := [(1, vI 0), (0, vI a1)]) hc dX11_ones_1 rfl (by decide) rfl ?_
  refine j_iconst hc dX11_ones_2 ?_
  refine j_istore_n (lv' := [(2, vI 0), (1, vI 0), (0, vI a1)]) hc dX11_ones_3 rfl (by decide) rfl ?_
  obtain ⟨n4, h⟩ := h
  refine j_sub (lv' := [(0, vI a1), (1, vI 0), (2, vI 0)]) [2, 1, 0] rfl ?_
  exact jl_X11_ones_4 hc hm hr hh n4 ca1 (wlit 0 (by decide)) (wlit 0 (by decide)) h
-- LitStrangersModel.lesser(II)I
theorem dX11_lesser_0 : decode cX11_lesser 0 = .ok (.iload_n 0, 1) := by decide +kernel
theorem dX11_lesser_1 : decode cX11_lesser 1 = .ok (.iload_n 1, 1) := by decide +kernel
theorem dX11_lesser_2 : decode cX11_lesser 2 = .ok (.if_icmp .ge 7, 3) := by decide +kernel
theorem dX11_lesser_5 : decode cX11_lesser 5 = .ok (.iload_n 0, 1) := by decide +kernel
theorem dX11_lesser_6 : decode cX11_lesser 6 = .ok (.goto 4, 3) := by decide +kernel
theorem dX11_lesser_9 : decode cX11_lesser 9 = .ok (.iload_n 1, 1) := by decide +kernel
theorem dX11_lesser_10 : decode cX11_lesser 10 = .ok (.ireturn, 1) := by decide +kernel
def B_X11_lesser_10 (Q : Int → st_S → Prop)   (v0 : Int) (σ : st_S) : Prop := Q v0 σ
def wp_X11_lesser (a1 : Int) (a2 : Int) (σ : st_S) (Q : Int → st_S → Prop) : Prop := (a2 ≤ a1 → B_X11_lesser_10 Q a2 σ) ∧ (¬ a2 ≤ a1 → B_X11_lesser_10 Q a1 σ)
set_option maxRecDepth 20000 in
theorem jb_X11_lesser_10 {X : jj_X} {E : ev_E} {n0 hN : Nat} (hc : Cx X E cX11_lesser 2 n0 hN RX11) (hm : eM E = 2) (hr : (xT X).sig.returnType = (some .int)) (hh : 1 ≤ hN) {Q : Int → st_S → Prop} {v0 : Int} (cv0 : wr v0 = v0) {σ : st_S} (h : B_X11_lesser_10 Q v0 σ) : J X E 2 n0 0 0 (MQ (xB X) (qI E (n0 + 0) Q) (xA X) (xS X) 0 0 (eF E)) σ 10 [] [vI v0] := by
  have hh1 : 1 ≤ hN := by omega
  replace h : Q v0 σ := h
  exact j_iret hc hr cv0 h dX11_lesser_10
set_option maxRecDepth 20000 in
theorem c_X11_lesser {l : Launch} {E : ev_E} (hE : Eok E) (hm : eM E = 2) {a1 : Int} {a2 : Int} (ca1 : wr a1 = a1) (ca2 : wr a2 = a2) {σ : st_S} {Q : Int → st_S → Prop} (h : wp_X11_lesser a1 a2 σ Q) : cM l yX11_lesser cX11_lesser 2 (some .int) E 1 0 0 [vI a1, vI a2] σ (qI E (gN σ + 0) Q) := by
  refine cM_of (lv := [(0, vI a1), (1, vI a2)]) (by decide) hE (Nat.le_of_ble_eq_true rfl) (rfl) ?_
  intro X hX hc _ _ hr _ _
  subst hX
  have hh : 1 ≤ 1 := Nat.le_refl _
  have hh1 : 1 ≤ 1 := by omega
  replace h : (a2 ≤ a1 → B_X11_lesser_10 Q a2 σ) ∧ (¬ a2 ≤ a1 → B_X11_lesser_10 Q a1 σ) := h
  refine j_iload_n hc 0 dX11_lesser_0 rfl rfl ?_
  refine j_iload_n hc 1 dX11_lesser_1 rfl rfl ?_
  refine j_ic_ge hc ca1 ca2 (tgt := 9) dX11_lesser_2 (by decide) (fun q1 => ?_) (fun q1 => ?_)
  · replace h := h.1 q1
    refine j_iload_n hc 1 dX11_lesser_9 rfl rfl ?_
    refine j_sub (lv' := []) [] rfl ?_
    exact jb_X11_lesser_10 hc hm hr hh ca2 h
  · replace h := h.2 q1
    refine j_iload_n hc 0 dX11_lesser_5 rfl rfl ?_
    refine j_goto (tgt := 10) hc dX11_lesser_6 (by decide) ?_
    refine j_sub (lv' := []) [] rfl ?_
    exact jb_X11_lesser_10 hc hm hr hh ca1 h
-- LitStrangersModel.image(I)I
theorem dX11_image_0 : decode cX11_image 0 = .ok (.iload_n 1, 1) := by decide +kernel
theorem dX11_image_1 : decode cX11_image 1 = .ok (.iconst 0, 1) := by decide +kernel
theorem dX11_image_2 : decode cX11_image 2 = .ok (.iconst 1, 1) := by decide +kernel
theorem dX11_image_3 : decode cX11_image 3 = .ok (.invokestatic 106, 3) := by decide +kernel
theorem dX11_image_6 : decode cX11_image 6 = .ok (.ifCond .ne 9, 3) := by decide +kernel
theorem dX11_image_9 : decode cX11_image 9 = .ok (.aload_n 0, 1) := by decide +kernel
theorem dX11_image_10 : decode cX11_image 10 = .ok (.iconst (-1), 1) := by decide +kernel
theorem dX11_image_11 : decode cX11_image 11 = .ok (.invokevirtual 110, 3) := by decide +kernel
theorem dX11_image_14 : decode cX11_image 14 = .ok (.ireturn, 1) := by decide +kernel
theorem dX11_image_15 : decode cX11_image 15 = .ok (.iconst 0, 1) := by decide +kernel
theorem dX11_image_16 : decode cX11_image 16 = .ok (.istore_n 2, 1) := by decide +kernel
theorem dX11_image_17 : decode cX11_image 17 = .ok (.iload_n 2, 1) := by decide +kernel
theorem dX11_image_18 : decode cX11_image 18 = .ok (.sipush 5866, 3) := by decide +kernel
theorem dX11_image_21 : decode cX11_image 21 = .ok (.if_icmp .ge 27, 3) := by decide +kernel
theorem dX11_image_24 : decode cX11_image 24 = .ok (.aload_n 0, 1) := by decide +kernel
theorem dX11_image_25 : decode cX11_image 25 = .ok (.getfield 27, 3) := by decide +kernel
theorem dX11_image_28 : decode cX11_image 28 = .ok (.sipush 5866, 3) := by decide +kernel
theorem dX11_image_31 : decode cX11_image 31 = .ok (.iload_n 1, 1) := by decide +kernel
theorem dX11_image_32 : decode cX11_image 32 = .ok (.imul, 1) := by decide +kernel
theorem dX11_image_33 : decode cX11_image 33 = .ok (.iload_n 2, 1) := by decide +kernel
theorem dX11_image_34 : decode cX11_image 34 = .ok (.iadd, 1) := by decide +kernel
theorem dX11_image_35 : decode cX11_image 35 = .ok (.aload_n 0, 1) := by decide +kernel
theorem dX11_image_36 : decode cX11_image 36 = .ok (.getfield 24, 3) := by decide +kernel
theorem dX11_image_39 : decode cX11_image 39 = .ok (.iload_n 2, 1) := by decide +kernel
theorem dX11_image_40 : decode cX11_image 40 = .ok (.iaload, 1) := by decide +kernel
theorem dX11_image_41 : decode cX11_image 41 = .ok (.iastore, 1) := by decide +kernel
theorem dX11_image_42 : decode cX11_image 42 = .ok (.iinc 2 1, 3) := by decide +kernel
theorem dX11_image_45 : decode cX11_image 45 = .ok (.goto (-28), 3) := by decide +kernel
theorem dX11_image_48 : decode cX11_image 48 = .ok (.aload_n 0, 1) := by decide +kernel
theorem dX11_image_49 : decode cX11_image 49 = .ok (.getfield 30, 3) := by decide +kernel
theorem dX11_image_52 : decode cX11_image 52 = .ok (.iload_n 1, 1) := by decide +kernel
theorem dX11_image_53 : decode cX11_image 53 = .ok (.iconst 1, 1) := by decide +kernel
theorem dX11_image_54 : decode cX11_image 54 = .ok (.bastore, 1) := by decide +kernel
theorem dX11_image_55 : decode cX11_image 55 = .ok (.aload_n 0, 1) := by decide +kernel
theorem dX11_image_56 : decode cX11_image 56 = .ok (.iconst 0, 1) := by decide +kernel
theorem dX11_image_57 : decode cX11_image 57 = .ok (.invokevirtual 14, 3) := by decide +kernel
theorem dX11_image_60 : decode cX11_image 60 = .ok (.ireturn, 1) := by decide +kernel
def L_X11_image_17 (Q : Int → st_S → Prop)   : Nat → Int → Int → st_S → Prop
  | 0 => fun _ _ _ => False
  | n + 1 => fun l1 l2 σ => (5866 ≤ l2 → ix l1 2 ∧ ∀ s18 : st_S, s18 = sI σ 4 (Int.toNat l1) (o_nz 1) → wp_X11_good 0 s18 (fun r19 s20 => Q r19 s20)) ∧ (¬ 5866 ≤ l2 → ix l2 5866 ∧ ix (wr ((5866 * l1) + l2)) 11732 ∧ ∀ s24 : st_S, s24 = sI σ 3 (Int.toNat (wr ((5866 * l1) + l2))) (gI σ 2 (Int.toNat l2)) → ∀ x25 : Int, x25 = wr (l2 + 1) → (L_X11_image_17 Q n) l1 x25 s24)
def wp_X11_image (a1 : Int) (σ : st_S) (Q : Int → st_S → Prop) : Prop := wp_X11_lies a1 0 1 σ (fun r27 s28 => (¬ r27 = 0 → ∃ m17 : Nat, L_X11_image_17 Q m17 a1 0 s28) ∧ (r27 = 0 → wp_X11_refuses (-1) s28 (fun r29 s30 => Q r29 s30)))
set_option maxRecDepth 20000 in
theorem jl_X11_image_17 {X : jj_X} {E : ev_E} {n0 hN : Nat} (hc : Cx X E cX11_image 3 n0 hN RX11) (hm : eM E = 2) (hr : (xT X).sig.returnType = (some .int)) (hh : 2 ≤ hN) {Q : Int → st_S → Prop} : ∀ (n : Nat) {l1 : Int} {l2 : Int} (cl1 : wr l1 = l1) (cl2 : wr l2 = l2) {σ : st_S}, L_X11_image_17 Q n l1 l2 σ → J X E 3 n0 0 0 (MQ (xB X) (qI E (n0 + 0) Q) (xA X) (xS X) 0 0 (eF E)) σ 17 [(0, vR E 0), (1, vI l1), (2, vI l2)] [] := by
  have hh1 : 1 ≤ hN := by omega
  intro n
  induction n with
  | zero => intro l1 l2 cl1 cl2 σ h; exact h.elim
  | succ n ih =>
    intro l1 l2 cl1 cl2 σ h
    have hk17 : ∀ {l1 : Int} {l2 : Int} (cl1 : wr l1 = l1) (cl2 : wr l2 = l2) {σ : st_S}, L_X11_image_17 Q n l1 l2 σ → J X E 3 n0 0 0 (MQ (xB X) (qI E (n0 + 0) Q) (xA X) (xS X) 0 0 (eF E)) σ 17 [(0, vR E 0), (1, vI l1), (2, vI l2)] [] := ih
    replace h : (5866 ≤ l2 → ix l1 2 ∧ ∀ s18 : st_S, s18 = sI σ 4 (Int.toNat l1) (o_nz 1) → wp_X11_good 0 s18 (fun r19 s20 => Q r19 s20)) ∧ (¬ 5866 ≤ l2 → ix l2 5866 ∧ ix (wr ((5866 * l1) + l2)) 11732 ∧ ∀ s24 : st_S, s24 = sI σ 3 (Int.toNat (wr ((5866 * l1) + l2))) (gI σ 2 (Int.toNat l2)) → ∀ x25 : Int, x25 = wr (l2 + 1) → (L_X11_image_17 Q n) l1 x25 s24) := h
    refine j_iload_n hc 2 dX11_image_17 rfl rfl ?_
    refine j_sipush hc dX11_image_18 (by decide) ?_
    refine j_ic_ge hc cl2 (wlit 5866 (by decide)) (tgt := 48) dX11_image_21 (by decide) (fun q26 => ?_) (fun q26 => ?_)
    · replace h := h.1 q26
      refine j_aload_nR hc 0 dX11_image_48 rfl rfl ?_
      refine j_getR (c' := 4) hc fl_RX11_30 rfl rfl (fun hv => (sv_k hv hm rfl)) dX11_image_49 ?_
      refine j_iload_n hc 1 dX11_image_52 rfl rfl ?_
      refine j_iconst hc dX11_image_53 ?_
      obtain ⟨b17, h⟩ := h
      refine j_zast (jn := (Int.toNat l1)) hc (fun hv => sv_kl hv hm rfl) cl1 b17 rfl dX11_image_54 (fun s18 es18 => ?_)
      replace h := h s18 es18
      refine j_aload_nR hc 0 dX11_image_55 rfl rfl ?_
      refine j_iconst hc dX11_image_56 ?_
      refine j_vI hc (k := 11) (by decide) (fun hv => Or.inl (sv_k hv hm rfl)) ml_RX11_14 mv_X11_good (As := [vI 0]) (c_X11_good (cx_E hc) hm (wlit 0 (by decide)) h) rfl (by omega) (by decide) ⟨Nat.zero_le _, Nat.zero_le _⟩ (Nat.le_of_ble_eq_true rfl) rfl dX11_image_57 (fun r19 s20 cr19 h => ?_)
      exact j_iret hc hr cr19 h dX11_image_60
    · replace h := h.2 q26
      refine j_aload_nR hc 0 dX11_image_24 rfl rfl ?_
      refine j_getR (c' := 3) hc fl_RX11_27 rfl rfl (fun hv => (sv_k hv hm rfl)) dX11_image_25 ?_
      refine j_sipush hc dX11_image_28 (by decide) ?_
      refine j_iload_n hc 1 dX11_image_31 rfl rfl ?_
      refine j_imul hc dX11_image_32 ?_
      refine j_iload_n hc 2 dX11_image_33 rfl rfl ?_
      refine j_iadd hc dX11_image_34 ?_
      refine j_aload_nR hc 0 dX11_image_35 rfl rfl ?_
      refine j_getR (c' := 2) hc fl_RX11_24 rfl rfl (fun hv => (sv_k hv hm rfl)) dX11_image_36 ?_
      refine j_iload_n hc 2 dX11_image_39 rfl rfl ?_
      obtain ⟨b21, h⟩ := h
      refine j_iald (jn := (Int.toNat l2)) hc (fun hv => sv_kl hv hm rfl) cl2 b21 rfl dX11_image_40 (fun cn22 => ?_)
      obtain ⟨b23, h⟩ := h
      refine j_iast (jn := (Int.toNat (wr ((5866 * l1) + l2)))) hc (fun hv => sv_kl hv hm rfl) rfl b23 rfl cn22 dX11_image_41 (fun s24 es24 => ?_)
      replace h := h s24 es24
      obtain ⟨x25, ex25⟩ : ∃ y : Int, y = wr (l2 + 1) := ⟨_, rfl⟩
      have cx25 : wr x25 = x25 := by rw [ex25]; exact wr_wr _
      replace h := h x25 ex25
      refine j_iinc (lv' := [(2, vI x25), (0, vR E 0), (1, vI l1)]) hc 2 dX11_image_42 rfl (by decide) ex25 rfl ?_
      refine j_goto (tgt := 17) hc dX11_image_45 (by decide) ?_
      refine j_sub (lv' := [(0, vR E 0), (1, vI l1), (2, vI x25)]) [1, 2, 0] rfl ?_
      exact hk17 cl1 cx25 h
set_option maxRecDepth 20000 in
theorem c_X11_image {l : Launch} {E : ev_E} (hE : Eok E) (hm : eM E = 2) {a1 : Int} (ca1 : wr a1 = a1) {σ : st_S} {Q : Int → st_S → Prop} (h : wp_X11_image a1 σ Q) : cM l yX11_image cX11_image 3 (some .int) E 2 0 0 [vR E 0, vI a1] σ (qI E (gN σ + 0) Q) := by
  refine cM_of (lv := [(0, vR E 0), (1, vI a1)]) (by decide) hE (Nat.le_of_ble_eq_true rfl) (rfl) ?_
  intro X hX hc _ _ hr _ _
  subst hX
  have hh : 2 ≤ 2 := Nat.le_refl _
  have hh1 : 1 ≤ 2 := by omega
  replace h : wp_X11_lies a1 0 1 σ (fun r27 s28 => (¬ r27 = 0 → ∃ m17 : Nat, L_X11_image_17 Q m17 a1 0 s28) ∧ (r27 = 0 → wp_X11_refuses (-1) s28 (fun r29 s30 => Q r29 s30))) := h
  refine j_iload_n hc 1 dX11_image_0 rfl rfl ?_
  refine j_iconst hc dX11_image_1 ?_
  refine j_iconst hc dX11_image_2 ?_
  refine j_sI hc ml_RX11_106 mv_X11_lies (As := [vI a1, vI 0, vI 1]) (c_X11_lies (cx_E hc) hm ca1 (wlit 0 (by decide)) (wlit 1 (by decide)) h) rfl (by omega) (by decide) ⟨Nat.zero_le _, Nat.zero_le _⟩ (Nat.le_of_ble_eq_true rfl) rfl dX11_image_3 (fun r27 s28 cr27 h => ?_)
  refine j_if_ne hc cr27 (tgt := 15) dX11_image_6 (by decide) (fun q31 => ?_) (fun q31 => ?_)
  · replace h := h.1 q31
    refine j_iconst hc dX11_image_15 ?_
    refine j_istore_n (lv' := [(2, vI 0), (0, vR E 0), (1, vI a1)]) hc dX11_image_16 rfl (by decide) rfl ?_
    obtain ⟨n17, h⟩ := h
    refine j_sub (lv' := [(0, vR E 0), (1, vI a1), (2, vI 0)]) [1, 2, 0] rfl ?_
    exact jl_X11_image_17 hc hm hr hh n17 ca1 (wlit 0 (by decide)) h
  · replace h := h.2 q31
    refine j_aload_nR hc 0 dX11_image_9 rfl rfl ?_
    refine j_iconst hc dX11_image_10 ?_
    refine j_vI hc (k := 11) (by decide) (fun hv => Or.inl (sv_k hv hm rfl)) ml_RX11_110 mv_X11_refuses (As := [vI (-1)]) (c_X11_refuses (cx_E hc) hm (wlit (-1) (by decide)) h) rfl (by omega) (by decide) ⟨Nat.zero_le _, Nat.zero_le _⟩ (Nat.le_of_ble_eq_true rfl) rfl dX11_image_11 (fun r29 s30 cr29 h => ?_)
    exact j_iret hc hr cr29 h dX11_image_14
-- LitStrangersModel.back(I)I
theorem dX11_back_0 : decode cX11_back 0 = .ok (.iload_n 1, 1) := by decide +kernel
theorem dX11_back_1 : decode cX11_back 1 = .ok (.iconst 0, 1) := by decide +kernel
theorem dX11_back_2 : decode cX11_back 2 = .ok (.iconst 1, 1) := by decide +kernel
theorem dX11_back_3 : decode cX11_back 3 = .ok (.invokestatic 106, 3) := by decide +kernel
theorem dX11_back_6 : decode cX11_back 6 = .ok (.ifCond .ne 9, 3) := by decide +kernel
theorem dX11_back_9 : decode cX11_back 9 = .ok (.aload_n 0, 1) := by decide +kernel
theorem dX11_back_10 : decode cX11_back 10 = .ok (.iconst (-1), 1) := by decide +kernel
theorem dX11_back_11 : decode cX11_back 11 = .ok (.invokevirtual 110, 3) := by decide +kernel
theorem dX11_back_14 : decode cX11_back 14 = .ok (.ireturn, 1) := by decide +kernel
theorem dX11_back_15 : decode cX11_back 15 = .ok (.aload_n 0, 1) := by decide +kernel
theorem dX11_back_16 : decode cX11_back 16 = .ok (.getfield 30, 3) := by decide +kernel
theorem dX11_back_19 : decode cX11_back 19 = .ok (.iload_n 1, 1) := by decide +kernel
theorem dX11_back_20 : decode cX11_back 20 = .ok (.baload, 1) := by decide +kernel
theorem dX11_back_21 : decode cX11_back 21 = .ok (.ifCond .ne 10, 3) := by decide +kernel
theorem dX11_back_24 : decode cX11_back 24 = .ok (.aload_n 0, 1) := by decide +kernel
theorem dX11_back_25 : decode cX11_back 25 = .ok (.bipush (-2), 2) := by decide +kernel
theorem dX11_back_27 : decode cX11_back 27 = .ok (.invokevirtual 110, 3) := by decide +kernel
theorem dX11_back_30 : decode cX11_back 30 = .ok (.ireturn, 1) := by decide +kernel
theorem dX11_back_31 : decode cX11_back 31 = .ok (.iconst 0, 1) := by decide +kernel
theorem dX11_back_32 : decode cX11_back 32 = .ok (.istore_n 2, 1) := by decide +kernel
theorem dX11_back_33 : decode cX11_back 33 = .ok (.iload_n 2, 1) := by decide +kernel
theorem dX11_back_34 : decode cX11_back 34 = .ok (.sipush 5866, 3) := by decide +kernel
theorem dX11_back_37 : decode cX11_back 37 = .ok (.if_icmp .ge 27, 3) := by decide +kernel
theorem dX11_back_40 : decode cX11_back 40 = .ok (.aload_n 0, 1) := by decide +kernel
theorem dX11_back_41 : decode cX11_back 41 = .ok (.getfield 24, 3) := by decide +kernel
theorem dX11_back_44 : decode cX11_back 44 = .ok (.iload_n 2, 1) := by decide +kernel
theorem dX11_back_45 : decode cX11_back 45 = .ok (.aload_n 0, 1) := by decide +kernel
theorem dX11_back_46 : decode cX11_back 46 = .ok (.getfield 27, 3) := by decide +kernel
theorem dX11_back_49 : decode cX11_back 49 = .ok (.sipush 5866, 3) := by decide +kernel
theorem dX11_back_52 : decode cX11_back 52 = .ok (.iload_n 1, 1) := by decide +kernel
theorem dX11_back_53 : decode cX11_back 53 = .ok (.imul, 1) := by decide +kernel
theorem dX11_back_54 : decode cX11_back 54 = .ok (.iload_n 2, 1) := by decide +kernel
theorem dX11_back_55 : decode cX11_back 55 = .ok (.iadd, 1) := by decide +kernel
theorem dX11_back_56 : decode cX11_back 56 = .ok (.iaload, 1) := by decide +kernel
theorem dX11_back_57 : decode cX11_back 57 = .ok (.iastore, 1) := by decide +kernel
theorem dX11_back_58 : decode cX11_back 58 = .ok (.iinc 2 1, 3) := by decide +kernel
theorem dX11_back_61 : decode cX11_back 61 = .ok (.goto (-28), 3) := by decide +kernel
theorem dX11_back_64 : decode cX11_back 64 = .ok (.aload_n 0, 1) := by decide +kernel
theorem dX11_back_65 : decode cX11_back 65 = .ok (.iconst 0, 1) := by decide +kernel
theorem dX11_back_66 : decode cX11_back 66 = .ok (.invokevirtual 113, 3) := by decide +kernel
theorem dX11_back_69 : decode cX11_back 69 = .ok (.ireturn, 1) := by decide +kernel
def L_X11_back_33 (Q : Int → st_S → Prop)   : Nat → Int → Int → st_S → Prop
  | 0 => fun _ _ _ => False
  | n + 1 => fun l1 l2 σ => (5866 ≤ l2 → wp_X11_settled 0 σ (fun r18 s19 => Q r18 s19)) ∧ (¬ 5866 ≤ l2 → ix (wr ((5866 * l1) + l2)) 11732 ∧ ix l2 5866 ∧ ∀ s23 : st_S, s23 = sI σ 2 (Int.toNat l2) (gI σ 3 (Int.toNat (wr ((5866 * l1) + l2)))) → ∀ x24 : Int, x24 = wr (l2 + 1) → (L_X11_back_33 Q n) l1 x24 s23)
def wp_X11_back (a1 : Int) (σ : st_S) (Q : Int → st_S → Prop) : Prop := wp_X11_lies a1 0 1 σ (fun r26 s27 => (¬ r26 = 0 → ix a1 2 ∧ (¬ gI s27 4 (Int.toNat a1) = 0 → ∃ m33 : Nat, L_X11_back_33 Q m33 a1 0 s27) ∧ (gI s27 4 (Int.toNat a1) = 0 → wp_X11_refuses (-2) s27 (fun r30 s31 => Q r30 s31))) ∧ (r26 = 0 → wp_X11_refuses (-1) s27 (fun r33 s34 => Q r33 s34)))
set_option maxRecDepth 20000 in
theorem jl_X11_back_33 {X : jj_X} {E : ev_E} {n0 hN : Nat} (hc : Cx X E cX11_back 3 n0 hN RX11) (hm : eM E = 2) (hr : (xT X).sig.returnType = (some .int)) (hh : 3 ≤ hN) {Q : Int → st_S → Prop} : ∀ (n : Nat) {l1 : Int} {l2 : Int} (cl1 : wr l1 = l1) (cl2 : wr l2 = l2) {σ : st_S}, L_X11_back_33 Q n l1 l2 σ → J X E 3 n0 0 0 (MQ (xB X) (qI E (n0 + 0) Q) (xA X) (xS X) 0 0 (eF E)) σ 33 [(0, vR E 0), (1, vI l1), (2, vI l2)] [] := by
  have hh1 : 1 ≤ hN := by omega
  intro n
  induction n with
  | zero => intro l1 l2 cl1 cl2 σ h; exact h.elim
  | succ n ih =>
    intro l1 l2 cl1 cl2 σ h
    have hk33 : ∀ {l1 : Int} {l2 : Int} (cl1 : wr l1 = l1) (cl2 : wr l2 = l2) {σ : st_S}, L_X11_back_33 Q n l1 l2 σ → J X E 3 n0 0 0 (MQ (xB X) (qI E (n0 + 0) Q) (xA X) (xS X) 0 0 (eF E)) σ 33 [(0, vR E 0), (1, vI l1), (2, vI l2)] [] := ih
    replace h : (5866 ≤ l2 → wp_X11_settled 0 σ (fun r18 s19 => Q r18 s19)) ∧ (¬ 5866 ≤ l2 → ix (wr ((5866 * l1) + l2)) 11732 ∧ ix l2 5866 ∧ ∀ s23 : st_S, s23 = sI σ 2 (Int.toNat l2) (gI σ 3 (Int.toNat (wr ((5866 * l1) + l2)))) → ∀ x24 : Int, x24 = wr (l2 + 1) → (L_X11_back_33 Q n) l1 x24 s23) := h
    refine j_iload_n hc 2 dX11_back_33 rfl rfl ?_
    refine j_sipush hc dX11_back_34 (by decide) ?_
    refine j_ic_ge hc cl2 (wlit 5866 (by decide)) (tgt := 64) dX11_back_37 (by decide) (fun q25 => ?_) (fun q25 => ?_)
    · replace h := h.1 q25
      refine j_aload_nR hc 0 dX11_back_64 rfl rfl ?_
      refine j_iconst hc dX11_back_65 ?_
      refine j_vI hc (k := 11) (by decide) (fun hv => Or.inl (sv_k hv hm rfl)) ml_RX11_113 mv_X11_settled (As := [vI 0]) (c_X11_settled (cx_E hc) hm (wlit 0 (by decide)) h) rfl (by omega) (by decide) ⟨Nat.zero_le _, Nat.zero_le _⟩ (Nat.le_of_ble_eq_true rfl) rfl dX11_back_66 (fun r18 s19 cr18 h => ?_)
      exact j_iret hc hr cr18 h dX11_back_69
    · replace h := h.2 q25
      refine j_aload_nR hc 0 dX11_back_40 rfl rfl ?_
      refine j_getR (c' := 2) hc fl_RX11_24 rfl rfl (fun hv => (sv_k hv hm rfl)) dX11_back_41 ?_
      refine j_iload_n hc 2 dX11_back_44 rfl rfl ?_
      refine j_aload_nR hc 0 dX11_back_45 rfl rfl ?_
      refine j_getR (c' := 3) hc fl_RX11_27 rfl rfl (fun hv => (sv_k hv hm rfl)) dX11_back_46 ?_
      refine j_sipush hc dX11_back_49 (by decide) ?_
      refine j_iload_n hc 1 dX11_back_52 rfl rfl ?_
      refine j_imul hc dX11_back_53 ?_
      refine j_iload_n hc 2 dX11_back_54 rfl rfl ?_
      refine j_iadd hc dX11_back_55 ?_
      obtain ⟨b20, h⟩ := h
      refine j_iald (jn := (Int.toNat (wr ((5866 * l1) + l2)))) hc (fun hv => sv_kl hv hm rfl) rfl b20 rfl dX11_back_56 (fun cn21 => ?_)
      obtain ⟨b22, h⟩ := h
      refine j_iast (jn := (Int.toNat l2)) hc (fun hv => sv_kl hv hm rfl) cl2 b22 rfl cn21 dX11_back_57 (fun s23 es23 => ?_)
      replace h := h s23 es23
      obtain ⟨x24, ex24⟩ : ∃ y : Int, y = wr (l2 + 1) := ⟨_, rfl⟩
      have cx24 : wr x24 = x24 := by rw [ex24]; exact wr_wr _
      replace h := h x24 ex24
      refine j_iinc (lv' := [(2, vI x24), (0, vR E 0), (1, vI l1)]) hc 2 dX11_back_58 rfl (by decide) ex24 rfl ?_
      refine j_goto (tgt := 33) hc dX11_back_61 (by decide) ?_
      refine j_sub (lv' := [(0, vR E 0), (1, vI l1), (2, vI x24)]) [1, 2, 0] rfl ?_
      exact hk33 cl1 cx24 h
set_option maxRecDepth 20000 in
theorem c_X11_back {l : Launch} {E : ev_E} (hE : Eok E) (hm : eM E = 2) {a1 : Int} (ca1 : wr a1 = a1) {σ : st_S} {Q : Int → st_S → Prop} (h : wp_X11_back a1 σ Q) : cM l yX11_back cX11_back 3 (some .int) E 3 0 0 [vR E 0, vI a1] σ (qI E (gN σ + 0) Q) := by
  refine cM_of (lv := [(0, vR E 0), (1, vI a1)]) (by decide) hE (Nat.le_of_ble_eq_true rfl) (rfl) ?_
  intro X hX hc _ _ hr _ _
  subst hX
  have hh : 3 ≤ 3 := Nat.le_refl _
  have hh1 : 1 ≤ 3 := by omega
  replace h : wp_X11_lies a1 0 1 σ (fun r26 s27 => (¬ r26 = 0 → ix a1 2 ∧ (¬ gI s27 4 (Int.toNat a1) = 0 → ∃ m33 : Nat, L_X11_back_33 Q m33 a1 0 s27) ∧ (gI s27 4 (Int.toNat a1) = 0 → wp_X11_refuses (-2) s27 (fun r30 s31 => Q r30 s31))) ∧ (r26 = 0 → wp_X11_refuses (-1) s27 (fun r33 s34 => Q r33 s34))) := h
  refine j_iload_n hc 1 dX11_back_0 rfl rfl ?_
  refine j_iconst hc dX11_back_1 ?_
  refine j_iconst hc dX11_back_2 ?_
  refine j_sI hc ml_RX11_106 mv_X11_lies (As := [vI a1, vI 0, vI 1]) (c_X11_lies (cx_E hc) hm ca1 (wlit 0 (by decide)) (wlit 1 (by decide)) h) rfl (by omega) (by decide) ⟨Nat.zero_le _, Nat.zero_le _⟩ (Nat.le_of_ble_eq_true rfl) rfl dX11_back_3 (fun r26 s27 cr26 h => ?_)
  refine j_if_ne hc cr26 (tgt := 15) dX11_back_6 (by decide) (fun q35 => ?_) (fun q35 => ?_)
  · replace h := h.1 q35
    refine j_aload_nR hc 0 dX11_back_15 rfl rfl ?_
    refine j_getR (c' := 4) hc fl_RX11_30 rfl rfl (fun hv => (sv_k hv hm rfl)) dX11_back_16 ?_
    refine j_iload_n hc 1 dX11_back_19 rfl rfl ?_
    obtain ⟨b28, h⟩ := h
    refine j_zald (jn := (Int.toNat a1)) hc (fun hv => sv_kl hv hm rfl) ca1 b28 rfl dX11_back_20 (fun cn29 => ?_)
    refine j_if_ne hc cn29 (tgt := 31) dX11_back_21 (by decide) (fun q32 => ?_) (fun q32 => ?_)
    · replace h := h.1 q32
      refine j_iconst hc dX11_back_31 ?_
      refine j_istore_n (lv' := [(2, vI 0), (0, vR E 0), (1, vI a1)]) hc dX11_back_32 rfl (by decide) rfl ?_
      obtain ⟨n33, h⟩ := h
      refine j_sub (lv' := [(0, vR E 0), (1, vI a1), (2, vI 0)]) [1, 2, 0] rfl ?_
      exact jl_X11_back_33 hc hm hr hh n33 ca1 (wlit 0 (by decide)) h
    · replace h := h.2 q32
      refine j_aload_nR hc 0 dX11_back_24 rfl rfl ?_
      refine j_bipush hc dX11_back_25 (by decide) ?_
      refine j_vI hc (k := 11) (by decide) (fun hv => Or.inl (sv_k hv hm rfl)) ml_RX11_110 mv_X11_refuses (As := [vI (-2)]) (c_X11_refuses (cx_E hc) hm (wlit (-2) (by decide)) h) rfl (by omega) (by decide) ⟨Nat.zero_le _, Nat.zero_le _⟩ (Nat.le_of_ble_eq_true rfl) rfl dX11_back_27 (fun r30 s31 cr30 h => ?_)
      exact j_iret hc hr cr30 h dX11_back_30
  · replace h := h.2 q35
    refine j_aload_nR hc 0 dX11_back_9 rfl rfl ?_
    refine j_iconst hc dX11_back_10 ?_
    refine j_vI hc (k := 11) (by decide) (fun hv => Or.inl (sv_k hv hm rfl)) ml_RX11_110 mv_X11_refuses (As := [vI (-1)]) (c_X11_refuses (cx_E hc) hm (wlit (-1) (by decide)) h) rfl (by omega) (by decide) ⟨Nat.zero_le _, Nat.zero_le _⟩ (Nat.le_of_ble_eq_true rfl) rfl dX11_back_11 (fun r33 s34 cr33 h => ?_)
    exact j_iret hc hr cr33 h dX11_back_14
-- LitStrangersModel.people()I
theorem dX11_people_0 : decode cX11_people 0 = .ok (.aload_n 0, 1) := by decide +kernel
theorem dX11_people_1 : decode cX11_people 1 = .ok (.getfield 24, 3) := by decide +kernel
theorem dX11_people_4 : decode cX11_people 4 = .ok (.sipush 256, 3) := by decide +kernel
theorem dX11_people_7 : decode cX11_people 7 = .ok (.iaload, 1) := by decide +kernel
theorem dX11_people_8 : decode cX11_people 8 = .ok (.ireturn, 1) := by decide +kernel
def wp_X11_people  (σ : st_S) (Q : Int → st_S → Prop) : Prop := Q (gI σ 2 256) σ
set_option maxRecDepth 20000 in
theorem c_X11_people {l : Launch} {E : ev_E} (hE : Eok E) (hm : eM E = 2) {σ : st_S} {Q : Int → st_S → Prop} (h : wp_X11_people σ Q) : cM l yX11_people cX11_people 1 (some .int) E 1 0 0 [vR E 0] σ (qI E (gN σ + 0) Q) := by
  refine cM_of (lv := [(0, vR E 0)]) (by decide) hE (Nat.le_of_ble_eq_true rfl) (rfl) ?_
  intro X hX hc _ _ hr _ _
  subst hX
  have hh : 1 ≤ 1 := Nat.le_refl _
  have hh1 : 1 ≤ 1 := by omega
  replace h : Q (gI σ 2 256) σ := h
  refine j_aload_nR hc 0 dX11_people_0 rfl rfl ?_
  refine j_getR (c' := 2) hc fl_RX11_24 rfl rfl (fun hv => (sv_k hv hm rfl)) dX11_people_1 ?_
  refine j_sipush hc dX11_people_4 (by decide) ?_
  refine j_iald (jn := 256) hc (fun hv => sv_kl hv hm rfl) (wlit 256 (by decide)) ⟨by decide, by decide⟩ rfl dX11_people_7 (fun cn3 => ?_)
  exact j_iret hc hr cn3 h dX11_people_8
-- LitStrangersModel.isPerson(I)Z
theorem dX11_isPerson_0 : decode cX11_isPerson 0 = .ok (.iload_n 1, 1) := by decide +kernel
theorem dX11_isPerson_1 : decode cX11_isPerson 1 = .ok (.iconst 0, 1) := by decide +kernel
theorem dX11_isPerson_2 : decode cX11_isPerson 2 = .ok (.aload_n 0, 1) := by decide +kernel
theorem dX11_isPerson_3 : decode cX11_isPerson 3 = .ok (.invokevirtual 116, 3) := by decide +kernel
theorem dX11_isPerson_6 : decode cX11_isPerson 6 = .ok (.iconst 1, 1) := by decide +kernel
theorem dX11_isPerson_7 : decode cX11_isPerson 7 = .ok (.isub, 1) := by decide +kernel
theorem dX11_isPerson_8 : decode cX11_isPerson 8 = .ok (.invokestatic 106, 3) := by decide +kernel
theorem dX11_isPerson_11 : decode cX11_isPerson 11 = .ok (.ireturn, 1) := by decide +kernel
def wp_X11_isPerson (a1 : Int) (σ : st_S) (Q : Int → st_S → Prop) : Prop := wp_X11_people σ (fun r5 s6 => wp_X11_lies a1 0 (wr (r5 - 1)) s6 (fun r7 s8 => (r7 = 0 ∨ r7 = 1) ∧ Q r7 s8))
set_option maxRecDepth 20000 in
theorem c_X11_isPerson {l : Launch} {E : ev_E} (hE : Eok E) (hm : eM E = 2) {a1 : Int} (ca1 : wr a1 = a1) {σ : st_S} {Q : Int → st_S → Prop} (h : wp_X11_isPerson a1 σ Q) : cM l yX11_isPerson cX11_isPerson 2 (some .boolean) E 2 0 0 [vR E 0, vI a1] σ (qI E (gN σ + 0) Q) := by
  refine cM_of (lv := [(0, vR E 0), (1, vI a1)]) (by decide) hE (Nat.le_of_ble_eq_true rfl) (rfl) ?_
  intro X hX hc _ _ hr _ _
  subst hX
  have hh : 2 ≤ 2 := Nat.le_refl _
  have hh1 : 1 ≤ 2 := by omega
  replace h : wp_X11_people σ (fun r5 s6 => wp_X11_lies a1 0 (wr (r5 - 1)) s6 (fun r7 s8 => (r7 = 0 ∨ r7 = 1) ∧ Q r7 s8)) := h
  refine j_iload_n hc 1 dX11_isPerson_0 rfl rfl ?_
  refine j_iconst hc dX11_isPerson_1 ?_
  refine j_aload_nR hc 0 dX11_isPerson_2 rfl rfl ?_
  refine j_vI hc (k := 11) (by decide) (fun hv => Or.inl (sv_k hv hm rfl)) ml_RX11_116 mv_X11_people (As := []) (c_X11_people (cx_E hc) hm  h) rfl (by omega) (by decide) ⟨Nat.zero_le _, Nat.zero_le _⟩ (Nat.le_of_ble_eq_true rfl) rfl dX11_isPerson_3 (fun r5 s6 cr5 h => ?_)
  refine j_iconst hc dX11_isPerson_6 ?_
  refine j_isub hc dX11_isPerson_7 ?_
  refine j_sI hc ml_RX11_106 mv_X11_lies (As := [vI a1, vI 0, vI (wr (r5 - 1))]) (c_X11_lies (cx_E hc) hm ca1 (wlit 0 (by decide)) (wr_wr _) h) rfl (by omega) (by decide) ⟨Nat.zero_le _, Nat.zero_le _⟩ (Nat.le_of_ble_eq_true rfl) (by simp only [vI_wr, vL_wl]; rfl) dX11_isPerson_8 (fun r7 s8 cr7 h => ?_)
  exact j_zret hc hr (nar_bool h.1) (by rcases h.1 with e | e <;> (rw [e]; decide)) h.2 dX11_isPerson_11
-- LitStrangersModel.canBe(II)Z
theorem dX11_canBe_0 : decode cX11_canBe 0 = .ok (.iload_n 0, 1) := by decide +kernel
theorem dX11_canBe_1 : decode cX11_canBe 1 = .ok (.iconst 0, 1) := by decide +kernel
theorem dX11_canBe_2 : decode cX11_canBe 2 = .ok (.bipush 30, 2) := by decide +kernel
theorem dX11_canBe_4 : decode cX11_canBe 4 = .ok (.invokestatic 106, 3) := by decide +kernel
theorem dX11_canBe_7 : decode cX11_canBe 7 = .ok (.ifCond .eq 16, 3) := by decide +kernel
theorem dX11_canBe_10 : decode cX11_canBe 10 = .ok (.iload_n 1, 1) := by decide +kernel
theorem dX11_canBe_11 : decode cX11_canBe 11 = .ok (.iconst 0, 1) := by decide +kernel
theorem dX11_canBe_12 : decode cX11_canBe 12 = .ok (.iconst 3, 1) := by decide +kernel
theorem dX11_canBe_13 : decode cX11_canBe 13 = .ok (.invokestatic 106, 3) := by decide +kernel
theorem dX11_canBe_16 : decode cX11_canBe 16 = .ok (.ifCond .eq 7, 3) := by decide +kernel
theorem dX11_canBe_19 : decode cX11_canBe 19 = .ok (.iconst 1, 1) := by decide +kernel
theorem dX11_canBe_20 : decode cX11_canBe 20 = .ok (.goto 4, 3) := by decide +kernel
theorem dX11_canBe_23 : decode cX11_canBe 23 = .ok (.iconst 0, 1) := by decide +kernel
theorem dX11_canBe_24 : decode cX11_canBe 24 = .ok (.ireturn, 1) := by decide +kernel
def B_X11_canBe_24 (Q : Int → st_S → Prop)   (v0 : Int) (σ : st_S) : Prop := (v0 = 0 ∨ v0 = 1) ∧ Q v0 σ
def B_X11_canBe_23 (Q : Int → st_S → Prop)    (σ : st_S) : Prop := B_X11_canBe_24 Q 0 σ
def wp_X11_canBe (a1 : Int) (a2 : Int) (σ : st_S) (Q : Int → st_S → Prop) : Prop := wp_X11_lies a1 0 30 σ (fun r5 s6 => (r5 = 0 → B_X11_canBe_23 Q s6) ∧ (¬ r5 = 0 → wp_X11_lies a2 0 3 s6 (fun r7 s8 => (r7 = 0 → B_X11_canBe_23 Q s8) ∧ (¬ r7 = 0 → B_X11_canBe_24 Q 1 s8))))
set_option maxRecDepth 20000 in
theorem jb_X11_canBe_24 {X : jj_X} {E : ev_E} {n0 hN : Nat} (hc : Cx X E cX11_canBe 2 n0 hN RX11) (hm : eM E = 2) (hr : (xT X).sig.returnType = (some .boolean)) (hh : 2 ≤ hN) {Q : Int → st_S → Prop} {v0 : Int} (cv0 : wr v0 = v0) {σ : st_S} (h : B_X11_canBe_24 Q v0 σ) : J X E 2 n0 0 0 (MQ (xB X) (qI E (n0 + 0) Q) (xA X) (xS X) 0 0 (eF E)) σ 24 [] [vI v0] := by
  have hh1 : 1 ≤ hN := by omega
  replace h : (v0 = 0 ∨ v0 = 1) ∧ Q v0 σ := h
  exact j_zret hc hr (nar_bool h.1) (by rcases h.1 with e | e <;> (rw [e]; decide)) h.2 dX11_canBe_24
set_option maxRecDepth 20000 in
theorem jb_X11_canBe_23 {X : jj_X} {E : ev_E} {n0 hN : Nat} (hc : Cx X E cX11_canBe 2 n0 hN RX11) (hm : eM E = 2) (hr : (xT X).sig.returnType = (some .boolean)) (hh : 2 ≤ hN) {Q : Int → st_S → Prop} {σ : st_S} (h : B_X11_canBe_23 Q σ) : J X E 2 n0 0 0 (MQ (xB X) (qI E (n0 + 0) Q) (xA X) (xS X) 0 0 (eF E)) σ 23 [] [] := by
  have hh1 : 1 ≤ hN := by omega
  replace h : B_X11_canBe_24 Q 0 σ := h
  refine j_iconst hc dX11_canBe_23 ?_
  refine j_sub (lv' := []) [] rfl ?_
  exact jb_X11_canBe_24 hc hm hr hh (wlit 0 (by decide)) h
set_option maxRecDepth 20000 in
theorem c_X11_canBe {l : Launch} {E : ev_E} (hE : Eok E) (hm : eM E = 2) {a1 : Int} {a2 : Int} (ca1 : wr a1 = a1) (ca2 : wr a2 = a2) {σ : st_S} {Q : Int → st_S → Prop} (h : wp_X11_canBe a1 a2 σ Q) : cM l yX11_canBe cX11_canBe 2 (some .boolean) E 2 0 0 [vI a1, vI a2] σ (qI E (gN σ + 0) Q) := by
  refine cM_of (lv := [(0, vI a1), (1, vI a2)]) (by decide) hE (Nat.le_of_ble_eq_true rfl) (rfl) ?_
  intro X hX hc _ _ hr _ _
  subst hX
  have hh : 2 ≤ 2 := Nat.le_refl _
  have hh1 : 1 ≤ 2 := by omega
  replace h : wp_X11_lies a1 0 30 σ (fun r5 s6 => (r5 = 0 → B_X11_canBe_23 Q s6) ∧ (¬ r5 = 0 → wp_X11_lies a2 0 3 s6 (fun r7 s8 => (r7 = 0 → B_X11_canBe_23 Q s8) ∧ (¬ r7 = 0 → B_X11_canBe_24 Q 1 s8)))) := h
  refine j_iload_n hc 0 dX11_canBe_0 rfl rfl ?_
  refine j_iconst hc dX11_canBe_1 ?_
  refine j_bipush hc dX11_canBe_2 (by decide) ?_
  refine j_sI hc ml_RX11_106 mv_X11_lies (As := [vI a1, vI 0, vI 30]) (c_X11_lies (cx_E hc) hm ca1 (wlit 0 (by decide)) (wlit 30 (by decide)) h) rfl (by omega) (by decide) ⟨Nat.zero_le _, Nat.zero_le _⟩ (Nat.le_of_ble_eq_true rfl) rfl dX11_canBe_4 (fun r5 s6 cr5 h => ?_)
  refine j_if_eq hc cr5 (tgt := 23) dX11_canBe_7 (by decide) (fun q10 => ?_) (fun q10 => ?_)
  · replace h := h.1 q10
    refine j_sub (lv' := []) [] rfl ?_
    exact jb_X11_canBe_23 hc hm hr hh h
  · replace h := h.2 q10
    refine j_iload_n hc 1 dX11_canBe_10 rfl rfl ?_
    refine j_iconst hc dX11_canBe_11 ?_
    refine j_iconst hc dX11_canBe_12 ?_
    refine j_sI hc ml_RX11_106 mv_X11_lies (As := [vI a2, vI 0, vI 3]) (c_X11_lies (cx_E hc) hm ca2 (wlit 0 (by decide)) (wlit 3 (by decide)) h) rfl (by omega) (by decide) ⟨Nat.zero_le _, Nat.zero_le _⟩ (Nat.le_of_ble_eq_true rfl) rfl dX11_canBe_13 (fun r7 s8 cr7 h => ?_)
    refine j_if_eq hc cr7 (tgt := 23) dX11_canBe_16 (by decide) (fun q9 => ?_) (fun q9 => ?_)
    · replace h := h.1 q9
      refine j_sub (lv' := []) [] rfl ?_
      exact jb_X11_canBe_23 hc hm hr hh h
    · replace h := h.2 q9
      refine j_iconst hc dX11_canBe_19 ?_
      refine j_goto (tgt := 24) hc dX11_canBe_20 (by decide) ?_
      refine j_sub (lv' := []) [] rfl ?_
      exact jb_X11_canBe_24 hc hm hr hh (wlit 1 (by decide)) h
-- LitStrangersModel.roadOf(I)I
theorem dX11_roadOf_0 : decode cX11_roadOf 0 = .ok (.aload_n 0, 1) := by decide +kernel
theorem dX11_roadOf_1 : decode cX11_roadOf 1 = .ok (.getfield 24, 3) := by decide +kernel
theorem dX11_roadOf_4 : decode cX11_roadOf 4 = .ok (.bipush 34, 2) := by decide +kernel
theorem dX11_roadOf_6 : decode cX11_roadOf 6 = .ok (.iconst 2, 1) := by decide +kernel
theorem dX11_roadOf_7 : decode cX11_roadOf 7 = .ok (.iload_n 1, 1) := by decide +kernel
theorem dX11_roadOf_8 : decode cX11_roadOf 8 = .ok (.imul, 1) := by decide +kernel
theorem dX11_roadOf_9 : decode cX11_roadOf 9 = .ok (.iadd, 1) := by decide +kernel
theorem dX11_roadOf_10 : decode cX11_roadOf 10 = .ok (.iaload, 1) := by decide +kernel
theorem dX11_roadOf_11 : decode cX11_roadOf 11 = .ok (.ireturn, 1) := by decide +kernel
def wp_X11_roadOf (a1 : Int) (σ : st_S) (Q : Int → st_S → Prop) : Prop := ix (wr (34 + (2 * a1))) 5866 ∧ Q (gI σ 2 (Int.toNat (wr (34 + (2 * a1))))) σ
set_option maxRecDepth 20000 in
theorem c_X11_roadOf {l : Launch} {E : ev_E} (hE : Eok E) (hm : eM E = 2) {a1 : Int} (ca1 : wr a1 = a1) {σ : st_S} {Q : Int → st_S → Prop} (h : wp_X11_roadOf a1 σ Q) : cM l yX11_roadOf cX11_roadOf 2 (some .int) E 1 0 0 [vR E 0, vI a1] σ (qI E (gN σ + 0) Q) := by
  refine cM_of (lv := [(0, vR E 0), (1, vI a1)]) (by decide) hE (Nat.le_of_ble_eq_true rfl) (rfl) ?_
  intro X hX hc _ _ hr _ _
  subst hX
  have hh : 1 ≤ 1 := Nat.le_refl _
  have hh1 : 1 ≤ 1 := by omega
  replace h : ix (wr (34 + (2 * a1))) 5866 ∧ Q (gI σ 2 (Int.toNat (wr (34 + (2 * a1))))) σ := h
  refine j_aload_nR hc 0 dX11_roadOf_0 rfl rfl ?_
  refine j_getR (c' := 2) hc fl_RX11_24 rfl rfl (fun hv => (sv_k hv hm rfl)) dX11_roadOf_1 ?_
  refine j_bipush hc dX11_roadOf_4 (by decide) ?_
  refine j_iconst hc dX11_roadOf_6 ?_
  refine j_iload_n hc 1 dX11_roadOf_7 rfl rfl ?_
  refine j_imul hc dX11_roadOf_8 ?_
  refine j_iadd hc dX11_roadOf_9 ?_
  obtain ⟨b3, h⟩ := h
  refine j_iald (jn := (Int.toNat (wr (34 + (2 * a1))))) hc (fun hv => sv_kl hv hm rfl) rfl b3 rfl dX11_roadOf_10 (fun cn4 => ?_)
  exact j_iret hc hr cn4 h dX11_roadOf_11
-- LitStrangersModel.landOf(I)I
theorem dX11_landOf_0 : decode cX11_landOf 0 = .ok (.aload_n 0, 1) := by decide +kernel
theorem dX11_landOf_1 : decode cX11_landOf 1 = .ok (.getfield 24, 3) := by decide +kernel
theorem dX11_landOf_4 : decode cX11_landOf 4 = .ok (.bipush 34, 2) := by decide +kernel
theorem dX11_landOf_6 : decode cX11_landOf 6 = .ok (.iconst 2, 1) := by decide +kernel
theorem dX11_landOf_7 : decode cX11_landOf 7 = .ok (.iload_n 1, 1) := by decide +kernel
theorem dX11_landOf_8 : decode cX11_landOf 8 = .ok (.imul, 1) := by decide +kernel
theorem dX11_landOf_9 : decode cX11_landOf 9 = .ok (.iadd, 1) := by decide +kernel
theorem dX11_landOf_10 : decode cX11_landOf 10 = .ok (.iconst 1, 1) := by decide +kernel
theorem dX11_landOf_11 : decode cX11_landOf 11 = .ok (.iadd, 1) := by decide +kernel
theorem dX11_landOf_12 : decode cX11_landOf 12 = .ok (.iaload, 1) := by decide +kernel
theorem dX11_landOf_13 : decode cX11_landOf 13 = .ok (.ireturn, 1) := by decide +kernel
def wp_X11_landOf (a1 : Int) (σ : st_S) (Q : Int → st_S → Prop) : Prop := ix (wr ((34 + (2 * a1)) + 1)) 5866 ∧ Q (gI σ 2 (Int.toNat (wr ((34 + (2 * a1)) + 1)))) σ
set_option maxRecDepth 20000 in
theorem c_X11_landOf {l : Launch} {E : ev_E} (hE : Eok E) (hm : eM E = 2) {a1 : Int} (ca1 : wr a1 = a1) {σ : st_S} {Q : Int → st_S → Prop} (h : wp_X11_landOf a1 σ Q) : cM l yX11_landOf cX11_landOf 2 (some .int) E 1 0 0 [vR E 0, vI a1] σ (qI E (gN σ + 0) Q) := by
  refine cM_of (lv := [(0, vR E 0), (1, vI a1)]) (by decide) hE (Nat.le_of_ble_eq_true rfl) (rfl) ?_
  intro X hX hc _ _ hr _ _
  subst hX
  have hh : 1 ≤ 1 := Nat.le_refl _
  have hh1 : 1 ≤ 1 := by omega
  replace h : ix (wr ((34 + (2 * a1)) + 1)) 5866 ∧ Q (gI σ 2 (Int.toNat (wr ((34 + (2 * a1)) + 1)))) σ := h
  refine j_aload_nR hc 0 dX11_landOf_0 rfl rfl ?_
  refine j_getR (c' := 2) hc fl_RX11_24 rfl rfl (fun hv => (sv_k hv hm rfl)) dX11_landOf_1 ?_
  refine j_bipush hc dX11_landOf_4 (by decide) ?_
  refine j_iconst hc dX11_landOf_6 ?_
  refine j_iload_n hc 1 dX11_landOf_7 rfl rfl ?_
  refine j_imul hc dX11_landOf_8 ?_
  refine j_iadd hc dX11_landOf_9 ?_
  refine j_iconst hc dX11_landOf_10 ?_
  refine j_iadd hc dX11_landOf_11 ?_
  obtain ⟨b3, h⟩ := h
  refine j_iald (jn := (Int.toNat (wr ((34 + (2 * a1)) + 1)))) hc (fun hv => sv_kl hv hm rfl) rfl b3 rfl dX11_landOf_12 (fun cn4 => ?_)
  exact j_iret hc hr cn4 h dX11_landOf_13
-- LitStrangersModel.adds(III)V
theorem dX11_adds_0 : decode cX11_adds 0 = .ok (.aload_n 0, 1) := by decide +kernel
theorem dX11_adds_1 : decode cX11_adds 1 = .ok (.invokevirtual 116, 3) := by decide +kernel
theorem dX11_adds_4 : decode cX11_adds 4 = .ok (.istore 4, 2) := by decide +kernel
theorem dX11_adds_6 : decode cX11_adds 6 = .ok (.aload_n 0, 1) := by decide +kernel
theorem dX11_adds_7 : decode cX11_adds 7 = .ok (.getfield 24, 3) := by decide +kernel
theorem dX11_adds_10 : decode cX11_adds 10 = .ok (.bipush 34, 2) := by decide +kernel
theorem dX11_adds_12 : decode cX11_adds 12 = .ok (.iconst 2, 1) := by decide +kernel
theorem dX11_adds_13 : decode cX11_adds 13 = .ok (.iload 4, 2) := by decide +kernel
theorem dX11_adds_15 : decode cX11_adds 15 = .ok (.imul, 1) := by decide +kernel
theorem dX11_adds_16 : decode cX11_adds 16 = .ok (.iadd, 1) := by decide +kernel
theorem dX11_adds_17 : decode cX11_adds 17 = .ok (.iload_n 1, 1) := by decide +kernel
theorem dX11_adds_18 : decode cX11_adds 18 = .ok (.iastore, 1) := by decide +kernel
theorem dX11_adds_19 : decode cX11_adds 19 = .ok (.aload_n 0, 1) := by decide +kernel
theorem dX11_adds_20 : decode cX11_adds 20 = .ok (.getfield 24, 3) := by decide +kernel
theorem dX11_adds_23 : decode cX11_adds 23 = .ok (.bipush 34, 2) := by decide +kernel
theorem dX11_adds_25 : decode cX11_adds 25 = .ok (.iconst 2, 1) := by decide +kernel
theorem dX11_adds_26 : decode cX11_adds 26 = .ok (.iload 4, 2) := by decide +kernel
theorem dX11_adds_28 : decode cX11_adds 28 = .ok (.imul, 1) := by decide +kernel
theorem dX11_adds_29 : decode cX11_adds 29 = .ok (.iadd, 1) := by decide +kernel
theorem dX11_adds_30 : decode cX11_adds 30 = .ok (.iconst 1, 1) := by decide +kernel
theorem dX11_adds_31 : decode cX11_adds 31 = .ok (.iadd, 1) := by decide +kernel
theorem dX11_adds_32 : decode cX11_adds 32 = .ok (.iload_n 2, 1) := by decide +kernel
theorem dX11_adds_33 : decode cX11_adds 33 = .ok (.iastore, 1) := by decide +kernel
theorem dX11_adds_34 : decode cX11_adds 34 = .ok (.aload_n 0, 1) := by decide +kernel
theorem dX11_adds_35 : decode cX11_adds 35 = .ok (.getfield 24, 3) := by decide +kernel
theorem dX11_adds_38 : decode cX11_adds 38 = .ok (.iconst 0, 1) := by decide +kernel
theorem dX11_adds_39 : decode cX11_adds 39 = .ok (.iload 4, 2) := by decide +kernel
theorem dX11_adds_41 : decode cX11_adds 41 = .ok (.iadd, 1) := by decide +kernel
theorem dX11_adds_42 : decode cX11_adds 42 = .ok (.iconst 0, 1) := by decide +kernel
theorem dX11_adds_43 : decode cX11_adds 43 = .ok (.iastore, 1) := by decide +kernel
theorem dX11_adds_44 : decode cX11_adds 44 = .ok (.aload_n 0, 1) := by decide +kernel
theorem dX11_adds_45 : decode cX11_adds 45 = .ok (.getfield 24, 3) := by decide +kernel
theorem dX11_adds_48 : decode cX11_adds 48 = .ok (.bipush 10, 2) := by decide +kernel
theorem dX11_adds_50 : decode cX11_adds 50 = .ok (.iload 4, 2) := by decide +kernel
theorem dX11_adds_52 : decode cX11_adds 52 = .ok (.iadd, 1) := by decide +kernel
theorem dX11_adds_53 : decode cX11_adds 53 = .ok (.iconst (-1), 1) := by decide +kernel
theorem dX11_adds_54 : decode cX11_adds 54 = .ok (.iastore, 1) := by decide +kernel
theorem dX11_adds_55 : decode cX11_adds 55 = .ok (.aload_n 0, 1) := by decide +kernel
theorem dX11_adds_56 : decode cX11_adds 56 = .ok (.getfield 24, 3) := by decide +kernel
theorem dX11_adds_59 : decode cX11_adds 59 = .ok (.bipush 20, 2) := by decide +kernel
theorem dX11_adds_61 : decode cX11_adds 61 = .ok (.iload 4, 2) := by decide +kernel
theorem dX11_adds_63 : decode cX11_adds 63 = .ok (.iadd, 1) := by decide +kernel
theorem dX11_adds_64 : decode cX11_adds 64 = .ok (.iload_n 3, 1) := by decide +kernel
theorem dX11_adds_65 : decode cX11_adds 65 = .ok (.iastore, 1) := by decide +kernel
theorem dX11_adds_66 : decode cX11_adds 66 = .ok (.aload_n 0, 1) := by decide +kernel
theorem dX11_adds_67 : decode cX11_adds 67 = .ok (.getfield 24, 3) := by decide +kernel
theorem dX11_adds_70 : decode cX11_adds 70 = .ok (.sipush 256, 3) := by decide +kernel
theorem dX11_adds_73 : decode cX11_adds 73 = .ok (.dup2, 1) := by decide +kernel
theorem dX11_adds_74 : decode cX11_adds 74 = .ok (.iaload, 1) := by decide +kernel
theorem dX11_adds_75 : decode cX11_adds 75 = .ok (.iconst 1, 1) := by decide +kernel
theorem dX11_adds_76 : decode cX11_adds 76 = .ok (.iadd, 1) := by decide +kernel
theorem dX11_adds_77 : decode cX11_adds 77 = .ok (.iastore, 1) := by decide +kernel
theorem dX11_adds_78 : decode cX11_adds 78 = .ok (.return_, 1) := by decide +kernel
def wp_X11_adds (a1 : Int) (a2 : Int) (a3 : Int) (σ : st_S) (Q : st_S → Prop) : Prop := wp_X11_people σ (fun r24 s25 => ix (wr (34 + (2 * r24))) 5866 ∧ ∀ s27 : st_S, s27 = sI s25 2 (Int.toNat (wr (34 + (2 * r24)))) a1 → ix (wr ((34 + (2 * r24)) + 1)) 5866 ∧ ∀ s29 : st_S, s29 = sI s27 2 (Int.toNat (wr ((34 + (2 * r24)) + 1))) a2 → ix (wr (0 + r24)) 5866 ∧ ∀ s31 : st_S, s31 = sI s29 2 (Int.toNat (wr (0 + r24))) 0 → ix (wr (10 + r24)) 5866 ∧ ∀ s33 : st_S, s33 = sI s31 2 (Int.toNat (wr (10 + r24))) (-1) → ix (wr (20 + r24)) 5866 ∧ ∀ s35 : st_S, s35 = sI s33 2 (Int.toNat (wr (20 + r24))) a3 → ∀ x37 : Int, x37 = wr (gI s35 2 256 + 1) → ∀ s38 : st_S, s38 = sI s35 2 256 x37 → Q s38)
set_option maxRecDepth 20000 in
theorem c_X11_adds {l : Launch} {E : ev_E} (hE : Eok E) (hm : eM E = 2) {a1 : Int} {a2 : Int} {a3 : Int} (ca1 : wr a1 = a1) (ca2 : wr a2 = a2) (ca3 : wr a3 = a3) {σ : st_S} {Q : st_S → Prop} (h : wp_X11_adds a1 a2 a3 σ Q) : cM l yX11_adds cX11_adds 5 none E 2 0 0 [vR E 0, vI a1, vI a2, vI a3] σ (qV E (gN σ + 0) Q) := by
  refine cM_of (lv := [(0, vR E 0), (1, vI a1), (2, vI a2), (3, vI a3)]) (by decide) hE (Nat.le_of_ble_eq_true rfl) (rfl) ?_
  intro X hX hc _ _ hr _ _
  subst hX
  have hh : 2 ≤ 2 := Nat.le_refl _
  have hh1 : 1 ≤ 2 := by omega
  replace h : wp_X11_people σ (fun r24 s25 => ix (wr (34 + (2 * r24))) 5866 ∧ ∀ s27 : st_S, s27 = sI s25 2 (Int.toNat (wr (34 + (2 * r24)))) a1 → ix (wr ((34 + (2 * r24)) + 1)) 5866 ∧ ∀ s29 : st_S, s29 = sI s27 2 (Int.toNat (wr ((34 + (2 * r24)) + 1))) a2 → ix (wr (0 + r24)) 5866 ∧ ∀ s31 : st_S, s31 = sI s29 2 (Int.toNat (wr (0 + r24))) 0 → ix (wr (10 + r24)) 5866 ∧ ∀ s33 : st_S, s33 = sI s31 2 (Int.toNat (wr (10 + r24))) (-1) → ix (wr (20 + r24)) 5866 ∧ ∀ s35 : st_S, s35 = sI s33 2 (Int.toNat (wr (20 + r24))) a3 → ∀ x37 : Int, x37 = wr (gI s35 2 256 + 1) → ∀ s38 : st_S, s38 = sI s35 2 256 x37 → Q s38) := h
  refine j_aload_nR hc 0 dX11_adds_0 rfl rfl ?_
  refine j_vI hc (k := 11) (by decide) (fun hv => Or.inl (sv_k hv hm rfl)) ml_RX11_116 mv_X11_people (As := []) (c_X11_people (cx_E hc) hm  h) rfl (by omega) (by decide) ⟨Nat.zero_le _, Nat.zero_le _⟩ (Nat.le_of_ble_eq_true rfl) rfl dX11_adds_1 (fun r24 s25 cr24 h => ?_)
  refine j_istore (lv' := [(4, vI r24), (0, vR E 0), (1, vI a1), (2, vI a2), (3, vI a3)]) hc dX11_adds_4 (by decide) rfl ?_
  refine j_aload_nR hc 1 dX11_adds_6 rfl rfl ?_
  refine j_getR (c' := 2) hc fl_RX11_24 rfl rfl (fun hv => (sv_k hv hm rfl)) dX11_adds_7 ?_
  refine j_bipush hc dX11_adds_10 (by decide) ?_
  refine j_iconst hc dX11_adds_12 ?_
  refine j_iload hc 0 dX11_adds_13 rfl ?_
  refine j_imul hc dX11_adds_15 ?_
  refine j_iadd hc dX11_adds_16 ?_
  refine j_iload_n hc 2 dX11_adds_17 rfl rfl ?_
  obtain ⟨b26, h⟩ := h
  refine j_iast (jn := (Int.toNat (wr (34 + (2 * r24))))) hc (fun hv => sv_kl hv hm rfl) rfl b26 rfl ca1 dX11_adds_18 (fun s27 es27 => ?_)
  replace h := h s27 es27
  refine j_aload_nR hc 1 dX11_adds_19 rfl rfl ?_
  refine j_getR (c' := 2) hc fl_RX11_24 rfl rfl (fun hv => (sv_k hv hm rfl)) dX11_adds_20 ?_
  refine j_bipush hc dX11_adds_23 (by decide) ?_
  refine j_iconst hc dX11_adds_25 ?_
  refine j_iload hc 0 dX11_adds_26 rfl ?_
  refine j_imul hc dX11_adds_28 ?_
  refine j_iadd hc dX11_adds_29 ?_
  refine j_iconst hc dX11_adds_30 ?_
  refine j_iadd hc dX11_adds_31 ?_
  refine j_iload_n hc 3 dX11_adds_32 rfl rfl ?_
  obtain ⟨b28, h⟩ := h
  refine j_iast (jn := (Int.toNat (wr ((34 + (2 * r24)) + 1)))) hc (fun hv => sv_kl hv hm rfl) rfl b28 rfl ca2 dX11_adds_33 (fun s29 es29 => ?_)
  replace h := h s29 es29
  refine j_aload_nR hc 1 dX11_adds_34 rfl rfl ?_
  refine j_getR (c' := 2) hc fl_RX11_24 rfl rfl (fun hv => (sv_k hv hm rfl)) dX11_adds_35 ?_
  refine j_iconst hc dX11_adds_38 ?_
  refine j_iload hc 0 dX11_adds_39 rfl ?_
  refine j_iadd hc dX11_adds_41 ?_
  refine j_iconst hc dX11_adds_42 ?_
  obtain ⟨b30, h⟩ := h
  refine j_iast (jn := (Int.toNat (wr (0 + r24)))) hc (fun hv => sv_kl hv hm rfl) rfl b30 rfl (wlit 0 (by decide)) dX11_adds_43 (fun s31 es31 => ?_)
  replace h := h s31 es31
  refine j_aload_nR hc 1 dX11_adds_44 rfl rfl ?_
  refine j_getR (c' := 2) hc fl_RX11_24 rfl rfl (fun hv => (sv_k hv hm rfl)) dX11_adds_45 ?_
  refine j_bipush hc dX11_adds_48 (by decide) ?_
  refine j_iload hc 0 dX11_adds_50 rfl ?_
  refine j_iadd hc dX11_adds_52 ?_
  refine j_iconst hc dX11_adds_53 ?_
  obtain ⟨b32, h⟩ := h
  refine j_iast (jn := (Int.toNat (wr (10 + r24)))) hc (fun hv => sv_kl hv hm rfl) rfl b32 rfl (wlit (-1) (by decide)) dX11_adds_54 (fun s33 es33 => ?_)
  replace h := h s33 es33
  refine j_aload_nR hc 1 dX11_adds_55 rfl rfl ?_
  refine j_getR (c' := 2) hc fl_RX11_24 rfl rfl (fun hv => (sv_k hv hm rfl)) dX11_adds_56 ?_
  refine j_bipush hc dX11_adds_59 (by decide) ?_
  refine j_iload hc 0 dX11_adds_61 rfl ?_
  refine j_iadd hc dX11_adds_63 ?_
  refine j_iload_n hc 4 dX11_adds_64 rfl rfl ?_
  obtain ⟨b34, h⟩ := h
  refine j_iast (jn := (Int.toNat (wr (20 + r24)))) hc (fun hv => sv_kl hv hm rfl) rfl b34 rfl ca3 dX11_adds_65 (fun s35 es35 => ?_)
  replace h := h s35 es35
  refine j_aload_nR hc 1 dX11_adds_66 rfl rfl ?_
  refine j_getR (c' := 2) hc fl_RX11_24 rfl rfl (fun hv => (sv_k hv hm rfl)) dX11_adds_67 ?_
  refine j_sipush hc dX11_adds_70 (by decide) ?_
  refine j_dup2 hc dX11_adds_73 rfl rfl ?_
  refine j_iald (jn := 256) hc (fun hv => sv_kl hv hm rfl) (wlit 256 (by decide)) ⟨by decide, by decide⟩ rfl dX11_adds_74 (fun cn36 => ?_)
  refine j_iconst hc dX11_adds_75 ?_
  refine j_iadd hc dX11_adds_76 ?_
  refine j_w (fun x37 ex37 cx37 => ?_)
  replace h := h x37 ex37
  refine j_iast (jn := 256) hc (fun hv => sv_kl hv hm rfl) (wlit 256 (by decide)) ⟨by decide, by decide⟩ rfl cx37 dX11_adds_77 (fun s38 es38 => ?_)
  replace h := h s38 es38
  exact j_vret hc hr h dX11_adds_78
-- LitStrangersModel.person(II)I
theorem dX11_person_0 : decode cX11_person 0 = .ok (.iload_n 1, 1) := by decide +kernel
theorem dX11_person_1 : decode cX11_person 1 = .ok (.iload_n 2, 1) := by decide +kernel
theorem dX11_person_2 : decode cX11_person 2 = .ok (.invokestatic 120, 3) := by decide +kernel
theorem dX11_person_5 : decode cX11_person 5 = .ok (.ifCond .ne 9, 3) := by decide +kernel
theorem dX11_person_8 : decode cX11_person 8 = .ok (.aload_n 0, 1) := by decide +kernel
theorem dX11_person_9 : decode cX11_person 9 = .ok (.iconst (-1), 1) := by decide +kernel
theorem dX11_person_10 : decode cX11_person 10 = .ok (.invokevirtual 110, 3) := by decide +kernel
theorem dX11_person_13 : decode cX11_person 13 = .ok (.ireturn, 1) := by decide +kernel
theorem dX11_person_14 : decode cX11_person 14 = .ok (.aload_n 0, 1) := by decide +kernel
theorem dX11_person_15 : decode cX11_person 15 = .ok (.invokevirtual 116, 3) := by decide +kernel
theorem dX11_person_18 : decode cX11_person 18 = .ok (.bipush 10, 2) := by decide +kernel
theorem dX11_person_20 : decode cX11_person 20 = .ok (.if_icmp .ne 10, 3) := by decide +kernel
theorem dX11_person_23 : decode cX11_person 23 = .ok (.aload_n 0, 1) := by decide +kernel
theorem dX11_person_24 : decode cX11_person 24 = .ok (.bipush (-5), 2) := by decide +kernel
theorem dX11_person_26 : decode cX11_person 26 = .ok (.invokevirtual 110, 3) := by decide +kernel
theorem dX11_person_29 : decode cX11_person 29 = .ok (.ireturn, 1) := by decide +kernel
theorem dX11_person_30 : decode cX11_person 30 = .ok (.aload_n 0, 1) := by decide +kernel
theorem dX11_person_31 : decode cX11_person 31 = .ok (.iload_n 1, 1) := by decide +kernel
theorem dX11_person_32 : decode cX11_person 32 = .ok (.iload_n 2, 1) := by decide +kernel
theorem dX11_person_33 : decode cX11_person 33 = .ok (.iconst 0, 1) := by decide +kernel
theorem dX11_person_34 : decode cX11_person 34 = .ok (.invokevirtual 124, 3) := by decide +kernel
theorem dX11_person_37 : decode cX11_person 37 = .ok (.aload_n 0, 1) := by decide +kernel
theorem dX11_person_38 : decode cX11_person 38 = .ok (.aload_n 0, 1) := by decide +kernel
theorem dX11_person_39 : decode cX11_person 39 = .ok (.invokevirtual 116, 3) := by decide +kernel
theorem dX11_person_42 : decode cX11_person 42 = .ok (.iconst 1, 1) := by decide +kernel
theorem dX11_person_43 : decode cX11_person 43 = .ok (.isub, 1) := by decide +kernel
theorem dX11_person_44 : decode cX11_person 44 = .ok (.invokevirtual 113, 3) := by decide +kernel
theorem dX11_person_47 : decode cX11_person 47 = .ok (.ireturn, 1) := by decide +kernel
def wp_X11_person (a1 : Int) (a2 : Int) (σ : st_S) (Q : Int → st_S → Prop) : Prop := wp_X11_canBe a1 a2 σ (fun r15 s16 => (¬ r15 = 0 → wp_X11_people s16 (fun r17 s18 => (¬ r17 = 10 → wp_X11_adds a1 a2 0 s18 (fun s20 => wp_X11_people s20 (fun r21 s22 => wp_X11_settled (wr (r21 - 1)) s22 (fun r23 s24 => Q r23 s24)))) ∧ (r17 = 10 → wp_X11_refuses (-5) s18 (fun r25 s26 => Q r25 s26)))) ∧ (r15 = 0 → wp_X11_refuses (-1) s16 (fun r28 s29 => Q r28 s29)))
set_option maxRecDepth 20000 in
theorem c_X11_person {l : Launch} {E : ev_E} (hE : Eok E) (hm : eM E = 2) {a1 : Int} {a2 : Int} (ca1 : wr a1 = a1) (ca2 : wr a2 = a2) {σ : st_S} {Q : Int → st_S → Prop} (h : wp_X11_person a1 a2 σ Q) : cM l yX11_person cX11_person 3 (some .int) E 3 0 0 [vR E 0, vI a1, vI a2] σ (qI E (gN σ + 0) Q) := by
  refine cM_of (lv := [(0, vR E 0), (1, vI a1), (2, vI a2)]) (by decide) hE (Nat.le_of_ble_eq_true rfl) (rfl) ?_
  intro X hX hc _ _ hr _ _
  subst hX
  have hh : 3 ≤ 3 := Nat.le_refl _
  have hh1 : 1 ≤ 3 := by omega
  replace h : wp_X11_canBe a1 a2 σ (fun r15 s16 => (¬ r15 = 0 → wp_X11_people s16 (fun r17 s18 => (¬ r17 = 10 → wp_X11_adds a1 a2 0 s18 (fun s20 => wp_X11_people s20 (fun r21 s22 => wp_X11_settled (wr (r21 - 1)) s22 (fun r23 s24 => Q r23 s24)))) ∧ (r17 = 10 → wp_X11_refuses (-5) s18 (fun r25 s26 => Q r25 s26)))) ∧ (r15 = 0 → wp_X11_refuses (-1) s16 (fun r28 s29 => Q r28 s29))) := h
  refine j_iload_n hc 1 dX11_person_0 rfl rfl ?_
  refine j_iload_n hc 2 dX11_person_1 rfl rfl ?_
  refine j_sI hc ml_RX11_120 mv_X11_canBe (As := [vI a1, vI a2]) (c_X11_canBe (cx_E hc) hm ca1 ca2 h) rfl (by omega) (by decide) ⟨Nat.zero_le _, Nat.zero_le _⟩ (Nat.le_of_ble_eq_true rfl) rfl dX11_person_2 (fun r15 s16 cr15 h => ?_)
  refine j_if_ne hc cr15 (tgt := 14) dX11_person_5 (by decide) (fun q30 => ?_) (fun q30 => ?_)
  · replace h := h.1 q30
    refine j_aload_nR hc 0 dX11_person_14 rfl rfl ?_
    refine j_vI hc (k := 11) (by decide) (fun hv => Or.inl (sv_k hv hm rfl)) ml_RX11_116 mv_X11_people (As := []) (c_X11_people (cx_E hc) hm  h) rfl (by omega) (by decide) ⟨Nat.zero_le _, Nat.zero_le _⟩ (Nat.le_of_ble_eq_true rfl) rfl dX11_person_15 (fun r17 s18 cr17 h => ?_)
    refine j_bipush hc dX11_person_18 (by decide) ?_
    refine j_ic_ne hc cr17 (wlit 10 (by decide)) (tgt := 30) dX11_person_20 (by decide) (fun q27 => ?_) (fun q27 => ?_)
    · replace h := h.1 q27
      refine j_aload_nR hc 0 dX11_person_30 rfl rfl ?_
      refine j_iload_n hc 1 dX11_person_31 rfl rfl ?_
      refine j_iload_n hc 2 dX11_person_32 rfl rfl ?_
      refine j_iconst hc dX11_person_33 ?_
      refine j_vV hc (k := 11) (by decide) (fun hv => Or.inl (sv_k hv hm rfl)) ml_RX11_124 mv_X11_adds (As := [vI a1, vI a2, vI 0]) (c_X11_adds (cx_E hc) hm ca1 ca2 (wlit 0 (by decide)) h) rfl (by omega) (by decide) ⟨Nat.zero_le _, Nat.zero_le _⟩ (Nat.le_of_ble_eq_true rfl) rfl dX11_person_34 (fun s20 h => ?_)
      refine j_aload_nR hc 0 dX11_person_37 rfl rfl ?_
      refine j_aload_nR hc 0 dX11_person_38 rfl rfl ?_
      refine j_vI hc (k := 11) (by decide) (fun hv => Or.inl (sv_k hv hm rfl)) ml_RX11_116 mv_X11_people (As := []) (c_X11_people (cx_E hc) hm  h) rfl (by omega) (by decide) ⟨Nat.zero_le _, Nat.zero_le _⟩ (Nat.le_of_ble_eq_true rfl) rfl dX11_person_39 (fun r21 s22 cr21 h => ?_)
      refine j_iconst hc dX11_person_42 ?_
      refine j_isub hc dX11_person_43 ?_
      refine j_vI hc (k := 11) (by decide) (fun hv => Or.inl (sv_k hv hm rfl)) ml_RX11_113 mv_X11_settled (As := [vI (wr (r21 - 1))]) (c_X11_settled (cx_E hc) hm (wr_wr _) h) rfl (by omega) (by decide) ⟨Nat.zero_le _, Nat.zero_le _⟩ (Nat.le_of_ble_eq_true rfl) (by simp only [vI_wr, vL_wl]; rfl) dX11_person_44 (fun r23 s24 cr23 h => ?_)
      exact j_iret hc hr cr23 h dX11_person_47
    · replace h := h.2 q27
      refine j_aload_nR hc 0 dX11_person_23 rfl rfl ?_
      refine j_bipush hc dX11_person_24 (by decide) ?_
      refine j_vI hc (k := 11) (by decide) (fun hv => Or.inl (sv_k hv hm rfl)) ml_RX11_110 mv_X11_refuses (As := [vI (-5)]) (c_X11_refuses (cx_E hc) hm (wlit (-5) (by decide)) h) rfl (by omega) (by decide) ⟨Nat.zero_le _, Nat.zero_le _⟩ (Nat.le_of_ble_eq_true rfl) rfl dX11_person_26 (fun r25 s26 cr25 h => ?_)
      exact j_iret hc hr cr25 h dX11_person_29
  · replace h := h.2 q30
    refine j_aload_nR hc 0 dX11_person_8 rfl rfl ?_
    refine j_iconst hc dX11_person_9 ?_
    refine j_vI hc (k := 11) (by decide) (fun hv => Or.inl (sv_k hv hm rfl)) ml_RX11_110 mv_X11_refuses (As := [vI (-1)]) (c_X11_refuses (cx_E hc) hm (wlit (-1) (by decide)) h) rfl (by omega) (by decide) ⟨Nat.zero_le _, Nat.zero_le _⟩ (Nat.le_of_ble_eq_true rfl) rfl dX11_person_10 (fun r28 s29 cr28 h => ?_)
    exact j_iret hc hr cr28 h dX11_person_13
-- LitStrangersModel.hear(II)I
theorem dX11_hear_0 : decode cX11_hear 0 = .ok (.iload_n 2, 1) := by decide +kernel
theorem dX11_hear_1 : decode cX11_hear 1 = .ok (.iconst 0, 1) := by decide +kernel
theorem dX11_hear_2 : decode cX11_hear 2 = .ok (.iconst 2, 1) := by decide +kernel
theorem dX11_hear_3 : decode cX11_hear 3 = .ok (.invokestatic 106, 3) := by decide +kernel
theorem dX11_hear_6 : decode cX11_hear 6 = .ok (.ifCond .ne 9, 3) := by decide +kernel
theorem dX11_hear_9 : decode cX11_hear 9 = .ok (.aload_n 0, 1) := by decide +kernel
theorem dX11_hear_10 : decode cX11_hear 10 = .ok (.iconst (-1), 1) := by decide +kernel
theorem dX11_hear_11 : decode cX11_hear 11 = .ok (.invokevirtual 110, 3) := by decide +kernel
theorem dX11_hear_14 : decode cX11_hear 14 = .ok (.ireturn, 1) := by decide +kernel
theorem dX11_hear_15 : decode cX11_hear 15 = .ok (.aload_n 0, 1) := by decide +kernel
theorem dX11_hear_16 : decode cX11_hear 16 = .ok (.iload_n 1, 1) := by decide +kernel
theorem dX11_hear_17 : decode cX11_hear 17 = .ok (.invokevirtual 128, 3) := by decide +kernel
theorem dX11_hear_20 : decode cX11_hear 20 = .ok (.ifCond .ne 10, 3) := by decide +kernel
theorem dX11_hear_23 : decode cX11_hear 23 = .ok (.aload_n 0, 1) := by decide +kernel
theorem dX11_hear_24 : decode cX11_hear 24 = .ok (.bipush (-2), 2) := by decide +kernel
theorem dX11_hear_26 : decode cX11_hear 26 = .ok (.invokevirtual 110, 3) := by decide +kernel
theorem dX11_hear_29 : decode cX11_hear 29 = .ok (.ireturn, 1) := by decide +kernel
theorem dX11_hear_30 : decode cX11_hear 30 = .ok (.aload_n 0, 1) := by decide +kernel
theorem dX11_hear_31 : decode cX11_hear 31 = .ok (.getfield 24, 3) := by decide +kernel
theorem dX11_hear_34 : decode cX11_hear 34 = .ok (.iconst 0, 1) := by decide +kernel
theorem dX11_hear_35 : decode cX11_hear 35 = .ok (.iload_n 1, 1) := by decide +kernel
theorem dX11_hear_36 : decode cX11_hear 36 = .ok (.iadd, 1) := by decide +kernel
theorem dX11_hear_37 : decode cX11_hear 37 = .ok (.iaload, 1) := by decide +kernel
theorem dX11_hear_38 : decode cX11_hear 38 = .ok (.iconst 3, 1) := by decide +kernel
theorem dX11_hear_39 : decode cX11_hear 39 = .ok (.if_icmp .ne 10, 3) := by decide +kernel
theorem dX11_hear_42 : decode cX11_hear 42 = .ok (.aload_n 0, 1) := by decide +kernel
theorem dX11_hear_43 : decode cX11_hear 43 = .ok (.bipush (-3), 2) := by decide +kernel
theorem dX11_hear_45 : decode cX11_hear 45 = .ok (.invokevirtual 110, 3) := by decide +kernel
theorem dX11_hear_48 : decode cX11_hear 48 = .ok (.ireturn, 1) := by decide +kernel
theorem dX11_hear_49 : decode cX11_hear 49 = .ok (.aload_n 0, 1) := by decide +kernel
theorem dX11_hear_50 : decode cX11_hear 50 = .ok (.getfield 24, 3) := by decide +kernel
theorem dX11_hear_53 : decode cX11_hear 53 = .ok (.bipush 20, 2) := by decide +kernel
theorem dX11_hear_55 : decode cX11_hear 55 = .ok (.iload_n 1, 1) := by decide +kernel
theorem dX11_hear_56 : decode cX11_hear 56 = .ok (.iadd, 1) := by decide +kernel
theorem dX11_hear_57 : decode cX11_hear 57 = .ok (.iaload, 1) := by decide +kernel
theorem dX11_hear_58 : decode cX11_hear 58 = .ok (.istore_n 3, 1) := by decide +kernel
theorem dX11_hear_59 : decode cX11_hear 59 = .ok (.aload_n 0, 1) := by decide +kernel
theorem dX11_hear_60 : decode cX11_hear 60 = .ok (.getfield 24, 3) := by decide +kernel
theorem dX11_hear_63 : decode cX11_hear 63 = .ok (.bipush 20, 2) := by decide +kernel
theorem dX11_hear_65 : decode cX11_hear 65 = .ok (.iload_n 1, 1) := by decide +kernel
theorem dX11_hear_66 : decode cX11_hear 66 = .ok (.iadd, 1) := by decide +kernel
theorem dX11_hear_67 : decode cX11_hear 67 = .ok (.iload_n 2, 1) := by decide +kernel
theorem dX11_hear_68 : decode cX11_hear 68 = .ok (.iastore, 1) := by decide +kernel
theorem dX11_hear_69 : decode cX11_hear 69 = .ok (.aload_n 0, 1) := by decide +kernel
theorem dX11_hear_70 : decode cX11_hear 70 = .ok (.iload_n 3, 1) := by decide +kernel
theorem dX11_hear_71 : decode cX11_hear 71 = .ok (.invokevirtual 113, 3) := by decide +kernel
theorem dX11_hear_74 : decode cX11_hear 74 = .ok (.ireturn, 1) := by decide +kernel
def wp_X11_hear (a1 : Int) (a2 : Int) (σ : st_S) (Q : Int → st_S → Prop) : Prop := wp_X11_lies a2 0 2 σ (fun r21 s22 => (¬ r21 = 0 → wp_X11_isPerson a1 s22 (fun r23 s24 => (¬ r23 = 0 → ix (wr (0 + a1)) 5866 ∧ (¬ gI s24 2 (Int.toNat (wr (0 + a1))) = 3 → ix (wr (20 + a1)) 5866 ∧ ∀ x29 : Int, x29 = gI s24 2 (Int.toNat (wr (20 + a1))) → ix (wr (20 + a1)) 5866 ∧ ∀ s31 : st_S, s31 = sI s24 2 (Int.toNat (wr (20 + a1))) a2 → wp_X11_settled x29 s31 (fun r32 s33 => Q r32 s33)) ∧ (gI s24 2 (Int.toNat (wr (0 + a1))) = 3 → wp_X11_refuses (-3) s24 (fun r34 s35 => Q r34 s35))) ∧ (r23 = 0 → wp_X11_refuses (-2) s24 (fun r37 s38 => Q r37 s38)))) ∧ (r21 = 0 → wp_X11_refuses (-1) s22 (fun r40 s41 => Q r40 s41)))
set_option maxRecDepth 20000 in
theorem c_X11_hear {l : Launch} {E : ev_E} (hE : Eok E) (hm : eM E = 2) {a1 : Int} {a2 : Int} (ca1 : wr a1 = a1) (ca2 : wr a2 = a2) {σ : st_S} {Q : Int → st_S → Prop} (h : wp_X11_hear a1 a2 σ Q) : cM l yX11_hear cX11_hear 4 (some .int) E 3 0 0 [vR E 0, vI a1, vI a2] σ (qI E (gN σ + 0) Q) := by
  refine cM_of (lv := [(0, vR E 0), (1, vI a1), (2, vI a2)]) (by decide) hE (Nat.le_of_ble_eq_true rfl) (rfl) ?_
  intro X hX hc _ _ hr _ _
  subst hX
  have hh : 3 ≤ 3 := Nat.le_refl _
  have hh1 : 1 ≤ 3 := by omega
  replace h : wp_X11_lies a2 0 2 σ (fun r21 s22 => (¬ r21 = 0 → wp_X11_isPerson a1 s22 (fun r23 s24 => (¬ r23 = 0 → ix (wr (0 + a1)) 5866 ∧ (¬ gI s24 2 (Int.toNat (wr (0 + a1))) = 3 → ix (wr (20 + a1)) 5866 ∧ ∀ x29 : Int, x29 = gI s24 2 (Int.toNat (wr (20 + a1))) → ix (wr (20 + a1)) 5866 ∧ ∀ s31 : st_S, s31 = sI s24 2 (Int.toNat (wr (20 + a1))) a2 → wp_X11_settled x29 s31 (fun r32 s33 => Q r32 s33)) ∧ (gI s24 2 (Int.toNat (wr (0 + a1))) = 3 → wp_X11_refuses (-3) s24 (fun r34 s35 => Q r34 s35))) ∧ (r23 = 0 → wp_X11_refuses (-2) s24 (fun r37 s38 => Q r37 s38)))) ∧ (r21 = 0 → wp_X11_refuses (-1) s22 (fun r40 s41 => Q r40 s41))) := h
  refine j_iload_n hc 2 dX11_hear_0 rfl rfl ?_
  refine j_iconst hc dX11_hear_1 ?_
  refine j_iconst hc dX11_hear_2 ?_
  refine j_sI hc ml_RX11_106 mv_X11_lies (As := [vI a2, vI 0, vI 2]) (c_X11_lies (cx_E hc) hm ca2 (wlit 0 (by decide)) (wlit 2 (by decide)) h) rfl (by omega) (by decide) ⟨Nat.zero_le _, Nat.zero_le _⟩ (Nat.le_of_ble_eq_true rfl) rfl dX11_hear_3 (fun r21 s22 cr21 h => ?_)
  refine j_if_ne hc cr21 (tgt := 15) dX11_hear_6 (by decide) (fun q42 => ?_) (fun q42 => ?_)
  · replace h := h.1 q42
    refine j_aload_nR hc 0 dX11_hear_15 rfl rfl ?_
    refine j_iload_n hc 1 dX11_hear_16 rfl rfl ?_
    refine j_vI hc (k := 11) (by decide) (fun hv => Or.inl (sv_k hv hm rfl)) ml_RX11_128 mv_X11_isPerson (As := [vI a1]) (c_X11_isPerson (cx_E hc) hm ca1 h) rfl (by omega) (by decide) ⟨Nat.zero_le _, Nat.zero_le _⟩ (Nat.le_of_ble_eq_true rfl) rfl dX11_hear_17 (fun r23 s24 cr23 h => ?_)
    refine j_if_ne hc cr23 (tgt := 30) dX11_hear_20 (by decide) (fun q39 => ?_) (fun q39 => ?_)
    · replace h := h.1 q39
      refine j_aload_nR hc 0 dX11_hear_30 rfl rfl ?_
      refine j_getR (c' := 2) hc fl_RX11_24 rfl rfl (fun hv => (sv_k hv hm rfl)) dX11_hear_31 ?_
      refine j_iconst hc dX11_hear_34 ?_
      refine j_iload_n hc 1 dX11_hear_35 rfl rfl ?_
      refine j_iadd hc dX11_hear_36 ?_
      obtain ⟨b25, h⟩ := h
      refine j_iald (jn := (Int.toNat (wr (0 + a1)))) hc (fun hv => sv_kl hv hm rfl) rfl b25 rfl dX11_hear_37 (fun cn26 => ?_)
      refine j_iconst hc dX11_hear_38 ?_
      refine j_ic_ne hc cn26 (wlit 3 (by decide)) (tgt := 49) dX11_hear_39 (by decide) (fun q36 => ?_) (fun q36 => ?_)
      · replace h := h.1 q36
        refine j_aload_nR hc 0 dX11_hear_49 rfl rfl ?_
        refine j_getR (c' := 2) hc fl_RX11_24 rfl rfl (fun hv => (sv_k hv hm rfl)) dX11_hear_50 ?_
        refine j_bipush hc dX11_hear_53 (by decide) ?_
        refine j_iload_n hc 1 dX11_hear_55 rfl rfl ?_
        refine j_iadd hc dX11_hear_56 ?_
        obtain ⟨b27, h⟩ := h
        refine j_iald (jn := (Int.toNat (wr (20 + a1)))) hc (fun hv => sv_kl hv hm rfl) rfl b27 rfl dX11_hear_57 (fun cn28 => ?_)
        refine j_c cn28 (fun x29 ex29 cx29 => ?_)
        replace h := h x29 ex29
        refine j_istore_n (lv' := [(3, vI x29), (0, vR E 0), (1, vI a1), (2, vI a2)]) hc dX11_hear_58 rfl (by decide) rfl ?_
        refine j_aload_nR hc 1 dX11_hear_59 rfl rfl ?_
        refine j_getR (c' := 2) hc fl_RX11_24 rfl rfl (fun hv => (sv_k hv hm rfl)) dX11_hear_60 ?_
        refine j_bipush hc dX11_hear_63 (by decide) ?_
        refine j_iload_n hc 2 dX11_hear_65 rfl rfl ?_
        refine j_iadd hc dX11_hear_66 ?_
        refine j_iload_n hc 3 dX11_hear_67 rfl rfl ?_
        obtain ⟨b30, h⟩ := h
        refine j_iast (jn := (Int.toNat (wr (20 + a1)))) hc (fun hv => sv_kl hv hm rfl) rfl b30 rfl ca2 dX11_hear_68 (fun s31 es31 => ?_)
        replace h := h s31 es31
        refine j_aload_nR hc 1 dX11_hear_69 rfl rfl ?_
        refine j_iload_n hc 0 dX11_hear_70 rfl rfl ?_
        refine j_vI hc (k := 11) (by decide) (fun hv => Or.inl (sv_k hv hm rfl)) ml_RX11_113 mv_X11_settled (As := [vI x29]) (c_X11_settled (cx_E hc) hm cx29 h) rfl (by omega) (by decide) ⟨Nat.zero_le _, Nat.zero_le _⟩ (Nat.le_of_ble_eq_true rfl) rfl dX11_hear_71 (fun r32 s33 cr32 h => ?_)
        exact j_iret hc hr cr32 h dX11_hear_74
      · replace h := h.2 q36
        refine j_aload_nR hc 0 dX11_hear_42 rfl rfl ?_
        refine j_bipush hc dX11_hear_43 (by decide) ?_
        refine j_vI hc (k := 11) (by decide) (fun hv => Or.inl (sv_k hv hm rfl)) ml_RX11_110 mv_X11_refuses (As := [vI (-3)]) (c_X11_refuses (cx_E hc) hm (wlit (-3) (by decide)) h) rfl (by omega) (by decide) ⟨Nat.zero_le _, Nat.zero_le _⟩ (Nat.le_of_ble_eq_true rfl) rfl dX11_hear_45 (fun r34 s35 cr34 h => ?_)
        exact j_iret hc hr cr34 h dX11_hear_48
    · replace h := h.2 q39
      refine j_aload_nR hc 0 dX11_hear_23 rfl rfl ?_
      refine j_bipush hc dX11_hear_24 (by decide) ?_
      refine j_vI hc (k := 11) (by decide) (fun hv => Or.inl (sv_k hv hm rfl)) ml_RX11_110 mv_X11_refuses (As := [vI (-2)]) (c_X11_refuses (cx_E hc) hm (wlit (-2) (by decide)) h) rfl (by omega) (by decide) ⟨Nat.zero_le _, Nat.zero_le _⟩ (Nat.le_of_ble_eq_true rfl) rfl dX11_hear_26 (fun r37 s38 cr37 h => ?_)
      exact j_iret hc hr cr37 h dX11_hear_29
  · replace h := h.2 q42
    refine j_aload_nR hc 0 dX11_hear_9 rfl rfl ?_
    refine j_iconst hc dX11_hear_10 ?_
    refine j_vI hc (k := 11) (by decide) (fun hv => Or.inl (sv_k hv hm rfl)) ml_RX11_110 mv_X11_refuses (As := [vI (-1)]) (c_X11_refuses (cx_E hc) hm (wlit (-1) (by decide)) h) rfl (by omega) (by decide) ⟨Nat.zero_le _, Nat.zero_le _⟩ (Nat.le_of_ble_eq_true rfl) rfl dX11_hear_11 (fun r40 s41 cr40 h => ?_)
    exact j_iret hc hr cr40 h dX11_hear_14
-- LitStrangersModel.worthOf(I)I
theorem dX11_worthOf_0 : decode cX11_worthOf 0 = .ok (.aload_n 0, 1) := by decide +kernel
theorem dX11_worthOf_1 : decode cX11_worthOf 1 = .ok (.getfield 24, 3) := by decide +kernel
theorem dX11_worthOf_4 : decode cX11_worthOf 4 = .ok (.iconst 0, 1) := by decide +kernel
theorem dX11_worthOf_5 : decode cX11_worthOf 5 = .ok (.iload_n 1, 1) := by decide +kernel
theorem dX11_worthOf_6 : decode cX11_worthOf 6 = .ok (.iadd, 1) := by decide +kernel
theorem dX11_worthOf_7 : decode cX11_worthOf 7 = .ok (.iaload, 1) := by decide +kernel
theorem dX11_worthOf_8 : decode cX11_worthOf 8 = .ok (.iconst 3, 1) := by decide +kernel
theorem dX11_worthOf_9 : decode cX11_worthOf 9 = .ok (.if_icmp .ne 7, 3) := by decide +kernel
theorem dX11_worthOf_12 : decode cX11_worthOf 12 = .ok (.iconst 0, 1) := by decide +kernel
theorem dX11_worthOf_13 : decode cX11_worthOf 13 = .ok (.goto 14, 3) := by decide +kernel
theorem dX11_worthOf_16 : decode cX11_worthOf 16 = .ok (.iconst 2, 1) := by decide +kernel
theorem dX11_worthOf_17 : decode cX11_worthOf 17 = .ok (.aload_n 0, 1) := by decide +kernel
theorem dX11_worthOf_18 : decode cX11_worthOf 18 = .ok (.getfield 24, 3) := by decide +kernel
theorem dX11_worthOf_21 : decode cX11_worthOf 21 = .ok (.bipush 20, 2) := by decide +kernel
theorem dX11_worthOf_23 : decode cX11_worthOf 23 = .ok (.iload_n 1, 1) := by decide +kernel
theorem dX11_worthOf_24 : decode cX11_worthOf 24 = .ok (.iadd, 1) := by decide +kernel
theorem dX11_worthOf_25 : decode cX11_worthOf 25 = .ok (.iaload, 1) := by decide +kernel
theorem dX11_worthOf_26 : decode cX11_worthOf 26 = .ok (.isub, 1) := by decide +kernel
theorem dX11_worthOf_27 : decode cX11_worthOf 27 = .ok (.ireturn, 1) := by decide +kernel
def B_X11_worthOf_27 (Q : Int → st_S → Prop)   (v0 : Int) (σ : st_S) : Prop := Q v0 σ
def wp_X11_worthOf (a1 : Int) (σ : st_S) (Q : Int → st_S → Prop) : Prop := ix (wr (0 + a1)) 5866 ∧ (¬ gI σ 2 (Int.toNat (wr (0 + a1))) = 3 → ix (wr (20 + a1)) 5866 ∧ ∀ x9 : Int, x9 = wr (2 - gI σ 2 (Int.toNat (wr (20 + a1)))) → B_X11_worthOf_27 Q x9 σ) ∧ (gI σ 2 (Int.toNat (wr (0 + a1))) = 3 → B_X11_worthOf_27 Q 0 σ)
set_option maxRecDepth 20000 in
theorem jb_X11_worthOf_27 {X : jj_X} {E : ev_E} {n0 hN : Nat} (hc : Cx X E cX11_worthOf 2 n0 hN RX11) (hm : eM E = 2) (hr : (xT X).sig.returnType = (some .int)) (hh : 1 ≤ hN) {Q : Int → st_S → Prop} {v0 : Int} (cv0 : wr v0 = v0) {σ : st_S} (h : B_X11_worthOf_27 Q v0 σ) : J X E 2 n0 0 0 (MQ (xB X) (qI E (n0 + 0) Q) (xA X) (xS X) 0 0 (eF E)) σ 27 [] [vI v0] := by
  have hh1 : 1 ≤ hN := by omega
  replace h : Q v0 σ := h
  exact j_iret hc hr cv0 h dX11_worthOf_27
set_option maxRecDepth 20000 in
theorem c_X11_worthOf {l : Launch} {E : ev_E} (hE : Eok E) (hm : eM E = 2) {a1 : Int} (ca1 : wr a1 = a1) {σ : st_S} {Q : Int → st_S → Prop} (h : wp_X11_worthOf a1 σ Q) : cM l yX11_worthOf cX11_worthOf 2 (some .int) E 1 0 0 [vR E 0, vI a1] σ (qI E (gN σ + 0) Q) := by
  refine cM_of (lv := [(0, vR E 0), (1, vI a1)]) (by decide) hE (Nat.le_of_ble_eq_true rfl) (rfl) ?_
  intro X hX hc _ _ hr _ _
  subst hX
  have hh : 1 ≤ 1 := Nat.le_refl _
  have hh1 : 1 ≤ 1 := by omega
  replace h : ix (wr (0 + a1)) 5866 ∧ (¬ gI σ 2 (Int.toNat (wr (0 + a1))) = 3 → ix (wr (20 + a1)) 5866 ∧ ∀ x9 : Int, x9 = wr (2 - gI σ 2 (Int.toNat (wr (20 + a1)))) → B_X11_worthOf_27 Q x9 σ) ∧ (gI σ 2 (Int.toNat (wr (0 + a1))) = 3 → B_X11_worthOf_27 Q 0 σ) := h
  refine j_aload_nR hc 0 dX11_worthOf_0 rfl rfl ?_
  refine j_getR (c' := 2) hc fl_RX11_24 rfl rfl (fun hv => (sv_k hv hm rfl)) dX11_worthOf_1 ?_
  refine j_iconst hc dX11_worthOf_4 ?_
  refine j_iload_n hc 1 dX11_worthOf_5 rfl rfl ?_
  refine j_iadd hc dX11_worthOf_6 ?_
  obtain ⟨b5, h⟩ := h
  refine j_iald (jn := (Int.toNat (wr (0 + a1)))) hc (fun hv => sv_kl hv hm rfl) rfl b5 rfl dX11_worthOf_7 (fun cn6 => ?_)
  refine j_iconst hc dX11_worthOf_8 ?_
  refine j_ic_ne hc cn6 (wlit 3 (by decide)) (tgt := 16) dX11_worthOf_9 (by decide) (fun q10 => ?_) (fun q10 => ?_)
  · replace h := h.1 q10
    refine j_iconst hc dX11_worthOf_16 ?_
    refine j_aload_nR hc 0 dX11_worthOf_17 rfl rfl ?_
    refine j_getR (c' := 2) hc fl_RX11_24 rfl rfl (fun hv => (sv_k hv hm rfl)) dX11_worthOf_18 ?_
    refine j_bipush hc dX11_worthOf_21 (by decide) ?_
    refine j_iload_n hc 1 dX11_worthOf_23 rfl rfl ?_
    refine j_iadd hc dX11_worthOf_24 ?_
    obtain ⟨b7, h⟩ := h
    refine j_iald (jn := (Int.toNat (wr (20 + a1)))) hc (fun hv => sv_kl hv hm rfl) rfl b7 rfl dX11_worthOf_25 (fun cn8 => ?_)
    refine j_isub hc dX11_worthOf_26 ?_
    refine j_w (fun x9 ex9 cx9 => ?_)
    replace h := h x9 ex9
    refine j_sub (lv' := []) [] rfl ?_
    exact jb_X11_worthOf_27 hc hm hr hh cx9 h
  · replace h := h.2 q10
    refine j_iconst hc dX11_worthOf_12 ?_
    refine j_goto (tgt := 27) hc dX11_worthOf_13 (by decide) ?_
    refine j_sub (lv' := []) [] rfl ?_
    exact jb_X11_worthOf_27 hc hm hr hh (wlit 0 (by decide)) h
-- LitStrangersModel.of(II)I
theorem dX11_of_0 : decode cX11_of 0 = .ok (.aload_n 0, 1) := by decide +kernel
theorem dX11_of_1 : decode cX11_of 1 = .ok (.iload_n 1, 1) := by decide +kernel
theorem dX11_of_2 : decode cX11_of 2 = .ok (.invokevirtual 128, 3) := by decide +kernel
theorem dX11_of_5 : decode cX11_of 5 = .ok (.ifCond .ne 5, 3) := by decide +kernel
theorem dX11_of_8 : decode cX11_of 8 = .ok (.iconst (-1), 1) := by decide +kernel
theorem dX11_of_9 : decode cX11_of 9 = .ok (.ireturn, 1) := by decide +kernel
theorem dX11_of_10 : decode cX11_of 10 = .ok (.iload_n 2, 1) := by decide +kernel
theorem dX11_of_11 : decode cX11_of 11 = .ok (.tableswitch 100 0 5 #[37, 43, 49, 59, 68, 94], 37) := by decide +kernel
theorem dX11_of_48 : decode cX11_of 48 = .ok (.aload_n 0, 1) := by decide +kernel
theorem dX11_of_49 : decode cX11_of 49 = .ok (.iload_n 1, 1) := by decide +kernel
theorem dX11_of_50 : decode cX11_of 50 = .ok (.invokevirtual 132, 3) := by decide +kernel
theorem dX11_of_53 : decode cX11_of 53 = .ok (.ireturn, 1) := by decide +kernel
theorem dX11_of_54 : decode cX11_of 54 = .ok (.aload_n 0, 1) := by decide +kernel
theorem dX11_of_55 : decode cX11_of 55 = .ok (.iload_n 1, 1) := by decide +kernel
theorem dX11_of_56 : decode cX11_of 56 = .ok (.invokevirtual 135, 3) := by decide +kernel
theorem dX11_of_59 : decode cX11_of 59 = .ok (.ireturn, 1) := by decide +kernel
theorem dX11_of_60 : decode cX11_of 60 = .ok (.aload_n 0, 1) := by decide +kernel
theorem dX11_of_61 : decode cX11_of 61 = .ok (.getfield 24, 3) := by decide +kernel
theorem dX11_of_64 : decode cX11_of 64 = .ok (.bipush 20, 2) := by decide +kernel
theorem dX11_of_66 : decode cX11_of 66 = .ok (.iload_n 1, 1) := by decide +kernel
theorem dX11_of_67 : decode cX11_of 67 = .ok (.iadd, 1) := by decide +kernel
theorem dX11_of_68 : decode cX11_of 68 = .ok (.iaload, 1) := by decide +kernel
theorem dX11_of_69 : decode cX11_of 69 = .ok (.ireturn, 1) := by decide +kernel
theorem dX11_of_70 : decode cX11_of 70 = .ok (.aload_n 0, 1) := by decide +kernel
theorem dX11_of_71 : decode cX11_of 71 = .ok (.getfield 24, 3) := by decide +kernel
theorem dX11_of_74 : decode cX11_of 74 = .ok (.iconst 0, 1) := by decide +kernel
theorem dX11_of_75 : decode cX11_of 75 = .ok (.iload_n 1, 1) := by decide +kernel
theorem dX11_of_76 : decode cX11_of 76 = .ok (.iadd, 1) := by decide +kernel
theorem dX11_of_77 : decode cX11_of 77 = .ok (.iaload, 1) := by decide +kernel
theorem dX11_of_78 : decode cX11_of 78 = .ok (.ireturn, 1) := by decide +kernel
theorem dX11_of_79 : decode cX11_of 79 = .ok (.aload_n 0, 1) := by decide +kernel
theorem dX11_of_80 : decode cX11_of 80 = .ok (.getfield 24, 3) := by decide +kernel
theorem dX11_of_83 : decode cX11_of 83 = .ok (.iconst 0, 1) := by decide +kernel
theorem dX11_of_84 : decode cX11_of 84 = .ok (.iload_n 1, 1) := by decide +kernel
theorem dX11_of_85 : decode cX11_of 85 = .ok (.iadd, 1) := by decide +kernel
theorem dX11_of_86 : decode cX11_of 86 = .ok (.iaload, 1) := by decide +kernel
theorem dX11_of_87 : decode cX11_of 87 = .ok (.iconst 1, 1) := by decide +kernel
theorem dX11_of_88 : decode cX11_of 88 = .ok (.if_icmp .ne 15, 3) := by decide +kernel
theorem dX11_of_91 : decode cX11_of 91 = .ok (.aload_n 0, 1) := by decide +kernel
theorem dX11_of_92 : decode cX11_of 92 = .ok (.getfield 24, 3) := by decide +kernel
theorem dX11_of_95 : decode cX11_of 95 = .ok (.bipush 10, 2) := by decide +kernel
theorem dX11_of_97 : decode cX11_of 97 = .ok (.iload_n 1, 1) := by decide +kernel
theorem dX11_of_98 : decode cX11_of 98 = .ok (.iadd, 1) := by decide +kernel
theorem dX11_of_99 : decode cX11_of 99 = .ok (.iaload, 1) := by decide +kernel
theorem dX11_of_100 : decode cX11_of 100 = .ok (.goto 4, 3) := by decide +kernel
theorem dX11_of_103 : decode cX11_of 103 = .ok (.iconst (-1), 1) := by decide +kernel
theorem dX11_of_104 : decode cX11_of 104 = .ok (.ireturn, 1) := by decide +kernel
theorem dX11_of_105 : decode cX11_of 105 = .ok (.aload_n 0, 1) := by decide +kernel
theorem dX11_of_106 : decode cX11_of 106 = .ok (.iload_n 1, 1) := by decide +kernel
theorem dX11_of_107 : decode cX11_of 107 = .ok (.invokevirtual 138, 3) := by decide +kernel
theorem dX11_of_110 : decode cX11_of 110 = .ok (.ireturn, 1) := by decide +kernel
theorem dX11_of_111 : decode cX11_of 111 = .ok (.iconst (-1), 1) := by decide +kernel
theorem dX11_of_112 : decode cX11_of 112 = .ok (.ireturn, 1) := by decide +kernel
def B_X11_of_104 (Q : Int → st_S → Prop)   (v0 : Int) (σ : st_S) : Prop := Q v0 σ
def wp_X11_of (a1 : Int) (a2 : Int) (σ : st_S) (Q : Int → st_S → Prop) : Prop := wp_X11_isPerson a1 σ (fun r17 s18 => (¬ r17 = 0 → (a2 = 0 → wp_X11_roadOf a1 s18 (fun r19 s20 => Q r19 s20)) ∧ (a2 = 1 → wp_X11_landOf a1 s18 (fun r21 s22 => Q r21 s22)) ∧ (a2 = 2 → ix (wr (20 + a1)) 5866 ∧ Q (gI s18 2 (Int.toNat (wr (20 + a1)))) s18) ∧ (a2 = 3 → ix (wr (0 + a1)) 5866 ∧ Q (gI s18 2 (Int.toNat (wr (0 + a1)))) s18) ∧ (a2 = 4 → ix (wr (0 + a1)) 5866 ∧ (¬ gI s18 2 (Int.toNat (wr (0 + a1))) = 1 → B_X11_of_104 Q (-1) s18) ∧ (gI s18 2 (Int.toNat (wr (0 + a1))) = 1 → ix (wr (10 + a1)) 5866 ∧ B_X11_of_104 Q (gI s18 2 (Int.toNat (wr (10 + a1)))) s18)) ∧ (a2 = 5 → wp_X11_worthOf a1 s18 (fun r32 s33 => Q r32 s33)) ∧ (a2 < 0 ∨ 5 < a2 → Q (-1) s18)) ∧ (r17 = 0 → Q (-1) s18))
set_option maxRecDepth 20000 in
theorem jb_X11_of_104 {X : jj_X} {E : ev_E} {n0 hN : Nat} (hc : Cx X E cX11_of 3 n0 hN RX11) (hm : eM E = 2) (hr : (xT X).sig.returnType = (some .int)) (hh : 3 ≤ hN) {Q : Int → st_S → Prop} {v0 : Int} (cv0 : wr v0 = v0) {σ : st_S} (h : B_X11_of_104 Q v0 σ) : J X E 3 n0 0 0 (MQ (xB X) (qI E (n0 + 0) Q) (xA X) (xS X) 0 0 (eF E)) σ 104 [] [vI v0] := by
  have hh1 : 1 ≤ hN := by omega
  replace h : Q v0 σ := h
  exact j_iret hc hr cv0 h dX11_of_104
set_option maxRecDepth 20000 in
theorem c_X11_of {l : Launch} {E : ev_E} (hE : Eok E) (hm : eM E = 2) {a1 : Int} {a2 : Int} (ca1 : wr a1 = a1) (ca2 : wr a2 = a2) {σ : st_S} {Q : Int → st_S → Prop} (h : wp_X11_of a1 a2 σ Q) : cM l yX11_of cX11_of 3 (some .int) E 3 0 0 [vR E 0, vI a1, vI a2] σ (qI E (gN σ + 0) Q) := by
  refine cM_of (lv := [(0, vR E 0), (1, vI a1), (2, vI a2)]) (by decide) hE (Nat.le_of_ble_eq_true rfl) (rfl) ?_
  intro X hX hc _ _ hr _ _
  subst hX
  have hh : 3 ≤ 3 := Nat.le_refl _
  have hh1 : 1 ≤ 3 := by omega
  replace h : wp_X11_isPerson a1 σ (fun r17 s18 => (¬ r17 = 0 → (a2 = 0 → wp_X11_roadOf a1 s18 (fun r19 s20 => Q r19 s20)) ∧ (a2 = 1 → wp_X11_landOf a1 s18 (fun r21 s22 => Q r21 s22)) ∧ (a2 = 2 → ix (wr (20 + a1)) 5866 ∧ Q (gI s18 2 (Int.toNat (wr (20 + a1)))) s18) ∧ (a2 = 3 → ix (wr (0 + a1)) 5866 ∧ Q (gI s18 2 (Int.toNat (wr (0 + a1)))) s18) ∧ (a2 = 4 → ix (wr (0 + a1)) 5866 ∧ (¬ gI s18 2 (Int.toNat (wr (0 + a1))) = 1 → B_X11_of_104 Q (-1) s18) ∧ (gI s18 2 (Int.toNat (wr (0 + a1))) = 1 → ix (wr (10 + a1)) 5866 ∧ B_X11_of_104 Q (gI s18 2 (Int.toNat (wr (10 + a1)))) s18)) ∧ (a2 = 5 → wp_X11_worthOf a1 s18 (fun r32 s33 => Q r32 s33)) ∧ (a2 < 0 ∨ 5 < a2 → Q (-1) s18)) ∧ (r17 = 0 → Q (-1) s18)) := h
  refine j_aload_nR hc 0 dX11_of_0 rfl rfl ?_
  refine j_iload_n hc 1 dX11_of_1 rfl rfl ?_
  refine j_vI hc (k := 11) (by decide) (fun hv => Or.inl (sv_k hv hm rfl)) ml_RX11_128 mv_X11_isPerson (As := [vI a1]) (c_X11_isPerson (cx_E hc) hm ca1 h) rfl (by omega) (by decide) ⟨Nat.zero_le _, Nat.zero_le _⟩ (Nat.le_of_ble_eq_true rfl) rfl dX11_of_2 (fun r17 s18 cr17 h => ?_)
  refine j_if_ne hc cr17 (tgt := 10) dX11_of_5 (by decide) (fun q34 => ?_) (fun q34 => ?_)
  · replace h := h.1 q34
    refine j_iload_n hc 2 dX11_of_10 rfl rfl ?_
    rcases Decidable.em (a2 = 0) with q0 | q0
    · replace h := h.1 q0
      refine j_ts (tgt := 48) (off := 37) hc ca2 dX11_of_11 0 q0 (by decide) (by decide) (by decide) (by decide) ?_
      refine j_aload_nR hc 0 dX11_of_48 rfl rfl ?_
      refine j_iload_n hc 1 dX11_of_49 rfl rfl ?_
      refine j_vI hc (k := 11) (by decide) (fun hv => Or.inl (sv_k hv hm rfl)) ml_RX11_132 mv_X11_roadOf (As := [vI a1]) (c_X11_roadOf (cx_E hc) hm ca1 h) rfl (by omega) (by decide) ⟨Nat.zero_le _, Nat.zero_le _⟩ (Nat.le_of_ble_eq_true rfl) rfl dX11_of_50 (fun r19 s20 cr19 h => ?_)
      exact j_iret hc hr cr19 h dX11_of_53
    · rcases Decidable.em (a2 = 1) with q1 | q1
      · replace h := h.2.1 q1
        refine j_ts (tgt := 54) (off := 43) hc ca2 dX11_of_11 1 q1 (by decide) (by decide) (by decide) (by decide) ?_
        refine j_aload_nR hc 0 dX11_of_54 rfl rfl ?_
        refine j_iload_n hc 1 dX11_of_55 rfl rfl ?_
        refine j_vI hc (k := 11) (by decide) (fun hv => Or.inl (sv_k hv hm rfl)) ml_RX11_135 mv_X11_landOf (As := [vI a1]) (c_X11_landOf (cx_E hc) hm ca1 h) rfl (by omega) (by decide) ⟨Nat.zero_le _, Nat.zero_le _⟩ (Nat.le_of_ble_eq_true rfl) rfl dX11_of_56 (fun r21 s22 cr21 h => ?_)
        exact j_iret hc hr cr21 h dX11_of_59
      · rcases Decidable.em (a2 = 2) with q2 | q2
        · replace h := h.2.2.1 q2
          refine j_ts (tgt := 60) (off := 49) hc ca2 dX11_of_11 2 q2 (by decide) (by decide) (by decide) (by decide) ?_
          refine j_aload_nR hc 0 dX11_of_60 rfl rfl ?_
          refine j_getR (c' := 2) hc fl_RX11_24 rfl rfl (fun hv => (sv_k hv hm rfl)) dX11_of_61 ?_
          refine j_bipush hc dX11_of_64 (by decide) ?_
          refine j_iload_n hc 1 dX11_of_66 rfl rfl ?_
          refine j_iadd hc dX11_of_67 ?_
          obtain ⟨b23, h⟩ := h
          refine j_iald (jn := (Int.toNat (wr (20 + a1)))) hc (fun hv => sv_kl hv hm rfl) rfl b23 rfl dX11_of_68 (fun cn24 => ?_)
          exact j_iret hc hr cn24 h dX11_of_69
        · rcases Decidable.em (a2 = 3) with q3 | q3
          · replace h := h.2.2.2.1 q3
            refine j_ts (tgt := 70) (off := 59) hc ca2 dX11_of_11 3 q3 (by decide) (by decide) (by decide) (by decide) ?_
            refine j_aload_nR hc 0 dX11_of_70 rfl rfl ?_
            refine j_getR (c' := 2) hc fl_RX11_24 rfl rfl (fun hv => (sv_k hv hm rfl)) dX11_of_71 ?_
            refine j_iconst hc dX11_of_74 ?_
            refine j_iload_n hc 1 dX11_of_75 rfl rfl ?_
            refine j_iadd hc dX11_of_76 ?_
            obtain ⟨b25, h⟩ := h
            refine j_iald (jn := (Int.toNat (wr (0 + a1)))) hc (fun hv => sv_kl hv hm rfl) rfl b25 rfl dX11_of_77 (fun cn26 => ?_)
            exact j_iret hc hr cn26 h dX11_of_78
          · rcases Decidable.em (a2 = 4) with q4 | q4
            · replace h := h.2.2.2.2.1 q4
              refine j_ts (tgt := 79) (off := 68) hc ca2 dX11_of_11 4 q4 (by decide) (by decide) (by decide) (by decide) ?_
              refine j_aload_nR hc 0 dX11_of_79 rfl rfl ?_
              refine j_getR (c' := 2) hc fl_RX11_24 rfl rfl (fun hv => (sv_k hv hm rfl)) dX11_of_80 ?_
              refine j_iconst hc dX11_of_83 ?_
              refine j_iload_n hc 1 dX11_of_84 rfl rfl ?_
              refine j_iadd hc dX11_of_85 ?_
              obtain ⟨b27, h⟩ := h
              refine j_iald (jn := (Int.toNat (wr (0 + a1)))) hc (fun hv => sv_kl hv hm rfl) rfl b27 rfl dX11_of_86 (fun cn28 => ?_)
              refine j_iconst hc dX11_of_87 ?_
              refine j_ic_ne hc cn28 (wlit 1 (by decide)) (tgt := 103) dX11_of_88 (by decide) (fun q31 => ?_) (fun q31 => ?_)
              · replace h := h.1 q31
                refine j_iconst hc dX11_of_103 ?_
                refine j_sub (lv' := []) [] rfl ?_
                exact jb_X11_of_104 hc hm hr hh (wlit (-1) (by decide)) h
              · replace h := h.2 q31
                refine j_aload_nR hc 0 dX11_of_91 rfl rfl ?_
                refine j_getR (c' := 2) hc fl_RX11_24 rfl rfl (fun hv => (sv_k hv hm rfl)) dX11_of_92 ?_
                refine j_bipush hc dX11_of_95 (by decide) ?_
                refine j_iload_n hc 1 dX11_of_97 rfl rfl ?_
                refine j_iadd hc dX11_of_98 ?_
                obtain ⟨b29, h⟩ := h
                refine j_iald (jn := (Int.toNat (wr (10 + a1)))) hc (fun hv => sv_kl hv hm rfl) rfl b29 rfl dX11_of_99 (fun cn30 => ?_)
                refine j_goto (tgt := 104) hc dX11_of_100 (by decide) ?_
                refine j_sub (lv' := []) [] rfl ?_
                exact jb_X11_of_104 hc hm hr hh cn30 h
            · rcases Decidable.em (a2 = 5) with q5 | q5
              · replace h := h.2.2.2.2.2.1 q5
                refine j_ts (tgt := 105) (off := 94) hc ca2 dX11_of_11 5 q5 (by decide) (by decide) (by decide) (by decide) ?_
                refine j_aload_nR hc 0 dX11_of_105 rfl rfl ?_
                refine j_iload_n hc 1 dX11_of_106 rfl rfl ?_
                refine j_vI hc (k := 11) (by decide) (fun hv => Or.inl (sv_k hv hm rfl)) ml_RX11_138 mv_X11_worthOf (As := [vI a1]) (c_X11_worthOf (cx_E hc) hm ca1 h) rfl (by omega) (by decide) ⟨Nat.zero_le _, Nat.zero_le _⟩ (Nat.le_of_ble_eq_true rfl) rfl dX11_of_107 (fun r32 s33 cr32 h => ?_)
                exact j_iret hc hr cr32 h dX11_of_110
              · have qd : a2 < 0 ∨ 5 < a2 := by omega
                replace h := h.2.2.2.2.2.2 qd
                refine j_td (tgt := 111) hc ca2 dX11_of_11 qd (by decide) ?_
                refine j_iconst hc dX11_of_111 ?_
                exact j_iret hc hr (wlit (-1) (by decide)) h dX11_of_112
  · replace h := h.2 q34
    refine j_iconst hc dX11_of_8 ?_
    exact j_iret hc hr (wlit (-1) (by decide)) h dX11_of_9
-- LitStrangersModel.talk(III)I
theorem dX11_talk_0 : decode cX11_talk 0 = .ok (.iload_n 1, 1) := by decide +kernel
theorem dX11_talk_1 : decode cX11_talk 1 = .ok (.iload_n 2, 1) := by decide +kernel
theorem dX11_talk_2 : decode cX11_talk 2 = .ok (.if_icmp .eq 12, 3) := by decide +kernel
theorem dX11_talk_5 : decode cX11_talk 5 = .ok (.iload_n 3, 1) := by decide +kernel
theorem dX11_talk_6 : decode cX11_talk 6 = .ok (.iconst 0, 1) := by decide +kernel
theorem dX11_talk_7 : decode cX11_talk 7 = .ok (.iconst 1, 1) := by decide +kernel
theorem dX11_talk_8 : decode cX11_talk 8 = .ok (.invokestatic 106, 3) := by decide +kernel
theorem dX11_talk_11 : decode cX11_talk 11 = .ok (.ifCond .ne 9, 3) := by decide +kernel
theorem dX11_talk_14 : decode cX11_talk 14 = .ok (.aload_n 0, 1) := by decide +kernel
theorem dX11_talk_15 : decode cX11_talk 15 = .ok (.iconst (-1), 1) := by decide +kernel
theorem dX11_talk_16 : decode cX11_talk 16 = .ok (.invokevirtual 110, 3) := by decide +kernel
theorem dX11_talk_19 : decode cX11_talk 19 = .ok (.ireturn, 1) := by decide +kernel
theorem dX11_talk_20 : decode cX11_talk 20 = .ok (.aload_n 0, 1) := by decide +kernel
theorem dX11_talk_21 : decode cX11_talk 21 = .ok (.iload_n 1, 1) := by decide +kernel
theorem dX11_talk_22 : decode cX11_talk 22 = .ok (.invokevirtual 128, 3) := by decide +kernel
theorem dX11_talk_25 : decode cX11_talk 25 = .ok (.ifCond .eq 11, 3) := by decide +kernel
theorem dX11_talk_28 : decode cX11_talk 28 = .ok (.aload_n 0, 1) := by decide +kernel
theorem dX11_talk_29 : decode cX11_talk 29 = .ok (.iload_n 2, 1) := by decide +kernel
theorem dX11_talk_30 : decode cX11_talk 30 = .ok (.invokevirtual 128, 3) := by decide +kernel
theorem dX11_talk_33 : decode cX11_talk 33 = .ok (.ifCond .ne 10, 3) := by decide +kernel
theorem dX11_talk_36 : decode cX11_talk 36 = .ok (.aload_n 0, 1) := by decide +kernel
theorem dX11_talk_37 : decode cX11_talk 37 = .ok (.bipush (-2), 2) := by decide +kernel
theorem dX11_talk_39 : decode cX11_talk 39 = .ok (.invokevirtual 110, 3) := by decide +kernel
theorem dX11_talk_42 : decode cX11_talk 42 = .ok (.ireturn, 1) := by decide +kernel
theorem dX11_talk_43 : decode cX11_talk 43 = .ok (.aload_n 0, 1) := by decide +kernel
theorem dX11_talk_44 : decode cX11_talk 44 = .ok (.getfield 24, 3) := by decide +kernel
theorem dX11_talk_47 : decode cX11_talk 47 = .ok (.bipush 54, 2) := by decide +kernel
theorem dX11_talk_49 : decode cX11_talk 49 = .ok (.bipush 10, 2) := by decide +kernel
theorem dX11_talk_51 : decode cX11_talk 51 = .ok (.iload_n 1, 1) := by decide +kernel
theorem dX11_talk_52 : decode cX11_talk 52 = .ok (.imul, 1) := by decide +kernel
theorem dX11_talk_53 : decode cX11_talk 53 = .ok (.iadd, 1) := by decide +kernel
theorem dX11_talk_54 : decode cX11_talk 54 = .ok (.iload_n 2, 1) := by decide +kernel
theorem dX11_talk_55 : decode cX11_talk 55 = .ok (.iadd, 1) := by decide +kernel
theorem dX11_talk_56 : decode cX11_talk 56 = .ok (.iaload, 1) := by decide +kernel
theorem dX11_talk_57 : decode cX11_talk 57 = .ok (.istore 4, 2) := by decide +kernel
theorem dX11_talk_59 : decode cX11_talk 59 = .ok (.aload_n 0, 1) := by decide +kernel
theorem dX11_talk_60 : decode cX11_talk 60 = .ok (.getfield 24, 3) := by decide +kernel
theorem dX11_talk_63 : decode cX11_talk 63 = .ok (.bipush 54, 2) := by decide +kernel
theorem dX11_talk_65 : decode cX11_talk 65 = .ok (.bipush 10, 2) := by decide +kernel
theorem dX11_talk_67 : decode cX11_talk 67 = .ok (.iload_n 1, 1) := by decide +kernel
theorem dX11_talk_68 : decode cX11_talk 68 = .ok (.imul, 1) := by decide +kernel
theorem dX11_talk_69 : decode cX11_talk 69 = .ok (.iadd, 1) := by decide +kernel
theorem dX11_talk_70 : decode cX11_talk 70 = .ok (.iload_n 2, 1) := by decide +kernel
theorem dX11_talk_71 : decode cX11_talk 71 = .ok (.iadd, 1) := by decide +kernel
theorem dX11_talk_72 : decode cX11_talk 72 = .ok (.iload_n 3, 1) := by decide +kernel
theorem dX11_talk_73 : decode cX11_talk 73 = .ok (.iastore, 1) := by decide +kernel
theorem dX11_talk_74 : decode cX11_talk 74 = .ok (.aload_n 0, 1) := by decide +kernel
theorem dX11_talk_75 : decode cX11_talk 75 = .ok (.getfield 24, 3) := by decide +kernel
theorem dX11_talk_78 : decode cX11_talk 78 = .ok (.bipush 54, 2) := by decide +kernel
theorem dX11_talk_80 : decode cX11_talk 80 = .ok (.bipush 10, 2) := by decide +kernel
theorem dX11_talk_82 : decode cX11_talk 82 = .ok (.iload_n 2, 1) := by decide +kernel
theorem dX11_talk_83 : decode cX11_talk 83 = .ok (.imul, 1) := by decide +kernel
theorem dX11_talk_84 : decode cX11_talk 84 = .ok (.iadd, 1) := by decide +kernel
theorem dX11_talk_85 : decode cX11_talk 85 = .ok (.iload_n 1, 1) := by decide +kernel
theorem dX11_talk_86 : decode cX11_talk 86 = .ok (.iadd, 1) := by decide +kernel
theorem dX11_talk_87 : decode cX11_talk 87 = .ok (.iload_n 3, 1) := by decide +kernel
theorem dX11_talk_88 : decode cX11_talk 88 = .ok (.iastore, 1) := by decide +kernel
theorem dX11_talk_89 : decode cX11_talk 89 = .ok (.aload_n 0, 1) := by decide +kernel
theorem dX11_talk_90 : decode cX11_talk 90 = .ok (.iload 4, 2) := by decide +kernel
theorem dX11_talk_92 : decode cX11_talk 92 = .ok (.invokevirtual 14, 3) := by decide +kernel
theorem dX11_talk_95 : decode cX11_talk 95 = .ok (.ireturn, 1) := by decide +kernel
def B_X11_talk_14 (Q : Int → st_S → Prop)    (σ : st_S) : Prop := wp_X11_refuses (-1) σ (fun r22 s23 => Q r22 s23)
def B_X11_talk_36 (Q : Int → st_S → Prop)    (σ : st_S) : Prop := wp_X11_refuses (-2) σ (fun r24 s25 => Q r24 s25)
def wp_X11_talk (a1 : Int) (a2 : Int) (a3 : Int) (σ : st_S) (Q : Int → st_S → Prop) : Prop := (a1 = a2 → B_X11_talk_14 Q σ) ∧ (¬ a1 = a2 → wp_X11_lies a3 0 1 σ (fun r26 s27 => (¬ r26 = 0 → wp_X11_isPerson a1 s27 (fun r28 s29 => (r28 = 0 → B_X11_talk_36 Q s29) ∧ (¬ r28 = 0 → wp_X11_isPerson a2 s29 (fun r30 s31 => (¬ r30 = 0 → ix (wr ((54 + (10 * a1)) + a2)) 5866 ∧ ∀ x34 : Int, x34 = gI s31 2 (Int.toNat (wr ((54 + (10 * a1)) + a2))) → ix (wr ((54 + (10 * a1)) + a2)) 5866 ∧ ∀ s36 : st_S, s36 = sI s31 2 (Int.toNat (wr ((54 + (10 * a1)) + a2))) a3 → ix (wr ((54 + (10 * a2)) + a1)) 5866 ∧ ∀ s38 : st_S, s38 = sI s36 2 (Int.toNat (wr ((54 + (10 * a2)) + a1))) a3 → wp_X11_good x34 s38 (fun r39 s40 => Q r39 s40)) ∧ (r30 = 0 → B_X11_talk_36 Q s31))))) ∧ (r26 = 0 → B_X11_talk_14 Q s27)))
set_option maxRecDepth 20000 in
theorem jb_X11_talk_14 {X : jj_X} {E : ev_E} {n0 hN : Nat} (hc : Cx X E cX11_talk 5 n0 hN RX11) (hm : eM E = 2) (hr : (xT X).sig.returnType = (some .int)) (hh : 3 ≤ hN) {Q : Int → st_S → Prop} {σ : st_S} (h : B_X11_talk_14 Q σ) : J X E 5 n0 0 0 (MQ (xB X) (qI E (n0 + 0) Q) (xA X) (xS X) 0 0 (eF E)) σ 14 [(0, vR E 0)] [] := by
  have hh1 : 1 ≤ hN := by omega
  replace h : wp_X11_refuses (-1) σ (fun r22 s23 => Q r22 s23) := h
  refine j_aload_nR hc 0 dX11_talk_14 rfl rfl ?_
  refine j_iconst hc dX11_talk_15 ?_
  refine j_vI hc (k := 11) (by decide) (fun hv => Or.inl (sv_k hv hm rfl)) ml_RX11_110 mv_X11_refuses (As := [vI (-1)]) (c_X11_refuses (cx_E hc) hm (wlit (-1) (by decide)) h) rfl (by omega) (by decide) ⟨Nat.zero_le _, Nat.zero_le _⟩ (Nat.le_of_ble_eq_true rfl) rfl dX11_talk_16 (fun r22 s23 cr22 h => ?_)
  exact j_iret hc hr cr22 h dX11_talk_19
set_option maxRecDepth 20000 in
theorem jb_X11_talk_36 {X : jj_X} {E : ev_E} {n0 hN : Nat} (hc : Cx X E cX11_talk 5 n0 hN RX11) (hm : eM E = 2) (hr : (xT X).sig.returnType = (some .int)) (hh : 3 ≤ hN) {Q : Int → st_S → Prop} {σ : st_S} (h : B_X11_talk_36 Q σ) : J X E 5 n0 0 0 (MQ (xB X) (qI E (n0 + 0) Q) (xA X) (xS X) 0 0 (eF E)) σ 36 [(0, vR E 0)] [] := by
  have hh1 : 1 ≤ hN := by omega
  replace h : wp_X11_refuses (-2) σ (fun r24 s25 => Q r24 s25) := h
  refine j_aload_nR hc 0 dX11_talk_36 rfl rfl ?_
  refine j_bipush hc dX11_talk_37 (by decide) ?_
  refine j_vI hc (k := 11) (by decide) (fun hv => Or.inl (sv_k hv hm rfl)) ml_RX11_110 mv_X11_refuses (As := [vI (-2)]) (c_X11_refuses (cx_E hc) hm (wlit (-2) (by decide)) h) rfl (by omega) (by decide) ⟨Nat.zero_le _, Nat.zero_le _⟩ (Nat.le_of_ble_eq_true rfl) rfl dX11_talk_39 (fun r24 s25 cr24 h => ?_)
  exact j_iret hc hr cr24 h dX11_talk_42
set_option maxRecDepth 20000 in
theorem c_X11_talk {l : Launch} {E : ev_E} (hE : Eok E) (hm : eM E = 2) {a1 : Int} {a2 : Int} {a3 : Int} (ca1 : wr a1 = a1) (ca2 : wr a2 = a2) (ca3 : wr a3 = a3) {σ : st_S} {Q : Int → st_S → Prop} (h : wp_X11_talk a1 a2 a3 σ Q) : cM l yX11_talk cX11_talk 5 (some .int) E 3 0 0 [vR E 0, vI a1, vI a2, vI a3] σ (qI E (gN σ + 0) Q) := by
  refine cM_of (lv := [(0, vR E 0), (1, vI a1), (2, vI a2), (3, vI a3)]) (by decide) hE (Nat.le_of_ble_eq_true rfl) (rfl) ?_
  intro X hX hc _ _ hr _ _
  subst hX
  have hh : 3 ≤ 3 := Nat.le_refl _
  have hh1 : 1 ≤ 3 := by omega
  replace h : (a1 = a2 → B_X11_talk_14 Q σ) ∧ (¬ a1 = a2 → wp_X11_lies a3 0 1 σ (fun r26 s27 => (¬ r26 = 0 → wp_X11_isPerson a1 s27 (fun r28 s29 => (r28 = 0 → B_X11_talk_36 Q s29) ∧ (¬ r28 = 0 → wp_X11_isPerson a2 s29 (fun r30 s31 => (¬ r30 = 0 → ix (wr ((54 + (10 * a1)) + a2)) 5866 ∧ ∀ x34 : Int, x34 = gI s31 2 (Int.toNat (wr ((54 + (10 * a1)) + a2))) → ix (wr ((54 + (10 * a1)) + a2)) 5866 ∧ ∀ s36 : st_S, s36 = sI s31 2 (Int.toNat (wr ((54 + (10 * a1)) + a2))) a3 → ix (wr ((54 + (10 * a2)) + a1)) 5866 ∧ ∀ s38 : st_S, s38 = sI s36 2 (Int.toNat (wr ((54 + (10 * a2)) + a1))) a3 → wp_X11_good x34 s38 (fun r39 s40 => Q r39 s40)) ∧ (r30 = 0 → B_X11_talk_36 Q s31))))) ∧ (r26 = 0 → B_X11_talk_14 Q s27))) := h
  refine j_iload_n hc 1 dX11_talk_0 rfl rfl ?_
  refine j_iload_n hc 2 dX11_talk_1 rfl rfl ?_
  refine j_ic_eq hc ca1 ca2 (tgt := 14) dX11_talk_2 (by decide) (fun q44 => ?_) (fun q44 => ?_)
  · replace h := h.1 q44
    refine j_sub (lv' := [(0, vR E 0)]) [0] rfl ?_
    exact jb_X11_talk_14 hc hm hr hh h
  · replace h := h.2 q44
    refine j_iload_n hc 3 dX11_talk_5 rfl rfl ?_
    refine j_iconst hc dX11_talk_6 ?_
    refine j_iconst hc dX11_talk_7 ?_
    refine j_sI hc ml_RX11_106 mv_X11_lies (As := [vI a3, vI 0, vI 1]) (c_X11_lies (cx_E hc) hm ca3 (wlit 0 (by decide)) (wlit 1 (by decide)) h) rfl (by omega) (by decide) ⟨Nat.zero_le _, Nat.zero_le _⟩ (Nat.le_of_ble_eq_true rfl) rfl dX11_talk_8 (fun r26 s27 cr26 h => ?_)
    refine j_if_ne hc cr26 (tgt := 20) dX11_talk_11 (by decide) (fun q43 => ?_) (fun q43 => ?_)
    · replace h := h.1 q43
      refine j_aload_nR hc 0 dX11_talk_20 rfl rfl ?_
      refine j_iload_n hc 1 dX11_talk_21 rfl rfl ?_
      refine j_vI hc (k := 11) (by decide) (fun hv => Or.inl (sv_k hv hm rfl)) ml_RX11_128 mv_X11_isPerson (As := [vI a1]) (c_X11_isPerson (cx_E hc) hm ca1 h) rfl (by omega) (by decide) ⟨Nat.zero_le _, Nat.zero_le _⟩ (Nat.le_of_ble_eq_true rfl) rfl dX11_talk_22 (fun r28 s29 cr28 h => ?_)
      refine j_if_eq hc cr28 (tgt := 36) dX11_talk_25 (by decide) (fun q42 => ?_) (fun q42 => ?_)
      · replace h := h.1 q42
        refine j_sub (lv' := [(0, vR E 0)]) [0] rfl ?_
        exact jb_X11_talk_36 hc hm hr hh h
      · replace h := h.2 q42
        refine j_aload_nR hc 0 dX11_talk_28 rfl rfl ?_
        refine j_iload_n hc 2 dX11_talk_29 rfl rfl ?_
        refine j_vI hc (k := 11) (by decide) (fun hv => Or.inl (sv_k hv hm rfl)) ml_RX11_128 mv_X11_isPerson (As := [vI a2]) (c_X11_isPerson (cx_E hc) hm ca2 h) rfl (by omega) (by decide) ⟨Nat.zero_le _, Nat.zero_le _⟩ (Nat.le_of_ble_eq_true rfl) rfl dX11_talk_30 (fun r30 s31 cr30 h => ?_)
        refine j_if_ne hc cr30 (tgt := 43) dX11_talk_33 (by decide) (fun q41 => ?_) (fun q41 => ?_)
        · replace h := h.1 q41
          refine j_aload_nR hc 0 dX11_talk_43 rfl rfl ?_
          refine j_getR (c' := 2) hc fl_RX11_24 rfl rfl (fun hv => (sv_k hv hm rfl)) dX11_talk_44 ?_
          refine j_bipush hc dX11_talk_47 (by decide) ?_
          refine j_bipush hc dX11_talk_49 (by decide) ?_
          refine j_iload_n hc 1 dX11_talk_51 rfl rfl ?_
          refine j_imul hc dX11_talk_52 ?_
          refine j_iadd hc dX11_talk_53 ?_
          refine j_iload_n hc 2 dX11_talk_54 rfl rfl ?_
          refine j_iadd hc dX11_talk_55 ?_
          obtain ⟨b32, h⟩ := h
          refine j_iald (jn := (Int.toNat (wr ((54 + (10 * a1)) + a2)))) hc (fun hv => sv_kl hv hm rfl) rfl b32 rfl dX11_talk_56 (fun cn33 => ?_)
          refine j_c cn33 (fun x34 ex34 cx34 => ?_)
          replace h := h x34 ex34
          refine j_istore (lv' := [(4, vI x34), (0, vR E 0), (1, vI a1), (2, vI a2), (3, vI a3)]) hc dX11_talk_57 (by decide) rfl ?_
          refine j_aload_nR hc 1 dX11_talk_59 rfl rfl ?_
          refine j_getR (c' := 2) hc fl_RX11_24 rfl rfl (fun hv => (sv_k hv hm rfl)) dX11_talk_60 ?_
          refine j_bipush hc dX11_talk_63 (by decide) ?_
          refine j_bipush hc dX11_talk_65 (by decide) ?_
          refine j_iload_n hc 2 dX11_talk_67 rfl rfl ?_
          refine j_imul hc dX11_talk_68 ?_
          refine j_iadd hc dX11_talk_69 ?_
          refine j_iload_n hc 3 dX11_talk_70 rfl rfl ?_
          refine j_iadd hc dX11_talk_71 ?_
          refine j_iload_n hc 4 dX11_talk_72 rfl rfl ?_
          obtain ⟨b35, h⟩ := h
          refine j_iast (jn := (Int.toNat (wr ((54 + (10 * a1)) + a2)))) hc (fun hv => sv_kl hv hm rfl) rfl b35 rfl ca3 dX11_talk_73 (fun s36 es36 => ?_)
          replace h := h s36 es36
          refine j_aload_nR hc 1 dX11_talk_74 rfl rfl ?_
          refine j_getR (c' := 2) hc fl_RX11_24 rfl rfl (fun hv => (sv_k hv hm rfl)) dX11_talk_75 ?_
          refine j_bipush hc dX11_talk_78 (by decide) ?_
          refine j_bipush hc dX11_talk_80 (by decide) ?_
          refine j_iload_n hc 3 dX11_talk_82 rfl rfl ?_
          refine j_imul hc dX11_talk_83 ?_
          refine j_iadd hc dX11_talk_84 ?_
          refine j_iload_n hc 2 dX11_talk_85 rfl rfl ?_
          refine j_iadd hc dX11_talk_86 ?_
          refine j_iload_n hc 4 dX11_talk_87 rfl rfl ?_
          obtain ⟨b37, h⟩ := h
          refine j_iast (jn := (Int.toNat (wr ((54 + (10 * a2)) + a1)))) hc (fun hv => sv_kl hv hm rfl) rfl b37 rfl ca3 dX11_talk_88 (fun s38 es38 => ?_)
          replace h := h s38 es38
          refine j_aload_nR hc 1 dX11_talk_89 rfl rfl ?_
          refine j_iload hc 0 dX11_talk_90 rfl ?_
          refine j_vI hc (k := 11) (by decide) (fun hv => Or.inl (sv_k hv hm rfl)) ml_RX11_14 mv_X11_good (As := [vI x34]) (c_X11_good (cx_E hc) hm cx34 h) rfl (by omega) (by decide) ⟨Nat.zero_le _, Nat.zero_le _⟩ (Nat.le_of_ble_eq_true rfl) rfl dX11_talk_92 (fun r39 s40 cr39 h => ?_)
          exact j_iret hc hr cr39 h dX11_talk_95
        · replace h := h.2 q41
          refine j_sub (lv' := [(0, vR E 0)]) [0] rfl ?_
          exact jb_X11_talk_36 hc hm hr hh h
    · replace h := h.2 q43
      refine j_sub (lv' := [(0, vR E 0)]) [0] rfl ?_
      exact jb_X11_talk_14 hc hm hr hh h
-- LitStrangersModel.doTalk(II)Z
theorem dX11_doTalk_0 : decode cX11_doTalk 0 = .ok (.aload_n 0, 1) := by decide +kernel
theorem dX11_doTalk_1 : decode cX11_doTalk 1 = .ok (.getfield 24, 3) := by decide +kernel
theorem dX11_doTalk_4 : decode cX11_doTalk 4 = .ok (.bipush 54, 2) := by decide +kernel
theorem dX11_doTalk_6 : decode cX11_doTalk 6 = .ok (.bipush 10, 2) := by decide +kernel
theorem dX11_doTalk_8 : decode cX11_doTalk 8 = .ok (.iload_n 1, 1) := by decide +kernel
theorem dX11_doTalk_9 : decode cX11_doTalk 9 = .ok (.imul, 1) := by decide +kernel
theorem dX11_doTalk_10 : decode cX11_doTalk 10 = .ok (.iadd, 1) := by decide +kernel
theorem dX11_doTalk_11 : decode cX11_doTalk 11 = .ok (.iload_n 2, 1) := by decide +kernel
theorem dX11_doTalk_12 : decode cX11_doTalk 12 = .ok (.iadd, 1) := by decide +kernel
theorem dX11_doTalk_13 : decode cX11_doTalk 13 = .ok (.iaload, 1) := by decide +kernel
theorem dX11_doTalk_14 : decode cX11_doTalk 14 = .ok (.iconst 1, 1) := by decide +kernel
theorem dX11_doTalk_15 : decode cX11_doTalk 15 = .ok (.if_icmp .ne 7, 3) := by decide +kernel
theorem dX11_doTalk_18 : decode cX11_doTalk 18 = .ok (.iconst 1, 1) := by decide +kernel
theorem dX11_doTalk_19 : decode cX11_doTalk 19 = .ok (.goto 4, 3) := by decide +kernel
theorem dX11_doTalk_22 : decode cX11_doTalk 22 = .ok (.iconst 0, 1) := by decide +kernel
theorem dX11_doTalk_23 : decode cX11_doTalk 23 = .ok (.ireturn, 1) := by decide +kernel
def B_X11_doTalk_23 (Q : Int → st_S → Prop)   (v0 : Int) (σ : st_S) : Prop := (v0 = 0 ∨ v0 = 1) ∧ Q v0 σ
def wp_X11_doTalk (a1 : Int) (a2 : Int) (σ : st_S) (Q : Int → st_S → Prop) : Prop := ix (wr ((54 + (10 * a1)) + a2)) 5866 ∧ (¬ gI σ 2 (Int.toNat (wr ((54 + (10 * a1)) + a2))) = 1 → B_X11_doTalk_23 Q 0 σ) ∧ (gI σ 2 (Int.toNat (wr ((54 + (10 * a1)) + a2))) = 1 → B_X11_doTalk_23 Q 1 σ)
set_option maxRecDepth 20000 in
theorem jb_X11_doTalk_23 {X : jj_X} {E : ev_E} {n0 hN : Nat} (hc : Cx X E cX11_doTalk 3 n0 hN RX11) (hm : eM E = 2) (hr : (xT X).sig.returnType = (some .boolean)) (hh : 1 ≤ hN) {Q : Int → st_S → Prop} {v0 : Int} (cv0 : wr v0 = v0) {σ : st_S} (h : B_X11_doTalk_23 Q v0 σ) : J X E 3 n0 0 0 (MQ (xB X) (qI E (n0 + 0) Q) (xA X) (xS X) 0 0 (eF E)) σ 23 [] [vI v0] := by
  have hh1 : 1 ≤ hN := by omega
  replace h : (v0 = 0 ∨ v0 = 1) ∧ Q v0 σ := h
  exact j_zret hc hr (nar_bool h.1) (by rcases h.1 with e | e <;> (rw [e]; decide)) h.2 dX11_doTalk_23
set_option maxRecDepth 20000 in
theorem c_X11_doTalk {l : Launch} {E : ev_E} (hE : Eok E) (hm : eM E = 2) {a1 : Int} {a2 : Int} (ca1 : wr a1 = a1) (ca2 : wr a2 = a2) {σ : st_S} {Q : Int → st_S → Prop} (h : wp_X11_doTalk a1 a2 σ Q) : cM l yX11_doTalk cX11_doTalk 3 (some .boolean) E 1 0 0 [vR E 0, vI a1, vI a2] σ (qI E (gN σ + 0) Q) := by
  refine cM_of (lv := [(0, vR E 0), (1, vI a1), (2, vI a2)]) (by decide) hE (Nat.le_of_ble_eq_true rfl) (rfl) ?_
  intro X hX hc _ _ hr _ _
  subst hX
  have hh : 1 ≤ 1 := Nat.le_refl _
  have hh1 : 1 ≤ 1 := by omega
  replace h : ix (wr ((54 + (10 * a1)) + a2)) 5866 ∧ (¬ gI σ 2 (Int.toNat (wr ((54 + (10 * a1)) + a2))) = 1 → B_X11_doTalk_23 Q 0 σ) ∧ (gI σ 2 (Int.toNat (wr ((54 + (10 * a1)) + a2))) = 1 → B_X11_doTalk_23 Q 1 σ) := h
  refine j_aload_nR hc 0 dX11_doTalk_0 rfl rfl ?_
  refine j_getR (c' := 2) hc fl_RX11_24 rfl rfl (fun hv => (sv_k hv hm rfl)) dX11_doTalk_1 ?_
  refine j_bipush hc dX11_doTalk_4 (by decide) ?_
  refine j_bipush hc dX11_doTalk_6 (by decide) ?_
  refine j_iload_n hc 1 dX11_doTalk_8 rfl rfl ?_
  refine j_imul hc dX11_doTalk_9 ?_
  refine j_iadd hc dX11_doTalk_10 ?_
  refine j_iload_n hc 2 dX11_doTalk_11 rfl rfl ?_
  refine j_iadd hc dX11_doTalk_12 ?_
  obtain ⟨b3, h⟩ := h
  refine j_iald (jn := (Int.toNat (wr ((54 + (10 * a1)) + a2)))) hc (fun hv => sv_kl hv hm rfl) rfl b3 rfl dX11_doTalk_13 (fun cn4 => ?_)
  refine j_iconst hc dX11_doTalk_14 ?_
  refine j_ic_ne hc cn4 (wlit 1 (by decide)) (tgt := 22) dX11_doTalk_15 (by decide) (fun q5 => ?_) (fun q5 => ?_)
  · replace h := h.1 q5
    refine j_iconst hc dX11_doTalk_22 ?_
    refine j_sub (lv' := []) [] rfl ?_
    exact jb_X11_doTalk_23 hc hm hr hh (wlit 0 (by decide)) h
  · replace h := h.2 q5
    refine j_iconst hc dX11_doTalk_18 ?_
    refine j_goto (tgt := 23) hc dX11_doTalk_19 (by decide) ?_
    refine j_sub (lv' := []) [] rfl ?_
    exact jb_X11_doTalk_23 hc hm hr hh (wlit 1 (by decide)) h
-- LitStrangersModel.fog(II)I
theorem dX11_fog_0 : decode cX11_fog 0 = .ok (.iload_n 1, 1) := by decide +kernel
theorem dX11_fog_1 : decode cX11_fog 1 = .ok (.iconst 0, 1) := by decide +kernel
theorem dX11_fog_2 : decode cX11_fog 2 = .ok (.bipush 99, 2) := by decide +kernel
theorem dX11_fog_4 : decode cX11_fog 4 = .ok (.invokestatic 106, 3) := by decide +kernel
theorem dX11_fog_7 : decode cX11_fog 7 = .ok (.ifCond .eq 12, 3) := by decide +kernel
theorem dX11_fog_10 : decode cX11_fog 10 = .ok (.iload_n 2, 1) := by decide +kernel
theorem dX11_fog_11 : decode cX11_fog 11 = .ok (.iconst 0, 1) := by decide +kernel
theorem dX11_fog_12 : decode cX11_fog 12 = .ok (.iconst 1, 1) := by decide +kernel
theorem dX11_fog_13 : decode cX11_fog 13 = .ok (.invokestatic 106, 3) := by decide +kernel
theorem dX11_fog_16 : decode cX11_fog 16 = .ok (.ifCond .ne 9, 3) := by decide +kernel
theorem dX11_fog_19 : decode cX11_fog 19 = .ok (.aload_n 0, 1) := by decide +kernel
theorem dX11_fog_20 : decode cX11_fog 20 = .ok (.iconst (-1), 1) := by decide +kernel
theorem dX11_fog_21 : decode cX11_fog 21 = .ok (.invokevirtual 110, 3) := by decide +kernel
theorem dX11_fog_24 : decode cX11_fog 24 = .ok (.ireturn, 1) := by decide +kernel
theorem dX11_fog_25 : decode cX11_fog 25 = .ok (.aload_n 0, 1) := by decide +kernel
theorem dX11_fog_26 : decode cX11_fog 26 = .ok (.getfield 24, 3) := by decide +kernel
theorem dX11_fog_29 : decode cX11_fog 29 = .ok (.sipush 154, 3) := by decide +kernel
theorem dX11_fog_32 : decode cX11_fog 32 = .ok (.iload_n 1, 1) := by decide +kernel
theorem dX11_fog_33 : decode cX11_fog 33 = .ok (.iadd, 1) := by decide +kernel
theorem dX11_fog_34 : decode cX11_fog 34 = .ok (.iaload, 1) := by decide +kernel
theorem dX11_fog_35 : decode cX11_fog 35 = .ok (.istore_n 3, 1) := by decide +kernel
theorem dX11_fog_36 : decode cX11_fog 36 = .ok (.aload_n 0, 1) := by decide +kernel
theorem dX11_fog_37 : decode cX11_fog 37 = .ok (.getfield 24, 3) := by decide +kernel
theorem dX11_fog_40 : decode cX11_fog 40 = .ok (.sipush 154, 3) := by decide +kernel
theorem dX11_fog_43 : decode cX11_fog 43 = .ok (.iload_n 1, 1) := by decide +kernel
theorem dX11_fog_44 : decode cX11_fog 44 = .ok (.iadd, 1) := by decide +kernel
theorem dX11_fog_45 : decode cX11_fog 45 = .ok (.iload_n 2, 1) := by decide +kernel
theorem dX11_fog_46 : decode cX11_fog 46 = .ok (.iastore, 1) := by decide +kernel
theorem dX11_fog_47 : decode cX11_fog 47 = .ok (.aload_n 0, 1) := by decide +kernel
theorem dX11_fog_48 : decode cX11_fog 48 = .ok (.iload_n 3, 1) := by decide +kernel
theorem dX11_fog_49 : decode cX11_fog 49 = .ok (.invokevirtual 14, 3) := by decide +kernel
theorem dX11_fog_52 : decode cX11_fog 52 = .ok (.ireturn, 1) := by decide +kernel
def B_X11_fog_19 (Q : Int → st_S → Prop)    (σ : st_S) : Prop := wp_X11_refuses (-1) σ (fun r15 s16 => Q r15 s16)
def wp_X11_fog (a1 : Int) (a2 : Int) (σ : st_S) (Q : Int → st_S → Prop) : Prop := wp_X11_lies a1 0 99 σ (fun r17 s18 => (r17 = 0 → B_X11_fog_19 Q s18) ∧ (¬ r17 = 0 → wp_X11_lies a2 0 1 s18 (fun r19 s20 => (¬ r19 = 0 → ix (wr (154 + a1)) 5866 ∧ ∀ x23 : Int, x23 = gI s20 2 (Int.toNat (wr (154 + a1))) → ix (wr (154 + a1)) 5866 ∧ ∀ s25 : st_S, s25 = sI s20 2 (Int.toNat (wr (154 + a1))) a2 → wp_X11_good x23 s25 (fun r26 s27 => Q r26 s27)) ∧ (r19 = 0 → B_X11_fog_19 Q s20))))
set_option maxRecDepth 20000 in
theorem jb_X11_fog_19 {X : jj_X} {E : ev_E} {n0 hN : Nat} (hc : Cx X E cX11_fog 4 n0 hN RX11) (hm : eM E = 2) (hr : (xT X).sig.returnType = (some .int)) (hh : 2 ≤ hN) {Q : Int → st_S → Prop} {σ : st_S} (h : B_X11_fog_19 Q σ) : J X E 4 n0 0 0 (MQ (xB X) (qI E (n0 + 0) Q) (xA X) (xS X) 0 0 (eF E)) σ 19 [(0, vR E 0)] [] := by
  have hh1 : 1 ≤ hN := by omega
  replace h : wp_X11_refuses (-1) σ (fun r15 s16 => Q r15 s16) := h
  refine j_aload_nR hc 0 dX11_fog_19 rfl rfl ?_
  refine j_iconst hc dX11_fog_20 ?_
  refine j_vI hc (k := 11) (by decide) (fun hv => Or.inl (sv_k hv hm rfl)) ml_RX11_110 mv_X11_refuses (As := [vI (-1)]) (c_X11_refuses (cx_E hc) hm (wlit (-1) (by decide)) h) rfl (by omega) (by decide) ⟨Nat.zero_le _, Nat.zero_le _⟩ (Nat.le_of_ble_eq_true rfl) rfl dX11_fog_21 (fun r15 s16 cr15 h => ?_)
  exact j_iret hc hr cr15 h dX11_fog_24
set_option maxRecDepth 20000 in
theorem c_X11_fog {l : Launch} {E : ev_E} (hE : Eok E) (hm : eM E = 2) {a1 : Int} {a2 : Int} (ca1 : wr a1 = a1) (ca2 : wr a2 = a2) {σ : st_S} {Q : Int → st_S → Prop} (h : wp_X11_fog a1 a2 σ Q) : cM l yX11_fog cX11_fog 4 (some .int) E 2 0 0 [vR E 0, vI a1, vI a2] σ (qI E (gN σ + 0) Q) := by
  refine cM_of (lv := [(0, vR E 0), (1, vI a1), (2, vI a2)]) (by decide) hE (Nat.le_of_ble_eq_true rfl) (rfl) ?_
  intro X hX hc _ _ hr _ _
  subst hX
  have hh : 2 ≤ 2 := Nat.le_refl _
  have hh1 : 1 ≤ 2 := by omega
  replace h : wp_X11_lies a1 0 99 σ (fun r17 s18 => (r17 = 0 → B_X11_fog_19 Q s18) ∧ (¬ r17 = 0 → wp_X11_lies a2 0 1 s18 (fun r19 s20 => (¬ r19 = 0 → ix (wr (154 + a1)) 5866 ∧ ∀ x23 : Int, x23 = gI s20 2 (Int.toNat (wr (154 + a1))) → ix (wr (154 + a1)) 5866 ∧ ∀ s25 : st_S, s25 = sI s20 2 (Int.toNat (wr (154 + a1))) a2 → wp_X11_good x23 s25 (fun r26 s27 => Q r26 s27)) ∧ (r19 = 0 → B_X11_fog_19 Q s20)))) := h
  refine j_iload_n hc 1 dX11_fog_0 rfl rfl ?_
  refine j_iconst hc dX11_fog_1 ?_
  refine j_bipush hc dX11_fog_2 (by decide) ?_
  refine j_sI hc ml_RX11_106 mv_X11_lies (As := [vI a1, vI 0, vI 99]) (c_X11_lies (cx_E hc) hm ca1 (wlit 0 (by decide)) (wlit 99 (by decide)) h) rfl (by omega) (by decide) ⟨Nat.zero_le _, Nat.zero_le _⟩ (Nat.le_of_ble_eq_true rfl) rfl dX11_fog_4 (fun r17 s18 cr17 h => ?_)
  refine j_if_eq hc cr17 (tgt := 19) dX11_fog_7 (by decide) (fun q29 => ?_) (fun q29 => ?_)
  · replace h := h.1 q29
    refine j_sub (lv' := [(0, vR E 0)]) [0] rfl ?_
    exact jb_X11_fog_19 hc hm hr hh h
  · replace h := h.2 q29
    refine j_iload_n hc 2 dX11_fog_10 rfl rfl ?_
    refine j_iconst hc dX11_fog_11 ?_
    refine j_iconst hc dX11_fog_12 ?_
    refine j_sI hc ml_RX11_106 mv_X11_lies (As := [vI a2, vI 0, vI 1]) (c_X11_lies (cx_E hc) hm ca2 (wlit 0 (by decide)) (wlit 1 (by decide)) h) rfl (by omega) (by decide) ⟨Nat.zero_le _, Nat.zero_le _⟩ (Nat.le_of_ble_eq_true rfl) rfl dX11_fog_13 (fun r19 s20 cr19 h => ?_)
    refine j_if_ne hc cr19 (tgt := 25) dX11_fog_16 (by decide) (fun q28 => ?_) (fun q28 => ?_)
    · replace h := h.1 q28
      refine j_aload_nR hc 0 dX11_fog_25 rfl rfl ?_
      refine j_getR (c' := 2) hc fl_RX11_24 rfl rfl (fun hv => (sv_k hv hm rfl)) dX11_fog_26 ?_
      refine j_sipush hc dX11_fog_29 (by decide) ?_
      refine j_iload_n hc 1 dX11_fog_32 rfl rfl ?_
      refine j_iadd hc dX11_fog_33 ?_
      obtain ⟨b21, h⟩ := h
      refine j_iald (jn := (Int.toNat (wr (154 + a1)))) hc (fun hv => sv_kl hv hm rfl) rfl b21 rfl dX11_fog_34 (fun cn22 => ?_)
      refine j_c cn22 (fun x23 ex23 cx23 => ?_)
      replace h := h x23 ex23
      refine j_istore_n (lv' := [(3, vI x23), (0, vR E 0), (1, vI a1), (2, vI a2)]) hc dX11_fog_35 rfl (by decide) rfl ?_
      refine j_aload_nR hc 1 dX11_fog_36 rfl rfl ?_
      refine j_getR (c' := 2) hc fl_RX11_24 rfl rfl (fun hv => (sv_k hv hm rfl)) dX11_fog_37 ?_
      refine j_sipush hc dX11_fog_40 (by decide) ?_
      refine j_iload_n hc 2 dX11_fog_43 rfl rfl ?_
      refine j_iadd hc dX11_fog_44 ?_
      refine j_iload_n hc 3 dX11_fog_45 rfl rfl ?_
      obtain ⟨b24, h⟩ := h
      refine j_iast (jn := (Int.toNat (wr (154 + a1)))) hc (fun hv => sv_kl hv hm rfl) rfl b24 rfl ca2 dX11_fog_46 (fun s25 es25 => ?_)
      replace h := h s25 es25
      refine j_aload_nR hc 1 dX11_fog_47 rfl rfl ?_
      refine j_iload_n hc 0 dX11_fog_48 rfl rfl ?_
      refine j_vI hc (k := 11) (by decide) (fun hv => Or.inl (sv_k hv hm rfl)) ml_RX11_14 mv_X11_good (As := [vI x23]) (c_X11_good (cx_E hc) hm cx23 h) rfl (by omega) (by decide) ⟨Nat.zero_le _, Nat.zero_le _⟩ (Nat.le_of_ble_eq_true rfl) rfl dX11_fog_49 (fun r26 s27 cr26 h => ?_)
      exact j_iret hc hr cr26 h dX11_fog_52
    · replace h := h.2 q28
      refine j_sub (lv' := [(0, vR E 0)]) [0] rfl ?_
      exact jb_X11_fog_19 hc hm hr hh h
-- LitStrangersModel.fogOn(I)I
theorem dX11_fogOn_0 : decode cX11_fogOn 0 = .ok (.iload_n 1, 1) := by decide +kernel
theorem dX11_fogOn_1 : decode cX11_fogOn 1 = .ok (.bipush 100, 2) := by decide +kernel
theorem dX11_fogOn_3 : decode cX11_fogOn 3 = .ok (.if_icmp .ge 16, 3) := by decide +kernel
theorem dX11_fogOn_6 : decode cX11_fogOn 6 = .ok (.aload_n 0, 1) := by decide +kernel
theorem dX11_fogOn_7 : decode cX11_fogOn 7 = .ok (.getfield 24, 3) := by decide +kernel
theorem dX11_fogOn_10 : decode cX11_fogOn 10 = .ok (.sipush 154, 3) := by decide +kernel
theorem dX11_fogOn_13 : decode cX11_fogOn 13 = .ok (.iload_n 1, 1) := by decide +kernel
theorem dX11_fogOn_14 : decode cX11_fogOn 14 = .ok (.iadd, 1) := by decide +kernel
theorem dX11_fogOn_15 : decode cX11_fogOn 15 = .ok (.iaload, 1) := by decide +kernel
theorem dX11_fogOn_16 : decode cX11_fogOn 16 = .ok (.goto 4, 3) := by decide +kernel
theorem dX11_fogOn_19 : decode cX11_fogOn 19 = .ok (.iconst 0, 1) := by decide +kernel
theorem dX11_fogOn_20 : decode cX11_fogOn 20 = .ok (.ireturn, 1) := by decide +kernel
def B_X11_fogOn_20 (Q : Int → st_S → Prop)   (v0 : Int) (σ : st_S) : Prop := Q v0 σ
def wp_X11_fogOn (a1 : Int) (σ : st_S) (Q : Int → st_S → Prop) : Prop := (100 ≤ a1 → B_X11_fogOn_20 Q 0 σ) ∧ (¬ 100 ≤ a1 → ix (wr (154 + a1)) 5866 ∧ B_X11_fogOn_20 Q (gI σ 2 (Int.toNat (wr (154 + a1)))) σ)
set_option maxRecDepth 20000 in
theorem jb_X11_fogOn_20 {X : jj_X} {E : ev_E} {n0 hN : Nat} (hc : Cx X E cX11_fogOn 2 n0 hN RX11) (hm : eM E = 2) (hr : (xT X).sig.returnType = (some .int)) (hh : 1 ≤ hN) {Q : Int → st_S → Prop} {v0 : Int} (cv0 : wr v0 = v0) {σ : st_S} (h : B_X11_fogOn_20 Q v0 σ) : J X E 2 n0 0 0 (MQ (xB X) (qI E (n0 + 0) Q) (xA X) (xS X) 0 0 (eF E)) σ 20 [] [vI v0] := by
  have hh1 : 1 ≤ hN := by omega
  replace h : Q v0 σ := h
  exact j_iret hc hr cv0 h dX11_fogOn_20
set_option maxRecDepth 20000 in
theorem c_X11_fogOn {l : Launch} {E : ev_E} (hE : Eok E) (hm : eM E = 2) {a1 : Int} (ca1 : wr a1 = a1) {σ : st_S} {Q : Int → st_S → Prop} (h : wp_X11_fogOn a1 σ Q) : cM l yX11_fogOn cX11_fogOn 2 (some .int) E 1 0 0 [vR E 0, vI a1] σ (qI E (gN σ + 0) Q) := by
  refine cM_of (lv := [(0, vR E 0), (1, vI a1)]) (by decide) hE (Nat.le_of_ble_eq_true rfl) (rfl) ?_
  intro X hX hc _ _ hr _ _
  subst hX
  have hh : 1 ≤ 1 := Nat.le_refl _
  have hh1 : 1 ≤ 1 := by omega
  replace h : (100 ≤ a1 → B_X11_fogOn_20 Q 0 σ) ∧ (¬ 100 ≤ a1 → ix (wr (154 + a1)) 5866 ∧ B_X11_fogOn_20 Q (gI σ 2 (Int.toNat (wr (154 + a1)))) σ) := h
  refine j_iload_n hc 1 dX11_fogOn_0 rfl rfl ?_
  refine j_bipush hc dX11_fogOn_1 (by decide) ?_
  refine j_ic_ge hc ca1 (wlit 100 (by decide)) (tgt := 19) dX11_fogOn_3 (by decide) (fun q5 => ?_) (fun q5 => ?_)
  · replace h := h.1 q5
    refine j_iconst hc dX11_fogOn_19 ?_
    refine j_sub (lv' := []) [] rfl ?_
    exact jb_X11_fogOn_20 hc hm hr hh (wlit 0 (by decide)) h
  · replace h := h.2 q5
    refine j_aload_nR hc 0 dX11_fogOn_6 rfl rfl ?_
    refine j_getR (c' := 2) hc fl_RX11_24 rfl rfl (fun hv => (sv_k hv hm rfl)) dX11_fogOn_7 ?_
    refine j_sipush hc dX11_fogOn_10 (by decide) ?_
    refine j_iload_n hc 1 dX11_fogOn_13 rfl rfl ?_
    refine j_iadd hc dX11_fogOn_14 ?_
    obtain ⟨b3, h⟩ := h
    refine j_iald (jn := (Int.toNat (wr (154 + a1)))) hc (fun hv => sv_kl hv hm rfl) rfl b3 rfl dX11_fogOn_15 (fun cn4 => ?_)
    refine j_goto (tgt := 20) hc dX11_fogOn_16 (by decide) ?_
    refine j_sub (lv' := []) [] rfl ?_
    exact jb_X11_fogOn_20 hc hm hr hh cn4 h
-- LitStrangersModel.terms(II)I
theorem dX11_terms_0 : decode cX11_terms 0 = .ok (.iload_n 1, 1) := by decide +kernel
theorem dX11_terms_1 : decode cX11_terms 1 = .ok (.iconst 0, 1) := by decide +kernel
theorem dX11_terms_2 : decode cX11_terms 2 = .ok (.iconst 2, 1) := by decide +kernel
theorem dX11_terms_3 : decode cX11_terms 3 = .ok (.invokestatic 106, 3) := by decide +kernel
theorem dX11_terms_6 : decode cX11_terms 6 = .ok (.ifCond .eq 33, 3) := by decide +kernel
theorem dX11_terms_9 : decode cX11_terms 9 = .ok (.iload_n 2, 1) := by decide +kernel
theorem dX11_terms_10 : decode cX11_terms 10 = .ok (.iconst 0, 1) := by decide +kernel
theorem dX11_terms_11 : decode cX11_terms 11 = .ok (.iload_n 1, 1) := by decide +kernel
theorem dX11_terms_12 : decode cX11_terms 12 = .ok (.ifCond .ne 9, 3) := by decide +kernel
theorem dX11_terms_15 : decode cX11_terms 15 = .ok (.sipush 999, 3) := by decide +kernel
theorem dX11_terms_18 : decode cX11_terms 18 = .ok (.goto 15, 3) := by decide +kernel
theorem dX11_terms_21 : decode cX11_terms 21 = .ok (.iload_n 1, 1) := by decide +kernel
theorem dX11_terms_22 : decode cX11_terms 22 = .ok (.iconst 1, 1) := by decide +kernel
theorem dX11_terms_23 : decode cX11_terms 23 = .ok (.if_icmp .ne 8, 3) := by decide +kernel
theorem dX11_terms_26 : decode cX11_terms 26 = .ok (.bipush 10, 2) := by decide +kernel
theorem dX11_terms_28 : decode cX11_terms 28 = .ok (.goto 5, 3) := by decide +kernel
theorem dX11_terms_31 : decode cX11_terms 31 = .ok (.bipush 9, 2) := by decide +kernel
theorem dX11_terms_33 : decode cX11_terms 33 = .ok (.invokestatic 106, 3) := by decide +kernel
theorem dX11_terms_36 : decode cX11_terms 36 = .ok (.ifCond .ne 9, 3) := by decide +kernel
theorem dX11_terms_39 : decode cX11_terms 39 = .ok (.aload_n 0, 1) := by decide +kernel
theorem dX11_terms_40 : decode cX11_terms 40 = .ok (.iconst (-1), 1) := by decide +kernel
theorem dX11_terms_41 : decode cX11_terms 41 = .ok (.invokevirtual 110, 3) := by decide +kernel
theorem dX11_terms_44 : decode cX11_terms 44 = .ok (.ireturn, 1) := by decide +kernel
theorem dX11_terms_45 : decode cX11_terms 45 = .ok (.iconst 0, 1) := by decide +kernel
theorem dX11_terms_46 : decode cX11_terms 46 = .ok (.istore_n 3, 1) := by decide +kernel
theorem dX11_terms_47 : decode cX11_terms 47 = .ok (.iload_n 3, 1) := by decide +kernel
theorem dX11_terms_48 : decode cX11_terms 48 = .ok (.aload_n 0, 1) := by decide +kernel
theorem dX11_terms_49 : decode cX11_terms 49 = .ok (.invokevirtual 116, 3) := by decide +kernel
theorem dX11_terms_52 : decode cX11_terms 52 = .ok (.if_icmp .ge 32, 3) := by decide +kernel
theorem dX11_terms_55 : decode cX11_terms 55 = .ok (.iload_n 1, 1) := by decide +kernel
theorem dX11_terms_56 : decode cX11_terms 56 = .ok (.ifCond .ne 28, 3) := by decide +kernel
theorem dX11_terms_59 : decode cX11_terms 59 = .ok (.aload_n 0, 1) := by decide +kernel
theorem dX11_terms_60 : decode cX11_terms 60 = .ok (.getfield 24, 3) := by decide +kernel
theorem dX11_terms_63 : decode cX11_terms 63 = .ok (.iconst 0, 1) := by decide +kernel
theorem dX11_terms_64 : decode cX11_terms 64 = .ok (.iload_n 3, 1) := by decide +kernel
theorem dX11_terms_65 : decode cX11_terms 65 = .ok (.iadd, 1) := by decide +kernel
theorem dX11_terms_66 : decode cX11_terms 66 = .ok (.iaload, 1) := by decide +kernel
theorem dX11_terms_67 : decode cX11_terms 67 = .ok (.iconst 1, 1) := by decide +kernel
theorem dX11_terms_68 : decode cX11_terms 68 = .ok (.if_icmp .ne 10, 3) := by decide +kernel
theorem dX11_terms_71 : decode cX11_terms 71 = .ok (.aload_n 0, 1) := by decide +kernel
theorem dX11_terms_72 : decode cX11_terms 72 = .ok (.bipush (-3), 2) := by decide +kernel
theorem dX11_terms_74 : decode cX11_terms 74 = .ok (.invokevirtual 110, 3) := by decide +kernel
theorem dX11_terms_77 : decode cX11_terms 77 = .ok (.ireturn, 1) := by decide +kernel
theorem dX11_terms_78 : decode cX11_terms 78 = .ok (.iinc 3 1, 3) := by decide +kernel
theorem dX11_terms_81 : decode cX11_terms 81 = .ok (.goto (-34), 3) := by decide +kernel
theorem dX11_terms_84 : decode cX11_terms 84 = .ok (.iload_n 1, 1) := by decide +kernel
theorem dX11_terms_85 : decode cX11_terms 85 = .ok (.ifCond .ne 8, 3) := by decide +kernel
theorem dX11_terms_88 : decode cX11_terms 88 = .ok (.bipush 33, 2) := by decide +kernel
theorem dX11_terms_90 : decode cX11_terms 90 = .ok (.goto 10, 3) := by decide +kernel
theorem dX11_terms_93 : decode cX11_terms 93 = .ok (.sipush 254, 3) := by decide +kernel
theorem dX11_terms_96 : decode cX11_terms 96 = .ok (.iload_n 1, 1) := by decide +kernel
theorem dX11_terms_97 : decode cX11_terms 97 = .ok (.iadd, 1) := by decide +kernel
theorem dX11_terms_98 : decode cX11_terms 98 = .ok (.iconst 1, 1) := by decide +kernel
theorem dX11_terms_99 : decode cX11_terms 99 = .ok (.isub, 1) := by decide +kernel
theorem dX11_terms_100 : decode cX11_terms 100 = .ok (.istore_n 3, 1) := by decide +kernel
theorem dX11_terms_101 : decode cX11_terms 101 = .ok (.aload_n 0, 1) := by decide +kernel
theorem dX11_terms_102 : decode cX11_terms 102 = .ok (.getfield 24, 3) := by decide +kernel
theorem dX11_terms_105 : decode cX11_terms 105 = .ok (.iload_n 3, 1) := by decide +kernel
theorem dX11_terms_106 : decode cX11_terms 106 = .ok (.iaload, 1) := by decide +kernel
theorem dX11_terms_107 : decode cX11_terms 107 = .ok (.istore 4, 2) := by decide +kernel
theorem dX11_terms_109 : decode cX11_terms 109 = .ok (.aload_n 0, 1) := by decide +kernel
theorem dX11_terms_110 : decode cX11_terms 110 = .ok (.getfield 24, 3) := by decide +kernel
theorem dX11_terms_113 : decode cX11_terms 113 = .ok (.iload_n 3, 1) := by decide +kernel
theorem dX11_terms_114 : decode cX11_terms 114 = .ok (.iload_n 2, 1) := by decide +kernel
theorem dX11_terms_115 : decode cX11_terms 115 = .ok (.iastore, 1) := by decide +kernel
theorem dX11_terms_116 : decode cX11_terms 116 = .ok (.aload_n 0, 1) := by decide +kernel
theorem dX11_terms_117 : decode cX11_terms 117 = .ok (.iload 4, 2) := by decide +kernel
theorem dX11_terms_119 : decode cX11_terms 119 = .ok (.invokevirtual 113, 3) := by decide +kernel
theorem dX11_terms_122 : decode cX11_terms 122 = .ok (.ireturn, 1) := by decide +kernel
def B_X11_terms_39 (Q : Int → st_S → Prop)    (σ : st_S) : Prop := wp_X11_refuses (-1) σ (fun r24 s25 => Q r24 s25)
def B_X11_terms_100 (Q : Int → st_S → Prop)   (l2 : Int) (v0 : Int) (σ : st_S) : Prop := ix v0 5866 ∧ ∀ x28 : Int, x28 = gI σ 2 (Int.toNat v0) → ix v0 5866 ∧ ∀ s30 : st_S, s30 = sI σ 2 (Int.toNat v0) l2 → wp_X11_settled x28 s30 (fun r31 s32 => Q r31 s32)
def B_X11_terms_84 (Q : Int → st_S → Prop)   (l1 : Int) (l2 : Int) (σ : st_S) : Prop := (¬ l1 = 0 → ∀ x33 : Int, x33 = wr ((254 + l1) - 1) → B_X11_terms_100 Q l2 x33 σ) ∧ (l1 = 0 → B_X11_terms_100 Q l2 33 σ)
def L_X11_terms_47 (Q : Int → st_S → Prop)   : Nat → Int → Int → Int → st_S → Prop
  | 0 => fun _ _ _ _ => False
  | n + 1 => fun l1 l2 l3 σ => wp_X11_people σ (fun r35 s36 => (r35 ≤ l3 → B_X11_terms_84 Q l1 l2 s36) ∧ (¬ r35 ≤ l3 → (¬ l1 = 0 → B_X11_terms_84 Q l1 l2 s36) ∧ (l1 = 0 → ix (wr (0 + l3)) 5866 ∧ (¬ gI s36 2 (Int.toNat (wr (0 + l3))) = 1 → ∀ x39 : Int, x39 = wr (l3 + 1) → (L_X11_terms_47 Q n) l1 l2 x39 s36) ∧ (gI s36 2 (Int.toNat (wr (0 + l3))) = 1 → wp_X11_refuses (-3) s36 (fun r40 s41 => Q r40 s41)))))
def B_X11_terms_33 (Q : Int → st_S → Prop)   (l1 : Int) (l2 : Int) (v0 : Int) (v1 : Int) (v2 : Int) (σ : st_S) : Prop := wp_X11_lies (wr v2) (wr v1) v0 σ (fun r45 s46 => (¬ r45 = 0 → ∃ m47 : Nat, L_X11_terms_47 Q m47 l1 l2 0 s46) ∧ (r45 = 0 → B_X11_terms_39 Q s46))
def wp_X11_terms (a1 : Int) (a2 : Int) (σ : st_S) (Q : Int → st_S → Prop) : Prop := wp_X11_lies a1 0 2 σ (fun r48 s49 => (r48 = 0 → B_X11_terms_39 Q s49) ∧ (¬ r48 = 0 → (¬ a1 = 0 → (¬ a1 = 1 → B_X11_terms_33 Q a1 a2 9 0 a2 s49) ∧ (a1 = 1 → B_X11_terms_33 Q a1 a2 10 0 a2 s49)) ∧ (a1 = 0 → B_X11_terms_33 Q a1 a2 999 0 a2 s49)))
set_option maxRecDepth 20000 in
theorem jb_X11_terms_39 {X : jj_X} {E : ev_E} {n0 hN : Nat} (hc : Cx X E cX11_terms 5 n0 hN RX11) (hm : eM E = 2) (hr : (xT X).sig.returnType = (some .int)) (hh : 3 ≤ hN) {Q : Int → st_S → Prop} {σ : st_S} (h : B_X11_terms_39 Q σ) : J X E 5 n0 0 0 (MQ (xB X) (qI E (n0 + 0) Q) (xA X) (xS X) 0 0 (eF E)) σ 39 [(0, vR E 0)] [] := by
  have hh1 : 1 ≤ hN := by omega
  replace h : wp_X11_refuses (-1) σ (fun r24 s25 => Q r24 s25) := h
  refine j_aload_nR hc 0 dX11_terms_39 rfl rfl ?_
  refine j_iconst hc dX11_terms_40 ?_
  refine j_vI hc (k := 11) (by decide) (fun hv => Or.inl (sv_k hv hm rfl)) ml_RX11_110 mv_X11_refuses (As := [vI (-1)]) (c_X11_refuses (cx_E hc) hm (wlit (-1) (by decide)) h) rfl (by omega) (by decide) ⟨Nat.zero_le _, Nat.zero_le _⟩ (Nat.le_of_ble_eq_true rfl) rfl dX11_terms_41 (fun r24 s25 cr24 h => ?_)
  exact j_iret hc hr cr24 h dX11_terms_44
set_option maxRecDepth 20000 in
theorem jb_X11_terms_100 {X : jj_X} {E : ev_E} {n0 hN : Nat} (hc : Cx X E cX11_terms 5 n0 hN RX11) (hm : eM E = 2) (hr : (xT X).sig.returnType = (some .int)) (hh : 3 ≤ hN) {Q : Int → st_S → Prop} {l2 : Int} {v0 : Int} (cl2 : wr l2 = l2) (cv0 : wr v0 = v0) {σ : st_S} (h : B_X11_terms_100 Q l2 v0 σ) : J X E 5 n0 0 0 (MQ (xB X) (qI E (n0 + 0) Q) (xA X) (xS X) 0 0 (eF E)) σ 100 [(0, vR E 0), (2, vI l2)] [vI v0] := by
  have hh1 : 1 ≤ hN := by omega
  replace h : ix v0 5866 ∧ ∀ x28 : Int, x28 = gI σ 2 (Int.toNat v0) → ix v0 5866 ∧ ∀ s30 : st_S, s30 = sI σ 2 (Int.toNat v0) l2 → wp_X11_settled x28 s30 (fun r31 s32 => Q r31 s32) := h
  refine j_istore_n (lv' := [(3, vI v0), (0, vR E 0), (2, vI l2)]) hc dX11_terms_100 rfl (by decide) rfl ?_
  refine j_aload_nR hc 1 dX11_terms_101 rfl rfl ?_
  refine j_getR (c' := 2) hc fl_RX11_24 rfl rfl (fun hv => (sv_k hv hm rfl)) dX11_terms_102 ?_
  refine j_iload_n hc 0 dX11_terms_105 rfl rfl ?_
  obtain ⟨b26, h⟩ := h
  refine j_iald (jn := (Int.toNat v0)) hc (fun hv => sv_kl hv hm rfl) cv0 b26 rfl dX11_terms_106 (fun cn27 => ?_)
  refine j_c cn27 (fun x28 ex28 cx28 => ?_)
  replace h := h x28 ex28
  refine j_istore (lv' := [(4, vI x28), (3, vI v0), (0, vR E 0), (2, vI l2)]) hc dX11_terms_107 (by decide) rfl ?_
  refine j_aload_nR hc 2 dX11_terms_109 rfl rfl ?_
  refine j_getR (c' := 2) hc fl_RX11_24 rfl rfl (fun hv => (sv_k hv hm rfl)) dX11_terms_110 ?_
  refine j_iload_n hc 1 dX11_terms_113 rfl rfl ?_
  refine j_iload_n hc 3 dX11_terms_114 rfl rfl ?_
  obtain ⟨b29, h⟩ := h
  refine j_iast (jn := (Int.toNat v0)) hc (fun hv => sv_kl hv hm rfl) cv0 b29 rfl cl2 dX11_terms_115 (fun s30 es30 => ?_)
  replace h := h s30 es30
  refine j_aload_nR hc 2 dX11_terms_116 rfl rfl ?_
  refine j_iload hc 0 dX11_terms_117 rfl ?_
  refine j_vI hc (k := 11) (by decide) (fun hv => Or.inl (sv_k hv hm rfl)) ml_RX11_113 mv_X11_settled (As := [vI x28]) (c_X11_settled (cx_E hc) hm cx28 h) rfl (by omega) (by decide) ⟨Nat.zero_le _, Nat.zero_le _⟩ (Nat.le_of_ble_eq_true rfl) rfl dX11_terms_119 (fun r31 s32 cr31 h => ?_)
  exact j_iret hc hr cr31 h dX11_terms_122
set_option maxRecDepth 20000 in
theorem jb_X11_terms_84 {X : jj_X} {E : ev_E} {n0 hN : Nat} (hc : Cx X E cX11_terms 5 n0 hN RX11) (hm : eM E = 2) (hr : (xT X).sig.returnType = (some .int)) (hh : 3 ≤ hN) {Q : Int → st_S → Prop} {l1 : Int} {l2 : Int} (cl1 : wr l1 = l1) (cl2 : wr l2 = l2) {σ : st_S} (h : B_X11_terms_84 Q l1 l2 σ) : J X E 5 n0 0 0 (MQ (xB X) (qI E (n0 + 0) Q) (xA X) (xS X) 0 0 (eF E)) σ 84 [(0, vR E 0), (1, vI l1), (2, vI l2)] [] := by
  have hh1 : 1 ≤ hN := by omega
  replace h : (¬ l1 = 0 → ∀ x33 : Int, x33 = wr ((254 + l1) - 1) → B_X11_terms_100 Q l2 x33 σ) ∧ (l1 = 0 → B_X11_terms_100 Q l2 33 σ) := h
  refine j_iload_n hc 1 dX11_terms_84 rfl rfl ?_
  refine j_if_ne hc cl1 (tgt := 93) dX11_terms_85 (by decide) (fun q34 => ?_) (fun q34 => ?_)
  · replace h := h.1 q34
    refine j_sipush hc dX11_terms_93 (by decide) ?_
    refine j_iload_n hc 1 dX11_terms_96 rfl rfl ?_
    refine j_iadd hc dX11_terms_97 ?_
    refine j_iconst hc dX11_terms_98 ?_
    refine j_isub hc dX11_terms_99 ?_
    refine j_w (fun x33 ex33 cx33 => ?_)
    replace h := h x33 ex33
    refine j_sub (lv' := [(0, vR E 0), (2, vI l2)]) [0, 2] rfl ?_
    exact jb_X11_terms_100 hc hm hr hh cl2 cx33 h
  · replace h := h.2 q34
    refine j_bipush hc dX11_terms_88 (by decide) ?_
    refine j_goto (tgt := 100) hc dX11_terms_90 (by decide) ?_
    refine j_sub (lv' := [(0, vR E 0), (2, vI l2)]) [0, 2] rfl ?_
    exact jb_X11_terms_100 hc hm hr hh cl2 (wlit 33 (by decide)) h
set_option maxRecDepth 20000 in
theorem jl_X11_terms_47 {X : jj_X} {E : ev_E} {n0 hN : Nat} (hc : Cx X E cX11_terms 5 n0 hN RX11) (hm : eM E = 2) (hr : (xT X).sig.returnType = (some .int)) (hh : 3 ≤ hN) {Q : Int → st_S → Prop} : ∀ (n : Nat) {l1 : Int} {l2 : Int} {l3 : Int} (cl1 : wr l1 = l1) (cl2 : wr l2 = l2) (cl3 : wr l3 = l3) {σ : st_S}, L_X11_terms_47 Q n l1 l2 l3 σ → J X E 5 n0 0 0 (MQ (xB X) (qI E (n0 + 0) Q) (xA X) (xS X) 0 0 (eF E)) σ 47 [(0, vR E 0), (1, vI l1), (2, vI l2), (3, vI l3)] [] := by
  have hh1 : 1 ≤ hN := by omega
  intro n
  induction n with
  | zero => intro l1 l2 l3 cl1 cl2 cl3 σ h; exact h.elim
  | succ n ih =>
    intro l1 l2 l3 cl1 cl2 cl3 σ h
    have hk47 : ∀ {l1 : Int} {l2 : Int} {l3 : Int} (cl1 : wr l1 = l1) (cl2 : wr l2 = l2) (cl3 : wr l3 = l3) {σ : st_S}, L_X11_terms_47 Q n l1 l2 l3 σ → J X E 5 n0 0 0 (MQ (xB X) (qI E (n0 + 0) Q) (xA X) (xS X) 0 0 (eF E)) σ 47 [(0, vR E 0), (1, vI l1), (2, vI l2), (3, vI l3)] [] := ih
    replace h : wp_X11_people σ (fun r35 s36 => (r35 ≤ l3 → B_X11_terms_84 Q l1 l2 s36) ∧ (¬ r35 ≤ l3 → (¬ l1 = 0 → B_X11_terms_84 Q l1 l2 s36) ∧ (l1 = 0 → ix (wr (0 + l3)) 5866 ∧ (¬ gI s36 2 (Int.toNat (wr (0 + l3))) = 1 → ∀ x39 : Int, x39 = wr (l3 + 1) → (L_X11_terms_47 Q n) l1 l2 x39 s36) ∧ (gI s36 2 (Int.toNat (wr (0 + l3))) = 1 → wp_X11_refuses (-3) s36 (fun r40 s41 => Q r40 s41))))) := h
    refine j_iload_n hc 3 dX11_terms_47 rfl rfl ?_
    refine j_aload_nR hc 0 dX11_terms_48 rfl rfl ?_
    refine j_vI hc (k := 11) (by decide) (fun hv => Or.inl (sv_k hv hm rfl)) ml_RX11_116 mv_X11_people (As := []) (c_X11_people (cx_E hc) hm  h) rfl (by omega) (by decide) ⟨Nat.zero_le _, Nat.zero_le _⟩ (Nat.le_of_ble_eq_true rfl) rfl dX11_terms_49 (fun r35 s36 cr35 h => ?_)
    refine j_ic_ge hc cl3 cr35 (tgt := 84) dX11_terms_52 (by decide) (fun q44 => ?_) (fun q44 => ?_)
    · replace h := h.1 q44
      refine j_sub (lv' := [(0, vR E 0), (1, vI l1), (2, vI l2)]) [0, 1, 2] rfl ?_
      exact jb_X11_terms_84 hc hm hr hh cl1 cl2 h
    · replace h := h.2 q44
      refine j_iload_n hc 1 dX11_terms_55 rfl rfl ?_
      refine j_if_ne hc cl1 (tgt := 84) dX11_terms_56 (by decide) (fun q43 => ?_) (fun q43 => ?_)
      · replace h := h.1 q43
        refine j_sub (lv' := [(0, vR E 0), (1, vI l1), (2, vI l2)]) [0, 1, 2] rfl ?_
        exact jb_X11_terms_84 hc hm hr hh cl1 cl2 h
      · replace h := h.2 q43
        refine j_aload_nR hc 0 dX11_terms_59 rfl rfl ?_
        refine j_getR (c' := 2) hc fl_RX11_24 rfl rfl (fun hv => (sv_k hv hm rfl)) dX11_terms_60 ?_
        refine j_iconst hc dX11_terms_63 ?_
        refine j_iload_n hc 3 dX11_terms_64 rfl rfl ?_
        refine j_iadd hc dX11_terms_65 ?_
        obtain ⟨b37, h⟩ := h
        refine j_iald (jn := (Int.toNat (wr (0 + l3)))) hc (fun hv => sv_kl hv hm rfl) rfl b37 rfl dX11_terms_66 (fun cn38 => ?_)
        refine j_iconst hc dX11_terms_67 ?_
        refine j_ic_ne hc cn38 (wlit 1 (by decide)) (tgt := 78) dX11_terms_68 (by decide) (fun q42 => ?_) (fun q42 => ?_)
        · replace h := h.1 q42
          obtain ⟨x39, ex39⟩ : ∃ y : Int, y = wr (l3 + 1) := ⟨_, rfl⟩
          have cx39 : wr x39 = x39 := by rw [ex39]; exact wr_wr _
          replace h := h x39 ex39
          refine j_iinc (lv' := [(3, vI x39), (0, vR E 0), (1, vI l1), (2, vI l2)]) hc 3 dX11_terms_78 rfl (by decide) ex39 rfl ?_
          refine j_goto (tgt := 47) hc dX11_terms_81 (by decide) ?_
          refine j_sub (lv' := [(0, vR E 0), (1, vI l1), (2, vI l2), (3, vI x39)]) [1, 2, 3, 0] rfl ?_
          exact hk47 cl1 cl2 cx39 h
        · replace h := h.2 q42
          refine j_aload_nR hc 0 dX11_terms_71 rfl rfl ?_
          refine j_bipush hc dX11_terms_72 (by decide) ?_
          refine j_vI hc (k := 11) (by decide) (fun hv => Or.inl (sv_k hv hm rfl)) ml_RX11_110 mv_X11_refuses (As := [vI (-3)]) (c_X11_refuses (cx_E hc) hm (wlit (-3) (by decide)) h) rfl (by omega) (by decide) ⟨Nat.zero_le _, Nat.zero_le _⟩ (Nat.le_of_ble_eq_true rfl) rfl dX11_terms_74 (fun r40 s41 cr40 h => ?_)
          exact j_iret hc hr cr40 h dX11_terms_77
set_option maxRecDepth 20000 in
theorem jb_X11_terms_33 {X : jj_X} {E : ev_E} {n0 hN : Nat} (hc : Cx X E cX11_terms 5 n0 hN RX11) (hm : eM E = 2) (hr : (xT X).sig.returnType = (some .int)) (hh : 3 ≤ hN) {Q : Int → st_S → Prop} {l1 : Int} {l2 : Int} {v0 : Int} {v1 : Int} {v2 : Int} (cl1 : wr l1 = l1) (cl2 : wr l2 = l2) (cv0 : wr v0 = v0) {σ : st_S} (h : B_X11_terms_33 Q l1 l2 v0 v1 v2 σ) : J X E 5 n0 0 0 (MQ (xB X) (qI E (n0 + 0) Q) (xA X) (xS X) 0 0 (eF E)) σ 33 [(0, vR E 0), (1, vI l1), (2, vI l2)] [vI v0, vI v1, vI v2] := by
  have hh1 : 1 ≤ hN := by omega
  replace h : wp_X11_lies (wr v2) (wr v1) v0 σ (fun r45 s46 => (¬ r45 = 0 → ∃ m47 : Nat, L_X11_terms_47 Q m47 l1 l2 0 s46) ∧ (r45 = 0 → B_X11_terms_39 Q s46)) := h
  refine j_sI hc ml_RX11_106 mv_X11_lies (As := [vI (wr v2), vI (wr v1), vI v0]) (c_X11_lies (cx_E hc) hm (wr_wr _) (wr_wr _) cv0 h) rfl (by omega) (by decide) ⟨Nat.zero_le _, Nat.zero_le _⟩ (Nat.le_of_ble_eq_true rfl) (by simp only [vI_wr, vL_wl]; rfl) dX11_terms_33 (fun r45 s46 cr45 h => ?_)
  refine j_if_ne hc cr45 (tgt := 45) dX11_terms_36 (by decide) (fun q47 => ?_) (fun q47 => ?_)
  · replace h := h.1 q47
    refine j_iconst hc dX11_terms_45 ?_
    refine j_istore_n (lv' := [(3, vI 0), (0, vR E 0), (1, vI l1), (2, vI l2)]) hc dX11_terms_46 rfl (by decide) rfl ?_
    obtain ⟨n47, h⟩ := h
    refine j_sub (lv' := [(0, vR E 0), (1, vI l1), (2, vI l2), (3, vI 0)]) [1, 2, 3, 0] rfl ?_
    exact jl_X11_terms_47 hc hm hr hh n47 cl1 cl2 (wlit 0 (by decide)) h
  · replace h := h.2 q47
    refine j_sub (lv' := [(0, vR E 0)]) [0] rfl ?_
    exact jb_X11_terms_39 hc hm hr hh h
set_option maxRecDepth 20000 in
theorem c_X11_terms {l : Launch} {E : ev_E} (hE : Eok E) (hm : eM E = 2) {a1 : Int} {a2 : Int} (ca1 : wr a1 = a1) (ca2 : wr a2 = a2) {σ : st_S} {Q : Int → st_S → Prop} (h : wp_X11_terms a1 a2 σ Q) : cM l yX11_terms cX11_terms 5 (some .int) E 3 0 0 [vR E 0, vI a1, vI a2] σ (qI E (gN σ + 0) Q) := by
  refine cM_of (lv := [(0, vR E 0), (1, vI a1), (2, vI a2)]) (by decide) hE (Nat.le_of_ble_eq_true rfl) (rfl) ?_
  intro X hX hc _ _ hr _ _
  subst hX
  have hh : 3 ≤ 3 := Nat.le_refl _
  have hh1 : 1 ≤ 3 := by omega
  replace h : wp_X11_lies a1 0 2 σ (fun r48 s49 => (r48 = 0 → B_X11_terms_39 Q s49) ∧ (¬ r48 = 0 → (¬ a1 = 0 → (¬ a1 = 1 → B_X11_terms_33 Q a1 a2 9 0 a2 s49) ∧ (a1 = 1 → B_X11_terms_33 Q a1 a2 10 0 a2 s49)) ∧ (a1 = 0 → B_X11_terms_33 Q a1 a2 999 0 a2 s49))) := h
  refine j_iload_n hc 1 dX11_terms_0 rfl rfl ?_
  refine j_iconst hc dX11_terms_1 ?_
  refine j_iconst hc dX11_terms_2 ?_
  refine j_sI hc ml_RX11_106 mv_X11_lies (As := [vI a1, vI 0, vI 2]) (c_X11_lies (cx_E hc) hm ca1 (wlit 0 (by decide)) (wlit 2 (by decide)) h) rfl (by omega) (by decide) ⟨Nat.zero_le _, Nat.zero_le _⟩ (Nat.le_of_ble_eq_true rfl) rfl dX11_terms_3 (fun r48 s49 cr48 h => ?_)
  refine j_if_eq hc cr48 (tgt := 39) dX11_terms_6 (by decide) (fun q52 => ?_) (fun q52 => ?_)
  · replace h := h.1 q52
    refine j_sub (lv' := [(0, vR E 0)]) [0] rfl ?_
    exact jb_X11_terms_39 hc hm hr hh h
  · replace h := h.2 q52
    refine j_iload_n hc 2 dX11_terms_9 rfl rfl ?_
    refine j_iconst hc dX11_terms_10 ?_
    refine j_iload_n hc 1 dX11_terms_11 rfl rfl ?_
    refine j_if_ne hc ca1 (tgt := 21) dX11_terms_12 (by decide) (fun q51 => ?_) (fun q51 => ?_)
    · replace h := h.1 q51
      refine j_iload_n hc 1 dX11_terms_21 rfl rfl ?_
      refine j_iconst hc dX11_terms_22 ?_
      refine j_ic_ne hc ca1 (wlit 1 (by decide)) (tgt := 31) dX11_terms_23 (by decide) (fun q50 => ?_) (fun q50 => ?_)
      · replace h := h.1 q50
        refine j_bipush hc dX11_terms_31 (by decide) ?_
        refine j_sub (lv' := [(0, vR E 0), (1, vI a1), (2, vI a2)]) [0, 1, 2] rfl ?_
        exact jb_X11_terms_33 hc hm hr hh ca1 ca2 (wlit 9 (by decide)) h
      · replace h := h.2 q50
        refine j_bipush hc dX11_terms_26 (by decide) ?_
        refine j_goto (tgt := 33) hc dX11_terms_28 (by decide) ?_
        refine j_sub (lv' := [(0, vR E 0), (1, vI a1), (2, vI a2)]) [0, 1, 2] rfl ?_
        exact jb_X11_terms_33 hc hm hr hh ca1 ca2 (wlit 10 (by decide)) h
    · replace h := h.2 q51
      refine j_sipush hc dX11_terms_15 (by decide) ?_
      refine j_goto (tgt := 33) hc dX11_terms_18 (by decide) ?_
      refine j_sub (lv' := [(0, vR E 0), (1, vI a1), (2, vI a2)]) [0, 1, 2] rfl ?_
      exact jb_X11_terms_33 hc hm hr hh ca1 ca2 (wlit 999 (by decide)) h
-- LitStrangersModel.row()I
theorem dX11_row_0 : decode cX11_row 0 = .ok (.aload_n 0, 1) := by decide +kernel
theorem dX11_row_1 : decode cX11_row 1 = .ok (.getfield 141, 3) := by decide +kernel
theorem dX11_row_4 : decode cX11_row 4 = .ok (.istore_n 1, 1) := by decide +kernel
theorem dX11_row_5 : decode cX11_row 5 = .ok (.aload_n 0, 1) := by decide +kernel
theorem dX11_row_6 : decode cX11_row 6 = .ok (.iconst 0, 1) := by decide +kernel
theorem dX11_row_7 : decode cX11_row 7 = .ok (.putfield 141, 3) := by decide +kernel
theorem dX11_row_10 : decode cX11_row 10 = .ok (.iload_n 1, 1) := by decide +kernel
theorem dX11_row_11 : decode cX11_row 11 = .ok (.ifCond .ne 10, 3) := by decide +kernel
theorem dX11_row_14 : decode cX11_row 14 = .ok (.aload_n 0, 1) := by decide +kernel
theorem dX11_row_15 : decode cX11_row 15 = .ok (.bipush (-6), 2) := by decide +kernel
theorem dX11_row_17 : decode cX11_row 17 = .ok (.invokevirtual 110, 3) := by decide +kernel
theorem dX11_row_20 : decode cX11_row 20 = .ok (.ireturn, 1) := by decide +kernel
theorem dX11_row_21 : decode cX11_row 21 = .ok (.iconst 0, 1) := by decide +kernel
theorem dX11_row_22 : decode cX11_row 22 = .ok (.istore_n 2, 1) := by decide +kernel
theorem dX11_row_23 : decode cX11_row 23 = .ok (.aload_n 0, 1) := by decide +kernel
theorem dX11_row_24 : decode cX11_row 24 = .ok (.iload_n 1, 1) := by decide +kernel
theorem dX11_row_25 : decode cX11_row 25 = .ok (.iconst 3, 1) := by decide +kernel
theorem dX11_row_26 : decode cX11_row 26 = .ok (.irem, 1) := by decide +kernel
theorem dX11_row_27 : decode cX11_row 27 = .ok (.ifCond .ne 7, 3) := by decide +kernel
theorem dX11_row_30 : decode cX11_row 30 = .ok (.iconst 0, 1) := by decide +kernel
theorem dX11_row_31 : decode cX11_row 31 = .ok (.goto 4, 3) := by decide +kernel
theorem dX11_row_34 : decode cX11_row 34 = .ok (.iconst 1, 1) := by decide +kernel
theorem dX11_row_35 : decode cX11_row 35 = .ok (.putfield 144, 3) := by decide +kernel
theorem dX11_row_38 : decode cX11_row 38 = .ok (.iconst 0, 1) := by decide +kernel
theorem dX11_row_39 : decode cX11_row 39 = .ok (.istore_n 3, 1) := by decide +kernel
theorem dX11_row_40 : decode cX11_row 40 = .ok (.iload_n 3, 1) := by decide +kernel
theorem dX11_row_41 : decode cX11_row 41 = .ok (.iconst 3, 1) := by decide +kernel
theorem dX11_row_42 : decode cX11_row 42 = .ok (.iadd, 1) := by decide +kernel
theorem dX11_row_43 : decode cX11_row 43 = .ok (.iload_n 1, 1) := by decide +kernel
theorem dX11_row_44 : decode cX11_row 44 = .ok (.if_icmp .gt 124, 3) := by decide +kernel
theorem dX11_row_47 : decode cX11_row 47 = .ok (.aload_n 0, 1) := by decide +kernel
theorem dX11_row_48 : decode cX11_row 48 = .ok (.getfield 41, 3) := by decide +kernel
theorem dX11_row_51 : decode cX11_row 51 = .ok (.iload_n 3, 1) := by decide +kernel
theorem dX11_row_52 : decode cX11_row 52 = .ok (.baload, 1) := by decide +kernel
theorem dX11_row_53 : decode cX11_row 53 = .ok (.aload_n 0, 1) := by decide +kernel
theorem dX11_row_54 : decode cX11_row 54 = .ok (.getfield 41, 3) := by decide +kernel
theorem dX11_row_57 : decode cX11_row 57 = .ok (.iload_n 3, 1) := by decide +kernel
theorem dX11_row_58 : decode cX11_row 58 = .ok (.iconst 1, 1) := by decide +kernel
theorem dX11_row_59 : decode cX11_row 59 = .ok (.iadd, 1) := by decide +kernel
theorem dX11_row_60 : decode cX11_row 60 = .ok (.baload, 1) := by decide +kernel
theorem dX11_row_61 : decode cX11_row 61 = .ok (.invokestatic 120, 3) := by decide +kernel
theorem dX11_row_64 : decode cX11_row 64 = .ok (.ifCond .eq 32, 3) := by decide +kernel
theorem dX11_row_67 : decode cX11_row 67 = .ok (.aload_n 0, 1) := by decide +kernel
theorem dX11_row_68 : decode cX11_row 68 = .ok (.getfield 41, 3) := by decide +kernel
theorem dX11_row_71 : decode cX11_row 71 = .ok (.iload_n 3, 1) := by decide +kernel
theorem dX11_row_72 : decode cX11_row 72 = .ok (.iconst 2, 1) := by decide +kernel
theorem dX11_row_73 : decode cX11_row 73 = .ok (.iadd, 1) := by decide +kernel
theorem dX11_row_74 : decode cX11_row 74 = .ok (.baload, 1) := by decide +kernel
theorem dX11_row_75 : decode cX11_row 75 = .ok (.iconst 0, 1) := by decide +kernel
theorem dX11_row_76 : decode cX11_row 76 = .ok (.iconst 2, 1) := by decide +kernel
theorem dX11_row_77 : decode cX11_row 77 = .ok (.invokestatic 106, 3) := by decide +kernel
theorem dX11_row_80 : decode cX11_row 80 = .ok (.ifCond .eq 16, 3) := by decide +kernel
theorem dX11_row_83 : decode cX11_row 83 = .ok (.aload_n 0, 1) := by decide +kernel
theorem dX11_row_84 : decode cX11_row 84 = .ok (.invokevirtual 116, 3) := by decide +kernel
theorem dX11_row_87 : decode cX11_row 87 = .ok (.bipush 10, 2) := by decide +kernel
theorem dX11_row_89 : decode cX11_row 89 = .ok (.if_icmp .ge 7, 3) := by decide +kernel
theorem dX11_row_92 : decode cX11_row 92 = .ok (.iconst 1, 1) := by decide +kernel
theorem dX11_row_93 : decode cX11_row 93 = .ok (.goto 4, 3) := by decide +kernel
theorem dX11_row_96 : decode cX11_row 96 = .ok (.iconst 0, 1) := by decide +kernel
theorem dX11_row_97 : decode cX11_row 97 = .ok (.istore 4, 2) := by decide +kernel
theorem dX11_row_99 : decode cX11_row 99 = .ok (.iload 4, 2) := by decide +kernel
theorem dX11_row_101 : decode cX11_row 101 = .ok (.ifCond .eq 29, 3) := by decide +kernel
theorem dX11_row_104 : decode cX11_row 104 = .ok (.aload_n 0, 1) := by decide +kernel
theorem dX11_row_105 : decode cX11_row 105 = .ok (.aload_n 0, 1) := by decide +kernel
theorem dX11_row_106 : decode cX11_row 106 = .ok (.getfield 41, 3) := by decide +kernel
theorem dX11_row_109 : decode cX11_row 109 = .ok (.iload_n 3, 1) := by decide +kernel
theorem dX11_row_110 : decode cX11_row 110 = .ok (.baload, 1) := by decide +kernel
theorem dX11_row_111 : decode cX11_row 111 = .ok (.aload_n 0, 1) := by decide +kernel
theorem dX11_row_112 : decode cX11_row 112 = .ok (.getfield 41, 3) := by decide +kernel
theorem dX11_row_115 : decode cX11_row 115 = .ok (.iload_n 3, 1) := by decide +kernel
theorem dX11_row_116 : decode cX11_row 116 = .ok (.iconst 1, 1) := by decide +kernel
theorem dX11_row_117 : decode cX11_row 117 = .ok (.iadd, 1) := by decide +kernel
theorem dX11_row_118 : decode cX11_row 118 = .ok (.baload, 1) := by decide +kernel
theorem dX11_row_119 : decode cX11_row 119 = .ok (.aload_n 0, 1) := by decide +kernel
theorem dX11_row_120 : decode cX11_row 120 = .ok (.getfield 41, 3) := by decide +kernel
theorem dX11_row_123 : decode cX11_row 123 = .ok (.iload_n 3, 1) := by decide +kernel
theorem dX11_row_124 : decode cX11_row 124 = .ok (.iconst 2, 1) := by decide +kernel
theorem dX11_row_125 : decode cX11_row 125 = .ok (.iadd, 1) := by decide +kernel
theorem dX11_row_126 : decode cX11_row 126 = .ok (.baload, 1) := by decide +kernel
theorem dX11_row_127 : decode cX11_row 127 = .ok (.invokevirtual 124, 3) := by decide +kernel
theorem dX11_row_130 : decode cX11_row 130 = .ok (.iload_n 2, 1) := by decide +kernel
theorem dX11_row_131 : decode cX11_row 131 = .ok (.iload 4, 2) := by decide +kernel
theorem dX11_row_133 : decode cX11_row 133 = .ok (.ifCond .eq 7, 3) := by decide +kernel
theorem dX11_row_136 : decode cX11_row 136 = .ok (.iconst 1, 1) := by decide +kernel
theorem dX11_row_137 : decode cX11_row 137 = .ok (.goto 4, 3) := by decide +kernel
theorem dX11_row_140 : decode cX11_row 140 = .ok (.iconst 0, 1) := by decide +kernel
theorem dX11_row_141 : decode cX11_row 141 = .ok (.iadd, 1) := by decide +kernel
theorem dX11_row_142 : decode cX11_row 142 = .ok (.istore_n 2, 1) := by decide +kernel
theorem dX11_row_143 : decode cX11_row 143 = .ok (.aload_n 0, 1) := by decide +kernel
theorem dX11_row_144 : decode cX11_row 144 = .ok (.dup, 1) := by decide +kernel
theorem dX11_row_145 : decode cX11_row 145 = .ok (.getfield 144, 3) := by decide +kernel
theorem dX11_row_148 : decode cX11_row 148 = .ok (.iload 4, 2) := by decide +kernel
theorem dX11_row_150 : decode cX11_row 150 = .ok (.ifCond .eq 7, 3) := by decide +kernel
theorem dX11_row_153 : decode cX11_row 153 = .ok (.iconst 0, 1) := by decide +kernel
theorem dX11_row_154 : decode cX11_row 154 = .ok (.goto 4, 3) := by decide +kernel
theorem dX11_row_157 : decode cX11_row 157 = .ok (.iconst 1, 1) := by decide +kernel
theorem dX11_row_158 : decode cX11_row 158 = .ok (.iadd, 1) := by decide +kernel
theorem dX11_row_159 : decode cX11_row 159 = .ok (.putfield 144, 3) := by decide +kernel
theorem dX11_row_162 : decode cX11_row 162 = .ok (.iinc 3 3, 3) := by decide +kernel
theorem dX11_row_165 : decode cX11_row 165 = .ok (.goto (-125), 3) := by decide +kernel
theorem dX11_row_168 : decode cX11_row 168 = .ok (.aload_n 0, 1) := by decide +kernel
theorem dX11_row_169 : decode cX11_row 169 = .ok (.iload_n 2, 1) := by decide +kernel
theorem dX11_row_170 : decode cX11_row 170 = .ok (.invokevirtual 113, 3) := by decide +kernel
theorem dX11_row_173 : decode cX11_row 173 = .ok (.ireturn, 1) := by decide +kernel
def B_X11_row_158 (Q : Int → st_S → Prop)  (k40 : Int → Int → Int → st_S → Prop) (l1 : Int) (l2 : Int) (l3 : Int) (v0 : Int) (v1 : Int) (σ : st_S) : Prop := ∀ x40 : Int, x40 = wr (v1 + v0) → ∀ s41 : st_S, s41 = sI σ 0 6 x40 → ∀ x42 : Int, x42 = wr (l3 + 3) → k40 l1 l2 x42 s41
def B_X11_row_141 (Q : Int → st_S → Prop)  (k40 : Int → Int → Int → st_S → Prop) (l1 : Int) (l3 : Int) (l4 : Int) (v0 : Int) (v1 : Int) (σ : st_S) : Prop := ∀ x43 : Int, x43 = wr (v1 + v0) → (l4 = 0 → B_X11_row_158 Q k40 l1 x43 l3 1 (gI σ 0 6) σ) ∧ (¬ l4 = 0 → B_X11_row_158 Q k40 l1 x43 l3 0 (gI σ 0 6) σ)
def B_X11_row_130 (Q : Int → st_S → Prop)  (k40 : Int → Int → Int → st_S → Prop) (l1 : Int) (l2 : Int) (l3 : Int) (l4 : Int) (σ : st_S) : Prop := (l4 = 0 → B_X11_row_141 Q k40 l1 l3 l4 0 l2 σ) ∧ (¬ l4 = 0 → B_X11_row_141 Q k40 l1 l3 l4 1 l2 σ)
def B_X11_row_97 (Q : Int → st_S → Prop)  (k40 : Int → Int → Int → st_S → Prop) (l1 : Int) (l2 : Int) (l3 : Int) (v0 : Int) (σ : st_S) : Prop := (v0 = 0 → B_X11_row_130 Q k40 l1 l2 l3 v0 σ) ∧ (¬ v0 = 0 → ix l3 400 ∧ ix (wr (l3 + 1)) 400 ∧ ix (wr (l3 + 2)) 400 ∧ wp_X11_adds (gI σ 7 (Int.toNat l3)) (gI σ 7 (Int.toNat (wr (l3 + 1)))) (gI σ 7 (Int.toNat (wr (l3 + 2)))) σ (fun s54 => B_X11_row_130 Q k40 l1 l2 l3 v0 s54))
def B_X11_row_96 (Q : Int → st_S → Prop)  (k40 : Int → Int → Int → st_S → Prop) (l1 : Int) (l2 : Int) (l3 : Int) (σ : st_S) : Prop := B_X11_row_97 Q k40 l1 l2 l3 0 σ
def L_X11_row_40 (Q : Int → st_S → Prop)   : Nat → Int → Int → Int → st_S → Prop
  | 0 => fun _ _ _ _ => False
  | n + 1 => fun l1 l2 l3 σ => (l1 < wr (l3 + 3) → wp_X11_settled l2 σ (fun r56 s57 => Q r56 s57)) ∧ (¬ l1 < wr (l3 + 3) → ix l3 400 ∧ ix (wr (l3 + 1)) 400 ∧ wp_X11_canBe (gI σ 7 (Int.toNat l3)) (gI σ 7 (Int.toNat (wr (l3 + 1)))) σ (fun r62 s63 => (r62 = 0 → B_X11_row_96 Q (L_X11_row_40 Q n) l1 l2 l3 s63) ∧ (¬ r62 = 0 → ix (wr (l3 + 2)) 400 ∧ wp_X11_lies (gI s63 7 (Int.toNat (wr (l3 + 2)))) 0 2 s63 (fun r66 s67 => (r66 = 0 → B_X11_row_96 Q (L_X11_row_40 Q n) l1 l2 l3 s67) ∧ (¬ r66 = 0 → wp_X11_people s67 (fun r68 s69 => (10 ≤ r68 → B_X11_row_96 Q (L_X11_row_40 Q n) l1 l2 l3 s69) ∧ (¬ 10 ≤ r68 → B_X11_row_97 Q (L_X11_row_40 Q n) l1 l2 l3 1 s69)))))))
def B_X11_row_35 (Q : Int → st_S → Prop)   (l1 : Int) (l2 : Int) (v0 : Int) (σ : st_S) : Prop := ∀ s74 : st_S, s74 = sI σ 0 6 v0 → ∃ m40 : Nat, L_X11_row_40 Q m40 l1 l2 0 s74
def wp_X11_row  (σ : st_S) (Q : Int → st_S → Prop) : Prop := ∀ x76 : Int, x76 = gI σ 0 13 → ∀ s77 : st_S, s77 = sI σ 0 13 0 → (¬ x76 = 0 → (¬ o_rem x76 3 = 0 → B_X11_row_35 Q x76 0 1 s77) ∧ (o_rem x76 3 = 0 → B_X11_row_35 Q x76 0 0 s77)) ∧ (x76 = 0 → wp_X11_refuses (-6) s77 (fun r79 s80 => Q r79 s80))
set_option maxRecDepth 20000 in
theorem jb_X11_row_158 {X : jj_X} {E : ev_E} {n0 hN : Nat} (hc : Cx X E cX11_row 5 n0 hN RX11) (hm : eM E = 2) (hr : (xT X).sig.returnType = (some .int)) (hh : 3 ≤ hN) {Q : Int → st_S → Prop} {k40 : Int → Int → Int → st_S → Prop} (hk40 : ∀ {l1 : Int} {l2 : Int} {l3 : Int} (cl1 : wr l1 = l1) (cl2 : wr l2 = l2) (cl3 : wr l3 = l3) {σ : st_S}, k40 l1 l2 l3 σ → J X E 5 n0 0 0 (MQ (xB X) (qI E (n0 + 0) Q) (xA X) (xS X) 0 0 (eF E)) σ 40 [(0, vR E 0), (1, vI l1), (2, vI l2), (3, vI l3)] []) {l1 : Int} {l2 : Int} {l3 : Int} {v0 : Int} {v1 : Int} (cl1 : wr l1 = l1) (cl2 : wr l2 = l2) (cl3 : wr l3 = l3) (cv0 : wr v0 = v0) {σ : st_S} (h : B_X11_row_158 Q k40 l1 l2 l3 v0 v1 σ) : J X E 5 n0 0 0 (MQ (xB X) (qI E (n0 + 0) Q) (xA X) (xS X) 0 0 (eF E)) σ 158 [(0, vR E 0), (1, vI l1), (2, vI l2), (3, vI l3)] [vI v0, vI v1, vR E 0] := by
  have hh1 : 1 ≤ hN := by omega
  replace h : ∀ x40 : Int, x40 = wr (v1 + v0) → ∀ s41 : st_S, s41 = sI σ 0 6 x40 → ∀ x42 : Int, x42 = wr (l3 + 3) → k40 l1 l2 x42 s41 := h
  refine j_iadd hc dX11_row_158 ?_
  refine j_w (fun x40 ex40 cx40 => ?_)
  replace h := h x40 ex40
  refine j_putI hc fl_RX11_144 rfl rfl (fun hv => Or.inl (sv_k hv hm rfl)) cx40 dX11_row_159 (fun s41 es41 => ?_)
  replace h := h s41 es41
  obtain ⟨x42, ex42⟩ : ∃ y : Int, y = wr (l3 + 3) := ⟨_, rfl⟩
  have cx42 : wr x42 = x42 := by rw [ex42]; exact wr_wr _
  replace h := h x42 ex42
  refine j_iinc (lv' := [(3, vI x42), (0, vR E 0), (1, vI l1), (2, vI l2)]) hc 3 dX11_row_162 rfl (by decide) ex42 rfl ?_
  refine j_goto (tgt := 40) hc dX11_row_165 (by decide) ?_
  refine j_sub (lv' := [(0, vR E 0), (1, vI l1), (2, vI l2), (3, vI x42)]) [1, 2, 3, 0] rfl ?_
  exact hk40 cl1 cl2 cx42 h
set_option maxRecDepth 20000 in
theorem jb_X11_row_141 {X : jj_X} {E : ev_E} {n0 hN : Nat} (hc : Cx X E cX11_row 5 n0 hN RX11) (hm : eM E = 2) (hr : (xT X).sig.returnType = (some .int)) (hh : 3 ≤ hN) {Q : Int → st_S → Prop} {k40 : Int → Int → Int → st_S → Prop} (hk40 : ∀ {l1 : Int} {l2 : Int} {l3 : Int} (cl1 : wr l1 = l1) (cl2 : wr l2 = l2) (cl3 : wr l3 = l3) {σ : st_S}, k40 l1 l2 l3 σ → J X E 5 n0 0 0 (MQ (xB X) (qI E (n0 + 0) Q) (xA X) (xS X) 0 0 (eF E)) σ 40 [(0, vR E 0), (1, vI l1), (2, vI l2), (3, vI l3)] []) {l1 : Int} {l3 : Int} {l4 : Int} {v0 : Int} {v1 : Int} (cl1 : wr l1 = l1) (cl3 : wr l3 = l3) (cl4 : wr l4 = l4) (cv0 : wr v0 = v0) {σ : st_S} (h : B_X11_row_141 Q k40 l1 l3 l4 v0 v1 σ) : J X E 5 n0 0 0 (MQ (xB X) (qI E (n0 + 0) Q) (xA X) (xS X) 0 0 (eF E)) σ 141 [(0, vR E 0), (1, vI l1), (3, vI l3), (4, vI l4)] [vI v0, vI v1] := by
  have hh1 : 1 ≤ hN := by omega
  replace h : ∀ x43 : Int, x43 = wr (v1 + v0) → (l4 = 0 → B_X11_row_158 Q k40 l1 x43 l3 1 (gI σ 0 6) σ) ∧ (¬ l4 = 0 → B_X11_row_158 Q k40 l1 x43 l3 0 (gI σ 0 6) σ) := h
  refine j_iadd hc dX11_row_141 ?_
  refine j_w (fun x43 ex43 cx43 => ?_)
  replace h := h x43 ex43
  refine j_istore_n (lv' := [(2, vI x43), (0, vR E 0), (1, vI l1), (3, vI l3), (4, vI l4)]) hc dX11_row_142 rfl (by decide) rfl ?_
  refine j_aload_nR hc 1 dX11_row_143 rfl rfl ?_
  refine j_dup hc dX11_row_144 rfl ?_
  refine j_getI hc fl_RX11_144 (Or.inl rfl) (fun hv => Or.inl (sv_k hv hm rfl)) dX11_row_145 (fun cn44 => ?_)
  refine j_iload hc 4 dX11_row_148 rfl ?_
  refine j_if_eq hc cl4 (tgt := 157) dX11_row_150 (by decide) (fun q45 => ?_) (fun q45 => ?_)
  · replace h := h.1 q45
    refine j_iconst hc dX11_row_157 ?_
    refine j_sub (lv' := [(0, vR E 0), (1, vI l1), (2, vI x43), (3, vI l3)]) [1, 2, 0, 3] rfl ?_
    exact jb_X11_row_158 hc hm hr hh hk40 cl1 cx43 cl3 (wlit 1 (by decide)) h
  · replace h := h.2 q45
    refine j_iconst hc dX11_row_153 ?_
    refine j_goto (tgt := 158) hc dX11_row_154 (by decide) ?_
    refine j_sub (lv' := [(0, vR E 0), (1, vI l1), (2, vI x43), (3, vI l3)]) [1, 2, 0, 3] rfl ?_
    exact jb_X11_row_158 hc hm hr hh hk40 cl1 cx43 cl3 (wlit 0 (by decide)) h
set_option maxRecDepth 20000 in
theorem jb_X11_row_130 {X : jj_X} {E : ev_E} {n0 hN : Nat} (hc : Cx X E cX11_row 5 n0 hN RX11) (hm : eM E = 2) (hr : (xT X).sig.returnType = (some .int)) (hh : 3 ≤ hN) {Q : Int → st_S → Prop} {k40 : Int → Int → Int → st_S → Prop} (hk40 : ∀ {l1 : Int} {l2 : Int} {l3 : Int} (cl1 : wr l1 = l1) (cl2 : wr l2 = l2) (cl3 : wr l3 = l3) {σ : st_S}, k40 l1 l2 l3 σ → J X E 5 n0 0 0 (MQ (xB X) (qI E (n0 + 0) Q) (xA X) (xS X) 0 0 (eF E)) σ 40 [(0, vR E 0), (1, vI l1), (2, vI l2), (3, vI l3)] []) {l1 : Int} {l2 : Int} {l3 : Int} {l4 : Int} (cl1 : wr l1 = l1) (cl2 : wr l2 = l2) (cl3 : wr l3 = l3) (cl4 : wr l4 = l4) {σ : st_S} (h : B_X11_row_130 Q k40 l1 l2 l3 l4 σ) : J X E 5 n0 0 0 (MQ (xB X) (qI E (n0 + 0) Q) (xA X) (xS X) 0 0 (eF E)) σ 130 [(0, vR E 0), (1, vI l1), (2, vI l2), (3, vI l3), (4, vI l4)] [] := by
  have hh1 : 1 ≤ hN := by omega
  replace h : (l4 = 0 → B_X11_row_141 Q k40 l1 l3 l4 0 l2 σ) ∧ (¬ l4 = 0 → B_X11_row_141 Q k40 l1 l3 l4 1 l2 σ) := h
  refine j_iload_n hc 2 dX11_row_130 rfl rfl ?_
  refine j_iload hc 4 dX11_row_131 rfl ?_
  refine j_if_eq hc cl4 (tgt := 140) dX11_row_133 (by decide) (fun q46 => ?_) (fun q46 => ?_)
  · replace h := h.1 q46
    refine j_iconst hc dX11_row_140 ?_
    refine j_sub (lv' := [(0, vR E 0), (1, vI l1), (3, vI l3), (4, vI l4)]) [0, 1, 3, 4] rfl ?_
    exact jb_X11_row_141 hc hm hr hh hk40 cl1 cl3 cl4 (wlit 0 (by decide)) h
  · replace h := h.2 q46
    refine j_iconst hc dX11_row_136 ?_
    refine j_goto (tgt := 141) hc dX11_row_137 (by decide) ?_
    refine j_sub (lv' := [(0, vR E 0), (1, vI l1), (3, vI l3), (4, vI l4)]) [0, 1, 3, 4] rfl ?_
    exact jb_X11_row_141 hc hm hr hh hk40 cl1 cl3 cl4 (wlit 1 (by decide)) h
set_option maxRecDepth 20000 in
theorem jb_X11_row_97 {X : jj_X} {E : ev_E} {n0 hN : Nat} (hc : Cx X E cX11_row 5 n0 hN RX11) (hm : eM E = 2) (hr : (xT X).sig.returnType = (some .int)) (hh : 3 ≤ hN) {Q : Int → st_S → Prop} {k40 : Int → Int → Int → st_S → Prop} (hk40 : ∀ {l1 : Int} {l2 : Int} {l3 : Int} (cl1 : wr l1 = l1) (cl2 : wr l2 = l2) (cl3 : wr l3 = l3) {σ : st_S}, k40 l1 l2 l3 σ → J X E 5 n0 0 0 (MQ (xB X) (qI E (n0 + 0) Q) (xA X) (xS X) 0 0 (eF E)) σ 40 [(0, vR E 0), (1, vI l1), (2, vI l2), (3, vI l3)] []) {l1 : Int} {l2 : Int} {l3 : Int} {v0 : Int} (cl1 : wr l1 = l1) (cl2 : wr l2 = l2) (cl3 : wr l3 = l3) (cv0 : wr v0 = v0) {σ : st_S} (h : B_X11_row_97 Q k40 l1 l2 l3 v0 σ) : J X E 5 n0 0 0 (MQ (xB X) (qI E (n0 + 0) Q) (xA X) (xS X) 0 0 (eF E)) σ 97 [(0, vR E 0), (1, vI l1), (2, vI l2), (3, vI l3)] [vI v0] := by
  have hh1 : 1 ≤ hN := by omega
  replace h : (v0 = 0 → B_X11_row_130 Q k40 l1 l2 l3 v0 σ) ∧ (¬ v0 = 0 → ix l3 400 ∧ ix (wr (l3 + 1)) 400 ∧ ix (wr (l3 + 2)) 400 ∧ wp_X11_adds (gI σ 7 (Int.toNat l3)) (gI σ 7 (Int.toNat (wr (l3 + 1)))) (gI σ 7 (Int.toNat (wr (l3 + 2)))) σ (fun s54 => B_X11_row_130 Q k40 l1 l2 l3 v0 s54)) := h
  refine j_istore (lv' := [(4, vI v0), (0, vR E 0), (1, vI l1), (2, vI l2), (3, vI l3)]) hc dX11_row_97 (by decide) rfl ?_
  refine j_iload hc 0 dX11_row_99 rfl ?_
  refine j_if_eq hc cv0 (tgt := 130) dX11_row_101 (by decide) (fun q55 => ?_) (fun q55 => ?_)
  · replace h := h.1 q55
    refine j_sub (lv' := [(0, vR E 0), (1, vI l1), (2, vI l2), (3, vI l3), (4, vI v0)]) [1, 2, 3, 4, 0] rfl ?_
    exact jb_X11_row_130 hc hm hr hh hk40 cl1 cl2 cl3 cv0 h
  · replace h := h.2 q55
    refine j_aload_nR hc 1 dX11_row_104 rfl rfl ?_
    refine j_aload_nR hc 1 dX11_row_105 rfl rfl ?_
    refine j_getR (c' := 7) hc fl_RX11_41 rfl rfl (fun hv => (sv_k hv hm rfl)) dX11_row_106 ?_
    refine j_iload_n hc 4 dX11_row_109 rfl rfl ?_
    obtain ⟨b47, h⟩ := h
    refine j_bald (jn := (Int.toNat l3)) hc (fun hv => sv_kl hv hm rfl) cl3 b47 rfl dX11_row_110 (fun cn48 => ?_)
    refine j_aload_nR hc 1 dX11_row_111 rfl rfl ?_
    refine j_getR (c' := 7) hc fl_RX11_41 rfl rfl (fun hv => (sv_k hv hm rfl)) dX11_row_112 ?_
    refine j_iload_n hc 4 dX11_row_115 rfl rfl ?_
    refine j_iconst hc dX11_row_116 ?_
    refine j_iadd hc dX11_row_117 ?_
    obtain ⟨b49, h⟩ := h
    refine j_bald (jn := (Int.toNat (wr (l3 + 1)))) hc (fun hv => sv_kl hv hm rfl) rfl b49 rfl dX11_row_118 (fun cn50 => ?_)
    refine j_aload_nR hc 1 dX11_row_119 rfl rfl ?_
    refine j_getR (c' := 7) hc fl_RX11_41 rfl rfl (fun hv => (sv_k hv hm rfl)) dX11_row_120 ?_
    refine j_iload_n hc 4 dX11_row_123 rfl rfl ?_
    refine j_iconst hc dX11_row_124 ?_
    refine j_iadd hc dX11_row_125 ?_
    obtain ⟨b51, h⟩ := h
    refine j_bald (jn := (Int.toNat (wr (l3 + 2)))) hc (fun hv => sv_kl hv hm rfl) rfl b51 rfl dX11_row_126 (fun cn52 => ?_)
    refine j_vV hc (k := 11) (by decide) (fun hv => Or.inl (sv_k hv hm rfl)) ml_RX11_124 mv_X11_adds (As := [vI (gI σ 7 (Int.toNat l3)), vI (gI σ 7 (Int.toNat (wr (l3 + 1)))), vI (gI σ 7 (Int.toNat (wr (l3 + 2))))]) (c_X11_adds (cx_E hc) hm cn48 cn50 cn52 h) rfl (by omega) (by decide) ⟨Nat.zero_le _, Nat.zero_le _⟩ (Nat.le_of_ble_eq_true rfl) rfl dX11_row_127 (fun s54 h => ?_)
    refine j_sub (lv' := [(0, vR E 0), (1, vI l1), (2, vI l2), (3, vI l3), (4, vI v0)]) [1, 2, 3, 4, 0] rfl ?_
    exact jb_X11_row_130 hc hm hr hh hk40 cl1 cl2 cl3 cv0 h
set_option maxRecDepth 20000 in
theorem jb_X11_row_96 {X : jj_X} {E : ev_E} {n0 hN : Nat} (hc : Cx X E cX11_row 5 n0 hN RX11) (hm : eM E = 2) (hr : (xT X).sig.returnType = (some .int)) (hh : 3 ≤ hN) {Q : Int → st_S → Prop} {k40 : Int → Int → Int → st_S → Prop} (hk40 : ∀ {l1 : Int} {l2 : Int} {l3 : Int} (cl1 : wr l1 = l1) (cl2 : wr l2 = l2) (cl3 : wr l3 = l3) {σ : st_S}, k40 l1 l2 l3 σ → J X E 5 n0 0 0 (MQ (xB X) (qI E (n0 + 0) Q) (xA X) (xS X) 0 0 (eF E)) σ 40 [(0, vR E 0), (1, vI l1), (2, vI l2), (3, vI l3)] []) {l1 : Int} {l2 : Int} {l3 : Int} (cl1 : wr l1 = l1) (cl2 : wr l2 = l2) (cl3 : wr l3 = l3) {σ : st_S} (h : B_X11_row_96 Q k40 l1 l2 l3 σ) : J X E 5 n0 0 0 (MQ (xB X) (qI E (n0 + 0) Q) (xA X) (xS X) 0 0 (eF E)) σ 96 [(0, vR E 0), (1, vI l1), (2, vI l2), (3, vI l3)] [] := by
  have hh1 : 1 ≤ hN := by omega
  replace h : B_X11_row_97 Q k40 l1 l2 l3 0 σ := h
  refine j_iconst hc dX11_row_96 ?_
  refine j_sub (lv' := [(0, vR E 0), (1, vI l1), (2, vI l2), (3, vI l3)]) [0, 1, 2, 3] rfl ?_
  exact jb_X11_row_97 hc hm hr hh hk40 cl1 cl2 cl3 (wlit 0 (by decide)) h
set_option maxRecDepth 20000 in
theorem jl_X11_row_40 {X : jj_X} {E : ev_E} {n0 hN : Nat} (hc : Cx X E cX11_row 5 n0 hN RX11) (hm : eM E = 2) (hr : (xT X).sig.returnType = (some .int)) (hh : 3 ≤ hN) {Q : Int → st_S → Prop} : ∀ (n : Nat) {l1 : Int} {l2 : Int} {l3 : Int} (cl1 : wr l1 = l1) (cl2 : wr l2 = l2) (cl3 : wr l3 = l3) {σ : st_S}, L_X11_row_40 Q n l1 l2 l3 σ → J X E 5 n0 0 0 (MQ (xB X) (qI E (n0 + 0) Q) (xA X) (xS X) 0 0 (eF E)) σ 40 [(0, vR E 0), (1, vI l1), (2, vI l2), (3, vI l3)] [] := by
  have hh1 : 1 ≤ hN := by omega
  intro n
  induction n with
  | zero => intro l1 l2 l3 cl1 cl2 cl3 σ h; exact h.elim
  | succ n ih =>
    intro l1 l2 l3 cl1 cl2 cl3 σ h
    have hk40 : ∀ {l1 : Int} {l2 : Int} {l3 : Int} (cl1 : wr l1 = l1) (cl2 : wr l2 = l2) (cl3 : wr l3 = l3) {σ : st_S}, L_X11_row_40 Q n l1 l2 l3 σ → J X E 5 n0 0 0 (MQ (xB X) (qI E (n0 + 0) Q) (xA X) (xS X) 0 0 (eF E)) σ 40 [(0, vR E 0), (1, vI l1), (2, vI l2), (3, vI l3)] [] := ih
    replace h : (l1 < wr (l3 + 3) → wp_X11_settled l2 σ (fun r56 s57 => Q r56 s57)) ∧ (¬ l1 < wr (l3 + 3) → ix l3 400 ∧ ix (wr (l3 + 1)) 400 ∧ wp_X11_canBe (gI σ 7 (Int.toNat l3)) (gI σ 7 (Int.toNat (wr (l3 + 1)))) σ (fun r62 s63 => (r62 = 0 → B_X11_row_96 Q (L_X11_row_40 Q n) l1 l2 l3 s63) ∧ (¬ r62 = 0 → ix (wr (l3 + 2)) 400 ∧ wp_X11_lies (gI s63 7 (Int.toNat (wr (l3 + 2)))) 0 2 s63 (fun r66 s67 => (r66 = 0 → B_X11_row_96 Q (L_X11_row_40 Q n) l1 l2 l3 s67) ∧ (¬ r66 = 0 → wp_X11_people s67 (fun r68 s69 => (10 ≤ r68 → B_X11_row_96 Q (L_X11_row_40 Q n) l1 l2 l3 s69) ∧ (¬ 10 ≤ r68 → B_X11_row_97 Q (L_X11_row_40 Q n) l1 l2 l3 1 s69))))))) := h
    refine j_iload_n hc 3 dX11_row_40 rfl rfl ?_
    refine j_iconst hc dX11_row_41 ?_
    refine j_iadd hc dX11_row_42 ?_
    refine j_iload_n hc 1 dX11_row_43 rfl rfl ?_
    refine j_ic_gt hc rfl cl1 (tgt := 168) dX11_row_44 (by decide) (fun q73 => ?_) (fun q73 => ?_)
    · replace h := h.1 q73
      refine j_aload_nR hc 0 dX11_row_168 rfl rfl ?_
      refine j_iload_n hc 2 dX11_row_169 rfl rfl ?_
      refine j_vI hc (k := 11) (by decide) (fun hv => Or.inl (sv_k hv hm rfl)) ml_RX11_113 mv_X11_settled (As := [vI l2]) (c_X11_settled (cx_E hc) hm cl2 h) rfl (by omega) (by decide) ⟨Nat.zero_le _, Nat.zero_le _⟩ (Nat.le_of_ble_eq_true rfl) rfl dX11_row_170 (fun r56 s57 cr56 h => ?_)
      exact j_iret hc hr cr56 h dX11_row_173
    · replace h := h.2 q73
      refine j_aload_nR hc 0 dX11_row_47 rfl rfl ?_
      refine j_getR (c' := 7) hc fl_RX11_41 rfl rfl (fun hv => (sv_k hv hm rfl)) dX11_row_48 ?_
      refine j_iload_n hc 3 dX11_row_51 rfl rfl ?_
      obtain ⟨b58, h⟩ := h
      refine j_bald (jn := (Int.toNat l3)) hc (fun hv => sv_kl hv hm rfl) cl3 b58 rfl dX11_row_52 (fun cn59 => ?_)
      refine j_aload_nR hc 0 dX11_row_53 rfl rfl ?_
      refine j_getR (c' := 7) hc fl_RX11_41 rfl rfl (fun hv => (sv_k hv hm rfl)) dX11_row_54 ?_
      refine j_iload_n hc 3 dX11_row_57 rfl rfl ?_
      refine j_iconst hc dX11_row_58 ?_
      refine j_iadd hc dX11_row_59 ?_
      obtain ⟨b60, h⟩ := h
      refine j_bald (jn := (Int.toNat (wr (l3 + 1)))) hc (fun hv => sv_kl hv hm rfl) rfl b60 rfl dX11_row_60 (fun cn61 => ?_)
      refine j_sI hc ml_RX11_120 mv_X11_canBe (As := [vI (gI σ 7 (Int.toNat l3)), vI (gI σ 7 (Int.toNat (wr (l3 + 1))))]) (c_X11_canBe (cx_E hc) hm cn59 cn61 h) rfl (by omega) (by decide) ⟨Nat.zero_le _, Nat.zero_le _⟩ (Nat.le_of_ble_eq_true rfl) rfl dX11_row_61 (fun r62 s63 cr62 h => ?_)
      refine j_if_eq hc cr62 (tgt := 96) dX11_row_64 (by decide) (fun q72 => ?_) (fun q72 => ?_)
      · replace h := h.1 q72
        refine j_sub (lv' := [(0, vR E 0), (1, vI l1), (2, vI l2), (3, vI l3)]) [0, 1, 2, 3] rfl ?_
        exact jb_X11_row_96 hc hm hr hh hk40 cl1 cl2 cl3 h
      · replace h := h.2 q72
        refine j_aload_nR hc 0 dX11_row_67 rfl rfl ?_
        refine j_getR (c' := 7) hc fl_RX11_41 rfl rfl (fun hv => (sv_k hv hm rfl)) dX11_row_68 ?_
        refine j_iload_n hc 3 dX11_row_71 rfl rfl ?_
        refine j_iconst hc dX11_row_72 ?_
        refine j_iadd hc dX11_row_73 ?_
        obtain ⟨b64, h⟩ := h
        refine j_bald (jn := (Int.toNat (wr (l3 + 2)))) hc (fun hv => sv_kl hv hm rfl) rfl b64 rfl dX11_row_74 (fun cn65 => ?_)
        refine j_iconst hc dX11_row_75 ?_
        refine j_iconst hc dX11_row_76 ?_
        refine j_sI hc ml_RX11_106 mv_X11_lies (As := [vI (gI s63 7 (Int.toNat (wr (l3 + 2)))), vI 0, vI 2]) (c_X11_lies (cx_E hc) hm cn65 (wlit 0 (by decide)) (wlit 2 (by decide)) h) rfl (by omega) (by decide) ⟨Nat.zero_le _, Nat.zero_le _⟩ (Nat.le_of_ble_eq_true rfl) rfl dX11_row_77 (fun r66 s67 cr66 h => ?_)
        refine j_if_eq hc cr66 (tgt := 96) dX11_row_80 (by decide) (fun q71 => ?_) (fun q71 => ?_)
        · replace h := h.1 q71
          refine j_sub (lv' := [(0, vR E 0), (1, vI l1), (2, vI l2), (3, vI l3)]) [0, 1, 2, 3] rfl ?_
          exact jb_X11_row_96 hc hm hr hh hk40 cl1 cl2 cl3 h
        · replace h := h.2 q71
          refine j_aload_nR hc 0 dX11_row_83 rfl rfl ?_
          refine j_vI hc (k := 11) (by decide) (fun hv => Or.inl (sv_k hv hm rfl)) ml_RX11_116 mv_X11_people (As := []) (c_X11_people (cx_E hc) hm  h) rfl (by omega) (by decide) ⟨Nat.zero_le _, Nat.zero_le _⟩ (Nat.le_of_ble_eq_true rfl) rfl dX11_row_84 (fun r68 s69 cr68 h => ?_)
          refine j_bipush hc dX11_row_87 (by decide) ?_
          refine j_ic_ge hc cr68 (wlit 10 (by decide)) (tgt := 96) dX11_row_89 (by decide) (fun q70 => ?_) (fun q70 => ?_)
          · replace h := h.1 q70
            refine j_sub (lv' := [(0, vR E 0), (1, vI l1), (2, vI l2), (3, vI l3)]) [0, 1, 2, 3] rfl ?_
            exact jb_X11_row_96 hc hm hr hh hk40 cl1 cl2 cl3 h
          · replace h := h.2 q70
            refine j_iconst hc dX11_row_92 ?_
            refine j_goto (tgt := 97) hc dX11_row_93 (by decide) ?_
            refine j_sub (lv' := [(0, vR E 0), (1, vI l1), (2, vI l2), (3, vI l3)]) [0, 1, 2, 3] rfl ?_
            exact jb_X11_row_97 hc hm hr hh hk40 cl1 cl2 cl3 (wlit 1 (by decide)) h
set_option maxRecDepth 20000 in
theorem jb_X11_row_35 {X : jj_X} {E : ev_E} {n0 hN : Nat} (hc : Cx X E cX11_row 5 n0 hN RX11) (hm : eM E = 2) (hr : (xT X).sig.returnType = (some .int)) (hh : 3 ≤ hN) {Q : Int → st_S → Prop} {l1 : Int} {l2 : Int} {v0 : Int} (cl1 : wr l1 = l1) (cl2 : wr l2 = l2) (cv0 : wr v0 = v0) {σ : st_S} (h : B_X11_row_35 Q l1 l2 v0 σ) : J X E 5 n0 0 0 (MQ (xB X) (qI E (n0 + 0) Q) (xA X) (xS X) 0 0 (eF E)) σ 35 [(0, vR E 0), (1, vI l1), (2, vI l2)] [vI v0, vR E 0] := by
  have hh1 : 1 ≤ hN := by omega
  replace h : ∀ s74 : st_S, s74 = sI σ 0 6 v0 → ∃ m40 : Nat, L_X11_row_40 Q m40 l1 l2 0 s74 := h
  refine j_putI hc fl_RX11_144 rfl rfl (fun hv => Or.inl (sv_k hv hm rfl)) cv0 dX11_row_35 (fun s74 es74 => ?_)
  replace h := h s74 es74
  refine j_iconst hc dX11_row_38 ?_
  refine j_istore_n (lv' := [(3, vI 0), (0, vR E 0), (1, vI l1), (2, vI l2)]) hc dX11_row_39 rfl (by decide) rfl ?_
  obtain ⟨n40, h⟩ := h
  refine j_sub (lv' := [(0, vR E 0), (1, vI l1), (2, vI l2), (3, vI 0)]) [1, 2, 3, 0] rfl ?_
  exact jl_X11_row_40 hc hm hr hh n40 cl1 cl2 (wlit 0 (by decide)) h
set_option maxRecDepth 20000 in
theorem c_X11_row {l : Launch} {E : ev_E} (hE : Eok E) (hm : eM E = 2) {σ : st_S} {Q : Int → st_S → Prop} (h : wp_X11_row σ Q) : cM l yX11_row cX11_row 5 (some .int) E 3 0 0 [vR E 0] σ (qI E (gN σ + 0) Q) := by
  refine cM_of (lv := [(0, vR E 0)]) (by decide) hE (Nat.le_of_ble_eq_true rfl) (rfl) ?_
  intro X hX hc _ _ hr _ _
  subst hX
  have hh : 3 ≤ 3 := Nat.le_refl _
  have hh1 : 1 ≤ 3 := by omega
  replace h : ∀ x76 : Int, x76 = gI σ 0 13 → ∀ s77 : st_S, s77 = sI σ 0 13 0 → (¬ x76 = 0 → (¬ o_rem x76 3 = 0 → B_X11_row_35 Q x76 0 1 s77) ∧ (o_rem x76 3 = 0 → B_X11_row_35 Q x76 0 0 s77)) ∧ (x76 = 0 → wp_X11_refuses (-6) s77 (fun r79 s80 => Q r79 s80)) := h
  refine j_aload_nR hc 0 dX11_row_0 rfl rfl ?_
  refine j_getI hc fl_RX11_141 (Or.inl rfl) (fun hv => Or.inl (sv_k hv hm rfl)) dX11_row_1 (fun cn75 => ?_)
  refine j_c cn75 (fun x76 ex76 cx76 => ?_)
  replace h := h x76 ex76
  refine j_istore_n (lv' := [(1, vI x76), (0, vR E 0)]) hc dX11_row_4 rfl (by decide) rfl ?_
  refine j_aload_nR hc 1 dX11_row_5 rfl rfl ?_
  refine j_iconst hc dX11_row_6 ?_
  refine j_putI hc fl_RX11_141 rfl rfl (fun hv => Or.inl (sv_k hv hm rfl)) (wlit 0 (by decide)) dX11_row_7 (fun s77 es77 => ?_)
  replace h := h s77 es77
  refine j_iload_n hc 0 dX11_row_10 rfl rfl ?_
  refine j_if_ne hc cx76 (tgt := 21) dX11_row_11 (by decide) (fun q81 => ?_) (fun q81 => ?_)
  · replace h := h.1 q81
    refine j_iconst hc dX11_row_21 ?_
    refine j_istore_n (lv' := [(2, vI 0), (1, vI x76), (0, vR E 0)]) hc dX11_row_22 rfl (by decide) rfl ?_
    refine j_aload_nR hc 2 dX11_row_23 rfl rfl ?_
    refine j_iload_n hc 1 dX11_row_24 rfl rfl ?_
    refine j_iconst hc dX11_row_25 ?_
    refine j_irem hc dX11_row_26 (by decide) ?_
    refine j_if_ne hc (cn_rem _ _) (tgt := 34) dX11_row_27 (by decide) (fun q78 => ?_) (fun q78 => ?_)
    · replace h := h.1 q78
      refine j_iconst hc dX11_row_34 ?_
      refine j_sub (lv' := [(0, vR E 0), (1, vI x76), (2, vI 0)]) [2, 1, 0] rfl ?_
      exact jb_X11_row_35 hc hm hr hh cx76 (wlit 0 (by decide)) (wlit 1 (by decide)) h
    · replace h := h.2 q78
      refine j_iconst hc dX11_row_30 ?_
      refine j_goto (tgt := 35) hc dX11_row_31 (by decide) ?_
      refine j_sub (lv' := [(0, vR E 0), (1, vI x76), (2, vI 0)]) [2, 1, 0] rfl ?_
      exact jb_X11_row_35 hc hm hr hh cx76 (wlit 0 (by decide)) (wlit 0 (by decide)) h
  · replace h := h.2 q81
    refine j_aload_nR hc 1 dX11_row_14 rfl rfl ?_
    refine j_bipush hc dX11_row_15 (by decide) ?_
    refine j_vI hc (k := 11) (by decide) (fun hv => Or.inl (sv_k hv hm rfl)) ml_RX11_110 mv_X11_refuses (As := [vI (-6)]) (c_X11_refuses (cx_E hc) hm (wlit (-6) (by decide)) h) rfl (by omega) (by decide) ⟨Nat.zero_le _, Nat.zero_le _⟩ (Nat.le_of_ble_eq_true rfl) rfl dX11_row_17 (fun r79 s80 cr79 h => ?_)
    exact j_iret hc hr cr79 h dX11_row_20
-- LitStrangersModel.salt()I
theorem dX11_salt_0 : decode cX11_salt 0 = .ok (.aload_n 0, 1) := by decide +kernel
theorem dX11_salt_1 : decode cX11_salt 1 = .ok (.getfield 144, 3) := by decide +kernel
theorem dX11_salt_4 : decode cX11_salt 4 = .ok (.ireturn, 1) := by decide +kernel
def wp_X11_salt  (σ : st_S) (Q : Int → st_S → Prop) : Prop := Q (gI σ 0 6) σ
set_option maxRecDepth 20000 in
theorem c_X11_salt {l : Launch} {E : ev_E} (hE : Eok E) (hm : eM E = 2) {σ : st_S} {Q : Int → st_S → Prop} (h : wp_X11_salt σ Q) : cM l yX11_salt cX11_salt 1 (some .int) E 1 0 0 [vR E 0] σ (qI E (gN σ + 0) Q) := by
  refine cM_of (lv := [(0, vR E 0)]) (by decide) hE (Nat.le_of_ble_eq_true rfl) (rfl) ?_
  intro X hX hc _ _ hr _ _
  subst hX
  have hh : 1 ≤ 1 := Nat.le_refl _
  have hh1 : 1 ≤ 1 := by omega
  replace h : Q (gI σ 0 6) σ := h
  refine j_aload_nR hc 0 dX11_salt_0 rfl rfl ?_
  refine j_getI hc fl_RX11_144 (Or.inl rfl) (fun hv => Or.inl (sv_k hv hm rfl)) dX11_salt_1 (fun cn2 => ?_)
  exact j_iret hc hr cn2 h dX11_salt_4
-- LitStrangersModel.feed(IIIII)I
theorem dX11_feed_0 : decode cX11_feed 0 = .ok (.aload_n 0, 1) := by decide +kernel
theorem dX11_feed_1 : decode cX11_feed 1 = .ok (.getfield 141, 3) := by decide +kernel
theorem dX11_feed_4 : decode cX11_feed 4 = .ok (.bipush 20, 2) := by decide +kernel
theorem dX11_feed_6 : decode cX11_feed 6 = .ok (.iadd, 1) := by decide +kernel
theorem dX11_feed_7 : decode cX11_feed 7 = .ok (.sipush 400, 3) := by decide +kernel
theorem dX11_feed_10 : decode cX11_feed 10 = .ok (.if_icmp .le 5, 3) := by decide +kernel
theorem dX11_feed_13 : decode cX11_feed 13 = .ok (.iconst (-1), 1) := by decide +kernel
theorem dX11_feed_14 : decode cX11_feed 14 = .ok (.ireturn, 1) := by decide +kernel
theorem dX11_feed_15 : decode cX11_feed 15 = .ok (.aload_n 0, 1) := by decide +kernel
theorem dX11_feed_16 : decode cX11_feed 16 = .ok (.getfield 44, 3) := by decide +kernel
theorem dX11_feed_19 : decode cX11_feed 19 = .ok (.iconst 0, 1) := by decide +kernel
theorem dX11_feed_20 : decode cX11_feed 20 = .ok (.iload_n 1, 1) := by decide +kernel
theorem dX11_feed_21 : decode cX11_feed 21 = .ok (.iastore, 1) := by decide +kernel
theorem dX11_feed_22 : decode cX11_feed 22 = .ok (.aload_n 0, 1) := by decide +kernel
theorem dX11_feed_23 : decode cX11_feed 23 = .ok (.getfield 44, 3) := by decide +kernel
theorem dX11_feed_26 : decode cX11_feed 26 = .ok (.iconst 1, 1) := by decide +kernel
theorem dX11_feed_27 : decode cX11_feed 27 = .ok (.iload_n 2, 1) := by decide +kernel
theorem dX11_feed_28 : decode cX11_feed 28 = .ok (.iastore, 1) := by decide +kernel
theorem dX11_feed_29 : decode cX11_feed 29 = .ok (.aload_n 0, 1) := by decide +kernel
theorem dX11_feed_30 : decode cX11_feed 30 = .ok (.getfield 44, 3) := by decide +kernel
theorem dX11_feed_33 : decode cX11_feed 33 = .ok (.iconst 2, 1) := by decide +kernel
theorem dX11_feed_34 : decode cX11_feed 34 = .ok (.iload_n 3, 1) := by decide +kernel
theorem dX11_feed_35 : decode cX11_feed 35 = .ok (.iastore, 1) := by decide +kernel
theorem dX11_feed_36 : decode cX11_feed 36 = .ok (.aload_n 0, 1) := by decide +kernel
theorem dX11_feed_37 : decode cX11_feed 37 = .ok (.getfield 44, 3) := by decide +kernel
theorem dX11_feed_40 : decode cX11_feed 40 = .ok (.iconst 3, 1) := by decide +kernel
theorem dX11_feed_41 : decode cX11_feed 41 = .ok (.iload 4, 2) := by decide +kernel
theorem dX11_feed_43 : decode cX11_feed 43 = .ok (.iastore, 1) := by decide +kernel
theorem dX11_feed_44 : decode cX11_feed 44 = .ok (.aload_n 0, 1) := by decide +kernel
theorem dX11_feed_45 : decode cX11_feed 45 = .ok (.getfield 44, 3) := by decide +kernel
theorem dX11_feed_48 : decode cX11_feed 48 = .ok (.iconst 4, 1) := by decide +kernel
theorem dX11_feed_49 : decode cX11_feed 49 = .ok (.iload 5, 2) := by decide +kernel
theorem dX11_feed_51 : decode cX11_feed 51 = .ok (.iastore, 1) := by decide +kernel
theorem dX11_feed_52 : decode cX11_feed 52 = .ok (.iconst 0, 1) := by decide +kernel
theorem dX11_feed_53 : decode cX11_feed 53 = .ok (.istore 6, 2) := by decide +kernel
theorem dX11_feed_55 : decode cX11_feed 55 = .ok (.iload 6, 2) := by decide +kernel
theorem dX11_feed_57 : decode cX11_feed 57 = .ok (.bipush 20, 2) := by decide +kernel
theorem dX11_feed_59 : decode cX11_feed 59 = .ok (.if_icmp .ge 42, 3) := by decide +kernel
theorem dX11_feed_62 : decode cX11_feed 62 = .ok (.aload_n 0, 1) := by decide +kernel
theorem dX11_feed_63 : decode cX11_feed 63 = .ok (.getfield 41, 3) := by decide +kernel
theorem dX11_feed_66 : decode cX11_feed 66 = .ok (.aload_n 0, 1) := by decide +kernel
theorem dX11_feed_67 : decode cX11_feed 67 = .ok (.getfield 141, 3) := by decide +kernel
theorem dX11_feed_70 : decode cX11_feed 70 = .ok (.iload 6, 2) := by decide +kernel
theorem dX11_feed_72 : decode cX11_feed 72 = .ok (.iadd, 1) := by decide +kernel
theorem dX11_feed_73 : decode cX11_feed 73 = .ok (.aload_n 0, 1) := by decide +kernel
theorem dX11_feed_74 : decode cX11_feed 74 = .ok (.getfield 44, 3) := by decide +kernel
theorem dX11_feed_77 : decode cX11_feed 77 = .ok (.iload 6, 2) := by decide +kernel
theorem dX11_feed_79 : decode cX11_feed 79 = .ok (.iconst 4, 1) := by decide +kernel
theorem dX11_feed_80 : decode cX11_feed 80 = .ok (.idiv, 1) := by decide +kernel
theorem dX11_feed_81 : decode cX11_feed 81 = .ok (.iaload, 1) := by decide +kernel
theorem dX11_feed_82 : decode cX11_feed 82 = .ok (.bipush 24, 2) := by decide +kernel
theorem dX11_feed_84 : decode cX11_feed 84 = .ok (.bipush 8, 2) := by decide +kernel
theorem dX11_feed_86 : decode cX11_feed 86 = .ok (.iload 6, 2) := by decide +kernel
theorem dX11_feed_88 : decode cX11_feed 88 = .ok (.iconst 4, 1) := by decide +kernel
theorem dX11_feed_89 : decode cX11_feed 89 = .ok (.irem, 1) := by decide +kernel
theorem dX11_feed_90 : decode cX11_feed 90 = .ok (.imul, 1) := by decide +kernel
theorem dX11_feed_91 : decode cX11_feed 91 = .ok (.isub, 1) := by decide +kernel
theorem dX11_feed_92 : decode cX11_feed 92 = .ok (.ishr, 1) := by decide +kernel
theorem dX11_feed_93 : decode cX11_feed 93 = .ok (.i2b, 1) := by decide +kernel
theorem dX11_feed_94 : decode cX11_feed 94 = .ok (.bastore, 1) := by decide +kernel
theorem dX11_feed_95 : decode cX11_feed 95 = .ok (.iinc 6 1, 3) := by decide +kernel
theorem dX11_feed_98 : decode cX11_feed 98 = .ok (.goto (-43), 3) := by decide +kernel
theorem dX11_feed_101 : decode cX11_feed 101 = .ok (.aload_n 0, 1) := by decide +kernel
theorem dX11_feed_102 : decode cX11_feed 102 = .ok (.dup, 1) := by decide +kernel
theorem dX11_feed_103 : decode cX11_feed 103 = .ok (.getfield 141, 3) := by decide +kernel
theorem dX11_feed_106 : decode cX11_feed 106 = .ok (.bipush 20, 2) := by decide +kernel
theorem dX11_feed_108 : decode cX11_feed 108 = .ok (.iadd, 1) := by decide +kernel
theorem dX11_feed_109 : decode cX11_feed 109 = .ok (.putfield 141, 3) := by decide +kernel
theorem dX11_feed_112 : decode cX11_feed 112 = .ok (.aload_n 0, 1) := by decide +kernel
theorem dX11_feed_113 : decode cX11_feed 113 = .ok (.getfield 141, 3) := by decide +kernel
theorem dX11_feed_116 : decode cX11_feed 116 = .ok (.ireturn, 1) := by decide +kernel
def L_X11_feed_55 (Q : Int → st_S → Prop)   : Nat → Int → st_S → Prop
  | 0 => fun _ _ => False
  | n + 1 => fun l6 σ => (20 ≤ l6 → ∀ x32 : Int, x32 = wr (gI σ 0 13 + 20) → ∀ s33 : st_S, s33 = sI σ 0 13 x32 → Q (gI s33 0 13) s33) ∧ (¬ 20 ≤ l6 → ix (o_div l6 4) 5 ∧ ix (wr (gI σ 0 13 + l6)) 400 ∧ ∀ s39 : st_S, s39 = sI σ 7 (Int.toNat (wr (gI σ 0 13 + l6))) (o_nb (o_i2b (o_shr (gI σ 8 (Int.toNat (o_div l6 4))) (24 - (8 * o_rem l6 4))))) → ∀ x40 : Int, x40 = wr (l6 + 1) → (L_X11_feed_55 Q n) x40 s39)
def wp_X11_feed (a1 : Int) (a2 : Int) (a3 : Int) (a4 : Int) (a5 : Int) (σ : st_S) (Q : Int → st_S → Prop) : Prop := (wr (gI σ 0 13 + 20) ≤ 400 → ∀ s43 : st_S, s43 = sI σ 8 0 a1 → ∀ s44 : st_S, s44 = sI s43 8 1 a2 → ∀ s45 : st_S, s45 = sI s44 8 2 a3 → ∀ s46 : st_S, s46 = sI s45 8 3 a4 → ∀ s47 : st_S, s47 = sI s46 8 4 a5 → ∃ m55 : Nat, L_X11_feed_55 Q m55 0 s47) ∧ (¬ wr (gI σ 0 13 + 20) ≤ 400 → Q (-1) σ)
set_option maxRecDepth 20000 in
theorem jl_X11_feed_55 {X : jj_X} {E : ev_E} {n0 hN : Nat} (hc : Cx X E cX11_feed 7 n0 hN RX11) (hm : eM E = 2) (hr : (xT X).sig.returnType = (some .int)) (hh : 1 ≤ hN) {Q : Int → st_S → Prop} : ∀ (n : Nat) {l6 : Int} (cl6 : wr l6 = l6) {σ : st_S}, L_X11_feed_55 Q n l6 σ → J X E 7 n0 0 0 (MQ (xB X) (qI E (n0 + 0) Q) (xA X) (xS X) 0 0 (eF E)) σ 55 [(0, vR E 0), (6, vI l6)] [] := by
  have hh1 : 1 ≤ hN := by omega
  intro n
  induction n with
  | zero => intro l6 cl6 σ h; exact h.elim
  | succ n ih =>
    intro l6 cl6 σ h
    have hk55 : ∀ {l6 : Int} (cl6 : wr l6 = l6) {σ : st_S}, L_X11_feed_55 Q n l6 σ → J X E 7 n0 0 0 (MQ (xB X) (qI E (n0 + 0) Q) (xA X) (xS X) 0 0 (eF E)) σ 55 [(0, vR E 0), (6, vI l6)] [] := ih
    replace h : (20 ≤ l6 → ∀ x32 : Int, x32 = wr (gI σ 0 13 + 20) → ∀ s33 : st_S, s33 = sI σ 0 13 x32 → Q (gI s33 0 13) s33) ∧ (¬ 20 ≤ l6 → ix (o_div l6 4) 5 ∧ ix (wr (gI σ 0 13 + l6)) 400 ∧ ∀ s39 : st_S, s39 = sI σ 7 (Int.toNat (wr (gI σ 0 13 + l6))) (o_nb (o_i2b (o_shr (gI σ 8 (Int.toNat (o_div l6 4))) (24 - (8 * o_rem l6 4))))) → ∀ x40 : Int, x40 = wr (l6 + 1) → (L_X11_feed_55 Q n) x40 s39) := h
    refine j_iload hc 1 dX11_feed_55 rfl ?_
    refine j_bipush hc dX11_feed_57 (by decide) ?_
    refine j_ic_ge hc cl6 (wlit 20 (by decide)) (tgt := 101) dX11_feed_59 (by decide) (fun q41 => ?_) (fun q41 => ?_)
    · replace h := h.1 q41
      refine j_aload_nR hc 0 dX11_feed_101 rfl rfl ?_
      refine j_dup hc dX11_feed_102 rfl ?_
      refine j_getI hc fl_RX11_141 (Or.inl rfl) (fun hv => Or.inl (sv_k hv hm rfl)) dX11_feed_103 (fun cn31 => ?_)
      refine j_bipush hc dX11_feed_106 (by decide) ?_
      refine j_iadd hc dX11_feed_108 ?_
      refine j_w (fun x32 ex32 cx32 => ?_)
      replace h := h x32 ex32
      refine j_putI hc fl_RX11_141 rfl rfl (fun hv => Or.inl (sv_k hv hm rfl)) cx32 dX11_feed_109 (fun s33 es33 => ?_)
      replace h := h s33 es33
      refine j_aload_nR hc 0 dX11_feed_112 rfl rfl ?_
      refine j_getI hc fl_RX11_141 (Or.inl rfl) (fun hv => Or.inl (sv_k hv hm rfl)) dX11_feed_113 (fun cn34 => ?_)
      exact j_iret hc hr cn34 h dX11_feed_116
    · replace h := h.2 q41
      refine j_aload_nR hc 0 dX11_feed_62 rfl rfl ?_
      refine j_getR (c' := 7) hc fl_RX11_41 rfl rfl (fun hv => (sv_k hv hm rfl)) dX11_feed_63 ?_
      refine j_aload_nR hc 0 dX11_feed_66 rfl rfl ?_
      refine j_getI hc fl_RX11_141 (Or.inl rfl) (fun hv => Or.inl (sv_k hv hm rfl)) dX11_feed_67 (fun cn35 => ?_)
      refine j_iload hc 1 dX11_feed_70 rfl ?_
      refine j_iadd hc dX11_feed_72 ?_
      refine j_aload_nR hc 0 dX11_feed_73 rfl rfl ?_
      refine j_getR (c' := 8) hc fl_RX11_44 rfl rfl (fun hv => (sv_k hv hm rfl)) dX11_feed_74 ?_
      refine j_iload hc 1 dX11_feed_77 rfl ?_
      refine j_iconst hc dX11_feed_79 ?_
      refine j_idiv hc dX11_feed_80 (by decide) ?_
      obtain ⟨b36, h⟩ := h
      refine j_iald (jn := (Int.toNat (o_div l6 4))) hc (fun hv => sv_kl hv hm rfl) (cn_div _ _) b36 rfl dX11_feed_81 (fun cn37 => ?_)
      refine j_bipush hc dX11_feed_82 (by decide) ?_
      refine j_bipush hc dX11_feed_84 (by decide) ?_
      refine j_iload hc 1 dX11_feed_86 rfl ?_
      refine j_iconst hc dX11_feed_88 ?_
      refine j_irem hc dX11_feed_89 (by decide) ?_
      refine j_imul hc dX11_feed_90 ?_
      refine j_isub hc dX11_feed_91 ?_
      refine j_ishr hc dX11_feed_92 ?_
      refine j_i2b hc dX11_feed_93 ?_
      obtain ⟨b38, h⟩ := h
      refine j_bast (jn := (Int.toNat (wr (gI σ 0 13 + l6)))) hc (fun hv => sv_kl hv hm rfl) rfl b38 rfl dX11_feed_94 (fun s39 es39 => ?_)
      replace h := h s39 es39
      obtain ⟨x40, ex40⟩ : ∃ y : Int, y = wr (l6 + 1) := ⟨_, rfl⟩
      have cx40 : wr x40 = x40 := by rw [ex40]; exact wr_wr _
      replace h := h x40 ex40
      refine j_iinc (lv' := [(6, vI x40), (0, vR E 0)]) hc 1 dX11_feed_95 rfl (by decide) ex40 rfl ?_
      refine j_goto (tgt := 55) hc dX11_feed_98 (by decide) ?_
      refine j_sub (lv' := [(0, vR E 0), (6, vI x40)]) [1, 0] rfl ?_
      exact hk55 cx40 h
set_option maxRecDepth 20000 in
theorem c_X11_feed {l : Launch} {E : ev_E} (hE : Eok E) (hm : eM E = 2) {a1 : Int} {a2 : Int} {a3 : Int} {a4 : Int} {a5 : Int} (ca1 : wr a1 = a1) (ca2 : wr a2 = a2) (ca3 : wr a3 = a3) (ca4 : wr a4 = a4) (ca5 : wr a5 = a5) {σ : st_S} {Q : Int → st_S → Prop} (h : wp_X11_feed a1 a2 a3 a4 a5 σ Q) : cM l yX11_feed cX11_feed 7 (some .int) E 1 0 0 [vR E 0, vI a1, vI a2, vI a3, vI a4, vI a5] σ (qI E (gN σ + 0) Q) := by
  refine cM_of (lv := [(0, vR E 0), (1, vI a1), (2, vI a2), (3, vI a3), (4, vI a4), (5, vI a5)]) (by decide) hE (Nat.le_of_ble_eq_true rfl) (rfl) ?_
  intro X hX hc _ _ hr _ _
  subst hX
  have hh : 1 ≤ 1 := Nat.le_refl _
  have hh1 : 1 ≤ 1 := by omega
  replace h : (wr (gI σ 0 13 + 20) ≤ 400 → ∀ s43 : st_S, s43 = sI σ 8 0 a1 → ∀ s44 : st_S, s44 = sI s43 8 1 a2 → ∀ s45 : st_S, s45 = sI s44 8 2 a3 → ∀ s46 : st_S, s46 = sI s45 8 3 a4 → ∀ s47 : st_S, s47 = sI s46 8 4 a5 → ∃ m55 : Nat, L_X11_feed_55 Q m55 0 s47) ∧ (¬ wr (gI σ 0 13 + 20) ≤ 400 → Q (-1) σ) := h
  refine j_aload_nR hc 0 dX11_feed_0 rfl rfl ?_
  refine j_getI hc fl_RX11_141 (Or.inl rfl) (fun hv => Or.inl (sv_k hv hm rfl)) dX11_feed_1 (fun cn42 => ?_)
  refine j_bipush hc dX11_feed_4 (by decide) ?_
  refine j_iadd hc dX11_feed_6 ?_
  refine j_sipush hc dX11_feed_7 (by decide) ?_
  refine j_ic_le hc rfl (wlit 400 (by decide)) (tgt := 15) dX11_feed_10 (by decide) (fun q48 => ?_) (fun q48 => ?_)
  · replace h := h.1 q48
    refine j_aload_nR hc 0 dX11_feed_15 rfl rfl ?_
    refine j_getR (c' := 8) hc fl_RX11_44 rfl rfl (fun hv => (sv_k hv hm rfl)) dX11_feed_16 ?_
    refine j_iconst hc dX11_feed_19 ?_
    refine j_iload_n hc 1 dX11_feed_20 rfl rfl ?_
    refine j_iast (jn := 0) hc (fun hv => sv_kl hv hm rfl) (wlit 0 (by decide)) ⟨by decide, by decide⟩ rfl ca1 dX11_feed_21 (fun s43 es43 => ?_)
    replace h := h s43 es43
    refine j_aload_nR hc 0 dX11_feed_22 rfl rfl ?_
    refine j_getR (c' := 8) hc fl_RX11_44 rfl rfl (fun hv => (sv_k hv hm rfl)) dX11_feed_23 ?_
    refine j_iconst hc dX11_feed_26 ?_
    refine j_iload_n hc 2 dX11_feed_27 rfl rfl ?_
    refine j_iast (jn := 1) hc (fun hv => sv_kl hv hm rfl) (wlit 1 (by decide)) ⟨by decide, by decide⟩ rfl ca2 dX11_feed_28 (fun s44 es44 => ?_)
    replace h := h s44 es44
    refine j_aload_nR hc 0 dX11_feed_29 rfl rfl ?_
    refine j_getR (c' := 8) hc fl_RX11_44 rfl rfl (fun hv => (sv_k hv hm rfl)) dX11_feed_30 ?_
    refine j_iconst hc dX11_feed_33 ?_
    refine j_iload_n hc 3 dX11_feed_34 rfl rfl ?_
    refine j_iast (jn := 2) hc (fun hv => sv_kl hv hm rfl) (wlit 2 (by decide)) ⟨by decide, by decide⟩ rfl ca3 dX11_feed_35 (fun s45 es45 => ?_)
    replace h := h s45 es45
    refine j_aload_nR hc 0 dX11_feed_36 rfl rfl ?_
    refine j_getR (c' := 8) hc fl_RX11_44 rfl rfl (fun hv => (sv_k hv hm rfl)) dX11_feed_37 ?_
    refine j_iconst hc dX11_feed_40 ?_
    refine j_iload hc 4 dX11_feed_41 rfl ?_
    refine j_iast (jn := 3) hc (fun hv => sv_kl hv hm rfl) (wlit 3 (by decide)) ⟨by decide, by decide⟩ rfl ca4 dX11_feed_43 (fun s46 es46 => ?_)
    replace h := h s46 es46
    refine j_aload_nR hc 0 dX11_feed_44 rfl rfl ?_
    refine j_getR (c' := 8) hc fl_RX11_44 rfl rfl (fun hv => (sv_k hv hm rfl)) dX11_feed_45 ?_
    refine j_iconst hc dX11_feed_48 ?_
    refine j_iload hc 5 dX11_feed_49 rfl ?_
    refine j_iast (jn := 4) hc (fun hv => sv_kl hv hm rfl) (wlit 4 (by decide)) ⟨by decide, by decide⟩ rfl ca5 dX11_feed_51 (fun s47 es47 => ?_)
    replace h := h s47 es47
    refine j_iconst hc dX11_feed_52 ?_
    refine j_istore (lv' := [(6, vI 0), (0, vR E 0), (1, vI a1), (2, vI a2), (3, vI a3), (4, vI a4), (5, vI a5)]) hc dX11_feed_53 (by decide) rfl ?_
    obtain ⟨n55, h⟩ := h
    refine j_sub (lv' := [(0, vR E 0), (6, vI 0)]) [1, 0] rfl ?_
    exact jl_X11_feed_55 hc hm hr hh n55 (wlit 0 (by decide)) h
  · replace h := h.2 q48
    refine j_iconst hc dX11_feed_13 ?_
    exact j_iret hc hr (wlit (-1) (by decide)) h dX11_feed_14
-- LitStrangersModel.end(I)I
theorem dX11_end_0 : decode cX11_end 0 = .ok (.iload_n 1, 1) := by decide +kernel
theorem dX11_end_1 : decode cX11_end 1 = .ok (.iconst 0, 1) := by decide +kernel
theorem dX11_end_2 : decode cX11_end 2 = .ok (.aload_n 0, 1) := by decide +kernel
theorem dX11_end_3 : decode cX11_end 3 = .ok (.getfield 141, 3) := by decide +kernel
theorem dX11_end_6 : decode cX11_end 6 = .ok (.invokestatic 106, 3) := by decide +kernel
theorem dX11_end_9 : decode cX11_end 9 = .ok (.ifCond .ne 5, 3) := by decide +kernel
theorem dX11_end_12 : decode cX11_end 12 = .ok (.iconst (-1), 1) := by decide +kernel
theorem dX11_end_13 : decode cX11_end 13 = .ok (.ireturn, 1) := by decide +kernel
theorem dX11_end_14 : decode cX11_end 14 = .ok (.aload_n 0, 1) := by decide +kernel
theorem dX11_end_15 : decode cX11_end 15 = .ok (.iload_n 1, 1) := by decide +kernel
theorem dX11_end_16 : decode cX11_end 16 = .ok (.putfield 141, 3) := by decide +kernel
theorem dX11_end_19 : decode cX11_end 19 = .ok (.iload_n 1, 1) := by decide +kernel
theorem dX11_end_20 : decode cX11_end 20 = .ok (.ireturn, 1) := by decide +kernel
def wp_X11_end (a1 : Int) (σ : st_S) (Q : Int → st_S → Prop) : Prop := wp_X11_lies a1 0 (gI σ 0 13) σ (fun r7 s8 => (¬ r7 = 0 → ∀ s9 : st_S, s9 = sI s8 0 13 a1 → Q a1 s9) ∧ (r7 = 0 → Q (-1) s8))
set_option maxRecDepth 20000 in
theorem c_X11_end {l : Launch} {E : ev_E} (hE : Eok E) (hm : eM E = 2) {a1 : Int} (ca1 : wr a1 = a1) {σ : st_S} {Q : Int → st_S → Prop} (h : wp_X11_end a1 σ Q) : cM l yX11_end cX11_end 2 (some .int) E 2 0 0 [vR E 0, vI a1] σ (qI E (gN σ + 0) Q) := by
  refine cM_of (lv := [(0, vR E 0), (1, vI a1)]) (by decide) hE (Nat.le_of_ble_eq_true rfl) (rfl) ?_
  intro X hX hc _ _ hr _ _
  subst hX
  have hh : 2 ≤ 2 := Nat.le_refl _
  have hh1 : 1 ≤ 2 := by omega
  replace h : wp_X11_lies a1 0 (gI σ 0 13) σ (fun r7 s8 => (¬ r7 = 0 → ∀ s9 : st_S, s9 = sI s8 0 13 a1 → Q a1 s9) ∧ (r7 = 0 → Q (-1) s8)) := h
  refine j_iload_n hc 1 dX11_end_0 rfl rfl ?_
  refine j_iconst hc dX11_end_1 ?_
  refine j_aload_nR hc 0 dX11_end_2 rfl rfl ?_
  refine j_getI hc fl_RX11_141 (Or.inl rfl) (fun hv => Or.inl (sv_k hv hm rfl)) dX11_end_3 (fun cn6 => ?_)
  refine j_sI hc ml_RX11_106 mv_X11_lies (As := [vI a1, vI 0, vI (gI σ 0 13)]) (c_X11_lies (cx_E hc) hm ca1 (wlit 0 (by decide)) cn6 h) rfl (by omega) (by decide) ⟨Nat.zero_le _, Nat.zero_le _⟩ (Nat.le_of_ble_eq_true rfl) rfl dX11_end_6 (fun r7 s8 cr7 h => ?_)
  refine j_if_ne hc cr7 (tgt := 14) dX11_end_9 (by decide) (fun q10 => ?_) (fun q10 => ?_)
  · replace h := h.1 q10
    refine j_aload_nR hc 0 dX11_end_14 rfl rfl ?_
    refine j_iload_n hc 1 dX11_end_15 rfl rfl ?_
    refine j_putI hc fl_RX11_141 rfl rfl (fun hv => Or.inl (sv_k hv hm rfl)) ca1 dX11_end_16 (fun s9 es9 => ?_)
    replace h := h s9 es9
    refine j_iload_n hc 1 dX11_end_19 rfl rfl ?_
    exact j_iret hc hr ca1 h dX11_end_20
  · replace h := h.2 q10
    refine j_iconst hc dX11_end_12 ?_
    exact j_iret hc hr (wlit (-1) (by decide)) h dX11_end_13
-- LitStrangersModel.isSmall(I)Z
theorem dX11_isSmall_0 : decode cX11_isSmall 0 = .ok (.iload_n 0, 1) := by decide +kernel
theorem dX11_isSmall_1 : decode cX11_isSmall 1 = .ok (.bipush 97, 2) := by decide +kernel
theorem dX11_isSmall_3 : decode cX11_isSmall 3 = .ok (.if_icmp .lt 13, 3) := by decide +kernel
theorem dX11_isSmall_6 : decode cX11_isSmall 6 = .ok (.iload_n 0, 1) := by decide +kernel
theorem dX11_isSmall_7 : decode cX11_isSmall 7 = .ok (.bipush 122, 2) := by decide +kernel
theorem dX11_isSmall_9 : decode cX11_isSmall 9 = .ok (.if_icmp .gt 7, 3) := by decide +kernel
theorem dX11_isSmall_12 : decode cX11_isSmall 12 = .ok (.iconst 1, 1) := by decide +kernel
theorem dX11_isSmall_13 : decode cX11_isSmall 13 = .ok (.goto 4, 3) := by decide +kernel
theorem dX11_isSmall_16 : decode cX11_isSmall 16 = .ok (.iconst 0, 1) := by decide +kernel
theorem dX11_isSmall_17 : decode cX11_isSmall 17 = .ok (.ireturn, 1) := by decide +kernel
def B_X11_isSmall_17 (Q : Int → st_S → Prop)   (v0 : Int) (σ : st_S) : Prop := (v0 = 0 ∨ v0 = 1) ∧ Q v0 σ
def B_X11_isSmall_16 (Q : Int → st_S → Prop)    (σ : st_S) : Prop := B_X11_isSmall_17 Q 0 σ
def wp_X11_isSmall (a1 : Int) (σ : st_S) (Q : Int → st_S → Prop) : Prop := (a1 < 97 → B_X11_isSmall_16 Q σ) ∧ (¬ a1 < 97 → (122 < a1 → B_X11_isSmall_16 Q σ) ∧ (¬ 122 < a1 → B_X11_isSmall_17 Q 1 σ))
set_option maxRecDepth 20000 in
theorem jb_X11_isSmall_17 {X : jj_X} {E : ev_E} {n0 hN : Nat} (hc : Cx X E cX11_isSmall 1 n0 hN RX11) (hm : eM E = 2) (hr : (xT X).sig.returnType = (some .boolean)) (hh : 1 ≤ hN) {Q : Int → st_S → Prop} {v0 : Int} (cv0 : wr v0 = v0) {σ : st_S} (h : B_X11_isSmall_17 Q v0 σ) : J X E 1 n0 0 0 (MQ (xB X) (qI E (n0 + 0) Q) (xA X) (xS X) 0 0 (eF E)) σ 17 [] [vI v0] := by
  have hh1 : 1 ≤ hN := by omega
  replace h : (v0 = 0 ∨ v0 = 1) ∧ Q v0 σ := h
  exact j_zret hc hr (nar_bool h.1) (by rcases h.1 with e | e <;> (rw [e]; decide)) h.2 dX11_isSmall_17
set_option maxRecDepth 20000 in
theorem jb_X11_isSmall_16 {X : jj_X} {E : ev_E} {n0 hN : Nat} (hc : Cx X E cX11_isSmall 1 n0 hN RX11) (hm : eM E = 2) (hr : (xT X).sig.returnType = (some .boolean)) (hh : 1 ≤ hN) {Q : Int → st_S → Prop} {σ : st_S} (h : B_X11_isSmall_16 Q σ) : J X E 1 n0 0 0 (MQ (xB X) (qI E (n0 + 0) Q) (xA X) (xS X) 0 0 (eF E)) σ 16 [] [] := by
  have hh1 : 1 ≤ hN := by omega
  replace h : B_X11_isSmall_17 Q 0 σ := h
  refine j_iconst hc dX11_isSmall_16 ?_
  refine j_sub (lv' := []) [] rfl ?_
  exact jb_X11_isSmall_17 hc hm hr hh (wlit 0 (by decide)) h
set_option maxRecDepth 20000 in
theorem c_X11_isSmall {l : Launch} {E : ev_E} (hE : Eok E) (hm : eM E = 2) {a1 : Int} (ca1 : wr a1 = a1) {σ : st_S} {Q : Int → st_S → Prop} (h : wp_X11_isSmall a1 σ Q) : cM l yX11_isSmall cX11_isSmall 1 (some .boolean) E 1 0 0 [vI a1] σ (qI E (gN σ + 0) Q) := by
  refine cM_of (lv := [(0, vI a1)]) (by decide) hE (Nat.le_of_ble_eq_true rfl) (rfl) ?_
  intro X hX hc _ _ hr _ _
  subst hX
  have hh : 1 ≤ 1 := Nat.le_refl _
  have hh1 : 1 ≤ 1 := by omega
  replace h : (a1 < 97 → B_X11_isSmall_16 Q σ) ∧ (¬ a1 < 97 → (122 < a1 → B_X11_isSmall_16 Q σ) ∧ (¬ 122 < a1 → B_X11_isSmall_17 Q 1 σ)) := h
  refine j_iload_n hc 0 dX11_isSmall_0 rfl rfl ?_
  refine j_bipush hc dX11_isSmall_1 (by decide) ?_
  refine j_ic_lt hc ca1 (wlit 97 (by decide)) (tgt := 16) dX11_isSmall_3 (by decide) (fun q2 => ?_) (fun q2 => ?_)
  · replace h := h.1 q2
    refine j_sub (lv' := []) [] rfl ?_
    exact jb_X11_isSmall_16 hc hm hr hh h
  · replace h := h.2 q2
    refine j_iload_n hc 0 dX11_isSmall_6 rfl rfl ?_
    refine j_bipush hc dX11_isSmall_7 (by decide) ?_
    refine j_ic_gt hc ca1 (wlit 122 (by decide)) (tgt := 16) dX11_isSmall_9 (by decide) (fun q1 => ?_) (fun q1 => ?_)
    · replace h := h.1 q1
      refine j_sub (lv' := []) [] rfl ?_
      exact jb_X11_isSmall_16 hc hm hr hh h
    · replace h := h.2 q1
      refine j_iconst hc dX11_isSmall_12 ?_
      refine j_goto (tgt := 17) hc dX11_isSmall_13 (by decide) ?_
      refine j_sub (lv' := []) [] rfl ?_
      exact jb_X11_isSmall_17 hc hm hr hh (wlit 1 (by decide)) h
-- LitStrangersModel.isDigit(I)Z
theorem dX11_isDigit_0 : decode cX11_isDigit 0 = .ok (.iload_n 0, 1) := by decide +kernel
theorem dX11_isDigit_1 : decode cX11_isDigit 1 = .ok (.bipush 48, 2) := by decide +kernel
theorem dX11_isDigit_3 : decode cX11_isDigit 3 = .ok (.if_icmp .lt 13, 3) := by decide +kernel
theorem dX11_isDigit_6 : decode cX11_isDigit 6 = .ok (.iload_n 0, 1) := by decide +kernel
theorem dX11_isDigit_7 : decode cX11_isDigit 7 = .ok (.bipush 57, 2) := by decide +kernel
theorem dX11_isDigit_9 : decode cX11_isDigit 9 = .ok (.if_icmp .gt 7, 3) := by decide +kernel
theorem dX11_isDigit_12 : decode cX11_isDigit 12 = .ok (.iconst 1, 1) := by decide +kernel
theorem dX11_isDigit_13 : decode cX11_isDigit 13 = .ok (.goto 4, 3) := by decide +kernel
theorem dX11_isDigit_16 : decode cX11_isDigit 16 = .ok (.iconst 0, 1) := by decide +kernel
theorem dX11_isDigit_17 : decode cX11_isDigit 17 = .ok (.ireturn, 1) := by decide +kernel
def B_X11_isDigit_17 (Q : Int → st_S → Prop)   (v0 : Int) (σ : st_S) : Prop := (v0 = 0 ∨ v0 = 1) ∧ Q v0 σ
def B_X11_isDigit_16 (Q : Int → st_S → Prop)    (σ : st_S) : Prop := B_X11_isDigit_17 Q 0 σ
def wp_X11_isDigit (a1 : Int) (σ : st_S) (Q : Int → st_S → Prop) : Prop := (a1 < 48 → B_X11_isDigit_16 Q σ) ∧ (¬ a1 < 48 → (57 < a1 → B_X11_isDigit_16 Q σ) ∧ (¬ 57 < a1 → B_X11_isDigit_17 Q 1 σ))
set_option maxRecDepth 20000 in
theorem jb_X11_isDigit_17 {X : jj_X} {E : ev_E} {n0 hN : Nat} (hc : Cx X E cX11_isDigit 1 n0 hN RX11) (hm : eM E = 2) (hr : (xT X).sig.returnType = (some .boolean)) (hh : 1 ≤ hN) {Q : Int → st_S → Prop} {v0 : Int} (cv0 : wr v0 = v0) {σ : st_S} (h : B_X11_isDigit_17 Q v0 σ) : J X E 1 n0 0 0 (MQ (xB X) (qI E (n0 + 0) Q) (xA X) (xS X) 0 0 (eF E)) σ 17 [] [vI v0] := by
  have hh1 : 1 ≤ hN := by omega
  replace h : (v0 = 0 ∨ v0 = 1) ∧ Q v0 σ := h
  exact j_zret hc hr (nar_bool h.1) (by rcases h.1 with e | e <;> (rw [e]; decide)) h.2 dX11_isDigit_17
set_option maxRecDepth 20000 in
theorem jb_X11_isDigit_16 {X : jj_X} {E : ev_E} {n0 hN : Nat} (hc : Cx X E cX11_isDigit 1 n0 hN RX11) (hm : eM E = 2) (hr : (xT X).sig.returnType = (some .boolean)) (hh : 1 ≤ hN) {Q : Int → st_S → Prop} {σ : st_S} (h : B_X11_isDigit_16 Q σ) : J X E 1 n0 0 0 (MQ (xB X) (qI E (n0 + 0) Q) (xA X) (xS X) 0 0 (eF E)) σ 16 [] [] := by
  have hh1 : 1 ≤ hN := by omega
  replace h : B_X11_isDigit_17 Q 0 σ := h
  refine j_iconst hc dX11_isDigit_16 ?_
  refine j_sub (lv' := []) [] rfl ?_
  exact jb_X11_isDigit_17 hc hm hr hh (wlit 0 (by decide)) h
set_option maxRecDepth 20000 in
theorem c_X11_isDigit {l : Launch} {E : ev_E} (hE : Eok E) (hm : eM E = 2) {a1 : Int} (ca1 : wr a1 = a1) {σ : st_S} {Q : Int → st_S → Prop} (h : wp_X11_isDigit a1 σ Q) : cM l yX11_isDigit cX11_isDigit 1 (some .boolean) E 1 0 0 [vI a1] σ (qI E (gN σ + 0) Q) := by
  refine cM_of (lv := [(0, vI a1)]) (by decide) hE (Nat.le_of_ble_eq_true rfl) (rfl) ?_
  intro X hX hc _ _ hr _ _
  subst hX
  have hh : 1 ≤ 1 := Nat.le_refl _
  have hh1 : 1 ≤ 1 := by omega
  replace h : (a1 < 48 → B_X11_isDigit_16 Q σ) ∧ (¬ a1 < 48 → (57 < a1 → B_X11_isDigit_16 Q σ) ∧ (¬ 57 < a1 → B_X11_isDigit_17 Q 1 σ)) := h
  refine j_iload_n hc 0 dX11_isDigit_0 rfl rfl ?_
  refine j_bipush hc dX11_isDigit_1 (by decide) ?_
  refine j_ic_lt hc ca1 (wlit 48 (by decide)) (tgt := 16) dX11_isDigit_3 (by decide) (fun q2 => ?_) (fun q2 => ?_)
  · replace h := h.1 q2
    refine j_sub (lv' := []) [] rfl ?_
    exact jb_X11_isDigit_16 hc hm hr hh h
  · replace h := h.2 q2
    refine j_iload_n hc 0 dX11_isDigit_6 rfl rfl ?_
    refine j_bipush hc dX11_isDigit_7 (by decide) ?_
    refine j_ic_gt hc ca1 (wlit 57 (by decide)) (tgt := 16) dX11_isDigit_9 (by decide) (fun q1 => ?_) (fun q1 => ?_)
    · replace h := h.1 q1
      refine j_sub (lv' := []) [] rfl ?_
      exact jb_X11_isDigit_16 hc hm hr hh h
    · replace h := h.2 q1
      refine j_iconst hc dX11_isDigit_12 ?_
      refine j_goto (tgt := 17) hc dX11_isDigit_13 (by decide) ?_
      refine j_sub (lv' := []) [] rfl ?_
      exact jb_X11_isDigit_17 hc hm hr hh (wlit 1 (by decide)) h
-- LitStrangersModel.wordOf(II)I
theorem dX11_wordOf_0 : decode cX11_wordOf 0 = .ok (.iconst 1, 1) := by decide +kernel
theorem dX11_wordOf_1 : decode cX11_wordOf 1 = .ok (.istore_n 3, 1) := by decide +kernel
theorem dX11_wordOf_2 : decode cX11_wordOf 2 = .ok (.iconst 0, 1) := by decide +kernel
theorem dX11_wordOf_3 : decode cX11_wordOf 3 = .ok (.istore 4, 2) := by decide +kernel
theorem dX11_wordOf_5 : decode cX11_wordOf 5 = .ok (.iload 4, 2) := by decide +kernel
theorem dX11_wordOf_7 : decode cX11_wordOf 7 = .ok (.aload_n 0, 1) := by decide +kernel
theorem dX11_wordOf_8 : decode cX11_wordOf 8 = .ok (.getfield 37, 3) := by decide +kernel
theorem dX11_wordOf_11 : decode cX11_wordOf 11 = .ok (.arraylength, 1) := by decide +kernel
theorem dX11_wordOf_12 : decode cX11_wordOf 12 = .ok (.if_icmp .ge 114, 3) := by decide +kernel
theorem dX11_wordOf_15 : decode cX11_wordOf 15 = .ok (.iconst 0, 1) := by decide +kernel
theorem dX11_wordOf_16 : decode cX11_wordOf 16 = .ok (.istore 5, 2) := by decide +kernel
theorem dX11_wordOf_18 : decode cX11_wordOf 18 = .ok (.aload_n 0, 1) := by decide +kernel
theorem dX11_wordOf_19 : decode cX11_wordOf 19 = .ok (.getfield 37, 3) := by decide +kernel
theorem dX11_wordOf_22 : decode cX11_wordOf 22 = .ok (.iload 4, 2) := by decide +kernel
theorem dX11_wordOf_24 : decode cX11_wordOf 24 = .ok (.iload 5, 2) := by decide +kernel
theorem dX11_wordOf_26 : decode cX11_wordOf 26 = .ok (.iadd, 1) := by decide +kernel
theorem dX11_wordOf_27 : decode cX11_wordOf 27 = .ok (.baload, 1) := by decide +kernel
theorem dX11_wordOf_28 : decode cX11_wordOf 28 = .ok (.bipush 32, 2) := by decide +kernel
theorem dX11_wordOf_30 : decode cX11_wordOf 30 = .ok (.if_icmp .eq 9, 3) := by decide +kernel
theorem dX11_wordOf_33 : decode cX11_wordOf 33 = .ok (.iinc 5 1, 3) := by decide +kernel
theorem dX11_wordOf_36 : decode cX11_wordOf 36 = .ok (.goto (-18), 3) := by decide +kernel
theorem dX11_wordOf_39 : decode cX11_wordOf 39 = .ok (.iload 5, 2) := by decide +kernel
theorem dX11_wordOf_41 : decode cX11_wordOf 41 = .ok (.iload_n 2, 1) := by decide +kernel
theorem dX11_wordOf_42 : decode cX11_wordOf 42 = .ok (.iload_n 1, 1) := by decide +kernel
theorem dX11_wordOf_43 : decode cX11_wordOf 43 = .ok (.isub, 1) := by decide +kernel
theorem dX11_wordOf_44 : decode cX11_wordOf 44 = .ok (.if_icmp .ne 7, 3) := by decide +kernel
theorem dX11_wordOf_47 : decode cX11_wordOf 47 = .ok (.iconst 1, 1) := by decide +kernel
theorem dX11_wordOf_48 : decode cX11_wordOf 48 = .ok (.goto 4, 3) := by decide +kernel
theorem dX11_wordOf_51 : decode cX11_wordOf 51 = .ok (.iconst 0, 1) := by decide +kernel
theorem dX11_wordOf_52 : decode cX11_wordOf 52 = .ok (.istore 6, 2) := by decide +kernel
theorem dX11_wordOf_54 : decode cX11_wordOf 54 = .ok (.iconst 0, 1) := by decide +kernel
theorem dX11_wordOf_55 : decode cX11_wordOf 55 = .ok (.istore 7, 2) := by decide +kernel
theorem dX11_wordOf_57 : decode cX11_wordOf 57 = .ok (.iload 7, 2) := by decide +kernel
theorem dX11_wordOf_59 : decode cX11_wordOf 59 = .ok (.iload 5, 2) := by decide +kernel
theorem dX11_wordOf_61 : decode cX11_wordOf 61 = .ok (.if_icmp .ge 43, 3) := by decide +kernel
theorem dX11_wordOf_64 : decode cX11_wordOf 64 = .ok (.iload 6, 2) := by decide +kernel
theorem dX11_wordOf_66 : decode cX11_wordOf 66 = .ok (.ifCond .eq 38, 3) := by decide +kernel
theorem dX11_wordOf_69 : decode cX11_wordOf 69 = .ok (.aload_n 0, 1) := by decide +kernel
theorem dX11_wordOf_70 : decode cX11_wordOf 70 = .ok (.getfield 37, 3) := by decide +kernel
theorem dX11_wordOf_73 : decode cX11_wordOf 73 = .ok (.iload 4, 2) := by decide +kernel
theorem dX11_wordOf_75 : decode cX11_wordOf 75 = .ok (.iload 7, 2) := by decide +kernel
theorem dX11_wordOf_77 : decode cX11_wordOf 77 = .ok (.iadd, 1) := by decide +kernel
theorem dX11_wordOf_78 : decode cX11_wordOf 78 = .ok (.baload, 1) := by decide +kernel
theorem dX11_wordOf_79 : decode cX11_wordOf 79 = .ok (.aload_n 0, 1) := by decide +kernel
theorem dX11_wordOf_80 : decode cX11_wordOf 80 = .ok (.getfield 41, 3) := by decide +kernel
theorem dX11_wordOf_83 : decode cX11_wordOf 83 = .ok (.iload_n 1, 1) := by decide +kernel
theorem dX11_wordOf_84 : decode cX11_wordOf 84 = .ok (.iload 7, 2) := by decide +kernel
theorem dX11_wordOf_86 : decode cX11_wordOf 86 = .ok (.iadd, 1) := by decide +kernel
theorem dX11_wordOf_87 : decode cX11_wordOf 87 = .ok (.baload, 1) := by decide +kernel
theorem dX11_wordOf_88 : decode cX11_wordOf 88 = .ok (.if_icmp .ne 7, 3) := by decide +kernel
theorem dX11_wordOf_91 : decode cX11_wordOf 91 = .ok (.iconst 1, 1) := by decide +kernel
theorem dX11_wordOf_92 : decode cX11_wordOf 92 = .ok (.goto 4, 3) := by decide +kernel
theorem dX11_wordOf_95 : decode cX11_wordOf 95 = .ok (.iconst 0, 1) := by decide +kernel
theorem dX11_wordOf_96 : decode cX11_wordOf 96 = .ok (.istore 6, 2) := by decide +kernel
theorem dX11_wordOf_98 : decode cX11_wordOf 98 = .ok (.iinc 7 1, 3) := by decide +kernel
theorem dX11_wordOf_101 : decode cX11_wordOf 101 = .ok (.goto (-44), 3) := by decide +kernel
theorem dX11_wordOf_104 : decode cX11_wordOf 104 = .ok (.iload 6, 2) := by decide +kernel
theorem dX11_wordOf_106 : decode cX11_wordOf 106 = .ok (.ifCond .eq 5, 3) := by decide +kernel
theorem dX11_wordOf_109 : decode cX11_wordOf 109 = .ok (.iload_n 3, 1) := by decide +kernel
theorem dX11_wordOf_110 : decode cX11_wordOf 110 = .ok (.ireturn, 1) := by decide +kernel
theorem dX11_wordOf_111 : decode cX11_wordOf 111 = .ok (.iload 4, 2) := by decide +kernel
theorem dX11_wordOf_113 : decode cX11_wordOf 113 = .ok (.iload 5, 2) := by decide +kernel
theorem dX11_wordOf_115 : decode cX11_wordOf 115 = .ok (.iconst 1, 1) := by decide +kernel
theorem dX11_wordOf_116 : decode cX11_wordOf 116 = .ok (.iadd, 1) := by decide +kernel
theorem dX11_wordOf_117 : decode cX11_wordOf 117 = .ok (.iadd, 1) := by decide +kernel
theorem dX11_wordOf_118 : decode cX11_wordOf 118 = .ok (.istore 4, 2) := by decide +kernel
theorem dX11_wordOf_120 : decode cX11_wordOf 120 = .ok (.iinc 3 1, 3) := by decide +kernel
theorem dX11_wordOf_123 : decode cX11_wordOf 123 = .ok (.goto (-118), 3) := by decide +kernel
theorem dX11_wordOf_126 : decode cX11_wordOf 126 = .ok (.iconst 0, 1) := by decide +kernel
theorem dX11_wordOf_127 : decode cX11_wordOf 127 = .ok (.ireturn, 1) := by decide +kernel
def B_X11_wordOf_96 (Q : Int → st_S → Prop)  (k5 : Int → Int → Int → Int → st_S → Prop) (k57 : Int → Int → Int → Int → Int → Int → Int → st_S → Prop) (l1 : Int) (l2 : Int) (l3 : Int) (l4 : Int) (l5 : Int) (l7 : Int) (v0 : Int) (σ : st_S) : Prop := ∀ x17 : Int, x17 = wr (l7 + 1) → k57 l1 l2 l3 l4 l5 v0 x17 σ
def B_X11_wordOf_104 (Q : Int → st_S → Prop)  (k5 : Int → Int → Int → Int → st_S → Prop) (l1 : Int) (l2 : Int) (l3 : Int) (l4 : Int) (l5 : Int) (l6 : Int) (σ : st_S) : Prop := (l6 = 0 → ∀ x18 : Int, x18 = wr (l4 + (l5 + 1)) → ∀ x19 : Int, x19 = wr (l3 + 1) → k5 l1 l2 x19 x18 σ) ∧ (¬ l6 = 0 → Q l3 σ)
def L_X11_wordOf_57 (Q : Int → st_S → Prop)  (k5 : Int → Int → Int → Int → st_S → Prop) : Nat → Int → Int → Int → Int → Int → Int → Int → st_S → Prop
  | 0 => fun _ _ _ _ _ _ _ _ => False
  | n + 1 => fun l1 l2 l3 l4 l5 l6 l7 σ => (l5 ≤ l7 → B_X11_wordOf_104 Q k5 l1 l2 l3 l4 l5 l6 σ) ∧ (¬ l5 ≤ l7 → (l6 = 0 → B_X11_wordOf_104 Q k5 l1 l2 l3 l4 l5 l6 σ) ∧ (¬ l6 = 0 → ix (wr (l4 + l7)) 153 ∧ ix (wr (l1 + l7)) 400 ∧ (¬ gI σ 6 (Int.toNat (wr (l4 + l7))) = gI σ 7 (Int.toNat (wr (l1 + l7))) → B_X11_wordOf_96 Q k5 (L_X11_wordOf_57 Q k5 n) l1 l2 l3 l4 l5 l7 0 σ) ∧ (gI σ 6 (Int.toNat (wr (l4 + l7))) = gI σ 7 (Int.toNat (wr (l1 + l7))) → B_X11_wordOf_96 Q k5 (L_X11_wordOf_57 Q k5 n) l1 l2 l3 l4 l5 l7 1 σ)))
def B_X11_wordOf_52 (Q : Int → st_S → Prop)  (k5 : Int → Int → Int → Int → st_S → Prop) (l1 : Int) (l2 : Int) (l3 : Int) (l4 : Int) (l5 : Int) (v0 : Int) (σ : st_S) : Prop := ∃ m57 : Nat, L_X11_wordOf_57 Q k5 m57 l1 l2 l3 l4 l5 v0 0 σ
def L_X11_wordOf_18 (Q : Int → st_S → Prop)  (k5 : Int → Int → Int → Int → st_S → Prop) : Nat → Int → Int → Int → Int → Int → st_S → Prop
  | 0 => fun _ _ _ _ _ _ => False
  | n + 1 => fun l1 l2 l3 l4 l5 σ => ix (wr (l4 + l5)) 153 ∧ (gI σ 6 (Int.toNat (wr (l4 + l5))) = 32 → (¬ l5 = wr (l2 - l1) → B_X11_wordOf_52 Q k5 l1 l2 l3 l4 l5 0 σ) ∧ (l5 = wr (l2 - l1) → B_X11_wordOf_52 Q k5 l1 l2 l3 l4 l5 1 σ)) ∧ (¬ gI σ 6 (Int.toNat (wr (l4 + l5))) = 32 → ∀ x31 : Int, x31 = wr (l5 + 1) → (L_X11_wordOf_18 Q k5 n) l1 l2 l3 l4 x31 σ)
def L_X11_wordOf_5 (Q : Int → st_S → Prop)   : Nat → Int → Int → Int → Int → st_S → Prop
  | 0 => fun _ _ _ _ _ => False
  | n + 1 => fun l1 l2 l3 l4 σ => (153 ≤ l4 → Q 0 σ) ∧ (¬ 153 ≤ l4 → ∃ m18 : Nat, L_X11_wordOf_18 Q (L_X11_wordOf_5 Q n) m18 l1 l2 l3 l4 0 σ)
def wp_X11_wordOf (a1 : Int) (a2 : Int) (σ : st_S) (Q : Int → st_S → Prop) : Prop := ∃ m5 : Nat, L_X11_wordOf_5 Q m5 a1 a2 1 0 σ
set_option maxRecDepth 20000 in
theorem jb_X11_wordOf_96 {X : jj_X} {E : ev_E} {n0 hN : Nat} (hc : Cx X E cX11_wordOf 8 n0 hN RX11) (hm : eM E = 2) (hr : (xT X).sig.returnType = (some .int)) (hh : 1 ≤ hN) {Q : Int → st_S → Prop} {k5 : Int → Int → Int → Int → st_S → Prop} (hk5 : ∀ {l1 : Int} {l2 : Int} {l3 : Int} {l4 : Int} (cl1 : wr l1 = l1) (cl2 : wr l2 = l2) (cl3 : wr l3 = l3) (cl4 : wr l4 = l4) {σ : st_S}, k5 l1 l2 l3 l4 σ → J X E 8 n0 0 0 (MQ (xB X) (qI E (n0 + 0) Q) (xA X) (xS X) 0 0 (eF E)) σ 5 [(0, vR E 0), (1, vI l1), (2, vI l2), (3, vI l3), (4, vI l4)] []) {k57 : Int → Int → Int → Int → Int → Int → Int → st_S → Prop} (hk57 : ∀ {l1 : Int} {l2 : Int} {l3 : Int} {l4 : Int} {l5 : Int} {l6 : Int} {l7 : Int} (cl1 : wr l1 = l1) (cl2 : wr l2 = l2) (cl3 : wr l3 = l3) (cl4 : wr l4 = l4) (cl5 : wr l5 = l5) (cl6 : wr l6 = l6) (cl7 : wr l7 = l7) {σ : st_S}, k57 l1 l2 l3 l4 l5 l6 l7 σ → J X E 8 n0 0 0 (MQ (xB X) (qI E (n0 + 0) Q) (xA X) (xS X) 0 0 (eF E)) σ 57 [(0, vR E 0), (1, vI l1), (2, vI l2), (3, vI l3), (4, vI l4), (5, vI l5), (6, vI l6), (7, vI l7)] []) {l1 : Int} {l2 : Int} {l3 : Int} {l4 : Int} {l5 : Int} {l7 : Int} {v0 : Int} (cl1 : wr l1 = l1) (cl2 : wr l2 = l2) (cl3 : wr l3 = l3) (cl4 : wr l4 = l4) (cl5 : wr l5 = l5) (cl7 : wr l7 = l7) (cv0 : wr v0 = v0) {σ : st_S} (h : B_X11_wordOf_96 Q k5 k57 l1 l2 l3 l4 l5 l7 v0 σ) : J X E 8 n0 0 0 (MQ (xB X) (qI E (n0 + 0) Q) (xA X) (xS X) 0 0 (eF E)) σ 96 [(0, vR E 0), (1, vI l1), (2, vI l2), (3, vI l3), (4, vI l4), (5, vI l5), (7, vI l7)] [vI v0] := by
  have hh1 : 1 ≤ hN := by omega
  replace h : ∀ x17 : Int, x17 = wr (l7 + 1) → k57 l1 l2 l3 l4 l5 v0 x17 σ := h
  refine j_istore (lv' := [(6, vI v0), (0, vR E 0), (1, vI l1), (2, vI l2), (3, vI l3), (4, vI l4), (5, vI l5), (7, vI l7)]) hc dX11_wordOf_96 (by decide) rfl ?_
  obtain ⟨x17, ex17⟩ : ∃ y : Int, y = wr (l7 + 1) := ⟨_, rfl⟩
  have cx17 : wr x17 = x17 := by rw [ex17]; exact wr_wr _
  replace h := h x17 ex17
  refine j_iinc (lv' := [(7, vI x17), (6, vI v0), (0, vR E 0), (1, vI l1), (2, vI l2), (3, vI l3), (4, vI l4), (5, vI l5)]) hc 7 dX11_wordOf_98 rfl (by decide) ex17 rfl ?_
  refine j_goto (tgt := 57) hc dX11_wordOf_101 (by decide) ?_
  refine j_sub (lv' := [(0, vR E 0), (1, vI l1), (2, vI l2), (3, vI l3), (4, vI l4), (5, vI l5), (6, vI v0), (7, vI x17)]) [2, 3, 4, 5, 6, 7, 1, 0] rfl ?_
  exact hk57 cl1 cl2 cl3 cl4 cl5 cv0 cx17 h
set_option maxRecDepth 20000 in
theorem jb_X11_wordOf_104 {X : jj_X} {E : ev_E} {n0 hN : Nat} (hc : Cx X E cX11_wordOf 8 n0 hN RX11) (hm : eM E = 2) (hr : (xT X).sig.returnType = (some .int)) (hh : 1 ≤ hN) {Q : Int → st_S → Prop} {k5 : Int → Int → Int → Int → st_S → Prop} (hk5 : ∀ {l1 : Int} {l2 : Int} {l3 : Int} {l4 : Int} (cl1 : wr l1 = l1) (cl2 : wr l2 = l2) (cl3 : wr l3 = l3) (cl4 : wr l4 = l4) {σ : st_S}, k5 l1 l2 l3 l4 σ → J X E 8 n0 0 0 (MQ (xB X) (qI E (n0 + 0) Q) (xA X) (xS X) 0 0 (eF E)) σ 5 [(0, vR E 0), (1, vI l1), (2, vI l2), (3, vI l3), (4, vI l4)] []) {l1 : Int} {l2 : Int} {l3 : Int} {l4 : Int} {l5 : Int} {l6 : Int} (cl1 : wr l1 = l1) (cl2 : wr l2 = l2) (cl3 : wr l3 = l3) (cl4 : wr l4 = l4) (cl5 : wr l5 = l5) (cl6 : wr l6 = l6) {σ : st_S} (h : B_X11_wordOf_104 Q k5 l1 l2 l3 l4 l5 l6 σ) : J X E 8 n0 0 0 (MQ (xB X) (qI E (n0 + 0) Q) (xA X) (xS X) 0 0 (eF E)) σ 104 [(0, vR E 0), (1, vI l1), (2, vI l2), (3, vI l3), (4, vI l4), (5, vI l5), (6, vI l6)] [] := by
  have hh1 : 1 ≤ hN := by omega
  replace h : (l6 = 0 → ∀ x18 : Int, x18 = wr (l4 + (l5 + 1)) → ∀ x19 : Int, x19 = wr (l3 + 1) → k5 l1 l2 x19 x18 σ) ∧ (¬ l6 = 0 → Q l3 σ) := h
  refine j_iload hc 6 dX11_wordOf_104 rfl ?_
  refine j_if_eq hc cl6 (tgt := 111) dX11_wordOf_106 (by decide) (fun q20 => ?_) (fun q20 => ?_)
  · replace h := h.1 q20
    refine j_iload hc 4 dX11_wordOf_111 rfl ?_
    refine j_iload hc 5 dX11_wordOf_113 rfl ?_
    refine j_iconst hc dX11_wordOf_115 ?_
    refine j_iadd hc dX11_wordOf_116 ?_
    refine j_iadd hc dX11_wordOf_117 ?_
    refine j_w (fun x18 ex18 cx18 => ?_)
    replace h := h x18 ex18
    refine j_istore (lv' := [(4, vI x18), (0, vR E 0), (1, vI l1), (2, vI l2), (3, vI l3), (5, vI l5), (6, vI l6)]) hc dX11_wordOf_118 (by decide) rfl ?_
    obtain ⟨x19, ex19⟩ : ∃ y : Int, y = wr (l3 + 1) := ⟨_, rfl⟩
    have cx19 : wr x19 = x19 := by rw [ex19]; exact wr_wr _
    replace h := h x19 ex19
    refine j_iinc (lv' := [(3, vI x19), (4, vI x18), (0, vR E 0), (1, vI l1), (2, vI l2), (5, vI l5), (6, vI l6)]) hc 4 dX11_wordOf_120 rfl (by decide) ex19 rfl ?_
    refine j_goto (tgt := 5) hc dX11_wordOf_123 (by decide) ?_
    refine j_sub (lv' := [(0, vR E 0), (1, vI l1), (2, vI l2), (3, vI x19), (4, vI x18)]) [2, 3, 4, 0, 1] rfl ?_
    exact hk5 cl1 cl2 cx19 cx18 h
  · replace h := h.2 q20
    refine j_iload_n hc 3 dX11_wordOf_109 rfl rfl ?_
    exact j_iret hc hr cl3 h dX11_wordOf_110
set_option maxRecDepth 20000 in
theorem jl_X11_wordOf_57 {X : jj_X} {E : ev_E} {n0 hN : Nat} (hc : Cx X E cX11_wordOf 8 n0 hN RX11) (hm : eM E = 2) (hr : (xT X).sig.returnType = (some .int)) (hh : 1 ≤ hN) {Q : Int → st_S → Prop} {k5 : Int → Int → Int → Int → st_S → Prop} (hk5 : ∀ {l1 : Int} {l2 : Int} {l3 : Int} {l4 : Int} (cl1 : wr l1 = l1) (cl2 : wr l2 = l2) (cl3 : wr l3 = l3) (cl4 : wr l4 = l4) {σ : st_S}, k5 l1 l2 l3 l4 σ → J X E 8 n0 0 0 (MQ (xB X) (qI E (n0 + 0) Q) (xA X) (xS X) 0 0 (eF E)) σ 5 [(0, vR E 0), (1, vI l1), (2, vI l2), (3, vI l3), (4, vI l4)] []) : ∀ (n : Nat) {l1 : Int} {l2 : Int} {l3 : Int} {l4 : Int} {l5 : Int} {l6 : Int} {l7 : Int} (cl1 : wr l1 = l1) (cl2 : wr l2 = l2) (cl3 : wr l3 = l3) (cl4 : wr l4 = l4) (cl5 : wr l5 = l5) (cl6 : wr l6 = l6) (cl7 : wr l7 = l7) {σ : st_S}, L_X11_wordOf_57 Q k5 n l1 l2 l3 l4 l5 l6 l7 σ → J X E 8 n0 0 0 (MQ (xB X) (qI E (n0 + 0) Q) (xA X) (xS X) 0 0 (eF E)) σ 57 [(0, vR E 0), (1, vI l1), (2, vI l2), (3, vI l3), (4, vI l4), (5, vI l5), (6, vI l6), (7, vI l7)] [] := by
  have hh1 : 1 ≤ hN := by omega
  intro n
  induction n with
  | zero => intro l1 l2 l3 l4 l5 l6 l7 cl1 cl2 cl3 cl4 cl5 cl6 cl7 σ h; exact h.elim
  | succ n ih =>
    intro l1 l2 l3 l4 l5 l6 l7 cl1 cl2 cl3 cl4 cl5 cl6 cl7 σ h
    have hk57 : ∀ {l1 : Int} {l2 : Int} {l3 : Int} {l4 : Int} {l5 : Int} {l6 : Int} {l7 : Int} (cl1 : wr l1 = l1) (cl2 : wr l2 = l2) (cl3 : wr l3 = l3) (cl4 : wr l4 = l4) (cl5 : wr l5 = l5) (cl6 : wr l6 = l6) (cl7 : wr l7 = l7) {σ : st_S}, L_X11_wordOf_57 Q k5 n l1 l2 l3 l4 l5 l6 l7 σ → J X E 8 n0 0 0 (MQ (xB X) (qI E (n0 + 0) Q) (xA X) (xS X) 0 0 (eF E)) σ 57 [(0, vR E 0), (1, vI l1), (2, vI l2), (3, vI l3), (4, vI l4), (5, vI l5), (6, vI l6), (7, vI l7)] [] := ih
    replace h : (l5 ≤ l7 → B_X11_wordOf_104 Q k5 l1 l2 l3 l4 l5 l6 σ) ∧ (¬ l5 ≤ l7 → (l6 = 0 → B_X11_wordOf_104 Q k5 l1 l2 l3 l4 l5 l6 σ) ∧ (¬ l6 = 0 → ix (wr (l4 + l7)) 153 ∧ ix (wr (l1 + l7)) 400 ∧ (¬ gI σ 6 (Int.toNat (wr (l4 + l7))) = gI σ 7 (Int.toNat (wr (l1 + l7))) → B_X11_wordOf_96 Q k5 (L_X11_wordOf_57 Q k5 n) l1 l2 l3 l4 l5 l7 0 σ) ∧ (gI σ 6 (Int.toNat (wr (l4 + l7))) = gI σ 7 (Int.toNat (wr (l1 + l7))) → B_X11_wordOf_96 Q k5 (L_X11_wordOf_57 Q k5 n) l1 l2 l3 l4 l5 l7 1 σ))) := h
    refine j_iload hc 7 dX11_wordOf_57 rfl ?_
    refine j_iload hc 5 dX11_wordOf_59 rfl ?_
    refine j_ic_ge hc cl7 cl5 (tgt := 104) dX11_wordOf_61 (by decide) (fun q27 => ?_) (fun q27 => ?_)
    · replace h := h.1 q27
      refine j_sub (lv' := [(0, vR E 0), (1, vI l1), (2, vI l2), (3, vI l3), (4, vI l4), (5, vI l5), (6, vI l6)]) [0, 1, 2, 3, 4, 5, 6] rfl ?_
      exact jb_X11_wordOf_104 hc hm hr hh hk5 cl1 cl2 cl3 cl4 cl5 cl6 h
    · replace h := h.2 q27
      refine j_iload hc 6 dX11_wordOf_64 rfl ?_
      refine j_if_eq hc cl6 (tgt := 104) dX11_wordOf_66 (by decide) (fun q26 => ?_) (fun q26 => ?_)
      · replace h := h.1 q26
        refine j_sub (lv' := [(0, vR E 0), (1, vI l1), (2, vI l2), (3, vI l3), (4, vI l4), (5, vI l5), (6, vI l6)]) [0, 1, 2, 3, 4, 5, 6] rfl ?_
        exact jb_X11_wordOf_104 hc hm hr hh hk5 cl1 cl2 cl3 cl4 cl5 cl6 h
      · replace h := h.2 q26
        refine j_aload_nR hc 0 dX11_wordOf_69 rfl rfl ?_
        refine j_getR (c' := 6) hc fl_RX11_37 rfl rfl (fun hv => (sv_k hv hm rfl)) dX11_wordOf_70 ?_
        refine j_iload hc 4 dX11_wordOf_73 rfl ?_
        refine j_iload hc 7 dX11_wordOf_75 rfl ?_
        refine j_iadd hc dX11_wordOf_77 ?_
        obtain ⟨b21, h⟩ := h
        refine j_bald (jn := (Int.toNat (wr (l4 + l7)))) hc (fun hv => sv_kl hv hm rfl) rfl b21 rfl dX11_wordOf_78 (fun cn22 => ?_)
        refine j_aload_nR hc 0 dX11_wordOf_79 rfl rfl ?_
        refine j_getR (c' := 7) hc fl_RX11_41 rfl rfl (fun hv => (sv_k hv hm rfl)) dX11_wordOf_80 ?_
        refine j_iload_n hc 1 dX11_wordOf_83 rfl rfl ?_
        refine j_iload hc 7 dX11_wordOf_84 rfl ?_
        refine j_iadd hc dX11_wordOf_86 ?_
        obtain ⟨b23, h⟩ := h
        refine j_bald (jn := (Int.toNat (wr (l1 + l7)))) hc (fun hv => sv_kl hv hm rfl) rfl b23 rfl dX11_wordOf_87 (fun cn24 => ?_)
        refine j_ic_ne hc cn22 cn24 (tgt := 95) dX11_wordOf_88 (by decide) (fun q25 => ?_) (fun q25 => ?_)
        · replace h := h.1 q25
          refine j_iconst hc dX11_wordOf_95 ?_
          refine j_sub (lv' := [(0, vR E 0), (1, vI l1), (2, vI l2), (3, vI l3), (4, vI l4), (5, vI l5), (7, vI l7)]) [0, 1, 2, 3, 4, 5, 7] rfl ?_
          exact jb_X11_wordOf_96 hc hm hr hh hk5 hk57 cl1 cl2 cl3 cl4 cl5 cl7 (wlit 0 (by decide)) h
        · replace h := h.2 q25
          refine j_iconst hc dX11_wordOf_91 ?_
          refine j_goto (tgt := 96) hc dX11_wordOf_92 (by decide) ?_
          refine j_sub (lv' := [(0, vR E 0), (1, vI l1), (2, vI l2), (3, vI l3), (4, vI l4), (5, vI l5), (7, vI l7)]) [0, 1, 2, 3, 4, 5, 7] rfl ?_
          exact jb_X11_wordOf_96 hc hm hr hh hk5 hk57 cl1 cl2 cl3 cl4 cl5 cl7 (wlit 1 (by decide)) h
set_option maxRecDepth 20000 in
theorem jb_X11_wordOf_52 {X : jj_X} {E : ev_E} {n0 hN : Nat} (hc : Cx X E cX11_wordOf 8 n0 hN RX11) (hm : eM E = 2) (hr : (xT X).sig.returnType = (some .int)) (hh : 1 ≤ hN) {Q : Int → st_S → Prop} {k5 : Int → Int → Int → Int → st_S → Prop} (hk5 : ∀ {l1 : Int} {l2 : Int} {l3 : Int} {l4 : Int} (cl1 : wr l1 = l1) (cl2 : wr l2 = l2) (cl3 : wr l3 = l3) (cl4 : wr l4 = l4) {σ : st_S}, k5 l1 l2 l3 l4 σ → J X E 8 n0 0 0 (MQ (xB X) (qI E (n0 + 0) Q) (xA X) (xS X) 0 0 (eF E)) σ 5 [(0, vR E 0), (1, vI l1), (2, vI l2), (3, vI l3), (4, vI l4)] []) {l1 : Int} {l2 : Int} {l3 : Int} {l4 : Int} {l5 : Int} {v0 : Int} (cl1 : wr l1 = l1) (cl2 : wr l2 = l2) (cl3 : wr l3 = l3) (cl4 : wr l4 = l4) (cl5 : wr l5 = l5) (cv0 : wr v0 = v0) {σ : st_S} (h : B_X11_wordOf_52 Q k5 l1 l2 l3 l4 l5 v0 σ) : J X E 8 n0 0 0 (MQ (xB X) (qI E (n0 + 0) Q) (xA X) (xS X) 0 0 (eF E)) σ 52 [(0, vR E 0), (1, vI l1), (2, vI l2), (3, vI l3), (4, vI l4), (5, vI l5)] [vI v0] := by
  have hh1 : 1 ≤ hN := by omega
  replace h : ∃ m57 : Nat, L_X11_wordOf_57 Q k5 m57 l1 l2 l3 l4 l5 v0 0 σ := h
  refine j_istore (lv' := [(6, vI v0), (0, vR E 0), (1, vI l1), (2, vI l2), (3, vI l3), (4, vI l4), (5, vI l5)]) hc dX11_wordOf_52 (by decide) rfl ?_
  refine j_iconst hc dX11_wordOf_54 ?_
  refine j_istore (lv' := [(7, vI 0), (6, vI v0), (0, vR E 0), (1, vI l1), (2, vI l2), (3, vI l3), (4, vI l4), (5, vI l5)]) hc dX11_wordOf_55 (by decide) rfl ?_
  obtain ⟨n57, h⟩ := h
  refine j_sub (lv' := [(0, vR E 0), (1, vI l1), (2, vI l2), (3, vI l3), (4, vI l4), (5, vI l5), (6, vI v0), (7, vI 0)]) [2, 3, 4, 5, 6, 7, 1, 0] rfl ?_
  exact jl_X11_wordOf_57 hc hm hr hh hk5 n57 cl1 cl2 cl3 cl4 cl5 cv0 (wlit 0 (by decide)) h
set_option maxRecDepth 20000 in
theorem jl_X11_wordOf_18 {X : jj_X} {E : ev_E} {n0 hN : Nat} (hc : Cx X E cX11_wordOf 8 n0 hN RX11) (hm : eM E = 2) (hr : (xT X).sig.returnType = (some .int)) (hh : 1 ≤ hN) {Q : Int → st_S → Prop} {k5 : Int → Int → Int → Int → st_S → Prop} (hk5 : ∀ {l1 : Int} {l2 : Int} {l3 : Int} {l4 : Int} (cl1 : wr l1 = l1) (cl2 : wr l2 = l2) (cl3 : wr l3 = l3) (cl4 : wr l4 = l4) {σ : st_S}, k5 l1 l2 l3 l4 σ → J X E 8 n0 0 0 (MQ (xB X) (qI E (n0 + 0) Q) (xA X) (xS X) 0 0 (eF E)) σ 5 [(0, vR E 0), (1, vI l1), (2, vI l2), (3, vI l3), (4, vI l4)] []) : ∀ (n : Nat) {l1 : Int} {l2 : Int} {l3 : Int} {l4 : Int} {l5 : Int} (cl1 : wr l1 = l1) (cl2 : wr l2 = l2) (cl3 : wr l3 = l3) (cl4 : wr l4 = l4) (cl5 : wr l5 = l5) {σ : st_S}, L_X11_wordOf_18 Q k5 n l1 l2 l3 l4 l5 σ → J X E 8 n0 0 0 (MQ (xB X) (qI E (n0 + 0) Q) (xA X) (xS X) 0 0 (eF E)) σ 18 [(0, vR E 0), (1, vI l1), (2, vI l2), (3, vI l3), (4, vI l4), (5, vI l5)] [] := by
  have hh1 : 1 ≤ hN := by omega
  intro n
  induction n with
  | zero => intro l1 l2 l3 l4 l5 cl1 cl2 cl3 cl4 cl5 σ h; exact h.elim
  | succ n ih =>
    intro l1 l2 l3 l4 l5 cl1 cl2 cl3 cl4 cl5 σ h
    have hk18 : ∀ {l1 : Int} {l2 : Int} {l3 : Int} {l4 : Int} {l5 : Int} (cl1 : wr l1 = l1) (cl2 : wr l2 = l2) (cl3 : wr l3 = l3) (cl4 : wr l4 = l4) (cl5 : wr l5 = l5) {σ : st_S}, L_X11_wordOf_18 Q k5 n l1 l2 l3 l4 l5 σ → J X E 8 n0 0 0 (MQ (xB X) (qI E (n0 + 0) Q) (xA X) (xS X) 0 0 (eF E)) σ 18 [(0, vR E 0), (1, vI l1), (2, vI l2), (3, vI l3), (4, vI l4), (5, vI l5)] [] := ih
    replace h : ix (wr (l4 + l5)) 153 ∧ (gI σ 6 (Int.toNat (wr (l4 + l5))) = 32 → (¬ l5 = wr (l2 - l1) → B_X11_wordOf_52 Q k5 l1 l2 l3 l4 l5 0 σ) ∧ (l5 = wr (l2 - l1) → B_X11_wordOf_52 Q k5 l1 l2 l3 l4 l5 1 σ)) ∧ (¬ gI σ 6 (Int.toNat (wr (l4 + l5))) = 32 → ∀ x31 : Int, x31 = wr (l5 + 1) → (L_X11_wordOf_18 Q k5 n) l1 l2 l3 l4 x31 σ) := h
    refine j_aload_nR hc 0 dX11_wordOf_18 rfl rfl ?_
    refine j_getR (c' := 6) hc fl_RX11_37 rfl rfl (fun hv => (sv_k hv hm rfl)) dX11_wordOf_19 ?_
    refine j_iload hc 4 dX11_wordOf_22 rfl ?_
    refine j_iload hc 5 dX11_wordOf_24 rfl ?_
    refine j_iadd hc dX11_wordOf_26 ?_
    obtain ⟨b28, h⟩ := h
    refine j_bald (jn := (Int.toNat (wr (l4 + l5)))) hc (fun hv => sv_kl hv hm rfl) rfl b28 rfl dX11_wordOf_27 (fun cn29 => ?_)
    refine j_bipush hc dX11_wordOf_28 (by decide) ?_
    refine j_ic_eq hc cn29 (wlit 32 (by decide)) (tgt := 39) dX11_wordOf_30 (by decide) (fun q32 => ?_) (fun q32 => ?_)
    · replace h := h.1 q32
      refine j_iload hc 5 dX11_wordOf_39 rfl ?_
      refine j_iload_n hc 2 dX11_wordOf_41 rfl rfl ?_
      refine j_iload_n hc 1 dX11_wordOf_42 rfl rfl ?_
      refine j_isub hc dX11_wordOf_43 ?_
      refine j_ic_ne hc cl5 rfl (tgt := 51) dX11_wordOf_44 (by decide) (fun q30 => ?_) (fun q30 => ?_)
      · replace h := h.1 q30
        refine j_iconst hc dX11_wordOf_51 ?_
        refine j_sub (lv' := [(0, vR E 0), (1, vI l1), (2, vI l2), (3, vI l3), (4, vI l4), (5, vI l5)]) [0, 1, 2, 3, 4, 5] rfl ?_
        exact jb_X11_wordOf_52 hc hm hr hh hk5 cl1 cl2 cl3 cl4 cl5 (wlit 0 (by decide)) h
      · replace h := h.2 q30
        refine j_iconst hc dX11_wordOf_47 ?_
        refine j_goto (tgt := 52) hc dX11_wordOf_48 (by decide) ?_
        refine j_sub (lv' := [(0, vR E 0), (1, vI l1), (2, vI l2), (3, vI l3), (4, vI l4), (5, vI l5)]) [0, 1, 2, 3, 4, 5] rfl ?_
        exact jb_X11_wordOf_52 hc hm hr hh hk5 cl1 cl2 cl3 cl4 cl5 (wlit 1 (by decide)) h
    · replace h := h.2 q32
      obtain ⟨x31, ex31⟩ : ∃ y : Int, y = wr (l5 + 1) := ⟨_, rfl⟩
      have cx31 : wr x31 = x31 := by rw [ex31]; exact wr_wr _
      replace h := h x31 ex31
      refine j_iinc (lv' := [(5, vI x31), (0, vR E 0), (1, vI l1), (2, vI l2), (3, vI l3), (4, vI l4)]) hc 5 dX11_wordOf_33 rfl (by decide) ex31 rfl ?_
      refine j_goto (tgt := 18) hc dX11_wordOf_36 (by decide) ?_
      refine j_sub (lv' := [(0, vR E 0), (1, vI l1), (2, vI l2), (3, vI l3), (4, vI l4), (5, vI x31)]) [1, 2, 3, 4, 5, 0] rfl ?_
      exact hk18 cl1 cl2 cl3 cl4 cx31 h
set_option maxRecDepth 20000 in
theorem jl_X11_wordOf_5 {X : jj_X} {E : ev_E} {n0 hN : Nat} (hc : Cx X E cX11_wordOf 8 n0 hN RX11) (hm : eM E = 2) (hr : (xT X).sig.returnType = (some .int)) (hh : 1 ≤ hN) {Q : Int → st_S → Prop} : ∀ (n : Nat) {l1 : Int} {l2 : Int} {l3 : Int} {l4 : Int} (cl1 : wr l1 = l1) (cl2 : wr l2 = l2) (cl3 : wr l3 = l3) (cl4 : wr l4 = l4) {σ : st_S}, L_X11_wordOf_5 Q n l1 l2 l3 l4 σ → J X E 8 n0 0 0 (MQ (xB X) (qI E (n0 + 0) Q) (xA X) (xS X) 0 0 (eF E)) σ 5 [(0, vR E 0), (1, vI l1), (2, vI l2), (3, vI l3), (4, vI l4)] [] := by
  have hh1 : 1 ≤ hN := by omega
  intro n
  induction n with
  | zero => intro l1 l2 l3 l4 cl1 cl2 cl3 cl4 σ h; exact h.elim
  | succ n ih =>
    intro l1 l2 l3 l4 cl1 cl2 cl3 cl4 σ h
    have hk5 : ∀ {l1 : Int} {l2 : Int} {l3 : Int} {l4 : Int} (cl1 : wr l1 = l1) (cl2 : wr l2 = l2) (cl3 : wr l3 = l3) (cl4 : wr l4 = l4) {σ : st_S}, L_X11_wordOf_5 Q n l1 l2 l3 l4 σ → J X E 8 n0 0 0 (MQ (xB X) (qI E (n0 + 0) Q) (xA X) (xS X) 0 0 (eF E)) σ 5 [(0, vR E 0), (1, vI l1), (2, vI l2), (3, vI l3), (4, vI l4)] [] := ih
    replace h : (153 ≤ l4 → Q 0 σ) ∧ (¬ 153 ≤ l4 → ∃ m18 : Nat, L_X11_wordOf_18 Q (L_X11_wordOf_5 Q n) m18 l1 l2 l3 l4 0 σ) := h
    refine j_iload hc 4 dX11_wordOf_5 rfl ?_
    refine j_aload_nR hc 0 dX11_wordOf_7 rfl rfl ?_
    refine j_getR (c' := 6) hc fl_RX11_37 rfl rfl (fun hv => (sv_k hv hm rfl)) dX11_wordOf_8 ?_
    refine j_alen hc 2 (by decide) (fun hv => sv_kl hv hm rfl) dX11_wordOf_11 ?_
    refine j_ic_ge hc cl4 (wlit 153 (by decide)) (tgt := 126) dX11_wordOf_12 (by decide) (fun q33 => ?_) (fun q33 => ?_)
    · replace h := h.1 q33
      refine j_iconst hc dX11_wordOf_126 ?_
      exact j_iret hc hr (wlit 0 (by decide)) h dX11_wordOf_127
    · replace h := h.2 q33
      refine j_iconst hc dX11_wordOf_15 ?_
      refine j_istore (lv' := [(5, vI 0), (0, vR E 0), (1, vI l1), (2, vI l2), (3, vI l3), (4, vI l4)]) hc dX11_wordOf_16 (by decide) rfl ?_
      obtain ⟨n18, h⟩ := h
      refine j_sub (lv' := [(0, vR E 0), (1, vI l1), (2, vI l2), (3, vI l3), (4, vI l4), (5, vI 0)]) [1, 2, 3, 4, 5, 0] rfl ?_
      exact jl_X11_wordOf_18 hc hm hr hh hk5 n18 cl1 cl2 cl3 cl4 (wlit 0 (by decide)) h
set_option maxRecDepth 20000 in
theorem c_X11_wordOf {l : Launch} {E : ev_E} (hE : Eok E) (hm : eM E = 2) {a1 : Int} {a2 : Int} (ca1 : wr a1 = a1) (ca2 : wr a2 = a2) {σ : st_S} {Q : Int → st_S → Prop} (h : wp_X11_wordOf a1 a2 σ Q) : cM l yX11_wordOf cX11_wordOf 8 (some .int) E 1 0 0 [vR E 0, vI a1, vI a2] σ (qI E (gN σ + 0) Q) := by
  refine cM_of (lv := [(0, vR E 0), (1, vI a1), (2, vI a2)]) (by decide) hE (Nat.le_of_ble_eq_true rfl) (rfl) ?_
  intro X hX hc _ _ hr _ _
  subst hX
  have hh : 1 ≤ 1 := Nat.le_refl _
  have hh1 : 1 ≤ 1 := by omega
  replace h : ∃ m5 : Nat, L_X11_wordOf_5 Q m5 a1 a2 1 0 σ := h
  refine j_iconst hc dX11_wordOf_0 ?_
  refine j_istore_n (lv' := [(3, vI 1), (0, vR E 0), (1, vI a1), (2, vI a2)]) hc dX11_wordOf_1 rfl (by decide) rfl ?_
  refine j_iconst hc dX11_wordOf_2 ?_
  refine j_istore (lv' := [(4, vI 0), (3, vI 1), (0, vR E 0), (1, vI a1), (2, vI a2)]) hc dX11_wordOf_3 (by decide) rfl ?_
  obtain ⟨n5, h⟩ := h
  refine j_sub (lv' := [(0, vR E 0), (1, vI a1), (2, vI a2), (3, vI 1), (4, vI 0)]) [2, 3, 4, 1, 0] rfl ?_
  exact jl_X11_wordOf_5 hc hm hr hh n5 ca1 ca2 (wlit 1 (by decide)) (wlit 0 (by decide)) h
-- LitStrangersModel.splits(I)V
theorem dX11_splits_0 : decode cX11_splits 0 = .ok (.aload_n 0, 1) := by decide +kernel
theorem dX11_splits_1 : decode cX11_splits 1 = .ok (.iconst 0, 1) := by decide +kernel
theorem dX11_splits_2 : decode cX11_splits 2 = .ok (.putfield 147, 3) := by decide +kernel
theorem dX11_splits_5 : decode cX11_splits 5 = .ok (.iconst 0, 1) := by decide +kernel
theorem dX11_splits_6 : decode cX11_splits 6 = .ok (.istore_n 2, 1) := by decide +kernel
theorem dX11_splits_7 : decode cX11_splits 7 = .ok (.iload_n 2, 1) := by decide +kernel
theorem dX11_splits_8 : decode cX11_splits 8 = .ok (.iload_n 1, 1) := by decide +kernel
theorem dX11_splits_9 : decode cX11_splits 9 = .ok (.if_icmp .ge 254, 3) := by decide +kernel
theorem dX11_splits_12 : decode cX11_splits 12 = .ok (.aload_n 0, 1) := by decide +kernel
theorem dX11_splits_13 : decode cX11_splits 13 = .ok (.getfield 41, 3) := by decide +kernel
theorem dX11_splits_16 : decode cX11_splits 16 = .ok (.iload_n 2, 1) := by decide +kernel
theorem dX11_splits_17 : decode cX11_splits 17 = .ok (.baload, 1) := by decide +kernel
theorem dX11_splits_18 : decode cX11_splits 18 = .ok (.istore_n 3, 1) := by decide +kernel
theorem dX11_splits_19 : decode cX11_splits 19 = .ok (.iload_n 3, 1) := by decide +kernel
theorem dX11_splits_20 : decode cX11_splits 20 = .ok (.bipush 32, 2) := by decide +kernel
theorem dX11_splits_22 : decode cX11_splits 22 = .ok (.if_icmp .ne 9, 3) := by decide +kernel
theorem dX11_splits_25 : decode cX11_splits 25 = .ok (.iinc 2 1, 3) := by decide +kernel
theorem dX11_splits_28 : decode cX11_splits 28 = .ok (.goto (-21), 3) := by decide +kernel
theorem dX11_splits_31 : decode cX11_splits 31 = .ok (.iload_n 2, 1) := by decide +kernel
theorem dX11_splits_32 : decode cX11_splits 32 = .ok (.iconst 1, 1) := by decide +kernel
theorem dX11_splits_33 : decode cX11_splits 33 = .ok (.iadd, 1) := by decide +kernel
theorem dX11_splits_34 : decode cX11_splits 34 = .ok (.istore 4, 2) := by decide +kernel
theorem dX11_splits_36 : decode cX11_splits 36 = .ok (.iload_n 3, 1) := by decide +kernel
theorem dX11_splits_37 : decode cX11_splits 37 = .ok (.invokestatic 150, 3) := by decide +kernel
theorem dX11_splits_40 : decode cX11_splits 40 = .ok (.ifCond .eq 28, 3) := by decide +kernel
theorem dX11_splits_43 : decode cX11_splits 43 = .ok (.iload 4, 2) := by decide +kernel
theorem dX11_splits_45 : decode cX11_splits 45 = .ok (.iload_n 1, 1) := by decide +kernel
theorem dX11_splits_46 : decode cX11_splits 46 = .ok (.if_icmp .ge 22, 3) := by decide +kernel
theorem dX11_splits_49 : decode cX11_splits 49 = .ok (.aload_n 0, 1) := by decide +kernel
theorem dX11_splits_50 : decode cX11_splits 50 = .ok (.getfield 41, 3) := by decide +kernel
theorem dX11_splits_53 : decode cX11_splits 53 = .ok (.iload 4, 2) := by decide +kernel
theorem dX11_splits_55 : decode cX11_splits 55 = .ok (.baload, 1) := by decide +kernel
theorem dX11_splits_56 : decode cX11_splits 56 = .ok (.invokestatic 150, 3) := by decide +kernel
theorem dX11_splits_59 : decode cX11_splits 59 = .ok (.ifCond .eq 9, 3) := by decide +kernel
theorem dX11_splits_62 : decode cX11_splits 62 = .ok (.iinc 4 1, 3) := by decide +kernel
theorem dX11_splits_65 : decode cX11_splits 65 = .ok (.goto (-22), 3) := by decide +kernel
theorem dX11_splits_68 : decode cX11_splits 68 = .ok (.iload_n 3, 1) := by decide +kernel
theorem dX11_splits_69 : decode cX11_splits 69 = .ok (.invokestatic 153, 3) := by decide +kernel
theorem dX11_splits_72 : decode cX11_splits 72 = .ok (.ifCond .eq 28, 3) := by decide +kernel
theorem dX11_splits_75 : decode cX11_splits 75 = .ok (.iload 4, 2) := by decide +kernel
theorem dX11_splits_77 : decode cX11_splits 77 = .ok (.iload_n 1, 1) := by decide +kernel
theorem dX11_splits_78 : decode cX11_splits 78 = .ok (.if_icmp .ge 22, 3) := by decide +kernel
theorem dX11_splits_81 : decode cX11_splits 81 = .ok (.aload_n 0, 1) := by decide +kernel
theorem dX11_splits_82 : decode cX11_splits 82 = .ok (.getfield 41, 3) := by decide +kernel
theorem dX11_splits_85 : decode cX11_splits 85 = .ok (.iload 4, 2) := by decide +kernel
theorem dX11_splits_87 : decode cX11_splits 87 = .ok (.baload, 1) := by decide +kernel
theorem dX11_splits_88 : decode cX11_splits 88 = .ok (.invokestatic 153, 3) := by decide +kernel
theorem dX11_splits_91 : decode cX11_splits 91 = .ok (.ifCond .eq 9, 3) := by decide +kernel
theorem dX11_splits_94 : decode cX11_splits 94 = .ok (.iinc 4 1, 3) := by decide +kernel
theorem dX11_splits_97 : decode cX11_splits 97 = .ok (.goto (-22), 3) := by decide +kernel
theorem dX11_splits_100 : decode cX11_splits 100 = .ok (.aload_n 0, 1) := by decide +kernel
theorem dX11_splits_101 : decode cX11_splits 101 = .ok (.getfield 56, 3) := by decide +kernel
theorem dX11_splits_104 : decode cX11_splits 104 = .ok (.aload_n 0, 1) := by decide +kernel
theorem dX11_splits_105 : decode cX11_splits 105 = .ok (.getfield 147, 3) := by decide +kernel
theorem dX11_splits_108 : decode cX11_splits 108 = .ok (.iload_n 2, 1) := by decide +kernel
theorem dX11_splits_109 : decode cX11_splits 109 = .ok (.iastore, 1) := by decide +kernel
theorem dX11_splits_110 : decode cX11_splits 110 = .ok (.aload_n 0, 1) := by decide +kernel
theorem dX11_splits_111 : decode cX11_splits 111 = .ok (.getfield 53, 3) := by decide +kernel
theorem dX11_splits_114 : decode cX11_splits 114 = .ok (.aload_n 0, 1) := by decide +kernel
theorem dX11_splits_115 : decode cX11_splits 115 = .ok (.getfield 147, 3) := by decide +kernel
theorem dX11_splits_118 : decode cX11_splits 118 = .ok (.iconst 0, 1) := by decide +kernel
theorem dX11_splits_119 : decode cX11_splits 119 = .ok (.iastore, 1) := by decide +kernel
theorem dX11_splits_120 : decode cX11_splits 120 = .ok (.aload_n 0, 1) := by decide +kernel
theorem dX11_splits_121 : decode cX11_splits 121 = .ok (.getfield 50, 3) := by decide +kernel
theorem dX11_splits_124 : decode cX11_splits 124 = .ok (.aload_n 0, 1) := by decide +kernel
theorem dX11_splits_125 : decode cX11_splits 125 = .ok (.getfield 147, 3) := by decide +kernel
theorem dX11_splits_128 : decode cX11_splits 128 = .ok (.iload_n 3, 1) := by decide +kernel
theorem dX11_splits_129 : decode cX11_splits 129 = .ok (.invokestatic 150, 3) := by decide +kernel
theorem dX11_splits_132 : decode cX11_splits 132 = .ok (.ifCond .eq 13, 3) := by decide +kernel
theorem dX11_splits_135 : decode cX11_splits 135 = .ok (.aload_n 0, 1) := by decide +kernel
theorem dX11_splits_136 : decode cX11_splits 136 = .ok (.iload_n 2, 1) := by decide +kernel
theorem dX11_splits_137 : decode cX11_splits 137 = .ok (.iload 4, 2) := by decide +kernel
theorem dX11_splits_139 : decode cX11_splits 139 = .ok (.invokevirtual 156, 3) := by decide +kernel
theorem dX11_splits_142 : decode cX11_splits 142 = .ok (.goto 23, 3) := by decide +kernel
theorem dX11_splits_145 : decode cX11_splits 145 = .ok (.iload_n 3, 1) := by decide +kernel
theorem dX11_splits_146 : decode cX11_splits 146 = .ok (.invokestatic 153, 3) := by decide +kernel
theorem dX11_splits_149 : decode cX11_splits 149 = .ok (.ifCond .eq 8, 3) := by decide +kernel
theorem dX11_splits_152 : decode cX11_splits 152 = .ok (.bipush 50, 2) := by decide +kernel
theorem dX11_splits_154 : decode cX11_splits 154 = .ok (.goto 11, 3) := by decide +kernel
theorem dX11_splits_157 : decode cX11_splits 157 = .ok (.bipush 100, 2) := by decide +kernel
theorem dX11_splits_159 : decode cX11_splits 159 = .ok (.iload_n 3, 1) := by decide +kernel
theorem dX11_splits_160 : decode cX11_splits 160 = .ok (.sipush 255, 3) := by decide +kernel
theorem dX11_splits_163 : decode cX11_splits 163 = .ok (.iand, 1) := by decide +kernel
theorem dX11_splits_164 : decode cX11_splits 164 = .ok (.iadd, 1) := by decide +kernel
theorem dX11_splits_165 : decode cX11_splits 165 = .ok (.iastore, 1) := by decide +kernel
theorem dX11_splits_166 : decode cX11_splits 166 = .ok (.iload_n 2, 1) := by decide +kernel
theorem dX11_splits_167 : decode cX11_splits 167 = .ok (.istore 5, 2) := by decide +kernel
theorem dX11_splits_169 : decode cX11_splits 169 = .ok (.iload 5, 2) := by decide +kernel
theorem dX11_splits_171 : decode cX11_splits 171 = .ok (.iload 4, 2) := by decide +kernel
theorem dX11_splits_173 : decode cX11_splits 173 = .ok (.if_icmp .ge 74, 3) := by decide +kernel
theorem dX11_splits_176 : decode cX11_splits 176 = .ok (.iload_n 3, 1) := by decide +kernel
theorem dX11_splits_177 : decode cX11_splits 177 = .ok (.invokestatic 153, 3) := by decide +kernel
theorem dX11_splits_180 : decode cX11_splits 180 = .ok (.ifCond .eq 67, 3) := by decide +kernel
theorem dX11_splits_183 : decode cX11_splits 183 = .ok (.aload_n 0, 1) := by decide +kernel
theorem dX11_splits_184 : decode cX11_splits 184 = .ok (.getfield 53, 3) := by decide +kernel
theorem dX11_splits_187 : decode cX11_splits 187 = .ok (.aload_n 0, 1) := by decide +kernel
theorem dX11_splits_188 : decode cX11_splits 188 = .ok (.getfield 147, 3) := by decide +kernel
theorem dX11_splits_191 : decode cX11_splits 191 = .ok (.aload_n 0, 1) := by decide +kernel
theorem dX11_splits_192 : decode cX11_splits 192 = .ok (.getfield 53, 3) := by decide +kernel
theorem dX11_splits_195 : decode cX11_splits 195 = .ok (.aload_n 0, 1) := by decide +kernel
theorem dX11_splits_196 : decode cX11_splits 196 = .ok (.getfield 147, 3) := by decide +kernel
theorem dX11_splits_199 : decode cX11_splits 199 = .ok (.iaload, 1) := by decide +kernel
theorem dX11_splits_200 : decode cX11_splits 200 = .ok (.ldc 160, 2) := by decide +kernel
theorem dX11_splits_202 : decode cX11_splits 202 = .ok (.if_icmp .le 15, 3) := by decide +kernel
theorem dX11_splits_205 : decode cX11_splits 205 = .ok (.aload_n 0, 1) := by decide +kernel
theorem dX11_splits_206 : decode cX11_splits 206 = .ok (.getfield 53, 3) := by decide +kernel
theorem dX11_splits_209 : decode cX11_splits 209 = .ok (.aload_n 0, 1) := by decide +kernel
theorem dX11_splits_210 : decode cX11_splits 210 = .ok (.getfield 147, 3) := by decide +kernel
theorem dX11_splits_213 : decode cX11_splits 213 = .ok (.iaload, 1) := by decide +kernel
theorem dX11_splits_214 : decode cX11_splits 214 = .ok (.goto 26, 3) := by decide +kernel
theorem dX11_splits_217 : decode cX11_splits 217 = .ok (.bipush 10, 2) := by decide +kernel
theorem dX11_splits_219 : decode cX11_splits 219 = .ok (.aload_n 0, 1) := by decide +kernel
theorem dX11_splits_220 : decode cX11_splits 220 = .ok (.getfield 53, 3) := by decide +kernel
theorem dX11_splits_223 : decode cX11_splits 223 = .ok (.aload_n 0, 1) := by decide +kernel
theorem dX11_splits_224 : decode cX11_splits 224 = .ok (.getfield 147, 3) := by decide +kernel
theorem dX11_splits_227 : decode cX11_splits 227 = .ok (.iaload, 1) := by decide +kernel
theorem dX11_splits_228 : decode cX11_splits 228 = .ok (.imul, 1) := by decide +kernel
theorem dX11_splits_229 : decode cX11_splits 229 = .ok (.aload_n 0, 1) := by decide +kernel
theorem dX11_splits_230 : decode cX11_splits 230 = .ok (.getfield 41, 3) := by decide +kernel
theorem dX11_splits_233 : decode cX11_splits 233 = .ok (.iload 5, 2) := by decide +kernel
theorem dX11_splits_235 : decode cX11_splits 235 = .ok (.baload, 1) := by decide +kernel
theorem dX11_splits_236 : decode cX11_splits 236 = .ok (.iadd, 1) := by decide +kernel
theorem dX11_splits_237 : decode cX11_splits 237 = .ok (.bipush 48, 2) := by decide +kernel
theorem dX11_splits_239 : decode cX11_splits 239 = .ok (.isub, 1) := by decide +kernel
theorem dX11_splits_240 : decode cX11_splits 240 = .ok (.iastore, 1) := by decide +kernel
theorem dX11_splits_241 : decode cX11_splits 241 = .ok (.iinc 5 1, 3) := by decide +kernel
theorem dX11_splits_244 : decode cX11_splits 244 = .ok (.goto (-75), 3) := by decide +kernel
theorem dX11_splits_247 : decode cX11_splits 247 = .ok (.aload_n 0, 1) := by decide +kernel
theorem dX11_splits_248 : decode cX11_splits 248 = .ok (.dup, 1) := by decide +kernel
theorem dX11_splits_249 : decode cX11_splits 249 = .ok (.getfield 147, 3) := by decide +kernel
theorem dX11_splits_252 : decode cX11_splits 252 = .ok (.iconst 1, 1) := by decide +kernel
theorem dX11_splits_253 : decode cX11_splits 253 = .ok (.iadd, 1) := by decide +kernel
theorem dX11_splits_254 : decode cX11_splits 254 = .ok (.putfield 147, 3) := by decide +kernel
theorem dX11_splits_257 : decode cX11_splits 257 = .ok (.iload 4, 2) := by decide +kernel
theorem dX11_splits_259 : decode cX11_splits 259 = .ok (.istore_n 2, 1) := by decide +kernel
theorem dX11_splits_260 : decode cX11_splits 260 = .ok (.goto (-253), 3) := by decide +kernel
theorem dX11_splits_263 : decode cX11_splits 263 = .ok (.aload_n 0, 1) := by decide +kernel
theorem dX11_splits_264 : decode cX11_splits 264 = .ok (.getfield 56, 3) := by decide +kernel
theorem dX11_splits_267 : decode cX11_splits 267 = .ok (.aload_n 0, 1) := by decide +kernel
theorem dX11_splits_268 : decode cX11_splits 268 = .ok (.getfield 147, 3) := by decide +kernel
theorem dX11_splits_271 : decode cX11_splits 271 = .ok (.iload_n 1, 1) := by decide +kernel
theorem dX11_splits_272 : decode cX11_splits 272 = .ok (.iastore, 1) := by decide +kernel
theorem dX11_splits_273 : decode cX11_splits 273 = .ok (.aload_n 0, 1) := by decide +kernel
theorem dX11_splits_274 : decode cX11_splits 274 = .ok (.getfield 50, 3) := by decide +kernel
theorem dX11_splits_277 : decode cX11_splits 277 = .ok (.aload_n 0, 1) := by decide +kernel
theorem dX11_splits_278 : decode cX11_splits 278 = .ok (.getfield 147, 3) := by decide +kernel
theorem dX11_splits_281 : decode cX11_splits 281 = .ok (.iconst 0, 1) := by decide +kernel
theorem dX11_splits_282 : decode cX11_splits 282 = .ok (.iastore, 1) := by decide +kernel
theorem dX11_splits_283 : decode cX11_splits 283 = .ok (.aload_n 0, 1) := by decide +kernel
theorem dX11_splits_284 : decode cX11_splits 284 = .ok (.getfield 53, 3) := by decide +kernel
theorem dX11_splits_287 : decode cX11_splits 287 = .ok (.aload_n 0, 1) := by decide +kernel
theorem dX11_splits_288 : decode cX11_splits 288 = .ok (.getfield 147, 3) := by decide +kernel
theorem dX11_splits_291 : decode cX11_splits 291 = .ok (.iconst 0, 1) := by decide +kernel
theorem dX11_splits_292 : decode cX11_splits 292 = .ok (.iastore, 1) := by decide +kernel
theorem dX11_splits_293 : decode cX11_splits 293 = .ok (.return_, 1) := by decide +kernel
def B_X11_splits_240 (Q : st_S → Prop)  (k7 : Int → Int → st_S → Prop) (k169 : Int → Int → Int → Int → st_S → Prop) (l1 : Int) (l3 : Int) (l4 : Int) (l5 : Int) (v0 : Int) (v1 : Int) (σ : st_S) : Prop := ix (wr v1) 401 ∧ ∀ s77 : st_S, s77 = sI σ 10 (Int.toNat (wr v1)) v0 → ∀ x78 : Int, x78 = wr (l5 + 1) → k169 l1 l3 l4 x78 s77
def B_X11_splits_247 (Q : st_S → Prop)  (k7 : Int → Int → st_S → Prop) (l1 : Int) (l4 : Int) (σ : st_S) : Prop := ∀ x80 : Int, x80 = wr (gI σ 0 18 + 1) → ∀ s81 : st_S, s81 = sI σ 0 18 x80 → k7 l1 l4 s81
def L_X11_splits_169 (Q : st_S → Prop)  (k7 : Int → Int → st_S → Prop) : Nat → Int → Int → Int → Int → st_S → Prop
  | 0 => fun _ _ _ _ _ => False
  | n + 1 => fun l1 l3 l4 l5 σ => (l4 ≤ l5 → B_X11_splits_247 Q k7 l1 l4 σ) ∧ (¬ l4 ≤ l5 → wp_X11_isDigit l3 σ (fun r82 s83 => (r82 = 0 → B_X11_splits_247 Q k7 l1 l4 s83) ∧ (¬ r82 = 0 → ix (gI s83 0 18) 401 ∧ (gI s83 10 (Int.toNat (gI s83 0 18)) ≤ 1000000 → ix (gI s83 0 18) 401 ∧ ix l5 400 ∧ ∀ x93 : Int, x93 = wr (((10 * gI s83 10 (Int.toNat (gI s83 0 18))) + gI s83 7 (Int.toNat l5)) - 48) → B_X11_splits_240 Q k7 (L_X11_splits_169 Q k7 n) l1 l3 l4 l5 x93 (gI s83 0 18) s83) ∧ (¬ gI s83 10 (Int.toNat (gI s83 0 18)) ≤ 1000000 → ix (gI s83 0 18) 401 ∧ B_X11_splits_240 Q k7 (L_X11_splits_169 Q k7 n) l1 l3 l4 l5 (gI s83 10 (Int.toNat (gI s83 0 18))) (gI s83 0 18) s83))))
def B_X11_splits_165 (Q : st_S → Prop)  (k7 : Int → Int → st_S → Prop) (l1 : Int) (l2 : Int) (l3 : Int) (l4 : Int) (v0 : Int) (v1 : Int) (σ : st_S) : Prop := ix (wr v1) 401 ∧ ∀ s101 : st_S, s101 = sI σ 9 (Int.toNat (wr v1)) v0 → ∃ m169 : Nat, L_X11_splits_169 Q k7 m169 l1 l3 l4 l2 s101
def B_X11_splits_100 (Q : st_S → Prop)  (k7 : Int → Int → st_S → Prop) (l1 : Int) (l2 : Int) (l3 : Int) (l4 : Int) (σ : st_S) : Prop := ix (gI σ 0 18) 401 ∧ ∀ s104 : st_S, s104 = sI σ 11 (Int.toNat (gI σ 0 18)) l2 → ix (gI s104 0 18) 401 ∧ ∀ s107 : st_S, s107 = sI s104 10 (Int.toNat (gI s104 0 18)) 0 → wp_X11_isSmall l3 s107 (fun r109 s110 => (r109 = 0 → wp_X11_isDigit l3 s110 (fun r111 s112 => (r111 = 0 → ∀ x113 : Int, x113 = wr (100 + o_and l3 255) → B_X11_splits_165 Q k7 l1 l2 l3 l4 x113 (gI s107 0 18) s112) ∧ (¬ r111 = 0 → B_X11_splits_165 Q k7 l1 l2 l3 l4 50 (gI s107 0 18) s112))) ∧ (¬ r109 = 0 → wp_X11_wordOf l2 l4 s110 (fun r115 s116 => B_X11_splits_165 Q k7 l1 l2 l3 l4 r115 (gI s107 0 18) s116)))
def L_X11_splits_75 (Q : st_S → Prop)  (k7 : Int → Int → st_S → Prop) : Nat → Int → Int → Int → Int → st_S → Prop
  | 0 => fun _ _ _ _ _ => False
  | n + 1 => fun l1 l2 l3 l4 σ => (l1 ≤ l4 → B_X11_splits_100 Q k7 l1 l2 l3 l4 σ) ∧ (¬ l1 ≤ l4 → ix l4 400 ∧ wp_X11_isDigit (gI σ 7 (Int.toNat l4)) σ (fun r120 s121 => (r120 = 0 → B_X11_splits_100 Q k7 l1 l2 l3 l4 s121) ∧ (¬ r120 = 0 → ∀ x122 : Int, x122 = wr (l4 + 1) → (L_X11_splits_75 Q k7 n) l1 l2 l3 x122 s121)))
def B_X11_splits_68 (Q : st_S → Prop)  (k7 : Int → Int → st_S → Prop) (l1 : Int) (l2 : Int) (l3 : Int) (l4 : Int) (σ : st_S) : Prop := wp_X11_isDigit l3 σ (fun r125 s126 => (r125 = 0 → B_X11_splits_100 Q k7 l1 l2 l3 l4 s126) ∧ (¬ r125 = 0 → ∃ m75 : Nat, L_X11_splits_75 Q k7 m75 l1 l2 l3 l4 s126))
def L_X11_splits_43 (Q : st_S → Prop)  (k7 : Int → Int → st_S → Prop) : Nat → Int → Int → Int → Int → st_S → Prop
  | 0 => fun _ _ _ _ _ => False
  | n + 1 => fun l1 l2 l3 l4 σ => (l1 ≤ l4 → B_X11_splits_68 Q k7 l1 l2 l3 l4 σ) ∧ (¬ l1 ≤ l4 → ix l4 400 ∧ wp_X11_isSmall (gI σ 7 (Int.toNat l4)) σ (fun r130 s131 => (r130 = 0 → B_X11_splits_68 Q k7 l1 l2 l3 l4 s131) ∧ (¬ r130 = 0 → ∀ x132 : Int, x132 = wr (l4 + 1) → (L_X11_splits_43 Q k7 n) l1 l2 l3 x132 s131)))
def L_X11_splits_7 (Q : st_S → Prop)   : Nat → Int → Int → st_S → Prop
  | 0 => fun _ _ _ => False
  | n + 1 => fun l1 l2 σ => (l1 ≤ l2 → ix (gI σ 0 18) 401 ∧ ∀ s137 : st_S, s137 = sI σ 11 (Int.toNat (gI σ 0 18)) l1 → ix (gI s137 0 18) 401 ∧ ∀ s140 : st_S, s140 = sI s137 9 (Int.toNat (gI s137 0 18)) 0 → ix (gI s140 0 18) 401 ∧ ∀ s143 : st_S, s143 = sI s140 10 (Int.toNat (gI s140 0 18)) 0 → Q s143) ∧ (¬ l1 ≤ l2 → ix l2 400 ∧ ∀ x146 : Int, x146 = gI σ 7 (Int.toNat l2) → (¬ x146 = 32 → ∀ x147 : Int, x147 = wr (l2 + 1) → wp_X11_isSmall x146 σ (fun r148 s149 => (r148 = 0 → B_X11_splits_68 Q (L_X11_splits_7 Q n) l1 l2 x146 x147 s149) ∧ (¬ r148 = 0 → ∃ m43 : Nat, L_X11_splits_43 Q (L_X11_splits_7 Q n) m43 l1 l2 x146 x147 s149))) ∧ (x146 = 32 → ∀ x151 : Int, x151 = wr (l2 + 1) → (L_X11_splits_7 Q n) l1 x151 σ))
def wp_X11_splits (a1 : Int) (σ : st_S) (Q : st_S → Prop) : Prop := ∀ s154 : st_S, s154 = sI σ 0 18 0 → ∃ m7 : Nat, L_X11_splits_7 Q m7 a1 0 s154
set_option maxRecDepth 20000 in
theorem jb_X11_splits_240 {X : jj_X} {E : ev_E} {n0 hN : Nat} (hc : Cx X E cX11_splits 6 n0 hN RX11) (hm : eM E = 2) (hr : (xT X).sig.returnType = none) (hh : 2 ≤ hN) {Q : st_S → Prop} {k7 : Int → Int → st_S → Prop} (hk7 : ∀ {l1 : Int} {l2 : Int} (cl1 : wr l1 = l1) (cl2 : wr l2 = l2) {σ : st_S}, k7 l1 l2 σ → J X E 6 n0 0 0 (MQ (xB X) (qV E (n0 + 0) Q) (xA X) (xS X) 0 0 (eF E)) σ 7 [(0, vR E 0), (1, vI l1), (2, vI l2)] []) {k169 : Int → Int → Int → Int → st_S → Prop} (hk169 : ∀ {l1 : Int} {l3 : Int} {l4 : Int} {l5 : Int} (cl1 : wr l1 = l1) (cl3 : wr l3 = l3) (cl4 : wr l4 = l4) (cl5 : wr l5 = l5) {σ : st_S}, k169 l1 l3 l4 l5 σ → J X E 6 n0 0 0 (MQ (xB X) (qV E (n0 + 0) Q) (xA X) (xS X) 0 0 (eF E)) σ 169 [(0, vR E 0), (1, vI l1), (3, vI l3), (4, vI l4), (5, vI l5)] []) {l1 : Int} {l3 : Int} {l4 : Int} {l5 : Int} {v0 : Int} {v1 : Int} (cl1 : wr l1 = l1) (cl3 : wr l3 = l3) (cl4 : wr l4 = l4) (cl5 : wr l5 = l5) (cv0 : wr v0 = v0) {σ : st_S} (h : B_X11_splits_240 Q k7 k169 l1 l3 l4 l5 v0 v1 σ) : J X E 6 n0 0 0 (MQ (xB X) (qV E (n0 + 0) Q) (xA X) (xS X) 0 0 (eF E)) σ 240 [(0, vR E 0), (1, vI l1), (3, vI l3), (4, vI l4), (5, vI l5)] [vI v0, vI v1, vR E 10] := by
  have hh1 : 1 ≤ hN := by omega
  replace h : ix (wr v1) 401 ∧ ∀ s77 : st_S, s77 = sI σ 10 (Int.toNat (wr v1)) v0 → ∀ x78 : Int, x78 = wr (l5 + 1) → k169 l1 l3 l4 x78 s77 := h
  obtain ⟨b76, h⟩ := h
  refine j_iast (jn := (Int.toNat (wr v1))) hc (fun hv => sv_kl hv hm rfl) rfl b76 rfl cv0 dX11_splits_240 (fun s77 es77 => ?_)
  replace h := h s77 es77
  obtain ⟨x78, ex78⟩ : ∃ y : Int, y = wr (l5 + 1) := ⟨_, rfl⟩
  have cx78 : wr x78 = x78 := by rw [ex78]; exact wr_wr _
  replace h := h x78 ex78
  refine j_iinc (lv' := [(5, vI x78), (0, vR E 0), (1, vI l1), (3, vI l3), (4, vI l4)]) hc 4 dX11_splits_241 rfl (by decide) ex78 rfl ?_
  refine j_goto (tgt := 169) hc dX11_splits_244 (by decide) ?_
  refine j_sub (lv' := [(0, vR E 0), (1, vI l1), (3, vI l3), (4, vI l4), (5, vI x78)]) [1, 2, 3, 4, 0] rfl ?_
  exact hk169 cl1 cl3 cl4 cx78 h
set_option maxRecDepth 20000 in
theorem jb_X11_splits_247 {X : jj_X} {E : ev_E} {n0 hN : Nat} (hc : Cx X E cX11_splits 6 n0 hN RX11) (hm : eM E = 2) (hr : (xT X).sig.returnType = none) (hh : 2 ≤ hN) {Q : st_S → Prop} {k7 : Int → Int → st_S → Prop} (hk7 : ∀ {l1 : Int} {l2 : Int} (cl1 : wr l1 = l1) (cl2 : wr l2 = l2) {σ : st_S}, k7 l1 l2 σ → J X E 6 n0 0 0 (MQ (xB X) (qV E (n0 + 0) Q) (xA X) (xS X) 0 0 (eF E)) σ 7 [(0, vR E 0), (1, vI l1), (2, vI l2)] []) {l1 : Int} {l4 : Int} (cl1 : wr l1 = l1) (cl4 : wr l4 = l4) {σ : st_S} (h : B_X11_splits_247 Q k7 l1 l4 σ) : J X E 6 n0 0 0 (MQ (xB X) (qV E (n0 + 0) Q) (xA X) (xS X) 0 0 (eF E)) σ 247 [(0, vR E 0), (1, vI l1), (4, vI l4)] [] := by
  have hh1 : 1 ≤ hN := by omega
  replace h : ∀ x80 : Int, x80 = wr (gI σ 0 18 + 1) → ∀ s81 : st_S, s81 = sI σ 0 18 x80 → k7 l1 l4 s81 := h
  refine j_aload_nR hc 0 dX11_splits_247 rfl rfl ?_
  refine j_dup hc dX11_splits_248 rfl ?_
  refine j_getI hc fl_RX11_147 (Or.inl rfl) (fun hv => Or.inl (sv_k hv hm rfl)) dX11_splits_249 (fun cn79 => ?_)
  refine j_iconst hc dX11_splits_252 ?_
  refine j_iadd hc dX11_splits_253 ?_
  refine j_w (fun x80 ex80 cx80 => ?_)
  replace h := h x80 ex80
  refine j_putI hc fl_RX11_147 rfl rfl (fun hv => Or.inl (sv_k hv hm rfl)) cx80 dX11_splits_254 (fun s81 es81 => ?_)
  replace h := h s81 es81
  refine j_iload hc 2 dX11_splits_257 rfl ?_
  refine j_istore_n (lv' := [(2, vI l4), (0, vR E 0), (1, vI l1), (4, vI l4)]) hc dX11_splits_259 rfl (by decide) rfl ?_
  refine j_goto (tgt := 7) hc dX11_splits_260 (by decide) ?_
  refine j_sub (lv' := [(0, vR E 0), (1, vI l1), (2, vI l4)]) [1, 2, 0] rfl ?_
  exact hk7 cl1 cl4 h
set_option maxRecDepth 20000 in
theorem jl_X11_splits_169 {X : jj_X} {E : ev_E} {n0 hN : Nat} (hc : Cx X E cX11_splits 6 n0 hN RX11) (hm : eM E = 2) (hr : (xT X).sig.returnType = none) (hh : 2 ≤ hN) {Q : st_S → Prop} {k7 : Int → Int → st_S → Prop} (hk7 : ∀ {l1 : Int} {l2 : Int} (cl1 : wr l1 = l1) (cl2 : wr l2 = l2) {σ : st_S}, k7 l1 l2 σ → J X E 6 n0 0 0 (MQ (xB X) (qV E (n0 + 0) Q) (xA X) (xS X) 0 0 (eF E)) σ 7 [(0, vR E 0), (1, vI l1), (2, vI l2)] []) : ∀ (n : Nat) {l1 : Int} {l3 : Int} {l4 : Int} {l5 : Int} (cl1 : wr l1 = l1) (cl3 : wr l3 = l3) (cl4 : wr l4 = l4) (cl5 : wr l5 = l5) {σ : st_S}, L_X11_splits_169 Q k7 n l1 l3 l4 l5 σ → J X E 6 n0 0 0 (MQ (xB X) (qV E (n0 + 0) Q) (xA X) (xS X) 0 0 (eF E)) σ 169 [(0, vR E 0), (1, vI l1), (3, vI l3), (4, vI l4), (5, vI l5)] [] := by
  have hh1 : 1 ≤ hN := by omega
  intro n
  induction n with
  | zero => intro l1 l3 l4 l5 cl1 cl3 cl4 cl5 σ h; exact h.elim
  | succ n ih =>
    intro l1 l3 l4 l5 cl1 cl3 cl4 cl5 σ h
    have hk169 : ∀ {l1 : Int} {l3 : Int} {l4 : Int} {l5 : Int} (cl1 : wr l1 = l1) (cl3 : wr l3 = l3) (cl4 : wr l4 = l4) (cl5 : wr l5 = l5) {σ : st_S}, L_X11_splits_169 Q k7 n l1 l3 l4 l5 σ → J X E 6 n0 0 0 (MQ (xB X) (qV E (n0 + 0) Q) (xA X) (xS X) 0 0 (eF E)) σ 169 [(0, vR E 0), (1, vI l1), (3, vI l3), (4, vI l4), (5, vI l5)] [] := ih
    replace h : (l4 ≤ l5 → B_X11_splits_247 Q k7 l1 l4 σ) ∧ (¬ l4 ≤ l5 → wp_X11_isDigit l3 σ (fun r82 s83 => (r82 = 0 → B_X11_splits_247 Q k7 l1 l4 s83) ∧ (¬ r82 = 0 → ix (gI s83 0 18) 401 ∧ (gI s83 10 (Int.toNat (gI s83 0 18)) ≤ 1000000 → ix (gI s83 0 18) 401 ∧ ix l5 400 ∧ ∀ x93 : Int, x93 = wr (((10 * gI s83 10 (Int.toNat (gI s83 0 18))) + gI s83 7 (Int.toNat l5)) - 48) → B_X11_splits_240 Q k7 (L_X11_splits_169 Q k7 n) l1 l3 l4 l5 x93 (gI s83 0 18) s83) ∧ (¬ gI s83 10 (Int.toNat (gI s83 0 18)) ≤ 1000000 → ix (gI s83 0 18) 401 ∧ B_X11_splits_240 Q k7 (L_X11_splits_169 Q k7 n) l1 l3 l4 l5 (gI s83 10 (Int.toNat (gI s83 0 18))) (gI s83 0 18) s83)))) := h
    refine j_iload hc 4 dX11_splits_169 rfl ?_
    refine j_iload hc 3 dX11_splits_171 rfl ?_
    refine j_ic_ge hc cl5 cl4 (tgt := 247) dX11_splits_173 (by decide) (fun q99 => ?_) (fun q99 => ?_)
    · replace h := h.1 q99
      refine j_sub (lv' := [(0, vR E 0), (1, vI l1), (4, vI l4)]) [0, 1, 3] rfl ?_
      exact jb_X11_splits_247 hc hm hr hh hk7 cl1 cl4 h
    · replace h := h.2 q99
      refine j_iload_n hc 2 dX11_splits_176 rfl rfl ?_
      refine j_sI hc ml_RX11_153 mv_X11_isDigit (As := [vI l3]) (c_X11_isDigit (cx_E hc) hm cl3 h) rfl (by omega) (by decide) ⟨Nat.zero_le _, Nat.zero_le _⟩ (Nat.le_of_ble_eq_true rfl) rfl dX11_splits_177 (fun r82 s83 cr82 h => ?_)
      refine j_if_eq hc cr82 (tgt := 247) dX11_splits_180 (by decide) (fun q98 => ?_) (fun q98 => ?_)
      · replace h := h.1 q98
        refine j_sub (lv' := [(0, vR E 0), (1, vI l1), (4, vI l4)]) [0, 1, 3] rfl ?_
        exact jb_X11_splits_247 hc hm hr hh hk7 cl1 cl4 h
      · replace h := h.2 q98
        refine j_aload_nR hc 0 dX11_splits_183 rfl rfl ?_
        refine j_getR (c' := 10) hc fl_RX11_53 rfl rfl (fun hv => (sv_k hv hm rfl)) dX11_splits_184 ?_
        refine j_aload_nR hc 0 dX11_splits_187 rfl rfl ?_
        refine j_getI hc fl_RX11_147 (Or.inl rfl) (fun hv => Or.inl (sv_k hv hm rfl)) dX11_splits_188 (fun cn84 => ?_)
        refine j_aload_nR hc 0 dX11_splits_191 rfl rfl ?_
        refine j_getR (c' := 10) hc fl_RX11_53 rfl rfl (fun hv => (sv_k hv hm rfl)) dX11_splits_192 ?_
        refine j_aload_nR hc 0 dX11_splits_195 rfl rfl ?_
        refine j_getI hc fl_RX11_147 (Or.inl rfl) (fun hv => Or.inl (sv_k hv hm rfl)) dX11_splits_196 (fun cn85 => ?_)
        obtain ⟨b86, h⟩ := h
        refine j_iald (jn := (Int.toNat (gI s83 0 18))) hc (fun hv => sv_kl hv hm rfl) cn85 b86 rfl dX11_splits_199 (fun cn87 => ?_)
        refine j_ldc (x := 1000000) hc (by decide) kc_RX11_160 dX11_splits_200 ?_
        refine j_ic_le hc cn87 (wlit 1000000 (by decide)) (tgt := 217) dX11_splits_202 (by decide) (fun q97 => ?_) (fun q97 => ?_)
        · replace h := h.1 q97
          refine j_bipush hc dX11_splits_217 (by decide) ?_
          refine j_aload_nR hc 0 dX11_splits_219 rfl rfl ?_
          refine j_getR (c' := 10) hc fl_RX11_53 rfl rfl (fun hv => (sv_k hv hm rfl)) dX11_splits_220 ?_
          refine j_aload_nR hc 0 dX11_splits_223 rfl rfl ?_
          refine j_getI hc fl_RX11_147 (Or.inl rfl) (fun hv => Or.inl (sv_k hv hm rfl)) dX11_splits_224 (fun cn88 => ?_)
          obtain ⟨b89, h⟩ := h
          refine j_iald (jn := (Int.toNat (gI s83 0 18))) hc (fun hv => sv_kl hv hm rfl) cn88 b89 rfl dX11_splits_227 (fun cn90 => ?_)
          refine j_imul hc dX11_splits_228 ?_
          refine j_aload_nR hc 0 dX11_splits_229 rfl rfl ?_
          refine j_getR (c' := 7) hc fl_RX11_41 rfl rfl (fun hv => (sv_k hv hm rfl)) dX11_splits_230 ?_
          refine j_iload hc 4 dX11_splits_233 rfl ?_
          obtain ⟨b91, h⟩ := h
          refine j_bald (jn := (Int.toNat l5)) hc (fun hv => sv_kl hv hm rfl) cl5 b91 rfl dX11_splits_235 (fun cn92 => ?_)
          refine j_iadd hc dX11_splits_236 ?_
          refine j_bipush hc dX11_splits_237 (by decide) ?_
          refine j_isub hc dX11_splits_239 ?_
          refine j_w (fun x93 ex93 cx93 => ?_)
          replace h := h x93 ex93
          refine j_sub (lv' := [(0, vR E 0), (1, vI l1), (3, vI l3), (4, vI l4), (5, vI l5)]) [0, 1, 2, 3, 4] rfl ?_
          exact jb_X11_splits_240 hc hm hr hh hk7 hk169 cl1 cl3 cl4 cl5 cx93 h
        · replace h := h.2 q97
          refine j_aload_nR hc 0 dX11_splits_205 rfl rfl ?_
          refine j_getR (c' := 10) hc fl_RX11_53 rfl rfl (fun hv => (sv_k hv hm rfl)) dX11_splits_206 ?_
          refine j_aload_nR hc 0 dX11_splits_209 rfl rfl ?_
          refine j_getI hc fl_RX11_147 (Or.inl rfl) (fun hv => Or.inl (sv_k hv hm rfl)) dX11_splits_210 (fun cn94 => ?_)
          obtain ⟨b95, h⟩ := h
          refine j_iald (jn := (Int.toNat (gI s83 0 18))) hc (fun hv => sv_kl hv hm rfl) cn94 b95 rfl dX11_splits_213 (fun cn96 => ?_)
          refine j_goto (tgt := 240) hc dX11_splits_214 (by decide) ?_
          refine j_sub (lv' := [(0, vR E 0), (1, vI l1), (3, vI l3), (4, vI l4), (5, vI l5)]) [0, 1, 2, 3, 4] rfl ?_
          exact jb_X11_splits_240 hc hm hr hh hk7 hk169 cl1 cl3 cl4 cl5 cn96 h
set_option maxRecDepth 20000 in
theorem jb_X11_splits_165 {X : jj_X} {E : ev_E} {n0 hN : Nat} (hc : Cx X E cX11_splits 6 n0 hN RX11) (hm : eM E = 2) (hr : (xT X).sig.returnType = none) (hh : 2 ≤ hN) {Q : st_S → Prop} {k7 : Int → Int → st_S → Prop} (hk7 : ∀ {l1 : Int} {l2 : Int} (cl1 : wr l1 = l1) (cl2 : wr l2 = l2) {σ : st_S}, k7 l1 l2 σ → J X E 6 n0 0 0 (MQ (xB X) (qV E (n0 + 0) Q) (xA X) (xS X) 0 0 (eF E)) σ 7 [(0, vR E 0), (1, vI l1), (2, vI l2)] []) {l1 : Int} {l2 : Int} {l3 : Int} {l4 : Int} {v0 : Int} {v1 : Int} (cl1 : wr l1 = l1) (cl2 : wr l2 = l2) (cl3 : wr l3 = l3) (cl4 : wr l4 = l4) (cv0 : wr v0 = v0) {σ : st_S} (h : B_X11_splits_165 Q k7 l1 l2 l3 l4 v0 v1 σ) : J X E 6 n0 0 0 (MQ (xB X) (qV E (n0 + 0) Q) (xA X) (xS X) 0 0 (eF E)) σ 165 [(0, vR E 0), (1, vI l1), (2, vI l2), (3, vI l3), (4, vI l4)] [vI v0, vI v1, vR E 9] := by
  have hh1 : 1 ≤ hN := by omega
  replace h : ix (wr v1) 401 ∧ ∀ s101 : st_S, s101 = sI σ 9 (Int.toNat (wr v1)) v0 → ∃ m169 : Nat, L_X11_splits_169 Q k7 m169 l1 l3 l4 l2 s101 := h
  obtain ⟨b100, h⟩ := h
  refine j_iast (jn := (Int.toNat (wr v1))) hc (fun hv => sv_kl hv hm rfl) rfl b100 rfl cv0 dX11_splits_165 (fun s101 es101 => ?_)
  replace h := h s101 es101
  refine j_iload_n hc 2 dX11_splits_166 rfl rfl ?_
  refine j_istore (lv' := [(5, vI l2), (0, vR E 0), (1, vI l1), (2, vI l2), (3, vI l3), (4, vI l4)]) hc dX11_splits_167 (by decide) rfl ?_
  obtain ⟨n169, h⟩ := h
  refine j_sub (lv' := [(0, vR E 0), (1, vI l1), (3, vI l3), (4, vI l4), (5, vI l2)]) [1, 2, 4, 5, 0] rfl ?_
  exact jl_X11_splits_169 hc hm hr hh hk7 n169 cl1 cl3 cl4 cl2 h
set_option maxRecDepth 20000 in
theorem jb_X11_splits_100 {X : jj_X} {E : ev_E} {n0 hN : Nat} (hc : Cx X E cX11_splits 6 n0 hN RX11) (hm : eM E = 2) (hr : (xT X).sig.returnType = none) (hh : 2 ≤ hN) {Q : st_S → Prop} {k7 : Int → Int → st_S → Prop} (hk7 : ∀ {l1 : Int} {l2 : Int} (cl1 : wr l1 = l1) (cl2 : wr l2 = l2) {σ : st_S}, k7 l1 l2 σ → J X E 6 n0 0 0 (MQ (xB X) (qV E (n0 + 0) Q) (xA X) (xS X) 0 0 (eF E)) σ 7 [(0, vR E 0), (1, vI l1), (2, vI l2)] []) {l1 : Int} {l2 : Int} {l3 : Int} {l4 : Int} (cl1 : wr l1 = l1) (cl2 : wr l2 = l2) (cl3 : wr l3 = l3) (cl4 : wr l4 = l4) {σ : st_S} (h : B_X11_splits_100 Q k7 l1 l2 l3 l4 σ) : J X E 6 n0 0 0 (MQ (xB X) (qV E (n0 + 0) Q) (xA X) (xS X) 0 0 (eF E)) σ 100 [(0, vR E 0), (1, vI l1), (2, vI l2), (3, vI l3), (4, vI l4)] [] := by
  have hh1 : 1 ≤ hN := by omega
  replace h : ix (gI σ 0 18) 401 ∧ ∀ s104 : st_S, s104 = sI σ 11 (Int.toNat (gI σ 0 18)) l2 → ix (gI s104 0 18) 401 ∧ ∀ s107 : st_S, s107 = sI s104 10 (Int.toNat (gI s104 0 18)) 0 → wp_X11_isSmall l3 s107 (fun r109 s110 => (r109 = 0 → wp_X11_isDigit l3 s110 (fun r111 s112 => (r111 = 0 → ∀ x113 : Int, x113 = wr (100 + o_and l3 255) → B_X11_splits_165 Q k7 l1 l2 l3 l4 x113 (gI s107 0 18) s112) ∧ (¬ r111 = 0 → B_X11_splits_165 Q k7 l1 l2 l3 l4 50 (gI s107 0 18) s112))) ∧ (¬ r109 = 0 → wp_X11_wordOf l2 l4 s110 (fun r115 s116 => B_X11_splits_165 Q k7 l1 l2 l3 l4 r115 (gI s107 0 18) s116))) := h
  refine j_aload_nR hc 0 dX11_splits_100 rfl rfl ?_
  refine j_getR (c' := 11) hc fl_RX11_56 rfl rfl (fun hv => (sv_k hv hm rfl)) dX11_splits_101 ?_
  refine j_aload_nR hc 0 dX11_splits_104 rfl rfl ?_
  refine j_getI hc fl_RX11_147 (Or.inl rfl) (fun hv => Or.inl (sv_k hv hm rfl)) dX11_splits_105 (fun cn102 => ?_)
  refine j_iload_n hc 2 dX11_splits_108 rfl rfl ?_
  obtain ⟨b103, h⟩ := h
  refine j_iast (jn := (Int.toNat (gI σ 0 18))) hc (fun hv => sv_kl hv hm rfl) cn102 b103 rfl cl2 dX11_splits_109 (fun s104 es104 => ?_)
  replace h := h s104 es104
  refine j_aload_nR hc 0 dX11_splits_110 rfl rfl ?_
  refine j_getR (c' := 10) hc fl_RX11_53 rfl rfl (fun hv => (sv_k hv hm rfl)) dX11_splits_111 ?_
  refine j_aload_nR hc 0 dX11_splits_114 rfl rfl ?_
  refine j_getI hc fl_RX11_147 (Or.inl rfl) (fun hv => Or.inl (sv_k hv hm rfl)) dX11_splits_115 (fun cn105 => ?_)
  refine j_iconst hc dX11_splits_118 ?_
  obtain ⟨b106, h⟩ := h
  refine j_iast (jn := (Int.toNat (gI s104 0 18))) hc (fun hv => sv_kl hv hm rfl) cn105 b106 rfl (wlit 0 (by decide)) dX11_splits_119 (fun s107 es107 => ?_)
  replace h := h s107 es107
  refine j_aload_nR hc 0 dX11_splits_120 rfl rfl ?_
  refine j_getR (c' := 9) hc fl_RX11_50 rfl rfl (fun hv => (sv_k hv hm rfl)) dX11_splits_121 ?_
  refine j_aload_nR hc 0 dX11_splits_124 rfl rfl ?_
  refine j_getI hc fl_RX11_147 (Or.inl rfl) (fun hv => Or.inl (sv_k hv hm rfl)) dX11_splits_125 (fun cn108 => ?_)
  refine j_iload_n hc 3 dX11_splits_128 rfl rfl ?_
  refine j_sI hc ml_RX11_150 mv_X11_isSmall (As := [vI l3]) (c_X11_isSmall (cx_E hc) hm cl3 h) rfl (by omega) (by decide) ⟨Nat.zero_le _, Nat.zero_le _⟩ (Nat.le_of_ble_eq_true rfl) rfl dX11_splits_129 (fun r109 s110 cr109 h => ?_)
  refine j_if_eq hc cr109 (tgt := 145) dX11_splits_132 (by decide) (fun q117 => ?_) (fun q117 => ?_)
  · replace h := h.1 q117
    refine j_iload_n hc 3 dX11_splits_145 rfl rfl ?_
    refine j_sI hc ml_RX11_153 mv_X11_isDigit (As := [vI l3]) (c_X11_isDigit (cx_E hc) hm cl3 h) rfl (by omega) (by decide) ⟨Nat.zero_le _, Nat.zero_le _⟩ (Nat.le_of_ble_eq_true rfl) rfl dX11_splits_146 (fun r111 s112 cr111 h => ?_)
    refine j_if_eq hc cr111 (tgt := 157) dX11_splits_149 (by decide) (fun q114 => ?_) (fun q114 => ?_)
    · replace h := h.1 q114
      refine j_bipush hc dX11_splits_157 (by decide) ?_
      refine j_iload_n hc 3 dX11_splits_159 rfl rfl ?_
      refine j_sipush hc dX11_splits_160 (by decide) ?_
      refine j_iand hc dX11_splits_163 ?_
      refine j_iadd hc dX11_splits_164 ?_
      refine j_w (fun x113 ex113 cx113 => ?_)
      replace h := h x113 ex113
      refine j_sub (lv' := [(0, vR E 0), (1, vI l1), (2, vI l2), (3, vI l3), (4, vI l4)]) [0, 1, 2, 3, 4] rfl ?_
      exact jb_X11_splits_165 hc hm hr hh hk7 cl1 cl2 cl3 cl4 cx113 h
    · replace h := h.2 q114
      refine j_bipush hc dX11_splits_152 (by decide) ?_
      refine j_goto (tgt := 165) hc dX11_splits_154 (by decide) ?_
      refine j_sub (lv' := [(0, vR E 0), (1, vI l1), (2, vI l2), (3, vI l3), (4, vI l4)]) [0, 1, 2, 3, 4] rfl ?_
      exact jb_X11_splits_165 hc hm hr hh hk7 cl1 cl2 cl3 cl4 (wlit 50 (by decide)) h
  · replace h := h.2 q117
    refine j_aload_nR hc 0 dX11_splits_135 rfl rfl ?_
    refine j_iload_n hc 2 dX11_splits_136 rfl rfl ?_
    refine j_iload hc 4 dX11_splits_137 rfl ?_
    refine j_vI hc (k := 11) (by decide) (fun hv => Or.inl (sv_k hv hm rfl)) ml_RX11_156 mv_X11_wordOf (As := [vI l2, vI l4]) (c_X11_wordOf (cx_E hc) hm cl2 cl4 h) rfl (by omega) (by decide) ⟨Nat.zero_le _, Nat.zero_le _⟩ (Nat.le_of_ble_eq_true rfl) rfl dX11_splits_139 (fun r115 s116 cr115 h => ?_)
    refine j_goto (tgt := 165) hc dX11_splits_142 (by decide) ?_
    refine j_sub (lv' := [(0, vR E 0), (1, vI l1), (2, vI l2), (3, vI l3), (4, vI l4)]) [0, 1, 2, 3, 4] rfl ?_
    exact jb_X11_splits_165 hc hm hr hh hk7 cl1 cl2 cl3 cl4 cr115 h
set_option maxRecDepth 20000 in
theorem jl_X11_splits_75 {X : jj_X} {E : ev_E} {n0 hN : Nat} (hc : Cx X E cX11_splits 6 n0 hN RX11) (hm : eM E = 2) (hr : (xT X).sig.returnType = none) (hh : 2 ≤ hN) {Q : st_S → Prop} {k7 : Int → Int → st_S → Prop} (hk7 : ∀ {l1 : Int} {l2 : Int} (cl1 : wr l1 = l1) (cl2 : wr l2 = l2) {σ : st_S}, k7 l1 l2 σ → J X E 6 n0 0 0 (MQ (xB X) (qV E (n0 + 0) Q) (xA X) (xS X) 0 0 (eF E)) σ 7 [(0, vR E 0), (1, vI l1), (2, vI l2)] []) : ∀ (n : Nat) {l1 : Int} {l2 : Int} {l3 : Int} {l4 : Int} (cl1 : wr l1 = l1) (cl2 : wr l2 = l2) (cl3 : wr l3 = l3) (cl4 : wr l4 = l4) {σ : st_S}, L_X11_splits_75 Q k7 n l1 l2 l3 l4 σ → J X E 6 n0 0 0 (MQ (xB X) (qV E (n0 + 0) Q) (xA X) (xS X) 0 0 (eF E)) σ 75 [(0, vR E 0), (1, vI l1), (2, vI l2), (3, vI l3), (4, vI l4)] [] := by
  have hh1 : 1 ≤ hN := by omega
  intro n
  induction n with
  | zero => intro l1 l2 l3 l4 cl1 cl2 cl3 cl4 σ h; exact h.elim
  | succ n ih =>
    intro l1 l2 l3 l4 cl1 cl2 cl3 cl4 σ h
    have hk75 : ∀ {l1 : Int} {l2 : Int} {l3 : Int} {l4 : Int} (cl1 : wr l1 = l1) (cl2 : wr l2 = l2) (cl3 : wr l3 = l3) (cl4 : wr l4 = l4) {σ : st_S}, L_X11_splits_75 Q k7 n l1 l2 l3 l4 σ → J X E 6 n0 0 0 (MQ (xB X) (qV E (n0 + 0) Q) (xA X) (xS X) 0 0 (eF E)) σ 75 [(0, vR E 0), (1, vI l1), (2, vI l2), (3, vI l3), (4, vI l4)] [] := ih
    replace h : (l1 ≤ l4 → B_X11_splits_100 Q k7 l1 l2 l3 l4 σ) ∧ (¬ l1 ≤ l4 → ix l4 400 ∧ wp_X11_isDigit (gI σ 7 (Int.toNat l4)) σ (fun r120 s121 => (r120 = 0 → B_X11_splits_100 Q k7 l1 l2 l3 l4 s121) ∧ (¬ r120 = 0 → ∀ x122 : Int, x122 = wr (l4 + 1) → (L_X11_splits_75 Q k7 n) l1 l2 l3 x122 s121))) := h
    refine j_iload hc 4 dX11_splits_75 rfl ?_
    refine j_iload_n hc 1 dX11_splits_77 rfl rfl ?_
    refine j_ic_ge hc cl4 cl1 (tgt := 100) dX11_splits_78 (by decide) (fun q124 => ?_) (fun q124 => ?_)
    · replace h := h.1 q124
      refine j_sub (lv' := [(0, vR E 0), (1, vI l1), (2, vI l2), (3, vI l3), (4, vI l4)]) [0, 1, 2, 3, 4] rfl ?_
      exact jb_X11_splits_100 hc hm hr hh hk7 cl1 cl2 cl3 cl4 h
    · replace h := h.2 q124
      refine j_aload_nR hc 0 dX11_splits_81 rfl rfl ?_
      refine j_getR (c' := 7) hc fl_RX11_41 rfl rfl (fun hv => (sv_k hv hm rfl)) dX11_splits_82 ?_
      refine j_iload hc 4 dX11_splits_85 rfl ?_
      obtain ⟨b118, h⟩ := h
      refine j_bald (jn := (Int.toNat l4)) hc (fun hv => sv_kl hv hm rfl) cl4 b118 rfl dX11_splits_87 (fun cn119 => ?_)
      refine j_sI hc ml_RX11_153 mv_X11_isDigit (As := [vI (gI σ 7 (Int.toNat l4))]) (c_X11_isDigit (cx_E hc) hm cn119 h) rfl (by omega) (by decide) ⟨Nat.zero_le _, Nat.zero_le _⟩ (Nat.le_of_ble_eq_true rfl) rfl dX11_splits_88 (fun r120 s121 cr120 h => ?_)
      refine j_if_eq hc cr120 (tgt := 100) dX11_splits_91 (by decide) (fun q123 => ?_) (fun q123 => ?_)
      · replace h := h.1 q123
        refine j_sub (lv' := [(0, vR E 0), (1, vI l1), (2, vI l2), (3, vI l3), (4, vI l4)]) [0, 1, 2, 3, 4] rfl ?_
        exact jb_X11_splits_100 hc hm hr hh hk7 cl1 cl2 cl3 cl4 h
      · replace h := h.2 q123
        obtain ⟨x122, ex122⟩ : ∃ y : Int, y = wr (l4 + 1) := ⟨_, rfl⟩
        have cx122 : wr x122 = x122 := by rw [ex122]; exact wr_wr _
        replace h := h x122 ex122
        refine j_iinc (lv' := [(4, vI x122), (0, vR E 0), (1, vI l1), (2, vI l2), (3, vI l3)]) hc 4 dX11_splits_94 rfl (by decide) ex122 rfl ?_
        refine j_goto (tgt := 75) hc dX11_splits_97 (by decide) ?_
        refine j_sub (lv' := [(0, vR E 0), (1, vI l1), (2, vI l2), (3, vI l3), (4, vI x122)]) [1, 2, 3, 4, 0] rfl ?_
        exact hk75 cl1 cl2 cl3 cx122 h
set_option maxRecDepth 20000 in
theorem jb_X11_splits_68 {X : jj_X} {E : ev_E} {n0 hN : Nat} (hc : Cx X E cX11_splits 6 n0 hN RX11) (hm : eM E = 2) (hr : (xT X).sig.returnType = none) (hh : 2 ≤ hN) {Q : st_S → Prop} {k7 : Int → Int → st_S → Prop} (hk7 : ∀ {l1 : Int} {l2 : Int} (cl1 : wr l1 = l1) (cl2 : wr l2 = l2) {σ : st_S}, k7 l1 l2 σ → J X E 6 n0 0 0 (MQ (xB X) (qV E (n0 + 0) Q) (xA X) (xS X) 0 0 (eF E)) σ 7 [(0, vR E 0), (1, vI l1), (2, vI l2)] []) {l1 : Int} {l2 : Int} {l3 : Int} {l4 : Int} (cl1 : wr l1 = l1) (cl2 : wr l2 = l2) (cl3 : wr l3 = l3) (cl4 : wr l4 = l4) {σ : st_S} (h : B_X11_splits_68 Q k7 l1 l2 l3 l4 σ) : J X E 6 n0 0 0 (MQ (xB X) (qV E (n0 + 0) Q) (xA X) (xS X) 0 0 (eF E)) σ 68 [(0, vR E 0), (1, vI l1), (2, vI l2), (3, vI l3), (4, vI l4)] [] := by
  have hh1 : 1 ≤ hN := by omega
  replace h : wp_X11_isDigit l3 σ (fun r125 s126 => (r125 = 0 → B_X11_splits_100 Q k7 l1 l2 l3 l4 s126) ∧ (¬ r125 = 0 → ∃ m75 : Nat, L_X11_splits_75 Q k7 m75 l1 l2 l3 l4 s126)) := h
  refine j_iload_n hc 3 dX11_splits_68 rfl rfl ?_
  refine j_sI hc ml_RX11_153 mv_X11_isDigit (As := [vI l3]) (c_X11_isDigit (cx_E hc) hm cl3 h) rfl (by omega) (by decide) ⟨Nat.zero_le _, Nat.zero_le _⟩ (Nat.le_of_ble_eq_true rfl) rfl dX11_splits_69 (fun r125 s126 cr125 h => ?_)
  refine j_if_eq hc cr125 (tgt := 100) dX11_splits_72 (by decide) (fun q127 => ?_) (fun q127 => ?_)
  · replace h := h.1 q127
    refine j_sub (lv' := [(0, vR E 0), (1, vI l1), (2, vI l2), (3, vI l3), (4, vI l4)]) [0, 1, 2, 3, 4] rfl ?_
    exact jb_X11_splits_100 hc hm hr hh hk7 cl1 cl2 cl3 cl4 h
  · replace h := h.2 q127
    obtain ⟨n75, h⟩ := h
    refine j_sub (lv' := [(0, vR E 0), (1, vI l1), (2, vI l2), (3, vI l3), (4, vI l4)]) [0, 1, 2, 3, 4] rfl ?_
    exact jl_X11_splits_75 hc hm hr hh hk7 n75 cl1 cl2 cl3 cl4 h
set_option maxRecDepth 20000 in
theorem jl_X11_splits_43 {X : jj_X} {E : ev_E} {n0 hN : Nat} (hc : Cx X E cX11_splits 6 n0 hN RX11) (hm : eM E = 2) (hr : (xT X).sig.returnType = none) (hh : 2 ≤ hN) {Q : st_S → Prop} {k7 : Int → Int → st_S → Prop} (hk7 : ∀ {l1 : Int} {l2 : Int} (cl1 : wr l1 = l1) (cl2 : wr l2 = l2) {σ : st_S}, k7 l1 l2 σ → J X E 6 n0 0 0 (MQ (xB X) (qV E (n0 + 0) Q) (xA X) (xS X) 0 0 (eF E)) σ 7 [(0, vR E 0), (1, vI l1), (2, vI l2)] []) : ∀ (n : Nat) {l1 : Int} {l2 : Int} {l3 : Int} {l4 : Int} (cl1 : wr l1 = l1) (cl2 : wr l2 = l2) (cl3 : wr l3 = l3) (cl4 : wr l4 = l4) {σ : st_S}, L_X11_splits_43 Q k7 n l1 l2 l3 l4 σ → J X E 6 n0 0 0 (MQ (xB X) (qV E (n0 + 0) Q) (xA X) (xS X) 0 0 (eF E)) σ 43 [(0, vR E 0), (1, vI l1), (2, vI l2), (3, vI l3), (4, vI l4)] [] := by
  have hh1 : 1 ≤ hN := by omega
  intro n
  induction n with
  | zero => intro l1 l2 l3 l4 cl1 cl2 cl3 cl4 σ h; exact h.elim
  | succ n ih =>
    intro l1 l2 l3 l4 cl1 cl2 cl3 cl4 σ h
    have hk43 : ∀ {l1 : Int} {l2 : Int} {l3 : Int} {l4 : Int} (cl1 : wr l1 = l1) (cl2 : wr l2 = l2) (cl3 : wr l3 = l3) (cl4 : wr l4 = l4) {σ : st_S}, L_X11_splits_43 Q k7 n l1 l2 l3 l4 σ → J X E 6 n0 0 0 (MQ (xB X) (qV E (n0 + 0) Q) (xA X) (xS X) 0 0 (eF E)) σ 43 [(0, vR E 0), (1, vI l1), (2, vI l2), (3, vI l3), (4, vI l4)] [] := ih
    replace h : (l1 ≤ l4 → B_X11_splits_68 Q k7 l1 l2 l3 l4 σ) ∧ (¬ l1 ≤ l4 → ix l4 400 ∧ wp_X11_isSmall (gI σ 7 (Int.toNat l4)) σ (fun r130 s131 => (r130 = 0 → B_X11_splits_68 Q k7 l1 l2 l3 l4 s131) ∧ (¬ r130 = 0 → ∀ x132 : Int, x132 = wr (l4 + 1) → (L_X11_splits_43 Q k7 n) l1 l2 l3 x132 s131))) := h
    refine j_iload hc 4 dX11_splits_43 rfl ?_
    refine j_iload_n hc 1 dX11_splits_45 rfl rfl ?_
    refine j_ic_ge hc cl4 cl1 (tgt := 68) dX11_splits_46 (by decide) (fun q134 => ?_) (fun q134 => ?_)
    · replace h := h.1 q134
      refine j_sub (lv' := [(0, vR E 0), (1, vI l1), (2, vI l2), (3, vI l3), (4, vI l4)]) [0, 1, 2, 3, 4] rfl ?_
      exact jb_X11_splits_68 hc hm hr hh hk7 cl1 cl2 cl3 cl4 h
    · replace h := h.2 q134
      refine j_aload_nR hc 0 dX11_splits_49 rfl rfl ?_
      refine j_getR (c' := 7) hc fl_RX11_41 rfl rfl (fun hv => (sv_k hv hm rfl)) dX11_splits_50 ?_
      refine j_iload hc 4 dX11_splits_53 rfl ?_
      obtain ⟨b128, h⟩ := h
      refine j_bald (jn := (Int.toNat l4)) hc (fun hv => sv_kl hv hm rfl) cl4 b128 rfl dX11_splits_55 (fun cn129 => ?_)
      refine j_sI hc ml_RX11_150 mv_X11_isSmall (As := [vI (gI σ 7 (Int.toNat l4))]) (c_X11_isSmall (cx_E hc) hm cn129 h) rfl (by omega) (by decide) ⟨Nat.zero_le _, Nat.zero_le _⟩ (Nat.le_of_ble_eq_true rfl) rfl dX11_splits_56 (fun r130 s131 cr130 h => ?_)
      refine j_if_eq hc cr130 (tgt := 68) dX11_splits_59 (by decide) (fun q133 => ?_) (fun q133 => ?_)
      · replace h := h.1 q133
        refine j_sub (lv' := [(0, vR E 0), (1, vI l1), (2, vI l2), (3, vI l3), (4, vI l4)]) [0, 1, 2, 3, 4] rfl ?_
        exact jb_X11_splits_68 hc hm hr hh hk7 cl1 cl2 cl3 cl4 h
      · replace h := h.2 q133
        obtain ⟨x132, ex132⟩ : ∃ y : Int, y = wr (l4 + 1) := ⟨_, rfl⟩
        have cx132 : wr x132 = x132 := by rw [ex132]; exact wr_wr _
        replace h := h x132 ex132
        refine j_iinc (lv' := [(4, vI x132), (0, vR E 0), (1, vI l1), (2, vI l2), (3, vI l3)]) hc 4 dX11_splits_62 rfl (by decide) ex132 rfl ?_
        refine j_goto (tgt := 43) hc dX11_splits_65 (by decide) ?_
        refine j_sub (lv' := [(0, vR E 0), (1, vI l1), (2, vI l2), (3, vI l3), (4, vI x132)]) [1, 2, 3, 4, 0] rfl ?_
        exact hk43 cl1 cl2 cl3 cx132 h
set_option maxRecDepth 20000 in
theorem jl_X11_splits_7 {X : jj_X} {E : ev_E} {n0 hN : Nat} (hc : Cx X E cX11_splits 6 n0 hN RX11) (hm : eM E = 2) (hr : (xT X).sig.returnType = none) (hh : 2 ≤ hN) {Q : st_S → Prop} : ∀ (n : Nat) {l1 : Int} {l2 : Int} (cl1 : wr l1 = l1) (cl2 : wr l2 = l2) {σ : st_S}, L_X11_splits_7 Q n l1 l2 σ → J X E 6 n0 0 0 (MQ (xB X) (qV E (n0 + 0) Q) (xA X) (xS X) 0 0 (eF E)) σ 7 [(0, vR E 0), (1, vI l1), (2, vI l2)] [] := by
  have hh1 : 1 ≤ hN := by omega
  intro n
  induction n with
  | zero => intro l1 l2 cl1 cl2 σ h; exact h.elim
  | succ n ih =>
    intro l1 l2 cl1 cl2 σ h
    have hk7 : ∀ {l1 : Int} {l2 : Int} (cl1 : wr l1 = l1) (cl2 : wr l2 = l2) {σ : st_S}, L_X11_splits_7 Q n l1 l2 σ → J X E 6 n0 0 0 (MQ (xB X) (qV E (n0 + 0) Q) (xA X) (xS X) 0 0 (eF E)) σ 7 [(0, vR E 0), (1, vI l1), (2, vI l2)] [] := ih
    replace h : (l1 ≤ l2 → ix (gI σ 0 18) 401 ∧ ∀ s137 : st_S, s137 = sI σ 11 (Int.toNat (gI σ 0 18)) l1 → ix (gI s137 0 18) 401 ∧ ∀ s140 : st_S, s140 = sI s137 9 (Int.toNat (gI s137 0 18)) 0 → ix (gI s140 0 18) 401 ∧ ∀ s143 : st_S, s143 = sI s140 10 (Int.toNat (gI s140 0 18)) 0 → Q s143) ∧ (¬ l1 ≤ l2 → ix l2 400 ∧ ∀ x146 : Int, x146 = gI σ 7 (Int.toNat l2) → (¬ x146 = 32 → ∀ x147 : Int, x147 = wr (l2 + 1) → wp_X11_isSmall x146 σ (fun r148 s149 => (r148 = 0 → B_X11_splits_68 Q (L_X11_splits_7 Q n) l1 l2 x146 x147 s149) ∧ (¬ r148 = 0 → ∃ m43 : Nat, L_X11_splits_43 Q (L_X11_splits_7 Q n) m43 l1 l2 x146 x147 s149))) ∧ (x146 = 32 → ∀ x151 : Int, x151 = wr (l2 + 1) → (L_X11_splits_7 Q n) l1 x151 σ)) := h
    refine j_iload_n hc 2 dX11_splits_7 rfl rfl ?_
    refine j_iload_n hc 1 dX11_splits_8 rfl rfl ?_
    refine j_ic_ge hc cl2 cl1 (tgt := 263) dX11_splits_9 (by decide) (fun q153 => ?_) (fun q153 => ?_)
    · replace h := h.1 q153
      refine j_aload_nR hc 0 dX11_splits_263 rfl rfl ?_
      refine j_getR (c' := 11) hc fl_RX11_56 rfl rfl (fun hv => (sv_k hv hm rfl)) dX11_splits_264 ?_
      refine j_aload_nR hc 0 dX11_splits_267 rfl rfl ?_
      refine j_getI hc fl_RX11_147 (Or.inl rfl) (fun hv => Or.inl (sv_k hv hm rfl)) dX11_splits_268 (fun cn135 => ?_)
      refine j_iload_n hc 1 dX11_splits_271 rfl rfl ?_
      obtain ⟨b136, h⟩ := h
      refine j_iast (jn := (Int.toNat (gI σ 0 18))) hc (fun hv => sv_kl hv hm rfl) cn135 b136 rfl cl1 dX11_splits_272 (fun s137 es137 => ?_)
      replace h := h s137 es137
      refine j_aload_nR hc 0 dX11_splits_273 rfl rfl ?_
      refine j_getR (c' := 9) hc fl_RX11_50 rfl rfl (fun hv => (sv_k hv hm rfl)) dX11_splits_274 ?_
      refine j_aload_nR hc 0 dX11_splits_277 rfl rfl ?_
      refine j_getI hc fl_RX11_147 (Or.inl rfl) (fun hv => Or.inl (sv_k hv hm rfl)) dX11_splits_278 (fun cn138 => ?_)
      refine j_iconst hc dX11_splits_281 ?_
      obtain ⟨b139, h⟩ := h
      refine j_iast (jn := (Int.toNat (gI s137 0 18))) hc (fun hv => sv_kl hv hm rfl) cn138 b139 rfl (wlit 0 (by decide)) dX11_splits_282 (fun s140 es140 => ?_)
      replace h := h s140 es140
      refine j_aload_nR hc 0 dX11_splits_283 rfl rfl ?_
      refine j_getR (c' := 10) hc fl_RX11_53 rfl rfl (fun hv => (sv_k hv hm rfl)) dX11_splits_284 ?_
      refine j_aload_nR hc 0 dX11_splits_287 rfl rfl ?_
      refine j_getI hc fl_RX11_147 (Or.inl rfl) (fun hv => Or.inl (sv_k hv hm rfl)) dX11_splits_288 (fun cn141 => ?_)
      refine j_iconst hc dX11_splits_291 ?_
      obtain ⟨b142, h⟩ := h
      refine j_iast (jn := (Int.toNat (gI s140 0 18))) hc (fun hv => sv_kl hv hm rfl) cn141 b142 rfl (wlit 0 (by decide)) dX11_splits_292 (fun s143 es143 => ?_)
      replace h := h s143 es143
      exact j_vret hc hr h dX11_splits_293
    · replace h := h.2 q153
      refine j_aload_nR hc 0 dX11_splits_12 rfl rfl ?_
      refine j_getR (c' := 7) hc fl_RX11_41 rfl rfl (fun hv => (sv_k hv hm rfl)) dX11_splits_13 ?_
      refine j_iload_n hc 2 dX11_splits_16 rfl rfl ?_
      obtain ⟨b144, h⟩ := h
      refine j_bald (jn := (Int.toNat l2)) hc (fun hv => sv_kl hv hm rfl) cl2 b144 rfl dX11_splits_17 (fun cn145 => ?_)
      refine j_c cn145 (fun x146 ex146 cx146 => ?_)
      replace h := h x146 ex146
      refine j_istore_n (lv' := [(3, vI x146), (0, vR E 0), (1, vI l1), (2, vI l2)]) hc dX11_splits_18 rfl (by decide) rfl ?_
      refine j_iload_n hc 0 dX11_splits_19 rfl rfl ?_
      refine j_bipush hc dX11_splits_20 (by decide) ?_
      refine j_ic_ne hc cx146 (wlit 32 (by decide)) (tgt := 31) dX11_splits_22 (by decide) (fun q152 => ?_) (fun q152 => ?_)
      · replace h := h.1 q152
        refine j_iload_n hc 3 dX11_splits_31 rfl rfl ?_
        refine j_iconst hc dX11_splits_32 ?_
        refine j_iadd hc dX11_splits_33 ?_
        refine j_w (fun x147 ex147 cx147 => ?_)
        replace h := h x147 ex147
        refine j_istore (lv' := [(4, vI x147), (3, vI x146), (0, vR E 0), (1, vI l1), (2, vI l2)]) hc dX11_splits_34 (by decide) rfl ?_
        refine j_iload_n hc 1 dX11_splits_36 rfl rfl ?_
        refine j_sI hc ml_RX11_150 mv_X11_isSmall (As := [vI x146]) (c_X11_isSmall (cx_E hc) hm cx146 h) rfl (by omega) (by decide) ⟨Nat.zero_le _, Nat.zero_le _⟩ (Nat.le_of_ble_eq_true rfl) rfl dX11_splits_37 (fun r148 s149 cr148 h => ?_)
        refine j_if_eq hc cr148 (tgt := 68) dX11_splits_40 (by decide) (fun q150 => ?_) (fun q150 => ?_)
        · replace h := h.1 q150
          refine j_sub (lv' := [(0, vR E 0), (1, vI l1), (2, vI l2), (3, vI x146), (4, vI x147)]) [2, 3, 4, 1, 0] rfl ?_
          exact jb_X11_splits_68 hc hm hr hh hk7 cl1 cl2 cx146 cx147 h
        · replace h := h.2 q150
          obtain ⟨n43, h⟩ := h
          refine j_sub (lv' := [(0, vR E 0), (1, vI l1), (2, vI l2), (3, vI x146), (4, vI x147)]) [2, 3, 4, 1, 0] rfl ?_
          exact jl_X11_splits_43 hc hm hr hh hk7 n43 cl1 cl2 cx146 cx147 h
      · replace h := h.2 q152
        obtain ⟨x151, ex151⟩ : ∃ y : Int, y = wr (l2 + 1) := ⟨_, rfl⟩
        have cx151 : wr x151 = x151 := by rw [ex151]; exact wr_wr _
        replace h := h x151 ex151
        refine j_iinc (lv' := [(2, vI x151), (3, vI x146), (0, vR E 0), (1, vI l1)]) hc 3 dX11_splits_25 rfl (by decide) ex151 rfl ?_
        refine j_goto (tgt := 7) hc dX11_splits_28 (by decide) ?_
        refine j_sub (lv' := [(0, vR E 0), (1, vI l1), (2, vI x151)]) [2, 3, 0] rfl ?_
        exact hk7 cl1 cx151 h
set_option maxRecDepth 20000 in
theorem c_X11_splits {l : Launch} {E : ev_E} (hE : Eok E) (hm : eM E = 2) {a1 : Int} (ca1 : wr a1 = a1) {σ : st_S} {Q : st_S → Prop} (h : wp_X11_splits a1 σ Q) : cM l yX11_splits cX11_splits 6 none E 2 0 0 [vR E 0, vI a1] σ (qV E (gN σ + 0) Q) := by
  refine cM_of (lv := [(0, vR E 0), (1, vI a1)]) (by decide) hE (Nat.le_of_ble_eq_true rfl) (rfl) ?_
  intro X hX hc _ _ hr _ _
  subst hX
  have hh : 2 ≤ 2 := Nat.le_refl _
  have hh1 : 1 ≤ 2 := by omega
  replace h : ∀ s154 : st_S, s154 = sI σ 0 18 0 → ∃ m7 : Nat, L_X11_splits_7 Q m7 a1 0 s154 := h
  refine j_aload_nR hc 0 dX11_splits_0 rfl rfl ?_
  refine j_iconst hc dX11_splits_1 ?_
  refine j_putI hc fl_RX11_147 rfl rfl (fun hv => Or.inl (sv_k hv hm rfl)) (wlit 0 (by decide)) dX11_splits_2 (fun s154 es154 => ?_)
  replace h := h s154 es154
  refine j_iconst hc dX11_splits_5 ?_
  refine j_istore_n (lv' := [(2, vI 0), (0, vR E 0), (1, vI a1)]) hc dX11_splits_6 rfl (by decide) rfl ?_
  obtain ⟨n7, h⟩ := h
  refine j_sub (lv' := [(0, vR E 0), (1, vI a1), (2, vI 0)]) [1, 2, 0] rfl ?_
  exact jl_X11_splits_7 hc hm hr hh n7 ca1 (wlit 0 (by decide)) h
-- LitStrangersModel.fine()Z
theorem dX11_fine_0 : decode cX11_fine 0 = .ok (.aload_n 0, 1) := by decide +kernel
theorem dX11_fine_1 : decode cX11_fine 1 = .ok (.getfield 161, 3) := by decide +kernel
theorem dX11_fine_4 : decode cX11_fine 4 = .ok (.iconst (-1), 1) := by decide +kernel
theorem dX11_fine_5 : decode cX11_fine 5 = .ok (.if_icmp .ne 7, 3) := by decide +kernel
theorem dX11_fine_8 : decode cX11_fine 8 = .ok (.iconst 1, 1) := by decide +kernel
theorem dX11_fine_9 : decode cX11_fine 9 = .ok (.goto 4, 3) := by decide +kernel
theorem dX11_fine_12 : decode cX11_fine 12 = .ok (.iconst 0, 1) := by decide +kernel
theorem dX11_fine_13 : decode cX11_fine 13 = .ok (.ireturn, 1) := by decide +kernel
def B_X11_fine_13 (Q : Int → st_S → Prop)   (v0 : Int) (σ : st_S) : Prop := (v0 = 0 ∨ v0 = 1) ∧ Q v0 σ
def wp_X11_fine  (σ : st_S) (Q : Int → st_S → Prop) : Prop := (¬ gI σ 0 21 = (-1) → B_X11_fine_13 Q 0 σ) ∧ (gI σ 0 21 = (-1) → B_X11_fine_13 Q 1 σ)
set_option maxRecDepth 20000 in
theorem jb_X11_fine_13 {X : jj_X} {E : ev_E} {n0 hN : Nat} (hc : Cx X E cX11_fine 1 n0 hN RX11) (hm : eM E = 2) (hr : (xT X).sig.returnType = (some .boolean)) (hh : 1 ≤ hN) {Q : Int → st_S → Prop} {v0 : Int} (cv0 : wr v0 = v0) {σ : st_S} (h : B_X11_fine_13 Q v0 σ) : J X E 1 n0 0 0 (MQ (xB X) (qI E (n0 + 0) Q) (xA X) (xS X) 0 0 (eF E)) σ 13 [] [vI v0] := by
  have hh1 : 1 ≤ hN := by omega
  replace h : (v0 = 0 ∨ v0 = 1) ∧ Q v0 σ := h
  exact j_zret hc hr (nar_bool h.1) (by rcases h.1 with e | e <;> (rw [e]; decide)) h.2 dX11_fine_13
set_option maxRecDepth 20000 in
theorem c_X11_fine {l : Launch} {E : ev_E} (hE : Eok E) (hm : eM E = 2) {σ : st_S} {Q : Int → st_S → Prop} (h : wp_X11_fine σ Q) : cM l yX11_fine cX11_fine 1 (some .boolean) E 1 0 0 [vR E 0] σ (qI E (gN σ + 0) Q) := by
  refine cM_of (lv := [(0, vR E 0)]) (by decide) hE (Nat.le_of_ble_eq_true rfl) (rfl) ?_
  intro X hX hc _ _ hr _ _
  subst hX
  have hh : 1 ≤ 1 := Nat.le_refl _
  have hh1 : 1 ≤ 1 := by omega
  replace h : (¬ gI σ 0 21 = (-1) → B_X11_fine_13 Q 0 σ) ∧ (gI σ 0 21 = (-1) → B_X11_fine_13 Q 1 σ) := h
  refine j_aload_nR hc 0 dX11_fine_0 rfl rfl ?_
  refine j_getI hc fl_RX11_161 (Or.inl rfl) (fun hv => Or.inl (sv_k hv hm rfl)) dX11_fine_1 (fun cn2 => ?_)
  refine j_iconst hc dX11_fine_4 ?_
  refine j_ic_ne hc cn2 (wlit (-1) (by decide)) (tgt := 12) dX11_fine_5 (by decide) (fun q3 => ?_) (fun q3 => ?_)
  · replace h := h.1 q3
    refine j_iconst hc dX11_fine_12 ?_
    refine j_sub (lv' := []) [] rfl ?_
    exact jb_X11_fine_13 hc hm hr hh (wlit 0 (by decide)) h
  · replace h := h.2 q3
    refine j_iconst hc dX11_fine_8 ?_
    refine j_goto (tgt := 13) hc dX11_fine_9 (by decide) ?_
    refine j_sub (lv' := []) [] rfl ?_
    exact jb_X11_fine_13 hc hm hr hh (wlit 1 (by decide)) h
-- LitStrangersModel.faults()V
theorem dX11_faults_0 : decode cX11_faults 0 = .ok (.aload_n 0, 1) := by decide +kernel
theorem dX11_faults_1 : decode cX11_faults 1 = .ok (.invokevirtual 164, 3) := by decide +kernel
theorem dX11_faults_4 : decode cX11_faults 4 = .ok (.ifCond .eq 16, 3) := by decide +kernel
theorem dX11_faults_7 : decode cX11_faults 7 = .ok (.aload_n 0, 1) := by decide +kernel
theorem dX11_faults_8 : decode cX11_faults 8 = .ok (.aload_n 0, 1) := by decide +kernel
theorem dX11_faults_9 : decode cX11_faults 9 = .ok (.getfield 56, 3) := by decide +kernel
theorem dX11_faults_12 : decode cX11_faults 12 = .ok (.aload_n 0, 1) := by decide +kernel
theorem dX11_faults_13 : decode cX11_faults 13 = .ok (.getfield 168, 3) := by decide +kernel
theorem dX11_faults_16 : decode cX11_faults 16 = .ok (.iaload, 1) := by decide +kernel
theorem dX11_faults_17 : decode cX11_faults 17 = .ok (.putfield 161, 3) := by decide +kernel
theorem dX11_faults_20 : decode cX11_faults 20 = .ok (.return_, 1) := by decide +kernel
def B_X11_faults_20 (Q : st_S → Prop)    (σ : st_S) : Prop := Q σ
def wp_X11_faults  (σ : st_S) (Q : st_S → Prop) : Prop := wp_X11_fine σ (fun r8 s9 => (r8 = 0 → B_X11_faults_20 Q s9) ∧ (¬ r8 = 0 → ix (gI s9 0 19) 401 ∧ ∀ s13 : st_S, s13 = sI s9 0 21 (gI s9 11 (Int.toNat (gI s9 0 19))) → B_X11_faults_20 Q s13))
set_option maxRecDepth 20000 in
theorem jb_X11_faults_20 {X : jj_X} {E : ev_E} {n0 hN : Nat} (hc : Cx X E cX11_faults 1 n0 hN RX11) (hm : eM E = 2) (hr : (xT X).sig.returnType = none) (hh : 2 ≤ hN) {Q : st_S → Prop} {σ : st_S} (h : B_X11_faults_20 Q σ) : J X E 1 n0 0 0 (MQ (xB X) (qV E (n0 + 0) Q) (xA X) (xS X) 0 0 (eF E)) σ 20 [] [] := by
  have hh1 : 1 ≤ hN := by omega
  replace h : Q σ := h
  exact j_vret hc hr h dX11_faults_20
set_option maxRecDepth 20000 in
theorem c_X11_faults {l : Launch} {E : ev_E} (hE : Eok E) (hm : eM E = 2) {σ : st_S} {Q : st_S → Prop} (h : wp_X11_faults σ Q) : cM l yX11_faults cX11_faults 1 none E 2 0 0 [vR E 0] σ (qV E (gN σ + 0) Q) := by
  refine cM_of (lv := [(0, vR E 0)]) (by decide) hE (Nat.le_of_ble_eq_true rfl) (rfl) ?_
  intro X hX hc _ _ hr _ _
  subst hX
  have hh : 2 ≤ 2 := Nat.le_refl _
  have hh1 : 1 ≤ 2 := by omega
  replace h : wp_X11_fine σ (fun r8 s9 => (r8 = 0 → B_X11_faults_20 Q s9) ∧ (¬ r8 = 0 → ix (gI s9 0 19) 401 ∧ ∀ s13 : st_S, s13 = sI s9 0 21 (gI s9 11 (Int.toNat (gI s9 0 19))) → B_X11_faults_20 Q s13)) := h
  refine j_aload_nR hc 0 dX11_faults_0 rfl rfl ?_
  refine j_vI hc (k := 11) (by decide) (fun hv => Or.inl (sv_k hv hm rfl)) ml_RX11_164 mv_X11_fine (As := []) (c_X11_fine (cx_E hc) hm  h) rfl (by omega) (by decide) ⟨Nat.zero_le _, Nat.zero_le _⟩ (Nat.le_of_ble_eq_true rfl) rfl dX11_faults_1 (fun r8 s9 cr8 h => ?_)
  refine j_if_eq hc cr8 (tgt := 20) dX11_faults_4 (by decide) (fun q14 => ?_) (fun q14 => ?_)
  · replace h := h.1 q14
    refine j_sub (lv' := []) [] rfl ?_
    exact jb_X11_faults_20 hc hm hr hh h
  · replace h := h.2 q14
    refine j_aload_nR hc 0 dX11_faults_7 rfl rfl ?_
    refine j_aload_nR hc 0 dX11_faults_8 rfl rfl ?_
    refine j_getR (c' := 11) hc fl_RX11_56 rfl rfl (fun hv => (sv_k hv hm rfl)) dX11_faults_9 ?_
    refine j_aload_nR hc 0 dX11_faults_12 rfl rfl ?_
    refine j_getI hc fl_RX11_168 (Or.inl rfl) (fun hv => Or.inl (sv_k hv hm rfl)) dX11_faults_13 (fun cn10 => ?_)
    obtain ⟨b11, h⟩ := h
    refine j_iald (jn := (Int.toNat (gI s9 0 19))) hc (fun hv => sv_kl hv hm rfl) cn10 b11 rfl dX11_faults_16 (fun cn12 => ?_)
    refine j_putI hc fl_RX11_161 rfl rfl (fun hv => Or.inl (sv_k hv hm rfl)) cn12 dX11_faults_17 (fun s13 es13 => ?_)
    replace h := h s13 es13
    refine j_sub (lv' := []) [] rfl ?_
    exact jb_X11_faults_20 hc hm hr hh h
-- LitStrangersModel.takes0(I)Z
theorem dX11_takes0_0 : decode cX11_takes0 0 = .ok (.aload_n 0, 1) := by decide +kernel
theorem dX11_takes0_1 : decode cX11_takes0 1 = .ok (.invokevirtual 164, 3) := by decide +kernel
theorem dX11_takes0_4 : decode cX11_takes0 4 = .ok (.ifCond .eq 20, 3) := by decide +kernel
theorem dX11_takes0_7 : decode cX11_takes0 7 = .ok (.aload_n 0, 1) := by decide +kernel
theorem dX11_takes0_8 : decode cX11_takes0 8 = .ok (.getfield 50, 3) := by decide +kernel
theorem dX11_takes0_11 : decode cX11_takes0 11 = .ok (.aload_n 0, 1) := by decide +kernel
theorem dX11_takes0_12 : decode cX11_takes0 12 = .ok (.getfield 168, 3) := by decide +kernel
theorem dX11_takes0_15 : decode cX11_takes0 15 = .ok (.iaload, 1) := by decide +kernel
theorem dX11_takes0_16 : decode cX11_takes0 16 = .ok (.iload_n 1, 1) := by decide +kernel
theorem dX11_takes0_17 : decode cX11_takes0 17 = .ok (.if_icmp .ne 7, 3) := by decide +kernel
theorem dX11_takes0_20 : decode cX11_takes0 20 = .ok (.iconst 1, 1) := by decide +kernel
theorem dX11_takes0_21 : decode cX11_takes0 21 = .ok (.goto 4, 3) := by decide +kernel
theorem dX11_takes0_24 : decode cX11_takes0 24 = .ok (.iconst 0, 1) := by decide +kernel
theorem dX11_takes0_25 : decode cX11_takes0 25 = .ok (.istore_n 2, 1) := by decide +kernel
theorem dX11_takes0_26 : decode cX11_takes0 26 = .ok (.iload_n 2, 1) := by decide +kernel
theorem dX11_takes0_27 : decode cX11_takes0 27 = .ok (.ifCond .eq 13, 3) := by decide +kernel
theorem dX11_takes0_30 : decode cX11_takes0 30 = .ok (.aload_n 0, 1) := by decide +kernel
theorem dX11_takes0_31 : decode cX11_takes0 31 = .ok (.dup, 1) := by decide +kernel
theorem dX11_takes0_32 : decode cX11_takes0 32 = .ok (.getfield 168, 3) := by decide +kernel
theorem dX11_takes0_35 : decode cX11_takes0 35 = .ok (.iconst 1, 1) := by decide +kernel
theorem dX11_takes0_36 : decode cX11_takes0 36 = .ok (.iadd, 1) := by decide +kernel
theorem dX11_takes0_37 : decode cX11_takes0 37 = .ok (.putfield 168, 3) := by decide +kernel
theorem dX11_takes0_40 : decode cX11_takes0 40 = .ok (.iload_n 2, 1) := by decide +kernel
theorem dX11_takes0_41 : decode cX11_takes0 41 = .ok (.ireturn, 1) := by decide +kernel
def B_X11_takes0_40 (Q : Int → st_S → Prop)   (l2 : Int) (σ : st_S) : Prop := (l2 = 0 ∨ l2 = 1) ∧ Q l2 σ
def B_X11_takes0_25 (Q : Int → st_S → Prop)   (v0 : Int) (σ : st_S) : Prop := (v0 = 0 → B_X11_takes0_40 Q v0 σ) ∧ (¬ v0 = 0 → ∀ x11 : Int, x11 = wr (gI σ 0 19 + 1) → ∀ s12 : st_S, s12 = sI σ 0 19 x11 → B_X11_takes0_40 Q v0 s12)
def B_X11_takes0_24 (Q : Int → st_S → Prop)    (σ : st_S) : Prop := B_X11_takes0_25 Q 0 σ
def wp_X11_takes0 (a1 : Int) (σ : st_S) (Q : Int → st_S → Prop) : Prop := wp_X11_fine σ (fun r14 s15 => (r14 = 0 → B_X11_takes0_24 Q s15) ∧ (¬ r14 = 0 → ix (gI s15 0 19) 401 ∧ (¬ gI s15 9 (Int.toNat (gI s15 0 19)) = a1 → B_X11_takes0_24 Q s15) ∧ (gI s15 9 (Int.toNat (gI s15 0 19)) = a1 → B_X11_takes0_25 Q 1 s15)))
set_option maxRecDepth 20000 in
theorem jb_X11_takes0_40 {X : jj_X} {E : ev_E} {n0 hN : Nat} (hc : Cx X E cX11_takes0 3 n0 hN RX11) (hm : eM E = 2) (hr : (xT X).sig.returnType = (some .boolean)) (hh : 2 ≤ hN) {Q : Int → st_S → Prop} {l2 : Int} (cl2 : wr l2 = l2) {σ : st_S} (h : B_X11_takes0_40 Q l2 σ) : J X E 3 n0 0 0 (MQ (xB X) (qI E (n0 + 0) Q) (xA X) (xS X) 0 0 (eF E)) σ 40 [(2, vI l2)] [] := by
  have hh1 : 1 ≤ hN := by omega
  replace h : (l2 = 0 ∨ l2 = 1) ∧ Q l2 σ := h
  refine j_iload_n hc 0 dX11_takes0_40 rfl rfl ?_
  exact j_zret hc hr (nar_bool h.1) (by rcases h.1 with e | e <;> (rw [e]; decide)) h.2 dX11_takes0_41
set_option maxRecDepth 20000 in
theorem jb_X11_takes0_25 {X : jj_X} {E : ev_E} {n0 hN : Nat} (hc : Cx X E cX11_takes0 3 n0 hN RX11) (hm : eM E = 2) (hr : (xT X).sig.returnType = (some .boolean)) (hh : 2 ≤ hN) {Q : Int → st_S → Prop} {v0 : Int} (cv0 : wr v0 = v0) {σ : st_S} (h : B_X11_takes0_25 Q v0 σ) : J X E 3 n0 0 0 (MQ (xB X) (qI E (n0 + 0) Q) (xA X) (xS X) 0 0 (eF E)) σ 25 [(0, vR E 0)] [vI v0] := by
  have hh1 : 1 ≤ hN := by omega
  replace h : (v0 = 0 → B_X11_takes0_40 Q v0 σ) ∧ (¬ v0 = 0 → ∀ x11 : Int, x11 = wr (gI σ 0 19 + 1) → ∀ s12 : st_S, s12 = sI σ 0 19 x11 → B_X11_takes0_40 Q v0 s12) := h
  refine j_istore_n (lv' := [(2, vI v0), (0, vR E 0)]) hc dX11_takes0_25 rfl (by decide) rfl ?_
  refine j_iload_n hc 0 dX11_takes0_26 rfl rfl ?_
  refine j_if_eq hc cv0 (tgt := 40) dX11_takes0_27 (by decide) (fun q13 => ?_) (fun q13 => ?_)
  · replace h := h.1 q13
    refine j_sub (lv' := [(2, vI v0)]) [0] rfl ?_
    exact jb_X11_takes0_40 hc hm hr hh cv0 h
  · replace h := h.2 q13
    refine j_aload_nR hc 1 dX11_takes0_30 rfl rfl ?_
    refine j_dup hc dX11_takes0_31 rfl ?_
    refine j_getI hc fl_RX11_168 (Or.inl rfl) (fun hv => Or.inl (sv_k hv hm rfl)) dX11_takes0_32 (fun cn10 => ?_)
    refine j_iconst hc dX11_takes0_35 ?_
    refine j_iadd hc dX11_takes0_36 ?_
    refine j_w (fun x11 ex11 cx11 => ?_)
    replace h := h x11 ex11
    refine j_putI hc fl_RX11_168 rfl rfl (fun hv => Or.inl (sv_k hv hm rfl)) cx11 dX11_takes0_37 (fun s12 es12 => ?_)
    replace h := h s12 es12
    refine j_sub (lv' := [(2, vI v0)]) [0] rfl ?_
    exact jb_X11_takes0_40 hc hm hr hh cv0 h
set_option maxRecDepth 20000 in
theorem jb_X11_takes0_24 {X : jj_X} {E : ev_E} {n0 hN : Nat} (hc : Cx X E cX11_takes0 3 n0 hN RX11) (hm : eM E = 2) (hr : (xT X).sig.returnType = (some .boolean)) (hh : 2 ≤ hN) {Q : Int → st_S → Prop} {σ : st_S} (h : B_X11_takes0_24 Q σ) : J X E 3 n0 0 0 (MQ (xB X) (qI E (n0 + 0) Q) (xA X) (xS X) 0 0 (eF E)) σ 24 [(0, vR E 0)] [] := by
  have hh1 : 1 ≤ hN := by omega
  replace h : B_X11_takes0_25 Q 0 σ := h
  refine j_iconst hc dX11_takes0_24 ?_
  refine j_sub (lv' := [(0, vR E 0)]) [0] rfl ?_
  exact jb_X11_takes0_25 hc hm hr hh (wlit 0 (by decide)) h
set_option maxRecDepth 20000 in
theorem c_X11_takes0 {l : Launch} {E : ev_E} (hE : Eok E) (hm : eM E = 2) {a1 : Int} (ca1 : wr a1 = a1) {σ : st_S} {Q : Int → st_S → Prop} (h : wp_X11_takes0 a1 σ Q) : cM l yX11_takes0 cX11_takes0 3 (some .boolean) E 2 0 0 [vR E 0, vI a1] σ (qI E (gN σ + 0) Q) := by
  refine cM_of (lv := [(0, vR E 0), (1, vI a1)]) (by decide) hE (Nat.le_of_ble_eq_true rfl) (rfl) ?_
  intro X hX hc _ _ hr _ _
  subst hX
  have hh : 2 ≤ 2 := Nat.le_refl _
  have hh1 : 1 ≤ 2 := by omega
  replace h : wp_X11_fine σ (fun r14 s15 => (r14 = 0 → B_X11_takes0_24 Q s15) ∧ (¬ r14 = 0 → ix (gI s15 0 19) 401 ∧ (¬ gI s15 9 (Int.toNat (gI s15 0 19)) = a1 → B_X11_takes0_24 Q s15) ∧ (gI s15 9 (Int.toNat (gI s15 0 19)) = a1 → B_X11_takes0_25 Q 1 s15))) := h
  refine j_aload_nR hc 0 dX11_takes0_0 rfl rfl ?_
  refine j_vI hc (k := 11) (by decide) (fun hv => Or.inl (sv_k hv hm rfl)) ml_RX11_164 mv_X11_fine (As := []) (c_X11_fine (cx_E hc) hm  h) rfl (by omega) (by decide) ⟨Nat.zero_le _, Nat.zero_le _⟩ (Nat.le_of_ble_eq_true rfl) rfl dX11_takes0_1 (fun r14 s15 cr14 h => ?_)
  refine j_if_eq hc cr14 (tgt := 24) dX11_takes0_4 (by decide) (fun q20 => ?_) (fun q20 => ?_)
  · replace h := h.1 q20
    refine j_sub (lv' := [(0, vR E 0)]) [0] rfl ?_
    exact jb_X11_takes0_24 hc hm hr hh h
  · replace h := h.2 q20
    refine j_aload_nR hc 0 dX11_takes0_7 rfl rfl ?_
    refine j_getR (c' := 9) hc fl_RX11_50 rfl rfl (fun hv => (sv_k hv hm rfl)) dX11_takes0_8 ?_
    refine j_aload_nR hc 0 dX11_takes0_11 rfl rfl ?_
    refine j_getI hc fl_RX11_168 (Or.inl rfl) (fun hv => Or.inl (sv_k hv hm rfl)) dX11_takes0_12 (fun cn16 => ?_)
    obtain ⟨b17, h⟩ := h
    refine j_iald (jn := (Int.toNat (gI s15 0 19))) hc (fun hv => sv_kl hv hm rfl) cn16 b17 rfl dX11_takes0_15 (fun cn18 => ?_)
    refine j_iload_n hc 1 dX11_takes0_16 rfl rfl ?_
    refine j_ic_ne hc cn18 ca1 (tgt := 24) dX11_takes0_17 (by decide) (fun q19 => ?_) (fun q19 => ?_)
    · replace h := h.1 q19
      refine j_sub (lv' := [(0, vR E 0)]) [0] rfl ?_
      exact jb_X11_takes0_24 hc hm hr hh h
    · replace h := h.2 q19
      refine j_iconst hc dX11_takes0_20 ?_
      refine j_goto (tgt := 25) hc dX11_takes0_21 (by decide) ?_
      refine j_sub (lv' := [(0, vR E 0)]) [0] rfl ?_
      exact jb_X11_takes0_25 hc hm hr hh (wlit 1 (by decide)) h
-- LitStrangersModel.must(I)V
theorem dX11_must_0 : decode cX11_must 0 = .ok (.aload_n 0, 1) := by decide +kernel
theorem dX11_must_1 : decode cX11_must 1 = .ok (.iload_n 1, 1) := by decide +kernel
theorem dX11_must_2 : decode cX11_must 2 = .ok (.invokevirtual 171, 3) := by decide +kernel
theorem dX11_must_5 : decode cX11_must 5 = .ok (.ifCond .ne 7, 3) := by decide +kernel
theorem dX11_must_8 : decode cX11_must 8 = .ok (.aload_n 0, 1) := by decide +kernel
theorem dX11_must_9 : decode cX11_must 9 = .ok (.invokevirtual 174, 3) := by decide +kernel
theorem dX11_must_12 : decode cX11_must 12 = .ok (.return_, 1) := by decide +kernel
def B_X11_must_12 (Q : st_S → Prop)    (σ : st_S) : Prop := Q σ
def wp_X11_must (a1 : Int) (σ : st_S) (Q : st_S → Prop) : Prop := wp_X11_takes0 a1 σ (fun r5 s6 => (¬ r5 = 0 → B_X11_must_12 Q s6) ∧ (r5 = 0 → wp_X11_faults s6 (fun s8 => B_X11_must_12 Q s8)))
set_option maxRecDepth 20000 in
theorem jb_X11_must_12 {X : jj_X} {E : ev_E} {n0 hN : Nat} (hc : Cx X E cX11_must 2 n0 hN RX11) (hm : eM E = 2) (hr : (xT X).sig.returnType = none) (hh : 3 ≤ hN) {Q : st_S → Prop} {σ : st_S} (h : B_X11_must_12 Q σ) : J X E 2 n0 0 0 (MQ (xB X) (qV E (n0 + 0) Q) (xA X) (xS X) 0 0 (eF E)) σ 12 [] [] := by
  have hh1 : 1 ≤ hN := by omega
  replace h : Q σ := h
  exact j_vret hc hr h dX11_must_12
set_option maxRecDepth 20000 in
theorem c_X11_must {l : Launch} {E : ev_E} (hE : Eok E) (hm : eM E = 2) {a1 : Int} (ca1 : wr a1 = a1) {σ : st_S} {Q : st_S → Prop} (h : wp_X11_must a1 σ Q) : cM l yX11_must cX11_must 2 none E 3 0 0 [vR E 0, vI a1] σ (qV E (gN σ + 0) Q) := by
  refine cM_of (lv := [(0, vR E 0), (1, vI a1)]) (by decide) hE (Nat.le_of_ble_eq_true rfl) (rfl) ?_
  intro X hX hc _ _ hr _ _
  subst hX
  have hh : 3 ≤ 3 := Nat.le_refl _
  have hh1 : 1 ≤ 3 := by omega
  replace h : wp_X11_takes0 a1 σ (fun r5 s6 => (¬ r5 = 0 → B_X11_must_12 Q s6) ∧ (r5 = 0 → wp_X11_faults s6 (fun s8 => B_X11_must_12 Q s8))) := h
  refine j_aload_nR hc 0 dX11_must_0 rfl rfl ?_
  refine j_iload_n hc 1 dX11_must_1 rfl rfl ?_
  refine j_vI hc (k := 11) (by decide) (fun hv => Or.inl (sv_k hv hm rfl)) ml_RX11_171 mv_X11_takes0 (As := [vI a1]) (c_X11_takes0 (cx_E hc) hm ca1 h) rfl (by omega) (by decide) ⟨Nat.zero_le _, Nat.zero_le _⟩ (Nat.le_of_ble_eq_true rfl) rfl dX11_must_2 (fun r5 s6 cr5 h => ?_)
  refine j_if_ne hc cr5 (tgt := 12) dX11_must_5 (by decide) (fun q9 => ?_) (fun q9 => ?_)
  · replace h := h.1 q9
    refine j_sub (lv' := []) [] rfl ?_
    exact jb_X11_must_12 hc hm hr hh h
  · replace h := h.2 q9
    refine j_aload_nR hc 0 dX11_must_8 rfl rfl ?_
    refine j_vV hc (k := 11) (by decide) (fun hv => Or.inl (sv_k hv hm rfl)) ml_RX11_174 mv_X11_faults (As := []) (c_X11_faults (cx_E hc) hm  h) rfl (by omega) (by decide) ⟨Nat.zero_le _, Nat.zero_le _⟩ (Nat.le_of_ble_eq_true rfl) rfl dX11_must_9 (fun s8 h => ?_)
    refine j_sub (lv' := []) [] rfl ?_
    exact jb_X11_must_12 hc hm hr hh h
-- LitStrangersModel.leaf()V
theorem dX11_leaf_0 : decode cX11_leaf 0 = .ok (.aload_n 0, 1) := by decide +kernel
theorem dX11_leaf_1 : decode cX11_leaf 1 = .ok (.getfield 177, 3) := by decide +kernel
theorem dX11_leaf_4 : decode cX11_leaf 4 = .ok (.bipush 50, 2) := by decide +kernel
theorem dX11_leaf_6 : decode cX11_leaf 6 = .ok (.if_icmp .ne 7, 3) := by decide +kernel
theorem dX11_leaf_9 : decode cX11_leaf 9 = .ok (.aload_n 0, 1) := by decide +kernel
theorem dX11_leaf_10 : decode cX11_leaf 10 = .ok (.invokevirtual 174, 3) := by decide +kernel
theorem dX11_leaf_13 : decode cX11_leaf 13 = .ok (.aload_n 0, 1) := by decide +kernel
theorem dX11_leaf_14 : decode cX11_leaf 14 = .ok (.dup, 1) := by decide +kernel
theorem dX11_leaf_15 : decode cX11_leaf 15 = .ok (.getfield 177, 3) := by decide +kernel
theorem dX11_leaf_18 : decode cX11_leaf 18 = .ok (.iconst 1, 1) := by decide +kernel
theorem dX11_leaf_19 : decode cX11_leaf 19 = .ok (.iadd, 1) := by decide +kernel
theorem dX11_leaf_20 : decode cX11_leaf 20 = .ok (.putfield 177, 3) := by decide +kernel
theorem dX11_leaf_23 : decode cX11_leaf 23 = .ok (.aload_n 0, 1) := by decide +kernel
theorem dX11_leaf_24 : decode cX11_leaf 24 = .ok (.invokevirtual 164, 3) := by decide +kernel
theorem dX11_leaf_27 : decode cX11_leaf 27 = .ok (.ifCond .eq 13, 3) := by decide +kernel
theorem dX11_leaf_30 : decode cX11_leaf 30 = .ok (.aload_n 0, 1) := by decide +kernel
theorem dX11_leaf_31 : decode cX11_leaf 31 = .ok (.dup, 1) := by decide +kernel
theorem dX11_leaf_32 : decode cX11_leaf 32 = .ok (.getfield 168, 3) := by decide +kernel
theorem dX11_leaf_35 : decode cX11_leaf 35 = .ok (.iconst 1, 1) := by decide +kernel
theorem dX11_leaf_36 : decode cX11_leaf 36 = .ok (.iadd, 1) := by decide +kernel
theorem dX11_leaf_37 : decode cX11_leaf 37 = .ok (.putfield 168, 3) := by decide +kernel
theorem dX11_leaf_40 : decode cX11_leaf 40 = .ok (.return_, 1) := by decide +kernel
def B_X11_leaf_40 (Q : st_S → Prop)    (σ : st_S) : Prop := Q σ
def B_X11_leaf_13 (Q : st_S → Prop)    (σ : st_S) : Prop := ∀ x13 : Int, x13 = wr (gI σ 0 20 + 1) → ∀ s14 : st_S, s14 = sI σ 0 20 x13 → wp_X11_fine s14 (fun r15 s16 => (r15 = 0 → B_X11_leaf_40 Q s16) ∧ (¬ r15 = 0 → ∀ x18 : Int, x18 = wr (gI s16 0 19 + 1) → ∀ s19 : st_S, s19 = sI s16 0 19 x18 → B_X11_leaf_40 Q s19))
def wp_X11_leaf  (σ : st_S) (Q : st_S → Prop) : Prop := (¬ gI σ 0 20 = 50 → B_X11_leaf_13 Q σ) ∧ (gI σ 0 20 = 50 → wp_X11_faults σ (fun s23 => B_X11_leaf_13 Q s23))
set_option maxRecDepth 20000 in
theorem jb_X11_leaf_40 {X : jj_X} {E : ev_E} {n0 hN : Nat} (hc : Cx X E cX11_leaf 1 n0 hN RX11) (hm : eM E = 2) (hr : (xT X).sig.returnType = none) (hh : 3 ≤ hN) {Q : st_S → Prop} {σ : st_S} (h : B_X11_leaf_40 Q σ) : J X E 1 n0 0 0 (MQ (xB X) (qV E (n0 + 0) Q) (xA X) (xS X) 0 0 (eF E)) σ 40 [] [] := by
  have hh1 : 1 ≤ hN := by omega
  replace h : Q σ := h
  exact j_vret hc hr h dX11_leaf_40
set_option maxRecDepth 20000 in
theorem jb_X11_leaf_13 {X : jj_X} {E : ev_E} {n0 hN : Nat} (hc : Cx X E cX11_leaf 1 n0 hN RX11) (hm : eM E = 2) (hr : (xT X).sig.returnType = none) (hh : 3 ≤ hN) {Q : st_S → Prop} {σ : st_S} (h : B_X11_leaf_13 Q σ) : J X E 1 n0 0 0 (MQ (xB X) (qV E (n0 + 0) Q) (xA X) (xS X) 0 0 (eF E)) σ 13 [(0, vR E 0)] [] := by
  have hh1 : 1 ≤ hN := by omega
  replace h : ∀ x13 : Int, x13 = wr (gI σ 0 20 + 1) → ∀ s14 : st_S, s14 = sI σ 0 20 x13 → wp_X11_fine s14 (fun r15 s16 => (r15 = 0 → B_X11_leaf_40 Q s16) ∧ (¬ r15 = 0 → ∀ x18 : Int, x18 = wr (gI s16 0 19 + 1) → ∀ s19 : st_S, s19 = sI s16 0 19 x18 → B_X11_leaf_40 Q s19)) := h
  refine j_aload_nR hc 0 dX11_leaf_13 rfl rfl ?_
  refine j_dup hc dX11_leaf_14 rfl ?_
  refine j_getI hc fl_RX11_177 (Or.inl rfl) (fun hv => Or.inl (sv_k hv hm rfl)) dX11_leaf_15 (fun cn12 => ?_)
  refine j_iconst hc dX11_leaf_18 ?_
  refine j_iadd hc dX11_leaf_19 ?_
  refine j_w (fun x13 ex13 cx13 => ?_)
  replace h := h x13 ex13
  refine j_putI hc fl_RX11_177 rfl rfl (fun hv => Or.inl (sv_k hv hm rfl)) cx13 dX11_leaf_20 (fun s14 es14 => ?_)
  replace h := h s14 es14
  refine j_aload_nR hc 0 dX11_leaf_23 rfl rfl ?_
  refine j_vI hc (k := 11) (by decide) (fun hv => Or.inl (sv_k hv hm rfl)) ml_RX11_164 mv_X11_fine (As := []) (c_X11_fine (cx_E hc) hm  h) rfl (by omega) (by decide) ⟨Nat.zero_le _, Nat.zero_le _⟩ (Nat.le_of_ble_eq_true rfl) rfl dX11_leaf_24 (fun r15 s16 cr15 h => ?_)
  refine j_if_eq hc cr15 (tgt := 40) dX11_leaf_27 (by decide) (fun q20 => ?_) (fun q20 => ?_)
  · replace h := h.1 q20
    refine j_sub (lv' := []) [] rfl ?_
    exact jb_X11_leaf_40 hc hm hr hh h
  · replace h := h.2 q20
    refine j_aload_nR hc 0 dX11_leaf_30 rfl rfl ?_
    refine j_dup hc dX11_leaf_31 rfl ?_
    refine j_getI hc fl_RX11_168 (Or.inl rfl) (fun hv => Or.inl (sv_k hv hm rfl)) dX11_leaf_32 (fun cn17 => ?_)
    refine j_iconst hc dX11_leaf_35 ?_
    refine j_iadd hc dX11_leaf_36 ?_
    refine j_w (fun x18 ex18 cx18 => ?_)
    replace h := h x18 ex18
    refine j_putI hc fl_RX11_168 rfl rfl (fun hv => Or.inl (sv_k hv hm rfl)) cx18 dX11_leaf_37 (fun s19 es19 => ?_)
    replace h := h s19 es19
    refine j_sub (lv' := []) [] rfl ?_
    exact jb_X11_leaf_40 hc hm hr hh h
set_option maxRecDepth 20000 in
theorem c_X11_leaf {l : Launch} {E : ev_E} (hE : Eok E) (hm : eM E = 2) {σ : st_S} {Q : st_S → Prop} (h : wp_X11_leaf σ Q) : cM l yX11_leaf cX11_leaf 1 none E 3 0 0 [vR E 0] σ (qV E (gN σ + 0) Q) := by
  refine cM_of (lv := [(0, vR E 0)]) (by decide) hE (Nat.le_of_ble_eq_true rfl) (rfl) ?_
  intro X hX hc _ _ hr _ _
  subst hX
  have hh : 3 ≤ 3 := Nat.le_refl _
  have hh1 : 1 ≤ 3 := by omega
  replace h : (¬ gI σ 0 20 = 50 → B_X11_leaf_13 Q σ) ∧ (gI σ 0 20 = 50 → wp_X11_faults σ (fun s23 => B_X11_leaf_13 Q s23)) := h
  refine j_aload_nR hc 0 dX11_leaf_0 rfl rfl ?_
  refine j_getI hc fl_RX11_177 (Or.inl rfl) (fun hv => Or.inl (sv_k hv hm rfl)) dX11_leaf_1 (fun cn21 => ?_)
  refine j_bipush hc dX11_leaf_4 (by decide) ?_
  refine j_ic_ne hc cn21 (wlit 50 (by decide)) (tgt := 13) dX11_leaf_6 (by decide) (fun q24 => ?_) (fun q24 => ?_)
  · replace h := h.1 q24
    refine j_sub (lv' := [(0, vR E 0)]) [0] rfl ?_
    exact jb_X11_leaf_13 hc hm hr hh h
  · replace h := h.2 q24
    refine j_aload_nR hc 0 dX11_leaf_9 rfl rfl ?_
    refine j_vV hc (k := 11) (by decide) (fun hv => Or.inl (sv_k hv hm rfl)) ml_RX11_174 mv_X11_faults (As := []) (c_X11_faults (cx_E hc) hm  h) rfl (by omega) (by decide) ⟨Nat.zero_le _, Nat.zero_le _⟩ (Nat.le_of_ble_eq_true rfl) rfl dX11_leaf_10 (fun s23 h => ?_)
    refine j_sub (lv' := [(0, vR E 0)]) [0] rfl ?_
    exact jb_X11_leaf_13 hc hm hr hh h
-- LitStrangersModel.sign(C)I
theorem dX11_sign_0 : decode cX11_sign 0 = .ok (.bipush 100, 2) := by decide +kernel
theorem dX11_sign_2 : decode cX11_sign 2 = .ok (.iload_n 0, 1) := by decide +kernel
theorem dX11_sign_3 : decode cX11_sign 3 = .ok (.iadd, 1) := by decide +kernel
theorem dX11_sign_4 : decode cX11_sign 4 = .ok (.ireturn, 1) := by decide +kernel
def wp_X11_sign (a1 : Int) (σ : st_S) (Q : Int → st_S → Prop) : Prop := Q (wr (100 + a1)) σ
set_option maxRecDepth 20000 in
theorem c_X11_sign {l : Launch} {E : ev_E} (hE : Eok E) (hm : eM E = 2) {a1 : Int} (ca1 : wr a1 = a1) {σ : st_S} {Q : Int → st_S → Prop} (h : wp_X11_sign a1 σ Q) : cM l yX11_sign cX11_sign 1 (some .int) E 1 0 0 [vI a1] σ (qI E (gN σ + 0) Q) := by
  refine cM_of (lv := [(0, vI a1)]) (by decide) hE (Nat.le_of_ble_eq_true rfl) (rfl) ?_
  intro X hX hc _ _ hr _ _
  subst hX
  have hh : 1 ≤ 1 := Nat.le_refl _
  have hh1 : 1 ≤ 1 := by omega
  replace h : Q (wr (100 + a1)) σ := h
  refine j_bipush hc dX11_sign_0 (by decide) ?_
  refine j_iload_n hc 0 dX11_sign_2 rfl rfl ?_
  refine j_iadd hc dX11_sign_3 ?_
  refine j_w (fun y ey cy => ?_)
  subst ey
  exact j_iret hc hr cy h dX11_sign_4
-- LitStrangersModel.mustNumber(II)V
theorem dX11_mustNumber_0 : decode cX11_mustNumber 0 = .ok (.aload_n 0, 1) := by decide +kernel
theorem dX11_mustNumber_1 : decode cX11_mustNumber 1 = .ok (.invokevirtual 164, 3) := by decide +kernel
theorem dX11_mustNumber_4 : decode cX11_mustNumber 4 = .ok (.ifCond .eq 38, 3) := by decide +kernel
theorem dX11_mustNumber_7 : decode cX11_mustNumber 7 = .ok (.aload_n 0, 1) := by decide +kernel
theorem dX11_mustNumber_8 : decode cX11_mustNumber 8 = .ok (.getfield 50, 3) := by decide +kernel
theorem dX11_mustNumber_11 : decode cX11_mustNumber 11 = .ok (.aload_n 0, 1) := by decide +kernel
theorem dX11_mustNumber_12 : decode cX11_mustNumber 12 = .ok (.getfield 168, 3) := by decide +kernel
theorem dX11_mustNumber_15 : decode cX11_mustNumber 15 = .ok (.iaload, 1) := by decide +kernel
theorem dX11_mustNumber_16 : decode cX11_mustNumber 16 = .ok (.bipush 50, 2) := by decide +kernel
theorem dX11_mustNumber_18 : decode cX11_mustNumber 18 = .ok (.if_icmp .ne 20, 3) := by decide +kernel
theorem dX11_mustNumber_21 : decode cX11_mustNumber 21 = .ok (.aload_n 0, 1) := by decide +kernel
theorem dX11_mustNumber_22 : decode cX11_mustNumber 22 = .ok (.getfield 53, 3) := by decide +kernel
theorem dX11_mustNumber_25 : decode cX11_mustNumber 25 = .ok (.aload_n 0, 1) := by decide +kernel
theorem dX11_mustNumber_26 : decode cX11_mustNumber 26 = .ok (.getfield 168, 3) := by decide +kernel
theorem dX11_mustNumber_29 : decode cX11_mustNumber 29 = .ok (.iaload, 1) := by decide +kernel
theorem dX11_mustNumber_30 : decode cX11_mustNumber 30 = .ok (.iload_n 1, 1) := by decide +kernel
theorem dX11_mustNumber_31 : decode cX11_mustNumber 31 = .ok (.iload_n 2, 1) := by decide +kernel
theorem dX11_mustNumber_32 : decode cX11_mustNumber 32 = .ok (.invokestatic 106, 3) := by decide +kernel
theorem dX11_mustNumber_35 : decode cX11_mustNumber 35 = .ok (.ifCond .ne 7, 3) := by decide +kernel
theorem dX11_mustNumber_38 : decode cX11_mustNumber 38 = .ok (.aload_n 0, 1) := by decide +kernel
theorem dX11_mustNumber_39 : decode cX11_mustNumber 39 = .ok (.invokevirtual 174, 3) := by decide +kernel
theorem dX11_mustNumber_42 : decode cX11_mustNumber 42 = .ok (.aload_n 0, 1) := by decide +kernel
theorem dX11_mustNumber_43 : decode cX11_mustNumber 43 = .ok (.invokevirtual 164, 3) := by decide +kernel
theorem dX11_mustNumber_46 : decode cX11_mustNumber 46 = .ok (.ifCond .eq 13, 3) := by decide +kernel
theorem dX11_mustNumber_49 : decode cX11_mustNumber 49 = .ok (.aload_n 0, 1) := by decide +kernel
theorem dX11_mustNumber_50 : decode cX11_mustNumber 50 = .ok (.dup, 1) := by decide +kernel
theorem dX11_mustNumber_51 : decode cX11_mustNumber 51 = .ok (.getfield 168, 3) := by decide +kernel
theorem dX11_mustNumber_54 : decode cX11_mustNumber 54 = .ok (.iconst 1, 1) := by decide +kernel
theorem dX11_mustNumber_55 : decode cX11_mustNumber 55 = .ok (.iadd, 1) := by decide +kernel
theorem dX11_mustNumber_56 : decode cX11_mustNumber 56 = .ok (.putfield 168, 3) := by decide +kernel
theorem dX11_mustNumber_59 : decode cX11_mustNumber 59 = .ok (.return_, 1) := by decide +kernel
def B_X11_mustNumber_59 (Q : st_S → Prop)    (σ : st_S) : Prop := Q σ
def B_X11_mustNumber_42 (Q : st_S → Prop)    (σ : st_S) : Prop := wp_X11_fine σ (fun r18 s19 => (r18 = 0 → B_X11_mustNumber_59 Q s19) ∧ (¬ r18 = 0 → ∀ x21 : Int, x21 = wr (gI s19 0 19 + 1) → ∀ s22 : st_S, s22 = sI s19 0 19 x21 → B_X11_mustNumber_59 Q s22))
def B_X11_mustNumber_38 (Q : st_S → Prop)    (σ : st_S) : Prop := wp_X11_faults σ (fun s25 => B_X11_mustNumber_42 Q s25)
def wp_X11_mustNumber (a1 : Int) (a2 : Int) (σ : st_S) (Q : st_S → Prop) : Prop := wp_X11_fine σ (fun r26 s27 => (r26 = 0 → B_X11_mustNumber_42 Q s27) ∧ (¬ r26 = 0 → ix (gI s27 0 19) 401 ∧ (¬ gI s27 9 (Int.toNat (gI s27 0 19)) = 50 → B_X11_mustNumber_38 Q s27) ∧ (gI s27 9 (Int.toNat (gI s27 0 19)) = 50 → ix (gI s27 0 19) 401 ∧ wp_X11_lies (gI s27 10 (Int.toNat (gI s27 0 19))) a1 a2 s27 (fun r34 s35 => (¬ r34 = 0 → B_X11_mustNumber_42 Q s35) ∧ (r34 = 0 → B_X11_mustNumber_38 Q s35)))))
set_option maxRecDepth 20000 in
theorem jb_X11_mustNumber_59 {X : jj_X} {E : ev_E} {n0 hN : Nat} (hc : Cx X E cX11_mustNumber 3 n0 hN RX11) (hm : eM E = 2) (hr : (xT X).sig.returnType = none) (hh : 3 ≤ hN) {Q : st_S → Prop} {σ : st_S} (h : B_X11_mustNumber_59 Q σ) : J X E 3 n0 0 0 (MQ (xB X) (qV E (n0 + 0) Q) (xA X) (xS X) 0 0 (eF E)) σ 59 [] [] := by
  have hh1 : 1 ≤ hN := by omega
  replace h : Q σ := h
  exact j_vret hc hr h dX11_mustNumber_59
set_option maxRecDepth 20000 in
theorem jb_X11_mustNumber_42 {X : jj_X} {E : ev_E} {n0 hN : Nat} (hc : Cx X E cX11_mustNumber 3 n0 hN RX11) (hm : eM E = 2) (hr : (xT X).sig.returnType = none) (hh : 3 ≤ hN) {Q : st_S → Prop} {σ : st_S} (h : B_X11_mustNumber_42 Q σ) : J X E 3 n0 0 0 (MQ (xB X) (qV E (n0 + 0) Q) (xA X) (xS X) 0 0 (eF E)) σ 42 [(0, vR E 0)] [] := by
  have hh1 : 1 ≤ hN := by omega
  replace h : wp_X11_fine σ (fun r18 s19 => (r18 = 0 → B_X11_mustNumber_59 Q s19) ∧ (¬ r18 = 0 → ∀ x21 : Int, x21 = wr (gI s19 0 19 + 1) → ∀ s22 : st_S, s22 = sI s19 0 19 x21 → B_X11_mustNumber_59 Q s22)) := h
  refine j_aload_nR hc 0 dX11_mustNumber_42 rfl rfl ?_
  refine j_vI hc (k := 11) (by decide) (fun hv => Or.inl (sv_k hv hm rfl)) ml_RX11_164 mv_X11_fine (As := []) (c_X11_fine (cx_E hc) hm  h) rfl (by omega) (by decide) ⟨Nat.zero_le _, Nat.zero_le _⟩ (Nat.le_of_ble_eq_true rfl) rfl dX11_mustNumber_43 (fun r18 s19 cr18 h => ?_)
  refine j_if_eq hc cr18 (tgt := 59) dX11_mustNumber_46 (by decide) (fun q23 => ?_) (fun q23 => ?_)
  · replace h := h.1 q23
    refine j_sub (lv' := []) [] rfl ?_
    exact jb_X11_mustNumber_59 hc hm hr hh h
  · replace h := h.2 q23
    refine j_aload_nR hc 0 dX11_mustNumber_49 rfl rfl ?_
    refine j_dup hc dX11_mustNumber_50 rfl ?_
    refine j_getI hc fl_RX11_168 (Or.inl rfl) (fun hv => Or.inl (sv_k hv hm rfl)) dX11_mustNumber_51 (fun cn20 => ?_)
    refine j_iconst hc dX11_mustNumber_54 ?_
    refine j_iadd hc dX11_mustNumber_55 ?_
    refine j_w (fun x21 ex21 cx21 => ?_)
    replace h := h x21 ex21
    refine j_putI hc fl_RX11_168 rfl rfl (fun hv => Or.inl (sv_k hv hm rfl)) cx21 dX11_mustNumber_56 (fun s22 es22 => ?_)
    replace h := h s22 es22
    refine j_sub (lv' := []) [] rfl ?_
    exact jb_X11_mustNumber_59 hc hm hr hh h
set_option maxRecDepth 20000 in
theorem jb_X11_mustNumber_38 {X : jj_X} {E : ev_E} {n0 hN : Nat} (hc : Cx X E cX11_mustNumber 3 n0 hN RX11) (hm : eM E = 2) (hr : (xT X).sig.returnType = none) (hh : 3 ≤ hN) {Q : st_S → Prop} {σ : st_S} (h : B_X11_mustNumber_38 Q σ) : J X E 3 n0 0 0 (MQ (xB X) (qV E (n0 + 0) Q) (xA X) (xS X) 0 0 (eF E)) σ 38 [(0, vR E 0)] [] := by
  have hh1 : 1 ≤ hN := by omega
  replace h : wp_X11_faults σ (fun s25 => B_X11_mustNumber_42 Q s25) := h
  refine j_aload_nR hc 0 dX11_mustNumber_38 rfl rfl ?_
  refine j_vV hc (k := 11) (by decide) (fun hv => Or.inl (sv_k hv hm rfl)) ml_RX11_174 mv_X11_faults (As := []) (c_X11_faults (cx_E hc) hm  h) rfl (by omega) (by decide) ⟨Nat.zero_le _, Nat.zero_le _⟩ (Nat.le_of_ble_eq_true rfl) rfl dX11_mustNumber_39 (fun s25 h => ?_)
  refine j_sub (lv' := [(0, vR E 0)]) [0] rfl ?_
  exact jb_X11_mustNumber_42 hc hm hr hh h
set_option maxRecDepth 20000 in
theorem c_X11_mustNumber {l : Launch} {E : ev_E} (hE : Eok E) (hm : eM E = 2) {a1 : Int} {a2 : Int} (ca1 : wr a1 = a1) (ca2 : wr a2 = a2) {σ : st_S} {Q : st_S → Prop} (h : wp_X11_mustNumber a1 a2 σ Q) : cM l yX11_mustNumber cX11_mustNumber 3 none E 3 0 0 [vR E 0, vI a1, vI a2] σ (qV E (gN σ + 0) Q) := by
  refine cM_of (lv := [(0, vR E 0), (1, vI a1), (2, vI a2)]) (by decide) hE (Nat.le_of_ble_eq_true rfl) (rfl) ?_
  intro X hX hc _ _ hr _ _
  subst hX
  have hh : 3 ≤ 3 := Nat.le_refl _
  have hh1 : 1 ≤ 3 := by omega
  replace h : wp_X11_fine σ (fun r26 s27 => (r26 = 0 → B_X11_mustNumber_42 Q s27) ∧ (¬ r26 = 0 → ix (gI s27 0 19) 401 ∧ (¬ gI s27 9 (Int.toNat (gI s27 0 19)) = 50 → B_X11_mustNumber_38 Q s27) ∧ (gI s27 9 (Int.toNat (gI s27 0 19)) = 50 → ix (gI s27 0 19) 401 ∧ wp_X11_lies (gI s27 10 (Int.toNat (gI s27 0 19))) a1 a2 s27 (fun r34 s35 => (¬ r34 = 0 → B_X11_mustNumber_42 Q s35) ∧ (r34 = 0 → B_X11_mustNumber_38 Q s35))))) := h
  refine j_aload_nR hc 0 dX11_mustNumber_0 rfl rfl ?_
  refine j_vI hc (k := 11) (by decide) (fun hv => Or.inl (sv_k hv hm rfl)) ml_RX11_164 mv_X11_fine (As := []) (c_X11_fine (cx_E hc) hm  h) rfl (by omega) (by decide) ⟨Nat.zero_le _, Nat.zero_le _⟩ (Nat.le_of_ble_eq_true rfl) rfl dX11_mustNumber_1 (fun r26 s27 cr26 h => ?_)
  refine j_if_eq hc cr26 (tgt := 42) dX11_mustNumber_4 (by decide) (fun q38 => ?_) (fun q38 => ?_)
  · replace h := h.1 q38
    refine j_sub (lv' := [(0, vR E 0)]) [0] rfl ?_
    exact jb_X11_mustNumber_42 hc hm hr hh h
  · replace h := h.2 q38
    refine j_aload_nR hc 0 dX11_mustNumber_7 rfl rfl ?_
    refine j_getR (c' := 9) hc fl_RX11_50 rfl rfl (fun hv => (sv_k hv hm rfl)) dX11_mustNumber_8 ?_
    refine j_aload_nR hc 0 dX11_mustNumber_11 rfl rfl ?_
    refine j_getI hc fl_RX11_168 (Or.inl rfl) (fun hv => Or.inl (sv_k hv hm rfl)) dX11_mustNumber_12 (fun cn28 => ?_)
    obtain ⟨b29, h⟩ := h
    refine j_iald (jn := (Int.toNat (gI s27 0 19))) hc (fun hv => sv_kl hv hm rfl) cn28 b29 rfl dX11_mustNumber_15 (fun cn30 => ?_)
    refine j_bipush hc dX11_mustNumber_16 (by decide) ?_
    refine j_ic_ne hc cn30 (wlit 50 (by decide)) (tgt := 38) dX11_mustNumber_18 (by decide) (fun q37 => ?_) (fun q37 => ?_)
    · replace h := h.1 q37
      refine j_sub (lv' := [(0, vR E 0)]) [0] rfl ?_
      exact jb_X11_mustNumber_38 hc hm hr hh h
    · replace h := h.2 q37
      refine j_aload_nR hc 0 dX11_mustNumber_21 rfl rfl ?_
      refine j_getR (c' := 10) hc fl_RX11_53 rfl rfl (fun hv => (sv_k hv hm rfl)) dX11_mustNumber_22 ?_
      refine j_aload_nR hc 0 dX11_mustNumber_25 rfl rfl ?_
      refine j_getI hc fl_RX11_168 (Or.inl rfl) (fun hv => Or.inl (sv_k hv hm rfl)) dX11_mustNumber_26 (fun cn31 => ?_)
      obtain ⟨b32, h⟩ := h
      refine j_iald (jn := (Int.toNat (gI s27 0 19))) hc (fun hv => sv_kl hv hm rfl) cn31 b32 rfl dX11_mustNumber_29 (fun cn33 => ?_)
      refine j_iload_n hc 1 dX11_mustNumber_30 rfl rfl ?_
      refine j_iload_n hc 2 dX11_mustNumber_31 rfl rfl ?_
      refine j_sI hc ml_RX11_106 mv_X11_lies (As := [vI (gI s27 10 (Int.toNat (gI s27 0 19))), vI a1, vI a2]) (c_X11_lies (cx_E hc) hm cn33 ca1 ca2 h) rfl (by omega) (by decide) ⟨Nat.zero_le _, Nat.zero_le _⟩ (Nat.le_of_ble_eq_true rfl) rfl dX11_mustNumber_32 (fun r34 s35 cr34 h => ?_)
      refine j_if_ne hc cr34 (tgt := 42) dX11_mustNumber_35 (by decide) (fun q36 => ?_) (fun q36 => ?_)
      · replace h := h.1 q36
        refine j_sub (lv' := [(0, vR E 0)]) [0] rfl ?_
        exact jb_X11_mustNumber_42 hc hm hr hh h
      · replace h := h.2 q36
        refine j_sub (lv' := [(0, vR E 0)]) [0] rfl ?_
        exact jb_X11_mustNumber_38 hc hm hr hh h
-- LitStrangersModel.readPart(I)V, LitStrangersModel.readSum(I)V, LitStrangersModel.readTerm(I)V
theorem dX11_readPart_0 : decode cX11_readPart 0 = .ok (.aload_n 0, 1) := by decide +kernel
theorem dX11_readPart_1 : decode cX11_readPart 1 = .ok (.invokevirtual 164, 3) := by decide +kernel
theorem dX11_readPart_4 : decode cX11_readPart 4 = .ok (.ifCond .ne 4, 3) := by decide +kernel
theorem dX11_readPart_7 : decode cX11_readPart 7 = .ok (.return_, 1) := by decide +kernel
theorem dX11_readPart_8 : decode cX11_readPart 8 = .ok (.aload_n 0, 1) := by decide +kernel
theorem dX11_readPart_9 : decode cX11_readPart 9 = .ok (.getfield 50, 3) := by decide +kernel
theorem dX11_readPart_12 : decode cX11_readPart 12 = .ok (.aload_n 0, 1) := by decide +kernel
theorem dX11_readPart_13 : decode cX11_readPart 13 = .ok (.getfield 168, 3) := by decide +kernel
theorem dX11_readPart_16 : decode cX11_readPart 16 = .ok (.iaload, 1) := by decide +kernel
theorem dX11_readPart_17 : decode cX11_readPart 17 = .ok (.istore_n 2, 1) := by decide +kernel
theorem dX11_readPart_18 : decode cX11_readPart 18 = .ok (.iload_n 2, 1) := by decide +kernel
theorem dX11_readPart_19 : decode cX11_readPart 19 = .ok (.bipush 91, 2) := by decide +kernel
theorem dX11_readPart_21 : decode cX11_readPart 21 = .ok (.invokestatic 210, 3) := by decide +kernel
theorem dX11_readPart_24 : decode cX11_readPart 24 = .ok (.if_icmp .ne 50, 3) := by decide +kernel
theorem dX11_readPart_27 : decode cX11_readPart 27 = .ok (.iload_n 1, 1) := by decide +kernel
theorem dX11_readPart_28 : decode cX11_readPart 28 = .ok (.bipush 8, 2) := by decide +kernel
theorem dX11_readPart_30 : decode cX11_readPart 30 = .ok (.if_icmp .ne 7, 3) := by decide +kernel
theorem dX11_readPart_33 : decode cX11_readPart 33 = .ok (.aload_n 0, 1) := by decide +kernel
theorem dX11_readPart_34 : decode cX11_readPart 34 = .ok (.invokevirtual 174, 3) := by decide +kernel
theorem dX11_readPart_37 : decode cX11_readPart 37 = .ok (.aload_n 0, 1) := by decide +kernel
theorem dX11_readPart_38 : decode cX11_readPart 38 = .ok (.invokevirtual 164, 3) := by decide +kernel
theorem dX11_readPart_41 : decode cX11_readPart 41 = .ok (.ifCond .ne 4, 3) := by decide +kernel
theorem dX11_readPart_44 : decode cX11_readPart 44 = .ok (.return_, 1) := by decide +kernel
theorem dX11_readPart_45 : decode cX11_readPart 45 = .ok (.aload_n 0, 1) := by decide +kernel
theorem dX11_readPart_46 : decode cX11_readPart 46 = .ok (.dup, 1) := by decide +kernel
theorem dX11_readPart_47 : decode cX11_readPart 47 = .ok (.getfield 168, 3) := by decide +kernel
theorem dX11_readPart_50 : decode cX11_readPart 50 = .ok (.iconst 1, 1) := by decide +kernel
theorem dX11_readPart_51 : decode cX11_readPart 51 = .ok (.iadd, 1) := by decide +kernel
theorem dX11_readPart_52 : decode cX11_readPart 52 = .ok (.putfield 168, 3) := by decide +kernel
theorem dX11_readPart_55 : decode cX11_readPart 55 = .ok (.aload_n 0, 1) := by decide +kernel
theorem dX11_readPart_56 : decode cX11_readPart 56 = .ok (.iload_n 1, 1) := by decide +kernel
theorem dX11_readPart_57 : decode cX11_readPart 57 = .ok (.iconst 1, 1) := by decide +kernel
theorem dX11_readPart_58 : decode cX11_readPart 58 = .ok (.iadd, 1) := by decide +kernel
theorem dX11_readPart_59 : decode cX11_readPart 59 = .ok (.invokevirtual 180, 3) := by decide +kernel
theorem dX11_readPart_62 : decode cX11_readPart 62 = .ok (.aload_n 0, 1) := by decide +kernel
theorem dX11_readPart_63 : decode cX11_readPart 63 = .ok (.bipush 93, 2) := by decide +kernel
theorem dX11_readPart_65 : decode cX11_readPart 65 = .ok (.invokestatic 210, 3) := by decide +kernel
theorem dX11_readPart_68 : decode cX11_readPart 68 = .ok (.invokevirtual 184, 3) := by decide +kernel
theorem dX11_readPart_71 : decode cX11_readPart 71 = .ok (.goto 70, 3) := by decide +kernel
theorem dX11_readPart_74 : decode cX11_readPart 74 = .ok (.iload_n 2, 1) := by decide +kernel
theorem dX11_readPart_75 : decode cX11_readPart 75 = .ok (.bipush 50, 2) := by decide +kernel
theorem dX11_readPart_77 : decode cX11_readPart 77 = .ok (.if_icmp .ne 18, 3) := by decide +kernel
theorem dX11_readPart_80 : decode cX11_readPart 80 = .ok (.aload_n 0, 1) := by decide +kernel
theorem dX11_readPart_81 : decode cX11_readPart 81 = .ok (.getfield 53, 3) := by decide +kernel
theorem dX11_readPart_84 : decode cX11_readPart 84 = .ok (.aload_n 0, 1) := by decide +kernel
theorem dX11_readPart_85 : decode cX11_readPart 85 = .ok (.getfield 168, 3) := by decide +kernel
theorem dX11_readPart_88 : decode cX11_readPart 88 = .ok (.iaload, 1) := by decide +kernel
theorem dX11_readPart_89 : decode cX11_readPart 89 = .ok (.sipush 1000, 3) := by decide +kernel
theorem dX11_readPart_92 : decode cX11_readPart 92 = .ok (.if_icmp .le 19, 3) := by decide +kernel
theorem dX11_readPart_95 : decode cX11_readPart 95 = .ok (.iload_n 2, 1) := by decide +kernel
theorem dX11_readPart_96 : decode cX11_readPart 96 = .ok (.aload_n 0, 1) := by decide +kernel
theorem dX11_readPart_97 : decode cX11_readPart 97 = .ok (.getfield 220, 3) := by decide +kernel
theorem dX11_readPart_100 : decode cX11_readPart 100 = .ok (.if_icmp .lt 37, 3) := by decide +kernel
theorem dX11_readPart_103 : decode cX11_readPart 103 = .ok (.iload_n 2, 1) := by decide +kernel
theorem dX11_readPart_104 : decode cX11_readPart 104 = .ok (.aload_n 0, 1) := by decide +kernel
theorem dX11_readPart_105 : decode cX11_readPart 105 = .ok (.getfield 223, 3) := by decide +kernel
theorem dX11_readPart_108 : decode cX11_readPart 108 = .ok (.if_icmp .gt 29, 3) := by decide +kernel
theorem dX11_readPart_111 : decode cX11_readPart 111 = .ok (.aload_n 0, 1) := by decide +kernel
theorem dX11_readPart_112 : decode cX11_readPart 112 = .ok (.invokevirtual 226, 3) := by decide +kernel
theorem dX11_readPart_115 : decode cX11_readPart 115 = .ok (.iload_n 2, 1) := by decide +kernel
theorem dX11_readPart_116 : decode cX11_readPart 116 = .ok (.bipush 24, 2) := by decide +kernel
theorem dX11_readPart_118 : decode cX11_readPart 118 = .ok (.if_icmp .eq 9, 3) := by decide +kernel
theorem dX11_readPart_121 : decode cX11_readPart 121 = .ok (.iload_n 2, 1) := by decide +kernel
theorem dX11_readPart_122 : decode cX11_readPart 122 = .ok (.bipush 25, 2) := by decide +kernel
theorem dX11_readPart_124 : decode cX11_readPart 124 = .ok (.if_icmp .ne 17, 3) := by decide +kernel
theorem dX11_readPart_127 : decode cX11_readPart 127 = .ok (.aload_n 0, 1) := by decide +kernel
theorem dX11_readPart_128 : decode cX11_readPart 128 = .ok (.iconst 0, 1) := by decide +kernel
theorem dX11_readPart_129 : decode cX11_readPart 129 = .ok (.bipush 9, 2) := by decide +kernel
theorem dX11_readPart_131 : decode cX11_readPart 131 = .ok (.invokevirtual 190, 3) := by decide +kernel
theorem dX11_readPart_134 : decode cX11_readPart 134 = .ok (.goto 7, 3) := by decide +kernel
theorem dX11_readPart_137 : decode cX11_readPart 137 = .ok (.aload_n 0, 1) := by decide +kernel
theorem dX11_readPart_138 : decode cX11_readPart 138 = .ok (.invokevirtual 174, 3) := by decide +kernel
theorem dX11_readPart_141 : decode cX11_readPart 141 = .ok (.return_, 1) := by decide +kernel
theorem dX11_readSum_0 : decode cX11_readSum 0 = .ok (.aload_n 0, 1) := by decide +kernel
theorem dX11_readSum_1 : decode cX11_readSum 1 = .ok (.iload_n 1, 1) := by decide +kernel
theorem dX11_readSum_2 : decode cX11_readSum 2 = .ok (.invokevirtual 214, 3) := by decide +kernel
theorem dX11_readSum_5 : decode cX11_readSum 5 = .ok (.aload_n 0, 1) := by decide +kernel
theorem dX11_readSum_6 : decode cX11_readSum 6 = .ok (.bipush 43, 2) := by decide +kernel
theorem dX11_readSum_8 : decode cX11_readSum 8 = .ok (.invokestatic 210, 3) := by decide +kernel
theorem dX11_readSum_11 : decode cX11_readSum 11 = .ok (.invokevirtual 171, 3) := by decide +kernel
theorem dX11_readSum_14 : decode cX11_readSum 14 = .ok (.ifCond .ne 15, 3) := by decide +kernel
theorem dX11_readSum_17 : decode cX11_readSum 17 = .ok (.aload_n 0, 1) := by decide +kernel
theorem dX11_readSum_18 : decode cX11_readSum 18 = .ok (.bipush 45, 2) := by decide +kernel
theorem dX11_readSum_20 : decode cX11_readSum 20 = .ok (.invokestatic 210, 3) := by decide +kernel
theorem dX11_readSum_23 : decode cX11_readSum 23 = .ok (.invokevirtual 171, 3) := by decide +kernel
theorem dX11_readSum_26 : decode cX11_readSum 26 = .ok (.ifCond .eq 11, 3) := by decide +kernel
theorem dX11_readSum_29 : decode cX11_readSum 29 = .ok (.aload_n 0, 1) := by decide +kernel
theorem dX11_readSum_30 : decode cX11_readSum 30 = .ok (.iload_n 1, 1) := by decide +kernel
theorem dX11_readSum_31 : decode cX11_readSum 31 = .ok (.invokevirtual 214, 3) := by decide +kernel
theorem dX11_readSum_34 : decode cX11_readSum 34 = .ok (.goto (-29), 3) := by decide +kernel
theorem dX11_readSum_37 : decode cX11_readSum 37 = .ok (.return_, 1) := by decide +kernel
theorem dX11_readTerm_0 : decode cX11_readTerm 0 = .ok (.aload_n 0, 1) := by decide +kernel
theorem dX11_readTerm_1 : decode cX11_readTerm 1 = .ok (.iload_n 1, 1) := by decide +kernel
theorem dX11_readTerm_2 : decode cX11_readTerm 2 = .ok (.invokevirtual 217, 3) := by decide +kernel
theorem dX11_readTerm_5 : decode cX11_readTerm 5 = .ok (.aload_n 0, 1) := by decide +kernel
theorem dX11_readTerm_6 : decode cX11_readTerm 6 = .ok (.bipush 42, 2) := by decide +kernel
theorem dX11_readTerm_8 : decode cX11_readTerm 8 = .ok (.invokestatic 210, 3) := by decide +kernel
theorem dX11_readTerm_11 : decode cX11_readTerm 11 = .ok (.invokevirtual 171, 3) := by decide +kernel
theorem dX11_readTerm_14 : decode cX11_readTerm 14 = .ok (.ifCond .ne 27, 3) := by decide +kernel
theorem dX11_readTerm_17 : decode cX11_readTerm 17 = .ok (.aload_n 0, 1) := by decide +kernel
theorem dX11_readTerm_18 : decode cX11_readTerm 18 = .ok (.bipush 47, 2) := by decide +kernel
theorem dX11_readTerm_20 : decode cX11_readTerm 20 = .ok (.invokestatic 210, 3) := by decide +kernel
theorem dX11_readTerm_23 : decode cX11_readTerm 23 = .ok (.invokevirtual 171, 3) := by decide +kernel
theorem dX11_readTerm_26 : decode cX11_readTerm 26 = .ok (.ifCond .ne 15, 3) := by decide +kernel
theorem dX11_readTerm_29 : decode cX11_readTerm 29 = .ok (.aload_n 0, 1) := by decide +kernel
theorem dX11_readTerm_30 : decode cX11_readTerm 30 = .ok (.bipush 37, 2) := by decide +kernel
theorem dX11_readTerm_32 : decode cX11_readTerm 32 = .ok (.invokestatic 210, 3) := by decide +kernel
theorem dX11_readTerm_35 : decode cX11_readTerm 35 = .ok (.invokevirtual 171, 3) := by decide +kernel
theorem dX11_readTerm_38 : decode cX11_readTerm 38 = .ok (.ifCond .eq 11, 3) := by decide +kernel
theorem dX11_readTerm_41 : decode cX11_readTerm 41 = .ok (.aload_n 0, 1) := by decide +kernel
theorem dX11_readTerm_42 : decode cX11_readTerm 42 = .ok (.iload_n 1, 1) := by decide +kernel
theorem dX11_readTerm_43 : decode cX11_readTerm 43 = .ok (.invokevirtual 217, 3) := by decide +kernel
theorem dX11_readTerm_46 : decode cX11_readTerm 46 = .ok (.goto (-41), 3) := by decide +kernel
theorem dX11_readTerm_49 : decode cX11_readTerm 49 = .ok (.return_, 1) := by decide +kernel
def B_X11_readPart_141 (Q : st_S → Prop) (rc_X11_readPart : Int → st_S → (st_S → Prop) → Prop) (rc_X11_readSum : Int → st_S → (st_S → Prop) → Prop) (rc_X11_readTerm : Int → st_S → (st_S → Prop) → Prop)   (σ : st_S) : Prop := Q σ
def B_X11_readPart_37 (Q : st_S → Prop) (rc_X11_readPart : Int → st_S → (st_S → Prop) → Prop) (rc_X11_readSum : Int → st_S → (st_S → Prop) → Prop) (rc_X11_readTerm : Int → st_S → (st_S → Prop) → Prop)  (l1 : Int) (σ : st_S) : Prop := wp_X11_fine σ (fun r33 s34 => (¬ r33 = 0 → ∀ x36 : Int, x36 = wr (gI s34 0 19 + 1) → ∀ s37 : st_S, s37 = sI s34 0 19 x36 → rc_X11_readSum (wr (l1 + 1)) s37 (fun s39 => wp_X11_sign 93 s39 (fun r40 s41 => wp_X11_must r40 s41 (fun s43 => B_X11_readPart_141 Q rc_X11_readPart rc_X11_readSum rc_X11_readTerm s43)))) ∧ (r33 = 0 → Q s34))
def B_X11_readPart_127 (Q : st_S → Prop) (rc_X11_readPart : Int → st_S → (st_S → Prop) → Prop) (rc_X11_readSum : Int → st_S → (st_S → Prop) → Prop) (rc_X11_readTerm : Int → st_S → (st_S → Prop) → Prop)   (σ : st_S) : Prop := wp_X11_mustNumber 0 9 σ (fun s46 => B_X11_readPart_141 Q rc_X11_readPart rc_X11_readSum rc_X11_readTerm s46)
def B_X11_readPart_111 (Q : st_S → Prop) (rc_X11_readPart : Int → st_S → (st_S → Prop) → Prop) (rc_X11_readSum : Int → st_S → (st_S → Prop) → Prop) (rc_X11_readTerm : Int → st_S → (st_S → Prop) → Prop)  (l2 : Int) (σ : st_S) : Prop := wp_X11_leaf σ (fun s48 => (l2 = 24 → B_X11_readPart_127 Q rc_X11_readPart rc_X11_readSum rc_X11_readTerm s48) ∧ (¬ l2 = 24 → (¬ l2 = 25 → B_X11_readPart_141 Q rc_X11_readPart rc_X11_readSum rc_X11_readTerm s48) ∧ (l2 = 25 → B_X11_readPart_127 Q rc_X11_readPart rc_X11_readSum rc_X11_readTerm s48)))
def B_X11_readPart_137 (Q : st_S → Prop) (rc_X11_readPart : Int → st_S → (st_S → Prop) → Prop) (rc_X11_readSum : Int → st_S → (st_S → Prop) → Prop) (rc_X11_readTerm : Int → st_S → (st_S → Prop) → Prop)   (σ : st_S) : Prop := wp_X11_faults σ (fun s52 => B_X11_readPart_141 Q rc_X11_readPart rc_X11_readSum rc_X11_readTerm s52)
def B_X11_readPart_95 (Q : st_S → Prop) (rc_X11_readPart : Int → st_S → (st_S → Prop) → Prop) (rc_X11_readSum : Int → st_S → (st_S → Prop) → Prop) (rc_X11_readTerm : Int → st_S → (st_S → Prop) → Prop)  (l2 : Int) (σ : st_S) : Prop := (l2 < gI σ 0 8 → B_X11_readPart_137 Q rc_X11_readPart rc_X11_readSum rc_X11_readTerm σ) ∧ (¬ l2 < gI σ 0 8 → (gI σ 0 9 < l2 → B_X11_readPart_137 Q rc_X11_readPart rc_X11_readSum rc_X11_readTerm σ) ∧ (¬ gI σ 0 9 < l2 → B_X11_readPart_111 Q rc_X11_readPart rc_X11_readSum rc_X11_readTerm l2 σ))
def e_X11_readPart (rc_X11_readPart : Int → st_S → (st_S → Prop) → Prop) (rc_X11_readSum : Int → st_S → (st_S → Prop) → Prop) (rc_X11_readTerm : Int → st_S → (st_S → Prop) → Prop) (a1 : Int) (σ : st_S) (Q : st_S → Prop) : Prop := wp_X11_fine σ (fun r57 s58 => (¬ r57 = 0 → ix (gI s58 0 19) 401 ∧ ∀ x62 : Int, x62 = gI s58 9 (Int.toNat (gI s58 0 19)) → wp_X11_sign 91 s58 (fun r63 s64 => (¬ x62 = r63 → (¬ x62 = 50 → B_X11_readPart_95 Q rc_X11_readPart rc_X11_readSum rc_X11_readTerm x62 s64) ∧ (x62 = 50 → ix (gI s64 0 19) 401 ∧ (gI s64 10 (Int.toNat (gI s64 0 19)) ≤ 1000 → B_X11_readPart_111 Q rc_X11_readPart rc_X11_readSum rc_X11_readTerm x62 s64) ∧ (¬ gI s64 10 (Int.toNat (gI s64 0 19)) ≤ 1000 → B_X11_readPart_95 Q rc_X11_readPart rc_X11_readSum rc_X11_readTerm x62 s64))) ∧ (x62 = r63 → (¬ a1 = 8 → B_X11_readPart_37 Q rc_X11_readPart rc_X11_readSum rc_X11_readTerm a1 s64) ∧ (a1 = 8 → wp_X11_faults s64 (fun s71 => B_X11_readPart_37 Q rc_X11_readPart rc_X11_readSum rc_X11_readTerm a1 s71))))) ∧ (r57 = 0 → Q s58))
def B_X11_readSum_29 (Q : st_S → Prop) (rc_X11_readPart : Int → st_S → (st_S → Prop) → Prop) (rc_X11_readSum : Int → st_S → (st_S → Prop) → Prop) (rc_X11_readTerm : Int → st_S → (st_S → Prop) → Prop) (k5 : Int → st_S → Prop) (l1 : Int) (σ : st_S) : Prop := rc_X11_readTerm l1 σ (fun s14 => k5 l1 s14)
def L_X11_readSum_5 (Q : st_S → Prop) (rc_X11_readPart : Int → st_S → (st_S → Prop) → Prop) (rc_X11_readSum : Int → st_S → (st_S → Prop) → Prop) (rc_X11_readTerm : Int → st_S → (st_S → Prop) → Prop)  : Nat → Int → st_S → Prop
  | 0 => fun _ _ => False
  | n + 1 => fun l1 σ => wp_X11_sign 43 σ (fun r15 s16 => wp_X11_takes0 r15 s16 (fun r17 s18 => (¬ r17 = 0 → B_X11_readSum_29 Q rc_X11_readPart rc_X11_readSum rc_X11_readTerm (L_X11_readSum_5 Q rc_X11_readPart rc_X11_readSum rc_X11_readTerm n) l1 s18) ∧ (r17 = 0 → wp_X11_sign 45 s18 (fun r19 s20 => wp_X11_takes0 r19 s20 (fun r21 s22 => (r21 = 0 → Q s22) ∧ (¬ r21 = 0 → B_X11_readSum_29 Q rc_X11_readPart rc_X11_readSum rc_X11_readTerm (L_X11_readSum_5 Q rc_X11_readPart rc_X11_readSum rc_X11_readTerm n) l1 s22))))))
def e_X11_readSum (rc_X11_readPart : Int → st_S → (st_S → Prop) → Prop) (rc_X11_readSum : Int → st_S → (st_S → Prop) → Prop) (rc_X11_readTerm : Int → st_S → (st_S → Prop) → Prop) (a1 : Int) (σ : st_S) (Q : st_S → Prop) : Prop := rc_X11_readTerm a1 σ (fun s26 => ∃ m5 : Nat, L_X11_readSum_5 Q rc_X11_readPart rc_X11_readSum rc_X11_readTerm m5 a1 s26)
def B_X11_readTerm_41 (Q : st_S → Prop) (rc_X11_readPart : Int → st_S → (st_S → Prop) → Prop) (rc_X11_readSum : Int → st_S → (st_S → Prop) → Prop) (rc_X11_readTerm : Int → st_S → (st_S → Prop) → Prop) (k5 : Int → st_S → Prop) (l1 : Int) (σ : st_S) : Prop := rc_X11_readPart l1 σ (fun s18 => k5 l1 s18)
def L_X11_readTerm_5 (Q : st_S → Prop) (rc_X11_readPart : Int → st_S → (st_S → Prop) → Prop) (rc_X11_readSum : Int → st_S → (st_S → Prop) → Prop) (rc_X11_readTerm : Int → st_S → (st_S → Prop) → Prop)  : Nat → Int → st_S → Prop
  | 0 => fun _ _ => False
  | n + 1 => fun l1 σ => wp_X11_sign 42 σ (fun r19 s20 => wp_X11_takes0 r19 s20 (fun r21 s22 => (¬ r21 = 0 → B_X11_readTerm_41 Q rc_X11_readPart rc_X11_readSum rc_X11_readTerm (L_X11_readTerm_5 Q rc_X11_readPart rc_X11_readSum rc_X11_readTerm n) l1 s22) ∧ (r21 = 0 → wp_X11_sign 47 s22 (fun r23 s24 => wp_X11_takes0 r23 s24 (fun r25 s26 => (¬ r25 = 0 → B_X11_readTerm_41 Q rc_X11_readPart rc_X11_readSum rc_X11_readTerm (L_X11_readTerm_5 Q rc_X11_readPart rc_X11_readSum rc_X11_readTerm n) l1 s26) ∧ (r25 = 0 → wp_X11_sign 37 s26 (fun r27 s28 => wp_X11_takes0 r27 s28 (fun r29 s30 => (r29 = 0 → Q s30) ∧ (¬ r29 = 0 → B_X11_readTerm_41 Q rc_X11_readPart rc_X11_readSum rc_X11_readTerm (L_X11_readTerm_5 Q rc_X11_readPart rc_X11_readSum rc_X11_readTerm n) l1 s30)))))))))
def e_X11_readTerm (rc_X11_readPart : Int → st_S → (st_S → Prop) → Prop) (rc_X11_readSum : Int → st_S → (st_S → Prop) → Prop) (rc_X11_readTerm : Int → st_S → (st_S → Prop) → Prop) (a1 : Int) (σ : st_S) (Q : st_S → Prop) : Prop := rc_X11_readPart a1 σ (fun s35 => ∃ m5 : Nat, L_X11_readTerm_5 Q rc_X11_readPart rc_X11_readSum rc_X11_readTerm m5 a1 s35)
def G_X11_readPart : Nat → (Int → st_S → (st_S → Prop) → Prop) × (Int → st_S → (st_S → Prop) → Prop) × (Int → st_S → (st_S → Prop) → Prop)
  | 0 => (fun _ _ _ => False, fun _ _ _ => False, fun _ _ _ => False)
  | d + 1 => (e_X11_readPart ((G_X11_readPart d).1) ((G_X11_readPart d).2.1) ((G_X11_readPart d).2.2), e_X11_readSum ((G_X11_readPart d).1) ((G_X11_readPart d).2.1) ((G_X11_readPart d).2.2), e_X11_readTerm ((G_X11_readPart d).1) ((G_X11_readPart d).2.1) ((G_X11_readPart d).2.2))
def wp_X11_readPart (d : Nat) : Int → st_S → (st_S → Prop) → Prop := (G_X11_readPart d).1
def wp_X11_readSum (d : Nat) : Int → st_S → (st_S → Prop) → Prop := (G_X11_readPart d).2.1
def wp_X11_readTerm (d : Nat) : Int → st_S → (st_S → Prop) → Prop := (G_X11_readPart d).2.2
set_option maxRecDepth 20000 in
theorem jb_X11_readPart_141 {X : jj_X} {E : ev_E} {n0 hN : Nat} (hc : Cx X E cX11_readPart 3 n0 hN RX11) (hm : eM E = 2) (hr : (xT X).sig.returnType = none) {d : Nat} (hh : 4 + (d + 1) ≤ hN) {Q : st_S → Prop} {rc_X11_readPart : Int → st_S → (st_S → Prop) → Prop} (hr_X11_readPart : ∀ {l : Launch} {E : ev_E} (hE : Eok E) (hm : eM E = 2) {a1 : Int} (ca1 : wr a1 = a1) {σ : st_S} {Q : st_S → Prop}, rc_X11_readPart a1 σ Q → cM l yX11_readPart cX11_readPart 3 none E (4 + d) 0 0 [vR E 0, vI a1] σ (qV E (gN σ + 0) Q)) {rc_X11_readSum : Int → st_S → (st_S → Prop) → Prop} (hr_X11_readSum : ∀ {l : Launch} {E : ev_E} (hE : Eok E) (hm : eM E = 2) {a1 : Int} (ca1 : wr a1 = a1) {σ : st_S} {Q : st_S → Prop}, rc_X11_readSum a1 σ Q → cM l yX11_readSum cX11_readSum 2 none E (4 + d) 0 0 [vR E 0, vI a1] σ (qV E (gN σ + 0) Q)) {rc_X11_readTerm : Int → st_S → (st_S → Prop) → Prop} (hr_X11_readTerm : ∀ {l : Launch} {E : ev_E} (hE : Eok E) (hm : eM E = 2) {a1 : Int} (ca1 : wr a1 = a1) {σ : st_S} {Q : st_S → Prop}, rc_X11_readTerm a1 σ Q → cM l yX11_readTerm cX11_readTerm 2 none E (4 + d) 0 0 [vR E 0, vI a1] σ (qV E (gN σ + 0) Q)) {σ : st_S} (h : B_X11_readPart_141 Q rc_X11_readPart rc_X11_readSum rc_X11_readTerm σ) : J X E 3 n0 0 0 (MQ (xB X) (qV E (n0 + 0) Q) (xA X) (xS X) 0 0 (eF E)) σ 141 [] [] := by
  have hh1 : 1 ≤ hN := by omega
  replace h : Q σ := h
  exact j_vret hc hr h dX11_readPart_141
set_option maxRecDepth 20000 in
theorem jb_X11_readPart_37 {X : jj_X} {E : ev_E} {n0 hN : Nat} (hc : Cx X E cX11_readPart 3 n0 hN RX11) (hm : eM E = 2) (hr : (xT X).sig.returnType = none) {d : Nat} (hh : 4 + (d + 1) ≤ hN) {Q : st_S → Prop} {rc_X11_readPart : Int → st_S → (st_S → Prop) → Prop} (hr_X11_readPart : ∀ {l : Launch} {E : ev_E} (hE : Eok E) (hm : eM E = 2) {a1 : Int} (ca1 : wr a1 = a1) {σ : st_S} {Q : st_S → Prop}, rc_X11_readPart a1 σ Q → cM l yX11_readPart cX11_readPart 3 none E (4 + d) 0 0 [vR E 0, vI a1] σ (qV E (gN σ + 0) Q)) {rc_X11_readSum : Int → st_S → (st_S → Prop) → Prop} (hr_X11_readSum : ∀ {l : Launch} {E : ev_E} (hE : Eok E) (hm : eM E = 2) {a1 : Int} (ca1 : wr a1 = a1) {σ : st_S} {Q : st_S → Prop}, rc_X11_readSum a1 σ Q → cM l yX11_readSum cX11_readSum 2 none E (4 + d) 0 0 [vR E 0, vI a1] σ (qV E (gN σ + 0) Q)) {rc_X11_readTerm : Int → st_S → (st_S → Prop) → Prop} (hr_X11_readTerm : ∀ {l : Launch} {E : ev_E} (hE : Eok E) (hm : eM E = 2) {a1 : Int} (ca1 : wr a1 = a1) {σ : st_S} {Q : st_S → Prop}, rc_X11_readTerm a1 σ Q → cM l yX11_readTerm cX11_readTerm 2 none E (4 + d) 0 0 [vR E 0, vI a1] σ (qV E (gN σ + 0) Q)) {l1 : Int} (cl1 : wr l1 = l1) {σ : st_S} (h : B_X11_readPart_37 Q rc_X11_readPart rc_X11_readSum rc_X11_readTerm l1 σ) : J X E 3 n0 0 0 (MQ (xB X) (qV E (n0 + 0) Q) (xA X) (xS X) 0 0 (eF E)) σ 37 [(0, vR E 0), (1, vI l1)] [] := by
  have hh1 : 1 ≤ hN := by omega
  replace h : wp_X11_fine σ (fun r33 s34 => (¬ r33 = 0 → ∀ x36 : Int, x36 = wr (gI s34 0 19 + 1) → ∀ s37 : st_S, s37 = sI s34 0 19 x36 → rc_X11_readSum (wr (l1 + 1)) s37 (fun s39 => wp_X11_sign 93 s39 (fun r40 s41 => wp_X11_must r40 s41 (fun s43 => B_X11_readPart_141 Q rc_X11_readPart rc_X11_readSum rc_X11_readTerm s43)))) ∧ (r33 = 0 → Q s34)) := h
  refine j_aload_nR hc 0 dX11_readPart_37 rfl rfl ?_
  refine j_vI hc (k := 11) (by decide) (fun hv => Or.inl (sv_k hv hm rfl)) ml_RX11_164 mv_X11_fine (As := []) (c_X11_fine (cx_E hc) hm  h) rfl (by omega) (by decide) ⟨Nat.zero_le _, Nat.zero_le _⟩ (Nat.le_of_ble_eq_true rfl) rfl dX11_readPart_38 (fun r33 s34 cr33 h => ?_)
  refine j_if_ne hc cr33 (tgt := 45) dX11_readPart_41 (by decide) (fun q44 => ?_) (fun q44 => ?_)
  · replace h := h.1 q44
    refine j_aload_nR hc 0 dX11_readPart_45 rfl rfl ?_
    refine j_dup hc dX11_readPart_46 rfl ?_
    refine j_getI hc fl_RX11_168 (Or.inl rfl) (fun hv => Or.inl (sv_k hv hm rfl)) dX11_readPart_47 (fun cn35 => ?_)
    refine j_iconst hc dX11_readPart_50 ?_
    refine j_iadd hc dX11_readPart_51 ?_
    refine j_w (fun x36 ex36 cx36 => ?_)
    replace h := h x36 ex36
    refine j_putI hc fl_RX11_168 rfl rfl (fun hv => Or.inl (sv_k hv hm rfl)) cx36 dX11_readPart_52 (fun s37 es37 => ?_)
    replace h := h s37 es37
    refine j_aload_nR hc 0 dX11_readPart_55 rfl rfl ?_
    refine j_iload_n hc 1 dX11_readPart_56 rfl rfl ?_
    refine j_iconst hc dX11_readPart_57 ?_
    refine j_iadd hc dX11_readPart_58 ?_
    refine j_vV hc (k := 11) (by decide) (fun hv => Or.inl (sv_k hv hm rfl)) ml_RX11_180 mv_X11_readSum (As := [vI (wr (l1 + 1))]) (hr_X11_readSum (cx_E hc) hm (wr_wr _) h) rfl (by omega) (by decide) ⟨Nat.zero_le _, Nat.zero_le _⟩ (Nat.le_of_ble_eq_true rfl) (by simp only [vI_wr, vL_wl]; rfl) dX11_readPart_59 (fun s39 h => ?_)
    refine j_aload_nR hc 0 dX11_readPart_62 rfl rfl ?_
    refine j_bipush hc dX11_readPart_63 (by decide) ?_
    refine j_sI hc ml_RX11_210 mv_X11_sign (As := [vI 93]) (c_X11_sign (cx_E hc) hm (wlit 93 (by decide)) h) rfl (by omega) (by decide) ⟨Nat.zero_le _, Nat.zero_le _⟩ (Nat.le_of_ble_eq_true rfl) rfl dX11_readPart_65 (fun r40 s41 cr40 h => ?_)
    refine j_vV hc (k := 11) (by decide) (fun hv => Or.inl (sv_k hv hm rfl)) ml_RX11_184 mv_X11_must (As := [vI r40]) (c_X11_must (cx_E hc) hm cr40 h) rfl (by omega) (by decide) ⟨Nat.zero_le _, Nat.zero_le _⟩ (Nat.le_of_ble_eq_true rfl) rfl dX11_readPart_68 (fun s43 h => ?_)
    refine j_goto (tgt := 141) hc dX11_readPart_71 (by decide) ?_
    refine j_sub (lv' := []) [] rfl ?_
    exact jb_X11_readPart_141 hc hm hr hh hr_X11_readPart hr_X11_readSum hr_X11_readTerm h
  · replace h := h.2 q44
    exact j_vret hc hr h dX11_readPart_44
set_option maxRecDepth 20000 in
theorem jb_X11_readPart_127 {X : jj_X} {E : ev_E} {n0 hN : Nat} (hc : Cx X E cX11_readPart 3 n0 hN RX11) (hm : eM E = 2) (hr : (xT X).sig.returnType = none) {d : Nat} (hh : 4 + (d + 1) ≤ hN) {Q : st_S → Prop} {rc_X11_readPart : Int → st_S → (st_S → Prop) → Prop} (hr_X11_readPart : ∀ {l : Launch} {E : ev_E} (hE : Eok E) (hm : eM E = 2) {a1 : Int} (ca1 : wr a1 = a1) {σ : st_S} {Q : st_S → Prop}, rc_X11_readPart a1 σ Q → cM l yX11_readPart cX11_readPart 3 none E (4 + d) 0 0 [vR E 0, vI a1] σ (qV E (gN σ + 0) Q)) {rc_X11_readSum : Int → st_S → (st_S → Prop) → Prop} (hr_X11_readSum : ∀ {l : Launch} {E : ev_E} (hE : Eok E) (hm : eM E = 2) {a1 : Int} (ca1 : wr a1 = a1) {σ : st_S} {Q : st_S → Prop}, rc_X11_readSum a1 σ Q → cM l yX11_readSum cX11_readSum 2 none E (4 + d) 0 0 [vR E 0, vI a1] σ (qV E (gN σ + 0) Q)) {rc_X11_readTerm : Int → st_S → (st_S → Prop) → Prop} (hr_X11_readTerm : ∀ {l : Launch} {E : ev_E} (hE : Eok E) (hm : eM E = 2) {a1 : Int} (ca1 : wr a1 = a1) {σ : st_S} {Q : st_S → Prop}, rc_X11_readTerm a1 σ Q → cM l yX11_readTerm cX11_readTerm 2 none E (4 + d) 0 0 [vR E 0, vI a1] σ (qV E (gN σ + 0) Q)) {σ : st_S} (h : B_X11_readPart_127 Q rc_X11_readPart rc_X11_readSum rc_X11_readTerm σ) : J X E 3 n0 0 0 (MQ (xB X) (qV E (n0 + 0) Q) (xA X) (xS X) 0 0 (eF E)) σ 127 [(0, vR E 0)] [] := by
  have hh1 : 1 ≤ hN := by omega
  replace h : wp_X11_mustNumber 0 9 σ (fun s46 => B_X11_readPart_141 Q rc_X11_readPart rc_X11_readSum rc_X11_readTerm s46) := h
  refine j_aload_nR hc 0 dX11_readPart_127 rfl rfl ?_
  refine j_iconst hc dX11_readPart_128 ?_
  refine j_bipush hc dX11_readPart_129 (by decide) ?_
  refine j_vV hc (k := 11) (by decide) (fun hv => Or.inl (sv_k hv hm rfl)) ml_RX11_190 mv_X11_mustNumber (As := [vI 0, vI 9]) (c_X11_mustNumber (cx_E hc) hm (wlit 0 (by decide)) (wlit 9 (by decide)) h) rfl (by omega) (by decide) ⟨Nat.zero_le _, Nat.zero_le _⟩ (Nat.le_of_ble_eq_true rfl) rfl dX11_readPart_131 (fun s46 h => ?_)
  refine j_goto (tgt := 141) hc dX11_readPart_134 (by decide) ?_
  refine j_sub (lv' := []) [] rfl ?_
  exact jb_X11_readPart_141 hc hm hr hh hr_X11_readPart hr_X11_readSum hr_X11_readTerm h
set_option maxRecDepth 20000 in
theorem jb_X11_readPart_111 {X : jj_X} {E : ev_E} {n0 hN : Nat} (hc : Cx X E cX11_readPart 3 n0 hN RX11) (hm : eM E = 2) (hr : (xT X).sig.returnType = none) {d : Nat} (hh : 4 + (d + 1) ≤ hN) {Q : st_S → Prop} {rc_X11_readPart : Int → st_S → (st_S → Prop) → Prop} (hr_X11_readPart : ∀ {l : Launch} {E : ev_E} (hE : Eok E) (hm : eM E = 2) {a1 : Int} (ca1 : wr a1 = a1) {σ : st_S} {Q : st_S → Prop}, rc_X11_readPart a1 σ Q → cM l yX11_readPart cX11_readPart 3 none E (4 + d) 0 0 [vR E 0, vI a1] σ (qV E (gN σ + 0) Q)) {rc_X11_readSum : Int → st_S → (st_S → Prop) → Prop} (hr_X11_readSum : ∀ {l : Launch} {E : ev_E} (hE : Eok E) (hm : eM E = 2) {a1 : Int} (ca1 : wr a1 = a1) {σ : st_S} {Q : st_S → Prop}, rc_X11_readSum a1 σ Q → cM l yX11_readSum cX11_readSum 2 none E (4 + d) 0 0 [vR E 0, vI a1] σ (qV E (gN σ + 0) Q)) {rc_X11_readTerm : Int → st_S → (st_S → Prop) → Prop} (hr_X11_readTerm : ∀ {l : Launch} {E : ev_E} (hE : Eok E) (hm : eM E = 2) {a1 : Int} (ca1 : wr a1 = a1) {σ : st_S} {Q : st_S → Prop}, rc_X11_readTerm a1 σ Q → cM l yX11_readTerm cX11_readTerm 2 none E (4 + d) 0 0 [vR E 0, vI a1] σ (qV E (gN σ + 0) Q)) {l2 : Int} (cl2 : wr l2 = l2) {σ : st_S} (h : B_X11_readPart_111 Q rc_X11_readPart rc_X11_readSum rc_X11_readTerm l2 σ) : J X E 3 n0 0 0 (MQ (xB X) (qV E (n0 + 0) Q) (xA X) (xS X) 0 0 (eF E)) σ 111 [(0, vR E 0), (2, vI l2)] [] := by
  have hh1 : 1 ≤ hN := by omega
  replace h : wp_X11_leaf σ (fun s48 => (l2 = 24 → B_X11_readPart_127 Q rc_X11_readPart rc_X11_readSum rc_X11_readTerm s48) ∧ (¬ l2 = 24 → (¬ l2 = 25 → B_X11_readPart_141 Q rc_X11_readPart rc_X11_readSum rc_X11_readTerm s48) ∧ (l2 = 25 → B_X11_readPart_127 Q rc_X11_readPart rc_X11_readSum rc_X11_readTerm s48))) := h
  refine j_aload_nR hc 0 dX11_readPart_111 rfl rfl ?_
  refine j_vV hc (k := 11) (by decide) (fun hv => Or.inl (sv_k hv hm rfl)) ml_RX11_226 mv_X11_leaf (As := []) (c_X11_leaf (cx_E hc) hm  h) rfl (by omega) (by decide) ⟨Nat.zero_le _, Nat.zero_le _⟩ (Nat.le_of_ble_eq_true rfl) rfl dX11_readPart_112 (fun s48 h => ?_)
  refine j_iload_n hc 1 dX11_readPart_115 rfl rfl ?_
  refine j_bipush hc dX11_readPart_116 (by decide) ?_
  refine j_ic_eq hc cl2 (wlit 24 (by decide)) (tgt := 127) dX11_readPart_118 (by decide) (fun q50 => ?_) (fun q50 => ?_)
  · replace h := h.1 q50
    refine j_sub (lv' := [(0, vR E 0)]) [0] rfl ?_
    exact jb_X11_readPart_127 hc hm hr hh hr_X11_readPart hr_X11_readSum hr_X11_readTerm h
  · replace h := h.2 q50
    refine j_iload_n hc 1 dX11_readPart_121 rfl rfl ?_
    refine j_bipush hc dX11_readPart_122 (by decide) ?_
    refine j_ic_ne hc cl2 (wlit 25 (by decide)) (tgt := 141) dX11_readPart_124 (by decide) (fun q49 => ?_) (fun q49 => ?_)
    · replace h := h.1 q49
      refine j_sub (lv' := []) [] rfl ?_
      exact jb_X11_readPart_141 hc hm hr hh hr_X11_readPart hr_X11_readSum hr_X11_readTerm h
    · replace h := h.2 q49
      refine j_sub (lv' := [(0, vR E 0)]) [0] rfl ?_
      exact jb_X11_readPart_127 hc hm hr hh hr_X11_readPart hr_X11_readSum hr_X11_readTerm h
set_option maxRecDepth 20000 in
theorem jb_X11_readPart_137 {X : jj_X} {E : ev_E} {n0 hN : Nat} (hc : Cx X E cX11_readPart 3 n0 hN RX11) (hm : eM E = 2) (hr : (xT X).sig.returnType = none) {d : Nat} (hh : 4 + (d + 1) ≤ hN) {Q : st_S → Prop} {rc_X11_readPart : Int → st_S → (st_S → Prop) → Prop} (hr_X11_readPart : ∀ {l : Launch} {E : ev_E} (hE : Eok E) (hm : eM E = 2) {a1 : Int} (ca1 : wr a1 = a1) {σ : st_S} {Q : st_S → Prop}, rc_X11_readPart a1 σ Q → cM l yX11_readPart cX11_readPart 3 none E (4 + d) 0 0 [vR E 0, vI a1] σ (qV E (gN σ + 0) Q)) {rc_X11_readSum : Int → st_S → (st_S → Prop) → Prop} (hr_X11_readSum : ∀ {l : Launch} {E : ev_E} (hE : Eok E) (hm : eM E = 2) {a1 : Int} (ca1 : wr a1 = a1) {σ : st_S} {Q : st_S → Prop}, rc_X11_readSum a1 σ Q → cM l yX11_readSum cX11_readSum 2 none E (4 + d) 0 0 [vR E 0, vI a1] σ (qV E (gN σ + 0) Q)) {rc_X11_readTerm : Int → st_S → (st_S → Prop) → Prop} (hr_X11_readTerm : ∀ {l : Launch} {E : ev_E} (hE : Eok E) (hm : eM E = 2) {a1 : Int} (ca1 : wr a1 = a1) {σ : st_S} {Q : st_S → Prop}, rc_X11_readTerm a1 σ Q → cM l yX11_readTerm cX11_readTerm 2 none E (4 + d) 0 0 [vR E 0, vI a1] σ (qV E (gN σ + 0) Q)) {σ : st_S} (h : B_X11_readPart_137 Q rc_X11_readPart rc_X11_readSum rc_X11_readTerm σ) : J X E 3 n0 0 0 (MQ (xB X) (qV E (n0 + 0) Q) (xA X) (xS X) 0 0 (eF E)) σ 137 [(0, vR E 0)] [] := by
  have hh1 : 1 ≤ hN := by omega
  replace h : wp_X11_faults σ (fun s52 => B_X11_readPart_141 Q rc_X11_readPart rc_X11_readSum rc_X11_readTerm s52) := h
  refine j_aload_nR hc 0 dX11_readPart_137 rfl rfl ?_
  refine j_vV hc (k := 11) (by decide) (fun hv => Or.inl (sv_k hv hm rfl)) ml_RX11_174 mv_X11_faults (As := []) (c_X11_faults (cx_E hc) hm  h) rfl (by omega) (by decide) ⟨Nat.zero_le _, Nat.zero_le _⟩ (Nat.le_of_ble_eq_true rfl) rfl dX11_readPart_138 (fun s52 h => ?_)
  refine j_sub (lv' := []) [] rfl ?_
  exact jb_X11_readPart_141 hc hm hr hh hr_X11_readPart hr_X11_readSum hr_X11_readTerm h
set_option maxRecDepth 20000 in
theorem jb_X11_readPart_95 {X : jj_X} {E : ev_E} {n0 hN : Nat} (hc : Cx X E cX11_readPart 3 n0 hN RX11) (hm : eM E = 2) (hr : (xT X).sig.returnType = none) {d : Nat} (hh : 4 + (d + 1) ≤ hN) {Q : st_S → Prop} {rc_X11_readPart : Int → st_S → (st_S → Prop) → Prop} (hr_X11_readPart : ∀ {l : Launch} {E : ev_E} (hE : Eok E) (hm : eM E = 2) {a1 : Int} (ca1 : wr a1 = a1) {σ : st_S} {Q : st_S → Prop}, rc_X11_readPart a1 σ Q → cM l yX11_readPart cX11_readPart 3 none E (4 + d) 0 0 [vR E 0, vI a1] σ (qV E (gN σ + 0) Q)) {rc_X11_readSum : Int → st_S → (st_S → Prop) → Prop} (hr_X11_readSum : ∀ {l : Launch} {E : ev_E} (hE : Eok E) (hm : eM E = 2) {a1 : Int} (ca1 : wr a1 = a1) {σ : st_S} {Q : st_S → Prop}, rc_X11_readSum a1 σ Q → cM l yX11_readSum cX11_readSum 2 none E (4 + d) 0 0 [vR E 0, vI a1] σ (qV E (gN σ + 0) Q)) {rc_X11_readTerm : Int → st_S → (st_S → Prop) → Prop} (hr_X11_readTerm : ∀ {l : Launch} {E : ev_E} (hE : Eok E) (hm : eM E = 2) {a1 : Int} (ca1 : wr a1 = a1) {σ : st_S} {Q : st_S → Prop}, rc_X11_readTerm a1 σ Q → cM l yX11_readTerm cX11_readTerm 2 none E (4 + d) 0 0 [vR E 0, vI a1] σ (qV E (gN σ + 0) Q)) {l2 : Int} (cl2 : wr l2 = l2) {σ : st_S} (h : B_X11_readPart_95 Q rc_X11_readPart rc_X11_readSum rc_X11_readTerm l2 σ) : J X E 3 n0 0 0 (MQ (xB X) (qV E (n0 + 0) Q) (xA X) (xS X) 0 0 (eF E)) σ 95 [(0, vR E 0), (2, vI l2)] [] := by
  have hh1 : 1 ≤ hN := by omega
  replace h : (l2 < gI σ 0 8 → B_X11_readPart_137 Q rc_X11_readPart rc_X11_readSum rc_X11_readTerm σ) ∧ (¬ l2 < gI σ 0 8 → (gI σ 0 9 < l2 → B_X11_readPart_137 Q rc_X11_readPart rc_X11_readSum rc_X11_readTerm σ) ∧ (¬ gI σ 0 9 < l2 → B_X11_readPart_111 Q rc_X11_readPart rc_X11_readSum rc_X11_readTerm l2 σ)) := h
  refine j_iload_n hc 1 dX11_readPart_95 rfl rfl ?_
  refine j_aload_nR hc 0 dX11_readPart_96 rfl rfl ?_
  refine j_getI hc fl_RX11_220 (Or.inl rfl) (fun hv => Or.inl (sv_k hv hm rfl)) dX11_readPart_97 (fun cn53 => ?_)
  refine j_ic_lt hc cl2 cn53 (tgt := 137) dX11_readPart_100 (by decide) (fun q56 => ?_) (fun q56 => ?_)
  · replace h := h.1 q56
    refine j_sub (lv' := [(0, vR E 0)]) [0] rfl ?_
    exact jb_X11_readPart_137 hc hm hr hh hr_X11_readPart hr_X11_readSum hr_X11_readTerm h
  · replace h := h.2 q56
    refine j_iload_n hc 1 dX11_readPart_103 rfl rfl ?_
    refine j_aload_nR hc 0 dX11_readPart_104 rfl rfl ?_
    refine j_getI hc fl_RX11_223 (Or.inl rfl) (fun hv => Or.inl (sv_k hv hm rfl)) dX11_readPart_105 (fun cn54 => ?_)
    refine j_ic_gt hc cl2 cn54 (tgt := 137) dX11_readPart_108 (by decide) (fun q55 => ?_) (fun q55 => ?_)
    · replace h := h.1 q55
      refine j_sub (lv' := [(0, vR E 0)]) [0] rfl ?_
      exact jb_X11_readPart_137 hc hm hr hh hr_X11_readPart hr_X11_readSum hr_X11_readTerm h
    · replace h := h.2 q55
      refine j_sub (lv' := [(0, vR E 0), (2, vI l2)]) [0, 1] rfl ?_
      exact jb_X11_readPart_111 hc hm hr hh hr_X11_readPart hr_X11_readSum hr_X11_readTerm cl2 h
set_option maxRecDepth 20000 in
theorem ce_X11_readPart {d : Nat} {rc_X11_readPart : Int → st_S → (st_S → Prop) → Prop} (hr_X11_readPart : ∀ {l : Launch} {E : ev_E} (hE : Eok E) (hm : eM E = 2) {a1 : Int} (ca1 : wr a1 = a1) {σ : st_S} {Q : st_S → Prop}, rc_X11_readPart a1 σ Q → cM l yX11_readPart cX11_readPart 3 none E (4 + d) 0 0 [vR E 0, vI a1] σ (qV E (gN σ + 0) Q)) {rc_X11_readSum : Int → st_S → (st_S → Prop) → Prop} (hr_X11_readSum : ∀ {l : Launch} {E : ev_E} (hE : Eok E) (hm : eM E = 2) {a1 : Int} (ca1 : wr a1 = a1) {σ : st_S} {Q : st_S → Prop}, rc_X11_readSum a1 σ Q → cM l yX11_readSum cX11_readSum 2 none E (4 + d) 0 0 [vR E 0, vI a1] σ (qV E (gN σ + 0) Q)) {rc_X11_readTerm : Int → st_S → (st_S → Prop) → Prop} (hr_X11_readTerm : ∀ {l : Launch} {E : ev_E} (hE : Eok E) (hm : eM E = 2) {a1 : Int} (ca1 : wr a1 = a1) {σ : st_S} {Q : st_S → Prop}, rc_X11_readTerm a1 σ Q → cM l yX11_readTerm cX11_readTerm 2 none E (4 + d) 0 0 [vR E 0, vI a1] σ (qV E (gN σ + 0) Q)) {l : Launch} {E : ev_E} (hE : Eok E) (hm : eM E = 2) {a1 : Int} (ca1 : wr a1 = a1) {σ : st_S} {Q : st_S → Prop} (h : e_X11_readPart rc_X11_readPart rc_X11_readSum rc_X11_readTerm a1 σ Q) : cM l yX11_readPart cX11_readPart 3 none E (4 + (d + 1)) 0 0 [vR E 0, vI a1] σ (qV E (gN σ + 0) Q) := by
  refine cM_of (lv := [(0, vR E 0), (1, vI a1)]) (by decide) hE (Nat.le_of_ble_eq_true rfl) (rfl) ?_
  intro X hX hc _ _ hr _ _
  subst hX
  have hh : 4 + (d + 1) ≤ 4 + (d + 1) := Nat.le_refl _
  have hh1 : 1 ≤ 4 + (d + 1) := by omega
  replace h : wp_X11_fine σ (fun r57 s58 => (¬ r57 = 0 → ix (gI s58 0 19) 401 ∧ ∀ x62 : Int, x62 = gI s58 9 (Int.toNat (gI s58 0 19)) → wp_X11_sign 91 s58 (fun r63 s64 => (¬ x62 = r63 → (¬ x62 = 50 → B_X11_readPart_95 Q rc_X11_readPart rc_X11_readSum rc_X11_readTerm x62 s64) ∧ (x62 = 50 → ix (gI s64 0 19) 401 ∧ (gI s64 10 (Int.toNat (gI s64 0 19)) ≤ 1000 → B_X11_readPart_111 Q rc_X11_readPart rc_X11_readSum rc_X11_readTerm x62 s64) ∧ (¬ gI s64 10 (Int.toNat (gI s64 0 19)) ≤ 1000 → B_X11_readPart_95 Q rc_X11_readPart rc_X11_readSum rc_X11_readTerm x62 s64))) ∧ (x62 = r63 → (¬ a1 = 8 → B_X11_readPart_37 Q rc_X11_readPart rc_X11_readSum rc_X11_readTerm a1 s64) ∧ (a1 = 8 → wp_X11_faults s64 (fun s71 => B_X11_readPart_37 Q rc_X11_readPart rc_X11_readSum rc_X11_readTerm a1 s71))))) ∧ (r57 = 0 → Q s58)) := h
  refine j_aload_nR hc 0 dX11_readPart_0 rfl rfl ?_
  refine j_vI hc (k := 11) (by decide) (fun hv => Or.inl (sv_k hv hm rfl)) ml_RX11_164 mv_X11_fine (As := []) (c_X11_fine (cx_E hc) hm  h) rfl (by omega) (by decide) ⟨Nat.zero_le _, Nat.zero_le _⟩ (Nat.le_of_ble_eq_true rfl) rfl dX11_readPart_1 (fun r57 s58 cr57 h => ?_)
  refine j_if_ne hc cr57 (tgt := 8) dX11_readPart_4 (by decide) (fun q74 => ?_) (fun q74 => ?_)
  · replace h := h.1 q74
    refine j_aload_nR hc 0 dX11_readPart_8 rfl rfl ?_
    refine j_getR (c' := 9) hc fl_RX11_50 rfl rfl (fun hv => (sv_k hv hm rfl)) dX11_readPart_9 ?_
    refine j_aload_nR hc 0 dX11_readPart_12 rfl rfl ?_
    refine j_getI hc fl_RX11_168 (Or.inl rfl) (fun hv => Or.inl (sv_k hv hm rfl)) dX11_readPart_13 (fun cn59 => ?_)
    obtain ⟨b60, h⟩ := h
    refine j_iald (jn := (Int.toNat (gI s58 0 19))) hc (fun hv => sv_kl hv hm rfl) cn59 b60 rfl dX11_readPart_16 (fun cn61 => ?_)
    refine j_c cn61 (fun x62 ex62 cx62 => ?_)
    replace h := h x62 ex62
    refine j_istore_n (lv' := [(2, vI x62), (0, vR E 0), (1, vI a1)]) hc dX11_readPart_17 rfl (by decide) rfl ?_
    refine j_iload_n hc 0 dX11_readPart_18 rfl rfl ?_
    refine j_bipush hc dX11_readPart_19 (by decide) ?_
    refine j_sI hc ml_RX11_210 mv_X11_sign (As := [vI 91]) (c_X11_sign (cx_E hc) hm (wlit 91 (by decide)) h) rfl (by omega) (by decide) ⟨Nat.zero_le _, Nat.zero_le _⟩ (Nat.le_of_ble_eq_true rfl) rfl dX11_readPart_21 (fun r63 s64 cr63 h => ?_)
    refine j_ic_ne hc cx62 cr63 (tgt := 74) dX11_readPart_24 (by decide) (fun q73 => ?_) (fun q73 => ?_)
    · replace h := h.1 q73
      refine j_iload_n hc 0 dX11_readPart_74 rfl rfl ?_
      refine j_bipush hc dX11_readPart_75 (by decide) ?_
      refine j_ic_ne hc cx62 (wlit 50 (by decide)) (tgt := 95) dX11_readPart_77 (by decide) (fun q69 => ?_) (fun q69 => ?_)
      · replace h := h.1 q69
        refine j_sub (lv' := [(0, vR E 0), (2, vI x62)]) [1, 0] rfl ?_
        exact jb_X11_readPart_95 hc hm hr hh hr_X11_readPart hr_X11_readSum hr_X11_readTerm cx62 h
      · replace h := h.2 q69
        refine j_aload_nR hc 1 dX11_readPart_80 rfl rfl ?_
        refine j_getR (c' := 10) hc fl_RX11_53 rfl rfl (fun hv => (sv_k hv hm rfl)) dX11_readPart_81 ?_
        refine j_aload_nR hc 1 dX11_readPart_84 rfl rfl ?_
        refine j_getI hc fl_RX11_168 (Or.inl rfl) (fun hv => Or.inl (sv_k hv hm rfl)) dX11_readPart_85 (fun cn65 => ?_)
        obtain ⟨b66, h⟩ := h
        refine j_iald (jn := (Int.toNat (gI s64 0 19))) hc (fun hv => sv_kl hv hm rfl) cn65 b66 rfl dX11_readPart_88 (fun cn67 => ?_)
        refine j_sipush hc dX11_readPart_89 (by decide) ?_
        refine j_ic_le hc cn67 (wlit 1000 (by decide)) (tgt := 111) dX11_readPart_92 (by decide) (fun q68 => ?_) (fun q68 => ?_)
        · replace h := h.1 q68
          refine j_sub (lv' := [(0, vR E 0), (2, vI x62)]) [1, 0] rfl ?_
          exact jb_X11_readPart_111 hc hm hr hh hr_X11_readPart hr_X11_readSum hr_X11_readTerm cx62 h
        · replace h := h.2 q68
          refine j_sub (lv' := [(0, vR E 0), (2, vI x62)]) [1, 0] rfl ?_
          exact jb_X11_readPart_95 hc hm hr hh hr_X11_readPart hr_X11_readSum hr_X11_readTerm cx62 h
    · replace h := h.2 q73
      refine j_iload_n hc 2 dX11_readPart_27 rfl rfl ?_
      refine j_bipush hc dX11_readPart_28 (by decide) ?_
      refine j_ic_ne hc ca1 (wlit 8 (by decide)) (tgt := 37) dX11_readPart_30 (by decide) (fun q72 => ?_) (fun q72 => ?_)
      · replace h := h.1 q72
        refine j_sub (lv' := [(0, vR E 0), (1, vI a1)]) [1, 2] rfl ?_
        exact jb_X11_readPart_37 hc hm hr hh hr_X11_readPart hr_X11_readSum hr_X11_readTerm ca1 h
      · replace h := h.2 q72
        refine j_aload_nR hc 1 dX11_readPart_33 rfl rfl ?_
        refine j_vV hc (k := 11) (by decide) (fun hv => Or.inl (sv_k hv hm rfl)) ml_RX11_174 mv_X11_faults (As := []) (c_X11_faults (cx_E hc) hm  h) rfl (by omega) (by decide) ⟨Nat.zero_le _, Nat.zero_le _⟩ (Nat.le_of_ble_eq_true rfl) rfl dX11_readPart_34 (fun s71 h => ?_)
        refine j_sub (lv' := [(0, vR E 0), (1, vI a1)]) [1, 2] rfl ?_
        exact jb_X11_readPart_37 hc hm hr hh hr_X11_readPart hr_X11_readSum hr_X11_readTerm ca1 h
  · replace h := h.2 q74
    exact j_vret hc hr h dX11_readPart_7
set_option maxRecDepth 20000 in
theorem jb_X11_readSum_29 {X : jj_X} {E : ev_E} {n0 hN : Nat} (hc : Cx X E cX11_readSum 2 n0 hN RX11) (hm : eM E = 2) (hr : (xT X).sig.returnType = none) {d : Nat} (hh : 4 + (d + 1) ≤ hN) {Q : st_S → Prop} {rc_X11_readPart : Int → st_S → (st_S → Prop) → Prop} (hr_X11_readPart : ∀ {l : Launch} {E : ev_E} (hE : Eok E) (hm : eM E = 2) {a1 : Int} (ca1 : wr a1 = a1) {σ : st_S} {Q : st_S → Prop}, rc_X11_readPart a1 σ Q → cM l yX11_readPart cX11_readPart 3 none E (4 + d) 0 0 [vR E 0, vI a1] σ (qV E (gN σ + 0) Q)) {rc_X11_readSum : Int → st_S → (st_S → Prop) → Prop} (hr_X11_readSum : ∀ {l : Launch} {E : ev_E} (hE : Eok E) (hm : eM E = 2) {a1 : Int} (ca1 : wr a1 = a1) {σ : st_S} {Q : st_S → Prop}, rc_X11_readSum a1 σ Q → cM l yX11_readSum cX11_readSum 2 none E (4 + d) 0 0 [vR E 0, vI a1] σ (qV E (gN σ + 0) Q)) {rc_X11_readTerm : Int → st_S → (st_S → Prop) → Prop} (hr_X11_readTerm : ∀ {l : Launch} {E : ev_E} (hE : Eok E) (hm : eM E = 2) {a1 : Int} (ca1 : wr a1 = a1) {σ : st_S} {Q : st_S → Prop}, rc_X11_readTerm a1 σ Q → cM l yX11_readTerm cX11_readTerm 2 none E (4 + d) 0 0 [vR E 0, vI a1] σ (qV E (gN σ + 0) Q)) {k5 : Int → st_S → Prop} (hk5 : ∀ {l1 : Int} (cl1 : wr l1 = l1) {σ : st_S}, k5 l1 σ → J X E 2 n0 0 0 (MQ (xB X) (qV E (n0 + 0) Q) (xA X) (xS X) 0 0 (eF E)) σ 5 [(0, vR E 0), (1, vI l1)] []) {l1 : Int} (cl1 : wr l1 = l1) {σ : st_S} (h : B_X11_readSum_29 Q rc_X11_readPart rc_X11_readSum rc_X11_readTerm k5 l1 σ) : J X E 2 n0 0 0 (MQ (xB X) (qV E (n0 + 0) Q) (xA X) (xS X) 0 0 (eF E)) σ 29 [(0, vR E 0), (1, vI l1)] [] := by
  have hh1 : 1 ≤ hN := by omega
  replace h : rc_X11_readTerm l1 σ (fun s14 => k5 l1 s14) := h
  refine j_aload_nR hc 0 dX11_readSum_29 rfl rfl ?_
  refine j_iload_n hc 1 dX11_readSum_30 rfl rfl ?_
  refine j_vV hc (k := 11) (by decide) (fun hv => Or.inl (sv_k hv hm rfl)) ml_RX11_214 mv_X11_readTerm (As := [vI l1]) (hr_X11_readTerm (cx_E hc) hm cl1 h) rfl (by omega) (by decide) ⟨Nat.zero_le _, Nat.zero_le _⟩ (Nat.le_of_ble_eq_true rfl) rfl dX11_readSum_31 (fun s14 h => ?_)
  refine j_goto (tgt := 5) hc dX11_readSum_34 (by decide) ?_
  refine j_sub (lv' := [(0, vR E 0), (1, vI l1)]) [0, 1] rfl ?_
  exact hk5 cl1 h
set_option maxRecDepth 20000 in
theorem jl_X11_readSum_5 {X : jj_X} {E : ev_E} {n0 hN : Nat} (hc : Cx X E cX11_readSum 2 n0 hN RX11) (hm : eM E = 2) (hr : (xT X).sig.returnType = none) {d : Nat} (hh : 4 + (d + 1) ≤ hN) {Q : st_S → Prop} {rc_X11_readPart : Int → st_S → (st_S → Prop) → Prop} (hr_X11_readPart : ∀ {l : Launch} {E : ev_E} (hE : Eok E) (hm : eM E = 2) {a1 : Int} (ca1 : wr a1 = a1) {σ : st_S} {Q : st_S → Prop}, rc_X11_readPart a1 σ Q → cM l yX11_readPart cX11_readPart 3 none E (4 + d) 0 0 [vR E 0, vI a1] σ (qV E (gN σ + 0) Q)) {rc_X11_readSum : Int → st_S → (st_S → Prop) → Prop} (hr_X11_readSum : ∀ {l : Launch} {E : ev_E} (hE : Eok E) (hm : eM E = 2) {a1 : Int} (ca1 : wr a1 = a1) {σ : st_S} {Q : st_S → Prop}, rc_X11_readSum a1 σ Q → cM l yX11_readSum cX11_readSum 2 none E (4 + d) 0 0 [vR E 0, vI a1] σ (qV E (gN σ + 0) Q)) {rc_X11_readTerm : Int → st_S → (st_S → Prop) → Prop} (hr_X11_readTerm : ∀ {l : Launch} {E : ev_E} (hE : Eok E) (hm : eM E = 2) {a1 : Int} (ca1 : wr a1 = a1) {σ : st_S} {Q : st_S → Prop}, rc_X11_readTerm a1 σ Q → cM l yX11_readTerm cX11_readTerm 2 none E (4 + d) 0 0 [vR E 0, vI a1] σ (qV E (gN σ + 0) Q)) : ∀ (n : Nat) {l1 : Int} (cl1 : wr l1 = l1) {σ : st_S}, L_X11_readSum_5 Q rc_X11_readPart rc_X11_readSum rc_X11_readTerm n l1 σ → J X E 2 n0 0 0 (MQ (xB X) (qV E (n0 + 0) Q) (xA X) (xS X) 0 0 (eF E)) σ 5 [(0, vR E 0), (1, vI l1)] [] := by
  have hh1 : 1 ≤ hN := by omega
  intro n
  induction n with
  | zero => intro l1 cl1 σ h; exact h.elim
  | succ n ih =>
    intro l1 cl1 σ h
    have hk5 : ∀ {l1 : Int} (cl1 : wr l1 = l1) {σ : st_S}, L_X11_readSum_5 Q rc_X11_readPart rc_X11_readSum rc_X11_readTerm n l1 σ → J X E 2 n0 0 0 (MQ (xB X) (qV E (n0 + 0) Q) (xA X) (xS X) 0 0 (eF E)) σ 5 [(0, vR E 0), (1, vI l1)] [] := ih
    replace h : wp_X11_sign 43 σ (fun r15 s16 => wp_X11_takes0 r15 s16 (fun r17 s18 => (¬ r17 = 0 → B_X11_readSum_29 Q rc_X11_readPart rc_X11_readSum rc_X11_readTerm (L_X11_readSum_5 Q rc_X11_readPart rc_X11_readSum rc_X11_readTerm n) l1 s18) ∧ (r17 = 0 → wp_X11_sign 45 s18 (fun r19 s20 => wp_X11_takes0 r19 s20 (fun r21 s22 => (r21 = 0 → Q s22) ∧ (¬ r21 = 0 → B_X11_readSum_29 Q rc_X11_readPart rc_X11_readSum rc_X11_readTerm (L_X11_readSum_5 Q rc_X11_readPart rc_X11_readSum rc_X11_readTerm n) l1 s22)))))) := h
    refine j_aload_nR hc 0 dX11_readSum_5 rfl rfl ?_
    refine j_bipush hc dX11_readSum_6 (by decide) ?_
    refine j_sI hc ml_RX11_210 mv_X11_sign (As := [vI 43]) (c_X11_sign (cx_E hc) hm (wlit 43 (by decide)) h) rfl (by omega) (by decide) ⟨Nat.zero_le _, Nat.zero_le _⟩ (Nat.le_of_ble_eq_true rfl) rfl dX11_readSum_8 (fun r15 s16 cr15 h => ?_)
    refine j_vI hc (k := 11) (by decide) (fun hv => Or.inl (sv_k hv hm rfl)) ml_RX11_171 mv_X11_takes0 (As := [vI r15]) (c_X11_takes0 (cx_E hc) hm cr15 h) rfl (by omega) (by decide) ⟨Nat.zero_le _, Nat.zero_le _⟩ (Nat.le_of_ble_eq_true rfl) rfl dX11_readSum_11 (fun r17 s18 cr17 h => ?_)
    refine j_if_ne hc cr17 (tgt := 29) dX11_readSum_14 (by decide) (fun q24 => ?_) (fun q24 => ?_)
    · replace h := h.1 q24
      refine j_sub (lv' := [(0, vR E 0), (1, vI l1)]) [0, 1] rfl ?_
      exact jb_X11_readSum_29 hc hm hr hh hr_X11_readPart hr_X11_readSum hr_X11_readTerm hk5 cl1 h
    · replace h := h.2 q24
      refine j_aload_nR hc 0 dX11_readSum_17 rfl rfl ?_
      refine j_bipush hc dX11_readSum_18 (by decide) ?_
      refine j_sI hc ml_RX11_210 mv_X11_sign (As := [vI 45]) (c_X11_sign (cx_E hc) hm (wlit 45 (by decide)) h) rfl (by omega) (by decide) ⟨Nat.zero_le _, Nat.zero_le _⟩ (Nat.le_of_ble_eq_true rfl) rfl dX11_readSum_20 (fun r19 s20 cr19 h => ?_)
      refine j_vI hc (k := 11) (by decide) (fun hv => Or.inl (sv_k hv hm rfl)) ml_RX11_171 mv_X11_takes0 (As := [vI r19]) (c_X11_takes0 (cx_E hc) hm cr19 h) rfl (by omega) (by decide) ⟨Nat.zero_le _, Nat.zero_le _⟩ (Nat.le_of_ble_eq_true rfl) rfl dX11_readSum_23 (fun r21 s22 cr21 h => ?_)
      refine j_if_eq hc cr21 (tgt := 37) dX11_readSum_26 (by decide) (fun q23 => ?_) (fun q23 => ?_)
      · replace h := h.1 q23
        exact j_vret hc hr h dX11_readSum_37
      · replace h := h.2 q23
        refine j_sub (lv' := [(0, vR E 0), (1, vI l1)]) [0, 1] rfl ?_
        exact jb_X11_readSum_29 hc hm hr hh hr_X11_readPart hr_X11_readSum hr_X11_readTerm hk5 cl1 h
set_option maxRecDepth 20000 in
theorem ce_X11_readSum {d : Nat} {rc_X11_readPart : Int → st_S → (st_S → Prop) → Prop} (hr_X11_readPart : ∀ {l : Launch} {E : ev_E} (hE : Eok E) (hm : eM E = 2) {a1 : Int} (ca1 : wr a1 = a1) {σ : st_S} {Q : st_S → Prop}, rc_X11_readPart a1 σ Q → cM l yX11_readPart cX11_readPart 3 none E (4 + d) 0 0 [vR E 0, vI a1] σ (qV E (gN σ + 0) Q)) {rc_X11_readSum : Int → st_S → (st_S → Prop) → Prop} (hr_X11_readSum : ∀ {l : Launch} {E : ev_E} (hE : Eok E) (hm : eM E = 2) {a1 : Int} (ca1 : wr a1 = a1) {σ : st_S} {Q : st_S → Prop}, rc_X11_readSum a1 σ Q → cM l yX11_readSum cX11_readSum 2 none E (4 + d) 0 0 [vR E 0, vI a1] σ (qV E (gN σ + 0) Q)) {rc_X11_readTerm : Int → st_S → (st_S → Prop) → Prop} (hr_X11_readTerm : ∀ {l : Launch} {E : ev_E} (hE : Eok E) (hm : eM E = 2) {a1 : Int} (ca1 : wr a1 = a1) {σ : st_S} {Q : st_S → Prop}, rc_X11_readTerm a1 σ Q → cM l yX11_readTerm cX11_readTerm 2 none E (4 + d) 0 0 [vR E 0, vI a1] σ (qV E (gN σ + 0) Q)) {l : Launch} {E : ev_E} (hE : Eok E) (hm : eM E = 2) {a1 : Int} (ca1 : wr a1 = a1) {σ : st_S} {Q : st_S → Prop} (h : e_X11_readSum rc_X11_readPart rc_X11_readSum rc_X11_readTerm a1 σ Q) : cM l yX11_readSum cX11_readSum 2 none E (4 + (d + 1)) 0 0 [vR E 0, vI a1] σ (qV E (gN σ + 0) Q) := by
  refine cM_of (lv := [(0, vR E 0), (1, vI a1)]) (by decide) hE (Nat.le_of_ble_eq_true rfl) (rfl) ?_
  intro X hX hc _ _ hr _ _
  subst hX
  have hh : 4 + (d + 1) ≤ 4 + (d + 1) := Nat.le_refl _
  have hh1 : 1 ≤ 4 + (d + 1) := by omega
  replace h : rc_X11_readTerm a1 σ (fun s26 => ∃ m5 : Nat, L_X11_readSum_5 Q rc_X11_readPart rc_X11_readSum rc_X11_readTerm m5 a1 s26) := h
  refine j_aload_nR hc 0 dX11_readSum_0 rfl rfl ?_
  refine j_iload_n hc 1 dX11_readSum_1 rfl rfl ?_
  refine j_vV hc (k := 11) (by decide) (fun hv => Or.inl (sv_k hv hm rfl)) ml_RX11_214 mv_X11_readTerm (As := [vI a1]) (hr_X11_readTerm (cx_E hc) hm ca1 h) rfl (by omega) (by decide) ⟨Nat.zero_le _, Nat.zero_le _⟩ (Nat.le_of_ble_eq_true rfl) rfl dX11_readSum_2 (fun s26 h => ?_)
  obtain ⟨n5, h⟩ := h
  refine j_sub (lv' := [(0, vR E 0), (1, vI a1)]) [0, 1] rfl ?_
  exact jl_X11_readSum_5 hc hm hr hh hr_X11_readPart hr_X11_readSum hr_X11_readTerm n5 ca1 h
set_option maxRecDepth 20000 in
theorem jb_X11_readTerm_41 {X : jj_X} {E : ev_E} {n0 hN : Nat} (hc : Cx X E cX11_readTerm 2 n0 hN RX11) (hm : eM E = 2) (hr : (xT X).sig.returnType = none) {d : Nat} (hh : 4 + (d + 1) ≤ hN) {Q : st_S → Prop} {rc_X11_readPart : Int → st_S → (st_S → Prop) → Prop} (hr_X11_readPart : ∀ {l : Launch} {E : ev_E} (hE : Eok E) (hm : eM E = 2) {a1 : Int} (ca1 : wr a1 = a1) {σ : st_S} {Q : st_S → Prop}, rc_X11_readPart a1 σ Q → cM l yX11_readPart cX11_readPart 3 none E (4 + d) 0 0 [vR E 0, vI a1] σ (qV E (gN σ + 0) Q)) {rc_X11_readSum : Int → st_S → (st_S → Prop) → Prop} (hr_X11_readSum : ∀ {l : Launch} {E : ev_E} (hE : Eok E) (hm : eM E = 2) {a1 : Int} (ca1 : wr a1 = a1) {σ : st_S} {Q : st_S → Prop}, rc_X11_readSum a1 σ Q → cM l yX11_readSum cX11_readSum 2 none E (4 + d) 0 0 [vR E 0, vI a1] σ (qV E (gN σ + 0) Q)) {rc_X11_readTerm : Int → st_S → (st_S → Prop) → Prop} (hr_X11_readTerm : ∀ {l : Launch} {E : ev_E} (hE : Eok E) (hm : eM E = 2) {a1 : Int} (ca1 : wr a1 = a1) {σ : st_S} {Q : st_S → Prop}, rc_X11_readTerm a1 σ Q → cM l yX11_readTerm cX11_readTerm 2 none E (4 + d) 0 0 [vR E 0, vI a1] σ (qV E (gN σ + 0) Q)) {k5 : Int → st_S → Prop} (hk5 : ∀ {l1 : Int} (cl1 : wr l1 = l1) {σ : st_S}, k5 l1 σ → J X E 2 n0 0 0 (MQ (xB X) (qV E (n0 + 0) Q) (xA X) (xS X) 0 0 (eF E)) σ 5 [(0, vR E 0), (1, vI l1)] []) {l1 : Int} (cl1 : wr l1 = l1) {σ : st_S} (h : B_X11_readTerm_41 Q rc_X11_readPart rc_X11_readSum rc_X11_readTerm k5 l1 σ) : J X E 2 n0 0 0 (MQ (xB X) (qV E (n0 + 0) Q) (xA X) (xS X) 0 0 (eF E)) σ 41 [(0, vR E 0), (1, vI l1)] [] := by
  have hh1 : 1 ≤ hN := by omega
  replace h : rc_X11_readPart l1 σ (fun s18 => k5 l1 s18) := h
  refine j_aload_nR hc 0 dX11_readTerm_41 rfl rfl ?_
  refine j_iload_n hc 1 dX11_readTerm_42 rfl rfl ?_
  refine j_vV hc (k := 11) (by decide) (fun hv => Or.inl (sv_k hv hm rfl)) ml_RX11_217 mv_X11_readPart (As := [vI l1]) (hr_X11_readPart (cx_E hc) hm cl1 h) rfl (by omega) (by decide) ⟨Nat.zero_le _, Nat.zero_le _⟩ (Nat.le_of_ble_eq_true rfl) rfl dX11_readTerm_43 (fun s18 h => ?_)
  refine j_goto (tgt := 5) hc dX11_readTerm_46 (by decide) ?_
  refine j_sub (lv' := [(0, vR E 0), (1, vI l1)]) [0, 1] rfl ?_
  exact hk5 cl1 h
set_option maxRecDepth 20000 in
theorem jl_X11_readTerm_5 {X : jj_X} {E : ev_E} {n0 hN : Nat} (hc : Cx X E cX11_readTerm 2 n0 hN RX11) (hm : eM E = 2) (hr : (xT X).sig.returnType = none) {d : Nat} (hh : 4 + (d + 1) ≤ hN) {Q : st_S → Prop} {rc_X11_readPart : Int → st_S → (st_S → Prop) → Prop} (hr_X11_readPart : ∀ {l : Launch} {E : ev_E} (hE : Eok E) (hm : eM E = 2) {a1 : Int} (ca1 : wr a1 = a1) {σ : st_S} {Q : st_S → Prop}, rc_X11_readPart a1 σ Q → cM l yX11_readPart cX11_readPart 3 none E (4 + d) 0 0 [vR E 0, vI a1] σ (qV E (gN σ + 0) Q)) {rc_X11_readSum : Int → st_S → (st_S → Prop) → Prop} (hr_X11_readSum : ∀ {l : Launch} {E : ev_E} (hE : Eok E) (hm : eM E = 2) {a1 : Int} (ca1 : wr a1 = a1) {σ : st_S} {Q : st_S → Prop}, rc_X11_readSum a1 σ Q → cM l yX11_readSum cX11_readSum 2 none E (4 + d) 0 0 [vR E 0, vI a1] σ (qV E (gN σ + 0) Q)) {rc_X11_readTerm : Int → st_S → (st_S → Prop) → Prop} (hr_X11_readTerm : ∀ {l : Launch} {E : ev_E} (hE : Eok E) (hm : eM E = 2) {a1 : Int} (ca1 : wr a1 = a1) {σ : st_S} {Q : st_S → Prop}, rc_X11_readTerm a1 σ Q → cM l yX11_readTerm cX11_readTerm 2 none E (4 + d) 0 0 [vR E 0, vI a1] σ (qV E (gN σ + 0) Q)) : ∀ (n : Nat) {l1 : Int} (cl1 : wr l1 = l1) {σ : st_S}, L_X11_readTerm_5 Q rc_X11_readPart rc_X11_readSum rc_X11_readTerm n l1 σ → J X E 2 n0 0 0 (MQ (xB X) (qV E (n0 + 0) Q) (xA X) (xS X) 0 0 (eF E)) σ 5 [(0, vR E 0), (1, vI l1)] [] := by
  have hh1 : 1 ≤ hN := by omega
  intro n
  induction n with
  | zero => intro l1 cl1 σ h; exact h.elim
  | succ n ih =>
    intro l1 cl1 σ h
    have hk5 : ∀ {l1 : Int} (cl1 : wr l1 = l1) {σ : st_S}, L_X11_readTerm_5 Q rc_X11_readPart rc_X11_readSum rc_X11_readTerm n l1 σ → J X E 2 n0 0 0 (MQ (xB X) (qV E (n0 + 0) Q) (xA X) (xS X) 0 0 (eF E)) σ 5 [(0, vR E 0), (1, vI l1)] [] := ih
    replace h : wp_X11_sign 42 σ (fun r19 s20 => wp_X11_takes0 r19 s20 (fun r21 s22 => (¬ r21 = 0 → B_X11_readTerm_41 Q rc_X11_readPart rc_X11_readSum rc_X11_readTerm (L_X11_readTerm_5 Q rc_X11_readPart rc_X11_readSum rc_X11_readTerm n) l1 s22) ∧ (r21 = 0 → wp_X11_sign 47 s22 (fun r23 s24 => wp_X11_takes0 r23 s24 (fun r25 s26 => (¬ r25 = 0 → B_X11_readTerm_41 Q rc_X11_readPart rc_X11_readSum rc_X11_readTerm (L_X11_readTerm_5 Q rc_X11_readPart rc_X11_readSum rc_X11_readTerm n) l1 s26) ∧ (r25 = 0 → wp_X11_sign 37 s26 (fun r27 s28 => wp_X11_takes0 r27 s28 (fun r29 s30 => (r29 = 0 → Q s30) ∧ (¬ r29 = 0 → B_X11_readTerm_41 Q rc_X11_readPart rc_X11_readSum rc_X11_readTerm (L_X11_readTerm_5 Q rc_X11_readPart rc_X11_readSum rc_X11_readTerm n) l1 s30))))))))) := h
    refine j_aload_nR hc 0 dX11_readTerm_5 rfl rfl ?_
    refine j_bipush hc dX11_readTerm_6 (by decide) ?_
    refine j_sI hc ml_RX11_210 mv_X11_sign (As := [vI 42]) (c_X11_sign (cx_E hc) hm (wlit 42 (by decide)) h) rfl (by omega) (by decide) ⟨Nat.zero_le _, Nat.zero_le _⟩ (Nat.le_of_ble_eq_true rfl) rfl dX11_readTerm_8 (fun r19 s20 cr19 h => ?_)
    refine j_vI hc (k := 11) (by decide) (fun hv => Or.inl (sv_k hv hm rfl)) ml_RX11_171 mv_X11_takes0 (As := [vI r19]) (c_X11_takes0 (cx_E hc) hm cr19 h) rfl (by omega) (by decide) ⟨Nat.zero_le _, Nat.zero_le _⟩ (Nat.le_of_ble_eq_true rfl) rfl dX11_readTerm_11 (fun r21 s22 cr21 h => ?_)
    refine j_if_ne hc cr21 (tgt := 41) dX11_readTerm_14 (by decide) (fun q33 => ?_) (fun q33 => ?_)
    · replace h := h.1 q33
      refine j_sub (lv' := [(0, vR E 0), (1, vI l1)]) [0, 1] rfl ?_
      exact jb_X11_readTerm_41 hc hm hr hh hr_X11_readPart hr_X11_readSum hr_X11_readTerm hk5 cl1 h
    · replace h := h.2 q33
      refine j_aload_nR hc 0 dX11_readTerm_17 rfl rfl ?_
      refine j_bipush hc dX11_readTerm_18 (by decide) ?_
      refine j_sI hc ml_RX11_210 mv_X11_sign (As := [vI 47]) (c_X11_sign (cx_E hc) hm (wlit 47 (by decide)) h) rfl (by omega) (by decide) ⟨Nat.zero_le _, Nat.zero_le _⟩ (Nat.le_of_ble_eq_true rfl) rfl dX11_readTerm_20 (fun r23 s24 cr23 h => ?_)
      refine j_vI hc (k := 11) (by decide) (fun hv => Or.inl (sv_k hv hm rfl)) ml_RX11_171 mv_X11_takes0 (As := [vI r23]) (c_X11_takes0 (cx_E hc) hm cr23 h) rfl (by omega) (by decide) ⟨Nat.zero_le _, Nat.zero_le _⟩ (Nat.le_of_ble_eq_true rfl) rfl dX11_readTerm_23 (fun r25 s26 cr25 h => ?_)
      refine j_if_ne hc cr25 (tgt := 41) dX11_readTerm_26 (by decide) (fun q32 => ?_) (fun q32 => ?_)
      · replace h := h.1 q32
        refine j_sub (lv' := [(0, vR E 0), (1, vI l1)]) [0, 1] rfl ?_
        exact jb_X11_readTerm_41 hc hm hr hh hr_X11_readPart hr_X11_readSum hr_X11_readTerm hk5 cl1 h
      · replace h := h.2 q32
        refine j_aload_nR hc 0 dX11_readTerm_29 rfl rfl ?_
        refine j_bipush hc dX11_readTerm_30 (by decide) ?_
        refine j_sI hc ml_RX11_210 mv_X11_sign (As := [vI 37]) (c_X11_sign (cx_E hc) hm (wlit 37 (by decide)) h) rfl (by omega) (by decide) ⟨Nat.zero_le _, Nat.zero_le _⟩ (Nat.le_of_ble_eq_true rfl) rfl dX11_readTerm_32 (fun r27 s28 cr27 h => ?_)
        refine j_vI hc (k := 11) (by decide) (fun hv => Or.inl (sv_k hv hm rfl)) ml_RX11_171 mv_X11_takes0 (As := [vI r27]) (c_X11_takes0 (cx_E hc) hm cr27 h) rfl (by omega) (by decide) ⟨Nat.zero_le _, Nat.zero_le _⟩ (Nat.le_of_ble_eq_true rfl) rfl dX11_readTerm_35 (fun r29 s30 cr29 h => ?_)
        refine j_if_eq hc cr29 (tgt := 49) dX11_readTerm_38 (by decide) (fun q31 => ?_) (fun q31 => ?_)
        · replace h := h.1 q31
          exact j_vret hc hr h dX11_readTerm_49
        · replace h := h.2 q31
          refine j_sub (lv' := [(0, vR E 0), (1, vI l1)]) [0, 1] rfl ?_
          exact jb_X11_readTerm_41 hc hm hr hh hr_X11_readPart hr_X11_readSum hr_X11_readTerm hk5 cl1 h
set_option maxRecDepth 20000 in
theorem ce_X11_readTerm {d : Nat} {rc_X11_readPart : Int → st_S → (st_S → Prop) → Prop} (hr_X11_readPart : ∀ {l : Launch} {E : ev_E} (hE : Eok E) (hm : eM E = 2) {a1 : Int} (ca1 : wr a1 = a1) {σ : st_S} {Q : st_S → Prop}, rc_X11_readPart a1 σ Q → cM l yX11_readPart cX11_readPart 3 none E (4 + d) 0 0 [vR E 0, vI a1] σ (qV E (gN σ + 0) Q)) {rc_X11_readSum : Int → st_S → (st_S → Prop) → Prop} (hr_X11_readSum : ∀ {l : Launch} {E : ev_E} (hE : Eok E) (hm : eM E = 2) {a1 : Int} (ca1 : wr a1 = a1) {σ : st_S} {Q : st_S → Prop}, rc_X11_readSum a1 σ Q → cM l yX11_readSum cX11_readSum 2 none E (4 + d) 0 0 [vR E 0, vI a1] σ (qV E (gN σ + 0) Q)) {rc_X11_readTerm : Int → st_S → (st_S → Prop) → Prop} (hr_X11_readTerm : ∀ {l : Launch} {E : ev_E} (hE : Eok E) (hm : eM E = 2) {a1 : Int} (ca1 : wr a1 = a1) {σ : st_S} {Q : st_S → Prop}, rc_X11_readTerm a1 σ Q → cM l yX11_readTerm cX11_readTerm 2 none E (4 + d) 0 0 [vR E 0, vI a1] σ (qV E (gN σ + 0) Q)) {l : Launch} {E : ev_E} (hE : Eok E) (hm : eM E = 2) {a1 : Int} (ca1 : wr a1 = a1) {σ : st_S} {Q : st_S → Prop} (h : e_X11_readTerm rc_X11_readPart rc_X11_readSum rc_X11_readTerm a1 σ Q) : cM l yX11_readTerm cX11_readTerm 2 none E (4 + (d + 1)) 0 0 [vR E 0, vI a1] σ (qV E (gN σ + 0) Q) := by
  refine cM_of (lv := [(0, vR E 0), (1, vI a1)]) (by decide) hE (Nat.le_of_ble_eq_true rfl) (rfl) ?_
  intro X hX hc _ _ hr _ _
  subst hX
  have hh : 4 + (d + 1) ≤ 4 + (d + 1) := Nat.le_refl _
  have hh1 : 1 ≤ 4 + (d + 1) := by omega
  replace h : rc_X11_readPart a1 σ (fun s35 => ∃ m5 : Nat, L_X11_readTerm_5 Q rc_X11_readPart rc_X11_readSum rc_X11_readTerm m5 a1 s35) := h
  refine j_aload_nR hc 0 dX11_readTerm_0 rfl rfl ?_
  refine j_iload_n hc 1 dX11_readTerm_1 rfl rfl ?_
  refine j_vV hc (k := 11) (by decide) (fun hv => Or.inl (sv_k hv hm rfl)) ml_RX11_217 mv_X11_readPart (As := [vI a1]) (hr_X11_readPart (cx_E hc) hm ca1 h) rfl (by omega) (by decide) ⟨Nat.zero_le _, Nat.zero_le _⟩ (Nat.le_of_ble_eq_true rfl) rfl dX11_readTerm_2 (fun s35 h => ?_)
  obtain ⟨n5, h⟩ := h
  refine j_sub (lv' := [(0, vR E 0), (1, vI a1)]) [0, 1] rfl ?_
  exact jl_X11_readTerm_5 hc hm hr hh hr_X11_readPart hr_X11_readSum hr_X11_readTerm n5 ca1 h
theorem ca_X11_readPart : ∀ d : Nat, (∀ {l : Launch} {E : ev_E} (hE : Eok E) (hm : eM E = 2) {a1 : Int} (ca1 : wr a1 = a1) {σ : st_S} {Q : st_S → Prop}, wp_X11_readPart d a1 σ Q → cM l yX11_readPart cX11_readPart 3 none E (4 + d) 0 0 [vR E 0, vI a1] σ (qV E (gN σ + 0) Q)) ∧ (∀ {l : Launch} {E : ev_E} (hE : Eok E) (hm : eM E = 2) {a1 : Int} (ca1 : wr a1 = a1) {σ : st_S} {Q : st_S → Prop}, wp_X11_readSum d a1 σ Q → cM l yX11_readSum cX11_readSum 2 none E (4 + d) 0 0 [vR E 0, vI a1] σ (qV E (gN σ + 0) Q)) ∧ (∀ {l : Launch} {E : ev_E} (hE : Eok E) (hm : eM E = 2) {a1 : Int} (ca1 : wr a1 = a1) {σ : st_S} {Q : st_S → Prop}, wp_X11_readTerm d a1 σ Q → cM l yX11_readTerm cX11_readTerm 2 none E (4 + d) 0 0 [vR E 0, vI a1] σ (qV E (gN σ + 0) Q)) := by
  intro d
  induction d with
  | zero => exact ⟨(fun {l} {E} hE hm {a1} ca1 {σ} {Q} h => h.elim), (fun {l} {E} hE hm {a1} ca1 {σ} {Q} h => h.elim), (fun {l} {E} hE hm {a1} ca1 {σ} {Q} h => h.elim)⟩
  | succ d ih =>
    obtain ⟨q0, q1, q2⟩ := ih
    exact ⟨(fun {l} {E} hE hm {a1} ca1 {σ} {Q} h => ce_X11_readPart (d := d) (rc_X11_readPart := wp_X11_readPart d) (rc_X11_readSum := wp_X11_readSum d) (rc_X11_readTerm := wp_X11_readTerm d) @q0 @q1 @q2 hE hm ca1 h), (fun {l} {E} hE hm {a1} ca1 {σ} {Q} h => ce_X11_readSum (d := d) (rc_X11_readPart := wp_X11_readPart d) (rc_X11_readSum := wp_X11_readSum d) (rc_X11_readTerm := wp_X11_readTerm d) @q0 @q1 @q2 hE hm ca1 h), (fun {l} {E} hE hm {a1} ca1 {σ} {Q} h => ce_X11_readTerm (d := d) (rc_X11_readPart := wp_X11_readPart d) (rc_X11_readSum := wp_X11_readSum d) (rc_X11_readTerm := wp_X11_readTerm d) @q0 @q1 @q2 hE hm ca1 h)⟩
theorem c_X11_readPart {l : Launch} {E : ev_E} (hE : Eok E) (hm : eM E = 2) (d : Nat) {a1 : Int} (ca1 : wr a1 = a1) {σ : st_S} {Q : st_S → Prop} : wp_X11_readPart d a1 σ Q → cM l yX11_readPart cX11_readPart 3 none E (4 + d) 0 0 [vR E 0, vI a1] σ (qV E (gN σ + 0) Q) := fun h => (ca_X11_readPart d).1 hE hm ca1 h
theorem c_X11_readSum {l : Launch} {E : ev_E} (hE : Eok E) (hm : eM E = 2) (d : Nat) {a1 : Int} (ca1 : wr a1 = a1) {σ : st_S} {Q : st_S → Prop} : wp_X11_readSum d a1 σ Q → cM l yX11_readSum cX11_readSum 2 none E (4 + d) 0 0 [vR E 0, vI a1] σ (qV E (gN σ + 0) Q) := fun h => (ca_X11_readPart d).2.1 hE hm ca1 h
theorem c_X11_readTerm {l : Launch} {E : ev_E} (hE : Eok E) (hm : eM E = 2) (d : Nat) {a1 : Int} (ca1 : wr a1 = a1) {σ : st_S} {Q : st_S → Prop} : wp_X11_readTerm d a1 σ Q → cM l yX11_readTerm cX11_readTerm 2 none E (4 + d) 0 0 [vR E 0, vI a1] σ (qV E (gN σ + 0) Q) := fun h => (ca_X11_readPart d).2.2 hE hm ca1 h
-- LitStrangersModel.readBoth(I)V, LitStrangersModel.readPlain(I)V, LitStrangersModel.readTest(I)V
theorem dX11_readBoth_0 : decode cX11_readBoth 0 = .ok (.aload_n 0, 1) := by decide +kernel
theorem dX11_readBoth_1 : decode cX11_readBoth 1 = .ok (.iload_n 1, 1) := by decide +kernel
theorem dX11_readBoth_2 : decode cX11_readBoth 2 = .ok (.invokevirtual 207, 3) := by decide +kernel
theorem dX11_readBoth_5 : decode cX11_readBoth 5 = .ok (.aload_n 0, 1) := by decide +kernel
theorem dX11_readBoth_6 : decode cX11_readBoth 6 = .ok (.bipush 8, 2) := by decide +kernel
theorem dX11_readBoth_8 : decode cX11_readBoth 8 = .ok (.invokevirtual 171, 3) := by decide +kernel
theorem dX11_readBoth_11 : decode cX11_readBoth 11 = .ok (.ifCond .eq 11, 3) := by decide +kernel
theorem dX11_readBoth_14 : decode cX11_readBoth 14 = .ok (.aload_n 0, 1) := by decide +kernel
theorem dX11_readBoth_15 : decode cX11_readBoth 15 = .ok (.iload_n 1, 1) := by decide +kernel
theorem dX11_readBoth_16 : decode cX11_readBoth 16 = .ok (.invokevirtual 207, 3) := by decide +kernel
theorem dX11_readBoth_19 : decode cX11_readBoth 19 = .ok (.goto (-14), 3) := by decide +kernel
theorem dX11_readBoth_22 : decode cX11_readBoth 22 = .ok (.return_, 1) := by decide +kernel
theorem dX11_readPlain_0 : decode cX11_readPlain 0 = .ok (.iconst 1, 1) := by decide +kernel
theorem dX11_readPlain_1 : decode cX11_readPlain 1 = .ok (.istore_n 2, 1) := by decide +kernel
theorem dX11_readPlain_2 : decode cX11_readPlain 2 = .ok (.iload_n 2, 1) := by decide +kernel
theorem dX11_readPlain_3 : decode cX11_readPlain 3 = .ok (.ifCond .eq 13, 3) := by decide +kernel
theorem dX11_readPlain_6 : decode cX11_readPlain 6 = .ok (.aload_n 0, 1) := by decide +kernel
theorem dX11_readPlain_7 : decode cX11_readPlain 7 = .ok (.bipush 9, 2) := by decide +kernel
theorem dX11_readPlain_9 : decode cX11_readPlain 9 = .ok (.invokevirtual 171, 3) := by decide +kernel
theorem dX11_readPlain_12 : decode cX11_readPlain 12 = .ok (.istore_n 2, 1) := by decide +kernel
theorem dX11_readPlain_13 : decode cX11_readPlain 13 = .ok (.goto (-11), 3) := by decide +kernel
theorem dX11_readPlain_16 : decode cX11_readPlain 16 = .ok (.aload_n 0, 1) := by decide +kernel
theorem dX11_readPlain_17 : decode cX11_readPlain 17 = .ok (.invokevirtual 164, 3) := by decide +kernel
theorem dX11_readPlain_20 : decode cX11_readPlain 20 = .ok (.ifCond .ne 4, 3) := by decide +kernel
theorem dX11_readPlain_23 : decode cX11_readPlain 23 = .ok (.return_, 1) := by decide +kernel
theorem dX11_readPlain_24 : decode cX11_readPlain 24 = .ok (.aload_n 0, 1) := by decide +kernel
theorem dX11_readPlain_25 : decode cX11_readPlain 25 = .ok (.getfield 50, 3) := by decide +kernel
theorem dX11_readPlain_28 : decode cX11_readPlain 28 = .ok (.aload_n 0, 1) := by decide +kernel
theorem dX11_readPlain_29 : decode cX11_readPlain 29 = .ok (.getfield 168, 3) := by decide +kernel
theorem dX11_readPlain_32 : decode cX11_readPlain 32 = .ok (.iaload, 1) := by decide +kernel
theorem dX11_readPlain_33 : decode cX11_readPlain 33 = .ok (.istore_n 3, 1) := by decide +kernel
theorem dX11_readPlain_34 : decode cX11_readPlain 34 = .ok (.iload_n 3, 1) := by decide +kernel
theorem dX11_readPlain_35 : decode cX11_readPlain 35 = .ok (.bipush 40, 2) := by decide +kernel
theorem dX11_readPlain_37 : decode cX11_readPlain 37 = .ok (.invokestatic 210, 3) := by decide +kernel
theorem dX11_readPlain_40 : decode cX11_readPlain 40 = .ok (.if_icmp .ne 50, 3) := by decide +kernel
theorem dX11_readPlain_43 : decode cX11_readPlain 43 = .ok (.iload_n 1, 1) := by decide +kernel
theorem dX11_readPlain_44 : decode cX11_readPlain 44 = .ok (.bipush 8, 2) := by decide +kernel
theorem dX11_readPlain_46 : decode cX11_readPlain 46 = .ok (.if_icmp .ne 7, 3) := by decide +kernel
theorem dX11_readPlain_49 : decode cX11_readPlain 49 = .ok (.aload_n 0, 1) := by decide +kernel
theorem dX11_readPlain_50 : decode cX11_readPlain 50 = .ok (.invokevirtual 174, 3) := by decide +kernel
theorem dX11_readPlain_53 : decode cX11_readPlain 53 = .ok (.aload_n 0, 1) := by decide +kernel
theorem dX11_readPlain_54 : decode cX11_readPlain 54 = .ok (.invokevirtual 164, 3) := by decide +kernel
theorem dX11_readPlain_57 : decode cX11_readPlain 57 = .ok (.ifCond .ne 4, 3) := by decide +kernel
theorem dX11_readPlain_60 : decode cX11_readPlain 60 = .ok (.return_, 1) := by decide +kernel
theorem dX11_readPlain_61 : decode cX11_readPlain 61 = .ok (.aload_n 0, 1) := by decide +kernel
theorem dX11_readPlain_62 : decode cX11_readPlain 62 = .ok (.dup, 1) := by decide +kernel
theorem dX11_readPlain_63 : decode cX11_readPlain 63 = .ok (.getfield 168, 3) := by decide +kernel
theorem dX11_readPlain_66 : decode cX11_readPlain 66 = .ok (.iconst 1, 1) := by decide +kernel
theorem dX11_readPlain_67 : decode cX11_readPlain 67 = .ok (.iadd, 1) := by decide +kernel
theorem dX11_readPlain_68 : decode cX11_readPlain 68 = .ok (.putfield 168, 3) := by decide +kernel
theorem dX11_readPlain_71 : decode cX11_readPlain 71 = .ok (.aload_n 0, 1) := by decide +kernel
theorem dX11_readPlain_72 : decode cX11_readPlain 72 = .ok (.iload_n 1, 1) := by decide +kernel
theorem dX11_readPlain_73 : decode cX11_readPlain 73 = .ok (.iconst 1, 1) := by decide +kernel
theorem dX11_readPlain_74 : decode cX11_readPlain 74 = .ok (.iadd, 1) := by decide +kernel
theorem dX11_readPlain_75 : decode cX11_readPlain 75 = .ok (.invokevirtual 187, 3) := by decide +kernel
theorem dX11_readPlain_78 : decode cX11_readPlain 78 = .ok (.aload_n 0, 1) := by decide +kernel
theorem dX11_readPlain_79 : decode cX11_readPlain 79 = .ok (.bipush 41, 2) := by decide +kernel
theorem dX11_readPlain_81 : decode cX11_readPlain 81 = .ok (.invokestatic 210, 3) := by decide +kernel
theorem dX11_readPlain_84 : decode cX11_readPlain 84 = .ok (.invokevirtual 184, 3) := by decide +kernel
theorem dX11_readPlain_87 : decode cX11_readPlain 87 = .ok (.goto 46, 3) := by decide +kernel
theorem dX11_readPlain_90 : decode cX11_readPlain 90 = .ok (.aload_n 0, 1) := by decide +kernel
theorem dX11_readPlain_91 : decode cX11_readPlain 91 = .ok (.iload_n 1, 1) := by decide +kernel
theorem dX11_readPlain_92 : decode cX11_readPlain 92 = .ok (.invokevirtual 180, 3) := by decide +kernel
theorem dX11_readPlain_95 : decode cX11_readPlain 95 = .ok (.aload_n 0, 1) := by decide +kernel
theorem dX11_readPlain_96 : decode cX11_readPlain 96 = .ok (.bipush 60, 2) := by decide +kernel
theorem dX11_readPlain_98 : decode cX11_readPlain 98 = .ok (.invokestatic 210, 3) := by decide +kernel
theorem dX11_readPlain_101 : decode cX11_readPlain 101 = .ok (.invokevirtual 171, 3) := by decide +kernel
theorem dX11_readPlain_104 : decode cX11_readPlain 104 = .ok (.ifCond .ne 24, 3) := by decide +kernel
theorem dX11_readPlain_107 : decode cX11_readPlain 107 = .ok (.aload_n 0, 1) := by decide +kernel
theorem dX11_readPlain_108 : decode cX11_readPlain 108 = .ok (.bipush 62, 2) := by decide +kernel
theorem dX11_readPlain_110 : decode cX11_readPlain 110 = .ok (.invokestatic 210, 3) := by decide +kernel
theorem dX11_readPlain_113 : decode cX11_readPlain 113 = .ok (.invokevirtual 171, 3) := by decide +kernel
theorem dX11_readPlain_116 : decode cX11_readPlain 116 = .ok (.ifCond .ne 12, 3) := by decide +kernel
theorem dX11_readPlain_119 : decode cX11_readPlain 119 = .ok (.aload_n 0, 1) := by decide +kernel
theorem dX11_readPlain_120 : decode cX11_readPlain 120 = .ok (.bipush 61, 2) := by decide +kernel
theorem dX11_readPlain_122 : decode cX11_readPlain 122 = .ok (.invokestatic 210, 3) := by decide +kernel
theorem dX11_readPlain_125 : decode cX11_readPlain 125 = .ok (.invokevirtual 184, 3) := by decide +kernel
theorem dX11_readPlain_128 : decode cX11_readPlain 128 = .ok (.aload_n 0, 1) := by decide +kernel
theorem dX11_readPlain_129 : decode cX11_readPlain 129 = .ok (.iload_n 1, 1) := by decide +kernel
theorem dX11_readPlain_130 : decode cX11_readPlain 130 = .ok (.invokevirtual 180, 3) := by decide +kernel
theorem dX11_readPlain_133 : decode cX11_readPlain 133 = .ok (.return_, 1) := by decide +kernel
theorem dX11_readTest_0 : decode cX11_readTest 0 = .ok (.aload_n 0, 1) := by decide +kernel
theorem dX11_readTest_1 : decode cX11_readTest 1 = .ok (.iload_n 1, 1) := by decide +kernel
theorem dX11_readTest_2 : decode cX11_readTest 2 = .ok (.invokevirtual 204, 3) := by decide +kernel
theorem dX11_readTest_5 : decode cX11_readTest 5 = .ok (.aload_n 0, 1) := by decide +kernel
theorem dX11_readTest_6 : decode cX11_readTest 6 = .ok (.bipush 7, 2) := by decide +kernel
theorem dX11_readTest_8 : decode cX11_readTest 8 = .ok (.invokevirtual 171, 3) := by decide +kernel
theorem dX11_readTest_11 : decode cX11_readTest 11 = .ok (.ifCond .eq 11, 3) := by decide +kernel
theorem dX11_readTest_14 : decode cX11_readTest 14 = .ok (.aload_n 0, 1) := by decide +kernel
theorem dX11_readTest_15 : decode cX11_readTest 15 = .ok (.iload_n 1, 1) := by decide +kernel
theorem dX11_readTest_16 : decode cX11_readTest 16 = .ok (.invokevirtual 204, 3) := by decide +kernel
theorem dX11_readTest_19 : decode cX11_readTest 19 = .ok (.goto (-14), 3) := by decide +kernel
theorem dX11_readTest_22 : decode cX11_readTest 22 = .ok (.return_, 1) := by decide +kernel
def L_X11_readBoth_5 (Q : st_S → Prop) (rc_X11_readBoth : Int → st_S → (st_S → Prop) → Prop) (rc_X11_readPlain : Int → st_S → (st_S → Prop) → Prop) (rc_X11_readTest : Int → st_S → (st_S → Prop) → Prop)  : Nat → Int → st_S → Prop
  | 0 => fun _ _ => False
  | n + 1 => fun l1 σ => wp_X11_takes0 8 σ (fun r7 s8 => (r7 = 0 → Q s8) ∧ (¬ r7 = 0 → rc_X11_readPlain l1 s8 (fun s10 => (L_X11_readBoth_5 Q rc_X11_readBoth rc_X11_readPlain rc_X11_readTest n) l1 s10)))
def e_X11_readBoth (rc_X11_readBoth : Int → st_S → (st_S → Prop) → Prop) (rc_X11_readPlain : Int → st_S → (st_S → Prop) → Prop) (rc_X11_readTest : Int → st_S → (st_S → Prop) → Prop) (a1 : Int) (σ : st_S) (Q : st_S → Prop) : Prop := rc_X11_readPlain a1 σ (fun s13 => ∃ m5 : Nat, L_X11_readBoth_5 Q rc_X11_readBoth rc_X11_readPlain rc_X11_readTest m5 a1 s13)
def B_X11_readPlain_133 (Q : st_S → Prop) (rc_X11_readBoth : Int → st_S → (st_S → Prop) → Prop) (rc_X11_readPlain : Int → st_S → (st_S → Prop) → Prop) (rc_X11_readTest : Int → st_S → (st_S → Prop) → Prop)   (σ : st_S) : Prop := Q σ
def B_X11_readPlain_53 (Q : st_S → Prop) (rc_X11_readBoth : Int → st_S → (st_S → Prop) → Prop) (rc_X11_readPlain : Int → st_S → (st_S → Prop) → Prop) (rc_X11_readTest : Int → st_S → (st_S → Prop) → Prop)  (l1 : Int) (σ : st_S) : Prop := wp_X11_fine σ (fun r42 s43 => (¬ r42 = 0 → ∀ x45 : Int, x45 = wr (gI s43 0 19 + 1) → ∀ s46 : st_S, s46 = sI s43 0 19 x45 → rc_X11_readTest (wr (l1 + 1)) s46 (fun s48 => wp_X11_sign 41 s48 (fun r49 s50 => wp_X11_must r49 s50 (fun s52 => B_X11_readPlain_133 Q rc_X11_readBoth rc_X11_readPlain rc_X11_readTest s52)))) ∧ (r42 = 0 → Q s43))
def B_X11_readPlain_128 (Q : st_S → Prop) (rc_X11_readBoth : Int → st_S → (st_S → Prop) → Prop) (rc_X11_readPlain : Int → st_S → (st_S → Prop) → Prop) (rc_X11_readTest : Int → st_S → (st_S → Prop) → Prop)  (l1 : Int) (σ : st_S) : Prop := wp_X11_readSum 40 l1 σ (fun s55 => B_X11_readPlain_133 Q rc_X11_readBoth rc_X11_readPlain rc_X11_readTest s55)
def L_X11_readPlain_2 (Q : st_S → Prop) (rc_X11_readBoth : Int → st_S → (st_S → Prop) → Prop) (rc_X11_readPlain : Int → st_S → (st_S → Prop) → Prop) (rc_X11_readTest : Int → st_S → (st_S → Prop) → Prop)  : Nat → Int → Int → st_S → Prop
  | 0 => fun _ _ _ => False
  | n + 1 => fun l1 l2 σ => (l2 = 0 → wp_X11_fine σ (fun r56 s57 => (¬ r56 = 0 → ix (gI s57 0 19) 401 ∧ ∀ x61 : Int, x61 = gI s57 9 (Int.toNat (gI s57 0 19)) → wp_X11_sign 40 s57 (fun r62 s63 => (¬ x61 = r62 → wp_X11_readSum 40 l1 s63 (fun s65 => wp_X11_sign 60 s65 (fun r66 s67 => wp_X11_takes0 r66 s67 (fun r68 s69 => (¬ r68 = 0 → B_X11_readPlain_128 Q rc_X11_readBoth rc_X11_readPlain rc_X11_readTest l1 s69) ∧ (r68 = 0 → wp_X11_sign 62 s69 (fun r70 s71 => wp_X11_takes0 r70 s71 (fun r72 s73 => (¬ r72 = 0 → B_X11_readPlain_128 Q rc_X11_readBoth rc_X11_readPlain rc_X11_readTest l1 s73) ∧ (r72 = 0 → wp_X11_sign 61 s73 (fun r74 s75 => wp_X11_must r74 s75 (fun s77 => B_X11_readPlain_128 Q rc_X11_readBoth rc_X11_readPlain rc_X11_readTest l1 s77)))))))))) ∧ (x61 = r62 → (¬ l1 = 8 → B_X11_readPlain_53 Q rc_X11_readBoth rc_X11_readPlain rc_X11_readTest l1 s63) ∧ (l1 = 8 → wp_X11_faults s63 (fun s81 => B_X11_readPlain_53 Q rc_X11_readBoth rc_X11_readPlain rc_X11_readTest l1 s81))))) ∧ (r56 = 0 → Q s57))) ∧ (¬ l2 = 0 → wp_X11_takes0 9 σ (fun r85 s86 => (L_X11_readPlain_2 Q rc_X11_readBoth rc_X11_readPlain rc_X11_readTest n) l1 r85 s86))
def e_X11_readPlain (rc_X11_readBoth : Int → st_S → (st_S → Prop) → Prop) (rc_X11_readPlain : Int → st_S → (st_S → Prop) → Prop) (rc_X11_readTest : Int → st_S → (st_S → Prop) → Prop) (a1 : Int) (σ : st_S) (Q : st_S → Prop) : Prop := ∃ m2 : Nat, L_X11_readPlain_2 Q rc_X11_readBoth rc_X11_readPlain rc_X11_readTest m2 a1 1 σ
def L_X11_readTest_5 (Q : st_S → Prop) (rc_X11_readBoth : Int → st_S → (st_S → Prop) → Prop) (rc_X11_readPlain : Int → st_S → (st_S → Prop) → Prop) (rc_X11_readTest : Int → st_S → (st_S → Prop) → Prop)  : Nat → Int → st_S → Prop
  | 0 => fun _ _ => False
  | n + 1 => fun l1 σ => wp_X11_takes0 7 σ (fun r7 s8 => (r7 = 0 → Q s8) ∧ (¬ r7 = 0 → rc_X11_readBoth l1 s8 (fun s10 => (L_X11_readTest_5 Q rc_X11_readBoth rc_X11_readPlain rc_X11_readTest n) l1 s10)))
def e_X11_readTest (rc_X11_readBoth : Int → st_S → (st_S → Prop) → Prop) (rc_X11_readPlain : Int → st_S → (st_S → Prop) → Prop) (rc_X11_readTest : Int → st_S → (st_S → Prop) → Prop) (a1 : Int) (σ : st_S) (Q : st_S → Prop) : Prop := rc_X11_readBoth a1 σ (fun s13 => ∃ m5 : Nat, L_X11_readTest_5 Q rc_X11_readBoth rc_X11_readPlain rc_X11_readTest m5 a1 s13)
def G_X11_readBoth : Nat → (Int → st_S → (st_S → Prop) → Prop) × (Int → st_S → (st_S → Prop) → Prop) × (Int → st_S → (st_S → Prop) → Prop)
  | 0 => (fun _ _ _ => False, fun _ _ _ => False, fun _ _ _ => False)
  | d + 1 => (e_X11_readBoth ((G_X11_readBoth d).1) ((G_X11_readBoth d).2.1) ((G_X11_readBoth d).2.2), e_X11_readPlain ((G_X11_readBoth d).1) ((G_X11_readBoth d).2.1) ((G_X11_readBoth d).2.2), e_X11_readTest ((G_X11_readBoth d).1) ((G_X11_readBoth d).2.1) ((G_X11_readBoth d).2.2))
def wp_X11_readBoth (d : Nat) : Int → st_S → (st_S → Prop) → Prop := (G_X11_readBoth d).1
def wp_X11_readPlain (d : Nat) : Int → st_S → (st_S → Prop) → Prop := (G_X11_readBoth d).2.1
def wp_X11_readTest (d : Nat) : Int → st_S → (st_S → Prop) → Prop := (G_X11_readBoth d).2.2
set_option maxRecDepth 20000 in
theorem jl_X11_readBoth_5 {X : jj_X} {E : ev_E} {n0 hN : Nat} (hc : Cx X E cX11_readBoth 2 n0 hN RX11) (hm : eM E = 2) (hr : (xT X).sig.returnType = none) {d : Nat} (hh : 45 + (d + 1) ≤ hN) {Q : st_S → Prop} {rc_X11_readBoth : Int → st_S → (st_S → Prop) → Prop} (hr_X11_readBoth : ∀ {l : Launch} {E : ev_E} (hE : Eok E) (hm : eM E = 2) {a1 : Int} (ca1 : wr a1 = a1) {σ : st_S} {Q : st_S → Prop}, rc_X11_readBoth a1 σ Q → cM l yX11_readBoth cX11_readBoth 2 none E (45 + d) 0 0 [vR E 0, vI a1] σ (qV E (gN σ + 0) Q)) {rc_X11_readPlain : Int → st_S → (st_S → Prop) → Prop} (hr_X11_readPlain : ∀ {l : Launch} {E : ev_E} (hE : Eok E) (hm : eM E = 2) {a1 : Int} (ca1 : wr a1 = a1) {σ : st_S} {Q : st_S → Prop}, rc_X11_readPlain a1 σ Q → cM l yX11_readPlain cX11_readPlain 4 none E (45 + d) 0 0 [vR E 0, vI a1] σ (qV E (gN σ + 0) Q)) {rc_X11_readTest : Int → st_S → (st_S → Prop) → Prop} (hr_X11_readTest : ∀ {l : Launch} {E : ev_E} (hE : Eok E) (hm : eM E = 2) {a1 : Int} (ca1 : wr a1 = a1) {σ : st_S} {Q : st_S → Prop}, rc_X11_readTest a1 σ Q → cM l yX11_readTest cX11_readTest 2 none E (45 + d) 0 0 [vR E 0, vI a1] σ (qV E (gN σ + 0) Q)) : ∀ (n : Nat) {l1 : Int} (cl1 : wr l1 = l1) {σ : st_S}, L_X11_readBoth_5 Q rc_X11_readBoth rc_X11_readPlain rc_X11_readTest n l1 σ → J X E 2 n0 0 0 (MQ (xB X) (qV E (n0 + 0) Q) (xA X) (xS X) 0 0 (eF E)) σ 5 [(0, vR E 0), (1, vI l1)] [] := by
  have hh1 : 1 ≤ hN := by omega
  intro n
  induction n with
  | zero => intro l1 cl1 σ h; exact h.elim
  | succ n ih =>
    intro l1 cl1 σ h
    have hk5 : ∀ {l1 : Int} (cl1 : wr l1 = l1) {σ : st_S}, L_X11_readBoth_5 Q rc_X11_readBoth rc_X11_readPlain rc_X11_readTest n l1 σ → J X E 2 n0 0 0 (MQ (xB X) (qV E (n0 + 0) Q) (xA X) (xS X) 0 0 (eF E)) σ 5 [(0, vR E 0), (1, vI l1)] [] := ih
    replace h : wp_X11_takes0 8 σ (fun r7 s8 => (r7 = 0 → Q s8) ∧ (¬ r7 = 0 → rc_X11_readPlain l1 s8 (fun s10 => (L_X11_readBoth_5 Q rc_X11_readBoth rc_X11_readPlain rc_X11_readTest n) l1 s10))) := h
    refine j_aload_nR hc 0 dX11_readBoth_5 rfl rfl ?_
    refine j_bipush hc dX11_readBoth_6 (by decide) ?_
    refine j_vI hc (k := 11) (by decide) (fun hv => Or.inl (sv_k hv hm rfl)) ml_RX11_171 mv_X11_takes0 (As := [vI 8]) (c_X11_takes0 (cx_E hc) hm (wlit 8 (by decide)) h) rfl (by omega) (by decide) ⟨Nat.zero_le _, Nat.zero_le _⟩ (Nat.le_of_ble_eq_true rfl) rfl dX11_readBoth_8 (fun r7 s8 cr7 h => ?_)
    refine j_if_eq hc cr7 (tgt := 22) dX11_readBoth_11 (by decide) (fun q11 => ?_) (fun q11 => ?_)
    · replace h := h.1 q11
      exact j_vret hc hr h dX11_readBoth_22
    · replace h := h.2 q11
      refine j_aload_nR hc 0 dX11_readBoth_14 rfl rfl ?_
      refine j_iload_n hc 1 dX11_readBoth_15 rfl rfl ?_
      refine j_vV hc (k := 11) (by decide) (fun hv => Or.inl (sv_k hv hm rfl)) ml_RX11_207 mv_X11_readPlain (As := [vI l1]) (hr_X11_readPlain (cx_E hc) hm cl1 h) rfl (by omega) (by decide) ⟨Nat.zero_le _, Nat.zero_le _⟩ (Nat.le_of_ble_eq_true rfl) rfl dX11_readBoth_16 (fun s10 h => ?_)
      refine j_goto (tgt := 5) hc dX11_readBoth_19 (by decide) ?_
      refine j_sub (lv' := [(0, vR E 0), (1, vI l1)]) [0, 1] rfl ?_
      exact hk5 cl1 h
set_option maxRecDepth 20000 in
theorem ce_X11_readBoth {d : Nat} {rc_X11_readBoth : Int → st_S → (st_S → Prop) → Prop} (hr_X11_readBoth : ∀ {l : Launch} {E : ev_E} (hE : Eok E) (hm : eM E = 2) {a1 : Int} (ca1 : wr a1 = a1) {σ : st_S} {Q : st_S → Prop}, rc_X11_readBoth a1 σ Q → cM l yX11_readBoth cX11_readBoth 2 none E (45 + d) 0 0 [vR E 0, vI a1] σ (qV E (gN σ + 0) Q)) {rc_X11_readPlain : Int → st_S → (st_S → Prop) → Prop} (hr_X11_readPlain : ∀ {l : Launch} {E : ev_E} (hE : Eok E) (hm : eM E = 2) {a1 : Int} (ca1 : wr a1 = a1) {σ : st_S} {Q : st_S → Prop}, rc_X11_readPlain a1 σ Q → cM l yX11_readPlain cX11_readPlain 4 none E (45 + d) 0 0 [vR E 0, vI a1] σ (qV E (gN σ + 0) Q)) {rc_X11_readTest : Int → st_S → (st_S → Prop) → Prop} (hr_X11_readTest : ∀ {l : Launch} {E : ev_E} (hE : Eok E) (hm : eM E = 2) {a1 : Int} (ca1 : wr a1 = a1) {σ : st_S} {Q : st_S → Prop}, rc_X11_readTest a1 σ Q → cM l yX11_readTest cX11_readTest 2 none E (45 + d) 0 0 [vR E 0, vI a1] σ (qV E (gN σ + 0) Q)) {l : Launch} {E : ev_E} (hE : Eok E) (hm : eM E = 2) {a1 : Int} (ca1 : wr a1 = a1) {σ : st_S} {Q : st_S → Prop} (h : e_X11_readBoth rc_X11_readBoth rc_X11_readPlain rc_X11_readTest a1 σ Q) : cM l yX11_readBoth cX11_readBoth 2 none E (45 + (d + 1)) 0 0 [vR E 0, vI a1] σ (qV E (gN σ + 0) Q) := by
  refine cM_of (lv := [(0, vR E 0), (1, vI a1)]) (by decide) hE (Nat.le_of_ble_eq_true rfl) (rfl) ?_
  intro X hX hc _ _ hr _ _
  subst hX
  have hh : 45 + (d + 1) ≤ 45 + (d + 1) := Nat.le_refl _
  have hh1 : 1 ≤ 45 + (d + 1) := by omega
  replace h : rc_X11_readPlain a1 σ (fun s13 => ∃ m5 : Nat, L_X11_readBoth_5 Q rc_X11_readBoth rc_X11_readPlain rc_X11_readTest m5 a1 s13) := h
  refine j_aload_nR hc 0 dX11_readBoth_0 rfl rfl ?_
  refine j_iload_n hc 1 dX11_readBoth_1 rfl rfl ?_
  refine j_vV hc (k := 11) (by decide) (fun hv => Or.inl (sv_k hv hm rfl)) ml_RX11_207 mv_X11_readPlain (As := [vI a1]) (hr_X11_readPlain (cx_E hc) hm ca1 h) rfl (by omega) (by decide) ⟨Nat.zero_le _, Nat.zero_le _⟩ (Nat.le_of_ble_eq_true rfl) rfl dX11_readBoth_2 (fun s13 h => ?_)
  obtain ⟨n5, h⟩ := h
  refine j_sub (lv' := [(0, vR E 0), (1, vI a1)]) [0, 1] rfl ?_
  exact jl_X11_readBoth_5 hc hm hr hh hr_X11_readBoth hr_X11_readPlain hr_X11_readTest n5 ca1 h
set_option maxRecDepth 20000 in
theorem jb_X11_readPlain_133 {X : jj_X} {E : ev_E} {n0 hN : Nat} (hc : Cx X E cX11_readPlain 4 n0 hN RX11) (hm : eM E = 2) (hr : (xT X).sig.returnType = none) {d : Nat} (hh : 45 + (d + 1) ≤ hN) {Q : st_S → Prop} {rc_X11_readBoth : Int → st_S → (st_S → Prop) → Prop} (hr_X11_readBoth : ∀ {l : Launch} {E : ev_E} (hE : Eok E) (hm : eM E = 2) {a1 : Int} (ca1 : wr a1 = a1) {σ : st_S} {Q : st_S → Prop}, rc_X11_readBoth a1 σ Q → cM l yX11_readBoth cX11_readBoth 2 none E (45 + d) 0 0 [vR E 0, vI a1] σ (qV E (gN σ + 0) Q)) {rc_X11_readPlain : Int → st_S → (st_S → Prop) → Prop} (hr_X11_readPlain : ∀ {l : Launch} {E : ev_E} (hE : Eok E) (hm : eM E = 2) {a1 : Int} (ca1 : wr a1 = a1) {σ : st_S} {Q : st_S → Prop}, rc_X11_readPlain a1 σ Q → cM l yX11_readPlain cX11_readPlain 4 none E (45 + d) 0 0 [vR E 0, vI a1] σ (qV E (gN σ + 0) Q)) {rc_X11_readTest : Int → st_S → (st_S → Prop) → Prop} (hr_X11_readTest : ∀ {l : Launch} {E : ev_E} (hE : Eok E) (hm : eM E = 2) {a1 : Int} (ca1 : wr a1 = a1) {σ : st_S} {Q : st_S → Prop}, rc_X11_readTest a1 σ Q → cM l yX11_readTest cX11_readTest 2 none E (45 + d) 0 0 [vR E 0, vI a1] σ (qV E (gN σ + 0) Q)) {σ : st_S} (h : B_X11_readPlain_133 Q rc_X11_readBoth rc_X11_readPlain rc_X11_readTest σ) : J X E 4 n0 0 0 (MQ (xB X) (qV E (n0 + 0) Q) (xA X) (xS X) 0 0 (eF E)) σ 133 [] [] := by
  have hh1 : 1 ≤ hN := by omega
  replace h : Q σ := h
  exact j_vret hc hr h dX11_readPlain_133
set_option maxRecDepth 20000 in
theorem jb_X11_readPlain_53 {X : jj_X} {E : ev_E} {n0 hN : Nat} (hc : Cx X E cX11_readPlain 4 n0 hN RX11) (hm : eM E = 2) (hr : (xT X).sig.returnType = none) {d : Nat} (hh : 45 + (d + 1) ≤ hN) {Q : st_S → Prop} {rc_X11_readBoth : Int → st_S → (st_S → Prop) → Prop} (hr_X11_readBoth : ∀ {l : Launch} {E : ev_E} (hE : Eok E) (hm : eM E = 2) {a1 : Int} (ca1 : wr a1 = a1) {σ : st_S} {Q : st_S → Prop}, rc_X11_readBoth a1 σ Q → cM l yX11_readBoth cX11_readBoth 2 none E (45 + d) 0 0 [vR E 0, vI a1] σ (qV E (gN σ + 0) Q)) {rc_X11_readPlain : Int → st_S → (st_S → Prop) → Prop} (hr_X11_readPlain : ∀ {l : Launch} {E : ev_E} (hE : Eok E) (hm : eM E = 2) {a1 : Int} (ca1 : wr a1 = a1) {σ : st_S} {Q : st_S → Prop}, rc_X11_readPlain a1 σ Q → cM l yX11_readPlain cX11_readPlain 4 none E (45 + d) 0 0 [vR E 0, vI a1] σ (qV E (gN σ + 0) Q)) {rc_X11_readTest : Int → st_S → (st_S → Prop) → Prop} (hr_X11_readTest : ∀ {l : Launch} {E : ev_E} (hE : Eok E) (hm : eM E = 2) {a1 : Int} (ca1 : wr a1 = a1) {σ : st_S} {Q : st_S → Prop}, rc_X11_readTest a1 σ Q → cM l yX11_readTest cX11_readTest 2 none E (45 + d) 0 0 [vR E 0, vI a1] σ (qV E (gN σ + 0) Q)) {l1 : Int} (cl1 : wr l1 = l1) {σ : st_S} (h : B_X11_readPlain_53 Q rc_X11_readBoth rc_X11_readPlain rc_X11_readTest l1 σ) : J X E 4 n0 0 0 (MQ (xB X) (qV E (n0 + 0) Q) (xA X) (xS X) 0 0 (eF E)) σ 53 [(0, vR E 0), (1, vI l1)] [] := by
  have hh1 : 1 ≤ hN := by omega
  replace h : wp_X11_fine σ (fun r42 s43 => (¬ r42 = 0 → ∀ x45 : Int, x45 = wr (gI s43 0 19 + 1) → ∀ s46 : st_S, s46 = sI s43 0 19 x45 → rc_X11_readTest (wr (l1 + 1)) s46 (fun s48 => wp_X11_sign 41 s48 (fun r49 s50 => wp_X11_must r49 s50 (fun s52 => B_X11_readPlain_133 Q rc_X11_readBoth rc_X11_readPlain rc_X11_readTest s52)))) ∧ (r42 = 0 → Q s43)) := h
  refine j_aload_nR hc 0 dX11_readPlain_53 rfl rfl ?_
  refine j_vI hc (k := 11) (by decide) (fun hv => Or.inl (sv_k hv hm rfl)) ml_RX11_164 mv_X11_fine (As := []) (c_X11_fine (cx_E hc) hm  h) rfl (by omega) (by decide) ⟨Nat.zero_le _, Nat.zero_le _⟩ (Nat.le_of_ble_eq_true rfl) rfl dX11_readPlain_54 (fun r42 s43 cr42 h => ?_)
  refine j_if_ne hc cr42 (tgt := 61) dX11_readPlain_57 (by decide) (fun q53 => ?_) (fun q53 => ?_)
  · replace h := h.1 q53
    refine j_aload_nR hc 0 dX11_readPlain_61 rfl rfl ?_
    refine j_dup hc dX11_readPlain_62 rfl ?_
    refine j_getI hc fl_RX11_168 (Or.inl rfl) (fun hv => Or.inl (sv_k hv hm rfl)) dX11_readPlain_63 (fun cn44 => ?_)
    refine j_iconst hc dX11_readPlain_66 ?_
    refine j_iadd hc dX11_readPlain_67 ?_
    refine j_w (fun x45 ex45 cx45 => ?_)
    replace h := h x45 ex45
    refine j_putI hc fl_RX11_168 rfl rfl (fun hv => Or.inl (sv_k hv hm rfl)) cx45 dX11_readPlain_68 (fun s46 es46 => ?_)
    replace h := h s46 es46
    refine j_aload_nR hc 0 dX11_readPlain_71 rfl rfl ?_
    refine j_iload_n hc 1 dX11_readPlain_72 rfl rfl ?_
    refine j_iconst hc dX11_readPlain_73 ?_
    refine j_iadd hc dX11_readPlain_74 ?_
    refine j_vV hc (k := 11) (by decide) (fun hv => Or.inl (sv_k hv hm rfl)) ml_RX11_187 mv_X11_readTest (As := [vI (wr (l1 + 1))]) (hr_X11_readTest (cx_E hc) hm (wr_wr _) h) rfl (by omega) (by decide) ⟨Nat.zero_le _, Nat.zero_le _⟩ (Nat.le_of_ble_eq_true rfl) (by simp only [vI_wr, vL_wl]; rfl) dX11_readPlain_75 (fun s48 h => ?_)
    refine j_aload_nR hc 0 dX11_readPlain_78 rfl rfl ?_
    refine j_bipush hc dX11_readPlain_79 (by decide) ?_
    refine j_sI hc ml_RX11_210 mv_X11_sign (As := [vI 41]) (c_X11_sign (cx_E hc) hm (wlit 41 (by decide)) h) rfl (by omega) (by decide) ⟨Nat.zero_le _, Nat.zero_le _⟩ (Nat.le_of_ble_eq_true rfl) rfl dX11_readPlain_81 (fun r49 s50 cr49 h => ?_)
    refine j_vV hc (k := 11) (by decide) (fun hv => Or.inl (sv_k hv hm rfl)) ml_RX11_184 mv_X11_must (As := [vI r49]) (c_X11_must (cx_E hc) hm cr49 h) rfl (by omega) (by decide) ⟨Nat.zero_le _, Nat.zero_le _⟩ (Nat.le_of_ble_eq_true rfl) rfl dX11_readPlain_84 (fun s52 h => ?_)
    refine j_goto (tgt := 133) hc dX11_readPlain_87 (by decide) ?_
    refine j_sub (lv' := []) [] rfl ?_
    exact jb_X11_readPlain_133 hc hm hr hh hr_X11_readBoth hr_X11_readPlain hr_X11_readTest h
  · replace h := h.2 q53
    exact j_vret hc hr h dX11_readPlain_60
set_option maxRecDepth 20000 in
theorem jb_X11_readPlain_128 {X : jj_X} {E : ev_E} {n0 hN : Nat} (hc : Cx X E cX11_readPlain 4 n0 hN RX11) (hm : eM E = 2) (hr : (xT X).sig.returnType = none) {d : Nat} (hh : 45 + (d + 1) ≤ hN) {Q : st_S → Prop} {rc_X11_readBoth : Int → st_S → (st_S → Prop) → Prop} (hr_X11_readBoth : ∀ {l : Launch} {E : ev_E} (hE : Eok E) (hm : eM E = 2) {a1 : Int} (ca1 : wr a1 = a1) {σ : st_S} {Q : st_S → Prop}, rc_X11_readBoth a1 σ Q → cM l yX11_readBoth cX11_readBoth 2 none E (45 + d) 0 0 [vR E 0, vI a1] σ (qV E (gN σ + 0) Q)) {rc_X11_readPlain : Int → st_S → (st_S → Prop) → Prop} (hr_X11_readPlain : ∀ {l : Launch} {E : ev_E} (hE : Eok E) (hm : eM E = 2) {a1 : Int} (ca1 : wr a1 = a1) {σ : st_S} {Q : st_S → Prop}, rc_X11_readPlain a1 σ Q → cM l yX11_readPlain cX11_readPlain 4 none E (45 + d) 0 0 [vR E 0, vI a1] σ (qV E (gN σ + 0) Q)) {rc_X11_readTest : Int → st_S → (st_S → Prop) → Prop} (hr_X11_readTest : ∀ {l : Launch} {E : ev_E} (hE : Eok E) (hm : eM E = 2) {a1 : Int} (ca1 : wr a1 = a1) {σ : st_S} {Q : st_S → Prop}, rc_X11_readTest a1 σ Q → cM l yX11_readTest cX11_readTest 2 none E (45 + d) 0 0 [vR E 0, vI a1] σ (qV E (gN σ + 0) Q)) {l1 : Int} (cl1 : wr l1 = l1) {σ : st_S} (h : B_X11_readPlain_128 Q rc_X11_readBoth rc_X11_readPlain rc_X11_readTest l1 σ) : J X E 4 n0 0 0 (MQ (xB X) (qV E (n0 + 0) Q) (xA X) (xS X) 0 0 (eF E)) σ 128 [(0, vR E 0), (1, vI l1)] [] := by
  have hh1 : 1 ≤ hN := by omega
  replace h : wp_X11_readSum 40 l1 σ (fun s55 => B_X11_readPlain_133 Q rc_X11_readBoth rc_X11_readPlain rc_X11_readTest s55) := h
  refine j_aload_nR hc 0 dX11_readPlain_128 rfl rfl ?_
  refine j_iload_n hc 1 dX11_readPlain_129 rfl rfl ?_
  refine j_vV hc (k := 11) (by decide) (fun hv => Or.inl (sv_k hv hm rfl)) ml_RX11_180 mv_X11_readSum (As := [vI l1]) (c_X11_readSum (cx_E hc) hm 40 cl1 h) rfl (by omega) (by decide) ⟨Nat.zero_le _, Nat.zero_le _⟩ (Nat.le_of_ble_eq_true rfl) rfl dX11_readPlain_130 (fun s55 h => ?_)
  refine j_sub (lv' := []) [] rfl ?_
  exact jb_X11_readPlain_133 hc hm hr hh hr_X11_readBoth hr_X11_readPlain hr_X11_readTest h
set_option maxRecDepth 20000 in
theorem jl_X11_readPlain_2 {X : jj_X} {E : ev_E} {n0 hN : Nat} (hc : Cx X E cX11_readPlain 4 n0 hN RX11) (hm : eM E = 2) (hr : (xT X).sig.returnType = none) {d : Nat} (hh : 45 + (d + 1) ≤ hN) {Q : st_S → Prop} {rc_X11_readBoth : Int → st_S → (st_S → Prop) → Prop} (hr_X11_readBoth : ∀ {l : Launch} {E : ev_E} (hE : Eok E) (hm : eM E = 2) {a1 : Int} (ca1 : wr a1 = a1) {σ : st_S} {Q : st_S → Prop}, rc_X11_readBoth a1 σ Q → cM l yX11_readBoth cX11_readBoth 2 none E (45 + d) 0 0 [vR E 0, vI a1] σ (qV E (gN σ + 0) Q)) {rc_X11_readPlain : Int → st_S → (st_S → Prop) → Prop} (hr_X11_readPlain : ∀ {l : Launch} {E : ev_E} (hE : Eok E) (hm : eM E = 2) {a1 : Int} (ca1 : wr a1 = a1) {σ : st_S} {Q : st_S → Prop}, rc_X11_readPlain a1 σ Q → cM l yX11_readPlain cX11_readPlain 4 none E (45 + d) 0 0 [vR E 0, vI a1] σ (qV E (gN σ + 0) Q)) {rc_X11_readTest : Int → st_S → (st_S → Prop) → Prop} (hr_X11_readTest : ∀ {l : Launch} {E : ev_E} (hE : Eok E) (hm : eM E = 2) {a1 : Int} (ca1 : wr a1 = a1) {σ : st_S} {Q : st_S → Prop}, rc_X11_readTest a1 σ Q → cM l yX11_readTest cX11_readTest 2 none E (45 + d) 0 0 [vR E 0, vI a1] σ (qV E (gN σ + 0) Q)) : ∀ (n : Nat) {l1 : Int} {l2 : Int} (cl1 : wr l1 = l1) (cl2 : wr l2 = l2) {σ : st_S}, L_X11_readPlain_2 Q rc_X11_readBoth rc_X11_readPlain rc_X11_readTest n l1 l2 σ → J X E 4 n0 0 0 (MQ (xB X) (qV E (n0 + 0) Q) (xA X) (xS X) 0 0 (eF E)) σ 2 [(0, vR E 0), (1, vI l1), (2, vI l2)] [] := by
  have hh1 : 1 ≤ hN := by omega
  intro n
  induction n with
  | zero => intro l1 l2 cl1 cl2 σ h; exact h.elim
  | succ n ih =>
    intro l1 l2 cl1 cl2 σ h
    have hk2 : ∀ {l1 : Int} {l2 : Int} (cl1 : wr l1 = l1) (cl2 : wr l2 = l2) {σ : st_S}, L_X11_readPlain_2 Q rc_X11_readBoth rc_X11_readPlain rc_X11_readTest n l1 l2 σ → J X E 4 n0 0 0 (MQ (xB X) (qV E (n0 + 0) Q) (xA X) (xS X) 0 0 (eF E)) σ 2 [(0, vR E 0), (1, vI l1), (2, vI l2)] [] := ih
    replace h : (l2 = 0 → wp_X11_fine σ (fun r56 s57 => (¬ r56 = 0 → ix (gI s57 0 19) 401 ∧ ∀ x61 : Int, x61 = gI s57 9 (Int.toNat (gI s57 0 19)) → wp_X11_sign 40 s57 (fun r62 s63 => (¬ x61 = r62 → wp_X11_readSum 40 l1 s63 (fun s65 => wp_X11_sign 60 s65 (fun r66 s67 => wp_X11_takes0 r66 s67 (fun r68 s69 => (¬ r68 = 0 → B_X11_readPlain_128 Q rc_X11_readBoth rc_X11_readPlain rc_X11_readTest l1 s69) ∧ (r68 = 0 → wp_X11_sign 62 s69 (fun r70 s71 => wp_X11_takes0 r70 s71 (fun r72 s73 => (¬ r72 = 0 → B_X11_readPlain_128 Q rc_X11_readBoth rc_X11_readPlain rc_X11_readTest l1 s73) ∧ (r72 = 0 → wp_X11_sign 61 s73 (fun r74 s75 => wp_X11_must r74 s75 (fun s77 => B_X11_readPlain_128 Q rc_X11_readBoth rc_X11_readPlain rc_X11_readTest l1 s77)))))))))) ∧ (x61 = r62 → (¬ l1 = 8 → B_X11_readPlain_53 Q rc_X11_readBoth rc_X11_readPlain rc_X11_readTest l1 s63) ∧ (l1 = 8 → wp_X11_faults s63 (fun s81 => B_X11_readPlain_53 Q rc_X11_readBoth rc_X11_readPlain rc_X11_readTest l1 s81))))) ∧ (r56 = 0 → Q s57))) ∧ (¬ l2 = 0 → wp_X11_takes0 9 σ (fun r85 s86 => (L_X11_readPlain_2 Q rc_X11_readBoth rc_X11_readPlain rc_X11_readTest n) l1 r85 s86)) := h
    refine j_iload_n hc 2 dX11_readPlain_2 rfl rfl ?_
    refine j_if_eq hc cl2 (tgt := 16) dX11_readPlain_3 (by decide) (fun q87 => ?_) (fun q87 => ?_)
    · replace h := h.1 q87
      refine j_aload_nR hc 0 dX11_readPlain_16 rfl rfl ?_
      refine j_vI hc (k := 11) (by decide) (fun hv => Or.inl (sv_k hv hm rfl)) ml_RX11_164 mv_X11_fine (As := []) (c_X11_fine (cx_E hc) hm  h) rfl (by omega) (by decide) ⟨Nat.zero_le _, Nat.zero_le _⟩ (Nat.le_of_ble_eq_true rfl) rfl dX11_readPlain_17 (fun r56 s57 cr56 h => ?_)
      refine j_if_ne hc cr56 (tgt := 24) dX11_readPlain_20 (by decide) (fun q84 => ?_) (fun q84 => ?_)
      · replace h := h.1 q84
        refine j_aload_nR hc 0 dX11_readPlain_24 rfl rfl ?_
        refine j_getR (c' := 9) hc fl_RX11_50 rfl rfl (fun hv => (sv_k hv hm rfl)) dX11_readPlain_25 ?_
        refine j_aload_nR hc 0 dX11_readPlain_28 rfl rfl ?_
        refine j_getI hc fl_RX11_168 (Or.inl rfl) (fun hv => Or.inl (sv_k hv hm rfl)) dX11_readPlain_29 (fun cn58 => ?_)
        obtain ⟨b59, h⟩ := h
        refine j_iald (jn := (Int.toNat (gI s57 0 19))) hc (fun hv => sv_kl hv hm rfl) cn58 b59 rfl dX11_readPlain_32 (fun cn60 => ?_)
        refine j_c cn60 (fun x61 ex61 cx61 => ?_)
        replace h := h x61 ex61
        refine j_istore_n (lv' := [(3, vI x61), (0, vR E 0), (1, vI l1), (2, vI l2)]) hc dX11_readPlain_33 rfl (by decide) rfl ?_
        refine j_iload_n hc 0 dX11_readPlain_34 rfl rfl ?_
        refine j_bipush hc dX11_readPlain_35 (by decide) ?_
        refine j_sI hc ml_RX11_210 mv_X11_sign (As := [vI 40]) (c_X11_sign (cx_E hc) hm (wlit 40 (by decide)) h) rfl (by omega) (by decide) ⟨Nat.zero_le _, Nat.zero_le _⟩ (Nat.le_of_ble_eq_true rfl) rfl dX11_readPlain_37 (fun r62 s63 cr62 h => ?_)
        refine j_ic_ne hc cx61 cr62 (tgt := 90) dX11_readPlain_40 (by decide) (fun q83 => ?_) (fun q83 => ?_)
        · replace h := h.1 q83
          refine j_aload_nR hc 1 dX11_readPlain_90 rfl rfl ?_
          refine j_iload_n hc 2 dX11_readPlain_91 rfl rfl ?_
          refine j_vV hc (k := 11) (by decide) (fun hv => Or.inl (sv_k hv hm rfl)) ml_RX11_180 mv_X11_readSum (As := [vI l1]) (c_X11_readSum (cx_E hc) hm 40 cl1 h) rfl (by omega) (by decide) ⟨Nat.zero_le _, Nat.zero_le _⟩ (Nat.le_of_ble_eq_true rfl) rfl dX11_readPlain_92 (fun s65 h => ?_)
          refine j_aload_nR hc 1 dX11_readPlain_95 rfl rfl ?_
          refine j_bipush hc dX11_readPlain_96 (by decide) ?_
          refine j_sI hc ml_RX11_210 mv_X11_sign (As := [vI 60]) (c_X11_sign (cx_E hc) hm (wlit 60 (by decide)) h) rfl (by omega) (by decide) ⟨Nat.zero_le _, Nat.zero_le _⟩ (Nat.le_of_ble_eq_true rfl) rfl dX11_readPlain_98 (fun r66 s67 cr66 h => ?_)
          refine j_vI hc (k := 11) (by decide) (fun hv => Or.inl (sv_k hv hm rfl)) ml_RX11_171 mv_X11_takes0 (As := [vI r66]) (c_X11_takes0 (cx_E hc) hm cr66 h) rfl (by omega) (by decide) ⟨Nat.zero_le _, Nat.zero_le _⟩ (Nat.le_of_ble_eq_true rfl) rfl dX11_readPlain_101 (fun r68 s69 cr68 h => ?_)
          refine j_if_ne hc cr68 (tgt := 128) dX11_readPlain_104 (by decide) (fun q79 => ?_) (fun q79 => ?_)
          · replace h := h.1 q79
            refine j_sub (lv' := [(0, vR E 0), (1, vI l1)]) [1, 2] rfl ?_
            exact jb_X11_readPlain_128 hc hm hr hh hr_X11_readBoth hr_X11_readPlain hr_X11_readTest cl1 h
          · replace h := h.2 q79
            refine j_aload_nR hc 1 dX11_readPlain_107 rfl rfl ?_
            refine j_bipush hc dX11_readPlain_108 (by decide) ?_
            refine j_sI hc ml_RX11_210 mv_X11_sign (As := [vI 62]) (c_X11_sign (cx_E hc) hm (wlit 62 (by decide)) h) rfl (by omega) (by decide) ⟨Nat.zero_le _, Nat.zero_le _⟩ (Nat.le_of_ble_eq_true rfl) rfl dX11_readPlain_110 (fun r70 s71 cr70 h => ?_)
            refine j_vI hc (k := 11) (by decide) (fun hv => Or.inl (sv_k hv hm rfl)) ml_RX11_171 mv_X11_takes0 (As := [vI r70]) (c_X11_takes0 (cx_E hc) hm cr70 h) rfl (by omega) (by decide) ⟨Nat.zero_le _, Nat.zero_le _⟩ (Nat.le_of_ble_eq_true rfl) rfl dX11_readPlain_113 (fun r72 s73 cr72 h => ?_)
            refine j_if_ne hc cr72 (tgt := 128) dX11_readPlain_116 (by decide) (fun q78 => ?_) (fun q78 => ?_)
            · replace h := h.1 q78
              refine j_sub (lv' := [(0, vR E 0), (1, vI l1)]) [1, 2] rfl ?_
              exact jb_X11_readPlain_128 hc hm hr hh hr_X11_readBoth hr_X11_readPlain hr_X11_readTest cl1 h
            · replace h := h.2 q78
              refine j_aload_nR hc 1 dX11_readPlain_119 rfl rfl ?_
              refine j_bipush hc dX11_readPlain_120 (by decide) ?_
              refine j_sI hc ml_RX11_210 mv_X11_sign (As := [vI 61]) (c_X11_sign (cx_E hc) hm (wlit 61 (by decide)) h) rfl (by omega) (by decide) ⟨Nat.zero_le _, Nat.zero_le _⟩ (Nat.le_of_ble_eq_true rfl) rfl dX11_readPlain_122 (fun r74 s75 cr74 h => ?_)
              refine j_vV hc (k := 11) (by decide) (fun hv => Or.inl (sv_k hv hm rfl)) ml_RX11_184 mv_X11_must (As := [vI r74]) (c_X11_must (cx_E hc) hm cr74 h) rfl (by omega) (by decide) ⟨Nat.zero_le _, Nat.zero_le _⟩ (Nat.le_of_ble_eq_true rfl) rfl dX11_readPlain_125 (fun s77 h => ?_)
              refine j_sub (lv' := [(0, vR E 0), (1, vI l1)]) [1, 2] rfl ?_
              exact jb_X11_readPlain_128 hc hm hr hh hr_X11_readBoth hr_X11_readPlain hr_X11_readTest cl1 h
        · replace h := h.2 q83
          refine j_iload_n hc 2 dX11_readPlain_43 rfl rfl ?_
          refine j_bipush hc dX11_readPlain_44 (by decide) ?_
          refine j_ic_ne hc cl1 (wlit 8 (by decide)) (tgt := 53) dX11_readPlain_46 (by decide) (fun q82 => ?_) (fun q82 => ?_)
          · replace h := h.1 q82
            refine j_sub (lv' := [(0, vR E 0), (1, vI l1)]) [1, 2] rfl ?_
            exact jb_X11_readPlain_53 hc hm hr hh hr_X11_readBoth hr_X11_readPlain hr_X11_readTest cl1 h
          · replace h := h.2 q82
            refine j_aload_nR hc 1 dX11_readPlain_49 rfl rfl ?_
            refine j_vV hc (k := 11) (by decide) (fun hv => Or.inl (sv_k hv hm rfl)) ml_RX11_174 mv_X11_faults (As := []) (c_X11_faults (cx_E hc) hm  h) rfl (by omega) (by decide) ⟨Nat.zero_le _, Nat.zero_le _⟩ (Nat.le_of_ble_eq_true rfl) rfl dX11_readPlain_50 (fun s81 h => ?_)
            refine j_sub (lv' := [(0, vR E 0), (1, vI l1)]) [1, 2] rfl ?_
            exact jb_X11_readPlain_53 hc hm hr hh hr_X11_readBoth hr_X11_readPlain hr_X11_readTest cl1 h
      · replace h := h.2 q84
        exact j_vret hc hr h dX11_readPlain_23
    · replace h := h.2 q87
      refine j_aload_nR hc 0 dX11_readPlain_6 rfl rfl ?_
      refine j_bipush hc dX11_readPlain_7 (by decide) ?_
      refine j_vI hc (k := 11) (by decide) (fun hv => Or.inl (sv_k hv hm rfl)) ml_RX11_171 mv_X11_takes0 (As := [vI 9]) (c_X11_takes0 (cx_E hc) hm (wlit 9 (by decide)) h) rfl (by omega) (by decide) ⟨Nat.zero_le _, Nat.zero_le _⟩ (Nat.le_of_ble_eq_true rfl) rfl dX11_readPlain_9 (fun r85 s86 cr85 h => ?_)
      refine j_istore_n (lv' := [(2, vI r85), (0, vR E 0), (1, vI l1)]) hc dX11_readPlain_12 rfl (by decide) rfl ?_
      refine j_goto (tgt := 2) hc dX11_readPlain_13 (by decide) ?_
      refine j_sub (lv' := [(0, vR E 0), (1, vI l1), (2, vI r85)]) [1, 2, 0] rfl ?_
      exact hk2 cl1 cr85 h
set_option maxRecDepth 20000 in
theorem ce_X11_readPlain {d : Nat} {rc_X11_readBoth : Int → st_S → (st_S → Prop) → Prop} (hr_X11_readBoth : ∀ {l : Launch} {E : ev_E} (hE : Eok E) (hm : eM E = 2) {a1 : Int} (ca1 : wr a1 = a1) {σ : st_S} {Q : st_S → Prop}, rc_X11_readBoth a1 σ Q → cM l yX11_readBoth cX11_readBoth 2 none E (45 + d) 0 0 [vR E 0, vI a1] σ (qV E (gN σ + 0) Q)) {rc_X11_readPlain : Int → st_S → (st_S → Prop) → Prop} (hr_X11_readPlain : ∀ {l : Launch} {E : ev_E} (hE : Eok E) (hm : eM E = 2) {a1 : Int} (ca1 : wr a1 = a1) {σ : st_S} {Q : st_S → Prop}, rc_X11_readPlain a1 σ Q → cM l yX11_readPlain cX11_readPlain 4 none E (45 + d) 0 0 [vR E 0, vI a1] σ (qV E (gN σ + 0) Q)) {rc_X11_readTest : Int → st_S → (st_S → Prop) → Prop} (hr_X11_readTest : ∀ {l : Launch} {E : ev_E} (hE : Eok E) (hm : eM E = 2) {a1 : Int} (ca1 : wr a1 = a1) {σ : st_S} {Q : st_S → Prop}, rc_X11_readTest a1 σ Q → cM l yX11_readTest cX11_readTest 2 none E (45 + d) 0 0 [vR E 0, vI a1] σ (qV E (gN σ + 0) Q)) {l : Launch} {E : ev_E} (hE : Eok E) (hm : eM E = 2) {a1 : Int} (ca1 : wr a1 = a1) {σ : st_S} {Q : st_S → Prop} (h : e_X11_readPlain rc_X11_readBoth rc_X11_readPlain rc_X11_readTest a1 σ Q) : cM l yX11_readPlain cX11_readPlain 4 none E (45 + (d + 1)) 0 0 [vR E 0, vI a1] σ (qV E (gN σ + 0) Q) := by
  refine cM_of (lv := [(0, vR E 0), (1, vI a1)]) (by decide) hE (Nat.le_of_ble_eq_true rfl) (rfl) ?_
  intro X hX hc _ _ hr _ _
  subst hX
  have hh : 45 + (d + 1) ≤ 45 + (d + 1) := Nat.le_refl _
  have hh1 : 1 ≤ 45 + (d + 1) := by omega
  replace h : ∃ m2 : Nat, L_X11_readPlain_2 Q rc_X11_readBoth rc_X11_readPlain rc_X11_readTest m2 a1 1 σ := h
  refine j_iconst hc dX11_readPlain_0 ?_
  refine j_istore_n (lv' := [(2, vI 1), (0, vR E 0), (1, vI a1)]) hc dX11_readPlain_1 rfl (by decide) rfl ?_
  obtain ⟨n2, h⟩ := h
  refine j_sub (lv' := [(0, vR E 0), (1, vI a1), (2, vI 1)]) [1, 2, 0] rfl ?_
  exact jl_X11_readPlain_2 hc hm hr hh hr_X11_readBoth hr_X11_readPlain hr_X11_readTest n2 ca1 (wlit 1 (by decide)) h
set_option maxRecDepth 20000 in
theorem jl_X11_readTest_5 {X : jj_X} {E : ev_E} {n0 hN : Nat} (hc : Cx X E cX11_readTest 2 n0 hN RX11) (hm : eM E = 2) (hr : (xT X).sig.returnType = none) {d : Nat} (hh : 45 + (d + 1) ≤ hN) {Q : st_S → Prop} {rc_X11_readBoth : Int → st_S → (st_S → Prop) → Prop} (hr_X11_readBoth : ∀ {l : Launch} {E : ev_E} (hE : Eok E) (hm : eM E = 2) {a1 : Int} (ca1 : wr a1 = a1) {σ : st_S} {Q : st_S → Prop}, rc_X11_readBoth a1 σ Q → cM l yX11_readBoth cX11_readBoth 2 none E (45 + d) 0 0 [vR E 0, vI a1] σ (qV E (gN σ + 0) Q)) {rc_X11_readPlain : Int → st_S → (st_S → Prop) → Prop} (hr_X11_readPlain : ∀ {l : Launch} {E : ev_E} (hE : Eok E) (hm : eM E = 2) {a1 : Int} (ca1 : wr a1 = a1) {σ : st_S} {Q : st_S → Prop}, rc_X11_readPlain a1 σ Q → cM l yX11_readPlain cX11_readPlain 4 none E (45 + d) 0 0 [vR E 0, vI a1] σ (qV E (gN σ + 0) Q)) {rc_X11_readTest : Int → st_S → (st_S → Prop) → Prop} (hr_X11_readTest : ∀ {l : Launch} {E : ev_E} (hE : Eok E) (hm : eM E = 2) {a1 : Int} (ca1 : wr a1 = a1) {σ : st_S} {Q : st_S → Prop}, rc_X11_readTest a1 σ Q → cM l yX11_readTest cX11_readTest 2 none E (45 + d) 0 0 [vR E 0, vI a1] σ (qV E (gN σ + 0) Q)) : ∀ (n : Nat) {l1 : Int} (cl1 : wr l1 = l1) {σ : st_S}, L_X11_readTest_5 Q rc_X11_readBoth rc_X11_readPlain rc_X11_readTest n l1 σ → J X E 2 n0 0 0 (MQ (xB X) (qV E (n0 + 0) Q) (xA X) (xS X) 0 0 (eF E)) σ 5 [(0, vR E 0), (1, vI l1)] [] := by
  have hh1 : 1 ≤ hN := by omega
  intro n
  induction n with
  | zero => intro l1 cl1 σ h; exact h.elim
  | succ n ih =>
    intro l1 cl1 σ h
    have hk5 : ∀ {l1 : Int} (cl1 : wr l1 = l1) {σ : st_S}, L_X11_readTest_5 Q rc_X11_readBoth rc_X11_readPlain rc_X11_readTest n l1 σ → J X E 2 n0 0 0 (MQ (xB X) (qV E (n0 + 0) Q) (xA X) (xS X) 0 0 (eF E)) σ 5 [(0, vR E 0), (1, vI l1)] [] := ih
    replace h : wp_X11_takes0 7 σ (fun r7 s8 => (r7 = 0 → Q s8) ∧ (¬ r7 = 0 → rc_X11_readBoth l1 s8 (fun s10 => (L_X11_readTest_5 Q rc_X11_readBoth rc_X11_readPlain rc_X11_readTest n) l1 s10))) := h
    refine j_aload_nR hc 0 dX11_readTest_5 rfl rfl ?_
    refine j_bipush hc dX11_readTest_6 (by decide) ?_
    refine j_vI hc (k := 11) (by decide) (fun hv => Or.inl (sv_k hv hm rfl)) ml_RX11_171 mv_X11_takes0 (As := [vI 7]) (c_X11_takes0 (cx_E hc) hm (wlit 7 (by decide)) h) rfl (by omega) (by decide) ⟨Nat.zero_le _, Nat.zero_le _⟩ (Nat.le_of_ble_eq_true rfl) rfl dX11_readTest_8 (fun r7 s8 cr7 h => ?_)
    refine j_if_eq hc cr7 (tgt := 22) dX11_readTest_11 (by decide) (fun q11 => ?_) (fun q11 => ?_)
    · replace h := h.1 q11
      exact j_vret hc hr h dX11_readTest_22
    · replace h := h.2 q11
      refine j_aload_nR hc 0 dX11_readTest_14 rfl rfl ?_
      refine j_iload_n hc 1 dX11_readTest_15 rfl rfl ?_
      refine j_vV hc (k := 11) (by decide) (fun hv => Or.inl (sv_k hv hm rfl)) ml_RX11_204 mv_X11_readBoth (As := [vI l1]) (hr_X11_readBoth (cx_E hc) hm cl1 h) rfl (by omega) (by decide) ⟨Nat.zero_le _, Nat.zero_le _⟩ (Nat.le_of_ble_eq_true rfl) rfl dX11_readTest_16 (fun s10 h => ?_)
      refine j_goto (tgt := 5) hc dX11_readTest_19 (by decide) ?_
      refine j_sub (lv' := [(0, vR E 0), (1, vI l1)]) [0, 1] rfl ?_
      exact hk5 cl1 h
set_option maxRecDepth 20000 in
theorem ce_X11_readTest {d : Nat} {rc_X11_readBoth : Int → st_S → (st_S → Prop) → Prop} (hr_X11_readBoth : ∀ {l : Launch} {E : ev_E} (hE : Eok E) (hm : eM E = 2) {a1 : Int} (ca1 : wr a1 = a1) {σ : st_S} {Q : st_S → Prop}, rc_X11_readBoth a1 σ Q → cM l yX11_readBoth cX11_readBoth 2 none E (45 + d) 0 0 [vR E 0, vI a1] σ (qV E (gN σ + 0) Q)) {rc_X11_readPlain : Int → st_S → (st_S → Prop) → Prop} (hr_X11_readPlain : ∀ {l : Launch} {E : ev_E} (hE : Eok E) (hm : eM E = 2) {a1 : Int} (ca1 : wr a1 = a1) {σ : st_S} {Q : st_S → Prop}, rc_X11_readPlain a1 σ Q → cM l yX11_readPlain cX11_readPlain 4 none E (45 + d) 0 0 [vR E 0, vI a1] σ (qV E (gN σ + 0) Q)) {rc_X11_readTest : Int → st_S → (st_S → Prop) → Prop} (hr_X11_readTest : ∀ {l : Launch} {E : ev_E} (hE : Eok E) (hm : eM E = 2) {a1 : Int} (ca1 : wr a1 = a1) {σ : st_S} {Q : st_S → Prop}, rc_X11_readTest a1 σ Q → cM l yX11_readTest cX11_readTest 2 none E (45 + d) 0 0 [vR E 0, vI a1] σ (qV E (gN σ + 0) Q)) {l : Launch} {E : ev_E} (hE : Eok E) (hm : eM E = 2) {a1 : Int} (ca1 : wr a1 = a1) {σ : st_S} {Q : st_S → Prop} (h : e_X11_readTest rc_X11_readBoth rc_X11_readPlain rc_X11_readTest a1 σ Q) : cM l yX11_readTest cX11_readTest 2 none E (45 + (d + 1)) 0 0 [vR E 0, vI a1] σ (qV E (gN σ + 0) Q) := by
  refine cM_of (lv := [(0, vR E 0), (1, vI a1)]) (by decide) hE (Nat.le_of_ble_eq_true rfl) (rfl) ?_
  intro X hX hc _ _ hr _ _
  subst hX
  have hh : 45 + (d + 1) ≤ 45 + (d + 1) := Nat.le_refl _
  have hh1 : 1 ≤ 45 + (d + 1) := by omega
  replace h : rc_X11_readBoth a1 σ (fun s13 => ∃ m5 : Nat, L_X11_readTest_5 Q rc_X11_readBoth rc_X11_readPlain rc_X11_readTest m5 a1 s13) := h
  refine j_aload_nR hc 0 dX11_readTest_0 rfl rfl ?_
  refine j_iload_n hc 1 dX11_readTest_1 rfl rfl ?_
  refine j_vV hc (k := 11) (by decide) (fun hv => Or.inl (sv_k hv hm rfl)) ml_RX11_204 mv_X11_readBoth (As := [vI a1]) (hr_X11_readBoth (cx_E hc) hm ca1 h) rfl (by omega) (by decide) ⟨Nat.zero_le _, Nat.zero_le _⟩ (Nat.le_of_ble_eq_true rfl) rfl dX11_readTest_2 (fun s13 h => ?_)
  obtain ⟨n5, h⟩ := h
  refine j_sub (lv' := [(0, vR E 0), (1, vI a1)]) [0, 1] rfl ?_
  exact jl_X11_readTest_5 hc hm hr hh hr_X11_readBoth hr_X11_readPlain hr_X11_readTest n5 ca1 h
theorem ca_X11_readBoth : ∀ d : Nat, (∀ {l : Launch} {E : ev_E} (hE : Eok E) (hm : eM E = 2) {a1 : Int} (ca1 : wr a1 = a1) {σ : st_S} {Q : st_S → Prop}, wp_X11_readBoth d a1 σ Q → cM l yX11_readBoth cX11_readBoth 2 none E (45 + d) 0 0 [vR E 0, vI a1] σ (qV E (gN σ + 0) Q)) ∧ (∀ {l : Launch} {E : ev_E} (hE : Eok E) (hm : eM E = 2) {a1 : Int} (ca1 : wr a1 = a1) {σ : st_S} {Q : st_S → Prop}, wp_X11_readPlain d a1 σ Q → cM l yX11_readPlain cX11_readPlain 4 none E (45 + d) 0 0 [vR E 0, vI a1] σ (qV E (gN σ + 0) Q)) ∧ (∀ {l : Launch} {E : ev_E} (hE : Eok E) (hm : eM E = 2) {a1 : Int} (ca1 : wr a1 = a1) {σ : st_S} {Q : st_S → Prop}, wp_X11_readTest d a1 σ Q → cM l yX11_readTest cX11_readTest 2 none E (45 + d) 0 0 [vR E 0, vI a1] σ (qV E (gN σ + 0) Q)) := by
  intro d
  induction d with
  | zero => exact ⟨(fun {l} {E} hE hm {a1} ca1 {σ} {Q} h => h.elim), (fun {l} {E} hE hm {a1} ca1 {σ} {Q} h => h.elim), (fun {l} {E} hE hm {a1} ca1 {σ} {Q} h => h.elim)⟩
  | succ d ih =>
    obtain ⟨q0, q1, q2⟩ := ih
    exact ⟨(fun {l} {E} hE hm {a1} ca1 {σ} {Q} h => ce_X11_readBoth (d := d) (rc_X11_readBoth := wp_X11_readBoth d) (rc_X11_readPlain := wp_X11_readPlain d) (rc_X11_readTest := wp_X11_readTest d) @q0 @q1 @q2 hE hm ca1 h), (fun {l} {E} hE hm {a1} ca1 {σ} {Q} h => ce_X11_readPlain (d := d) (rc_X11_readBoth := wp_X11_readBoth d) (rc_X11_readPlain := wp_X11_readPlain d) (rc_X11_readTest := wp_X11_readTest d) @q0 @q1 @q2 hE hm ca1 h), (fun {l} {E} hE hm {a1} ca1 {σ} {Q} h => ce_X11_readTest (d := d) (rc_X11_readBoth := wp_X11_readBoth d) (rc_X11_readPlain := wp_X11_readPlain d) (rc_X11_readTest := wp_X11_readTest d) @q0 @q1 @q2 hE hm ca1 h)⟩
theorem c_X11_readBoth {l : Launch} {E : ev_E} (hE : Eok E) (hm : eM E = 2) (d : Nat) {a1 : Int} (ca1 : wr a1 = a1) {σ : st_S} {Q : st_S → Prop} : wp_X11_readBoth d a1 σ Q → cM l yX11_readBoth cX11_readBoth 2 none E (45 + d) 0 0 [vR E 0, vI a1] σ (qV E (gN σ + 0) Q) := fun h => (ca_X11_readBoth d).1 hE hm ca1 h
theorem c_X11_readPlain {l : Launch} {E : ev_E} (hE : Eok E) (hm : eM E = 2) (d : Nat) {a1 : Int} (ca1 : wr a1 = a1) {σ : st_S} {Q : st_S → Prop} : wp_X11_readPlain d a1 σ Q → cM l yX11_readPlain cX11_readPlain 4 none E (45 + d) 0 0 [vR E 0, vI a1] σ (qV E (gN σ + 0) Q) := fun h => (ca_X11_readBoth d).2.1 hE hm ca1 h
theorem c_X11_readTest {l : Launch} {E : ev_E} (hE : Eok E) (hm : eM E = 2) (d : Nat) {a1 : Int} (ca1 : wr a1 = a1) {σ : st_S} {Q : st_S → Prop} : wp_X11_readTest d a1 σ Q → cM l yX11_readTest cX11_readTest 2 none E (45 + d) 0 0 [vR E 0, vI a1] σ (qV E (gN σ + 0) Q) := fun h => (ca_X11_readBoth d).2.2 hE hm ca1 h
-- LitStrangersModel.readClause()V
theorem dX11_readClause_0 : decode cX11_readClause 0 = .ok (.aload_n 0, 1) := by decide +kernel
theorem dX11_readClause_1 : decode cX11_readClause 1 = .ok (.iconst 1, 1) := by decide +kernel
theorem dX11_readClause_2 : decode cX11_readClause 2 = .ok (.invokevirtual 171, 3) := by decide +kernel
theorem dX11_readClause_5 : decode cX11_readClause 5 = .ok (.ifCond .ne 27, 3) := by decide +kernel
theorem dX11_readClause_8 : decode cX11_readClause 8 = .ok (.aload_n 0, 1) := by decide +kernel
theorem dX11_readClause_9 : decode cX11_readClause 9 = .ok (.iconst 2, 1) := by decide +kernel
theorem dX11_readClause_10 : decode cX11_readClause 10 = .ok (.invokevirtual 171, 3) := by decide +kernel
theorem dX11_readClause_13 : decode cX11_readClause 13 = .ok (.ifCond .ne 19, 3) := by decide +kernel
theorem dX11_readClause_16 : decode cX11_readClause 16 = .ok (.aload_n 0, 1) := by decide +kernel
theorem dX11_readClause_17 : decode cX11_readClause 17 = .ok (.iconst 3, 1) := by decide +kernel
theorem dX11_readClause_18 : decode cX11_readClause 18 = .ok (.invokevirtual 171, 3) := by decide +kernel
theorem dX11_readClause_21 : decode cX11_readClause 21 = .ok (.ifCond .ne 11, 3) := by decide +kernel
theorem dX11_readClause_24 : decode cX11_readClause 24 = .ok (.aload_n 0, 1) := by decide +kernel
theorem dX11_readClause_25 : decode cX11_readClause 25 = .ok (.iconst 4, 1) := by decide +kernel
theorem dX11_readClause_26 : decode cX11_readClause 26 = .ok (.invokevirtual 171, 3) := by decide +kernel
theorem dX11_readClause_29 : decode cX11_readClause 29 = .ok (.ifCond .eq 11, 3) := by decide +kernel
theorem dX11_readClause_32 : decode cX11_readClause 32 = .ok (.aload_n 0, 1) := by decide +kernel
theorem dX11_readClause_33 : decode cX11_readClause 33 = .ok (.iconst 0, 1) := by decide +kernel
theorem dX11_readClause_34 : decode cX11_readClause 34 = .ok (.invokevirtual 180, 3) := by decide +kernel
theorem dX11_readClause_37 : decode cX11_readClause 37 = .ok (.goto 8, 3) := by decide +kernel
theorem dX11_readClause_40 : decode cX11_readClause 40 = .ok (.aload_n 0, 1) := by decide +kernel
theorem dX11_readClause_41 : decode cX11_readClause 41 = .ok (.iconst 5, 1) := by decide +kernel
theorem dX11_readClause_42 : decode cX11_readClause 42 = .ok (.invokevirtual 184, 3) := by decide +kernel
theorem dX11_readClause_45 : decode cX11_readClause 45 = .ok (.aload_n 0, 1) := by decide +kernel
theorem dX11_readClause_46 : decode cX11_readClause 46 = .ok (.bipush 6, 2) := by decide +kernel
theorem dX11_readClause_48 : decode cX11_readClause 48 = .ok (.invokevirtual 171, 3) := by decide +kernel
theorem dX11_readClause_51 : decode cX11_readClause 51 = .ok (.ifCond .eq 8, 3) := by decide +kernel
theorem dX11_readClause_54 : decode cX11_readClause 54 = .ok (.aload_n 0, 1) := by decide +kernel
theorem dX11_readClause_55 : decode cX11_readClause 55 = .ok (.iconst 0, 1) := by decide +kernel
theorem dX11_readClause_56 : decode cX11_readClause 56 = .ok (.invokevirtual 187, 3) := by decide +kernel
theorem dX11_readClause_59 : decode cX11_readClause 59 = .ok (.return_, 1) := by decide +kernel
def B_X11_readClause_59 (Q : st_S → Prop)    (σ : st_S) : Prop := Q σ
def B_X11_readClause_45 (Q : st_S → Prop)    (σ : st_S) : Prop := wp_X11_takes0 6 σ (fun r17 s18 => (r17 = 0 → B_X11_readClause_59 Q s18) ∧ (¬ r17 = 0 → wp_X11_readTest 40 0 s18 (fun s20 => B_X11_readClause_59 Q s20)))
def B_X11_readClause_32 (Q : st_S → Prop)    (σ : st_S) : Prop := wp_X11_readSum 40 0 σ (fun s23 => B_X11_readClause_45 Q s23)
def wp_X11_readClause  (σ : st_S) (Q : st_S → Prop) : Prop := wp_X11_takes0 1 σ (fun r24 s25 => (¬ r24 = 0 → B_X11_readClause_32 Q s25) ∧ (r24 = 0 → wp_X11_takes0 2 s25 (fun r26 s27 => (¬ r26 = 0 → B_X11_readClause_32 Q s27) ∧ (r26 = 0 → wp_X11_takes0 3 s27 (fun r28 s29 => (¬ r28 = 0 → B_X11_readClause_32 Q s29) ∧ (r28 = 0 → wp_X11_takes0 4 s29 (fun r30 s31 => (r30 = 0 → wp_X11_must 5 s31 (fun s33 => B_X11_readClause_45 Q s33)) ∧ (¬ r30 = 0 → B_X11_readClause_32 Q s31))))))))
set_option maxRecDepth 20000 in
theorem jb_X11_readClause_59 {X : jj_X} {E : ev_E} {n0 hN : Nat} (hc : Cx X E cX11_readClause 1 n0 hN RX11) (hm : eM E = 2) (hr : (xT X).sig.returnType = none) (hh : 86 ≤ hN) {Q : st_S → Prop} {σ : st_S} (h : B_X11_readClause_59 Q σ) : J X E 1 n0 0 0 (MQ (xB X) (qV E (n0 + 0) Q) (xA X) (xS X) 0 0 (eF E)) σ 59 [] [] := by
  have hh1 : 1 ≤ hN := by omega
  replace h : Q σ := h
  exact j_vret hc hr h dX11_readClause_59
set_option maxRecDepth 20000 in
theorem jb_X11_readClause_45 {X : jj_X} {E : ev_E} {n0 hN : Nat} (hc : Cx X E cX11_readClause 1 n0 hN RX11) (hm : eM E = 2) (hr : (xT X).sig.returnType = none) (hh : 86 ≤ hN) {Q : st_S → Prop} {σ : st_S} (h : B_X11_readClause_45 Q σ) : J X E 1 n0 0 0 (MQ (xB X) (qV E (n0 + 0) Q) (xA X) (xS X) 0 0 (eF E)) σ 45 [(0, vR E 0)] [] := by
  have hh1 : 1 ≤ hN := by omega
  replace h : wp_X11_takes0 6 σ (fun r17 s18 => (r17 = 0 → B_X11_readClause_59 Q s18) ∧ (¬ r17 = 0 → wp_X11_readTest 40 0 s18 (fun s20 => B_X11_readClause_59 Q s20))) := h
  refine j_aload_nR hc 0 dX11_readClause_45 rfl rfl ?_
  refine j_bipush hc dX11_readClause_46 (by decide) ?_
  refine j_vI hc (k := 11) (by decide) (fun hv => Or.inl (sv_k hv hm rfl)) ml_RX11_171 mv_X11_takes0 (As := [vI 6]) (c_X11_takes0 (cx_E hc) hm (wlit 6 (by decide)) h) rfl (by omega) (by decide) ⟨Nat.zero_le _, Nat.zero_le _⟩ (Nat.le_of_ble_eq_true rfl) rfl dX11_readClause_48 (fun r17 s18 cr17 h => ?_)
  refine j_if_eq hc cr17 (tgt := 59) dX11_readClause_51 (by decide) (fun q21 => ?_) (fun q21 => ?_)
  · replace h := h.1 q21
    refine j_sub (lv' := []) [] rfl ?_
    exact jb_X11_readClause_59 hc hm hr hh h
  · replace h := h.2 q21
    refine j_aload_nR hc 0 dX11_readClause_54 rfl rfl ?_
    refine j_iconst hc dX11_readClause_55 ?_
    refine j_vV hc (k := 11) (by decide) (fun hv => Or.inl (sv_k hv hm rfl)) ml_RX11_187 mv_X11_readTest (As := [vI 0]) (c_X11_readTest (cx_E hc) hm 40 (wlit 0 (by decide)) h) rfl (by omega) (by decide) ⟨Nat.zero_le _, Nat.zero_le _⟩ (Nat.le_of_ble_eq_true rfl) rfl dX11_readClause_56 (fun s20 h => ?_)
    refine j_sub (lv' := []) [] rfl ?_
    exact jb_X11_readClause_59 hc hm hr hh h
set_option maxRecDepth 20000 in
theorem jb_X11_readClause_32 {X : jj_X} {E : ev_E} {n0 hN : Nat} (hc : Cx X E cX11_readClause 1 n0 hN RX11) (hm : eM E = 2) (hr : (xT X).sig.returnType = none) (hh : 86 ≤ hN) {Q : st_S → Prop} {σ : st_S} (h : B_X11_readClause_32 Q σ) : J X E 1 n0 0 0 (MQ (xB X) (qV E (n0 + 0) Q) (xA X) (xS X) 0 0 (eF E)) σ 32 [(0, vR E 0)] [] := by
  have hh1 : 1 ≤ hN := by omega
  replace h : wp_X11_readSum 40 0 σ (fun s23 => B_X11_readClause_45 Q s23) := h
  refine j_aload_nR hc 0 dX11_readClause_32 rfl rfl ?_
  refine j_iconst hc dX11_readClause_33 ?_
  refine j_vV hc (k := 11) (by decide) (fun hv => Or.inl (sv_k hv hm rfl)) ml_RX11_180 mv_X11_readSum (As := [vI 0]) (c_X11_readSum (cx_E hc) hm 40 (wlit 0 (by decide)) h) rfl (by omega) (by decide) ⟨Nat.zero_le _, Nat.zero_le _⟩ (Nat.le_of_ble_eq_true rfl) rfl dX11_readClause_34 (fun s23 h => ?_)
  refine j_goto (tgt := 45) hc dX11_readClause_37 (by decide) ?_
  refine j_sub (lv' := [(0, vR E 0)]) [0] rfl ?_
  exact jb_X11_readClause_45 hc hm hr hh h
set_option maxRecDepth 20000 in
theorem c_X11_readClause {l : Launch} {E : ev_E} (hE : Eok E) (hm : eM E = 2) {σ : st_S} {Q : st_S → Prop} (h : wp_X11_readClause σ Q) : cM l yX11_readClause cX11_readClause 1 none E 86 0 0 [vR E 0] σ (qV E (gN σ + 0) Q) := by
  refine cM_of (lv := [(0, vR E 0)]) (by decide) hE (Nat.le_of_ble_eq_true rfl) (rfl) ?_
  intro X hX hc _ _ hr _ _
  subst hX
  have hh : 86 ≤ 86 := Nat.le_refl _
  have hh1 : 1 ≤ 86 := by omega
  replace h : wp_X11_takes0 1 σ (fun r24 s25 => (¬ r24 = 0 → B_X11_readClause_32 Q s25) ∧ (r24 = 0 → wp_X11_takes0 2 s25 (fun r26 s27 => (¬ r26 = 0 → B_X11_readClause_32 Q s27) ∧ (r26 = 0 → wp_X11_takes0 3 s27 (fun r28 s29 => (¬ r28 = 0 → B_X11_readClause_32 Q s29) ∧ (r28 = 0 → wp_X11_takes0 4 s29 (fun r30 s31 => (r30 = 0 → wp_X11_must 5 s31 (fun s33 => B_X11_readClause_45 Q s33)) ∧ (¬ r30 = 0 → B_X11_readClause_32 Q s31)))))))) := h
  refine j_aload_nR hc 0 dX11_readClause_0 rfl rfl ?_
  refine j_iconst hc dX11_readClause_1 ?_
  refine j_vI hc (k := 11) (by decide) (fun hv => Or.inl (sv_k hv hm rfl)) ml_RX11_171 mv_X11_takes0 (As := [vI 1]) (c_X11_takes0 (cx_E hc) hm (wlit 1 (by decide)) h) rfl (by omega) (by decide) ⟨Nat.zero_le _, Nat.zero_le _⟩ (Nat.le_of_ble_eq_true rfl) rfl dX11_readClause_2 (fun r24 s25 cr24 h => ?_)
  refine j_if_ne hc cr24 (tgt := 32) dX11_readClause_5 (by decide) (fun q37 => ?_) (fun q37 => ?_)
  · replace h := h.1 q37
    refine j_sub (lv' := [(0, vR E 0)]) [0] rfl ?_
    exact jb_X11_readClause_32 hc hm hr hh h
  · replace h := h.2 q37
    refine j_aload_nR hc 0 dX11_readClause_8 rfl rfl ?_
    refine j_iconst hc dX11_readClause_9 ?_
    refine j_vI hc (k := 11) (by decide) (fun hv => Or.inl (sv_k hv hm rfl)) ml_RX11_171 mv_X11_takes0 (As := [vI 2]) (c_X11_takes0 (cx_E hc) hm (wlit 2 (by decide)) h) rfl (by omega) (by decide) ⟨Nat.zero_le _, Nat.zero_le _⟩ (Nat.le_of_ble_eq_true rfl) rfl dX11_readClause_10 (fun r26 s27 cr26 h => ?_)
    refine j_if_ne hc cr26 (tgt := 32) dX11_readClause_13 (by decide) (fun q36 => ?_) (fun q36 => ?_)
    · replace h := h.1 q36
      refine j_sub (lv' := [(0, vR E 0)]) [0] rfl ?_
      exact jb_X11_readClause_32 hc hm hr hh h
    · replace h := h.2 q36
      refine j_aload_nR hc 0 dX11_readClause_16 rfl rfl ?_
      refine j_iconst hc dX11_readClause_17 ?_
      refine j_vI hc (k := 11) (by decide) (fun hv => Or.inl (sv_k hv hm rfl)) ml_RX11_171 mv_X11_takes0 (As := [vI 3]) (c_X11_takes0 (cx_E hc) hm (wlit 3 (by decide)) h) rfl (by omega) (by decide) ⟨Nat.zero_le _, Nat.zero_le _⟩ (Nat.le_of_ble_eq_true rfl) rfl dX11_readClause_18 (fun r28 s29 cr28 h => ?_)
      refine j_if_ne hc cr28 (tgt := 32) dX11_readClause_21 (by decide) (fun q35 => ?_) (fun q35 => ?_)
      · replace h := h.1 q35
        refine j_sub (lv' := [(0, vR E 0)]) [0] rfl ?_
        exact jb_X11_readClause_32 hc hm hr hh h
      · replace h := h.2 q35
        refine j_aload_nR hc 0 dX11_readClause_24 rfl rfl ?_
        refine j_iconst hc dX11_readClause_25 ?_
        refine j_vI hc (k := 11) (by decide) (fun hv => Or.inl (sv_k hv hm rfl)) ml_RX11_171 mv_X11_takes0 (As := [vI 4]) (c_X11_takes0 (cx_E hc) hm (wlit 4 (by decide)) h) rfl (by omega) (by decide) ⟨Nat.zero_le _, Nat.zero_le _⟩ (Nat.le_of_ble_eq_true rfl) rfl dX11_readClause_26 (fun r30 s31 cr30 h => ?_)
        refine j_if_eq hc cr30 (tgt := 40) dX11_readClause_29 (by decide) (fun q34 => ?_) (fun q34 => ?_)
        · replace h := h.1 q34
          refine j_aload_nR hc 0 dX11_readClause_40 rfl rfl ?_
          refine j_iconst hc dX11_readClause_41 ?_
          refine j_vV hc (k := 11) (by decide) (fun hv => Or.inl (sv_k hv hm rfl)) ml_RX11_184 mv_X11_must (As := [vI 5]) (c_X11_must (cx_E hc) hm (wlit 5 (by decide)) h) rfl (by omega) (by decide) ⟨Nat.zero_le _, Nat.zero_le _⟩ (Nat.le_of_ble_eq_true rfl) rfl dX11_readClause_42 (fun s33 h => ?_)
          refine j_sub (lv' := [(0, vR E 0)]) [0] rfl ?_
          exact jb_X11_readClause_45 hc hm hr hh h
        · replace h := h.2 q34
          refine j_sub (lv' := [(0, vR E 0)]) [0] rfl ?_
          exact jb_X11_readClause_32 hc hm hr hh h
-- LitStrangersModel.readOrder()V
theorem dX11_readOrder_0 : decode cX11_readOrder 0 = .ok (.aload_n 0, 1) := by decide +kernel
theorem dX11_readOrder_1 : decode cX11_readOrder 1 = .ok (.bipush 26, 2) := by decide +kernel
theorem dX11_readOrder_3 : decode cX11_readOrder 3 = .ok (.invokevirtual 171, 3) := by decide +kernel
theorem dX11_readOrder_6 : decode cX11_readOrder 6 = .ok (.ifCond .ne 12, 3) := by decide +kernel
theorem dX11_readOrder_9 : decode cX11_readOrder 9 = .ok (.aload_n 0, 1) := by decide +kernel
theorem dX11_readOrder_10 : decode cX11_readOrder 10 = .ok (.bipush 27, 2) := by decide +kernel
theorem dX11_readOrder_12 : decode cX11_readOrder 12 = .ok (.invokevirtual 171, 3) := by decide +kernel
theorem dX11_readOrder_15 : decode cX11_readOrder 15 = .ok (.ifCond .eq 11, 3) := by decide +kernel
theorem dX11_readOrder_18 : decode cX11_readOrder 18 = .ok (.aload_n 0, 1) := by decide +kernel
theorem dX11_readOrder_19 : decode cX11_readOrder 19 = .ok (.iconst 0, 1) := by decide +kernel
theorem dX11_readOrder_20 : decode cX11_readOrder 20 = .ok (.invokevirtual 180, 3) := by decide +kernel
theorem dX11_readOrder_23 : decode cX11_readOrder 23 = .ok (.goto 9, 3) := by decide +kernel
theorem dX11_readOrder_26 : decode cX11_readOrder 26 = .ok (.aload_n 0, 1) := by decide +kernel
theorem dX11_readOrder_27 : decode cX11_readOrder 27 = .ok (.bipush 28, 2) := by decide +kernel
theorem dX11_readOrder_29 : decode cX11_readOrder 29 = .ok (.invokevirtual 184, 3) := by decide +kernel
theorem dX11_readOrder_32 : decode cX11_readOrder 32 = .ok (.aload_n 0, 1) := by decide +kernel
theorem dX11_readOrder_33 : decode cX11_readOrder 33 = .ok (.bipush 29, 2) := by decide +kernel
theorem dX11_readOrder_35 : decode cX11_readOrder 35 = .ok (.invokevirtual 171, 3) := by decide +kernel
theorem dX11_readOrder_38 : decode cX11_readOrder 38 = .ok (.ifCond .eq 10, 3) := by decide +kernel
theorem dX11_readOrder_41 : decode cX11_readOrder 41 = .ok (.aload_n 0, 1) := by decide +kernel
theorem dX11_readOrder_42 : decode cX11_readOrder 42 = .ok (.iconst 1, 1) := by decide +kernel
theorem dX11_readOrder_43 : decode cX11_readOrder 43 = .ok (.bipush 20, 2) := by decide +kernel
theorem dX11_readOrder_45 : decode cX11_readOrder 45 = .ok (.invokevirtual 190, 3) := by decide +kernel
theorem dX11_readOrder_48 : decode cX11_readOrder 48 = .ok (.aload_n 0, 1) := by decide +kernel
theorem dX11_readOrder_49 : decode cX11_readOrder 49 = .ok (.bipush 6, 2) := by decide +kernel
theorem dX11_readOrder_51 : decode cX11_readOrder 51 = .ok (.invokevirtual 171, 3) := by decide +kernel
theorem dX11_readOrder_54 : decode cX11_readOrder 54 = .ok (.ifCond .eq 8, 3) := by decide +kernel
theorem dX11_readOrder_57 : decode cX11_readOrder 57 = .ok (.aload_n 0, 1) := by decide +kernel
theorem dX11_readOrder_58 : decode cX11_readOrder 58 = .ok (.iconst 0, 1) := by decide +kernel
theorem dX11_readOrder_59 : decode cX11_readOrder 59 = .ok (.invokevirtual 187, 3) := by decide +kernel
theorem dX11_readOrder_62 : decode cX11_readOrder 62 = .ok (.return_, 1) := by decide +kernel
def B_X11_readOrder_62 (Q : st_S → Prop)    (σ : st_S) : Prop := Q σ
def B_X11_readOrder_48 (Q : st_S → Prop)    (σ : st_S) : Prop := wp_X11_takes0 6 σ (fun r17 s18 => (r17 = 0 → B_X11_readOrder_62 Q s18) ∧ (¬ r17 = 0 → wp_X11_readTest 40 0 s18 (fun s20 => B_X11_readOrder_62 Q s20)))
def B_X11_readOrder_32 (Q : st_S → Prop)    (σ : st_S) : Prop := wp_X11_takes0 29 σ (fun r22 s23 => (r22 = 0 → B_X11_readOrder_48 Q s23) ∧ (¬ r22 = 0 → wp_X11_mustNumber 1 20 s23 (fun s25 => B_X11_readOrder_48 Q s25)))
def B_X11_readOrder_18 (Q : st_S → Prop)    (σ : st_S) : Prop := wp_X11_readSum 40 0 σ (fun s28 => B_X11_readOrder_32 Q s28)
def wp_X11_readOrder  (σ : st_S) (Q : st_S → Prop) : Prop := wp_X11_takes0 26 σ (fun r29 s30 => (¬ r29 = 0 → B_X11_readOrder_18 Q s30) ∧ (r29 = 0 → wp_X11_takes0 27 s30 (fun r31 s32 => (r31 = 0 → wp_X11_must 28 s32 (fun s34 => B_X11_readOrder_32 Q s34)) ∧ (¬ r31 = 0 → B_X11_readOrder_18 Q s32))))
set_option maxRecDepth 20000 in
theorem jb_X11_readOrder_62 {X : jj_X} {E : ev_E} {n0 hN : Nat} (hc : Cx X E cX11_readOrder 1 n0 hN RX11) (hm : eM E = 2) (hr : (xT X).sig.returnType = none) (hh : 86 ≤ hN) {Q : st_S → Prop} {σ : st_S} (h : B_X11_readOrder_62 Q σ) : J X E 1 n0 0 0 (MQ (xB X) (qV E (n0 + 0) Q) (xA X) (xS X) 0 0 (eF E)) σ 62 [] [] := by
  have hh1 : 1 ≤ hN := by omega
  replace h : Q σ := h
  exact j_vret hc hr h dX11_readOrder_62
set_option maxRecDepth 20000 in
theorem jb_X11_readOrder_48 {X : jj_X} {E : ev_E} {n0 hN : Nat} (hc : Cx X E cX11_readOrder 1 n0 hN RX11) (hm : eM E = 2) (hr : (xT X).sig.returnType = none) (hh : 86 ≤ hN) {Q : st_S → Prop} {σ : st_S} (h : B_X11_readOrder_48 Q σ) : J X E 1 n0 0 0 (MQ (xB X) (qV E (n0 + 0) Q) (xA X) (xS X) 0 0 (eF E)) σ 48 [(0, vR E 0)] [] := by
  have hh1 : 1 ≤ hN := by omega
  replace h : wp_X11_takes0 6 σ (fun r17 s18 => (r17 = 0 → B_X11_readOrder_62 Q s18) ∧ (¬ r17 = 0 → wp_X11_readTest 40 0 s18 (fun s20 => B_X11_readOrder_62 Q s20))) := h
  refine j_aload_nR hc 0 dX11_readOrder_48 rfl rfl ?_
  refine j_bipush hc dX11_readOrder_49 (by decide) ?_
  refine j_vI hc (k := 11) (by decide) (fun hv => Or.inl (sv_k hv hm rfl)) ml_RX11_171 mv_X11_takes0 (As := [vI 6]) (c_X11_takes0 (cx_E hc) hm (wlit 6 (by decide)) h) rfl (by omega) (by decide) ⟨Nat.zero_le _, Nat.zero_le _⟩ (Nat.le_of_ble_eq_true rfl) rfl dX11_readOrder_51 (fun r17 s18 cr17 h => ?_)
  refine j_if_eq hc cr17 (tgt := 62) dX11_readOrder_54 (by decide) (fun q21 => ?_) (fun q21 => ?_)
  · replace h := h.1 q21
    refine j_sub (lv' := []) [] rfl ?_
    exact jb_X11_readOrder_62 hc hm hr hh h
  · replace h := h.2 q21
    refine j_aload_nR hc 0 dX11_readOrder_57 rfl rfl ?_
    refine j_iconst hc dX11_readOrder_58 ?_
    refine j_vV hc (k := 11) (by decide) (fun hv => Or.inl (sv_k hv hm rfl)) ml_RX11_187 mv_X11_readTest (As := [vI 0]) (c_X11_readTest (cx_E hc) hm 40 (wlit 0 (by decide)) h) rfl (by omega) (by decide) ⟨Nat.zero_le _, Nat.zero_le _⟩ (Nat.le_of_ble_eq_true rfl) rfl dX11_readOrder_59 (fun s20 h => ?_)
    refine j_sub (lv' := []) [] rfl ?_
    exact jb_X11_readOrder_62 hc hm hr hh h
set_option maxRecDepth 20000 in
theorem jb_X11_readOrder_32 {X : jj_X} {E : ev_E} {n0 hN : Nat} (hc : Cx X E cX11_readOrder 1 n0 hN RX11) (hm : eM E = 2) (hr : (xT X).sig.returnType = none) (hh : 86 ≤ hN) {Q : st_S → Prop} {σ : st_S} (h : B_X11_readOrder_32 Q σ) : J X E 1 n0 0 0 (MQ (xB X) (qV E (n0 + 0) Q) (xA X) (xS X) 0 0 (eF E)) σ 32 [(0, vR E 0)] [] := by
  have hh1 : 1 ≤ hN := by omega
  replace h : wp_X11_takes0 29 σ (fun r22 s23 => (r22 = 0 → B_X11_readOrder_48 Q s23) ∧ (¬ r22 = 0 → wp_X11_mustNumber 1 20 s23 (fun s25 => B_X11_readOrder_48 Q s25))) := h
  refine j_aload_nR hc 0 dX11_readOrder_32 rfl rfl ?_
  refine j_bipush hc dX11_readOrder_33 (by decide) ?_
  refine j_vI hc (k := 11) (by decide) (fun hv => Or.inl (sv_k hv hm rfl)) ml_RX11_171 mv_X11_takes0 (As := [vI 29]) (c_X11_takes0 (cx_E hc) hm (wlit 29 (by decide)) h) rfl (by omega) (by decide) ⟨Nat.zero_le _, Nat.zero_le _⟩ (Nat.le_of_ble_eq_true rfl) rfl dX11_readOrder_35 (fun r22 s23 cr22 h => ?_)
  refine j_if_eq hc cr22 (tgt := 48) dX11_readOrder_38 (by decide) (fun q26 => ?_) (fun q26 => ?_)
  · replace h := h.1 q26
    refine j_sub (lv' := [(0, vR E 0)]) [0] rfl ?_
    exact jb_X11_readOrder_48 hc hm hr hh h
  · replace h := h.2 q26
    refine j_aload_nR hc 0 dX11_readOrder_41 rfl rfl ?_
    refine j_iconst hc dX11_readOrder_42 ?_
    refine j_bipush hc dX11_readOrder_43 (by decide) ?_
    refine j_vV hc (k := 11) (by decide) (fun hv => Or.inl (sv_k hv hm rfl)) ml_RX11_190 mv_X11_mustNumber (As := [vI 1, vI 20]) (c_X11_mustNumber (cx_E hc) hm (wlit 1 (by decide)) (wlit 20 (by decide)) h) rfl (by omega) (by decide) ⟨Nat.zero_le _, Nat.zero_le _⟩ (Nat.le_of_ble_eq_true rfl) rfl dX11_readOrder_45 (fun s25 h => ?_)
    refine j_sub (lv' := [(0, vR E 0)]) [0] rfl ?_
    exact jb_X11_readOrder_48 hc hm hr hh h
set_option maxRecDepth 20000 in
theorem jb_X11_readOrder_18 {X : jj_X} {E : ev_E} {n0 hN : Nat} (hc : Cx X E cX11_readOrder 1 n0 hN RX11) (hm : eM E = 2) (hr : (xT X).sig.returnType = none) (hh : 86 ≤ hN) {Q : st_S → Prop} {σ : st_S} (h : B_X11_readOrder_18 Q σ) : J X E 1 n0 0 0 (MQ (xB X) (qV E (n0 + 0) Q) (xA X) (xS X) 0 0 (eF E)) σ 18 [(0, vR E 0)] [] := by
  have hh1 : 1 ≤ hN := by omega
  replace h : wp_X11_readSum 40 0 σ (fun s28 => B_X11_readOrder_32 Q s28) := h
  refine j_aload_nR hc 0 dX11_readOrder_18 rfl rfl ?_
  refine j_iconst hc dX11_readOrder_19 ?_
  refine j_vV hc (k := 11) (by decide) (fun hv => Or.inl (sv_k hv hm rfl)) ml_RX11_180 mv_X11_readSum (As := [vI 0]) (c_X11_readSum (cx_E hc) hm 40 (wlit 0 (by decide)) h) rfl (by omega) (by decide) ⟨Nat.zero_le _, Nat.zero_le _⟩ (Nat.le_of_ble_eq_true rfl) rfl dX11_readOrder_20 (fun s28 h => ?_)
  refine j_goto (tgt := 32) hc dX11_readOrder_23 (by decide) ?_
  refine j_sub (lv' := [(0, vR E 0)]) [0] rfl ?_
  exact jb_X11_readOrder_32 hc hm hr hh h
set_option maxRecDepth 20000 in
theorem c_X11_readOrder {l : Launch} {E : ev_E} (hE : Eok E) (hm : eM E = 2) {σ : st_S} {Q : st_S → Prop} (h : wp_X11_readOrder σ Q) : cM l yX11_readOrder cX11_readOrder 1 none E 86 0 0 [vR E 0] σ (qV E (gN σ + 0) Q) := by
  refine cM_of (lv := [(0, vR E 0)]) (by decide) hE (Nat.le_of_ble_eq_true rfl) (rfl) ?_
  intro X hX hc _ _ hr _ _
  subst hX
  have hh : 86 ≤ 86 := Nat.le_refl _
  have hh1 : 1 ≤ 86 := by omega
  replace h : wp_X11_takes0 26 σ (fun r29 s30 => (¬ r29 = 0 → B_X11_readOrder_18 Q s30) ∧ (r29 = 0 → wp_X11_takes0 27 s30 (fun r31 s32 => (r31 = 0 → wp_X11_must 28 s32 (fun s34 => B_X11_readOrder_32 Q s34)) ∧ (¬ r31 = 0 → B_X11_readOrder_18 Q s32)))) := h
  refine j_aload_nR hc 0 dX11_readOrder_0 rfl rfl ?_
  refine j_bipush hc dX11_readOrder_1 (by decide) ?_
  refine j_vI hc (k := 11) (by decide) (fun hv => Or.inl (sv_k hv hm rfl)) ml_RX11_171 mv_X11_takes0 (As := [vI 26]) (c_X11_takes0 (cx_E hc) hm (wlit 26 (by decide)) h) rfl (by omega) (by decide) ⟨Nat.zero_le _, Nat.zero_le _⟩ (Nat.le_of_ble_eq_true rfl) rfl dX11_readOrder_3 (fun r29 s30 cr29 h => ?_)
  refine j_if_ne hc cr29 (tgt := 18) dX11_readOrder_6 (by decide) (fun q36 => ?_) (fun q36 => ?_)
  · replace h := h.1 q36
    refine j_sub (lv' := [(0, vR E 0)]) [0] rfl ?_
    exact jb_X11_readOrder_18 hc hm hr hh h
  · replace h := h.2 q36
    refine j_aload_nR hc 0 dX11_readOrder_9 rfl rfl ?_
    refine j_bipush hc dX11_readOrder_10 (by decide) ?_
    refine j_vI hc (k := 11) (by decide) (fun hv => Or.inl (sv_k hv hm rfl)) ml_RX11_171 mv_X11_takes0 (As := [vI 27]) (c_X11_takes0 (cx_E hc) hm (wlit 27 (by decide)) h) rfl (by omega) (by decide) ⟨Nat.zero_le _, Nat.zero_le _⟩ (Nat.le_of_ble_eq_true rfl) rfl dX11_readOrder_12 (fun r31 s32 cr31 h => ?_)
    refine j_if_eq hc cr31 (tgt := 26) dX11_readOrder_15 (by decide) (fun q35 => ?_) (fun q35 => ?_)
    · replace h := h.1 q35
      refine j_aload_nR hc 0 dX11_readOrder_26 rfl rfl ?_
      refine j_bipush hc dX11_readOrder_27 (by decide) ?_
      refine j_vV hc (k := 11) (by decide) (fun hv => Or.inl (sv_k hv hm rfl)) ml_RX11_184 mv_X11_must (As := [vI 28]) (c_X11_must (cx_E hc) hm (wlit 28 (by decide)) h) rfl (by omega) (by decide) ⟨Nat.zero_le _, Nat.zero_le _⟩ (Nat.le_of_ble_eq_true rfl) rfl dX11_readOrder_29 (fun s34 h => ?_)
      refine j_sub (lv' := [(0, vR E 0)]) [0] rfl ?_
      exact jb_X11_readOrder_32 hc hm hr hh h
    · replace h := h.2 q35
      refine j_sub (lv' := [(0, vR E 0)]) [0] rfl ?_
      exact jb_X11_readOrder_18 hc hm hr hh h
-- LitStrangersModel.readOne()V
theorem dX11_readOne_0 : decode cX11_readOne 0 = .ok (.aload_n 0, 1) := by decide +kernel
theorem dX11_readOne_1 : decode cX11_readOne 1 = .ok (.getfield 194, 3) := by decide +kernel
theorem dX11_readOne_4 : decode cX11_readOne 4 = .ok (.ifCond .eq 10, 3) := by decide +kernel
theorem dX11_readOne_7 : decode cX11_readOne 7 = .ok (.aload_n 0, 1) := by decide +kernel
theorem dX11_readOne_8 : decode cX11_readOne 8 = .ok (.invokevirtual 198, 3) := by decide +kernel
theorem dX11_readOne_11 : decode cX11_readOne 11 = .ok (.goto 7, 3) := by decide +kernel
theorem dX11_readOne_14 : decode cX11_readOne 14 = .ok (.aload_n 0, 1) := by decide +kernel
theorem dX11_readOne_15 : decode cX11_readOne 15 = .ok (.invokevirtual 201, 3) := by decide +kernel
theorem dX11_readOne_18 : decode cX11_readOne 18 = .ok (.return_, 1) := by decide +kernel
def B_X11_readOne_18 (Q : st_S → Prop)    (σ : st_S) : Prop := Q σ
def wp_X11_readOne  (σ : st_S) (Q : st_S → Prop) : Prop := (gI σ 0 10 = 0 → wp_X11_readClause σ (fun s8 => B_X11_readOne_18 Q s8)) ∧ (¬ gI σ 0 10 = 0 → wp_X11_readOrder σ (fun s10 => B_X11_readOne_18 Q s10))
set_option maxRecDepth 20000 in
theorem jb_X11_readOne_18 {X : jj_X} {E : ev_E} {n0 hN : Nat} (hc : Cx X E cX11_readOne 1 n0 hN RX11) (hm : eM E = 2) (hr : (xT X).sig.returnType = none) (hh : 87 ≤ hN) {Q : st_S → Prop} {σ : st_S} (h : B_X11_readOne_18 Q σ) : J X E 1 n0 0 0 (MQ (xB X) (qV E (n0 + 0) Q) (xA X) (xS X) 0 0 (eF E)) σ 18 [] [] := by
  have hh1 : 1 ≤ hN := by omega
  replace h : Q σ := h
  exact j_vret hc hr h dX11_readOne_18
set_option maxRecDepth 20000 in
theorem c_X11_readOne {l : Launch} {E : ev_E} (hE : Eok E) (hm : eM E = 2) {σ : st_S} {Q : st_S → Prop} (h : wp_X11_readOne σ Q) : cM l yX11_readOne cX11_readOne 1 none E 87 0 0 [vR E 0] σ (qV E (gN σ + 0) Q) := by
  refine cM_of (lv := [(0, vR E 0)]) (by decide) hE (Nat.le_of_ble_eq_true rfl) (rfl) ?_
  intro X hX hc _ _ hr _ _
  subst hX
  have hh : 87 ≤ 87 := Nat.le_refl _
  have hh1 : 1 ≤ 87 := by omega
  replace h : (gI σ 0 10 = 0 → wp_X11_readClause σ (fun s8 => B_X11_readOne_18 Q s8)) ∧ (¬ gI σ 0 10 = 0 → wp_X11_readOrder σ (fun s10 => B_X11_readOne_18 Q s10)) := h
  refine j_aload_nR hc 0 dX11_readOne_0 rfl rfl ?_
  refine j_getI hc fl_RX11_194 (Or.inr rfl) (fun hv => Or.inl (sv_k hv hm rfl)) dX11_readOne_1 (fun cn6 => ?_)
  refine j_if_eq hc cn6 (tgt := 14) dX11_readOne_4 (by decide) (fun q11 => ?_) (fun q11 => ?_)
  · replace h := h.1 q11
    refine j_aload_nR hc 0 dX11_readOne_14 rfl rfl ?_
    refine j_vV hc (k := 11) (by decide) (fun hv => Or.inl (sv_k hv hm rfl)) ml_RX11_201 mv_X11_readClause (As := []) (c_X11_readClause (cx_E hc) hm  h) rfl (by omega) (by decide) ⟨Nat.zero_le _, Nat.zero_le _⟩ (Nat.le_of_ble_eq_true rfl) rfl dX11_readOne_15 (fun s8 h => ?_)
    refine j_sub (lv' := []) [] rfl ?_
    exact jb_X11_readOne_18 hc hm hr hh h
  · replace h := h.2 q11
    refine j_aload_nR hc 0 dX11_readOne_7 rfl rfl ?_
    refine j_vV hc (k := 11) (by decide) (fun hv => Or.inl (sv_k hv hm rfl)) ml_RX11_198 mv_X11_readOrder (As := []) (c_X11_readOrder (cx_E hc) hm  h) rfl (by omega) (by decide) ⟨Nat.zero_le _, Nat.zero_le _⟩ (Nat.le_of_ble_eq_true rfl) rfl dX11_readOne_8 (fun s10 h => ?_)
    refine j_goto (tgt := 18) hc dX11_readOne_11 (by decide) ?_
    refine j_sub (lv' := []) [] rfl ?_
    exact jb_X11_readOne_18 hc hm hr hh h
-- LitStrangersModel.reads()Z
theorem dX11_reads_0 : decode cX11_reads 0 = .ok (.aload_n 0, 1) := by decide +kernel
theorem dX11_reads_1 : decode cX11_reads 1 = .ok (.aload_n 0, 1) := by decide +kernel
theorem dX11_reads_2 : decode cX11_reads 2 = .ok (.getfield 141, 3) := by decide +kernel
theorem dX11_reads_5 : decode cX11_reads 5 = .ok (.invokevirtual 229, 3) := by decide +kernel
theorem dX11_reads_8 : decode cX11_reads 8 = .ok (.aload_n 0, 1) := by decide +kernel
theorem dX11_reads_9 : decode cX11_reads 9 = .ok (.iconst 0, 1) := by decide +kernel
theorem dX11_reads_10 : decode cX11_reads 10 = .ok (.putfield 141, 3) := by decide +kernel
theorem dX11_reads_13 : decode cX11_reads 13 = .ok (.aload_n 0, 1) := by decide +kernel
theorem dX11_reads_14 : decode cX11_reads 14 = .ok (.iconst 0, 1) := by decide +kernel
theorem dX11_reads_15 : decode cX11_reads 15 = .ok (.putfield 168, 3) := by decide +kernel
theorem dX11_reads_18 : decode cX11_reads 18 = .ok (.aload_n 0, 1) := by decide +kernel
theorem dX11_reads_19 : decode cX11_reads 19 = .ok (.iconst 0, 1) := by decide +kernel
theorem dX11_reads_20 : decode cX11_reads 20 = .ok (.putfield 177, 3) := by decide +kernel
theorem dX11_reads_23 : decode cX11_reads 23 = .ok (.aload_n 0, 1) := by decide +kernel
theorem dX11_reads_24 : decode cX11_reads 24 = .ok (.iconst (-1), 1) := by decide +kernel
theorem dX11_reads_25 : decode cX11_reads 25 = .ok (.putfield 161, 3) := by decide +kernel
theorem dX11_reads_28 : decode cX11_reads 28 = .ok (.aload_n 0, 1) := by decide +kernel
theorem dX11_reads_29 : decode cX11_reads 29 = .ok (.invokevirtual 232, 3) := by decide +kernel
theorem dX11_reads_32 : decode cX11_reads 32 = .ok (.iconst 1, 1) := by decide +kernel
theorem dX11_reads_33 : decode cX11_reads 33 = .ok (.istore_n 1, 1) := by decide +kernel
theorem dX11_reads_34 : decode cX11_reads 34 = .ok (.aload_n 0, 1) := by decide +kernel
theorem dX11_reads_35 : decode cX11_reads 35 = .ok (.bipush 59, 2) := by decide +kernel
theorem dX11_reads_37 : decode cX11_reads 37 = .ok (.invokestatic 210, 3) := by decide +kernel
theorem dX11_reads_40 : decode cX11_reads 40 = .ok (.invokevirtual 171, 3) := by decide +kernel
theorem dX11_reads_43 : decode cX11_reads 43 = .ok (.ifCond .eq 30, 3) := by decide +kernel
theorem dX11_reads_46 : decode cX11_reads 46 = .ok (.iload_n 1, 1) := by decide +kernel
theorem dX11_reads_47 : decode cX11_reads 47 = .ok (.bipush 12, 2) := by decide +kernel
theorem dX11_reads_49 : decode cX11_reads 49 = .ok (.if_icmp .ne 7, 3) := by decide +kernel
theorem dX11_reads_52 : decode cX11_reads 52 = .ok (.aload_n 0, 1) := by decide +kernel
theorem dX11_reads_53 : decode cX11_reads 53 = .ok (.invokevirtual 174, 3) := by decide +kernel
theorem dX11_reads_56 : decode cX11_reads 56 = .ok (.aload_n 0, 1) := by decide +kernel
theorem dX11_reads_57 : decode cX11_reads 57 = .ok (.invokevirtual 164, 3) := by decide +kernel
theorem dX11_reads_60 : decode cX11_reads 60 = .ok (.ifCond .eq 7, 3) := by decide +kernel
theorem dX11_reads_63 : decode cX11_reads 63 = .ok (.aload_n 0, 1) := by decide +kernel
theorem dX11_reads_64 : decode cX11_reads 64 = .ok (.invokevirtual 232, 3) := by decide +kernel
theorem dX11_reads_67 : decode cX11_reads 67 = .ok (.iinc 1 1, 3) := by decide +kernel
theorem dX11_reads_70 : decode cX11_reads 70 = .ok (.goto (-36), 3) := by decide +kernel
theorem dX11_reads_73 : decode cX11_reads 73 = .ok (.aload_n 0, 1) := by decide +kernel
theorem dX11_reads_74 : decode cX11_reads 74 = .ok (.invokevirtual 164, 3) := by decide +kernel
theorem dX11_reads_77 : decode cX11_reads 77 = .ok (.ifCond .eq 18, 3) := by decide +kernel
theorem dX11_reads_80 : decode cX11_reads 80 = .ok (.aload_n 0, 1) := by decide +kernel
theorem dX11_reads_81 : decode cX11_reads 81 = .ok (.getfield 168, 3) := by decide +kernel
theorem dX11_reads_84 : decode cX11_reads 84 = .ok (.aload_n 0, 1) := by decide +kernel
theorem dX11_reads_85 : decode cX11_reads 85 = .ok (.getfield 147, 3) := by decide +kernel
theorem dX11_reads_88 : decode cX11_reads 88 = .ok (.if_icmp .ge 7, 3) := by decide +kernel
theorem dX11_reads_91 : decode cX11_reads 91 = .ok (.aload_n 0, 1) := by decide +kernel
theorem dX11_reads_92 : decode cX11_reads 92 = .ok (.invokevirtual 174, 3) := by decide +kernel
theorem dX11_reads_95 : decode cX11_reads 95 = .ok (.aload_n 0, 1) := by decide +kernel
theorem dX11_reads_96 : decode cX11_reads 96 = .ok (.aload_n 0, 1) := by decide +kernel
theorem dX11_reads_97 : decode cX11_reads 97 = .ok (.getfield 161, 3) := by decide +kernel
theorem dX11_reads_100 : decode cX11_reads 100 = .ok (.putfield 47, 3) := by decide +kernel
theorem dX11_reads_103 : decode cX11_reads 103 = .ok (.aload_n 0, 1) := by decide +kernel
theorem dX11_reads_104 : decode cX11_reads 104 = .ok (.invokevirtual 164, 3) := by decide +kernel
theorem dX11_reads_107 : decode cX11_reads 107 = .ok (.ireturn, 1) := by decide +kernel
def B_X11_reads_67 (Q : Int → st_S → Prop)  (k34 : Int → st_S → Prop) (l1 : Int) (σ : st_S) : Prop := ∀ x37 : Int, x37 = wr (l1 + 1) → k34 x37 σ
def B_X11_reads_56 (Q : Int → st_S → Prop)  (k34 : Int → st_S → Prop) (l1 : Int) (σ : st_S) : Prop := wp_X11_fine σ (fun r38 s39 => (r38 = 0 → B_X11_reads_67 Q k34 l1 s39) ∧ (¬ r38 = 0 → wp_X11_readOne s39 (fun s41 => B_X11_reads_67 Q k34 l1 s41)))
def B_X11_reads_95 (Q : Int → st_S → Prop)    (σ : st_S) : Prop := ∀ s44 : st_S, s44 = sI σ 0 14 (gI σ 0 21) → wp_X11_fine s44 (fun r45 s46 => (r45 = 0 ∨ r45 = 1) ∧ Q r45 s46)
def L_X11_reads_34 (Q : Int → st_S → Prop)   : Nat → Int → st_S → Prop
  | 0 => fun _ _ => False
  | n + 1 => fun l1 σ => wp_X11_sign 59 σ (fun r47 s48 => wp_X11_takes0 r47 s48 (fun r49 s50 => (r49 = 0 → wp_X11_fine s50 (fun r51 s52 => (r51 = 0 → B_X11_reads_95 Q s52) ∧ (¬ r51 = 0 → (gI s52 0 18 ≤ gI s52 0 19 → B_X11_reads_95 Q s52) ∧ (¬ gI s52 0 18 ≤ gI s52 0 19 → wp_X11_faults s52 (fun s56 => B_X11_reads_95 Q s56))))) ∧ (¬ r49 = 0 → (¬ l1 = 12 → B_X11_reads_56 Q (L_X11_reads_34 Q n) l1 s50) ∧ (l1 = 12 → wp_X11_faults s50 (fun s60 => B_X11_reads_56 Q (L_X11_reads_34 Q n) l1 s60)))))
def wp_X11_reads  (σ : st_S) (Q : Int → st_S → Prop) : Prop := wp_X11_splits (gI σ 0 13) σ (fun s65 => ∀ s66 : st_S, s66 = sI s65 0 13 0 → ∀ s67 : st_S, s67 = sI s66 0 19 0 → ∀ s68 : st_S, s68 = sI s67 0 20 0 → ∀ s69 : st_S, s69 = sI s68 0 21 (-1) → wp_X11_readOne s69 (fun s71 => ∃ m34 : Nat, L_X11_reads_34 Q m34 1 s71))
set_option maxRecDepth 20000 in
theorem jb_X11_reads_67 {X : jj_X} {E : ev_E} {n0 hN : Nat} (hc : Cx X E cX11_reads 2 n0 hN RX11) (hm : eM E = 2) (hr : (xT X).sig.returnType = (some .boolean)) (hh : 88 ≤ hN) {Q : Int → st_S → Prop} {k34 : Int → st_S → Prop} (hk34 : ∀ {l1 : Int} (cl1 : wr l1 = l1) {σ : st_S}, k34 l1 σ → J X E 2 n0 0 0 (MQ (xB X) (qI E (n0 + 0) Q) (xA X) (xS X) 0 0 (eF E)) σ 34 [(0, vR E 0), (1, vI l1)] []) {l1 : Int} (cl1 : wr l1 = l1) {σ : st_S} (h : B_X11_reads_67 Q k34 l1 σ) : J X E 2 n0 0 0 (MQ (xB X) (qI E (n0 + 0) Q) (xA X) (xS X) 0 0 (eF E)) σ 67 [(0, vR E 0), (1, vI l1)] [] := by
  have hh1 : 1 ≤ hN := by omega
  replace h : ∀ x37 : Int, x37 = wr (l1 + 1) → k34 x37 σ := h
  obtain ⟨x37, ex37⟩ : ∃ y : Int, y = wr (l1 + 1) := ⟨_, rfl⟩
  have cx37 : wr x37 = x37 := by rw [ex37]; exact wr_wr _
  replace h := h x37 ex37
  refine j_iinc (lv' := [(1, vI x37), (0, vR E 0)]) hc 1 dX11_reads_67 rfl (by decide) ex37 rfl ?_
  refine j_goto (tgt := 34) hc dX11_reads_70 (by decide) ?_
  refine j_sub (lv' := [(0, vR E 0), (1, vI x37)]) [1, 0] rfl ?_
  exact hk34 cx37 h
set_option maxRecDepth 20000 in
theorem jb_X11_reads_56 {X : jj_X} {E : ev_E} {n0 hN : Nat} (hc : Cx X E cX11_reads 2 n0 hN RX11) (hm : eM E = 2) (hr : (xT X).sig.returnType = (some .boolean)) (hh : 88 ≤ hN) {Q : Int → st_S → Prop} {k34 : Int → st_S → Prop} (hk34 : ∀ {l1 : Int} (cl1 : wr l1 = l1) {σ : st_S}, k34 l1 σ → J X E 2 n0 0 0 (MQ (xB X) (qI E (n0 + 0) Q) (xA X) (xS X) 0 0 (eF E)) σ 34 [(0, vR E 0), (1, vI l1)] []) {l1 : Int} (cl1 : wr l1 = l1) {σ : st_S} (h : B_X11_reads_56 Q k34 l1 σ) : J X E 2 n0 0 0 (MQ (xB X) (qI E (n0 + 0) Q) (xA X) (xS X) 0 0 (eF E)) σ 56 [(0, vR E 0), (1, vI l1)] [] := by
  have hh1 : 1 ≤ hN := by omega
  replace h : wp_X11_fine σ (fun r38 s39 => (r38 = 0 → B_X11_reads_67 Q k34 l1 s39) ∧ (¬ r38 = 0 → wp_X11_readOne s39 (fun s41 => B_X11_reads_67 Q k34 l1 s41))) := h
  refine j_aload_nR hc 0 dX11_reads_56 rfl rfl ?_
  refine j_vI hc (k := 11) (by decide) (fun hv => Or.inl (sv_k hv hm rfl)) ml_RX11_164 mv_X11_fine (As := []) (c_X11_fine (cx_E hc) hm  h) rfl (by omega) (by decide) ⟨Nat.zero_le _, Nat.zero_le _⟩ (Nat.le_of_ble_eq_true rfl) rfl dX11_reads_57 (fun r38 s39 cr38 h => ?_)
  refine j_if_eq hc cr38 (tgt := 67) dX11_reads_60 (by decide) (fun q42 => ?_) (fun q42 => ?_)
  · replace h := h.1 q42
    refine j_sub (lv' := [(0, vR E 0), (1, vI l1)]) [0, 1] rfl ?_
    exact jb_X11_reads_67 hc hm hr hh hk34 cl1 h
  · replace h := h.2 q42
    refine j_aload_nR hc 0 dX11_reads_63 rfl rfl ?_
    refine j_vV hc (k := 11) (by decide) (fun hv => Or.inl (sv_k hv hm rfl)) ml_RX11_232 mv_X11_readOne (As := []) (c_X11_readOne (cx_E hc) hm  h) rfl (by omega) (by decide) ⟨Nat.zero_le _, Nat.zero_le _⟩ (Nat.le_of_ble_eq_true rfl) rfl dX11_reads_64 (fun s41 h => ?_)
    refine j_sub (lv' := [(0, vR E 0), (1, vI l1)]) [0, 1] rfl ?_
    exact jb_X11_reads_67 hc hm hr hh hk34 cl1 h
set_option maxRecDepth 20000 in
theorem jb_X11_reads_95 {X : jj_X} {E : ev_E} {n0 hN : Nat} (hc : Cx X E cX11_reads 2 n0 hN RX11) (hm : eM E = 2) (hr : (xT X).sig.returnType = (some .boolean)) (hh : 88 ≤ hN) {Q : Int → st_S → Prop} {σ : st_S} (h : B_X11_reads_95 Q σ) : J X E 2 n0 0 0 (MQ (xB X) (qI E (n0 + 0) Q) (xA X) (xS X) 0 0 (eF E)) σ 95 [(0, vR E 0)] [] := by
  have hh1 : 1 ≤ hN := by omega
  replace h : ∀ s44 : st_S, s44 = sI σ 0 14 (gI σ 0 21) → wp_X11_fine s44 (fun r45 s46 => (r45 = 0 ∨ r45 = 1) ∧ Q r45 s46) := h
  refine j_aload_nR hc 0 dX11_reads_95 rfl rfl ?_
  refine j_aload_nR hc 0 dX11_reads_96 rfl rfl ?_
  refine j_getI hc fl_RX11_161 (Or.inl rfl) (fun hv => Or.inl (sv_k hv hm rfl)) dX11_reads_97 (fun cn43 => ?_)
  refine j_putI hc fl_RX11_47 rfl rfl (fun hv => Or.inl (sv_k hv hm rfl)) cn43 dX11_reads_100 (fun s44 es44 => ?_)
  replace h := h s44 es44
  refine j_aload_nR hc 0 dX11_reads_103 rfl rfl ?_
  refine j_vI hc (k := 11) (by decide) (fun hv => Or.inl (sv_k hv hm rfl)) ml_RX11_164 mv_X11_fine (As := []) (c_X11_fine (cx_E hc) hm  h) rfl (by omega) (by decide) ⟨Nat.zero_le _, Nat.zero_le _⟩ (Nat.le_of_ble_eq_true rfl) rfl dX11_reads_104 (fun r45 s46 cr45 h => ?_)
  exact j_zret hc hr (nar_bool h.1) (by rcases h.1 with e | e <;> (rw [e]; decide)) h.2 dX11_reads_107
set_option maxRecDepth 20000 in
theorem jl_X11_reads_34 {X : jj_X} {E : ev_E} {n0 hN : Nat} (hc : Cx X E cX11_reads 2 n0 hN RX11) (hm : eM E = 2) (hr : (xT X).sig.returnType = (some .boolean)) (hh : 88 ≤ hN) {Q : Int → st_S → Prop} : ∀ (n : Nat) {l1 : Int} (cl1 : wr l1 = l1) {σ : st_S}, L_X11_reads_34 Q n l1 σ → J X E 2 n0 0 0 (MQ (xB X) (qI E (n0 + 0) Q) (xA X) (xS X) 0 0 (eF E)) σ 34 [(0, vR E 0), (1, vI l1)] [] := by
  have hh1 : 1 ≤ hN := by omega
  intro n
  induction n with
  | zero => intro l1 cl1 σ h; exact h.elim
  | succ n ih =>
    intro l1 cl1 σ h
    have hk34 : ∀ {l1 : Int} (cl1 : wr l1 = l1) {σ : st_S}, L_X11_reads_34 Q n l1 σ → J X E 2 n0 0 0 (MQ (xB X) (qI E (n0 + 0) Q) (xA X) (xS X) 0 0 (eF E)) σ 34 [(0, vR E 0), (1, vI l1)] [] := ih
    replace h : wp_X11_sign 59 σ (fun r47 s48 => wp_X11_takes0 r47 s48 (fun r49 s50 => (r49 = 0 → wp_X11_fine s50 (fun r51 s52 => (r51 = 0 → B_X11_reads_95 Q s52) ∧ (¬ r51 = 0 → (gI s52 0 18 ≤ gI s52 0 19 → B_X11_reads_95 Q s52) ∧ (¬ gI s52 0 18 ≤ gI s52 0 19 → wp_X11_faults s52 (fun s56 => B_X11_reads_95 Q s56))))) ∧ (¬ r49 = 0 → (¬ l1 = 12 → B_X11_reads_56 Q (L_X11_reads_34 Q n) l1 s50) ∧ (l1 = 12 → wp_X11_faults s50 (fun s60 => B_X11_reads_56 Q (L_X11_reads_34 Q n) l1 s60))))) := h
    refine j_aload_nR hc 0 dX11_reads_34 rfl rfl ?_
    refine j_bipush hc dX11_reads_35 (by decide) ?_
    refine j_sI hc ml_RX11_210 mv_X11_sign (As := [vI 59]) (c_X11_sign (cx_E hc) hm (wlit 59 (by decide)) h) rfl (by omega) (by decide) ⟨Nat.zero_le _, Nat.zero_le _⟩ (Nat.le_of_ble_eq_true rfl) rfl dX11_reads_37 (fun r47 s48 cr47 h => ?_)
    refine j_vI hc (k := 11) (by decide) (fun hv => Or.inl (sv_k hv hm rfl)) ml_RX11_171 mv_X11_takes0 (As := [vI r47]) (c_X11_takes0 (cx_E hc) hm cr47 h) rfl (by omega) (by decide) ⟨Nat.zero_le _, Nat.zero_le _⟩ (Nat.le_of_ble_eq_true rfl) rfl dX11_reads_40 (fun r49 s50 cr49 h => ?_)
    refine j_if_eq hc cr49 (tgt := 73) dX11_reads_43 (by decide) (fun q62 => ?_) (fun q62 => ?_)
    · replace h := h.1 q62
      refine j_aload_nR hc 0 dX11_reads_73 rfl rfl ?_
      refine j_vI hc (k := 11) (by decide) (fun hv => Or.inl (sv_k hv hm rfl)) ml_RX11_164 mv_X11_fine (As := []) (c_X11_fine (cx_E hc) hm  h) rfl (by omega) (by decide) ⟨Nat.zero_le _, Nat.zero_le _⟩ (Nat.le_of_ble_eq_true rfl) rfl dX11_reads_74 (fun r51 s52 cr51 h => ?_)
      refine j_if_eq hc cr51 (tgt := 95) dX11_reads_77 (by decide) (fun q58 => ?_) (fun q58 => ?_)
      · replace h := h.1 q58
        refine j_sub (lv' := [(0, vR E 0)]) [0] rfl ?_
        exact jb_X11_reads_95 hc hm hr hh h
      · replace h := h.2 q58
        refine j_aload_nR hc 0 dX11_reads_80 rfl rfl ?_
        refine j_getI hc fl_RX11_168 (Or.inl rfl) (fun hv => Or.inl (sv_k hv hm rfl)) dX11_reads_81 (fun cn53 => ?_)
        refine j_aload_nR hc 0 dX11_reads_84 rfl rfl ?_
        refine j_getI hc fl_RX11_147 (Or.inl rfl) (fun hv => Or.inl (sv_k hv hm rfl)) dX11_reads_85 (fun cn54 => ?_)
        refine j_ic_ge hc cn53 cn54 (tgt := 95) dX11_reads_88 (by decide) (fun q57 => ?_) (fun q57 => ?_)
        · replace h := h.1 q57
          refine j_sub (lv' := [(0, vR E 0)]) [0] rfl ?_
          exact jb_X11_reads_95 hc hm hr hh h
        · replace h := h.2 q57
          refine j_aload_nR hc 0 dX11_reads_91 rfl rfl ?_
          refine j_vV hc (k := 11) (by decide) (fun hv => Or.inl (sv_k hv hm rfl)) ml_RX11_174 mv_X11_faults (As := []) (c_X11_faults (cx_E hc) hm  h) rfl (by omega) (by decide) ⟨Nat.zero_le _, Nat.zero_le _⟩ (Nat.le_of_ble_eq_true rfl) rfl dX11_reads_92 (fun s56 h => ?_)
          refine j_sub (lv' := [(0, vR E 0)]) [0] rfl ?_
          exact jb_X11_reads_95 hc hm hr hh h
    · replace h := h.2 q62
      refine j_iload_n hc 1 dX11_reads_46 rfl rfl ?_
      refine j_bipush hc dX11_reads_47 (by decide) ?_
      refine j_ic_ne hc cl1 (wlit 12 (by decide)) (tgt := 56) dX11_reads_49 (by decide) (fun q61 => ?_) (fun q61 => ?_)
      · replace h := h.1 q61
        refine j_sub (lv' := [(0, vR E 0), (1, vI l1)]) [0, 1] rfl ?_
        exact jb_X11_reads_56 hc hm hr hh hk34 cl1 h
      · replace h := h.2 q61
        refine j_aload_nR hc 0 dX11_reads_52 rfl rfl ?_
        refine j_vV hc (k := 11) (by decide) (fun hv => Or.inl (sv_k hv hm rfl)) ml_RX11_174 mv_X11_faults (As := []) (c_X11_faults (cx_E hc) hm  h) rfl (by omega) (by decide) ⟨Nat.zero_le _, Nat.zero_le _⟩ (Nat.le_of_ble_eq_true rfl) rfl dX11_reads_53 (fun s60 h => ?_)
        refine j_sub (lv' := [(0, vR E 0), (1, vI l1)]) [0, 1] rfl ?_
        exact jb_X11_reads_56 hc hm hr hh hk34 cl1 h
set_option maxRecDepth 20000 in
theorem c_X11_reads {l : Launch} {E : ev_E} (hE : Eok E) (hm : eM E = 2) {σ : st_S} {Q : Int → st_S → Prop} (h : wp_X11_reads σ Q) : cM l yX11_reads cX11_reads 2 (some .boolean) E 88 0 0 [vR E 0] σ (qI E (gN σ + 0) Q) := by
  refine cM_of (lv := [(0, vR E 0)]) (by decide) hE (Nat.le_of_ble_eq_true rfl) (rfl) ?_
  intro X hX hc _ _ hr _ _
  subst hX
  have hh : 88 ≤ 88 := Nat.le_refl _
  have hh1 : 1 ≤ 88 := by omega
  replace h : wp_X11_splits (gI σ 0 13) σ (fun s65 => ∀ s66 : st_S, s66 = sI s65 0 13 0 → ∀ s67 : st_S, s67 = sI s66 0 19 0 → ∀ s68 : st_S, s68 = sI s67 0 20 0 → ∀ s69 : st_S, s69 = sI s68 0 21 (-1) → wp_X11_readOne s69 (fun s71 => ∃ m34 : Nat, L_X11_reads_34 Q m34 1 s71)) := h
  refine j_aload_nR hc 0 dX11_reads_0 rfl rfl ?_
  refine j_aload_nR hc 0 dX11_reads_1 rfl rfl ?_
  refine j_getI hc fl_RX11_141 (Or.inl rfl) (fun hv => Or.inl (sv_k hv hm rfl)) dX11_reads_2 (fun cn63 => ?_)
  refine j_vV hc (k := 11) (by decide) (fun hv => Or.inl (sv_k hv hm rfl)) ml_RX11_229 mv_X11_splits (As := [vI (gI σ 0 13)]) (c_X11_splits (cx_E hc) hm cn63 h) rfl (by omega) (by decide) ⟨Nat.zero_le _, Nat.zero_le _⟩ (Nat.le_of_ble_eq_true rfl) rfl dX11_reads_5 (fun s65 h => ?_)
  refine j_aload_nR hc 0 dX11_reads_8 rfl rfl ?_
  refine j_iconst hc dX11_reads_9 ?_
  refine j_putI hc fl_RX11_141 rfl rfl (fun hv => Or.inl (sv_k hv hm rfl)) (wlit 0 (by decide)) dX11_reads_10 (fun s66 es66 => ?_)
  replace h := h s66 es66
  refine j_aload_nR hc 0 dX11_reads_13 rfl rfl ?_
  refine j_iconst hc dX11_reads_14 ?_
  refine j_putI hc fl_RX11_168 rfl rfl (fun hv => Or.inl (sv_k hv hm rfl)) (wlit 0 (by decide)) dX11_reads_15 (fun s67 es67 => ?_)
  replace h := h s67 es67
  refine j_aload_nR hc 0 dX11_reads_18 rfl rfl ?_
  refine j_iconst hc dX11_reads_19 ?_
  refine j_putI hc fl_RX11_177 rfl rfl (fun hv => Or.inl (sv_k hv hm rfl)) (wlit 0 (by decide)) dX11_reads_20 (fun s68 es68 => ?_)
  replace h := h s68 es68
  refine j_aload_nR hc 0 dX11_reads_23 rfl rfl ?_
  refine j_iconst hc dX11_reads_24 ?_
  refine j_putI hc fl_RX11_161 rfl rfl (fun hv => Or.inl (sv_k hv hm rfl)) (wlit (-1) (by decide)) dX11_reads_25 (fun s69 es69 => ?_)
  replace h := h s69 es69
  refine j_aload_nR hc 0 dX11_reads_28 rfl rfl ?_
  refine j_vV hc (k := 11) (by decide) (fun hv => Or.inl (sv_k hv hm rfl)) ml_RX11_232 mv_X11_readOne (As := []) (c_X11_readOne (cx_E hc) hm  h) rfl (by omega) (by decide) ⟨Nat.zero_le _, Nat.zero_le _⟩ (Nat.le_of_ble_eq_true rfl) rfl dX11_reads_29 (fun s71 h => ?_)
  refine j_iconst hc dX11_reads_32 ?_
  refine j_istore_n (lv' := [(1, vI 1), (0, vR E 0)]) hc dX11_reads_33 rfl (by decide) rfl ?_
  obtain ⟨n34, h⟩ := h
  refine j_sub (lv' := [(0, vR E 0), (1, vI 1)]) [1, 0] rfl ?_
  exact jl_X11_reads_34 hc hm hr hh n34 (wlit 1 (by decide)) h
-- LitStrangersModel.readsAs(Z)Z
theorem dX11_readsAs_0 : decode cX11_readsAs 0 = .ok (.aload_n 0, 1) := by decide +kernel
theorem dX11_readsAs_1 : decode cX11_readsAs 1 = .ok (.iload_n 1, 1) := by decide +kernel
theorem dX11_readsAs_2 : decode cX11_readsAs 2 = .ok (.putfield 194, 3) := by decide +kernel
theorem dX11_readsAs_5 : decode cX11_readsAs 5 = .ok (.aload_n 0, 1) := by decide +kernel
theorem dX11_readsAs_6 : decode cX11_readsAs 6 = .ok (.iload_n 1, 1) := by decide +kernel
theorem dX11_readsAs_7 : decode cX11_readsAs 7 = .ok (.ifCond .eq 8, 3) := by decide +kernel
theorem dX11_readsAs_10 : decode cX11_readsAs 10 = .ok (.bipush 19, 2) := by decide +kernel
theorem dX11_readsAs_12 : decode cX11_readsAs 12 = .ok (.goto 5, 3) := by decide +kernel
theorem dX11_readsAs_15 : decode cX11_readsAs 15 = .ok (.bipush 10, 2) := by decide +kernel
theorem dX11_readsAs_17 : decode cX11_readsAs 17 = .ok (.putfield 220, 3) := by decide +kernel
theorem dX11_readsAs_20 : decode cX11_readsAs 20 = .ok (.aload_n 0, 1) := by decide +kernel
theorem dX11_readsAs_21 : decode cX11_readsAs 21 = .ok (.iload_n 1, 1) := by decide +kernel
theorem dX11_readsAs_22 : decode cX11_readsAs 22 = .ok (.ifCond .eq 8, 3) := by decide +kernel
theorem dX11_readsAs_25 : decode cX11_readsAs 25 = .ok (.bipush 25, 2) := by decide +kernel
theorem dX11_readsAs_27 : decode cX11_readsAs 27 = .ok (.goto 5, 3) := by decide +kernel
theorem dX11_readsAs_30 : decode cX11_readsAs 30 = .ok (.bipush 19, 2) := by decide +kernel
theorem dX11_readsAs_32 : decode cX11_readsAs 32 = .ok (.putfield 223, 3) := by decide +kernel
theorem dX11_readsAs_35 : decode cX11_readsAs 35 = .ok (.aload_n 0, 1) := by decide +kernel
theorem dX11_readsAs_36 : decode cX11_readsAs 36 = .ok (.invokevirtual 235, 3) := by decide +kernel
theorem dX11_readsAs_39 : decode cX11_readsAs 39 = .ok (.ireturn, 1) := by decide +kernel
def B_X11_readsAs_32 (Q : Int → st_S → Prop)   (v0 : Int) (σ : st_S) : Prop := ∀ s10 : st_S, s10 = sI σ 0 9 v0 → wp_X11_reads s10 (fun r11 s12 => (r11 = 0 ∨ r11 = 1) ∧ Q r11 s12)
def B_X11_readsAs_17 (Q : Int → st_S → Prop)   (l1 : Int) (v0 : Int) (σ : st_S) : Prop := ∀ s13 : st_S, s13 = sI σ 0 8 v0 → (l1 = 0 → B_X11_readsAs_32 Q 19 s13) ∧ (¬ l1 = 0 → B_X11_readsAs_32 Q 25 s13)
def wp_X11_readsAs (a1 : Int) (σ : st_S) (Q : Int → st_S → Prop) : Prop := (a1 = 0 ∨ a1 = 1) ∧ ∀ s15 : st_S, s15 = sI σ 0 10 a1 → (a1 = 0 → B_X11_readsAs_17 Q a1 10 s15) ∧ (¬ a1 = 0 → B_X11_readsAs_17 Q a1 19 s15)
set_option maxRecDepth 20000 in
theorem jb_X11_readsAs_32 {X : jj_X} {E : ev_E} {n0 hN : Nat} (hc : Cx X E cX11_readsAs 2 n0 hN RX11) (hm : eM E = 2) (hr : (xT X).sig.returnType = (some .boolean)) (hh : 89 ≤ hN) {Q : Int → st_S → Prop} {v0 : Int} (cv0 : wr v0 = v0) {σ : st_S} (h : B_X11_readsAs_32 Q v0 σ) : J X E 2 n0 0 0 (MQ (xB X) (qI E (n0 + 0) Q) (xA X) (xS X) 0 0 (eF E)) σ 32 [(0, vR E 0)] [vI v0, vR E 0] := by
  have hh1 : 1 ≤ hN := by omega
  replace h : ∀ s10 : st_S, s10 = sI σ 0 9 v0 → wp_X11_reads s10 (fun r11 s12 => (r11 = 0 ∨ r11 = 1) ∧ Q r11 s12) := h
  refine j_putI hc fl_RX11_223 rfl rfl (fun hv => Or.inl (sv_k hv hm rfl)) cv0 dX11_readsAs_32 (fun s10 es10 => ?_)
  replace h := h s10 es10
  refine j_aload_nR hc 0 dX11_readsAs_35 rfl rfl ?_
  refine j_vI hc (k := 11) (by decide) (fun hv => Or.inl (sv_k hv hm rfl)) ml_RX11_235 mv_X11_reads (As := []) (c_X11_reads (cx_E hc) hm  h) rfl (by omega) (by decide) ⟨Nat.zero_le _, Nat.zero_le _⟩ (Nat.le_of_ble_eq_true rfl) rfl dX11_readsAs_36 (fun r11 s12 cr11 h => ?_)
  exact j_zret hc hr (nar_bool h.1) (by rcases h.1 with e | e <;> (rw [e]; decide)) h.2 dX11_readsAs_39
set_option maxRecDepth 20000 in
theorem jb_X11_readsAs_17 {X : jj_X} {E : ev_E} {n0 hN : Nat} (hc : Cx X E cX11_readsAs 2 n0 hN RX11) (hm : eM E = 2) (hr : (xT X).sig.returnType = (some .boolean)) (hh : 89 ≤ hN) {Q : Int → st_S → Prop} {l1 : Int} {v0 : Int} (cl1 : wr l1 = l1) (cv0 : wr v0 = v0) {σ : st_S} (h : B_X11_readsAs_17 Q l1 v0 σ) : J X E 2 n0 0 0 (MQ (xB X) (qI E (n0 + 0) Q) (xA X) (xS X) 0 0 (eF E)) σ 17 [(0, vR E 0), (1, vI l1)] [vI v0, vR E 0] := by
  have hh1 : 1 ≤ hN := by omega
  replace h : ∀ s13 : st_S, s13 = sI σ 0 8 v0 → (l1 = 0 → B_X11_readsAs_32 Q 19 s13) ∧ (¬ l1 = 0 → B_X11_readsAs_32 Q 25 s13) := h
  refine j_putI hc fl_RX11_220 rfl rfl (fun hv => Or.inl (sv_k hv hm rfl)) cv0 dX11_readsAs_17 (fun s13 es13 => ?_)
  replace h := h s13 es13
  refine j_aload_nR hc 0 dX11_readsAs_20 rfl rfl ?_
  refine j_iload_n hc 1 dX11_readsAs_21 rfl rfl ?_
  refine j_if_eq hc cl1 (tgt := 30) dX11_readsAs_22 (by decide) (fun q14 => ?_) (fun q14 => ?_)
  · replace h := h.1 q14
    refine j_bipush hc dX11_readsAs_30 (by decide) ?_
    refine j_sub (lv' := [(0, vR E 0)]) [0] rfl ?_
    exact jb_X11_readsAs_32 hc hm hr hh (wlit 19 (by decide)) h
  · replace h := h.2 q14
    refine j_bipush hc dX11_readsAs_25 (by decide) ?_
    refine j_goto (tgt := 32) hc dX11_readsAs_27 (by decide) ?_
    refine j_sub (lv' := [(0, vR E 0)]) [0] rfl ?_
    exact jb_X11_readsAs_32 hc hm hr hh (wlit 25 (by decide)) h
set_option maxRecDepth 20000 in
theorem c_X11_readsAs {l : Launch} {E : ev_E} (hE : Eok E) (hm : eM E = 2) {a1 : Int} (ca1 : wr a1 = a1) {σ : st_S} {Q : Int → st_S → Prop} (h : wp_X11_readsAs a1 σ Q) : cM l yX11_readsAs cX11_readsAs 2 (some .boolean) E 89 0 0 [vR E 0, vI a1] σ (qI E (gN σ + 0) Q) := by
  refine cM_of (lv := [(0, vR E 0), (1, vI a1)]) (by decide) hE (Nat.le_of_ble_eq_true rfl) (rfl) ?_
  intro X hX hc _ _ hr _ _
  subst hX
  have hh : 89 ≤ 89 := Nat.le_refl _
  have hh1 : 1 ≤ 89 := by omega
  replace h : (a1 = 0 ∨ a1 = 1) ∧ ∀ s15 : st_S, s15 = sI σ 0 10 a1 → (a1 = 0 → B_X11_readsAs_17 Q a1 10 s15) ∧ (¬ a1 = 0 → B_X11_readsAs_17 Q a1 19 s15) := h
  refine j_aload_nR hc 0 dX11_readsAs_0 rfl rfl ?_
  refine j_iload_n hc 1 dX11_readsAs_1 rfl rfl ?_
  obtain ⟨z16, h⟩ := h
  refine j_putZ hc fl_RX11_194 rfl rfl (fun hv => Or.inl (sv_k hv hm rfl)) z16 dX11_readsAs_2 (fun s15 es15 => ?_)
  replace h := h s15 es15
  refine j_aload_nR hc 0 dX11_readsAs_5 rfl rfl ?_
  refine j_iload_n hc 1 dX11_readsAs_6 rfl rfl ?_
  refine j_if_eq hc ca1 (tgt := 15) dX11_readsAs_7 (by decide) (fun q17 => ?_) (fun q17 => ?_)
  · replace h := h.1 q17
    refine j_bipush hc dX11_readsAs_15 (by decide) ?_
    refine j_sub (lv' := [(0, vR E 0), (1, vI a1)]) [0, 1] rfl ?_
    exact jb_X11_readsAs_17 hc hm hr hh ca1 (wlit 10 (by decide)) h
  · replace h := h.2 q17
    refine j_bipush hc dX11_readsAs_10 (by decide) ?_
    refine j_goto (tgt := 17) hc dX11_readsAs_12 (by decide) ?_
    refine j_sub (lv' := [(0, vR E 0), (1, vI a1)]) [0, 1] rfl ?_
    exact jb_X11_readsAs_17 hc hm hr hh ca1 (wlit 19 (by decide)) h
-- LitStrangersModel.lays(I)V
theorem dX11_lays_0 : decode cX11_lays 0 = .ok (.aload_n 0, 1) := by decide +kernel
theorem dX11_lays_1 : decode cX11_lays 1 = .ok (.getfield 24, 3) := by decide +kernel
theorem dX11_lays_4 : decode cX11_lays 4 = .ok (.sipush 259, 3) := by decide +kernel
theorem dX11_lays_7 : decode cX11_lays 7 = .ok (.iload_n 1, 1) := by decide +kernel
theorem dX11_lays_8 : decode cX11_lays 8 = .ok (.iadd, 1) := by decide +kernel
theorem dX11_lays_9 : decode cX11_lays 9 = .ok (.aload_n 0, 1) := by decide +kernel
theorem dX11_lays_10 : decode cX11_lays 10 = .ok (.getfield 147, 3) := by decide +kernel
theorem dX11_lays_13 : decode cX11_lays 13 = .ok (.iastore, 1) := by decide +kernel
theorem dX11_lays_14 : decode cX11_lays 14 = .ok (.iconst 0, 1) := by decide +kernel
theorem dX11_lays_15 : decode cX11_lays 15 = .ok (.istore_n 2, 1) := by decide +kernel
theorem dX11_lays_16 : decode cX11_lays 16 = .ok (.iload_n 2, 1) := by decide +kernel
theorem dX11_lays_17 : decode cX11_lays 17 = .ok (.aload_n 0, 1) := by decide +kernel
theorem dX11_lays_18 : decode cX11_lays 18 = .ok (.getfield 147, 3) := by decide +kernel
theorem dX11_lays_21 : decode cX11_lays 21 = .ok (.if_icmp .ge 53, 3) := by decide +kernel
theorem dX11_lays_24 : decode cX11_lays 24 = .ok (.aload_n 0, 1) := by decide +kernel
theorem dX11_lays_25 : decode cX11_lays 25 = .ok (.getfield 24, 3) := by decide +kernel
theorem dX11_lays_28 : decode cX11_lays 28 = .ok (.sipush 266, 3) := by decide +kernel
theorem dX11_lays_31 : decode cX11_lays 31 = .ok (.sipush 400, 3) := by decide +kernel
theorem dX11_lays_34 : decode cX11_lays 34 = .ok (.iload_n 1, 1) := by decide +kernel
theorem dX11_lays_35 : decode cX11_lays 35 = .ok (.imul, 1) := by decide +kernel
theorem dX11_lays_36 : decode cX11_lays 36 = .ok (.iadd, 1) := by decide +kernel
theorem dX11_lays_37 : decode cX11_lays 37 = .ok (.iload_n 2, 1) := by decide +kernel
theorem dX11_lays_38 : decode cX11_lays 38 = .ok (.iadd, 1) := by decide +kernel
theorem dX11_lays_39 : decode cX11_lays 39 = .ok (.aload_n 0, 1) := by decide +kernel
theorem dX11_lays_40 : decode cX11_lays 40 = .ok (.getfield 50, 3) := by decide +kernel
theorem dX11_lays_43 : decode cX11_lays 43 = .ok (.iload_n 2, 1) := by decide +kernel
theorem dX11_lays_44 : decode cX11_lays 44 = .ok (.iaload, 1) := by decide +kernel
theorem dX11_lays_45 : decode cX11_lays 45 = .ok (.iastore, 1) := by decide +kernel
theorem dX11_lays_46 : decode cX11_lays 46 = .ok (.aload_n 0, 1) := by decide +kernel
theorem dX11_lays_47 : decode cX11_lays 47 = .ok (.getfield 24, 3) := by decide +kernel
theorem dX11_lays_50 : decode cX11_lays 50 = .ok (.sipush 3066, 3) := by decide +kernel
theorem dX11_lays_53 : decode cX11_lays 53 = .ok (.sipush 400, 3) := by decide +kernel
theorem dX11_lays_56 : decode cX11_lays 56 = .ok (.iload_n 1, 1) := by decide +kernel
theorem dX11_lays_57 : decode cX11_lays 57 = .ok (.imul, 1) := by decide +kernel
theorem dX11_lays_58 : decode cX11_lays 58 = .ok (.iadd, 1) := by decide +kernel
theorem dX11_lays_59 : decode cX11_lays 59 = .ok (.iload_n 2, 1) := by decide +kernel
theorem dX11_lays_60 : decode cX11_lays 60 = .ok (.iadd, 1) := by decide +kernel
theorem dX11_lays_61 : decode cX11_lays 61 = .ok (.aload_n 0, 1) := by decide +kernel
theorem dX11_lays_62 : decode cX11_lays 62 = .ok (.getfield 53, 3) := by decide +kernel
theorem dX11_lays_65 : decode cX11_lays 65 = .ok (.iload_n 2, 1) := by decide +kernel
theorem dX11_lays_66 : decode cX11_lays 66 = .ok (.iaload, 1) := by decide +kernel
theorem dX11_lays_67 : decode cX11_lays 67 = .ok (.iastore, 1) := by decide +kernel
theorem dX11_lays_68 : decode cX11_lays 68 = .ok (.iinc 2 1, 3) := by decide +kernel
theorem dX11_lays_71 : decode cX11_lays 71 = .ok (.goto (-55), 3) := by decide +kernel
theorem dX11_lays_74 : decode cX11_lays 74 = .ok (.return_, 1) := by decide +kernel
def L_X11_lays_16 (Q : st_S → Prop)   : Nat → Int → Int → st_S → Prop
  | 0 => fun _ _ _ => False
  | n + 1 => fun l1 l2 σ => (gI σ 0 18 ≤ l2 → Q σ) ∧ (¬ gI σ 0 18 ≤ l2 → ix l2 401 ∧ ix (wr ((266 + (400 * l1)) + l2)) 5866 ∧ ∀ s22 : st_S, s22 = sI σ 2 (Int.toNat (wr ((266 + (400 * l1)) + l2))) (gI σ 9 (Int.toNat l2)) → ix l2 401 ∧ ix (wr ((3066 + (400 * l1)) + l2)) 5866 ∧ ∀ s26 : st_S, s26 = sI s22 2 (Int.toNat (wr ((3066 + (400 * l1)) + l2))) (gI s22 10 (Int.toNat l2)) → ∀ x27 : Int, x27 = wr (l2 + 1) → (L_X11_lays_16 Q n) l1 x27 s26)
def wp_X11_lays (a1 : Int) (σ : st_S) (Q : st_S → Prop) : Prop := ix (wr (259 + a1)) 5866 ∧ ∀ s31 : st_S, s31 = sI σ 2 (Int.toNat (wr (259 + a1))) (gI σ 0 18) → ∃ m16 : Nat, L_X11_lays_16 Q m16 a1 0 s31
set_option maxRecDepth 20000 in
theorem jl_X11_lays_16 {X : jj_X} {E : ev_E} {n0 hN : Nat} (hc : Cx X E cX11_lays 3 n0 hN RX11) (hm : eM E = 2) (hr : (xT X).sig.returnType = none) (hh : 1 ≤ hN) {Q : st_S → Prop} : ∀ (n : Nat) {l1 : Int} {l2 : Int} (cl1 : wr l1 = l1) (cl2 : wr l2 = l2) {σ : st_S}, L_X11_lays_16 Q n l1 l2 σ → J X E 3 n0 0 0 (MQ (xB X) (qV E (n0 + 0) Q) (xA X) (xS X) 0 0 (eF E)) σ 16 [(0, vR E 0), (1, vI l1), (2, vI l2)] [] := by
  have hh1 : 1 ≤ hN := by omega
  intro n
  induction n with
  | zero => intro l1 l2 cl1 cl2 σ h; exact h.elim
  | succ n ih =>
    intro l1 l2 cl1 cl2 σ h
    have hk16 : ∀ {l1 : Int} {l2 : Int} (cl1 : wr l1 = l1) (cl2 : wr l2 = l2) {σ : st_S}, L_X11_lays_16 Q n l1 l2 σ → J X E 3 n0 0 0 (MQ (xB X) (qV E (n0 + 0) Q) (xA X) (xS X) 0 0 (eF E)) σ 16 [(0, vR E 0), (1, vI l1), (2, vI l2)] [] := ih
    replace h : (gI σ 0 18 ≤ l2 → Q σ) ∧ (¬ gI σ 0 18 ≤ l2 → ix l2 401 ∧ ix (wr ((266 + (400 * l1)) + l2)) 5866 ∧ ∀ s22 : st_S, s22 = sI σ 2 (Int.toNat (wr ((266 + (400 * l1)) + l2))) (gI σ 9 (Int.toNat l2)) → ix l2 401 ∧ ix (wr ((3066 + (400 * l1)) + l2)) 5866 ∧ ∀ s26 : st_S, s26 = sI s22 2 (Int.toNat (wr ((3066 + (400 * l1)) + l2))) (gI s22 10 (Int.toNat l2)) → ∀ x27 : Int, x27 = wr (l2 + 1) → (L_X11_lays_16 Q n) l1 x27 s26) := h
    refine j_iload_n hc 2 dX11_lays_16 rfl rfl ?_
    refine j_aload_nR hc 0 dX11_lays_17 rfl rfl ?_
    refine j_getI hc fl_RX11_147 (Or.inl rfl) (fun hv => Or.inl (sv_k hv hm rfl)) dX11_lays_18 (fun cn18 => ?_)
    refine j_ic_ge hc cl2 cn18 (tgt := 74) dX11_lays_21 (by decide) (fun q28 => ?_) (fun q28 => ?_)
    · replace h := h.1 q28
      exact j_vret hc hr h dX11_lays_74
    · replace h := h.2 q28
      refine j_aload_nR hc 0 dX11_lays_24 rfl rfl ?_
      refine j_getR (c' := 2) hc fl_RX11_24 rfl rfl (fun hv => (sv_k hv hm rfl)) dX11_lays_25 ?_
      refine j_sipush hc dX11_lays_28 (by decide) ?_
      refine j_sipush hc dX11_lays_31 (by decide) ?_
      refine j_iload_n hc 1 dX11_lays_34 rfl rfl ?_
      refine j_imul hc dX11_lays_35 ?_
      refine j_iadd hc dX11_lays_36 ?_
      refine j_iload_n hc 2 dX11_lays_37 rfl rfl ?_
      refine j_iadd hc dX11_lays_38 ?_
      refine j_aload_nR hc 0 dX11_lays_39 rfl rfl ?_
      refine j_getR (c' := 9) hc fl_RX11_50 rfl rfl (fun hv => (sv_k hv hm rfl)) dX11_lays_40 ?_
      refine j_iload_n hc 2 dX11_lays_43 rfl rfl ?_
      obtain ⟨b19, h⟩ := h
      refine j_iald (jn := (Int.toNat l2)) hc (fun hv => sv_kl hv hm rfl) cl2 b19 rfl dX11_lays_44 (fun cn20 => ?_)
      obtain ⟨b21, h⟩ := h
      refine j_iast (jn := (Int.toNat (wr ((266 + (400 * l1)) + l2)))) hc (fun hv => sv_kl hv hm rfl) rfl b21 rfl cn20 dX11_lays_45 (fun s22 es22 => ?_)
      replace h := h s22 es22
      refine j_aload_nR hc 0 dX11_lays_46 rfl rfl ?_
      refine j_getR (c' := 2) hc fl_RX11_24 rfl rfl (fun hv => (sv_k hv hm rfl)) dX11_lays_47 ?_
      refine j_sipush hc dX11_lays_50 (by decide) ?_
      refine j_sipush hc dX11_lays_53 (by decide) ?_
      refine j_iload_n hc 1 dX11_lays_56 rfl rfl ?_
      refine j_imul hc dX11_lays_57 ?_
      refine j_iadd hc dX11_lays_58 ?_
      refine j_iload_n hc 2 dX11_lays_59 rfl rfl ?_
      refine j_iadd hc dX11_lays_60 ?_
      refine j_aload_nR hc 0 dX11_lays_61 rfl rfl ?_
      refine j_getR (c' := 10) hc fl_RX11_53 rfl rfl (fun hv => (sv_k hv hm rfl)) dX11_lays_62 ?_
      refine j_iload_n hc 2 dX11_lays_65 rfl rfl ?_
      obtain ⟨b23, h⟩ := h
      refine j_iald (jn := (Int.toNat l2)) hc (fun hv => sv_kl hv hm rfl) cl2 b23 rfl dX11_lays_66 (fun cn24 => ?_)
      obtain ⟨b25, h⟩ := h
      refine j_iast (jn := (Int.toNat (wr ((3066 + (400 * l1)) + l2)))) hc (fun hv => sv_kl hv hm rfl) rfl b25 rfl cn24 dX11_lays_67 (fun s26 es26 => ?_)
      replace h := h s26 es26
      obtain ⟨x27, ex27⟩ : ∃ y : Int, y = wr (l2 + 1) := ⟨_, rfl⟩
      have cx27 : wr x27 = x27 := by rw [ex27]; exact wr_wr _
      replace h := h x27 ex27
      refine j_iinc (lv' := [(2, vI x27), (0, vR E 0), (1, vI l1)]) hc 2 dX11_lays_68 rfl (by decide) ex27 rfl ?_
      refine j_goto (tgt := 16) hc dX11_lays_71 (by decide) ?_
      refine j_sub (lv' := [(0, vR E 0), (1, vI l1), (2, vI x27)]) [1, 2, 0] rfl ?_
      exact hk16 cl1 cx27 h
set_option maxRecDepth 20000 in
theorem c_X11_lays {l : Launch} {E : ev_E} (hE : Eok E) (hm : eM E = 2) {a1 : Int} (ca1 : wr a1 = a1) {σ : st_S} {Q : st_S → Prop} (h : wp_X11_lays a1 σ Q) : cM l yX11_lays cX11_lays 3 none E 1 0 0 [vR E 0, vI a1] σ (qV E (gN σ + 0) Q) := by
  refine cM_of (lv := [(0, vR E 0), (1, vI a1)]) (by decide) hE (Nat.le_of_ble_eq_true rfl) (rfl) ?_
  intro X hX hc _ _ hr _ _
  subst hX
  have hh : 1 ≤ 1 := Nat.le_refl _
  have hh1 : 1 ≤ 1 := by omega
  replace h : ix (wr (259 + a1)) 5866 ∧ ∀ s31 : st_S, s31 = sI σ 2 (Int.toNat (wr (259 + a1))) (gI σ 0 18) → ∃ m16 : Nat, L_X11_lays_16 Q m16 a1 0 s31 := h
  refine j_aload_nR hc 0 dX11_lays_0 rfl rfl ?_
  refine j_getR (c' := 2) hc fl_RX11_24 rfl rfl (fun hv => (sv_k hv hm rfl)) dX11_lays_1 ?_
  refine j_sipush hc dX11_lays_4 (by decide) ?_
  refine j_iload_n hc 1 dX11_lays_7 rfl rfl ?_
  refine j_iadd hc dX11_lays_8 ?_
  refine j_aload_nR hc 0 dX11_lays_9 rfl rfl ?_
  refine j_getI hc fl_RX11_147 (Or.inl rfl) (fun hv => Or.inl (sv_k hv hm rfl)) dX11_lays_10 (fun cn29 => ?_)
  obtain ⟨b30, h⟩ := h
  refine j_iast (jn := (Int.toNat (wr (259 + a1)))) hc (fun hv => sv_kl hv hm rfl) rfl b30 rfl cn29 dX11_lays_13 (fun s31 es31 => ?_)
  replace h := h s31 es31
  refine j_iconst hc dX11_lays_14 ?_
  refine j_istore_n (lv' := [(2, vI 0), (0, vR E 0), (1, vI a1)]) hc dX11_lays_15 rfl (by decide) rfl ?_
  obtain ⟨n16, h⟩ := h
  refine j_sub (lv' := [(0, vR E 0), (1, vI a1), (2, vI 0)]) [1, 2, 0] rfl ?_
  exact jl_X11_lays_16 hc hm hr hh n16 ca1 (wlit 0 (by decide)) h
-- LitStrangersModel.law()I
theorem dX11_law_0 : decode cX11_law 0 = .ok (.aload_n 0, 1) := by decide +kernel
theorem dX11_law_1 : decode cX11_law 1 = .ok (.getfield 24, 3) := by decide +kernel
theorem dX11_law_4 : decode cX11_law 4 = .ok (.sipush 257, 3) := by decide +kernel
theorem dX11_law_7 : decode cX11_law 7 = .ok (.iaload, 1) := by decide +kernel
theorem dX11_law_8 : decode cX11_law 8 = .ok (.bipush 6, 2) := by decide +kernel
theorem dX11_law_10 : decode cX11_law 10 = .ok (.if_icmp .ne 15, 3) := by decide +kernel
theorem dX11_law_13 : decode cX11_law 13 = .ok (.aload_n 0, 1) := by decide +kernel
theorem dX11_law_14 : decode cX11_law 14 = .ok (.iconst 0, 1) := by decide +kernel
theorem dX11_law_15 : decode cX11_law 15 = .ok (.putfield 141, 3) := by decide +kernel
theorem dX11_law_18 : decode cX11_law 18 = .ok (.aload_n 0, 1) := by decide +kernel
theorem dX11_law_19 : decode cX11_law 19 = .ok (.bipush (-5), 2) := by decide +kernel
theorem dX11_law_21 : decode cX11_law 21 = .ok (.invokevirtual 110, 3) := by decide +kernel
theorem dX11_law_24 : decode cX11_law 24 = .ok (.ireturn, 1) := by decide +kernel
theorem dX11_law_25 : decode cX11_law 25 = .ok (.aload_n 0, 1) := by decide +kernel
theorem dX11_law_26 : decode cX11_law 26 = .ok (.iconst 0, 1) := by decide +kernel
theorem dX11_law_27 : decode cX11_law 27 = .ok (.invokevirtual 238, 3) := by decide +kernel
theorem dX11_law_30 : decode cX11_law 30 = .ok (.ifCond .ne 10, 3) := by decide +kernel
theorem dX11_law_33 : decode cX11_law 33 = .ok (.aload_n 0, 1) := by decide +kernel
theorem dX11_law_34 : decode cX11_law 34 = .ok (.bipush (-6), 2) := by decide +kernel
theorem dX11_law_36 : decode cX11_law 36 = .ok (.invokevirtual 110, 3) := by decide +kernel
theorem dX11_law_39 : decode cX11_law 39 = .ok (.ireturn, 1) := by decide +kernel
theorem dX11_law_40 : decode cX11_law 40 = .ok (.aload_n 0, 1) := by decide +kernel
theorem dX11_law_41 : decode cX11_law 41 = .ok (.aload_n 0, 1) := by decide +kernel
theorem dX11_law_42 : decode cX11_law 42 = .ok (.getfield 24, 3) := by decide +kernel
theorem dX11_law_45 : decode cX11_law 45 = .ok (.sipush 257, 3) := by decide +kernel
theorem dX11_law_48 : decode cX11_law 48 = .ok (.iaload, 1) := by decide +kernel
theorem dX11_law_49 : decode cX11_law 49 = .ok (.invokevirtual 242, 3) := by decide +kernel
theorem dX11_law_52 : decode cX11_law 52 = .ok (.aload_n 0, 1) := by decide +kernel
theorem dX11_law_53 : decode cX11_law 53 = .ok (.getfield 24, 3) := by decide +kernel
theorem dX11_law_56 : decode cX11_law 56 = .ok (.sipush 257, 3) := by decide +kernel
theorem dX11_law_59 : decode cX11_law 59 = .ok (.dup2, 1) := by decide +kernel
theorem dX11_law_60 : decode cX11_law 60 = .ok (.iaload, 1) := by decide +kernel
theorem dX11_law_61 : decode cX11_law 61 = .ok (.iconst 1, 1) := by decide +kernel
theorem dX11_law_62 : decode cX11_law 62 = .ok (.iadd, 1) := by decide +kernel
theorem dX11_law_63 : decode cX11_law 63 = .ok (.iastore, 1) := by decide +kernel
theorem dX11_law_64 : decode cX11_law 64 = .ok (.aload_n 0, 1) := by decide +kernel
theorem dX11_law_65 : decode cX11_law 65 = .ok (.aload_n 0, 1) := by decide +kernel
theorem dX11_law_66 : decode cX11_law 66 = .ok (.getfield 24, 3) := by decide +kernel
theorem dX11_law_69 : decode cX11_law 69 = .ok (.sipush 257, 3) := by decide +kernel
theorem dX11_law_72 : decode cX11_law 72 = .ok (.iaload, 1) := by decide +kernel
theorem dX11_law_73 : decode cX11_law 73 = .ok (.iconst 1, 1) := by decide +kernel
theorem dX11_law_74 : decode cX11_law 74 = .ok (.isub, 1) := by decide +kernel
theorem dX11_law_75 : decode cX11_law 75 = .ok (.invokevirtual 14, 3) := by decide +kernel
theorem dX11_law_78 : decode cX11_law 78 = .ok (.ireturn, 1) := by decide +kernel
def wp_X11_law  (σ : st_S) (Q : Int → st_S → Prop) : Prop := (¬ gI σ 2 257 = 6 → wp_X11_readsAs 0 σ (fun r25 s26 => (¬ r25 = 0 → wp_X11_lays (gI s26 2 257) s26 (fun s29 => ∀ x31 : Int, x31 = wr (gI s29 2 257 + 1) → ∀ s32 : st_S, s32 = sI s29 2 257 x31 → wp_X11_good (wr (gI s32 2 257 - 1)) s32 (fun r34 s35 => Q r34 s35))) ∧ (r25 = 0 → wp_X11_refuses (-6) s26 (fun r36 s37 => Q r36 s37)))) ∧ (gI σ 2 257 = 6 → ∀ s39 : st_S, s39 = sI σ 0 13 0 → wp_X11_refuses (-5) s39 (fun r40 s41 => Q r40 s41))
set_option maxRecDepth 20000 in
theorem c_X11_law {l : Launch} {E : ev_E} (hE : Eok E) (hm : eM E = 2) {σ : st_S} {Q : Int → st_S → Prop} (h : wp_X11_law σ Q) : cM l yX11_law cX11_law 1 (some .int) E 90 0 0 [vR E 0] σ (qI E (gN σ + 0) Q) := by
  refine cM_of (lv := [(0, vR E 0)]) (by decide) hE (Nat.le_of_ble_eq_true rfl) (rfl) ?_
  intro X hX hc _ _ hr _ _
  subst hX
  have hh : 90 ≤ 90 := Nat.le_refl _
  have hh1 : 1 ≤ 90 := by omega
  replace h : (¬ gI σ 2 257 = 6 → wp_X11_readsAs 0 σ (fun r25 s26 => (¬ r25 = 0 → wp_X11_lays (gI s26 2 257) s26 (fun s29 => ∀ x31 : Int, x31 = wr (gI s29 2 257 + 1) → ∀ s32 : st_S, s32 = sI s29 2 257 x31 → wp_X11_good (wr (gI s32 2 257 - 1)) s32 (fun r34 s35 => Q r34 s35))) ∧ (r25 = 0 → wp_X11_refuses (-6) s26 (fun r36 s37 => Q r36 s37)))) ∧ (gI σ 2 257 = 6 → ∀ s39 : st_S, s39 = sI σ 0 13 0 → wp_X11_refuses (-5) s39 (fun r40 s41 => Q r40 s41)) := h
  refine j_aload_nR hc 0 dX11_law_0 rfl rfl ?_
  refine j_getR (c' := 2) hc fl_RX11_24 rfl rfl (fun hv => (sv_k hv hm rfl)) dX11_law_1 ?_
  refine j_sipush hc dX11_law_4 (by decide) ?_
  refine j_iald (jn := 257) hc (fun hv => sv_kl hv hm rfl) (wlit 257 (by decide)) ⟨by decide, by decide⟩ rfl dX11_law_7 (fun cn24 => ?_)
  refine j_bipush hc dX11_law_8 (by decide) ?_
  refine j_ic_ne hc cn24 (wlit 6 (by decide)) (tgt := 25) dX11_law_10 (by decide) (fun q42 => ?_) (fun q42 => ?_)
  · replace h := h.1 q42
    refine j_aload_nR hc 0 dX11_law_25 rfl rfl ?_
    refine j_iconst hc dX11_law_26 ?_
    refine j_vI hc (k := 11) (by decide) (fun hv => Or.inl (sv_k hv hm rfl)) ml_RX11_238 mv_X11_readsAs (As := [vI 0]) (c_X11_readsAs (cx_E hc) hm (wlit 0 (by decide)) h) rfl (by omega) (by decide) ⟨Nat.zero_le _, Nat.zero_le _⟩ (Nat.le_of_ble_eq_true rfl) rfl dX11_law_27 (fun r25 s26 cr25 h => ?_)
    refine j_if_ne hc cr25 (tgt := 40) dX11_law_30 (by decide) (fun q38 => ?_) (fun q38 => ?_)
    · replace h := h.1 q38
      refine j_aload_nR hc 0 dX11_law_40 rfl rfl ?_
      refine j_aload_nR hc 0 dX11_law_41 rfl rfl ?_
      refine j_getR (c' := 2) hc fl_RX11_24 rfl rfl (fun hv => (sv_k hv hm rfl)) dX11_law_42 ?_
      refine j_sipush hc dX11_law_45 (by decide) ?_
      refine j_iald (jn := 257) hc (fun hv => sv_kl hv hm rfl) (wlit 257 (by decide)) ⟨by decide, by decide⟩ rfl dX11_law_48 (fun cn27 => ?_)
      refine j_vV hc (k := 11) (by decide) (fun hv => Or.inl (sv_k hv hm rfl)) ml_RX11_242 mv_X11_lays (As := [vI (gI s26 2 257)]) (c_X11_lays (cx_E hc) hm cn27 h) rfl (by omega) (by decide) ⟨Nat.zero_le _, Nat.zero_le _⟩ (Nat.le_of_ble_eq_true rfl) rfl dX11_law_49 (fun s29 h => ?_)
      refine j_aload_nR hc 0 dX11_law_52 rfl rfl ?_
      refine j_getR (c' := 2) hc fl_RX11_24 rfl rfl (fun hv => (sv_k hv hm rfl)) dX11_law_53 ?_
      refine j_sipush hc dX11_law_56 (by decide) ?_
      refine j_dup2 hc dX11_law_59 rfl rfl ?_
      refine j_iald (jn := 257) hc (fun hv => sv_kl hv hm rfl) (wlit 257 (by decide)) ⟨by decide, by decide⟩ rfl dX11_law_60 (fun cn30 => ?_)
      refine j_iconst hc dX11_law_61 ?_
      refine j_iadd hc dX11_law_62 ?_
      refine j_w (fun x31 ex31 cx31 => ?_)
      replace h := h x31 ex31
      refine j_iast (jn := 257) hc (fun hv => sv_kl hv hm rfl) (wlit 257 (by decide)) ⟨by decide, by decide⟩ rfl cx31 dX11_law_63 (fun s32 es32 => ?_)
      replace h := h s32 es32
      refine j_aload_nR hc 0 dX11_law_64 rfl rfl ?_
      refine j_aload_nR hc 0 dX11_law_65 rfl rfl ?_
      refine j_getR (c' := 2) hc fl_RX11_24 rfl rfl (fun hv => (sv_k hv hm rfl)) dX11_law_66 ?_
      refine j_sipush hc dX11_law_69 (by decide) ?_
      refine j_iald (jn := 257) hc (fun hv => sv_kl hv hm rfl) (wlit 257 (by decide)) ⟨by decide, by decide⟩ rfl dX11_law_72 (fun cn33 => ?_)
      refine j_iconst hc dX11_law_73 ?_
      refine j_isub hc dX11_law_74 ?_
      refine j_vI hc (k := 11) (by decide) (fun hv => Or.inl (sv_k hv hm rfl)) ml_RX11_14 mv_X11_good (As := [vI (wr (gI s32 2 257 - 1))]) (c_X11_good (cx_E hc) hm (wr_wr _) h) rfl (by omega) (by decide) ⟨Nat.zero_le _, Nat.zero_le _⟩ (Nat.le_of_ble_eq_true rfl) (by simp only [vI_wr, vL_wl]; rfl) dX11_law_75 (fun r34 s35 cr34 h => ?_)
      exact j_iret hc hr cr34 h dX11_law_78
    · replace h := h.2 q38
      refine j_aload_nR hc 0 dX11_law_33 rfl rfl ?_
      refine j_bipush hc dX11_law_34 (by decide) ?_
      refine j_vI hc (k := 11) (by decide) (fun hv => Or.inl (sv_k hv hm rfl)) ml_RX11_110 mv_X11_refuses (As := [vI (-6)]) (c_X11_refuses (cx_E hc) hm (wlit (-6) (by decide)) h) rfl (by omega) (by decide) ⟨Nat.zero_le _, Nat.zero_le _⟩ (Nat.le_of_ble_eq_true rfl) rfl dX11_law_36 (fun r36 s37 cr36 h => ?_)
      exact j_iret hc hr cr36 h dX11_law_39
  · replace h := h.2 q42
    refine j_aload_nR hc 0 dX11_law_13 rfl rfl ?_
    refine j_iconst hc dX11_law_14 ?_
    refine j_putI hc fl_RX11_141 rfl rfl (fun hv => Or.inl (sv_k hv hm rfl)) (wlit 0 (by decide)) dX11_law_15 (fun s39 es39 => ?_)
    replace h := h s39 es39
    refine j_aload_nR hc 0 dX11_law_18 rfl rfl ?_
    refine j_bipush hc dX11_law_19 (by decide) ?_
    refine j_vI hc (k := 11) (by decide) (fun hv => Or.inl (sv_k hv hm rfl)) ml_RX11_110 mv_X11_refuses (As := [vI (-5)]) (c_X11_refuses (cx_E hc) hm (wlit (-5) (by decide)) h) rfl (by omega) (by decide) ⟨Nat.zero_le _, Nat.zero_le _⟩ (Nat.le_of_ble_eq_true rfl) rfl dX11_law_21 (fun r40 s41 cr40 h => ?_)
    exact j_iret hc hr cr40 h dX11_law_24
-- LitStrangersModel.fault()I
theorem dX11_fault_0 : decode cX11_fault 0 = .ok (.aload_n 0, 1) := by decide +kernel
theorem dX11_fault_1 : decode cX11_fault 1 = .ok (.getfield 47, 3) := by decide +kernel
theorem dX11_fault_4 : decode cX11_fault 4 = .ok (.ireturn, 1) := by decide +kernel
def wp_X11_fault  (σ : st_S) (Q : Int → st_S → Prop) : Prop := Q (gI σ 0 14) σ
set_option maxRecDepth 20000 in
theorem c_X11_fault {l : Launch} {E : ev_E} (hE : Eok E) (hm : eM E = 2) {σ : st_S} {Q : Int → st_S → Prop} (h : wp_X11_fault σ Q) : cM l yX11_fault cX11_fault 1 (some .int) E 1 0 0 [vR E 0] σ (qI E (gN σ + 0) Q) := by
  refine cM_of (lv := [(0, vR E 0)]) (by decide) hE (Nat.le_of_ble_eq_true rfl) (rfl) ?_
  intro X hX hc _ _ hr _ _
  subst hX
  have hh : 1 ≤ 1 := Nat.le_refl _
  have hh1 : 1 ≤ 1 := by omega
  replace h : Q (gI σ 0 14) σ := h
  refine j_aload_nR hc 0 dX11_fault_0 rfl rfl ?_
  refine j_getI hc fl_RX11_47 (Or.inl rfl) (fun hv => Or.inl (sv_k hv hm rfl)) dX11_fault_1 (fun cn2 => ?_)
  exact j_iret hc hr cn2 h dX11_fault_4
-- LitStrangersModel.force(I)I
theorem dX11_force_0 : decode cX11_force 0 = .ok (.iload_n 1, 1) := by decide +kernel
theorem dX11_force_1 : decode cX11_force 1 = .ok (.iconst (-1), 1) := by decide +kernel
theorem dX11_force_2 : decode cX11_force 2 = .ok (.aload_n 0, 1) := by decide +kernel
theorem dX11_force_3 : decode cX11_force 3 = .ok (.getfield 24, 3) := by decide +kernel
theorem dX11_force_6 : decode cX11_force 6 = .ok (.sipush 257, 3) := by decide +kernel
theorem dX11_force_9 : decode cX11_force 9 = .ok (.iaload, 1) := by decide +kernel
theorem dX11_force_10 : decode cX11_force 10 = .ok (.iconst 1, 1) := by decide +kernel
theorem dX11_force_11 : decode cX11_force 11 = .ok (.isub, 1) := by decide +kernel
theorem dX11_force_12 : decode cX11_force 12 = .ok (.invokestatic 106, 3) := by decide +kernel
theorem dX11_force_15 : decode cX11_force 15 = .ok (.ifCond .ne 10, 3) := by decide +kernel
theorem dX11_force_18 : decode cX11_force 18 = .ok (.aload_n 0, 1) := by decide +kernel
theorem dX11_force_19 : decode cX11_force 19 = .ok (.bipush (-2), 2) := by decide +kernel
theorem dX11_force_21 : decode cX11_force 21 = .ok (.invokevirtual 110, 3) := by decide +kernel
theorem dX11_force_24 : decode cX11_force 24 = .ok (.ireturn, 1) := by decide +kernel
theorem dX11_force_25 : decode cX11_force 25 = .ok (.aload_n 0, 1) := by decide +kernel
theorem dX11_force_26 : decode cX11_force 26 = .ok (.getfield 24, 3) := by decide +kernel
theorem dX11_force_29 : decode cX11_force 29 = .ok (.sipush 258, 3) := by decide +kernel
theorem dX11_force_32 : decode cX11_force 32 = .ok (.iaload, 1) := by decide +kernel
theorem dX11_force_33 : decode cX11_force 33 = .ok (.istore_n 2, 1) := by decide +kernel
theorem dX11_force_34 : decode cX11_force 34 = .ok (.aload_n 0, 1) := by decide +kernel
theorem dX11_force_35 : decode cX11_force 35 = .ok (.getfield 24, 3) := by decide +kernel
theorem dX11_force_38 : decode cX11_force 38 = .ok (.sipush 258, 3) := by decide +kernel
theorem dX11_force_41 : decode cX11_force 41 = .ok (.iload_n 1, 1) := by decide +kernel
theorem dX11_force_42 : decode cX11_force 42 = .ok (.iastore, 1) := by decide +kernel
theorem dX11_force_43 : decode cX11_force 43 = .ok (.aload_n 0, 1) := by decide +kernel
theorem dX11_force_44 : decode cX11_force 44 = .ok (.iload_n 2, 1) := by decide +kernel
theorem dX11_force_45 : decode cX11_force 45 = .ok (.invokevirtual 14, 3) := by decide +kernel
theorem dX11_force_48 : decode cX11_force 48 = .ok (.ireturn, 1) := by decide +kernel
def wp_X11_force (a1 : Int) (σ : st_S) (Q : Int → st_S → Prop) : Prop := wp_X11_lies a1 (-1) (wr (gI σ 2 257 - 1)) σ (fun r16 s17 => (¬ r16 = 0 → ∀ x19 : Int, x19 = gI s17 2 258 → ∀ s20 : st_S, s20 = sI s17 2 258 a1 → wp_X11_good x19 s20 (fun r21 s22 => Q r21 s22)) ∧ (r16 = 0 → wp_X11_refuses (-2) s17 (fun r23 s24 => Q r23 s24)))
set_option maxRecDepth 20000 in
theorem c_X11_force {l : Launch} {E : ev_E} (hE : Eok E) (hm : eM E = 2) {a1 : Int} (ca1 : wr a1 = a1) {σ : st_S} {Q : Int → st_S → Prop} (h : wp_X11_force a1 σ Q) : cM l yX11_force cX11_force 3 (some .int) E 2 0 0 [vR E 0, vI a1] σ (qI E (gN σ + 0) Q) := by
  refine cM_of (lv := [(0, vR E 0), (1, vI a1)]) (by decide) hE (Nat.le_of_ble_eq_true rfl) (rfl) ?_
  intro X hX hc _ _ hr _ _
  subst hX
  have hh : 2 ≤ 2 := Nat.le_refl _
  have hh1 : 1 ≤ 2 := by omega
  replace h : wp_X11_lies a1 (-1) (wr (gI σ 2 257 - 1)) σ (fun r16 s17 => (¬ r16 = 0 → ∀ x19 : Int, x19 = gI s17 2 258 → ∀ s20 : st_S, s20 = sI s17 2 258 a1 → wp_X11_good x19 s20 (fun r21 s22 => Q r21 s22)) ∧ (r16 = 0 → wp_X11_refuses (-2) s17 (fun r23 s24 => Q r23 s24))) := h
  refine j_iload_n hc 1 dX11_force_0 rfl rfl ?_
  refine j_iconst hc dX11_force_1 ?_
  refine j_aload_nR hc 0 dX11_force_2 rfl rfl ?_
  refine j_getR (c' := 2) hc fl_RX11_24 rfl rfl (fun hv => (sv_k hv hm rfl)) dX11_force_3 ?_
  refine j_sipush hc dX11_force_6 (by decide) ?_
  refine j_iald (jn := 257) hc (fun hv => sv_kl hv hm rfl) (wlit 257 (by decide)) ⟨by decide, by decide⟩ rfl dX11_force_9 (fun cn15 => ?_)
  refine j_iconst hc dX11_force_10 ?_
  refine j_isub hc dX11_force_11 ?_
  refine j_sI hc ml_RX11_106 mv_X11_lies (As := [vI a1, vI (-1), vI (wr (gI σ 2 257 - 1))]) (c_X11_lies (cx_E hc) hm ca1 (wlit (-1) (by decide)) (wr_wr _) h) rfl (by omega) (by decide) ⟨Nat.zero_le _, Nat.zero_le _⟩ (Nat.le_of_ble_eq_true rfl) (by simp only [vI_wr, vL_wl]; rfl) dX11_force_12 (fun r16 s17 cr16 h => ?_)
  refine j_if_ne hc cr16 (tgt := 25) dX11_force_15 (by decide) (fun q25 => ?_) (fun q25 => ?_)
  · replace h := h.1 q25
    refine j_aload_nR hc 0 dX11_force_25 rfl rfl ?_
    refine j_getR (c' := 2) hc fl_RX11_24 rfl rfl (fun hv => (sv_k hv hm rfl)) dX11_force_26 ?_
    refine j_sipush hc dX11_force_29 (by decide) ?_
    refine j_iald (jn := 258) hc (fun hv => sv_kl hv hm rfl) (wlit 258 (by decide)) ⟨by decide, by decide⟩ rfl dX11_force_32 (fun cn18 => ?_)
    refine j_c cn18 (fun x19 ex19 cx19 => ?_)
    replace h := h x19 ex19
    refine j_istore_n (lv' := [(2, vI x19), (0, vR E 0), (1, vI a1)]) hc dX11_force_33 rfl (by decide) rfl ?_
    refine j_aload_nR hc 1 dX11_force_34 rfl rfl ?_
    refine j_getR (c' := 2) hc fl_RX11_24 rfl rfl (fun hv => (sv_k hv hm rfl)) dX11_force_35 ?_
    refine j_sipush hc dX11_force_38 (by decide) ?_
    refine j_iload_n hc 2 dX11_force_41 rfl rfl ?_
    refine j_iast (jn := 258) hc (fun hv => sv_kl hv hm rfl) (wlit 258 (by decide)) ⟨by decide, by decide⟩ rfl ca1 dX11_force_42 (fun s20 es20 => ?_)
    replace h := h s20 es20
    refine j_aload_nR hc 1 dX11_force_43 rfl rfl ?_
    refine j_iload_n hc 0 dX11_force_44 rfl rfl ?_
    refine j_vI hc (k := 11) (by decide) (fun hv => Or.inl (sv_k hv hm rfl)) ml_RX11_14 mv_X11_good (As := [vI x19]) (c_X11_good (cx_E hc) hm cx19 h) rfl (by omega) (by decide) ⟨Nat.zero_le _, Nat.zero_le _⟩ (Nat.le_of_ble_eq_true rfl) rfl dX11_force_45 (fun r21 s22 cr21 h => ?_)
    exact j_iret hc hr cr21 h dX11_force_48
  · replace h := h.2 q25
    refine j_aload_nR hc 0 dX11_force_18 rfl rfl ?_
    refine j_bipush hc dX11_force_19 (by decide) ?_
    refine j_vI hc (k := 11) (by decide) (fun hv => Or.inl (sv_k hv hm rfl)) ml_RX11_110 mv_X11_refuses (As := [vI (-2)]) (c_X11_refuses (cx_E hc) hm (wlit (-2) (by decide)) h) rfl (by omega) (by decide) ⟨Nat.zero_le _, Nat.zero_le _⟩ (Nat.le_of_ble_eq_true rfl) rfl dX11_force_21 (fun r23 s24 cr23 h => ?_)
    exact j_iret hc hr cr23 h dX11_force_24
-- LitStrangersModel.codeAt(I)I
theorem dX11_codeAt_0 : decode cX11_codeAt 0 = .ok (.iload_n 1, 1) := by decide +kernel
theorem dX11_codeAt_1 : decode cX11_codeAt 1 = .ok (.aload_n 0, 1) := by decide +kernel
theorem dX11_codeAt_2 : decode cX11_codeAt 2 = .ok (.getfield 245, 3) := by decide +kernel
theorem dX11_codeAt_5 : decode cX11_codeAt 5 = .ok (.if_icmp .ge 16, 3) := by decide +kernel
theorem dX11_codeAt_8 : decode cX11_codeAt 8 = .ok (.aload_n 0, 1) := by decide +kernel
theorem dX11_codeAt_9 : decode cX11_codeAt 9 = .ok (.getfield 24, 3) := by decide +kernel
theorem dX11_codeAt_12 : decode cX11_codeAt 12 = .ok (.sipush 266, 3) := by decide +kernel
theorem dX11_codeAt_15 : decode cX11_codeAt 15 = .ok (.iload_n 1, 1) := by decide +kernel
theorem dX11_codeAt_16 : decode cX11_codeAt 16 = .ok (.iadd, 1) := by decide +kernel
theorem dX11_codeAt_17 : decode cX11_codeAt 17 = .ok (.iaload, 1) := by decide +kernel
theorem dX11_codeAt_18 : decode cX11_codeAt 18 = .ok (.goto 4, 3) := by decide +kernel
theorem dX11_codeAt_21 : decode cX11_codeAt 21 = .ok (.iconst 0, 1) := by decide +kernel
theorem dX11_codeAt_22 : decode cX11_codeAt 22 = .ok (.ireturn, 1) := by decide +kernel
def B_X11_codeAt_22 (Q : Int → st_S → Prop)   (v0 : Int) (σ : st_S) : Prop := Q v0 σ
def wp_X11_codeAt (a1 : Int) (σ : st_S) (Q : Int → st_S → Prop) : Prop := (gI σ 0 23 ≤ a1 → B_X11_codeAt_22 Q 0 σ) ∧ (¬ gI σ 0 23 ≤ a1 → ix (wr (266 + a1)) 5866 ∧ B_X11_codeAt_22 Q (gI σ 2 (Int.toNat (wr (266 + a1)))) σ)
set_option maxRecDepth 20000 in
theorem jb_X11_codeAt_22 {X : jj_X} {E : ev_E} {n0 hN : Nat} (hc : Cx X E cX11_codeAt 2 n0 hN RX11) (hm : eM E = 2) (hr : (xT X).sig.returnType = (some .int)) (hh : 1 ≤ hN) {Q : Int → st_S → Prop} {v0 : Int} (cv0 : wr v0 = v0) {σ : st_S} (h : B_X11_codeAt_22 Q v0 σ) : J X E 2 n0 0 0 (MQ (xB X) (qI E (n0 + 0) Q) (xA X) (xS X) 0 0 (eF E)) σ 22 [] [vI v0] := by
  have hh1 : 1 ≤ hN := by omega
  replace h : Q v0 σ := h
  exact j_iret hc hr cv0 h dX11_codeAt_22
set_option maxRecDepth 20000 in
theorem c_X11_codeAt {l : Launch} {E : ev_E} (hE : Eok E) (hm : eM E = 2) {a1 : Int} (ca1 : wr a1 = a1) {σ : st_S} {Q : Int → st_S → Prop} (h : wp_X11_codeAt a1 σ Q) : cM l yX11_codeAt cX11_codeAt 2 (some .int) E 1 0 0 [vR E 0, vI a1] σ (qI E (gN σ + 0) Q) := by
  refine cM_of (lv := [(0, vR E 0), (1, vI a1)]) (by decide) hE (Nat.le_of_ble_eq_true rfl) (rfl) ?_
  intro X hX hc _ _ hr _ _
  subst hX
  have hh : 1 ≤ 1 := Nat.le_refl _
  have hh1 : 1 ≤ 1 := by omega
  replace h : (gI σ 0 23 ≤ a1 → B_X11_codeAt_22 Q 0 σ) ∧ (¬ gI σ 0 23 ≤ a1 → ix (wr (266 + a1)) 5866 ∧ B_X11_codeAt_22 Q (gI σ 2 (Int.toNat (wr (266 + a1)))) σ) := h
  refine j_iload_n hc 1 dX11_codeAt_0 rfl rfl ?_
  refine j_aload_nR hc 0 dX11_codeAt_1 rfl rfl ?_
  refine j_getI hc fl_RX11_245 (Or.inl rfl) (fun hv => Or.inl (sv_k hv hm rfl)) dX11_codeAt_2 (fun cn4 => ?_)
  refine j_ic_ge hc ca1 cn4 (tgt := 21) dX11_codeAt_5 (by decide) (fun q7 => ?_) (fun q7 => ?_)
  · replace h := h.1 q7
    refine j_iconst hc dX11_codeAt_21 ?_
    refine j_sub (lv' := []) [] rfl ?_
    exact jb_X11_codeAt_22 hc hm hr hh (wlit 0 (by decide)) h
  · replace h := h.2 q7
    refine j_aload_nR hc 0 dX11_codeAt_8 rfl rfl ?_
    refine j_getR (c' := 2) hc fl_RX11_24 rfl rfl (fun hv => (sv_k hv hm rfl)) dX11_codeAt_9 ?_
    refine j_sipush hc dX11_codeAt_12 (by decide) ?_
    refine j_iload_n hc 1 dX11_codeAt_15 rfl rfl ?_
    refine j_iadd hc dX11_codeAt_16 ?_
    obtain ⟨b5, h⟩ := h
    refine j_iald (jn := (Int.toNat (wr (266 + a1)))) hc (fun hv => sv_kl hv hm rfl) rfl b5 rfl dX11_codeAt_17 (fun cn6 => ?_)
    refine j_goto (tgt := 22) hc dX11_codeAt_18 (by decide) ?_
    refine j_sub (lv' := []) [] rfl ?_
    exact jb_X11_codeAt_22 hc hm hr hh cn6 h
-- LitStrangersModel.passes0(I)Z
theorem dX11_passes0_0 : decode cX11_passes0 0 = .ok (.aload_n 0, 1) := by decide +kernel
theorem dX11_passes0_1 : decode cX11_passes0 1 = .ok (.aload_n 0, 1) := by decide +kernel
theorem dX11_passes0_2 : decode cX11_passes0 2 = .ok (.getfield 248, 3) := by decide +kernel
theorem dX11_passes0_5 : decode cX11_passes0 5 = .ok (.invokevirtual 251, 3) := by decide +kernel
theorem dX11_passes0_8 : decode cX11_passes0 8 = .ok (.iload_n 1, 1) := by decide +kernel
theorem dX11_passes0_9 : decode cX11_passes0 9 = .ok (.if_icmp .ne 7, 3) := by decide +kernel
theorem dX11_passes0_12 : decode cX11_passes0 12 = .ok (.iconst 1, 1) := by decide +kernel
theorem dX11_passes0_13 : decode cX11_passes0 13 = .ok (.goto 4, 3) := by decide +kernel
theorem dX11_passes0_16 : decode cX11_passes0 16 = .ok (.iconst 0, 1) := by decide +kernel
theorem dX11_passes0_17 : decode cX11_passes0 17 = .ok (.istore_n 2, 1) := by decide +kernel
theorem dX11_passes0_18 : decode cX11_passes0 18 = .ok (.iload_n 2, 1) := by decide +kernel
theorem dX11_passes0_19 : decode cX11_passes0 19 = .ok (.ifCond .eq 13, 3) := by decide +kernel
theorem dX11_passes0_22 : decode cX11_passes0 22 = .ok (.aload_n 0, 1) := by decide +kernel
theorem dX11_passes0_23 : decode cX11_passes0 23 = .ok (.dup, 1) := by decide +kernel
theorem dX11_passes0_24 : decode cX11_passes0 24 = .ok (.getfield 248, 3) := by decide +kernel
theorem dX11_passes0_27 : decode cX11_passes0 27 = .ok (.iconst 1, 1) := by decide +kernel
theorem dX11_passes0_28 : decode cX11_passes0 28 = .ok (.iadd, 1) := by decide +kernel
theorem dX11_passes0_29 : decode cX11_passes0 29 = .ok (.putfield 248, 3) := by decide +kernel
theorem dX11_passes0_32 : decode cX11_passes0 32 = .ok (.iload_n 2, 1) := by decide +kernel
theorem dX11_passes0_33 : decode cX11_passes0 33 = .ok (.ireturn, 1) := by decide +kernel
def B_X11_passes0_32 (Q : Int → st_S → Prop)   (l2 : Int) (σ : st_S) : Prop := (l2 = 0 ∨ l2 = 1) ∧ Q l2 σ
def B_X11_passes0_17 (Q : Int → st_S → Prop)   (v0 : Int) (σ : st_S) : Prop := (v0 = 0 → B_X11_passes0_32 Q v0 σ) ∧ (¬ v0 = 0 → ∀ x9 : Int, x9 = wr (gI σ 0 22 + 1) → ∀ s10 : st_S, s10 = sI σ 0 22 x9 → B_X11_passes0_32 Q v0 s10)
def wp_X11_passes0 (a1 : Int) (σ : st_S) (Q : Int → st_S → Prop) : Prop := wp_X11_codeAt (gI σ 0 22) σ (fun r13 s14 => (¬ r13 = a1 → B_X11_passes0_17 Q 0 s14) ∧ (r13 = a1 → B_X11_passes0_17 Q 1 s14))
set_option maxRecDepth 20000 in
theorem jb_X11_passes0_32 {X : jj_X} {E : ev_E} {n0 hN : Nat} (hc : Cx X E cX11_passes0 3 n0 hN RX11) (hm : eM E = 2) (hr : (xT X).sig.returnType = (some .boolean)) (hh : 2 ≤ hN) {Q : Int → st_S → Prop} {l2 : Int} (cl2 : wr l2 = l2) {σ : st_S} (h : B_X11_passes0_32 Q l2 σ) : J X E 3 n0 0 0 (MQ (xB X) (qI E (n0 + 0) Q) (xA X) (xS X) 0 0 (eF E)) σ 32 [(2, vI l2)] [] := by
  have hh1 : 1 ≤ hN := by omega
  replace h : (l2 = 0 ∨ l2 = 1) ∧ Q l2 σ := h
  refine j_iload_n hc 0 dX11_passes0_32 rfl rfl ?_
  exact j_zret hc hr (nar_bool h.1) (by rcases h.1 with e | e <;> (rw [e]; decide)) h.2 dX11_passes0_33
set_option maxRecDepth 20000 in
theorem jb_X11_passes0_17 {X : jj_X} {E : ev_E} {n0 hN : Nat} (hc : Cx X E cX11_passes0 3 n0 hN RX11) (hm : eM E = 2) (hr : (xT X).sig.returnType = (some .boolean)) (hh : 2 ≤ hN) {Q : Int → st_S → Prop} {v0 : Int} (cv0 : wr v0 = v0) {σ : st_S} (h : B_X11_passes0_17 Q v0 σ) : J X E 3 n0 0 0 (MQ (xB X) (qI E (n0 + 0) Q) (xA X) (xS X) 0 0 (eF E)) σ 17 [(0, vR E 0)] [vI v0] := by
  have hh1 : 1 ≤ hN := by omega
  replace h : (v0 = 0 → B_X11_passes0_32 Q v0 σ) ∧ (¬ v0 = 0 → ∀ x9 : Int, x9 = wr (gI σ 0 22 + 1) → ∀ s10 : st_S, s10 = sI σ 0 22 x9 → B_X11_passes0_32 Q v0 s10) := h
  refine j_istore_n (lv' := [(2, vI v0), (0, vR E 0)]) hc dX11_passes0_17 rfl (by decide) rfl ?_
  refine j_iload_n hc 0 dX11_passes0_18 rfl rfl ?_
  refine j_if_eq hc cv0 (tgt := 32) dX11_passes0_19 (by decide) (fun q11 => ?_) (fun q11 => ?_)
  · replace h := h.1 q11
    refine j_sub (lv' := [(2, vI v0)]) [0] rfl ?_
    exact jb_X11_passes0_32 hc hm hr hh cv0 h
  · replace h := h.2 q11
    refine j_aload_nR hc 1 dX11_passes0_22 rfl rfl ?_
    refine j_dup hc dX11_passes0_23 rfl ?_
    refine j_getI hc fl_RX11_248 (Or.inl rfl) (fun hv => Or.inl (sv_k hv hm rfl)) dX11_passes0_24 (fun cn8 => ?_)
    refine j_iconst hc dX11_passes0_27 ?_
    refine j_iadd hc dX11_passes0_28 ?_
    refine j_w (fun x9 ex9 cx9 => ?_)
    replace h := h x9 ex9
    refine j_putI hc fl_RX11_248 rfl rfl (fun hv => Or.inl (sv_k hv hm rfl)) cx9 dX11_passes0_29 (fun s10 es10 => ?_)
    replace h := h s10 es10
    refine j_sub (lv' := [(2, vI v0)]) [0] rfl ?_
    exact jb_X11_passes0_32 hc hm hr hh cv0 h
set_option maxRecDepth 20000 in
theorem c_X11_passes0 {l : Launch} {E : ev_E} (hE : Eok E) (hm : eM E = 2) {a1 : Int} (ca1 : wr a1 = a1) {σ : st_S} {Q : Int → st_S → Prop} (h : wp_X11_passes0 a1 σ Q) : cM l yX11_passes0 cX11_passes0 3 (some .boolean) E 2 0 0 [vR E 0, vI a1] σ (qI E (gN σ + 0) Q) := by
  refine cM_of (lv := [(0, vR E 0), (1, vI a1)]) (by decide) hE (Nat.le_of_ble_eq_true rfl) (rfl) ?_
  intro X hX hc _ _ hr _ _
  subst hX
  have hh : 2 ≤ 2 := Nat.le_refl _
  have hh1 : 1 ≤ 2 := by omega
  replace h : wp_X11_codeAt (gI σ 0 22) σ (fun r13 s14 => (¬ r13 = a1 → B_X11_passes0_17 Q 0 s14) ∧ (r13 = a1 → B_X11_passes0_17 Q 1 s14)) := h
  refine j_aload_nR hc 0 dX11_passes0_0 rfl rfl ?_
  refine j_aload_nR hc 0 dX11_passes0_1 rfl rfl ?_
  refine j_getI hc fl_RX11_248 (Or.inl rfl) (fun hv => Or.inl (sv_k hv hm rfl)) dX11_passes0_2 (fun cn12 => ?_)
  refine j_vI hc (k := 11) (by decide) (fun hv => Or.inl (sv_k hv hm rfl)) ml_RX11_251 mv_X11_codeAt (As := [vI (gI σ 0 22)]) (c_X11_codeAt (cx_E hc) hm cn12 h) rfl (by omega) (by decide) ⟨Nat.zero_le _, Nat.zero_le _⟩ (Nat.le_of_ble_eq_true rfl) rfl dX11_passes0_5 (fun r13 s14 cr13 h => ?_)
  refine j_iload_n hc 1 dX11_passes0_8 rfl rfl ?_
  refine j_ic_ne hc cr13 ca1 (tgt := 16) dX11_passes0_9 (by decide) (fun q15 => ?_) (fun q15 => ?_)
  · replace h := h.1 q15
    refine j_iconst hc dX11_passes0_16 ?_
    refine j_sub (lv' := [(0, vR E 0)]) [0] rfl ?_
    exact jb_X11_passes0_17 hc hm hr hh (wlit 0 (by decide)) h
  · replace h := h.2 q15
    refine j_iconst hc dX11_passes0_12 ?_
    refine j_goto (tgt := 17) hc dX11_passes0_13 (by decide) ?_
    refine j_sub (lv' := [(0, vR E 0)]) [0] rfl ?_
    exact jb_X11_passes0_17 hc hm hr hh (wlit 1 (by decide)) h
-- LitStrangersModel.bounded(JZ)J
theorem dX11_bounded_0 : decode cX11_bounded 0 = .ok (.iload_n 3, 1) := by decide +kernel
theorem dX11_bounded_1 : decode cX11_bounded 1 = .ok (.ifCond .eq 24, 3) := by decide +kernel
theorem dX11_bounded_4 : decode cX11_bounded 4 = .ok (.lload_n 1, 1) := by decide +kernel
theorem dX11_bounded_5 : decode cX11_bounded 5 = .ok (.ldc2_w 254, 3) := by decide +kernel
theorem dX11_bounded_8 : decode cX11_bounded 8 = .ok (.lcmp, 1) := by decide +kernel
theorem dX11_bounded_9 : decode cX11_bounded 9 = .ok (.ifCond .gt 11, 3) := by decide +kernel
theorem dX11_bounded_12 : decode cX11_bounded 12 = .ok (.lload_n 1, 1) := by decide +kernel
theorem dX11_bounded_13 : decode cX11_bounded 13 = .ok (.ldc2_w 256, 3) := by decide +kernel
theorem dX11_bounded_16 : decode cX11_bounded 16 = .ok (.lcmp, 1) := by decide +kernel
theorem dX11_bounded_17 : decode cX11_bounded 17 = .ok (.ifCond .ge 8, 3) := by decide +kernel
theorem dX11_bounded_20 : decode cX11_bounded 20 = .ok (.aload_n 0, 1) := by decide +kernel
theorem dX11_bounded_21 : decode cX11_bounded 21 = .ok (.iconst 1, 1) := by decide +kernel
theorem dX11_bounded_22 : decode cX11_bounded 22 = .ok (.putfield 258, 3) := by decide +kernel
theorem dX11_bounded_25 : decode cX11_bounded 25 = .ok (.aload_n 0, 1) := by decide +kernel
theorem dX11_bounded_26 : decode cX11_bounded 26 = .ok (.getfield 258, 3) := by decide +kernel
theorem dX11_bounded_29 : decode cX11_bounded 29 = .ok (.ifCond .eq 7, 3) := by decide +kernel
theorem dX11_bounded_32 : decode cX11_bounded 32 = .ok (.lconst 0, 1) := by decide +kernel
theorem dX11_bounded_33 : decode cX11_bounded 33 = .ok (.goto 4, 3) := by decide +kernel
theorem dX11_bounded_36 : decode cX11_bounded 36 = .ok (.lload_n 1, 1) := by decide +kernel
theorem dX11_bounded_37 : decode cX11_bounded 37 = .ok (.lreturn, 1) := by decide +kernel
def B_X11_bounded_37 (Q : Int → st_S → Prop)   (v0 : Int) (σ : st_S) : Prop := Q v0 σ
def B_X11_bounded_25 (Q : Int → st_S → Prop)   (l1 : Int) (σ : st_S) : Prop := (gI σ 0 24 = 0 → B_X11_bounded_37 Q l1 σ) ∧ (¬ gI σ 0 24 = 0 → B_X11_bounded_37 Q 0 σ)
def B_X11_bounded_20 (Q : Int → st_S → Prop)   (l1 : Int) (σ : st_S) : Prop := ∀ s7 : st_S, s7 = sI σ 0 24 1 → B_X11_bounded_25 Q l1 s7
def wp_X11_bounded (a1 : Int) (a2 : Int) (σ : st_S) (Q : Int → st_S → Prop) : Prop := (a2 = 0 → B_X11_bounded_25 Q a1 σ) ∧ (¬ a2 = 0 → (0 < p_cmp a1 1000000000 → B_X11_bounded_20 Q a1 σ) ∧ (¬ 0 < p_cmp a1 1000000000 → (0 ≤ p_cmp a1 (-1000000000) → B_X11_bounded_25 Q a1 σ) ∧ (¬ 0 ≤ p_cmp a1 (-1000000000) → B_X11_bounded_20 Q a1 σ)))
set_option maxRecDepth 20000 in
theorem jb_X11_bounded_37 {X : jj_X} {E : ev_E} {n0 hN : Nat} (hc : Cx X E cX11_bounded 4 n0 hN RX11) (hm : eM E = 2) (hr : (xT X).sig.returnType = (some .long)) (hh : 1 ≤ hN) {Q : Int → st_S → Prop} {v0 : Int} (cv0 : wl v0 = v0) {σ : st_S} (h : B_X11_bounded_37 Q v0 σ) : J X E 4 n0 0 0 (MQ (xB X) (qL E (n0 + 0) Q) (xA X) (xS X) 0 0 (eF E)) σ 37 [] [vL v0] := by
  have hh1 : 1 ≤ hN := by omega
  replace h : Q v0 σ := h
  exact j_lret hc hr cv0 h dX11_bounded_37
set_option maxRecDepth 20000 in
theorem jb_X11_bounded_25 {X : jj_X} {E : ev_E} {n0 hN : Nat} (hc : Cx X E cX11_bounded 4 n0 hN RX11) (hm : eM E = 2) (hr : (xT X).sig.returnType = (some .long)) (hh : 1 ≤ hN) {Q : Int → st_S → Prop} {l1 : Int} (cl1 : wl l1 = l1) {σ : st_S} (h : B_X11_bounded_25 Q l1 σ) : J X E 4 n0 0 0 (MQ (xB X) (qL E (n0 + 0) Q) (xA X) (xS X) 0 0 (eF E)) σ 25 [(0, vR E 0), (1, vL l1)] [] := by
  have hh1 : 1 ≤ hN := by omega
  replace h : (gI σ 0 24 = 0 → B_X11_bounded_37 Q l1 σ) ∧ (¬ gI σ 0 24 = 0 → B_X11_bounded_37 Q 0 σ) := h
  refine j_aload_nR hc 0 dX11_bounded_25 rfl rfl ?_
  refine j_getI hc fl_RX11_258 (Or.inr rfl) (fun hv => Or.inl (sv_k hv hm rfl)) dX11_bounded_26 (fun cn5 => ?_)
  refine j_if_eq hc cn5 (tgt := 36) dX11_bounded_29 (by decide) (fun q6 => ?_) (fun q6 => ?_)
  · replace h := h.1 q6
    refine j_lload_n hc 1 dX11_bounded_36 rfl rfl ?_
    refine j_sub (lv' := []) [] rfl ?_
    exact jb_X11_bounded_37 hc hm hr hh cl1 h
  · replace h := h.2 q6
    refine j_lconst (x := 0) hc dX11_bounded_32 rfl ?_
    refine j_goto (tgt := 37) hc dX11_bounded_33 (by decide) ?_
    refine j_sub (lv' := []) [] rfl ?_
    exact jb_X11_bounded_37 hc hm hr hh (llit 0 (by decide)) h
set_option maxRecDepth 20000 in
theorem jb_X11_bounded_20 {X : jj_X} {E : ev_E} {n0 hN : Nat} (hc : Cx X E cX11_bounded 4 n0 hN RX11) (hm : eM E = 2) (hr : (xT X).sig.returnType = (some .long)) (hh : 1 ≤ hN) {Q : Int → st_S → Prop} {l1 : Int} (cl1 : wl l1 = l1) {σ : st_S} (h : B_X11_bounded_20 Q l1 σ) : J X E 4 n0 0 0 (MQ (xB X) (qL E (n0 + 0) Q) (xA X) (xS X) 0 0 (eF E)) σ 20 [(0, vR E 0), (1, vL l1)] [] := by
  have hh1 : 1 ≤ hN := by omega
  replace h : ∀ s7 : st_S, s7 = sI σ 0 24 1 → B_X11_bounded_25 Q l1 s7 := h
  refine j_aload_nR hc 0 dX11_bounded_20 rfl rfl ?_
  refine j_iconst hc dX11_bounded_21 ?_
  refine j_putZ hc fl_RX11_258 rfl rfl (fun hv => Or.inl (sv_k hv hm rfl)) (Or.inr rfl) dX11_bounded_22 (fun s7 es7 => ?_)
  replace h := h s7 es7
  refine j_sub (lv' := [(0, vR E 0), (1, vL l1)]) [0, 1] rfl ?_
  exact jb_X11_bounded_25 hc hm hr hh cl1 h
set_option maxRecDepth 20000 in
theorem c_X11_bounded {l : Launch} {E : ev_E} (hE : Eok E) (hm : eM E = 2) {a1 : Int} {a2 : Int} (ca1 : wl a1 = a1) (ca2 : wr a2 = a2) {σ : st_S} {Q : Int → st_S → Prop} (h : wp_X11_bounded a1 a2 σ Q) : cM l yX11_bounded cX11_bounded 4 (some .long) E 1 0 0 [vR E 0, vL a1, vI a2] σ (qL E (gN σ + 0) Q) := by
  refine cM_of (lv := [(0, vR E 0), (1, vL a1), (3, vI a2)]) (by decide) hE (Nat.le_of_ble_eq_true rfl) (rfl) ?_
  intro X hX hc _ _ hr _ _
  subst hX
  have hh : 1 ≤ 1 := Nat.le_refl _
  have hh1 : 1 ≤ 1 := by omega
  replace h : (a2 = 0 → B_X11_bounded_25 Q a1 σ) ∧ (¬ a2 = 0 → (0 < p_cmp a1 1000000000 → B_X11_bounded_20 Q a1 σ) ∧ (¬ 0 < p_cmp a1 1000000000 → (0 ≤ p_cmp a1 (-1000000000) → B_X11_bounded_25 Q a1 σ) ∧ (¬ 0 ≤ p_cmp a1 (-1000000000) → B_X11_bounded_20 Q a1 σ))) := h
  refine j_iload_n hc 2 dX11_bounded_0 rfl rfl ?_
  refine j_if_eq hc ca2 (tgt := 25) dX11_bounded_1 (by decide) (fun q10 => ?_) (fun q10 => ?_)
  · replace h := h.1 q10
    refine j_sub (lv' := [(0, vR E 0), (1, vL a1)]) [0, 1] rfl ?_
    exact jb_X11_bounded_25 hc hm hr hh ca1 h
  · replace h := h.2 q10
    refine j_lload_n hc 1 dX11_bounded_4 rfl rfl ?_
    refine j_ldc2 (x := 1000000000) hc (by decide) kl_RX11_254 dX11_bounded_5 ?_
    refine j_lcmp hc dX11_bounded_8 ?_
    refine j_if_gt hc (cn_cmp _ _) (tgt := 20) dX11_bounded_9 (by decide) (fun q9 => ?_) (fun q9 => ?_)
    · replace h := h.1 q9
      refine j_sub (lv' := [(0, vR E 0), (1, vL a1)]) [0, 1] rfl ?_
      exact jb_X11_bounded_20 hc hm hr hh ca1 h
    · replace h := h.2 q9
      refine j_lload_n hc 1 dX11_bounded_12 rfl rfl ?_
      refine j_ldc2 (x := (-1000000000)) hc (by decide) kl_RX11_256 dX11_bounded_13 ?_
      refine j_lcmp hc dX11_bounded_16 ?_
      refine j_if_ge hc (cn_cmp _ _) (tgt := 25) dX11_bounded_17 (by decide) (fun q8 => ?_) (fun q8 => ?_)
      · replace h := h.1 q8
        refine j_sub (lv' := [(0, vR E 0), (1, vL a1)]) [0, 1] rfl ?_
        exact jb_X11_bounded_25 hc hm hr hh ca1 h
      · replace h := h.2 q8
        refine j_sub (lv' := [(0, vR E 0), (1, vL a1)]) [0, 1] rfl ?_
        exact jb_X11_bounded_20 hc hm hr hh ca1 h
