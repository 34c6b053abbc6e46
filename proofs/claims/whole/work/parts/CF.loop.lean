/-! the law's loop -/
section LP
variable {X : jj_X} {A : Nat → Prop} {P P' : Heap → Prop} {nL cells slots cells' slots' pc : Nat} {Q : State → Prop} {lv : List (Nat × Value)} {st : List Value}
theorem jp_mono (hP : ∀ H, P H → P' H) (h1 : cells ≤ cells') (h2 : slots ≤ slots') (k : JP X A P' nL cells' slots' Q pc lv st) : JP X A P nL cells slots Q pc lv st := fun H locs ls hl h hS => W.widen h1 h2 (k H locs ls hl (hP H h) hS)
theorem jp_use (k : ∀ H, P H → JP X A P nL cells slots Q pc lv st) : JP X A P nL cells slots Q pc lv st := fun H locs ls hl h hS => k H h H locs ls hl h hS
end LP
theorem pl_mono {EC EM : ev_E} {g g' : Nat} {σc σm : st_S} (h1 : g ≤ g') (h2 : g' < 1000000) (H : Heap) (h : PL EC EM g σc σm H) : PL EC EM g' σc σm H := ⟨h.1, h.2.1, h.2.2.1, Nat.le_trans h.2.2.2.1 h1, h2⟩
theorem pl_k {EC EM : ev_E} {g : Nat} {σc σm : st_S} (hm : eM EC = 1) {H : Heap} (h : PL EC EM g σc σm H) : zK1 σc := by
  obtain ⟨-, h2, h3, h4, h5⟩ := h.1.2.1
  rw [hm] at h3
  exact ⟨h3, h2, h5⟩
theorem pl_z {EC EM : ev_E} {g : Nat} {σc σm : st_S} (hm : eM EM = 2) {H : Heap} (h : PL EC EM g σc σm H) (j : Nat) : zcn (gI σm 2 j) := by
  obtain ⟨o, -, hv, -⟩ := h.2.1
  have hk : gK σm 2 = 0 := (hv.2.2.1 2 (0, 5866) (by show (skT (eM EM))[2]? = _; rw [hm]; rfl)).1
  rcases hv.1.2 2 j with z | z
  · unfold nl at z
    omega
  · exact z
theorem loop_out {X : jj_X} {EA : ev_E} {P : Heap → Prop} {b L i cells slots : Nat} {xs : Nat → Int32} {Q : State → Prop} {v1 v2 : Value} (hc : Lc X code 4 RL) (hX : va_X b L xs (xS X) (xS X).heap) (hbl : b < (xS X).heap.size) (hbA : ¬ eF EA b) (hLL : L ≤ 3072) (hE : ∀ (H : Heap) (locs : List Loc) (ls : Array Slot), va_S (eF EA) (xS X).heap H locs → jW X H locs 600000 7302250 Q (F0 (xM X) 1098 ls [vI 1])) (hi : L < i + 6) (hr : i ≤ 4000 ∧ cells ≤ 600000 ∧ slots ≤ 7302250) : JP X (eF EA) P 4 cells slots Q 18 [(0, .ref b), (1, v1), (2, v2), (3, vI (i : Int))] [] := by
  refine p_iload_n hc 3 dL_law_18 rfl rfl ?_
  refine p_aload_n hc 0 dL_law_19 rfl rfl ?_
  refine p_slen hc hX hbl hbA dL_law_20 ?_
  refine p_bipush hc dL_law_21 (by decide) ?_
  refine p_isub hc dL_law_23 ?_
  refine p_ic_gt (tgt := 1097) hc dL_law_24 (by decide) (fun _ => ?_) (fun w => ?_)
  · refine p_iconst hc dL_law_1097 ?_
    exact fun H locs ls hl hP hS => W.widen hr.2.1 hr.2.2 (hE H locs ls hS)
  · exfalso
    rw [wr_id (by omega) (by omega), wr_id (by omega) (by omega)] at w
    omega
theorem loop_in {X : jj_X} {EA : ev_E} {P : Heap → Prop} {b L i cells slots : Nat} {xs : Nat → Int32} {Q : State → Prop} {v1 v2 : Value} (hc : Lc X code 4 RL) (hX : va_X b L xs (xS X) (xS X).heap) (hbl : b < (xS X).heap.size) (hbA : ¬ eF EA b) (hLL : L ≤ 3072) (hi : i + 6 ≤ L) (k : JP X (eF EA) P 4 cells slots Q 33 [(0, .ref b), (1, v1), (2, v2), (3, vI (i : Int))] [vI (o_and (xs i).toInt 63)]) : JP X (eF EA) P 4 cells slots Q 18 [(0, .ref b), (1, v1), (2, v2), (3, vI (i : Int))] [] := by
  refine p_iload_n hc 3 dL_law_18 rfl rfl ?_
  refine p_aload_n hc 0 dL_law_19 rfl rfl ?_
  refine p_slen hc hX hbl hbA dL_law_20 ?_
  refine p_bipush hc dL_law_21 (by decide) ?_
  refine p_isub hc dL_law_23 ?_
  refine p_ic_gt (tgt := 1097) hc dL_law_24 (by decide) (fun w => ?_) (fun _ => ?_)
  · exfalso
    rw [wr_id (by omega) (by omega), wr_id (by omega) (by omega)] at w
    omega
  · refine p_aload_n hc 0 dL_law_27 rfl rfl ?_
    refine p_iload_n hc 3 dL_law_28 rfl rfl ?_
    refine p_sldN (j := i) hc hX hbl hbA (wr_id (by omega) (by omega)) (by omega) dL_law_29 ?_
    refine p_bipush hc dL_law_30 (by decide) ?_
    exact p_iand hc dL_law_32 k
set_option maxRecDepth 20000 in
set_option maxHeartbeats 4000000 in
theorem law_loop {X : jj_X} {EA EC EM : ev_E} {b L : Nat} {xs : Nat → Int32} {Q : State → Prop} (hc : Lc X code 4 RL) (hL : Lw X EA EC EM) (hX : va_X b L xs (xS X) (xS X).heap) (hbl : b < (xS X).heap.size) (hbA : ¬ eF EA b) (hLL : L ≤ 3072) (hrm : 600000 ≤ (xR X).cells ∧ 7302250 ≤ (xR X).slots) (hMk : MkE EC 65) (hE : ∀ (H : Heap) (locs : List Loc) (ls : Array Slot), va_S (eF EA) (xS X).heap H locs → jW X H locs 600000 7302250 Q (F0 (xM X) 1098 ls [vI 1])) :
    ∀ (d i : Nat) (σc σm : st_S), L < i + 6 * d → i ≤ L + 6 → zInv (40 * i) σc σm → JP X (eF EA) (PL EC EM (65 + 2 * i) σc σm) 4 (91 + 2 * i) (300000 + 78 * i) Q 18 [(0, .ref b), (1, vR EC 0), (2, vR EM 0), (3, vI (i : Int))] [] := by
  have l10 : eM EC = 1 := hL.2.2.2.2.2.2.2.2.2.1
  have l11 : eM EM = 2 := hL.2.2.2.2.2.2.2.2.2.2.1
  intro d
  induction d with
  | zero => exact fun i σc σm hd hi h => loop_out hc hX hbl hbA hLL hE (by omega) (by omega)
  | succ d ih =>
    intro i σc σm hd hi h
    by_cases hi : i + 6 ≤ L
    · refine jp_use (fun H0 hP0 => ?_)
      have hk := pl_k l10 hP0
      have z32 := pl_z l11 hP0 32
      have z30 := pl_z l11 hP0 30
      have h1 : zInv (40 * i + 240) σc σm := zInv_mono h (by omega)
      have hr : 91 + 2 * i + 10 ≤ (xR X).cells ∧ 300000 + 78 * i + 468 ≤ (xR X).slots := ⟨by omega, by omega⟩
      have nxt : ∀ (g cells slots : Nat) (τ υ : st_S), zInv (40 * i + 240) τ υ → g ≤ 65 + 2 * (i + 6) → cells ≤ 91 + 2 * (i + 6) → slots ≤ 300000 + 78 * (i + 6) → JP X (eF EA) (PL EC EM g τ υ) 4 cells slots Q 1091 [(0, .ref b), (1, vR EC 0), (2, vR EM 0), (3, vI (i : Int))] [] := by
        intro g cells slots τ υ q g1 g2 g3
        refine jp_mono (pl_mono g1 (by omega)) g2 g3 ?_
        refine p_iinc (y := ((i + 6 : Nat) : Int)) hc 3 dL_law_1091 rfl (by decide) (by omega) rfl ?_
        refine p_goto (tgt := 18) hc dL_law_1094 (by decide) ?_
        refine p_sub [1, 2, 3, 0] rfl ?_
        exact ih (i + 6) τ υ (by omega) (by omega) (by rw [show 40 * (i + 6) = 40 * i + 240 by omega]; exact q)
      refine loop_in hc hX hbl hbA hLL hi ?_
      obtain ⟨k, ek, k64⟩ := and63 (xs i).toInt
      by_cases k36 : k < 36
      · match k, ek, k36 with
        | 0, ek, _ => exact p_ts (tgt := 192) hc dL_law_33 0 (by rw [cn_and]; exact ek) (by decide) (by decide) rfl (by decide) (lc_0 hc hL hX hbl hbA hi hLL hr (show stp 0 _ _ _ (zInv (40 * i + 240)) from st_person h1 _ _) (fun τ υ q => nxt _ _ _ τ υ q (by omega) (by omega) (by omega)))
        | 1, ek, _ => exact p_ts (tgt := 225) hc dL_law_33 1 (by rw [cn_and]; exact ek) (by decide) (by decide) rfl (by decide) (lc_1 hc hL hX hbl hbA hi hLL hr (show stp 1 _ _ _ (zInv (40 * i + 240)) from st_hear h1 _ _) (fun τ υ q => nxt _ _ _ τ υ q (by omega) (by omega) (by omega)))
        | 2, ek, _ => exact p_ts (tgt := 258) hc dL_law_33 2 (by rw [cn_and]; exact ek) (by decide) (by decide) rfl (by decide) (lc_2 hc hL hX hbl hbA hi hLL hr (show stp 2 _ _ _ (zInv (40 * i + 240)) from st_of h1 _ _) (fun τ υ q => nxt _ _ _ τ υ q (by omega) (by omega) (by omega)))
        | 3, ek, _ => exact p_ts (tgt := 291) hc dL_law_33 3 (by rw [cn_and]; exact ek) (by decide) (by decide) rfl (by decide) (lc_3 hc hL hX hbl hbA hi hLL hr (show stp 3 _ _ _ (zInv (40 * i + 240)) from st_talk h1 _ _ _) (fun τ υ q => nxt _ _ _ τ υ q (by omega) (by omega) (by omega)))
        | 4, ek, _ => exact p_ts (tgt := 334) hc dL_law_33 4 (by rw [cn_and]; exact ek) (by decide) (by decide) rfl (by decide) (lc_4 hc hL hX hbl hbA hi hLL hr (show stp 4 _ _ _ (zInv (40 * i + 240)) from st_fog h1 _ _) (fun τ υ q => nxt _ _ _ τ υ q (by omega) (by omega) (by omega)))
        | 5, ek, _ => exact p_ts (tgt := 367) hc dL_law_33 5 (by rw [cn_and]; exact ek) (by decide) (by decide) rfl (by decide) (lc_5 hc hL hX hbl hbA hi hLL hr (show stp 5 _ _ _ (zInv (40 * i + 240)) from st_terms h1 _ _ (cn_i _)) (fun τ υ q => nxt _ _ _ τ υ q (by omega) (by omega) (by omega)))
        | 6, ek, _ => exact p_ts (tgt := 400) hc dL_law_33 6 (by rw [cn_and]; exact ek) (by decide) (by decide) rfl (by decide) (lc_6 hc hL hX hbl hbA hi hLL hr (show stp 6 _ _ _ (zInv (40 * i + 240)) from st_feed h1 _ _ _ _ _) (fun τ υ q => nxt _ _ _ τ υ q (by omega) (by omega) (by omega)))
        | 7, ek, _ => exact p_ts (tgt := 463) hc dL_law_33 7 (by rw [cn_and]; exact ek) (by decide) (by decide) rfl (by decide) (lc_7 hc hL hX hbl hbA hi hLL hr (show stp 7 _ _ _ (zInv (40 * i + 240)) from st_end h1 _) (fun τ υ q => nxt _ _ _ τ υ q (by omega) (by omega) (by omega)))
        | 8, ek, _ => exact p_ts (tgt := 486) hc dL_law_33 8 (by rw [cn_and]; exact ek) (by decide) (by decide) rfl (by decide) (lc_8 hc hL hX hbl hbA hi hLL hr (show stp 8 _ _ _ (zInv (40 * i + 240)) from st_row h1) (fun τ υ q => nxt _ _ _ τ υ q (by omega) (by omega) (by omega)))
        | 9, ek, _ => exact p_ts (tgt := 499) hc dL_law_33 9 (by rw [cn_and]; exact ek) (by decide) (by decide) rfl (by decide) (lc_9 hc hL hX hbl hbA hi hLL hr (show stp 9 _ _ _ (zInv (40 * i + 240)) from st_salt h1) (fun τ υ q => nxt _ _ _ τ υ q (by omega) (by omega) (by omega)))
        | 10, ek, _ => exact p_ts (tgt := 512) hc dL_law_33 10 (by rw [cn_and]; exact ek) (by decide) (by decide) rfl (by decide) (lc_10 hc hL hX hbl hbA hi hLL hr (by omega) (hMk.up (gN_65 hk)) (show stp 10 _ _ _ (zInv (40 * i + 240)) from st_law h1 hk) (fun τ υ _ q => nxt _ _ _ τ υ q (by omega) (by omega) (by omega)))
        | 11, ek, _ => exact p_ts (tgt := 525) hc dL_law_33 11 (by rw [cn_and]; exact ek) (by decide) (by decide) rfl (by decide) (lc_11 hc hL hX hbl hbA hi hLL hr (show stp 11 _ _ _ (zInv (40 * i + 240)) from st_orders h hk z32 z30 (by omega)) (fun τ υ q => nxt _ _ _ τ υ q (by omega) (by omega) (by omega)))
        | 12, ek, _ => exact p_ts (tgt := 538) hc dL_law_33 12 (by rw [cn_and]; exact ek) (by decide) (by decide) rfl (by decide) (lc_12 hc hL hX hbl hbA hi hLL hr (show stp 12 _ _ _ (zInv (40 * i + 240)) from st_fault h1) (fun τ υ q => nxt _ _ _ τ υ q (by omega) (by omega) (by omega)))
        | 13, ek, _ => exact p_ts (tgt := 551) hc dL_law_33 13 (by rw [cn_and]; exact ek) (by decide) (by decide) rfl (by decide) (lc_13 hc hL hX hbl hbA hi hLL hr (show stp 13 _ _ _ (zInv (40 * i + 240)) from st_stopped h1) (fun τ υ q => nxt _ _ _ τ υ q (by omega) (by omega) (by omega)))
        | 14, ek, _ => exact p_ts (tgt := 564) hc dL_law_33 14 (by rw [cn_and]; exact ek) (by decide) (by decide) rfl (by decide) (lc_14 hc hL hX hbl hbA hi hLL hr (show stp 14 _ _ _ (zInv (40 * i + 240)) from st_force h1 _) (fun τ υ q => nxt _ _ _ τ υ q (by omega) (by omega) (by omega)))
        | 15, ek, _ => exact p_ts (tgt := 587) hc dL_law_33 15 (by rw [cn_and]; exact ek) (by decide) (by decide) rfl (by decide) (lc_15 hc hL hX hbl hbA hi hLL hr (show stp 15 _ _ _ (zInv (40 * i + 240)) from st_asks h1 hk _ _ _) (fun τ υ q => nxt _ _ _ τ υ q (by omega) (by omega) (by omega)))
        | 16, ek, _ => exact p_ts (tgt := 630) hc dL_law_33 16 (by rw [cn_and]; exact ek) (by decide) (by decide) rfl (by decide) (lc_16 hc hL hX hbl hbA hi hLL hr (show stp 16 _ _ _ (zInv (40 * i + 240)) from st_send h1 hk z32 _) (fun τ υ q => nxt _ _ _ τ υ q (by omega) (by omega) (by omega)))
        | 17, ek, _ => exact p_ts (tgt := 653) hc dL_law_33 17 (by rw [cn_and]; exact ek) (by decide) (by decide) rfl (by decide) (lc_17 hc hL hX hbl hbA hi hLL hr (show stp 17 _ _ _ (zInv (40 * i + 240)) from st_light h1 hk z32 _) (fun τ υ q => nxt _ _ _ τ υ q (by omega) (by omega) (by omega)))
        | 18, ek, _ => exact p_ts (tgt := 676) hc dL_law_33 18 (by rw [cn_and]; exact ek) (by decide) (by decide) rfl (by decide) (lc_18 hc hL hX hbl hbA hi hLL hr (show stp 18 _ _ _ (zInv (40 * i + 240)) from st_dark (zInv_mono (B' := 40 * i + 239) h (by omega)) (by omega) hk z32) (fun τ υ q => nxt _ _ _ τ υ q (by omega) (by omega) (by omega)))
        | 19, ek, _ => exact p_ts (tgt := 689) hc dL_law_33 19 (by rw [cn_and]; exact ek) (by decide) (by decide) rfl (by decide) (lc_19 hc hL hX hbl hbA hi hLL hr (show stp 19 _ _ _ (zInv (40 * i + 240)) from st_undo h1) (fun τ υ q => nxt _ _ _ τ υ q (by omega) (by omega) (by omega)))
        | 20, ek, _ => exact p_ts (tgt := 702) hc dL_law_33 20 (by rw [cn_and]; exact ek) (by decide) (by decide) rfl (by decide) (lc_20 hc hL hX hbl hbA hi hLL hr (show stp 20 _ _ _ (zInv (40 * i + 240)) from st_last h1 hk _) (fun τ υ q => nxt _ _ _ τ υ q (by omega) (by omega) (by omega)))
        | 21, ek, _ => exact p_ts (tgt := 725) hc dL_law_33 21 (by rw [cn_and]; exact ek) (by decide) (by decide) rfl (by decide) (lc_21 hc hL hX hbl hbA hi hLL hr (show stp 21 _ _ _ (zInv (40 * i + 240)) from st_cheap h1 hk _ _) (fun τ υ q => nxt _ _ _ τ υ q (by omega) (by omega) (by omega)))
        | 22, ek, _ => exact p_ts (tgt := 758) hc dL_law_33 22 (by rw [cn_and]; exact ek) (by decide) (by decide) rfl (by decide) (lc_22 hc hL hX hbl hbA hi hLL hr (show stp 22 _ _ _ (zInv (40 * i + 240)) from st_ways h1 hk _) (fun τ υ q => nxt _ _ _ τ υ q (by omega) (by omega) (by omega)))
        | 23, ek, _ => exact p_ts (tgt := 782) hc dL_law_33 23 (by rw [cn_and]; exact ek) (by decide) (by decide) rfl (by decide) (lc_23 hc hL hX hbl hbA hi hLL hr (show stp 23 _ _ _ (zInv (40 * i + 240)) from st_late h1 hk _) (fun τ υ q => nxt _ _ _ τ υ q (by omega) (by omega) (by omega)))
        | 24, ek, _ => exact p_ts (tgt := 805) hc dL_law_33 24 (by rw [cn_and]; exact ek) (by decide) (by decide) rfl (by decide) (lc_24 hc hL hX hbl hbA hi hLL hr (show stp 24 _ _ _ (zInv (40 * i + 240)) from st_swaps h1 hk _) (fun τ υ q => nxt _ _ _ τ υ q (by omega) (by omega) (by omega)))
        | 25, ek, _ => exact p_ts (tgt := 828) hc dL_law_33 25 (by rw [cn_and]; exact ek) (by decide) (by decide) rfl (by decide) (lc_25 hc hL hX hbl hbA hi hLL hr (show stp 25 _ _ _ (zInv (40 * i + 240)) from st_crews h1 hk _) (fun τ υ q => nxt _ _ _ τ υ q (by omega) (by omega) (by omega)))
        | 26, ek, _ => exact p_ts (tgt := 851) hc dL_law_33 26 (by rw [cn_and]; exact ek) (by decide) (by decide) rfl (by decide) (lc_26 hc hL hX hbl hbA hi hLL hr (show stp 26 _ _ _ (zInv (40 * i + 240)) from st_share h1 hk _) (fun τ υ q => nxt _ _ _ τ υ q (by omega) (by omega) (by omega)))
        | 27, ek, _ => exact p_ts (tgt := 874) hc dL_law_33 27 (by rw [cn_and]; exact ek) (by decide) (by decide) rfl (by decide) (lc_27 hc hL hX hbl hbA hi hLL hr (show stp 27 _ _ _ (zInv (40 * i + 240)) from st_harm h1 hk _) (fun τ υ q => nxt _ _ _ τ υ q (by omega) (by omega) (by omega)))
        | 28, ek, _ => exact p_ts (tgt := 897) hc dL_law_33 28 (by rw [cn_and]; exact ek) (by decide) (by decide) rfl (by decide) (lc_28 hc hL hX hbl hbA hi hLL hr (show stp 28 _ _ _ (zInv (40 * i + 240)) from st_hush h1 hk _ _) (fun τ υ q => nxt _ _ _ τ υ q (by omega) (by omega) (by omega)))
        | 29, ek, _ => exact p_ts (tgt := 930) hc dL_law_33 29 (by rw [cn_and]; exact ek) (by decide) (by decide) rfl (by decide) (lc_29 hc hL hX hbl hbA hi hLL hr (show stp 29 _ _ _ (zInv (40 * i + 240)) from st_who h1 hk _) (fun τ υ q => nxt _ _ _ τ υ q (by omega) (by omega) (by omega)))
        | 30, ek, _ => exact p_ts (tgt := 953) hc dL_law_33 30 (by rw [cn_and]; exact ek) (by decide) (by decide) rfl (by decide) (lc_30 hc hL hX hbl hbA hi hLL hr (show stp 30 _ _ _ (zInv (40 * i + 240)) from st_winter h1 hk _ _) (fun τ υ q => nxt _ _ _ τ υ q (by omega) (by omega) (by omega)))
        | 31, ek, _ => exact p_ts (tgt := 986) hc dL_law_33 31 (by rw [cn_and]; exact ek) (by decide) (by decide) rfl (by decide) (lc_31 hc hL hX hbl hbA hi hLL hr (show stp 31 _ _ _ (zInv (40 * i + 240)) from st_drawn h1 _) (fun τ υ q => nxt _ _ _ τ υ q (by omega) (by omega) (by omega)))
        | 32, ek, _ => exact p_ts (tgt := 1009) hc dL_law_33 32 (by rw [cn_and]; exact ek) (by decide) (by decide) rfl (by decide) (lc_32 hc hL hX hbl hbA hi hLL hr (by omega) (hMk.up (gN_65 hk)) (show stp 32 _ _ _ (zInv (40 * i + 240)) from st_image h1 hk _) (fun τ υ _ q => nxt _ _ _ τ υ q (by omega) (by omega) (by omega)))
        | 33, ek, _ => exact p_ts (tgt := 1032) hc dL_law_33 33 (by rw [cn_and]; exact ek) (by decide) (by decide) rfl (by decide) (lc_33 hc hL hX hbl hbA hi hLL hr (show stp 33 _ _ _ (zInv (40 * i + 240)) from st_back h1 hk _) (fun τ υ q => nxt _ _ _ τ υ q (by omega) (by omega) (by omega)))
        | 34, ek, _ => exact p_ts (tgt := 1055) hc dL_law_33 34 (by rw [cn_and]; exact ek) (by decide) (by decide) rfl (by decide) (lc_34 hc hL hX hbl hbA hi hLL hr (show stp 34 _ _ _ (zInv (40 * i + 240)) from st_count h1 _) (fun τ υ q => nxt _ _ _ τ υ q (by omega) (by omega) (by omega)))
        | 35, ek, _ => exact p_ts (tgt := 1078) hc dL_law_33 35 (by rw [cn_and]; exact ek) (by decide) (by decide) rfl (by decide) (lc_35 hc hL hX hbl hbA hi hLL hr (show stp 35 _ _ _ (zInv (40 * i + 240)) from st_status h1) (fun τ υ q => nxt _ _ _ τ υ q (by omega) (by omega) (by omega)))
        | n + 36, _, w => omega
      · refine p_td (tgt := 1091) hc dL_law_33 (Or.inr (by rw [cn_and, ek]; omega)) (by decide) ?_
        exact nxt _ _ _ σc σm h1 (by omega) (by omega) (by omega)
    · exact loop_out hc hX hbl hbA hLL hE (by omega) (by omega)
