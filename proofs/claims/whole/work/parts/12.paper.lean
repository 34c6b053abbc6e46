-- LitStrangers$Paper.wanted(I)I
theorem dX5_wanted_0 : decode cX5_wanted 0 = .ok (.iload_n 0, 1) := by decide +kernel
theorem dX5_wanted_1 : decode cX5_wanted 1 = .ok (.iconst 1, 1) := by decide +kernel
theorem dX5_wanted_2 : decode cX5_wanted 2 = .ok (.if_icmp .ne 7, 3) := by decide +kernel
theorem dX5_wanted_5 : decode cX5_wanted 5 = .ok (.iconst 4, 1) := by decide +kernel
theorem dX5_wanted_6 : decode cX5_wanted 6 = .ok (.goto 4, 3) := by decide +kernel
theorem dX5_wanted_9 : decode cX5_wanted 9 = .ok (.iconst 2, 1) := by decide +kernel
theorem dX5_wanted_10 : decode cX5_wanted 10 = .ok (.ireturn, 1) := by decide +kernel
def B_X5_wanted_10 (Q : Int → st_S → Prop)   (v0 : Int) (σ : st_S) : Prop := Q v0 σ
def wp_X5_wanted (a1 : Int) (σ : st_S) (Q : Int → st_S → Prop) : Prop := (¬ a1 = 1 → B_X5_wanted_10 Q 2 σ) ∧ (a1 = 1 → B_X5_wanted_10 Q 4 σ)
set_option maxRecDepth 20000 in
theorem jb_X5_wanted_10 {X : jj_X} {E : ev_E} {n0 hN : Nat} (hc : Cx X E cX5_wanted 1 n0 hN RX5) (hm : eM E = 1) (hr : (xT X).sig.returnType = (some .int)) (hh : 1 ≤ hN) {Q : Int → st_S → Prop} {v0 : Int} (cv0 : wr v0 = v0) {σ : st_S} (h : B_X5_wanted_10 Q v0 σ) : J X E 1 n0 0 0 (MQ (xB X) (qI E (n0 + 0) Q) (xA X) (xS X) 0 0 (eF E)) σ 10 [] [vI v0] := by
  have hh1 : 1 ≤ hN := by omega
  replace h : Q v0 σ := h
  exact j_iret hc hr cv0 h dX5_wanted_10
set_option maxRecDepth 20000 in
theorem c_X5_wanted {l : Launch} {E : ev_E} (hE : Eok E) (hm : eM E = 1) {a1 : Int} (ca1 : wr a1 = a1) {σ : st_S} {Q : Int → st_S → Prop} (h : wp_X5_wanted a1 σ Q) : cM l yX5_wanted cX5_wanted 1 (some .int) E 1 0 0 [vI a1] σ (qI E (gN σ + 0) Q) := by
  refine cM_of (lv := [(0, vI a1)]) (by decide) hE (Nat.le_of_ble_eq_true rfl) (rfl) ?_
  intro X hX hc _ _ hr _ _
  subst hX
  have hh : 1 ≤ 1 := Nat.le_refl _
  have hh1 : 1 ≤ 1 := by omega
  replace h : (¬ a1 = 1 → B_X5_wanted_10 Q 2 σ) ∧ (a1 = 1 → B_X5_wanted_10 Q 4 σ) := h
  refine j_iload_n hc 0 dX5_wanted_0 rfl rfl ?_
  refine j_iconst hc dX5_wanted_1 ?_
  refine j_ic_ne hc ca1 (wlit 1 (by decide)) (tgt := 9) dX5_wanted_2 (by decide) (fun q1 => ?_) (fun q1 => ?_)
  · replace h := h.1 q1
    refine j_iconst hc dX5_wanted_9 ?_
    refine j_sub (lv' := []) [] rfl ?_
    exact jb_X5_wanted_10 hc hm hr hh (wlit 2 (by decide)) h
  · replace h := h.2 q1
    refine j_iconst hc dX5_wanted_5 ?_
    refine j_goto (tgt := 10) hc dX5_wanted_6 (by decide) ?_
    refine j_sub (lv' := []) [] rfl ?_
    exact jb_X5_wanted_10 hc hm hr hh (wlit 4 (by decide)) h
-- LitStrangers$Paper.askSpoils(I)V
theorem dX5_askSpoils_0 : decode cX5_askSpoils 0 = .ok (.aload_n 0, 1) := by decide +kernel
theorem dX5_askSpoils_1 : decode cX5_askSpoils 1 = .ok (.getfield 18, 3) := by decide +kernel
theorem dX5_askSpoils_4 : decode cX5_askSpoils 4 = .ok (.iload_n 1, 1) := by decide +kernel
theorem dX5_askSpoils_5 : decode cX5_askSpoils 5 = .ok (.iconst 0, 1) := by decide +kernel
theorem dX5_askSpoils_6 : decode cX5_askSpoils 6 = .ok (.iastore, 1) := by decide +kernel
theorem dX5_askSpoils_7 : decode cX5_askSpoils 7 = .ok (.aload_n 0, 1) := by decide +kernel
theorem dX5_askSpoils_8 : decode cX5_askSpoils 8 = .ok (.getfield 21, 3) := by decide +kernel
theorem dX5_askSpoils_11 : decode cX5_askSpoils 11 = .ok (.iload_n 1, 1) := by decide +kernel
theorem dX5_askSpoils_12 : decode cX5_askSpoils 12 = .ok (.iconst 0, 1) := by decide +kernel
theorem dX5_askSpoils_13 : decode cX5_askSpoils 13 = .ok (.iastore, 1) := by decide +kernel
theorem dX5_askSpoils_14 : decode cX5_askSpoils 14 = .ok (.iconst 0, 1) := by decide +kernel
theorem dX5_askSpoils_15 : decode cX5_askSpoils 15 = .ok (.istore_n 2, 1) := by decide +kernel
theorem dX5_askSpoils_16 : decode cX5_askSpoils 16 = .ok (.iload_n 2, 1) := by decide +kernel
theorem dX5_askSpoils_17 : decode cX5_askSpoils 17 = .ok (.aload_n 0, 1) := by decide +kernel
theorem dX5_askSpoils_18 : decode cX5_askSpoils 18 = .ok (.getfield 39, 3) := by decide +kernel
theorem dX5_askSpoils_21 : decode cX5_askSpoils 21 = .ok (.getfield 54, 3) := by decide +kernel
theorem dX5_askSpoils_24 : decode cX5_askSpoils 24 = .ok (.if_icmp .ge 75, 3) := by decide +kernel
theorem dX5_askSpoils_27 : decode cX5_askSpoils 27 = .ok (.aload_n 0, 1) := by decide +kernel
theorem dX5_askSpoils_28 : decode cX5_askSpoils 28 = .ok (.getfield 39, 3) := by decide +kernel
theorem dX5_askSpoils_31 : decode cX5_askSpoils 31 = .ok (.iload_n 1, 1) := by decide +kernel
theorem dX5_askSpoils_32 : decode cX5_askSpoils 32 = .ok (.iload_n 2, 1) := by decide +kernel
theorem dX5_askSpoils_33 : decode cX5_askSpoils 33 = .ok (.invokevirtual 131, 3) := by decide +kernel
theorem dX5_askSpoils_36 : decode cX5_askSpoils 36 = .ok (.ifCond .ne 6, 3) := by decide +kernel
theorem dX5_askSpoils_39 : decode cX5_askSpoils 39 = .ok (.goto 54, 3) := by decide +kernel
theorem dX5_askSpoils_42 : decode cX5_askSpoils 42 = .ok (.aload_n 0, 1) := by decide +kernel
theorem dX5_askSpoils_43 : decode cX5_askSpoils 43 = .ok (.getfield 43, 3) := by decide +kernel
theorem dX5_askSpoils_46 : decode cX5_askSpoils 46 = .ok (.iload_n 1, 1) := by decide +kernel
theorem dX5_askSpoils_47 : decode cX5_askSpoils 47 = .ok (.iload_n 2, 1) := by decide +kernel
theorem dX5_askSpoils_48 : decode cX5_askSpoils 48 = .ok (.invokevirtual 135, 3) := by decide +kernel
theorem dX5_askSpoils_51 : decode cX5_askSpoils 51 = .ok (.istore_n 3, 1) := by decide +kernel
theorem dX5_askSpoils_52 : decode cX5_askSpoils 52 = .ok (.aload_n 0, 1) := by decide +kernel
theorem dX5_askSpoils_53 : decode cX5_askSpoils 53 = .ok (.getfield 18, 3) := by decide +kernel
theorem dX5_askSpoils_56 : decode cX5_askSpoils 56 = .ok (.iload_n 1, 1) := by decide +kernel
theorem dX5_askSpoils_57 : decode cX5_askSpoils 57 = .ok (.dup2, 1) := by decide +kernel
theorem dX5_askSpoils_58 : decode cX5_askSpoils 58 = .ok (.iaload, 1) := by decide +kernel
theorem dX5_askSpoils_59 : decode cX5_askSpoils 59 = .ok (.iload_n 3, 1) := by decide +kernel
theorem dX5_askSpoils_60 : decode cX5_askSpoils 60 = .ok (.ifCond .le 9, 3) := by decide +kernel
theorem dX5_askSpoils_63 : decode cX5_askSpoils 63 = .ok (.iconst 1, 1) := by decide +kernel
theorem dX5_askSpoils_64 : decode cX5_askSpoils 64 = .ok (.iload_n 2, 1) := by decide +kernel
theorem dX5_askSpoils_65 : decode cX5_askSpoils 65 = .ok (.ishl, 1) := by decide +kernel
theorem dX5_askSpoils_66 : decode cX5_askSpoils 66 = .ok (.goto 4, 3) := by decide +kernel
theorem dX5_askSpoils_69 : decode cX5_askSpoils 69 = .ok (.iconst 0, 1) := by decide +kernel
theorem dX5_askSpoils_70 : decode cX5_askSpoils 70 = .ok (.ior, 1) := by decide +kernel
theorem dX5_askSpoils_71 : decode cX5_askSpoils 71 = .ok (.iastore, 1) := by decide +kernel
theorem dX5_askSpoils_72 : decode cX5_askSpoils 72 = .ok (.aload_n 0, 1) := by decide +kernel
theorem dX5_askSpoils_73 : decode cX5_askSpoils 73 = .ok (.getfield 21, 3) := by decide +kernel
theorem dX5_askSpoils_76 : decode cX5_askSpoils 76 = .ok (.iload_n 1, 1) := by decide +kernel
theorem dX5_askSpoils_77 : decode cX5_askSpoils 77 = .ok (.dup2, 1) := by decide +kernel
theorem dX5_askSpoils_78 : decode cX5_askSpoils 78 = .ok (.iaload, 1) := by decide +kernel
theorem dX5_askSpoils_79 : decode cX5_askSpoils 79 = .ok (.iload_n 3, 1) := by decide +kernel
theorem dX5_askSpoils_80 : decode cX5_askSpoils 80 = .ok (.iconst 2, 1) := by decide +kernel
theorem dX5_askSpoils_81 : decode cX5_askSpoils 81 = .ok (.if_icmp .lt 9, 3) := by decide +kernel
theorem dX5_askSpoils_84 : decode cX5_askSpoils 84 = .ok (.iconst 1, 1) := by decide +kernel
theorem dX5_askSpoils_85 : decode cX5_askSpoils 85 = .ok (.iload_n 2, 1) := by decide +kernel
theorem dX5_askSpoils_86 : decode cX5_askSpoils 86 = .ok (.ishl, 1) := by decide +kernel
theorem dX5_askSpoils_87 : decode cX5_askSpoils 87 = .ok (.goto 4, 3) := by decide +kernel
theorem dX5_askSpoils_90 : decode cX5_askSpoils 90 = .ok (.iconst 0, 1) := by decide +kernel
theorem dX5_askSpoils_91 : decode cX5_askSpoils 91 = .ok (.ior, 1) := by decide +kernel
theorem dX5_askSpoils_92 : decode cX5_askSpoils 92 = .ok (.iastore, 1) := by decide +kernel
theorem dX5_askSpoils_93 : decode cX5_askSpoils 93 = .ok (.iinc 2 1, 3) := by decide +kernel
theorem dX5_askSpoils_96 : decode cX5_askSpoils 96 = .ok (.goto (-80), 3) := by decide +kernel
theorem dX5_askSpoils_99 : decode cX5_askSpoils 99 = .ok (.return_, 1) := by decide +kernel
def B_X5_askSpoils_93 (Q : st_S → Prop)  (k16 : Int → Int → st_S → Prop) (l1 : Int) (l2 : Int) (σ : st_S) : Prop := ∀ x25 : Int, x25 = wr (l2 + 1) → k16 l1 x25 σ
def B_X5_askSpoils_91 (Q : st_S → Prop)  (k16 : Int → Int → st_S → Prop) (l1 : Int) (l2 : Int) (v0 : Int) (v1 : Int) (v2 : Int) (σ : st_S) : Prop := ix (wr v2) 10 ∧ ∀ s27 : st_S, s27 = sI σ 46 (Int.toNat (wr v2)) (o_or v1 v0) → B_X5_askSpoils_93 Q k16 l1 l2 s27
def B_X5_askSpoils_70 (Q : st_S → Prop)  (k16 : Int → Int → st_S → Prop) (l1 : Int) (l2 : Int) (l3 : Int) (v0 : Int) (v1 : Int) (v2 : Int) (σ : st_S) : Prop := ix (wr v2) 10 ∧ ∀ s29 : st_S, s29 = sI σ 45 (Int.toNat (wr v2)) (o_or v1 v0) → ix l1 10 ∧ (l3 < 2 → B_X5_askSpoils_91 Q k16 l1 l2 0 (gI s29 46 (Int.toNat l1)) l1 s29) ∧ (¬ l3 < 2 → B_X5_askSpoils_91 Q k16 l1 l2 (o_shl 1 l2) (gI s29 46 (Int.toNat l1)) l1 s29)
def L_X5_askSpoils_16 (Q : st_S → Prop)   : Nat → Int → Int → st_S → Prop
  | 0 => fun _ _ _ => False
  | n + 1 => fun l1 l2 σ => (gI σ 25 0 ≤ l2 → Q σ) ∧ (¬ gI σ 25 0 ≤ l2 → wp_X1_talks l1 l2 σ (fun r34 s35 => (¬ r34 = 0 → wp_X3_spoils l1 l2 s35 (fun r36 s37 => ix l1 10 ∧ (r36 ≤ 0 → B_X5_askSpoils_70 Q (L_X5_askSpoils_16 Q n) l1 l2 r36 0 (gI s37 45 (Int.toNat l1)) l1 s37) ∧ (¬ r36 ≤ 0 → B_X5_askSpoils_70 Q (L_X5_askSpoils_16 Q n) l1 l2 r36 (o_shl 1 l2) (gI s37 45 (Int.toNat l1)) l1 s37))) ∧ (r34 = 0 → B_X5_askSpoils_93 Q (L_X5_askSpoils_16 Q n) l1 l2 s35)))
def wp_X5_askSpoils (a1 : Int) (σ : st_S) (Q : st_S → Prop) : Prop := ix a1 10 ∧ ∀ s44 : st_S, s44 = sI σ 45 (Int.toNat a1) 0 → ix a1 10 ∧ ∀ s46 : st_S, s46 = sI s44 46 (Int.toNat a1) 0 → ∃ m16 : Nat, L_X5_askSpoils_16 Q m16 a1 0 s46
set_option maxRecDepth 20000 in
theorem jb_X5_askSpoils_93 {X : jj_X} {E : ev_E} {n0 hN : Nat} (hc : Cx X E cX5_askSpoils 4 n0 hN RX5) (hm : eM E = 1) (hr : (xT X).sig.returnType = none) (hh : 5 ≤ hN) {Q : st_S → Prop} {k16 : Int → Int → st_S → Prop} (hk16 : ∀ {l1 : Int} {l2 : Int} (cl1 : wr l1 = l1) (cl2 : wr l2 = l2) {σ : st_S}, k16 l1 l2 σ → J X E 4 n0 0 0 (MQ (xB X) (qV E (n0 + 0) Q) (xA X) (xS X) 0 0 (eF E)) σ 16 [(0, vR E 42), (1, vI l1), (2, vI l2)] []) {l1 : Int} {l2 : Int} (cl1 : wr l1 = l1) (cl2 : wr l2 = l2) {σ : st_S} (h : B_X5_askSpoils_93 Q k16 l1 l2 σ) : J X E 4 n0 0 0 (MQ (xB X) (qV E (n0 + 0) Q) (xA X) (xS X) 0 0 (eF E)) σ 93 [(0, vR E 42), (1, vI l1), (2, vI l2)] [] := by
  have hh1 : 1 ≤ hN := by omega
  replace h : ∀ x25 : Int, x25 = wr (l2 + 1) → k16 l1 x25 σ := h
  obtain ⟨x25, ex25⟩ : ∃ y : Int, y = wr (l2 + 1) := ⟨_, rfl⟩
  have cx25 : wr x25 = x25 := by rw [ex25]; exact wr_wr _
  replace h := h x25 ex25
  refine j_iinc (lv' := [(2, vI x25), (0, vR E 42), (1, vI l1)]) hc 2 dX5_askSpoils_93 rfl (by decide) ex25 rfl ?_
  refine j_goto (tgt := 16) hc dX5_askSpoils_96 (by decide) ?_
  refine j_sub (lv' := [(0, vR E 42), (1, vI l1), (2, vI x25)]) [1, 2, 0] rfl ?_
  exact hk16 cl1 cx25 h
set_option maxRecDepth 20000 in
theorem jb_X5_askSpoils_91 {X : jj_X} {E : ev_E} {n0 hN : Nat} (hc : Cx X E cX5_askSpoils 4 n0 hN RX5) (hm : eM E = 1) (hr : (xT X).sig.returnType = none) (hh : 5 ≤ hN) {Q : st_S → Prop} {k16 : Int → Int → st_S → Prop} (hk16 : ∀ {l1 : Int} {l2 : Int} (cl1 : wr l1 = l1) (cl2 : wr l2 = l2) {σ : st_S}, k16 l1 l2 σ → J X E 4 n0 0 0 (MQ (xB X) (qV E (n0 + 0) Q) (xA X) (xS X) 0 0 (eF E)) σ 16 [(0, vR E 42), (1, vI l1), (2, vI l2)] []) {l1 : Int} {l2 : Int} {v0 : Int} {v1 : Int} {v2 : Int} (cl1 : wr l1 = l1) (cl2 : wr l2 = l2) (cv0 : wr v0 = v0) {σ : st_S} (h : B_X5_askSpoils_91 Q k16 l1 l2 v0 v1 v2 σ) : J X E 4 n0 0 0 (MQ (xB X) (qV E (n0 + 0) Q) (xA X) (xS X) 0 0 (eF E)) σ 91 [(0, vR E 42), (1, vI l1), (2, vI l2)] [vI v0, vI v1, vI v2, vR E 46] := by
  have hh1 : 1 ≤ hN := by omega
  replace h : ix (wr v2) 10 ∧ ∀ s27 : st_S, s27 = sI σ 46 (Int.toNat (wr v2)) (o_or v1 v0) → B_X5_askSpoils_93 Q k16 l1 l2 s27 := h
  refine j_ior hc dX5_askSpoils_91 ?_
  obtain ⟨b26, h⟩ := h
  refine j_iast (jn := (Int.toNat (wr v2))) hc (fun hv => sv_kl hv hm rfl) rfl b26 rfl (cn_or _ _) dX5_askSpoils_92 (fun s27 es27 => ?_)
  replace h := h s27 es27
  refine j_sub (lv' := [(0, vR E 42), (1, vI l1), (2, vI l2)]) [0, 1, 2] rfl ?_
  exact jb_X5_askSpoils_93 hc hm hr hh hk16 cl1 cl2 h
set_option maxRecDepth 20000 in
theorem jb_X5_askSpoils_70 {X : jj_X} {E : ev_E} {n0 hN : Nat} (hc : Cx X E cX5_askSpoils 4 n0 hN RX5) (hm : eM E = 1) (hr : (xT X).sig.returnType = none) (hh : 5 ≤ hN) {Q : st_S → Prop} {k16 : Int → Int → st_S → Prop} (hk16 : ∀ {l1 : Int} {l2 : Int} (cl1 : wr l1 = l1) (cl2 : wr l2 = l2) {σ : st_S}, k16 l1 l2 σ → J X E 4 n0 0 0 (MQ (xB X) (qV E (n0 + 0) Q) (xA X) (xS X) 0 0 (eF E)) σ 16 [(0, vR E 42), (1, vI l1), (2, vI l2)] []) {l1 : Int} {l2 : Int} {l3 : Int} {v0 : Int} {v1 : Int} {v2 : Int} (cl1 : wr l1 = l1) (cl2 : wr l2 = l2) (cl3 : wr l3 = l3) (cv0 : wr v0 = v0) {σ : st_S} (h : B_X5_askSpoils_70 Q k16 l1 l2 l3 v0 v1 v2 σ) : J X E 4 n0 0 0 (MQ (xB X) (qV E (n0 + 0) Q) (xA X) (xS X) 0 0 (eF E)) σ 70 [(0, vR E 42), (1, vI l1), (2, vI l2), (3, vI l3)] [vI v0, vI v1, vI v2, vR E 45] := by
  have hh1 : 1 ≤ hN := by omega
  replace h : ix (wr v2) 10 ∧ ∀ s29 : st_S, s29 = sI σ 45 (Int.toNat (wr v2)) (o_or v1 v0) → ix l1 10 ∧ (l3 < 2 → B_X5_askSpoils_91 Q k16 l1 l2 0 (gI s29 46 (Int.toNat l1)) l1 s29) ∧ (¬ l3 < 2 → B_X5_askSpoils_91 Q k16 l1 l2 (o_shl 1 l2) (gI s29 46 (Int.toNat l1)) l1 s29) := h
  refine j_ior hc dX5_askSpoils_70 ?_
  obtain ⟨b28, h⟩ := h
  refine j_iast (jn := (Int.toNat (wr v2))) hc (fun hv => sv_kl hv hm rfl) rfl b28 rfl (cn_or _ _) dX5_askSpoils_71 (fun s29 es29 => ?_)
  replace h := h s29 es29
  refine j_aload_nR hc 0 dX5_askSpoils_72 rfl rfl ?_
  refine j_getR (c' := 46) hc fl_RX5_21 rfl rfl (fun hv => (sv_k hv hm rfl)) dX5_askSpoils_73 ?_
  refine j_iload_n hc 1 dX5_askSpoils_76 rfl rfl ?_
  refine j_dup2 hc dX5_askSpoils_77 rfl rfl ?_
  obtain ⟨b30, h⟩ := h
  refine j_iald (jn := (Int.toNat l1)) hc (fun hv => sv_kl hv hm rfl) cl1 b30 rfl dX5_askSpoils_78 (fun cn31 => ?_)
  refine j_iload_n hc 3 dX5_askSpoils_79 rfl rfl ?_
  refine j_iconst hc dX5_askSpoils_80 ?_
  refine j_ic_lt hc cl3 (wlit 2 (by decide)) (tgt := 90) dX5_askSpoils_81 (by decide) (fun q32 => ?_) (fun q32 => ?_)
  · replace h := h.1 q32
    refine j_iconst hc dX5_askSpoils_90 ?_
    refine j_sub (lv' := [(0, vR E 42), (1, vI l1), (2, vI l2)]) [0, 1, 2] rfl ?_
    exact jb_X5_askSpoils_91 hc hm hr hh hk16 cl1 cl2 (wlit 0 (by decide)) h
  · replace h := h.2 q32
    refine j_iconst hc dX5_askSpoils_84 ?_
    refine j_iload_n hc 2 dX5_askSpoils_85 rfl rfl ?_
    refine j_ishl hc dX5_askSpoils_86 ?_
    refine j_goto (tgt := 91) hc dX5_askSpoils_87 (by decide) ?_
    refine j_sub (lv' := [(0, vR E 42), (1, vI l1), (2, vI l2)]) [0, 1, 2] rfl ?_
    exact jb_X5_askSpoils_91 hc hm hr hh hk16 cl1 cl2 (cn_shl _ _) h
set_option maxRecDepth 20000 in
theorem jl_X5_askSpoils_16 {X : jj_X} {E : ev_E} {n0 hN : Nat} (hc : Cx X E cX5_askSpoils 4 n0 hN RX5) (hm : eM E = 1) (hr : (xT X).sig.returnType = none) (hh : 5 ≤ hN) {Q : st_S → Prop} : ∀ (n : Nat) {l1 : Int} {l2 : Int} (cl1 : wr l1 = l1) (cl2 : wr l2 = l2) {σ : st_S}, L_X5_askSpoils_16 Q n l1 l2 σ → J X E 4 n0 0 0 (MQ (xB X) (qV E (n0 + 0) Q) (xA X) (xS X) 0 0 (eF E)) σ 16 [(0, vR E 42), (1, vI l1), (2, vI l2)] [] := by
  have hh1 : 1 ≤ hN := by omega
  intro n
  induction n with
  | zero => intro l1 l2 cl1 cl2 σ h; exact h.elim
  | succ n ih =>
    intro l1 l2 cl1 cl2 σ h
    have hk16 : ∀ {l1 : Int} {l2 : Int} (cl1 : wr l1 = l1) (cl2 : wr l2 = l2) {σ : st_S}, L_X5_askSpoils_16 Q n l1 l2 σ → J X E 4 n0 0 0 (MQ (xB X) (qV E (n0 + 0) Q) (xA X) (xS X) 0 0 (eF E)) σ 16 [(0, vR E 42), (1, vI l1), (2, vI l2)] [] := ih
    replace h : (gI σ 25 0 ≤ l2 → Q σ) ∧ (¬ gI σ 25 0 ≤ l2 → wp_X1_talks l1 l2 σ (fun r34 s35 => (¬ r34 = 0 → wp_X3_spoils l1 l2 s35 (fun r36 s37 => ix l1 10 ∧ (r36 ≤ 0 → B_X5_askSpoils_70 Q (L_X5_askSpoils_16 Q n) l1 l2 r36 0 (gI s37 45 (Int.toNat l1)) l1 s37) ∧ (¬ r36 ≤ 0 → B_X5_askSpoils_70 Q (L_X5_askSpoils_16 Q n) l1 l2 r36 (o_shl 1 l2) (gI s37 45 (Int.toNat l1)) l1 s37))) ∧ (r34 = 0 → B_X5_askSpoils_93 Q (L_X5_askSpoils_16 Q n) l1 l2 s35))) := h
    refine j_iload_n hc 2 dX5_askSpoils_16 rfl rfl ?_
    refine j_aload_nR hc 0 dX5_askSpoils_17 rfl rfl ?_
    refine j_getR (c' := 25) hc fl_RX5_39 rfl rfl (fun hv => (sv_k hv hm rfl)) dX5_askSpoils_18 ?_
    refine j_getI hc fl_RX5_54 (Or.inl rfl) (fun hv => Or.inl (sv_k hv hm rfl)) dX5_askSpoils_21 (fun cn33 => ?_)
    refine j_ic_ge hc cl2 cn33 (tgt := 99) dX5_askSpoils_24 (by decide) (fun q42 => ?_) (fun q42 => ?_)
    · replace h := h.1 q42
      exact j_vret hc hr h dX5_askSpoils_99
    · replace h := h.2 q42
      refine j_aload_nR hc 0 dX5_askSpoils_27 rfl rfl ?_
      refine j_getR (c' := 25) hc fl_RX5_39 rfl rfl (fun hv => (sv_k hv hm rfl)) dX5_askSpoils_28 ?_
      refine j_iload_n hc 1 dX5_askSpoils_31 rfl rfl ?_
      refine j_iload_n hc 2 dX5_askSpoils_32 rfl rfl ?_
      refine j_vI hc (k := 1) (by decide) (fun hv => Or.inl (sv_k hv hm rfl)) ml_RX5_131 mv_X1_talks (As := [vI l1, vI l2]) (c_X1_talks (cx_E hc) hm cl1 cl2 h) rfl (by omega) (by decide) ⟨Nat.zero_le _, Nat.zero_le _⟩ (Nat.le_of_ble_eq_true rfl) rfl dX5_askSpoils_33 (fun r34 s35 cr34 h => ?_)
      refine j_if_ne hc cr34 (tgt := 42) dX5_askSpoils_36 (by decide) (fun q41 => ?_) (fun q41 => ?_)
      · replace h := h.1 q41
        refine j_aload_nR hc 0 dX5_askSpoils_42 rfl rfl ?_
        refine j_getR (c' := 35) hc fl_RX5_43 rfl rfl (fun hv => (sv_k hv hm rfl)) dX5_askSpoils_43 ?_
        refine j_iload_n hc 1 dX5_askSpoils_46 rfl rfl ?_
        refine j_iload_n hc 2 dX5_askSpoils_47 rfl rfl ?_
        refine j_vI hc (k := 3) (by decide) (fun hv => Or.inl (sv_k hv hm rfl)) ml_RX5_135 mv_X3_spoils (As := [vI l1, vI l2]) (c_X3_spoils (cx_E hc) hm cl1 cl2 h) rfl (by omega) (by decide) ⟨Nat.zero_le _, Nat.zero_le _⟩ (Nat.le_of_ble_eq_true rfl) rfl dX5_askSpoils_48 (fun r36 s37 cr36 h => ?_)
        refine j_istore_n (lv' := [(3, vI r36), (0, vR E 42), (1, vI l1), (2, vI l2)]) hc dX5_askSpoils_51 rfl (by decide) rfl ?_
        refine j_aload_nR hc 1 dX5_askSpoils_52 rfl rfl ?_
        refine j_getR (c' := 45) hc fl_RX5_18 rfl rfl (fun hv => (sv_k hv hm rfl)) dX5_askSpoils_53 ?_
        refine j_iload_n hc 2 dX5_askSpoils_56 rfl rfl ?_
        refine j_dup2 hc dX5_askSpoils_57 rfl rfl ?_
        obtain ⟨b38, h⟩ := h
        refine j_iald (jn := (Int.toNat l1)) hc (fun hv => sv_kl hv hm rfl) cl1 b38 rfl dX5_askSpoils_58 (fun cn39 => ?_)
        refine j_iload_n hc 0 dX5_askSpoils_59 rfl rfl ?_
        refine j_if_le hc cr36 (tgt := 69) dX5_askSpoils_60 (by decide) (fun q40 => ?_) (fun q40 => ?_)
        · replace h := h.1 q40
          refine j_iconst hc dX5_askSpoils_69 ?_
          refine j_sub (lv' := [(0, vR E 42), (1, vI l1), (2, vI l2), (3, vI r36)]) [1, 2, 3, 0] rfl ?_
          exact jb_X5_askSpoils_70 hc hm hr hh hk16 cl1 cl2 cr36 (wlit 0 (by decide)) h
        · replace h := h.2 q40
          refine j_iconst hc dX5_askSpoils_63 ?_
          refine j_iload_n hc 3 dX5_askSpoils_64 rfl rfl ?_
          refine j_ishl hc dX5_askSpoils_65 ?_
          refine j_goto (tgt := 70) hc dX5_askSpoils_66 (by decide) ?_
          refine j_sub (lv' := [(0, vR E 42), (1, vI l1), (2, vI l2), (3, vI r36)]) [1, 2, 3, 0] rfl ?_
          exact jb_X5_askSpoils_70 hc hm hr hh hk16 cl1 cl2 cr36 (cn_shl _ _) h
      · replace h := h.2 q41
        refine j_goto (tgt := 93) hc dX5_askSpoils_39 (by decide) ?_
        refine j_sub (lv' := [(0, vR E 42), (1, vI l1), (2, vI l2)]) [0, 1, 2] rfl ?_
        exact jb_X5_askSpoils_93 hc hm hr hh hk16 cl1 cl2 h
set_option maxRecDepth 20000 in
theorem c_X5_askSpoils {l : Launch} {E : ev_E} (hE : Eok E) (hm : eM E = 1) {a1 : Int} (ca1 : wr a1 = a1) {σ : st_S} {Q : st_S → Prop} (h : wp_X5_askSpoils a1 σ Q) : cM l yX5_askSpoils cX5_askSpoils 4 none E 5 0 0 [vR E 42, vI a1] σ (qV E (gN σ + 0) Q) := by
  refine cM_of (lv := [(0, vR E 42), (1, vI a1)]) (by decide) hE (Nat.le_of_ble_eq_true rfl) (rfl) ?_
  intro X hX hc _ _ hr _ _
  subst hX
  have hh : 5 ≤ 5 := Nat.le_refl _
  have hh1 : 1 ≤ 5 := by omega
  replace h : ix a1 10 ∧ ∀ s44 : st_S, s44 = sI σ 45 (Int.toNat a1) 0 → ix a1 10 ∧ ∀ s46 : st_S, s46 = sI s44 46 (Int.toNat a1) 0 → ∃ m16 : Nat, L_X5_askSpoils_16 Q m16 a1 0 s46 := h
  refine j_aload_nR hc 0 dX5_askSpoils_0 rfl rfl ?_
  refine j_getR (c' := 45) hc fl_RX5_18 rfl rfl (fun hv => (sv_k hv hm rfl)) dX5_askSpoils_1 ?_
  refine j_iload_n hc 1 dX5_askSpoils_4 rfl rfl ?_
  refine j_iconst hc dX5_askSpoils_5 ?_
  obtain ⟨b43, h⟩ := h
  refine j_iast (jn := (Int.toNat a1)) hc (fun hv => sv_kl hv hm rfl) ca1 b43 rfl (wlit 0 (by decide)) dX5_askSpoils_6 (fun s44 es44 => ?_)
  replace h := h s44 es44
  refine j_aload_nR hc 0 dX5_askSpoils_7 rfl rfl ?_
  refine j_getR (c' := 46) hc fl_RX5_21 rfl rfl (fun hv => (sv_k hv hm rfl)) dX5_askSpoils_8 ?_
  refine j_iload_n hc 1 dX5_askSpoils_11 rfl rfl ?_
  refine j_iconst hc dX5_askSpoils_12 ?_
  obtain ⟨b45, h⟩ := h
  refine j_iast (jn := (Int.toNat a1)) hc (fun hv => sv_kl hv hm rfl) ca1 b45 rfl (wlit 0 (by decide)) dX5_askSpoils_13 (fun s46 es46 => ?_)
  replace h := h s46 es46
  refine j_iconst hc dX5_askSpoils_14 ?_
  refine j_istore_n (lv' := [(2, vI 0), (0, vR E 42), (1, vI a1)]) hc dX5_askSpoils_15 rfl (by decide) rfl ?_
  obtain ⟨n16, h⟩ := h
  refine j_sub (lv' := [(0, vR E 42), (1, vI a1), (2, vI 0)]) [1, 2, 0] rfl ?_
  exact jl_X5_askSpoils_16 hc hm hr hh n16 ca1 (wlit 0 (by decide)) h
-- LitStrangers$Paper.comeBy(I)I
theorem dX5_comeBy_0 : decode cX5_comeBy 0 = .ok (.iconst 0, 1) := by decide +kernel
theorem dX5_comeBy_1 : decode cX5_comeBy 1 = .ok (.istore_n 2, 1) := by decide +kernel
theorem dX5_comeBy_2 : decode cX5_comeBy 2 = .ok (.iconst 0, 1) := by decide +kernel
theorem dX5_comeBy_3 : decode cX5_comeBy 3 = .ok (.istore_n 3, 1) := by decide +kernel
theorem dX5_comeBy_4 : decode cX5_comeBy 4 = .ok (.iload_n 3, 1) := by decide +kernel
theorem dX5_comeBy_5 : decode cX5_comeBy 5 = .ok (.aload_n 0, 1) := by decide +kernel
theorem dX5_comeBy_6 : decode cX5_comeBy 6 = .ok (.getfield 39, 3) := by decide +kernel
theorem dX5_comeBy_9 : decode cX5_comeBy 9 = .ok (.getfield 54, 3) := by decide +kernel
theorem dX5_comeBy_12 : decode cX5_comeBy 12 = .ok (.if_icmp .ge 29, 3) := by decide +kernel
theorem dX5_comeBy_15 : decode cX5_comeBy 15 = .ok (.iload_n 2, 1) := by decide +kernel
theorem dX5_comeBy_16 : decode cX5_comeBy 16 = .ok (.aload_n 0, 1) := by decide +kernel
theorem dX5_comeBy_17 : decode cX5_comeBy 17 = .ok (.getfield 9, 3) := by decide +kernel
theorem dX5_comeBy_20 : decode cX5_comeBy 20 = .ok (.iload_n 3, 1) := by decide +kernel
theorem dX5_comeBy_21 : decode cX5_comeBy 21 = .ok (.iaload, 1) := by decide +kernel
theorem dX5_comeBy_22 : decode cX5_comeBy 22 = .ok (.iload_n 1, 1) := by decide +kernel
theorem dX5_comeBy_23 : decode cX5_comeBy 23 = .ok (.if_icmp .gt 9, 3) := by decide +kernel
theorem dX5_comeBy_26 : decode cX5_comeBy 26 = .ok (.iconst 1, 1) := by decide +kernel
theorem dX5_comeBy_27 : decode cX5_comeBy 27 = .ok (.iload_n 3, 1) := by decide +kernel
theorem dX5_comeBy_28 : decode cX5_comeBy 28 = .ok (.ishl, 1) := by decide +kernel
theorem dX5_comeBy_29 : decode cX5_comeBy 29 = .ok (.goto 4, 3) := by decide +kernel
theorem dX5_comeBy_32 : decode cX5_comeBy 32 = .ok (.iconst 0, 1) := by decide +kernel
theorem dX5_comeBy_33 : decode cX5_comeBy 33 = .ok (.ior, 1) := by decide +kernel
theorem dX5_comeBy_34 : decode cX5_comeBy 34 = .ok (.istore_n 2, 1) := by decide +kernel
theorem dX5_comeBy_35 : decode cX5_comeBy 35 = .ok (.iinc 3 1, 3) := by decide +kernel
theorem dX5_comeBy_38 : decode cX5_comeBy 38 = .ok (.goto (-34), 3) := by decide +kernel
theorem dX5_comeBy_41 : decode cX5_comeBy 41 = .ok (.iload_n 2, 1) := by decide +kernel
theorem dX5_comeBy_42 : decode cX5_comeBy 42 = .ok (.ireturn, 1) := by decide +kernel
def B_X5_comeBy_33 (Q : Int → st_S → Prop)  (k4 : Int → Int → Int → st_S → Prop) (l1 : Int) (l3 : Int) (v0 : Int) (v1 : Int) (σ : st_S) : Prop := ∀ x8 : Int, x8 = o_or v1 v0 → ∀ x9 : Int, x9 = wr (l3 + 1) → k4 l1 x8 x9 σ
def L_X5_comeBy_4 (Q : Int → st_S → Prop)   : Nat → Int → Int → Int → st_S → Prop
  | 0 => fun _ _ _ _ => False
  | n + 1 => fun l1 l2 l3 σ => (gI σ 25 0 ≤ l3 → Q l2 σ) ∧ (¬ gI σ 25 0 ≤ l3 → ix l3 10 ∧ (l1 < gI σ 43 (Int.toNat l3) → B_X5_comeBy_33 Q (L_X5_comeBy_4 Q n) l1 l3 0 l2 σ) ∧ (¬ l1 < gI σ 43 (Int.toNat l3) → B_X5_comeBy_33 Q (L_X5_comeBy_4 Q n) l1 l3 (o_shl 1 l3) l2 σ))
def wp_X5_comeBy (a1 : Int) (σ : st_S) (Q : Int → st_S → Prop) : Prop := ∃ m4 : Nat, L_X5_comeBy_4 Q m4 a1 0 0 σ
set_option maxRecDepth 20000 in
theorem jb_X5_comeBy_33 {X : jj_X} {E : ev_E} {n0 hN : Nat} (hc : Cx X E cX5_comeBy 4 n0 hN RX5) (hm : eM E = 1) (hr : (xT X).sig.returnType = (some .int)) (hh : 1 ≤ hN) {Q : Int → st_S → Prop} {k4 : Int → Int → Int → st_S → Prop} (hk4 : ∀ {l1 : Int} {l2 : Int} {l3 : Int} (cl1 : wr l1 = l1) (cl2 : wr l2 = l2) (cl3 : wr l3 = l3) {σ : st_S}, k4 l1 l2 l3 σ → J X E 4 n0 0 0 (MQ (xB X) (qI E (n0 + 0) Q) (xA X) (xS X) 0 0 (eF E)) σ 4 [(0, vR E 42), (1, vI l1), (2, vI l2), (3, vI l3)] []) {l1 : Int} {l3 : Int} {v0 : Int} {v1 : Int} (cl1 : wr l1 = l1) (cl3 : wr l3 = l3) (cv0 : wr v0 = v0) {σ : st_S} (h : B_X5_comeBy_33 Q k4 l1 l3 v0 v1 σ) : J X E 4 n0 0 0 (MQ (xB X) (qI E (n0 + 0) Q) (xA X) (xS X) 0 0 (eF E)) σ 33 [(0, vR E 42), (1, vI l1), (3, vI l3)] [vI v0, vI v1] := by
  have hh1 : 1 ≤ hN := by omega
  replace h : ∀ x8 : Int, x8 = o_or v1 v0 → ∀ x9 : Int, x9 = wr (l3 + 1) → k4 l1 x8 x9 σ := h
  refine j_ior hc dX5_comeBy_33 ?_
  refine j_c (cn_or _ _) (fun x8 ex8 cx8 => ?_)
  replace h := h x8 ex8
  refine j_istore_n (lv' := [(2, vI x8), (0, vR E 42), (1, vI l1), (3, vI l3)]) hc dX5_comeBy_34 rfl (by decide) rfl ?_
  obtain ⟨x9, ex9⟩ : ∃ y : Int, y = wr (l3 + 1) := ⟨_, rfl⟩
  have cx9 : wr x9 = x9 := by rw [ex9]; exact wr_wr _
  replace h := h x9 ex9
  refine j_iinc (lv' := [(3, vI x9), (2, vI x8), (0, vR E 42), (1, vI l1)]) hc 3 dX5_comeBy_35 rfl (by decide) ex9 rfl ?_
  refine j_goto (tgt := 4) hc dX5_comeBy_38 (by decide) ?_
  refine j_sub (lv' := [(0, vR E 42), (1, vI l1), (2, vI x8), (3, vI x9)]) [2, 3, 1, 0] rfl ?_
  exact hk4 cl1 cx8 cx9 h
set_option maxRecDepth 20000 in
theorem jl_X5_comeBy_4 {X : jj_X} {E : ev_E} {n0 hN : Nat} (hc : Cx X E cX5_comeBy 4 n0 hN RX5) (hm : eM E = 1) (hr : (xT X).sig.returnType = (some .int)) (hh : 1 ≤ hN) {Q : Int → st_S → Prop} : ∀ (n : Nat) {l1 : Int} {l2 : Int} {l3 : Int} (cl1 : wr l1 = l1) (cl2 : wr l2 = l2) (cl3 : wr l3 = l3) {σ : st_S}, L_X5_comeBy_4 Q n l1 l2 l3 σ → J X E 4 n0 0 0 (MQ (xB X) (qI E (n0 + 0) Q) (xA X) (xS X) 0 0 (eF E)) σ 4 [(0, vR E 42), (1, vI l1), (2, vI l2), (3, vI l3)] [] := by
  have hh1 : 1 ≤ hN := by omega
  intro n
  induction n with
  | zero => intro l1 l2 l3 cl1 cl2 cl3 σ h; exact h.elim
  | succ n ih =>
    intro l1 l2 l3 cl1 cl2 cl3 σ h
    have hk4 : ∀ {l1 : Int} {l2 : Int} {l3 : Int} (cl1 : wr l1 = l1) (cl2 : wr l2 = l2) (cl3 : wr l3 = l3) {σ : st_S}, L_X5_comeBy_4 Q n l1 l2 l3 σ → J X E 4 n0 0 0 (MQ (xB X) (qI E (n0 + 0) Q) (xA X) (xS X) 0 0 (eF E)) σ 4 [(0, vR E 42), (1, vI l1), (2, vI l2), (3, vI l3)] [] := ih
    replace h : (gI σ 25 0 ≤ l3 → Q l2 σ) ∧ (¬ gI σ 25 0 ≤ l3 → ix l3 10 ∧ (l1 < gI σ 43 (Int.toNat l3) → B_X5_comeBy_33 Q (L_X5_comeBy_4 Q n) l1 l3 0 l2 σ) ∧ (¬ l1 < gI σ 43 (Int.toNat l3) → B_X5_comeBy_33 Q (L_X5_comeBy_4 Q n) l1 l3 (o_shl 1 l3) l2 σ)) := h
    refine j_iload_n hc 3 dX5_comeBy_4 rfl rfl ?_
    refine j_aload_nR hc 0 dX5_comeBy_5 rfl rfl ?_
    refine j_getR (c' := 25) hc fl_RX5_39 rfl rfl (fun hv => (sv_k hv hm rfl)) dX5_comeBy_6 ?_
    refine j_getI hc fl_RX5_54 (Or.inl rfl) (fun hv => Or.inl (sv_k hv hm rfl)) dX5_comeBy_9 (fun cn10 => ?_)
    refine j_ic_ge hc cl3 cn10 (tgt := 41) dX5_comeBy_12 (by decide) (fun q14 => ?_) (fun q14 => ?_)
    · replace h := h.1 q14
      refine j_iload_n hc 2 dX5_comeBy_41 rfl rfl ?_
      exact j_iret hc hr cl2 h dX5_comeBy_42
    · replace h := h.2 q14
      refine j_iload_n hc 2 dX5_comeBy_15 rfl rfl ?_
      refine j_aload_nR hc 0 dX5_comeBy_16 rfl rfl ?_
      refine j_getR (c' := 43) hc fl_RX5_9 rfl rfl (fun hv => (sv_k hv hm rfl)) dX5_comeBy_17 ?_
      refine j_iload_n hc 3 dX5_comeBy_20 rfl rfl ?_
      obtain ⟨b11, h⟩ := h
      refine j_iald (jn := (Int.toNat l3)) hc (fun hv => sv_kl hv hm rfl) cl3 b11 rfl dX5_comeBy_21 (fun cn12 => ?_)
      refine j_iload_n hc 1 dX5_comeBy_22 rfl rfl ?_
      refine j_ic_gt hc cn12 cl1 (tgt := 32) dX5_comeBy_23 (by decide) (fun q13 => ?_) (fun q13 => ?_)
      · replace h := h.1 q13
        refine j_iconst hc dX5_comeBy_32 ?_
        refine j_sub (lv' := [(0, vR E 42), (1, vI l1), (3, vI l3)]) [0, 1, 3] rfl ?_
        exact jb_X5_comeBy_33 hc hm hr hh hk4 cl1 cl3 (wlit 0 (by decide)) h
      · replace h := h.2 q13
        refine j_iconst hc dX5_comeBy_26 ?_
        refine j_iload_n hc 3 dX5_comeBy_27 rfl rfl ?_
        refine j_ishl hc dX5_comeBy_28 ?_
        refine j_goto (tgt := 33) hc dX5_comeBy_29 (by decide) ?_
        refine j_sub (lv' := [(0, vR E 42), (1, vI l1), (3, vI l3)]) [0, 1, 3] rfl ?_
        exact jb_X5_comeBy_33 hc hm hr hh hk4 cl1 cl3 (cn_shl _ _) h
set_option maxRecDepth 20000 in
theorem c_X5_comeBy {l : Launch} {E : ev_E} (hE : Eok E) (hm : eM E = 1) {a1 : Int} (ca1 : wr a1 = a1) {σ : st_S} {Q : Int → st_S → Prop} (h : wp_X5_comeBy a1 σ Q) : cM l yX5_comeBy cX5_comeBy 4 (some .int) E 1 0 0 [vR E 42, vI a1] σ (qI E (gN σ + 0) Q) := by
  refine cM_of (lv := [(0, vR E 42), (1, vI a1)]) (by decide) hE (Nat.le_of_ble_eq_true rfl) (rfl) ?_
  intro X hX hc _ _ hr _ _
  subst hX
  have hh : 1 ≤ 1 := Nat.le_refl _
  have hh1 : 1 ≤ 1 := by omega
  replace h : ∃ m4 : Nat, L_X5_comeBy_4 Q m4 a1 0 0 σ := h
  refine j_iconst hc dX5_comeBy_0 ?_
  refine j_istore_n (lv' := [(2, vI 0), (0, vR E 42), (1, vI a1)]) hc dX5_comeBy_1 rfl (by decide) rfl ?_
  refine j_iconst hc dX5_comeBy_2 ?_
  refine j_istore_n (lv' := [(3, vI 0), (2, vI 0), (0, vR E 42), (1, vI a1)]) hc dX5_comeBy_3 rfl (by decide) rfl ?_
  obtain ⟨n4, h⟩ := h
  refine j_sub (lv' := [(0, vR E 42), (1, vI a1), (2, vI 0), (3, vI 0)]) [2, 3, 1, 0] rfl ?_
  exact jl_X5_comeBy_4 hc hm hr hh n4 ca1 (wlit 0 (by decide)) (wlit 0 (by decide)) h
-- LitStrangers$Paper.freeOn(IIII)I
theorem dX5_freeOn_0 : decode cX5_freeOn 0 = .ok (.aload_n 0, 1) := by decide +kernel
theorem dX5_freeOn_1 : decode cX5_freeOn 1 = .ok (.getfield 39, 3) := by decide +kernel
theorem dX5_freeOn_4 : decode cX5_freeOn 4 = .ok (.getfield 72, 3) := by decide +kernel
theorem dX5_freeOn_7 : decode cX5_freeOn 7 = .ok (.iconst 0, 1) := by decide +kernel
theorem dX5_freeOn_8 : decode cX5_freeOn 8 = .ok (.iaload, 1) := by decide +kernel
theorem dX5_freeOn_9 : decode cX5_freeOn 9 = .ok (.iload_n 1, 1) := by decide +kernel
theorem dX5_freeOn_10 : decode cX5_freeOn 10 = .ok (.iadd, 1) := by decide +kernel
theorem dX5_freeOn_11 : decode cX5_freeOn 11 = .ok (.istore 5, 2) := by decide +kernel
theorem dX5_freeOn_13 : decode cX5_freeOn 13 = .ok (.iconst 0, 1) := by decide +kernel
theorem dX5_freeOn_14 : decode cX5_freeOn 14 = .ok (.istore 6, 2) := by decide +kernel
theorem dX5_freeOn_16 : decode cX5_freeOn 16 = .ok (.iconst 0, 1) := by decide +kernel
theorem dX5_freeOn_17 : decode cX5_freeOn 17 = .ok (.istore 7, 2) := by decide +kernel
theorem dX5_freeOn_19 : decode cX5_freeOn 19 = .ok (.iload 7, 2) := by decide +kernel
theorem dX5_freeOn_21 : decode cX5_freeOn 21 = .ok (.aload_n 0, 1) := by decide +kernel
theorem dX5_freeOn_22 : decode cX5_freeOn 22 = .ok (.getfield 39, 3) := by decide +kernel
theorem dX5_freeOn_25 : decode cX5_freeOn 25 = .ok (.getfield 54, 3) := by decide +kernel
theorem dX5_freeOn_28 : decode cX5_freeOn 28 = .ok (.if_icmp .ge 55, 3) := by decide +kernel
theorem dX5_freeOn_31 : decode cX5_freeOn 31 = .ok (.iload 4, 2) := by decide +kernel
theorem dX5_freeOn_33 : decode cX5_freeOn 33 = .ok (.iload 7, 2) := by decide +kernel
theorem dX5_freeOn_35 : decode cX5_freeOn 35 = .ok (.ishr, 1) := by decide +kernel
theorem dX5_freeOn_36 : decode cX5_freeOn 36 = .ok (.iconst 1, 1) := by decide +kernel
theorem dX5_freeOn_37 : decode cX5_freeOn 37 = .ok (.iand, 1) := by decide +kernel
theorem dX5_freeOn_38 : decode cX5_freeOn 38 = .ok (.ifCond .eq 39, 3) := by decide +kernel
theorem dX5_freeOn_41 : decode cX5_freeOn 41 = .ok (.aload_n 0, 1) := by decide +kernel
theorem dX5_freeOn_42 : decode cX5_freeOn 42 = .ok (.getfield 9, 3) := by decide +kernel
theorem dX5_freeOn_45 : decode cX5_freeOn 45 = .ok (.iload 7, 2) := by decide +kernel
theorem dX5_freeOn_47 : decode cX5_freeOn 47 = .ok (.iaload, 1) := by decide +kernel
theorem dX5_freeOn_48 : decode cX5_freeOn 48 = .ok (.iload_n 1, 1) := by decide +kernel
theorem dX5_freeOn_49 : decode cX5_freeOn 49 = .ok (.if_icmp .gt 28, 3) := by decide +kernel
theorem dX5_freeOn_52 : decode cX5_freeOn 52 = .ok (.aload_n 0, 1) := by decide +kernel
theorem dX5_freeOn_53 : decode cX5_freeOn 53 = .ok (.getfield 43, 3) := by decide +kernel
theorem dX5_freeOn_56 : decode cX5_freeOn 56 = .ok (.iload 7, 2) := by decide +kernel
theorem dX5_freeOn_58 : decode cX5_freeOn 58 = .ok (.iload_n 3, 1) := by decide +kernel
theorem dX5_freeOn_59 : decode cX5_freeOn 59 = .ok (.iload 5, 2) := by decide +kernel
theorem dX5_freeOn_61 : decode cX5_freeOn 61 = .ok (.iload_n 2, 1) := by decide +kernel
theorem dX5_freeOn_62 : decode cX5_freeOn 62 = .ok (.invokevirtual 138, 3) := by decide +kernel
theorem dX5_freeOn_65 : decode cX5_freeOn 65 = .ok (.ifCond .ne 12, 3) := by decide +kernel
theorem dX5_freeOn_68 : decode cX5_freeOn 68 = .ok (.iload 6, 2) := by decide +kernel
theorem dX5_freeOn_70 : decode cX5_freeOn 70 = .ok (.iconst 1, 1) := by decide +kernel
theorem dX5_freeOn_71 : decode cX5_freeOn 71 = .ok (.iload 7, 2) := by decide +kernel
theorem dX5_freeOn_73 : decode cX5_freeOn 73 = .ok (.ishl, 1) := by decide +kernel
theorem dX5_freeOn_74 : decode cX5_freeOn 74 = .ok (.ior, 1) := by decide +kernel
theorem dX5_freeOn_75 : decode cX5_freeOn 75 = .ok (.istore 6, 2) := by decide +kernel
theorem dX5_freeOn_77 : decode cX5_freeOn 77 = .ok (.iinc 7 1, 3) := by decide +kernel
theorem dX5_freeOn_80 : decode cX5_freeOn 80 = .ok (.goto (-61), 3) := by decide +kernel
theorem dX5_freeOn_83 : decode cX5_freeOn 83 = .ok (.iload 6, 2) := by decide +kernel
theorem dX5_freeOn_85 : decode cX5_freeOn 85 = .ok (.ireturn, 1) := by decide +kernel
def B_X5_freeOn_77 (Q : Int → st_S → Prop)  (k19 : Int → Int → Int → Int → Int → Int → Int → st_S → Prop) (l1 : Int) (l2 : Int) (l3 : Int) (l4 : Int) (l5 : Int) (l6 : Int) (l7 : Int) (σ : st_S) : Prop := ∀ x13 : Int, x13 = wr (l7 + 1) → k19 l1 l2 l3 l4 l5 l6 x13 σ
def L_X5_freeOn_19 (Q : Int → st_S → Prop)   : Nat → Int → Int → Int → Int → Int → Int → Int → st_S → Prop
  | 0 => fun _ _ _ _ _ _ _ _ => False
  | n + 1 => fun l1 l2 l3 l4 l5 l6 l7 σ => (gI σ 25 0 ≤ l7 → Q l6 σ) ∧ (¬ gI σ 25 0 ≤ l7 → (o_and (o_shr l4 l7) 1 = 0 → B_X5_freeOn_77 Q (L_X5_freeOn_19 Q n) l1 l2 l3 l4 l5 l6 l7 σ) ∧ (¬ o_and (o_shr l4 l7) 1 = 0 → ix l7 10 ∧ (l1 < gI σ 43 (Int.toNat l7) → B_X5_freeOn_77 Q (L_X5_freeOn_19 Q n) l1 l2 l3 l4 l5 l6 l7 σ) ∧ (¬ l1 < gI σ 43 (Int.toNat l7) → wp_X3_bars l7 l3 l5 l2 σ (fun r17 s18 => (¬ r17 = 0 → B_X5_freeOn_77 Q (L_X5_freeOn_19 Q n) l1 l2 l3 l4 l5 l6 l7 s18) ∧ (r17 = 0 → ∀ x19 : Int, x19 = o_or l6 (o_shl 1 l7) → B_X5_freeOn_77 Q (L_X5_freeOn_19 Q n) l1 l2 l3 l4 l5 x19 l7 s18)))))
def wp_X5_freeOn (a1 : Int) (a2 : Int) (a3 : Int) (a4 : Int) (σ : st_S) (Q : Int → st_S → Prop) : Prop := ∀ x25 : Int, x25 = wr (gI σ 33 0 + a1) → ∃ m19 : Nat, L_X5_freeOn_19 Q m19 a1 a2 a3 a4 x25 0 0 σ
set_option maxRecDepth 20000 in
theorem jb_X5_freeOn_77 {X : jj_X} {E : ev_E} {n0 hN : Nat} (hc : Cx X E cX5_freeOn 8 n0 hN RX5) (hm : eM E = 1) (hr : (xT X).sig.returnType = (some .int)) (hh : 5 ≤ hN) {Q : Int → st_S → Prop} {k19 : Int → Int → Int → Int → Int → Int → Int → st_S → Prop} (hk19 : ∀ {l1 : Int} {l2 : Int} {l3 : Int} {l4 : Int} {l5 : Int} {l6 : Int} {l7 : Int} (cl1 : wr l1 = l1) (cl2 : wr l2 = l2) (cl3 : wr l3 = l3) (cl4 : wr l4 = l4) (cl5 : wr l5 = l5) (cl6 : wr l6 = l6) (cl7 : wr l7 = l7) {σ : st_S}, k19 l1 l2 l3 l4 l5 l6 l7 σ → J X E 8 n0 0 0 (MQ (xB X) (qI E (n0 + 0) Q) (xA X) (xS X) 0 0 (eF E)) σ 19 [(0, vR E 42), (1, vI l1), (2, vI l2), (3, vI l3), (4, vI l4), (5, vI l5), (6, vI l6), (7, vI l7)] []) {l1 : Int} {l2 : Int} {l3 : Int} {l4 : Int} {l5 : Int} {l6 : Int} {l7 : Int} (cl1 : wr l1 = l1) (cl2 : wr l2 = l2) (cl3 : wr l3 = l3) (cl4 : wr l4 = l4) (cl5 : wr l5 = l5) (cl6 : wr l6 = l6) (cl7 : wr l7 = l7) {σ : st_S} (h : B_X5_freeOn_77 Q k19 l1 l2 l3 l4 l5 l6 l7 σ) : J X E 8 n0 0 0 (MQ (xB X) (qI E (n0 + 0) Q) (xA X) (xS X) 0 0 (eF E)) σ 77 [(0, vR E 42), (1, vI l1), (2, vI l2), (3, vI l3), (4, vI l4), (5, vI l5), (6, vI l6), (7, vI l7)] [] := by
  have hh1 : 1 ≤ hN := by omega
  replace h : ∀ x13 : Int, x13 = wr (l7 + 1) → k19 l1 l2 l3 l4 l5 l6 x13 σ := h
  obtain ⟨x13, ex13⟩ : ∃ y : Int, y = wr (l7 + 1) := ⟨_, rfl⟩
  have cx13 : wr x13 = x13 := by rw [ex13]; exact wr_wr _
  replace h := h x13 ex13
  refine j_iinc (lv' := [(7, vI x13), (0, vR E 42), (1, vI l1), (2, vI l2), (3, vI l3), (4, vI l4), (5, vI l5), (6, vI l6)]) hc 7 dX5_freeOn_77 rfl (by decide) ex13 rfl ?_
  refine j_goto (tgt := 19) hc dX5_freeOn_80 (by decide) ?_
  refine j_sub (lv' := [(0, vR E 42), (1, vI l1), (2, vI l2), (3, vI l3), (4, vI l4), (5, vI l5), (6, vI l6), (7, vI x13)]) [1, 2, 3, 4, 5, 6, 7, 0] rfl ?_
  exact hk19 cl1 cl2 cl3 cl4 cl5 cl6 cx13 h
set_option maxRecDepth 20000 in
theorem jl_X5_freeOn_19 {X : jj_X} {E : ev_E} {n0 hN : Nat} (hc : Cx X E cX5_freeOn 8 n0 hN RX5) (hm : eM E = 1) (hr : (xT X).sig.returnType = (some .int)) (hh : 5 ≤ hN) {Q : Int → st_S → Prop} : ∀ (n : Nat) {l1 : Int} {l2 : Int} {l3 : Int} {l4 : Int} {l5 : Int} {l6 : Int} {l7 : Int} (cl1 : wr l1 = l1) (cl2 : wr l2 = l2) (cl3 : wr l3 = l3) (cl4 : wr l4 = l4) (cl5 : wr l5 = l5) (cl6 : wr l6 = l6) (cl7 : wr l7 = l7) {σ : st_S}, L_X5_freeOn_19 Q n l1 l2 l3 l4 l5 l6 l7 σ → J X E 8 n0 0 0 (MQ (xB X) (qI E (n0 + 0) Q) (xA X) (xS X) 0 0 (eF E)) σ 19 [(0, vR E 42), (1, vI l1), (2, vI l2), (3, vI l3), (4, vI l4), (5, vI l5), (6, vI l6), (7, vI l7)] [] := by
  have hh1 : 1 ≤ hN := by omega
  intro n
  induction n with
  | zero => intro l1 l2 l3 l4 l5 l6 l7 cl1 cl2 cl3 cl4 cl5 cl6 cl7 σ h; exact h.elim
  | succ n ih =>
    intro l1 l2 l3 l4 l5 l6 l7 cl1 cl2 cl3 cl4 cl5 cl6 cl7 σ h
    have hk19 : ∀ {l1 : Int} {l2 : Int} {l3 : Int} {l4 : Int} {l5 : Int} {l6 : Int} {l7 : Int} (cl1 : wr l1 = l1) (cl2 : wr l2 = l2) (cl3 : wr l3 = l3) (cl4 : wr l4 = l4) (cl5 : wr l5 = l5) (cl6 : wr l6 = l6) (cl7 : wr l7 = l7) {σ : st_S}, L_X5_freeOn_19 Q n l1 l2 l3 l4 l5 l6 l7 σ → J X E 8 n0 0 0 (MQ (xB X) (qI E (n0 + 0) Q) (xA X) (xS X) 0 0 (eF E)) σ 19 [(0, vR E 42), (1, vI l1), (2, vI l2), (3, vI l3), (4, vI l4), (5, vI l5), (6, vI l6), (7, vI l7)] [] := ih
    replace h : (gI σ 25 0 ≤ l7 → Q l6 σ) ∧ (¬ gI σ 25 0 ≤ l7 → (o_and (o_shr l4 l7) 1 = 0 → B_X5_freeOn_77 Q (L_X5_freeOn_19 Q n) l1 l2 l3 l4 l5 l6 l7 σ) ∧ (¬ o_and (o_shr l4 l7) 1 = 0 → ix l7 10 ∧ (l1 < gI σ 43 (Int.toNat l7) → B_X5_freeOn_77 Q (L_X5_freeOn_19 Q n) l1 l2 l3 l4 l5 l6 l7 σ) ∧ (¬ l1 < gI σ 43 (Int.toNat l7) → wp_X3_bars l7 l3 l5 l2 σ (fun r17 s18 => (¬ r17 = 0 → B_X5_freeOn_77 Q (L_X5_freeOn_19 Q n) l1 l2 l3 l4 l5 l6 l7 s18) ∧ (r17 = 0 → ∀ x19 : Int, x19 = o_or l6 (o_shl 1 l7) → B_X5_freeOn_77 Q (L_X5_freeOn_19 Q n) l1 l2 l3 l4 l5 x19 l7 s18))))) := h
    refine j_iload hc 7 dX5_freeOn_19 rfl ?_
    refine j_aload_nR hc 0 dX5_freeOn_21 rfl rfl ?_
    refine j_getR (c' := 25) hc fl_RX5_39 rfl rfl (fun hv => (sv_k hv hm rfl)) dX5_freeOn_22 ?_
    refine j_getI hc fl_RX5_54 (Or.inl rfl) (fun hv => Or.inl (sv_k hv hm rfl)) dX5_freeOn_25 (fun cn14 => ?_)
    refine j_ic_ge hc cl7 cn14 (tgt := 83) dX5_freeOn_28 (by decide) (fun q23 => ?_) (fun q23 => ?_)
    · replace h := h.1 q23
      refine j_iload hc 6 dX5_freeOn_83 rfl ?_
      exact j_iret hc hr cl6 h dX5_freeOn_85
    · replace h := h.2 q23
      refine j_iload hc 4 dX5_freeOn_31 rfl ?_
      refine j_iload hc 7 dX5_freeOn_33 rfl ?_
      refine j_ishr hc dX5_freeOn_35 ?_
      refine j_iconst hc dX5_freeOn_36 ?_
      refine j_iand hc dX5_freeOn_37 ?_
      refine j_if_eq hc (cn_and _ _) (tgt := 77) dX5_freeOn_38 (by decide) (fun q22 => ?_) (fun q22 => ?_)
      · replace h := h.1 q22
        refine j_sub (lv' := [(0, vR E 42), (1, vI l1), (2, vI l2), (3, vI l3), (4, vI l4), (5, vI l5), (6, vI l6), (7, vI l7)]) [0, 1, 2, 3, 4, 5, 6, 7] rfl ?_
        exact jb_X5_freeOn_77 hc hm hr hh hk19 cl1 cl2 cl3 cl4 cl5 cl6 cl7 h
      · replace h := h.2 q22
        refine j_aload_nR hc 0 dX5_freeOn_41 rfl rfl ?_
        refine j_getR (c' := 43) hc fl_RX5_9 rfl rfl (fun hv => (sv_k hv hm rfl)) dX5_freeOn_42 ?_
        refine j_iload hc 7 dX5_freeOn_45 rfl ?_
        obtain ⟨b15, h⟩ := h
        refine j_iald (jn := (Int.toNat l7)) hc (fun hv => sv_kl hv hm rfl) cl7 b15 rfl dX5_freeOn_47 (fun cn16 => ?_)
        refine j_iload_n hc 1 dX5_freeOn_48 rfl rfl ?_
        refine j_ic_gt hc cn16 cl1 (tgt := 77) dX5_freeOn_49 (by decide) (fun q21 => ?_) (fun q21 => ?_)
        · replace h := h.1 q21
          refine j_sub (lv' := [(0, vR E 42), (1, vI l1), (2, vI l2), (3, vI l3), (4, vI l4), (5, vI l5), (6, vI l6), (7, vI l7)]) [0, 1, 2, 3, 4, 5, 6, 7] rfl ?_
          exact jb_X5_freeOn_77 hc hm hr hh hk19 cl1 cl2 cl3 cl4 cl5 cl6 cl7 h
        · replace h := h.2 q21
          refine j_aload_nR hc 0 dX5_freeOn_52 rfl rfl ?_
          refine j_getR (c' := 35) hc fl_RX5_43 rfl rfl (fun hv => (sv_k hv hm rfl)) dX5_freeOn_53 ?_
          refine j_iload hc 7 dX5_freeOn_56 rfl ?_
          refine j_iload_n hc 3 dX5_freeOn_58 rfl rfl ?_
          refine j_iload hc 5 dX5_freeOn_59 rfl ?_
          refine j_iload_n hc 2 dX5_freeOn_61 rfl rfl ?_
          refine j_vI hc (k := 3) (by decide) (fun hv => Or.inl (sv_k hv hm rfl)) ml_RX5_138 mv_X3_bars (As := [vI l7, vI l3, vI l5, vI l2]) (c_X3_bars (cx_E hc) hm cl7 cl3 cl5 cl2 h) rfl (by omega) (by decide) ⟨Nat.zero_le _, Nat.zero_le _⟩ (Nat.le_of_ble_eq_true rfl) rfl dX5_freeOn_62 (fun r17 s18 cr17 h => ?_)
          refine j_if_ne hc cr17 (tgt := 77) dX5_freeOn_65 (by decide) (fun q20 => ?_) (fun q20 => ?_)
          · replace h := h.1 q20
            refine j_sub (lv' := [(0, vR E 42), (1, vI l1), (2, vI l2), (3, vI l3), (4, vI l4), (5, vI l5), (6, vI l6), (7, vI l7)]) [0, 1, 2, 3, 4, 5, 6, 7] rfl ?_
            exact jb_X5_freeOn_77 hc hm hr hh hk19 cl1 cl2 cl3 cl4 cl5 cl6 cl7 h
          · replace h := h.2 q20
            refine j_iload hc 6 dX5_freeOn_68 rfl ?_
            refine j_iconst hc dX5_freeOn_70 ?_
            refine j_iload hc 7 dX5_freeOn_71 rfl ?_
            refine j_ishl hc dX5_freeOn_73 ?_
            refine j_ior hc dX5_freeOn_74 ?_
            refine j_c (cn_or _ _) (fun x19 ex19 cx19 => ?_)
            replace h := h x19 ex19
            refine j_istore (lv' := [(6, vI x19), (0, vR E 42), (1, vI l1), (2, vI l2), (3, vI l3), (4, vI l4), (5, vI l5), (7, vI l7)]) hc dX5_freeOn_75 (by decide) rfl ?_
            refine j_sub (lv' := [(0, vR E 42), (1, vI l1), (2, vI l2), (3, vI l3), (4, vI l4), (5, vI l5), (6, vI x19), (7, vI l7)]) [1, 2, 3, 4, 5, 6, 0, 7] rfl ?_
            exact jb_X5_freeOn_77 hc hm hr hh hk19 cl1 cl2 cl3 cl4 cl5 cx19 cl7 h
set_option maxRecDepth 20000 in
theorem c_X5_freeOn {l : Launch} {E : ev_E} (hE : Eok E) (hm : eM E = 1) {a1 : Int} {a2 : Int} {a3 : Int} {a4 : Int} (ca1 : wr a1 = a1) (ca2 : wr a2 = a2) (ca3 : wr a3 = a3) (ca4 : wr a4 = a4) {σ : st_S} {Q : Int → st_S → Prop} (h : wp_X5_freeOn a1 a2 a3 a4 σ Q) : cM l yX5_freeOn cX5_freeOn 8 (some .int) E 5 0 0 [vR E 42, vI a1, vI a2, vI a3, vI a4] σ (qI E (gN σ + 0) Q) := by
  refine cM_of (lv := [(0, vR E 42), (1, vI a1), (2, vI a2), (3, vI a3), (4, vI a4)]) (by decide) hE (Nat.le_of_ble_eq_true rfl) (rfl) ?_
  intro X hX hc _ _ hr _ _
  subst hX
  have hh : 5 ≤ 5 := Nat.le_refl _
  have hh1 : 1 ≤ 5 := by omega
  replace h : ∀ x25 : Int, x25 = wr (gI σ 33 0 + a1) → ∃ m19 : Nat, L_X5_freeOn_19 Q m19 a1 a2 a3 a4 x25 0 0 σ := h
  refine j_aload_nR hc 0 dX5_freeOn_0 rfl rfl ?_
  refine j_getR (c' := 25) hc fl_RX5_39 rfl rfl (fun hv => (sv_k hv hm rfl)) dX5_freeOn_1 ?_
  refine j_getR (c' := 33) hc fl_RX5_72 rfl rfl (fun hv => (sv_k hv hm rfl)) dX5_freeOn_4 ?_
  refine j_iconst hc dX5_freeOn_7 ?_
  refine j_iald (jn := 0) hc (fun hv => sv_kl hv hm rfl) (wlit 0 (by decide)) ⟨by decide, by decide⟩ rfl dX5_freeOn_8 (fun cn24 => ?_)
  refine j_iload_n hc 1 dX5_freeOn_9 rfl rfl ?_
  refine j_iadd hc dX5_freeOn_10 ?_
  refine j_w (fun x25 ex25 cx25 => ?_)
  replace h := h x25 ex25
  refine j_istore (lv' := [(5, vI x25), (0, vR E 42), (1, vI a1), (2, vI a2), (3, vI a3), (4, vI a4)]) hc dX5_freeOn_11 (by decide) rfl ?_
  refine j_iconst hc dX5_freeOn_13 ?_
  refine j_istore (lv' := [(6, vI 0), (5, vI x25), (0, vR E 42), (1, vI a1), (2, vI a2), (3, vI a3), (4, vI a4)]) hc dX5_freeOn_14 (by decide) rfl ?_
  refine j_iconst hc dX5_freeOn_16 ?_
  refine j_istore (lv' := [(7, vI 0), (6, vI 0), (5, vI x25), (0, vR E 42), (1, vI a1), (2, vI a2), (3, vI a3), (4, vI a4)]) hc dX5_freeOn_17 (by decide) rfl ?_
  obtain ⟨n19, h⟩ := h
  refine j_sub (lv' := [(0, vR E 42), (1, vI a1), (2, vI a2), (3, vI a3), (4, vI a4), (5, vI x25), (6, vI 0), (7, vI 0)]) [3, 4, 5, 6, 7, 2, 1, 0] rfl ?_
  exact jl_X5_freeOn_19 hc hm hr hh n19 ca1 ca2 ca3 ca4 cx25 (wlit 0 (by decide)) (wlit 0 (by decide)) h
-- LitStrangers$Paper.nightOf(I)I
theorem dX5_nightOf_0 : decode cX5_nightOf 0 = .ok (.aload_n 0, 1) := by decide +kernel
theorem dX5_nightOf_1 : decode cX5_nightOf 1 = .ok (.getfield 39, 3) := by decide +kernel
theorem dX5_nightOf_4 : decode cX5_nightOf 4 = .ok (.getfield 63, 3) := by decide +kernel
theorem dX5_nightOf_7 : decode cX5_nightOf 7 = .ok (.iload_n 1, 1) := by decide +kernel
theorem dX5_nightOf_8 : decode cX5_nightOf 8 = .ok (.iaload, 1) := by decide +kernel
theorem dX5_nightOf_9 : decode cX5_nightOf 9 = .ok (.tableswitch 58 0 2 #[27, 36, 56], 27) := by decide +kernel
theorem dX5_nightOf_36 : decode cX5_nightOf 36 = .ok (.aload_n 0, 1) := by decide +kernel
theorem dX5_nightOf_37 : decode cX5_nightOf 37 = .ok (.getfield 43, 3) := by decide +kernel
theorem dX5_nightOf_40 : decode cX5_nightOf 40 = .ok (.iload_n 1, 1) := by decide +kernel
theorem dX5_nightOf_41 : decode cX5_nightOf 41 = .ok (.invokevirtual 124, 3) := by decide +kernel
theorem dX5_nightOf_44 : decode cX5_nightOf 44 = .ok (.ireturn, 1) := by decide +kernel
theorem dX5_nightOf_45 : decode cX5_nightOf 45 = .ok (.aload_n 0, 1) := by decide +kernel
theorem dX5_nightOf_46 : decode cX5_nightOf 46 = .ok (.getfield 39, 3) := by decide +kernel
theorem dX5_nightOf_49 : decode cX5_nightOf 49 = .ok (.getfield 127, 3) := by decide +kernel
theorem dX5_nightOf_52 : decode cX5_nightOf 52 = .ok (.iload_n 1, 1) := by decide +kernel
theorem dX5_nightOf_53 : decode cX5_nightOf 53 = .ok (.iaload, 1) := by decide +kernel
theorem dX5_nightOf_54 : decode cX5_nightOf 54 = .ok (.aload_n 0, 1) := by decide +kernel
theorem dX5_nightOf_55 : decode cX5_nightOf 55 = .ok (.getfield 39, 3) := by decide +kernel
theorem dX5_nightOf_58 : decode cX5_nightOf 58 = .ok (.getfield 72, 3) := by decide +kernel
theorem dX5_nightOf_61 : decode cX5_nightOf 61 = .ok (.iconst 0, 1) := by decide +kernel
theorem dX5_nightOf_62 : decode cX5_nightOf 62 = .ok (.iaload, 1) := by decide +kernel
theorem dX5_nightOf_63 : decode cX5_nightOf 63 = .ok (.isub, 1) := by decide +kernel
theorem dX5_nightOf_64 : decode cX5_nightOf 64 = .ok (.ireturn, 1) := by decide +kernel
theorem dX5_nightOf_65 : decode cX5_nightOf 65 = .ok (.iconst 0, 1) := by decide +kernel
theorem dX5_nightOf_66 : decode cX5_nightOf 66 = .ok (.ireturn, 1) := by decide +kernel
theorem dX5_nightOf_67 : decode cX5_nightOf 67 = .ok (.ldc 130, 2) := by decide +kernel
theorem dX5_nightOf_69 : decode cX5_nightOf 69 = .ok (.ireturn, 1) := by decide +kernel
def wp_X5_nightOf (a1 : Int) (σ : st_S) (Q : Int → st_S → Prop) : Prop := ix a1 10 ∧ (gI σ 29 (Int.toNat a1) = 0 → wp_X3_takes a1 σ (fun r11 s12 => Q r11 s12)) ∧ (gI σ 29 (Int.toNat a1) = 1 → ix a1 10 ∧ Q (wr (gI σ 30 (Int.toNat a1) - gI σ 33 0)) σ) ∧ (gI σ 29 (Int.toNat a1) = 2 → Q 0 σ) ∧ (gI σ 29 (Int.toNat a1) < 0 ∨ 2 < gI σ 29 (Int.toNat a1) → Q 1000000 σ)
set_option maxRecDepth 20000 in
theorem c_X5_nightOf {l : Launch} {E : ev_E} (hE : Eok E) (hm : eM E = 1) {a1 : Int} (ca1 : wr a1 = a1) {σ : st_S} {Q : Int → st_S → Prop} (h : wp_X5_nightOf a1 σ Q) : cM l yX5_nightOf cX5_nightOf 2 (some .int) E 5 0 0 [vR E 42, vI a1] σ (qI E (gN σ + 0) Q) := by
  refine cM_of (lv := [(0, vR E 42), (1, vI a1)]) (by decide) hE (Nat.le_of_ble_eq_true rfl) (rfl) ?_
  intro X hX hc _ _ hr _ _
  subst hX
  have hh : 5 ≤ 5 := Nat.le_refl _
  have hh1 : 1 ≤ 5 := by omega
  replace h : ix a1 10 ∧ (gI σ 29 (Int.toNat a1) = 0 → wp_X3_takes a1 σ (fun r11 s12 => Q r11 s12)) ∧ (gI σ 29 (Int.toNat a1) = 1 → ix a1 10 ∧ Q (wr (gI σ 30 (Int.toNat a1) - gI σ 33 0)) σ) ∧ (gI σ 29 (Int.toNat a1) = 2 → Q 0 σ) ∧ (gI σ 29 (Int.toNat a1) < 0 ∨ 2 < gI σ 29 (Int.toNat a1) → Q 1000000 σ) := h
  refine j_aload_nR hc 0 dX5_nightOf_0 rfl rfl ?_
  refine j_getR (c' := 25) hc fl_RX5_39 rfl rfl (fun hv => (sv_k hv hm rfl)) dX5_nightOf_1 ?_
  refine j_getR (c' := 29) hc fl_RX5_63 rfl rfl (fun hv => (sv_k hv hm rfl)) dX5_nightOf_4 ?_
  refine j_iload_n hc 1 dX5_nightOf_7 rfl rfl ?_
  obtain ⟨b9, h⟩ := h
  refine j_iald (jn := (Int.toNat a1)) hc (fun hv => sv_kl hv hm rfl) ca1 b9 rfl dX5_nightOf_8 (fun cn10 => ?_)
  rcases Decidable.em (gI σ 29 (Int.toNat a1) = 0) with q0 | q0
  · replace h := h.1 q0
    refine j_ts (tgt := 36) (off := 27) hc cn10 dX5_nightOf_9 0 q0 (by decide) (by decide) (by decide) (by decide) ?_
    refine j_aload_nR hc 0 dX5_nightOf_36 rfl rfl ?_
    refine j_getR (c' := 35) hc fl_RX5_43 rfl rfl (fun hv => (sv_k hv hm rfl)) dX5_nightOf_37 ?_
    refine j_iload_n hc 1 dX5_nightOf_40 rfl rfl ?_
    refine j_vI hc (k := 3) (by decide) (fun hv => Or.inl (sv_k hv hm rfl)) ml_RX5_124 mv_X3_takes (As := [vI a1]) (c_X3_takes (cx_E hc) hm ca1 h) rfl (by omega) (by decide) ⟨Nat.zero_le _, Nat.zero_le _⟩ (Nat.le_of_ble_eq_true rfl) rfl dX5_nightOf_41 (fun r11 s12 cr11 h => ?_)
    exact j_iret hc hr cr11 h dX5_nightOf_44
  · rcases Decidable.em (gI σ 29 (Int.toNat a1) = 1) with q1 | q1
    · replace h := h.2.1 q1
      refine j_ts (tgt := 45) (off := 36) hc cn10 dX5_nightOf_9 1 q1 (by decide) (by decide) (by decide) (by decide) ?_
      refine j_aload_nR hc 0 dX5_nightOf_45 rfl rfl ?_
      refine j_getR (c' := 25) hc fl_RX5_39 rfl rfl (fun hv => (sv_k hv hm rfl)) dX5_nightOf_46 ?_
      refine j_getR (c' := 30) hc fl_RX5_127 rfl rfl (fun hv => (sv_k hv hm rfl)) dX5_nightOf_49 ?_
      refine j_iload_n hc 1 dX5_nightOf_52 rfl rfl ?_
      obtain ⟨b13, h⟩ := h
      refine j_iald (jn := (Int.toNat a1)) hc (fun hv => sv_kl hv hm rfl) ca1 b13 rfl dX5_nightOf_53 (fun cn14 => ?_)
      refine j_aload_nR hc 0 dX5_nightOf_54 rfl rfl ?_
      refine j_getR (c' := 25) hc fl_RX5_39 rfl rfl (fun hv => (sv_k hv hm rfl)) dX5_nightOf_55 ?_
      refine j_getR (c' := 33) hc fl_RX5_72 rfl rfl (fun hv => (sv_k hv hm rfl)) dX5_nightOf_58 ?_
      refine j_iconst hc dX5_nightOf_61 ?_
      refine j_iald (jn := 0) hc (fun hv => sv_kl hv hm rfl) (wlit 0 (by decide)) ⟨by decide, by decide⟩ rfl dX5_nightOf_62 (fun cn15 => ?_)
      refine j_isub hc dX5_nightOf_63 ?_
      refine j_w (fun y ey cy => ?_)
      subst ey
      exact j_iret hc hr cy h dX5_nightOf_64
    · rcases Decidable.em (gI σ 29 (Int.toNat a1) = 2) with q2 | q2
      · replace h := h.2.2.1 q2
        refine j_ts (tgt := 65) (off := 56) hc cn10 dX5_nightOf_9 2 q2 (by decide) (by decide) (by decide) (by decide) ?_
        refine j_iconst hc dX5_nightOf_65 ?_
        exact j_iret hc hr (wlit 0 (by decide)) h dX5_nightOf_66
      · have qd : gI σ 29 (Int.toNat a1) < 0 ∨ 2 < gI σ 29 (Int.toNat a1) := by omega
        replace h := h.2.2.2 qd
        refine j_td (tgt := 67) hc cn10 dX5_nightOf_9 qd (by decide) ?_
        refine j_ldc (x := 1000000) hc (by decide) kc_RX5_130 dX5_nightOf_67 ?_
        exact j_iret hc hr (wlit 1000000 (by decide)) h dX5_nightOf_69
-- LitStrangers$Paper.prepare()V
theorem dX5_prepare_0 : decode cX5_prepare 0 = .ok (.aload_n 0, 1) := by decide +kernel
theorem dX5_prepare_1 : decode cX5_prepare 1 = .ok (.iconst 0, 1) := by decide +kernel
theorem dX5_prepare_2 : decode cX5_prepare 2 = .ok (.putfield 47, 3) := by decide +kernel
theorem dX5_prepare_5 : decode cX5_prepare 5 = .ok (.aload_n 0, 1) := by decide +kernel
theorem dX5_prepare_6 : decode cX5_prepare 6 = .ok (.iconst 0, 1) := by decide +kernel
theorem dX5_prepare_7 : decode cX5_prepare 7 = .ok (.putfield 51, 3) := by decide +kernel
theorem dX5_prepare_10 : decode cX5_prepare 10 = .ok (.iconst 0, 1) := by decide +kernel
theorem dX5_prepare_11 : decode cX5_prepare 11 = .ok (.istore_n 1, 1) := by decide +kernel
theorem dX5_prepare_12 : decode cX5_prepare 12 = .ok (.iload_n 1, 1) := by decide +kernel
theorem dX5_prepare_13 : decode cX5_prepare 13 = .ok (.aload_n 0, 1) := by decide +kernel
theorem dX5_prepare_14 : decode cX5_prepare 14 = .ok (.getfield 39, 3) := by decide +kernel
theorem dX5_prepare_17 : decode cX5_prepare 17 = .ok (.getfield 54, 3) := by decide +kernel
theorem dX5_prepare_20 : decode cX5_prepare 20 = .ok (.if_icmp .ge 102, 3) := by decide +kernel
theorem dX5_prepare_23 : decode cX5_prepare 23 = .ok (.aload_n 0, 1) := by decide +kernel
theorem dX5_prepare_24 : decode cX5_prepare 24 = .ok (.getfield 9, 3) := by decide +kernel
theorem dX5_prepare_27 : decode cX5_prepare 27 = .ok (.iload_n 1, 1) := by decide +kernel
theorem dX5_prepare_28 : decode cX5_prepare 28 = .ok (.aload_n 0, 1) := by decide +kernel
theorem dX5_prepare_29 : decode cX5_prepare 29 = .ok (.iload_n 1, 1) := by decide +kernel
theorem dX5_prepare_30 : decode cX5_prepare 30 = .ok (.invokevirtual 59, 3) := by decide +kernel
theorem dX5_prepare_33 : decode cX5_prepare 33 = .ok (.iastore, 1) := by decide +kernel
theorem dX5_prepare_34 : decode cX5_prepare 34 = .ok (.aload_n 0, 1) := by decide +kernel
theorem dX5_prepare_35 : decode cX5_prepare 35 = .ok (.getfield 39, 3) := by decide +kernel
theorem dX5_prepare_38 : decode cX5_prepare 38 = .ok (.getfield 63, 3) := by decide +kernel
theorem dX5_prepare_41 : decode cX5_prepare 41 = .ok (.iload_n 1, 1) := by decide +kernel
theorem dX5_prepare_42 : decode cX5_prepare 42 = .ok (.iaload, 1) := by decide +kernel
theorem dX5_prepare_43 : decode cX5_prepare 43 = .ok (.iconst 3, 1) := by decide +kernel
theorem dX5_prepare_44 : decode cX5_prepare 44 = .ok (.if_icmp .eq 15, 3) := by decide +kernel
theorem dX5_prepare_47 : decode cX5_prepare 47 = .ok (.aload_n 0, 1) := by decide +kernel
theorem dX5_prepare_48 : decode cX5_prepare 48 = .ok (.dup, 1) := by decide +kernel
theorem dX5_prepare_49 : decode cX5_prepare 49 = .ok (.getfield 47, 3) := by decide +kernel
theorem dX5_prepare_52 : decode cX5_prepare 52 = .ok (.iconst 1, 1) := by decide +kernel
theorem dX5_prepare_53 : decode cX5_prepare 53 = .ok (.iload_n 1, 1) := by decide +kernel
theorem dX5_prepare_54 : decode cX5_prepare 54 = .ok (.ishl, 1) := by decide +kernel
theorem dX5_prepare_55 : decode cX5_prepare 55 = .ok (.ior, 1) := by decide +kernel
theorem dX5_prepare_56 : decode cX5_prepare 56 = .ok (.putfield 47, 3) := by decide +kernel
theorem dX5_prepare_59 : decode cX5_prepare 59 = .ok (.aload_n 0, 1) := by decide +kernel
theorem dX5_prepare_60 : decode cX5_prepare 60 = .ok (.getfield 39, 3) := by decide +kernel
theorem dX5_prepare_63 : decode cX5_prepare 63 = .ok (.getfield 66, 3) := by decide +kernel
theorem dX5_prepare_66 : decode cX5_prepare 66 = .ok (.iload_n 1, 1) := by decide +kernel
theorem dX5_prepare_67 : decode cX5_prepare 67 = .ok (.iaload, 1) := by decide +kernel
theorem dX5_prepare_68 : decode cX5_prepare 68 = .ok (.ifCond .le 15, 3) := by decide +kernel
theorem dX5_prepare_71 : decode cX5_prepare 71 = .ok (.aload_n 0, 1) := by decide +kernel
theorem dX5_prepare_72 : decode cX5_prepare 72 = .ok (.dup, 1) := by decide +kernel
theorem dX5_prepare_73 : decode cX5_prepare 73 = .ok (.getfield 51, 3) := by decide +kernel
theorem dX5_prepare_76 : decode cX5_prepare 76 = .ok (.iconst 1, 1) := by decide +kernel
theorem dX5_prepare_77 : decode cX5_prepare 77 = .ok (.iload_n 1, 1) := by decide +kernel
theorem dX5_prepare_78 : decode cX5_prepare 78 = .ok (.ishl, 1) := by decide +kernel
theorem dX5_prepare_79 : decode cX5_prepare 79 = .ok (.ior, 1) := by decide +kernel
theorem dX5_prepare_80 : decode cX5_prepare 80 = .ok (.putfield 51, 3) := by decide +kernel
theorem dX5_prepare_83 : decode cX5_prepare 83 = .ok (.aload_n 0, 1) := by decide +kernel
theorem dX5_prepare_84 : decode cX5_prepare 84 = .ok (.getfield 39, 3) := by decide +kernel
theorem dX5_prepare_87 : decode cX5_prepare 87 = .ok (.getfield 66, 3) := by decide +kernel
theorem dX5_prepare_90 : decode cX5_prepare 90 = .ok (.iload_n 1, 1) := by decide +kernel
theorem dX5_prepare_91 : decode cX5_prepare 91 = .ok (.iaload, 1) := by decide +kernel
theorem dX5_prepare_92 : decode cX5_prepare 92 = .ok (.iconst 2, 1) := by decide +kernel
theorem dX5_prepare_93 : decode cX5_prepare 93 = .ok (.if_icmp .lt 18, 3) := by decide +kernel
theorem dX5_prepare_96 : decode cX5_prepare 96 = .ok (.aload_n 0, 1) := by decide +kernel
theorem dX5_prepare_97 : decode cX5_prepare 97 = .ok (.dup, 1) := by decide +kernel
theorem dX5_prepare_98 : decode cX5_prepare 98 = .ok (.getfield 51, 3) := by decide +kernel
theorem dX5_prepare_101 : decode cX5_prepare 101 = .ok (.iconst 1, 1) := by decide +kernel
theorem dX5_prepare_102 : decode cX5_prepare 102 = .ok (.iload_n 1, 1) := by decide +kernel
theorem dX5_prepare_103 : decode cX5_prepare 103 = .ok (.bipush 10, 2) := by decide +kernel
theorem dX5_prepare_105 : decode cX5_prepare 105 = .ok (.iadd, 1) := by decide +kernel
theorem dX5_prepare_106 : decode cX5_prepare 106 = .ok (.ishl, 1) := by decide +kernel
theorem dX5_prepare_107 : decode cX5_prepare 107 = .ok (.ior, 1) := by decide +kernel
theorem dX5_prepare_108 : decode cX5_prepare 108 = .ok (.putfield 51, 3) := by decide +kernel
theorem dX5_prepare_111 : decode cX5_prepare 111 = .ok (.aload_n 0, 1) := by decide +kernel
theorem dX5_prepare_112 : decode cX5_prepare 112 = .ok (.iload_n 1, 1) := by decide +kernel
theorem dX5_prepare_113 : decode cX5_prepare 113 = .ok (.invokevirtual 68, 3) := by decide +kernel
theorem dX5_prepare_116 : decode cX5_prepare 116 = .ok (.iinc 1 1, 3) := by decide +kernel
theorem dX5_prepare_119 : decode cX5_prepare 119 = .ok (.goto (-107), 3) := by decide +kernel
theorem dX5_prepare_122 : decode cX5_prepare 122 = .ok (.iconst 0, 1) := by decide +kernel
theorem dX5_prepare_123 : decode cX5_prepare 123 = .ok (.istore_n 1, 1) := by decide +kernel
theorem dX5_prepare_124 : decode cX5_prepare 124 = .ok (.iload_n 1, 1) := by decide +kernel
theorem dX5_prepare_125 : decode cX5_prepare 125 = .ok (.aload_n 0, 1) := by decide +kernel
theorem dX5_prepare_126 : decode cX5_prepare 126 = .ok (.getfield 39, 3) := by decide +kernel
theorem dX5_prepare_129 : decode cX5_prepare 129 = .ok (.getfield 54, 3) := by decide +kernel
theorem dX5_prepare_132 : decode cX5_prepare 132 = .ok (.if_icmp .ge 100, 3) := by decide +kernel
theorem dX5_prepare_135 : decode cX5_prepare 135 = .ok (.aload_n 0, 1) := by decide +kernel
theorem dX5_prepare_136 : decode cX5_prepare 136 = .ok (.getfield 39, 3) := by decide +kernel
theorem dX5_prepare_139 : decode cX5_prepare 139 = .ok (.aload_n 0, 1) := by decide +kernel
theorem dX5_prepare_140 : decode cX5_prepare 140 = .ok (.getfield 39, 3) := by decide +kernel
theorem dX5_prepare_143 : decode cX5_prepare 143 = .ok (.getfield 72, 3) := by decide +kernel
theorem dX5_prepare_146 : decode cX5_prepare 146 = .ok (.iconst 0, 1) := by decide +kernel
theorem dX5_prepare_147 : decode cX5_prepare 147 = .ok (.iaload, 1) := by decide +kernel
theorem dX5_prepare_148 : decode cX5_prepare 148 = .ok (.iload_n 1, 1) := by decide +kernel
theorem dX5_prepare_149 : decode cX5_prepare 149 = .ok (.iadd, 1) := by decide +kernel
theorem dX5_prepare_150 : decode cX5_prepare 150 = .ok (.invokevirtual 75, 3) := by decide +kernel
theorem dX5_prepare_153 : decode cX5_prepare 153 = .ok (.istore_n 2, 1) := by decide +kernel
theorem dX5_prepare_154 : decode cX5_prepare 154 = .ok (.aload_n 0, 1) := by decide +kernel
theorem dX5_prepare_155 : decode cX5_prepare 155 = .ok (.getfield 24, 3) := by decide +kernel
theorem dX5_prepare_158 : decode cX5_prepare 158 = .ok (.iload_n 1, 1) := by decide +kernel
theorem dX5_prepare_159 : decode cX5_prepare 159 = .ok (.iload_n 2, 1) := by decide +kernel
theorem dX5_prepare_160 : decode cX5_prepare 160 = .ok (.invokestatic 78, 3) := by decide +kernel
theorem dX5_prepare_163 : decode cX5_prepare 163 = .ok (.iastore, 1) := by decide +kernel
theorem dX5_prepare_164 : decode cX5_prepare 164 = .ok (.aload_n 0, 1) := by decide +kernel
theorem dX5_prepare_165 : decode cX5_prepare 165 = .ok (.getfield 27, 3) := by decide +kernel
theorem dX5_prepare_168 : decode cX5_prepare 168 = .ok (.iload_n 1, 1) := by decide +kernel
theorem dX5_prepare_169 : decode cX5_prepare 169 = .ok (.aload_n 0, 1) := by decide +kernel
theorem dX5_prepare_170 : decode cX5_prepare 170 = .ok (.iload_n 1, 1) := by decide +kernel
theorem dX5_prepare_171 : decode cX5_prepare 171 = .ok (.invokevirtual 81, 3) := by decide +kernel
theorem dX5_prepare_174 : decode cX5_prepare 174 = .ok (.iastore, 1) := by decide +kernel
theorem dX5_prepare_175 : decode cX5_prepare 175 = .ok (.aload_n 0, 1) := by decide +kernel
theorem dX5_prepare_176 : decode cX5_prepare 176 = .ok (.getfield 30, 3) := by decide +kernel
theorem dX5_prepare_179 : decode cX5_prepare 179 = .ok (.iload_n 1, 1) := by decide +kernel
theorem dX5_prepare_180 : decode cX5_prepare 180 = .ok (.aload_n 0, 1) := by decide +kernel
theorem dX5_prepare_181 : decode cX5_prepare 181 = .ok (.iload_n 1, 1) := by decide +kernel
theorem dX5_prepare_182 : decode cX5_prepare 182 = .ok (.iload_n 2, 1) := by decide +kernel
theorem dX5_prepare_183 : decode cX5_prepare 183 = .ok (.iconst 0, 1) := by decide +kernel
theorem dX5_prepare_184 : decode cX5_prepare 184 = .ok (.aload_n 0, 1) := by decide +kernel
theorem dX5_prepare_185 : decode cX5_prepare 185 = .ok (.getfield 47, 3) := by decide +kernel
theorem dX5_prepare_188 : decode cX5_prepare 188 = .ok (.aload_n 0, 1) := by decide +kernel
theorem dX5_prepare_189 : decode cX5_prepare 189 = .ok (.getfield 51, 3) := by decide +kernel
theorem dX5_prepare_192 : decode cX5_prepare 192 = .ok (.iconst (-1), 1) := by decide +kernel
theorem dX5_prepare_193 : decode cX5_prepare 193 = .ok (.ixor, 1) := by decide +kernel
theorem dX5_prepare_194 : decode cX5_prepare 194 = .ok (.iand, 1) := by decide +kernel
theorem dX5_prepare_195 : decode cX5_prepare 195 = .ok (.invokevirtual 84, 3) := by decide +kernel
theorem dX5_prepare_198 : decode cX5_prepare 198 = .ok (.iastore, 1) := by decide +kernel
theorem dX5_prepare_199 : decode cX5_prepare 199 = .ok (.aload_n 0, 1) := by decide +kernel
theorem dX5_prepare_200 : decode cX5_prepare 200 = .ok (.getfield 33, 3) := by decide +kernel
theorem dX5_prepare_203 : decode cX5_prepare 203 = .ok (.iload_n 1, 1) := by decide +kernel
theorem dX5_prepare_204 : decode cX5_prepare 204 = .ok (.aload_n 0, 1) := by decide +kernel
theorem dX5_prepare_205 : decode cX5_prepare 205 = .ok (.iload_n 1, 1) := by decide +kernel
theorem dX5_prepare_206 : decode cX5_prepare 206 = .ok (.iload_n 2, 1) := by decide +kernel
theorem dX5_prepare_207 : decode cX5_prepare 207 = .ok (.iconst 1, 1) := by decide +kernel
theorem dX5_prepare_208 : decode cX5_prepare 208 = .ok (.aload_n 0, 1) := by decide +kernel
theorem dX5_prepare_209 : decode cX5_prepare 209 = .ok (.getfield 47, 3) := by decide +kernel
theorem dX5_prepare_212 : decode cX5_prepare 212 = .ok (.aload_n 0, 1) := by decide +kernel
theorem dX5_prepare_213 : decode cX5_prepare 213 = .ok (.getfield 51, 3) := by decide +kernel
theorem dX5_prepare_216 : decode cX5_prepare 216 = .ok (.bipush 10, 2) := by decide +kernel
theorem dX5_prepare_218 : decode cX5_prepare 218 = .ok (.ishr, 1) := by decide +kernel
theorem dX5_prepare_219 : decode cX5_prepare 219 = .ok (.iconst (-1), 1) := by decide +kernel
theorem dX5_prepare_220 : decode cX5_prepare 220 = .ok (.ixor, 1) := by decide +kernel
theorem dX5_prepare_221 : decode cX5_prepare 221 = .ok (.iand, 1) := by decide +kernel
theorem dX5_prepare_222 : decode cX5_prepare 222 = .ok (.invokevirtual 84, 3) := by decide +kernel
theorem dX5_prepare_225 : decode cX5_prepare 225 = .ok (.iastore, 1) := by decide +kernel
theorem dX5_prepare_226 : decode cX5_prepare 226 = .ok (.iinc 1 1, 3) := by decide +kernel
theorem dX5_prepare_229 : decode cX5_prepare 229 = .ok (.goto (-105), 3) := by decide +kernel
theorem dX5_prepare_232 : decode cX5_prepare 232 = .ok (.return_, 1) := by decide +kernel
def B_X5_prepare_111 (Q : st_S → Prop)  (k12 : Int → st_S → Prop) (l1 : Int) (σ : st_S) : Prop := wp_X5_askSpoils l1 σ (fun s63 => ∀ x64 : Int, x64 = wr (l1 + 1) → k12 x64 s63)
def B_X5_prepare_83 (Q : st_S → Prop)  (k12 : Int → st_S → Prop) (l1 : Int) (σ : st_S) : Prop := ix l1 10 ∧ (gI σ 28 (Int.toNat l1) < 2 → B_X5_prepare_111 Q k12 l1 σ) ∧ (¬ gI σ 28 (Int.toNat l1) < 2 → ∀ s68 : st_S, s68 = sI σ 42 1 (o_or (gI σ 42 1) (o_shl 1 (l1 + 10))) → B_X5_prepare_111 Q k12 l1 s68)
def B_X5_prepare_59 (Q : st_S → Prop)  (k12 : Int → st_S → Prop) (l1 : Int) (σ : st_S) : Prop := ix l1 10 ∧ (gI σ 28 (Int.toNat l1) ≤ 0 → B_X5_prepare_83 Q k12 l1 σ) ∧ (¬ gI σ 28 (Int.toNat l1) ≤ 0 → ∀ s73 : st_S, s73 = sI σ 42 1 (o_or (gI σ 42 1) (o_shl 1 l1)) → B_X5_prepare_83 Q k12 l1 s73)
def L_X5_prepare_124 (Q : st_S → Prop)   : Nat → Int → st_S → Prop
  | 0 => fun _ _ => False
  | n + 1 => fun l1 σ => (gI σ 25 0 ≤ l1 → Q σ) ∧ (¬ gI σ 25 0 ≤ l1 → wp_X1_fogOn (wr (gI σ 33 0 + l1)) σ (fun r77 s78 => wp_X5_wanted r77 s78 (fun r79 s80 => ix l1 10 ∧ ∀ s82 : st_S, s82 = sI s80 47 (Int.toNat l1) r79 → wp_X5_comeBy l1 s82 (fun r83 s84 => ix l1 10 ∧ ∀ s86 : st_S, s86 = sI s84 48 (Int.toNat l1) r83 → wp_X5_freeOn l1 r77 0 (o_and (gI s86 42 0) (o_xor (gI s86 42 1) (-1))) s86 (fun r89 s90 => ix l1 10 ∧ ∀ s92 : st_S, s92 = sI s90 49 (Int.toNat l1) r89 → wp_X5_freeOn l1 r77 1 (o_and (gI s92 42 0) (o_xor (o_shr (gI s92 42 1) 10) (-1))) s92 (fun r95 s96 => ix l1 10 ∧ ∀ s98 : st_S, s98 = sI s96 50 (Int.toNat l1) r95 → ∀ x99 : Int, x99 = wr (l1 + 1) → (L_X5_prepare_124 Q n) x99 s98))))))
def L_X5_prepare_12 (Q : st_S → Prop)   : Nat → Int → st_S → Prop
  | 0 => fun _ _ => False
  | n + 1 => fun l1 σ => (gI σ 25 0 ≤ l1 → ∃ m124 : Nat, L_X5_prepare_124 Q m124 0 σ) ∧ (¬ gI σ 25 0 ≤ l1 → wp_X5_nightOf l1 σ (fun r102 s103 => ix l1 10 ∧ ∀ s105 : st_S, s105 = sI s103 43 (Int.toNat l1) r102 → ix l1 10 ∧ (gI s105 29 (Int.toNat l1) = 3 → B_X5_prepare_59 Q (L_X5_prepare_12 Q n) l1 s105) ∧ (¬ gI s105 29 (Int.toNat l1) = 3 → ∀ s109 : st_S, s109 = sI s105 42 0 (o_or (gI s105 42 0) (o_shl 1 l1)) → B_X5_prepare_59 Q (L_X5_prepare_12 Q n) l1 s109)))
def wp_X5_prepare  (σ : st_S) (Q : st_S → Prop) : Prop := ∀ s112 : st_S, s112 = sI σ 42 0 0 → ∀ s113 : st_S, s113 = sI s112 42 1 0 → ∃ m12 : Nat, L_X5_prepare_12 Q m12 0 s113
set_option maxRecDepth 20000 in
theorem jb_X5_prepare_111 {X : jj_X} {E : ev_E} {n0 hN : Nat} (hc : Cx X E cX5_prepare 3 n0 hN RX5) (hm : eM E = 1) (hr : (xT X).sig.returnType = none) (hh : 6 ≤ hN) {Q : st_S → Prop} {k12 : Int → st_S → Prop} (hk12 : ∀ {l1 : Int} (cl1 : wr l1 = l1) {σ : st_S}, k12 l1 σ → J X E 3 n0 0 0 (MQ (xB X) (qV E (n0 + 0) Q) (xA X) (xS X) 0 0 (eF E)) σ 12 [(0, vR E 42), (1, vI l1)] []) {l1 : Int} (cl1 : wr l1 = l1) {σ : st_S} (h : B_X5_prepare_111 Q k12 l1 σ) : J X E 3 n0 0 0 (MQ (xB X) (qV E (n0 + 0) Q) (xA X) (xS X) 0 0 (eF E)) σ 111 [(0, vR E 42), (1, vI l1)] [] := by
  have hh1 : 1 ≤ hN := by omega
  replace h : wp_X5_askSpoils l1 σ (fun s63 => ∀ x64 : Int, x64 = wr (l1 + 1) → k12 x64 s63) := h
  refine j_aload_nR hc 0 dX5_prepare_111 rfl rfl ?_
  refine j_iload_n hc 1 dX5_prepare_112 rfl rfl ?_
  refine j_vV hc (k := 5) (by decide) (fun hv => Or.inl (sv_k hv hm rfl)) ml_RX5_68 mv_X5_askSpoils (As := [vI l1]) (c_X5_askSpoils (cx_E hc) hm cl1 h) rfl (by omega) (by decide) ⟨Nat.zero_le _, Nat.zero_le _⟩ (Nat.le_of_ble_eq_true rfl) rfl dX5_prepare_113 (fun s63 h => ?_)
  obtain ⟨x64, ex64⟩ : ∃ y : Int, y = wr (l1 + 1) := ⟨_, rfl⟩
  have cx64 : wr x64 = x64 := by rw [ex64]; exact wr_wr _
  replace h := h x64 ex64
  refine j_iinc (lv' := [(1, vI x64), (0, vR E 42)]) hc 1 dX5_prepare_116 rfl (by decide) ex64 rfl ?_
  refine j_goto (tgt := 12) hc dX5_prepare_119 (by decide) ?_
  refine j_sub (lv' := [(0, vR E 42), (1, vI x64)]) [1, 0] rfl ?_
  exact hk12 cx64 h
set_option maxRecDepth 20000 in
theorem jb_X5_prepare_83 {X : jj_X} {E : ev_E} {n0 hN : Nat} (hc : Cx X E cX5_prepare 3 n0 hN RX5) (hm : eM E = 1) (hr : (xT X).sig.returnType = none) (hh : 6 ≤ hN) {Q : st_S → Prop} {k12 : Int → st_S → Prop} (hk12 : ∀ {l1 : Int} (cl1 : wr l1 = l1) {σ : st_S}, k12 l1 σ → J X E 3 n0 0 0 (MQ (xB X) (qV E (n0 + 0) Q) (xA X) (xS X) 0 0 (eF E)) σ 12 [(0, vR E 42), (1, vI l1)] []) {l1 : Int} (cl1 : wr l1 = l1) {σ : st_S} (h : B_X5_prepare_83 Q k12 l1 σ) : J X E 3 n0 0 0 (MQ (xB X) (qV E (n0 + 0) Q) (xA X) (xS X) 0 0 (eF E)) σ 83 [(0, vR E 42), (1, vI l1)] [] := by
  have hh1 : 1 ≤ hN := by omega
  replace h : ix l1 10 ∧ (gI σ 28 (Int.toNat l1) < 2 → B_X5_prepare_111 Q k12 l1 σ) ∧ (¬ gI σ 28 (Int.toNat l1) < 2 → ∀ s68 : st_S, s68 = sI σ 42 1 (o_or (gI σ 42 1) (o_shl 1 (l1 + 10))) → B_X5_prepare_111 Q k12 l1 s68) := h
  refine j_aload_nR hc 0 dX5_prepare_83 rfl rfl ?_
  refine j_getR (c' := 25) hc fl_RX5_39 rfl rfl (fun hv => (sv_k hv hm rfl)) dX5_prepare_84 ?_
  refine j_getR (c' := 28) hc fl_RX5_66 rfl rfl (fun hv => (sv_k hv hm rfl)) dX5_prepare_87 ?_
  refine j_iload_n hc 1 dX5_prepare_90 rfl rfl ?_
  obtain ⟨b65, h⟩ := h
  refine j_iald (jn := (Int.toNat l1)) hc (fun hv => sv_kl hv hm rfl) cl1 b65 rfl dX5_prepare_91 (fun cn66 => ?_)
  refine j_iconst hc dX5_prepare_92 ?_
  refine j_ic_lt hc cn66 (wlit 2 (by decide)) (tgt := 111) dX5_prepare_93 (by decide) (fun q69 => ?_) (fun q69 => ?_)
  · replace h := h.1 q69
    refine j_sub (lv' := [(0, vR E 42), (1, vI l1)]) [0, 1] rfl ?_
    exact jb_X5_prepare_111 hc hm hr hh hk12 cl1 h
  · replace h := h.2 q69
    refine j_aload_nR hc 0 dX5_prepare_96 rfl rfl ?_
    refine j_dup hc dX5_prepare_97 rfl ?_
    refine j_getI hc fl_RX5_51 (Or.inl rfl) (fun hv => Or.inl (sv_k hv hm rfl)) dX5_prepare_98 (fun cn67 => ?_)
    refine j_iconst hc dX5_prepare_101 ?_
    refine j_iload_n hc 1 dX5_prepare_102 rfl rfl ?_
    refine j_bipush hc dX5_prepare_103 (by decide) ?_
    refine j_iadd hc dX5_prepare_105 ?_
    refine j_ishl hc dX5_prepare_106 ?_
    refine j_ior hc dX5_prepare_107 ?_
    refine j_putI hc fl_RX5_51 rfl rfl (fun hv => Or.inl (sv_k hv hm rfl)) (cn_or _ _) dX5_prepare_108 (fun s68 es68 => ?_)
    replace h := h s68 es68
    refine j_sub (lv' := [(0, vR E 42), (1, vI l1)]) [0, 1] rfl ?_
    exact jb_X5_prepare_111 hc hm hr hh hk12 cl1 h
set_option maxRecDepth 20000 in
theorem jb_X5_prepare_59 {X : jj_X} {E : ev_E} {n0 hN : Nat} (hc : Cx X E cX5_prepare 3 n0 hN RX5) (hm : eM E = 1) (hr : (xT X).sig.returnType = none) (hh : 6 ≤ hN) {Q : st_S → Prop} {k12 : Int → st_S → Prop} (hk12 : ∀ {l1 : Int} (cl1 : wr l1 = l1) {σ : st_S}, k12 l1 σ → J X E 3 n0 0 0 (MQ (xB X) (qV E (n0 + 0) Q) (xA X) (xS X) 0 0 (eF E)) σ 12 [(0, vR E 42), (1, vI l1)] []) {l1 : Int} (cl1 : wr l1 = l1) {σ : st_S} (h : B_X5_prepare_59 Q k12 l1 σ) : J X E 3 n0 0 0 (MQ (xB X) (qV E (n0 + 0) Q) (xA X) (xS X) 0 0 (eF E)) σ 59 [(0, vR E 42), (1, vI l1)] [] := by
  have hh1 : 1 ≤ hN := by omega
  replace h : ix l1 10 ∧ (gI σ 28 (Int.toNat l1) ≤ 0 → B_X5_prepare_83 Q k12 l1 σ) ∧ (¬ gI σ 28 (Int.toNat l1) ≤ 0 → ∀ s73 : st_S, s73 = sI σ 42 1 (o_or (gI σ 42 1) (o_shl 1 l1)) → B_X5_prepare_83 Q k12 l1 s73) := h
  refine j_aload_nR hc 0 dX5_prepare_59 rfl rfl ?_
  refine j_getR (c' := 25) hc fl_RX5_39 rfl rfl (fun hv => (sv_k hv hm rfl)) dX5_prepare_60 ?_
  refine j_getR (c' := 28) hc fl_RX5_66 rfl rfl (fun hv => (sv_k hv hm rfl)) dX5_prepare_63 ?_
  refine j_iload_n hc 1 dX5_prepare_66 rfl rfl ?_
  obtain ⟨b70, h⟩ := h
  refine j_iald (jn := (Int.toNat l1)) hc (fun hv => sv_kl hv hm rfl) cl1 b70 rfl dX5_prepare_67 (fun cn71 => ?_)
  refine j_if_le hc cn71 (tgt := 83) dX5_prepare_68 (by decide) (fun q74 => ?_) (fun q74 => ?_)
  · replace h := h.1 q74
    refine j_sub (lv' := [(0, vR E 42), (1, vI l1)]) [0, 1] rfl ?_
    exact jb_X5_prepare_83 hc hm hr hh hk12 cl1 h
  · replace h := h.2 q74
    refine j_aload_nR hc 0 dX5_prepare_71 rfl rfl ?_
    refine j_dup hc dX5_prepare_72 rfl ?_
    refine j_getI hc fl_RX5_51 (Or.inl rfl) (fun hv => Or.inl (sv_k hv hm rfl)) dX5_prepare_73 (fun cn72 => ?_)
    refine j_iconst hc dX5_prepare_76 ?_
    refine j_iload_n hc 1 dX5_prepare_77 rfl rfl ?_
    refine j_ishl hc dX5_prepare_78 ?_
    refine j_ior hc dX5_prepare_79 ?_
    refine j_putI hc fl_RX5_51 rfl rfl (fun hv => Or.inl (sv_k hv hm rfl)) (cn_or _ _) dX5_prepare_80 (fun s73 es73 => ?_)
    replace h := h s73 es73
    refine j_sub (lv' := [(0, vR E 42), (1, vI l1)]) [0, 1] rfl ?_
    exact jb_X5_prepare_83 hc hm hr hh hk12 cl1 h
set_option maxRecDepth 20000 in
theorem jl_X5_prepare_124 {X : jj_X} {E : ev_E} {n0 hN : Nat} (hc : Cx X E cX5_prepare 3 n0 hN RX5) (hm : eM E = 1) (hr : (xT X).sig.returnType = none) (hh : 6 ≤ hN) {Q : st_S → Prop} : ∀ (n : Nat) {l1 : Int} (cl1 : wr l1 = l1) {σ : st_S}, L_X5_prepare_124 Q n l1 σ → J X E 3 n0 0 0 (MQ (xB X) (qV E (n0 + 0) Q) (xA X) (xS X) 0 0 (eF E)) σ 124 [(0, vR E 42), (1, vI l1)] [] := by
  have hh1 : 1 ≤ hN := by omega
  intro n
  induction n with
  | zero => intro l1 cl1 σ h; exact h.elim
  | succ n ih =>
    intro l1 cl1 σ h
    have hk124 : ∀ {l1 : Int} (cl1 : wr l1 = l1) {σ : st_S}, L_X5_prepare_124 Q n l1 σ → J X E 3 n0 0 0 (MQ (xB X) (qV E (n0 + 0) Q) (xA X) (xS X) 0 0 (eF E)) σ 124 [(0, vR E 42), (1, vI l1)] [] := ih
    replace h : (gI σ 25 0 ≤ l1 → Q σ) ∧ (¬ gI σ 25 0 ≤ l1 → wp_X1_fogOn (wr (gI σ 33 0 + l1)) σ (fun r77 s78 => wp_X5_wanted r77 s78 (fun r79 s80 => ix l1 10 ∧ ∀ s82 : st_S, s82 = sI s80 47 (Int.toNat l1) r79 → wp_X5_comeBy l1 s82 (fun r83 s84 => ix l1 10 ∧ ∀ s86 : st_S, s86 = sI s84 48 (Int.toNat l1) r83 → wp_X5_freeOn l1 r77 0 (o_and (gI s86 42 0) (o_xor (gI s86 42 1) (-1))) s86 (fun r89 s90 => ix l1 10 ∧ ∀ s92 : st_S, s92 = sI s90 49 (Int.toNat l1) r89 → wp_X5_freeOn l1 r77 1 (o_and (gI s92 42 0) (o_xor (o_shr (gI s92 42 1) 10) (-1))) s92 (fun r95 s96 => ix l1 10 ∧ ∀ s98 : st_S, s98 = sI s96 50 (Int.toNat l1) r95 → ∀ x99 : Int, x99 = wr (l1 + 1) → (L_X5_prepare_124 Q n) x99 s98)))))) := h
    refine j_iload_n hc 1 dX5_prepare_124 rfl rfl ?_
    refine j_aload_nR hc 0 dX5_prepare_125 rfl rfl ?_
    refine j_getR (c' := 25) hc fl_RX5_39 rfl rfl (fun hv => (sv_k hv hm rfl)) dX5_prepare_126 ?_
    refine j_getI hc fl_RX5_54 (Or.inl rfl) (fun hv => Or.inl (sv_k hv hm rfl)) dX5_prepare_129 (fun cn75 => ?_)
    refine j_ic_ge hc cl1 cn75 (tgt := 232) dX5_prepare_132 (by decide) (fun q100 => ?_) (fun q100 => ?_)
    · replace h := h.1 q100
      exact j_vret hc hr h dX5_prepare_232
    · replace h := h.2 q100
      refine j_aload_nR hc 0 dX5_prepare_135 rfl rfl ?_
      refine j_getR (c' := 25) hc fl_RX5_39 rfl rfl (fun hv => (sv_k hv hm rfl)) dX5_prepare_136 ?_
      refine j_aload_nR hc 0 dX5_prepare_139 rfl rfl ?_
      refine j_getR (c' := 25) hc fl_RX5_39 rfl rfl (fun hv => (sv_k hv hm rfl)) dX5_prepare_140 ?_
      refine j_getR (c' := 33) hc fl_RX5_72 rfl rfl (fun hv => (sv_k hv hm rfl)) dX5_prepare_143 ?_
      refine j_iconst hc dX5_prepare_146 ?_
      refine j_iald (jn := 0) hc (fun hv => sv_kl hv hm rfl) (wlit 0 (by decide)) ⟨by decide, by decide⟩ rfl dX5_prepare_147 (fun cn76 => ?_)
      refine j_iload_n hc 1 dX5_prepare_148 rfl rfl ?_
      refine j_iadd hc dX5_prepare_149 ?_
      refine j_vI hc (k := 1) (by decide) (fun hv => Or.inl (sv_k hv hm rfl)) ml_RX5_75 mv_X1_fogOn (As := [vI (wr (gI σ 33 0 + l1))]) (c_X1_fogOn (cx_E hc) hm (wr_wr _) h) rfl (by omega) (by decide) ⟨Nat.zero_le _, Nat.zero_le _⟩ (Nat.le_of_ble_eq_true rfl) (by simp only [vI_wr, vL_wl]; rfl) dX5_prepare_150 (fun r77 s78 cr77 h => ?_)
      refine j_istore_n (lv' := [(2, vI r77), (0, vR E 42), (1, vI l1)]) hc dX5_prepare_153 rfl (by decide) rfl ?_
      refine j_aload_nR hc 1 dX5_prepare_154 rfl rfl ?_
      refine j_getR (c' := 47) hc fl_RX5_24 rfl rfl (fun hv => (sv_k hv hm rfl)) dX5_prepare_155 ?_
      refine j_iload_n hc 2 dX5_prepare_158 rfl rfl ?_
      refine j_iload_n hc 0 dX5_prepare_159 rfl rfl ?_
      refine j_sI hc ml_RX5_78 mv_X5_wanted (As := [vI r77]) (c_X5_wanted (cx_E hc) hm cr77 h) rfl (by omega) (by decide) ⟨Nat.zero_le _, Nat.zero_le _⟩ (Nat.le_of_ble_eq_true rfl) rfl dX5_prepare_160 (fun r79 s80 cr79 h => ?_)
      obtain ⟨b81, h⟩ := h
      refine j_iast (jn := (Int.toNat l1)) hc (fun hv => sv_kl hv hm rfl) cl1 b81 rfl cr79 dX5_prepare_163 (fun s82 es82 => ?_)
      replace h := h s82 es82
      refine j_aload_nR hc 1 dX5_prepare_164 rfl rfl ?_
      refine j_getR (c' := 48) hc fl_RX5_27 rfl rfl (fun hv => (sv_k hv hm rfl)) dX5_prepare_165 ?_
      refine j_iload_n hc 2 dX5_prepare_168 rfl rfl ?_
      refine j_aload_nR hc 1 dX5_prepare_169 rfl rfl ?_
      refine j_iload_n hc 2 dX5_prepare_170 rfl rfl ?_
      refine j_vI hc (k := 5) (by decide) (fun hv => Or.inl (sv_k hv hm rfl)) ml_RX5_81 mv_X5_comeBy (As := [vI l1]) (c_X5_comeBy (cx_E hc) hm cl1 h) rfl (by omega) (by decide) ⟨Nat.zero_le _, Nat.zero_le _⟩ (Nat.le_of_ble_eq_true rfl) rfl dX5_prepare_171 (fun r83 s84 cr83 h => ?_)
      obtain ⟨b85, h⟩ := h
      refine j_iast (jn := (Int.toNat l1)) hc (fun hv => sv_kl hv hm rfl) cl1 b85 rfl cr83 dX5_prepare_174 (fun s86 es86 => ?_)
      replace h := h s86 es86
      refine j_aload_nR hc 1 dX5_prepare_175 rfl rfl ?_
      refine j_getR (c' := 49) hc fl_RX5_30 rfl rfl (fun hv => (sv_k hv hm rfl)) dX5_prepare_176 ?_
      refine j_iload_n hc 2 dX5_prepare_179 rfl rfl ?_
      refine j_aload_nR hc 1 dX5_prepare_180 rfl rfl ?_
      refine j_iload_n hc 2 dX5_prepare_181 rfl rfl ?_
      refine j_iload_n hc 0 dX5_prepare_182 rfl rfl ?_
      refine j_iconst hc dX5_prepare_183 ?_
      refine j_aload_nR hc 1 dX5_prepare_184 rfl rfl ?_
      refine j_getI hc fl_RX5_47 (Or.inl rfl) (fun hv => Or.inl (sv_k hv hm rfl)) dX5_prepare_185 (fun cn87 => ?_)
      refine j_aload_nR hc 1 dX5_prepare_188 rfl rfl ?_
      refine j_getI hc fl_RX5_51 (Or.inl rfl) (fun hv => Or.inl (sv_k hv hm rfl)) dX5_prepare_189 (fun cn88 => ?_)
      refine j_iconst hc dX5_prepare_192 ?_
      refine j_ixor hc dX5_prepare_193 ?_
      refine j_iand hc dX5_prepare_194 ?_
      refine j_vI hc (k := 5) (by decide) (fun hv => Or.inl (sv_k hv hm rfl)) ml_RX5_84 mv_X5_freeOn (As := [vI l1, vI r77, vI 0, vI (o_and (gI s86 42 0) (o_xor (gI s86 42 1) (-1)))]) (c_X5_freeOn (cx_E hc) hm cl1 cr77 (wlit 0 (by decide)) (cn_and _ _) h) rfl (by omega) (by decide) ⟨Nat.zero_le _, Nat.zero_le _⟩ (Nat.le_of_ble_eq_true rfl) rfl dX5_prepare_195 (fun r89 s90 cr89 h => ?_)
      obtain ⟨b91, h⟩ := h
      refine j_iast (jn := (Int.toNat l1)) hc (fun hv => sv_kl hv hm rfl) cl1 b91 rfl cr89 dX5_prepare_198 (fun s92 es92 => ?_)
      replace h := h s92 es92
      refine j_aload_nR hc 1 dX5_prepare_199 rfl rfl ?_
      refine j_getR (c' := 50) hc fl_RX5_33 rfl rfl (fun hv => (sv_k hv hm rfl)) dX5_prepare_200 ?_
      refine j_iload_n hc 2 dX5_prepare_203 rfl rfl ?_
      refine j_aload_nR hc 1 dX5_prepare_204 rfl rfl ?_
      refine j_iload_n hc 2 dX5_prepare_205 rfl rfl ?_
      refine j_iload_n hc 0 dX5_prepare_206 rfl rfl ?_
      refine j_iconst hc dX5_prepare_207 ?_
      refine j_aload_nR hc 1 dX5_prepare_208 rfl rfl ?_
      refine j_getI hc fl_RX5_47 (Or.inl rfl) (fun hv => Or.inl (sv_k hv hm rfl)) dX5_prepare_209 (fun cn93 => ?_)
      refine j_aload_nR hc 1 dX5_prepare_212 rfl rfl ?_
      refine j_getI hc fl_RX5_51 (Or.inl rfl) (fun hv => Or.inl (sv_k hv hm rfl)) dX5_prepare_213 (fun cn94 => ?_)
      refine j_bipush hc dX5_prepare_216 (by decide) ?_
      refine j_ishr hc dX5_prepare_218 ?_
      refine j_iconst hc dX5_prepare_219 ?_
      refine j_ixor hc dX5_prepare_220 ?_
      refine j_iand hc dX5_prepare_221 ?_
      refine j_vI hc (k := 5) (by decide) (fun hv => Or.inl (sv_k hv hm rfl)) ml_RX5_84 mv_X5_freeOn (As := [vI l1, vI r77, vI 1, vI (o_and (gI s92 42 0) (o_xor (o_shr (gI s92 42 1) 10) (-1)))]) (c_X5_freeOn (cx_E hc) hm cl1 cr77 (wlit 1 (by decide)) (cn_and _ _) h) rfl (by omega) (by decide) ⟨Nat.zero_le _, Nat.zero_le _⟩ (Nat.le_of_ble_eq_true rfl) rfl dX5_prepare_222 (fun r95 s96 cr95 h => ?_)
      obtain ⟨b97, h⟩ := h
      refine j_iast (jn := (Int.toNat l1)) hc (fun hv => sv_kl hv hm rfl) cl1 b97 rfl cr95 dX5_prepare_225 (fun s98 es98 => ?_)
      replace h := h s98 es98
      obtain ⟨x99, ex99⟩ : ∃ y : Int, y = wr (l1 + 1) := ⟨_, rfl⟩
      have cx99 : wr x99 = x99 := by rw [ex99]; exact wr_wr _
      replace h := h x99 ex99
      refine j_iinc (lv' := [(1, vI x99), (2, vI r77), (0, vR E 42)]) hc 2 dX5_prepare_226 rfl (by decide) ex99 rfl ?_
      refine j_goto (tgt := 124) hc dX5_prepare_229 (by decide) ?_
      refine j_sub (lv' := [(0, vR E 42), (1, vI x99)]) [2, 0] rfl ?_
      exact hk124 cx99 h
set_option maxRecDepth 20000 in
theorem jl_X5_prepare_12 {X : jj_X} {E : ev_E} {n0 hN : Nat} (hc : Cx X E cX5_prepare 3 n0 hN RX5) (hm : eM E = 1) (hr : (xT X).sig.returnType = none) (hh : 6 ≤ hN) {Q : st_S → Prop} : ∀ (n : Nat) {l1 : Int} (cl1 : wr l1 = l1) {σ : st_S}, L_X5_prepare_12 Q n l1 σ → J X E 3 n0 0 0 (MQ (xB X) (qV E (n0 + 0) Q) (xA X) (xS X) 0 0 (eF E)) σ 12 [(0, vR E 42), (1, vI l1)] [] := by
  have hh1 : 1 ≤ hN := by omega
  intro n
  induction n with
  | zero => intro l1 cl1 σ h; exact h.elim
  | succ n ih =>
    intro l1 cl1 σ h
    have hk12 : ∀ {l1 : Int} (cl1 : wr l1 = l1) {σ : st_S}, L_X5_prepare_12 Q n l1 σ → J X E 3 n0 0 0 (MQ (xB X) (qV E (n0 + 0) Q) (xA X) (xS X) 0 0 (eF E)) σ 12 [(0, vR E 42), (1, vI l1)] [] := ih
    replace h : (gI σ 25 0 ≤ l1 → ∃ m124 : Nat, L_X5_prepare_124 Q m124 0 σ) ∧ (¬ gI σ 25 0 ≤ l1 → wp_X5_nightOf l1 σ (fun r102 s103 => ix l1 10 ∧ ∀ s105 : st_S, s105 = sI s103 43 (Int.toNat l1) r102 → ix l1 10 ∧ (gI s105 29 (Int.toNat l1) = 3 → B_X5_prepare_59 Q (L_X5_prepare_12 Q n) l1 s105) ∧ (¬ gI s105 29 (Int.toNat l1) = 3 → ∀ s109 : st_S, s109 = sI s105 42 0 (o_or (gI s105 42 0) (o_shl 1 l1)) → B_X5_prepare_59 Q (L_X5_prepare_12 Q n) l1 s109))) := h
    refine j_iload_n hc 1 dX5_prepare_12 rfl rfl ?_
    refine j_aload_nR hc 0 dX5_prepare_13 rfl rfl ?_
    refine j_getR (c' := 25) hc fl_RX5_39 rfl rfl (fun hv => (sv_k hv hm rfl)) dX5_prepare_14 ?_
    refine j_getI hc fl_RX5_54 (Or.inl rfl) (fun hv => Or.inl (sv_k hv hm rfl)) dX5_prepare_17 (fun cn101 => ?_)
    refine j_ic_ge hc cl1 cn101 (tgt := 122) dX5_prepare_20 (by decide) (fun q111 => ?_) (fun q111 => ?_)
    · replace h := h.1 q111
      refine j_iconst hc dX5_prepare_122 ?_
      refine j_istore_n (lv' := [(1, vI 0), (0, vR E 42)]) hc dX5_prepare_123 rfl (by decide) rfl ?_
      obtain ⟨n124, h⟩ := h
      refine j_sub (lv' := [(0, vR E 42), (1, vI 0)]) [1, 0] rfl ?_
      exact jl_X5_prepare_124 hc hm hr hh n124 (wlit 0 (by decide)) h
    · replace h := h.2 q111
      refine j_aload_nR hc 0 dX5_prepare_23 rfl rfl ?_
      refine j_getR (c' := 43) hc fl_RX5_9 rfl rfl (fun hv => (sv_k hv hm rfl)) dX5_prepare_24 ?_
      refine j_iload_n hc 1 dX5_prepare_27 rfl rfl ?_
      refine j_aload_nR hc 0 dX5_prepare_28 rfl rfl ?_
      refine j_iload_n hc 1 dX5_prepare_29 rfl rfl ?_
      refine j_vI hc (k := 5) (by decide) (fun hv => Or.inl (sv_k hv hm rfl)) ml_RX5_59 mv_X5_nightOf (As := [vI l1]) (c_X5_nightOf (cx_E hc) hm cl1 h) rfl (by omega) (by decide) ⟨Nat.zero_le _, Nat.zero_le _⟩ (Nat.le_of_ble_eq_true rfl) rfl dX5_prepare_30 (fun r102 s103 cr102 h => ?_)
      obtain ⟨b104, h⟩ := h
      refine j_iast (jn := (Int.toNat l1)) hc (fun hv => sv_kl hv hm rfl) cl1 b104 rfl cr102 dX5_prepare_33 (fun s105 es105 => ?_)
      replace h := h s105 es105
      refine j_aload_nR hc 0 dX5_prepare_34 rfl rfl ?_
      refine j_getR (c' := 25) hc fl_RX5_39 rfl rfl (fun hv => (sv_k hv hm rfl)) dX5_prepare_35 ?_
      refine j_getR (c' := 29) hc fl_RX5_63 rfl rfl (fun hv => (sv_k hv hm rfl)) dX5_prepare_38 ?_
      refine j_iload_n hc 1 dX5_prepare_41 rfl rfl ?_
      obtain ⟨b106, h⟩ := h
      refine j_iald (jn := (Int.toNat l1)) hc (fun hv => sv_kl hv hm rfl) cl1 b106 rfl dX5_prepare_42 (fun cn107 => ?_)
      refine j_iconst hc dX5_prepare_43 ?_
      refine j_ic_eq hc cn107 (wlit 3 (by decide)) (tgt := 59) dX5_prepare_44 (by decide) (fun q110 => ?_) (fun q110 => ?_)
      · replace h := h.1 q110
        refine j_sub (lv' := [(0, vR E 42), (1, vI l1)]) [0, 1] rfl ?_
        exact jb_X5_prepare_59 hc hm hr hh hk12 cl1 h
      · replace h := h.2 q110
        refine j_aload_nR hc 0 dX5_prepare_47 rfl rfl ?_
        refine j_dup hc dX5_prepare_48 rfl ?_
        refine j_getI hc fl_RX5_47 (Or.inl rfl) (fun hv => Or.inl (sv_k hv hm rfl)) dX5_prepare_49 (fun cn108 => ?_)
        refine j_iconst hc dX5_prepare_52 ?_
        refine j_iload_n hc 1 dX5_prepare_53 rfl rfl ?_
        refine j_ishl hc dX5_prepare_54 ?_
        refine j_ior hc dX5_prepare_55 ?_
        refine j_putI hc fl_RX5_47 rfl rfl (fun hv => Or.inl (sv_k hv hm rfl)) (cn_or _ _) dX5_prepare_56 (fun s109 es109 => ?_)
        replace h := h s109 es109
        refine j_sub (lv' := [(0, vR E 42), (1, vI l1)]) [0, 1] rfl ?_
        exact jb_X5_prepare_59 hc hm hr hh hk12 cl1 h
set_option maxRecDepth 20000 in
theorem c_X5_prepare {l : Launch} {E : ev_E} (hE : Eok E) (hm : eM E = 1) {σ : st_S} {Q : st_S → Prop} (h : wp_X5_prepare σ Q) : cM l yX5_prepare cX5_prepare 3 none E 6 0 0 [vR E 42] σ (qV E (gN σ + 0) Q) := by
  refine cM_of (lv := [(0, vR E 42)]) (by decide) hE (Nat.le_of_ble_eq_true rfl) (rfl) ?_
  intro X hX hc _ _ hr _ _
  subst hX
  have hh : 6 ≤ 6 := Nat.le_refl _
  have hh1 : 1 ≤ 6 := by omega
  replace h : ∀ s112 : st_S, s112 = sI σ 42 0 0 → ∀ s113 : st_S, s113 = sI s112 42 1 0 → ∃ m12 : Nat, L_X5_prepare_12 Q m12 0 s113 := h
  refine j_aload_nR hc 0 dX5_prepare_0 rfl rfl ?_
  refine j_iconst hc dX5_prepare_1 ?_
  refine j_putI hc fl_RX5_47 rfl rfl (fun hv => Or.inl (sv_k hv hm rfl)) (wlit 0 (by decide)) dX5_prepare_2 (fun s112 es112 => ?_)
  replace h := h s112 es112
  refine j_aload_nR hc 0 dX5_prepare_5 rfl rfl ?_
  refine j_iconst hc dX5_prepare_6 ?_
  refine j_putI hc fl_RX5_51 rfl rfl (fun hv => Or.inl (sv_k hv hm rfl)) (wlit 0 (by decide)) dX5_prepare_7 (fun s113 es113 => ?_)
  replace h := h s113 es113
  refine j_iconst hc dX5_prepare_10 ?_
  refine j_istore_n (lv' := [(1, vI 0), (0, vR E 42)]) hc dX5_prepare_11 rfl (by decide) rfl ?_
  obtain ⟨n12, h⟩ := h
  refine j_sub (lv' := [(0, vR E 42), (1, vI 0)]) [1, 0] rfl ?_
  exact jl_X5_prepare_12 hc hm hr hh n12 (wlit 0 (by decide)) h
-- LitStrangers$Paper.askPrices()V
theorem dX5_askPrices_0 : decode cX5_askPrices 0 = .ok (.iconst 0, 1) := by decide +kernel
theorem dX5_askPrices_1 : decode cX5_askPrices 1 = .ok (.istore_n 1, 1) := by decide +kernel
theorem dX5_askPrices_2 : decode cX5_askPrices 2 = .ok (.iload_n 1, 1) := by decide +kernel
theorem dX5_askPrices_3 : decode cX5_askPrices 3 = .ok (.aload_n 0, 1) := by decide +kernel
theorem dX5_askPrices_4 : decode cX5_askPrices 4 = .ok (.getfield 39, 3) := by decide +kernel
theorem dX5_askPrices_7 : decode cX5_askPrices 7 = .ok (.getfield 54, 3) := by decide +kernel
theorem dX5_askPrices_10 : decode cX5_askPrices 10 = .ok (.if_icmp .ge 39, 3) := by decide +kernel
theorem dX5_askPrices_13 : decode cX5_askPrices 13 = .ok (.aload_n 0, 1) := by decide +kernel
theorem dX5_askPrices_14 : decode cX5_askPrices 14 = .ok (.getfield 15, 3) := by decide +kernel
theorem dX5_askPrices_17 : decode cX5_askPrices 17 = .ok (.iload_n 1, 1) := by decide +kernel
theorem dX5_askPrices_18 : decode cX5_askPrices 18 = .ok (.aload_n 0, 1) := by decide +kernel
theorem dX5_askPrices_19 : decode cX5_askPrices 19 = .ok (.getfield 39, 3) := by decide +kernel
theorem dX5_askPrices_22 : decode cX5_askPrices 22 = .ok (.getfield 63, 3) := by decide +kernel
theorem dX5_askPrices_25 : decode cX5_askPrices 25 = .ok (.iload_n 1, 1) := by decide +kernel
theorem dX5_askPrices_26 : decode cX5_askPrices 26 = .ok (.iaload, 1) := by decide +kernel
theorem dX5_askPrices_27 : decode cX5_askPrices 27 = .ok (.ifCond .ne 14, 3) := by decide +kernel
theorem dX5_askPrices_30 : decode cX5_askPrices 30 = .ok (.aload_n 0, 1) := by decide +kernel
theorem dX5_askPrices_31 : decode cX5_askPrices 31 = .ok (.getfield 43, 3) := by decide +kernel
theorem dX5_askPrices_34 : decode cX5_askPrices 34 = .ok (.iload_n 1, 1) := by decide +kernel
theorem dX5_askPrices_35 : decode cX5_askPrices 35 = .ok (.invokevirtual 88, 3) := by decide +kernel
theorem dX5_askPrices_38 : decode cX5_askPrices 38 = .ok (.goto 4, 3) := by decide +kernel
theorem dX5_askPrices_41 : decode cX5_askPrices 41 = .ok (.iconst 0, 1) := by decide +kernel
theorem dX5_askPrices_42 : decode cX5_askPrices 42 = .ok (.iastore, 1) := by decide +kernel
theorem dX5_askPrices_43 : decode cX5_askPrices 43 = .ok (.iinc 1 1, 3) := by decide +kernel
theorem dX5_askPrices_46 : decode cX5_askPrices 46 = .ok (.goto (-44), 3) := by decide +kernel
theorem dX5_askPrices_49 : decode cX5_askPrices 49 = .ok (.return_, 1) := by decide +kernel
def B_X5_askPrices_42 (Q : st_S → Prop)  (k2 : Int → st_S → Prop) (l1 : Int) (v0 : Int) (v1 : Int) (σ : st_S) : Prop := ix (wr v1) 10 ∧ ∀ s12 : st_S, s12 = sI σ 44 (Int.toNat (wr v1)) v0 → ∀ x13 : Int, x13 = wr (l1 + 1) → k2 x13 s12
def L_X5_askPrices_2 (Q : st_S → Prop)   : Nat → Int → st_S → Prop
  | 0 => fun _ _ => False
  | n + 1 => fun l1 σ => (gI σ 25 0 ≤ l1 → Q σ) ∧ (¬ gI σ 25 0 ≤ l1 → ix l1 10 ∧ (¬ gI σ 29 (Int.toNat l1) = 0 → B_X5_askPrices_42 Q (L_X5_askPrices_2 Q n) l1 0 l1 σ) ∧ (gI σ 29 (Int.toNat l1) = 0 → wp_X3_costs l1 σ (fun r17 s18 => B_X5_askPrices_42 Q (L_X5_askPrices_2 Q n) l1 r17 l1 s18)))
def wp_X5_askPrices  (σ : st_S) (Q : st_S → Prop) : Prop := ∃ m2 : Nat, L_X5_askPrices_2 Q m2 0 σ
set_option maxRecDepth 20000 in
theorem jb_X5_askPrices_42 {X : jj_X} {E : ev_E} {n0 hN : Nat} (hc : Cx X E cX5_askPrices 2 n0 hN RX5) (hm : eM E = 1) (hr : (xT X).sig.returnType = none) (hh : 5 ≤ hN) {Q : st_S → Prop} {k2 : Int → st_S → Prop} (hk2 : ∀ {l1 : Int} (cl1 : wr l1 = l1) {σ : st_S}, k2 l1 σ → J X E 2 n0 0 0 (MQ (xB X) (qV E (n0 + 0) Q) (xA X) (xS X) 0 0 (eF E)) σ 2 [(0, vR E 42), (1, vI l1)] []) {l1 : Int} {v0 : Int} {v1 : Int} (cl1 : wr l1 = l1) (cv0 : wr v0 = v0) {σ : st_S} (h : B_X5_askPrices_42 Q k2 l1 v0 v1 σ) : J X E 2 n0 0 0 (MQ (xB X) (qV E (n0 + 0) Q) (xA X) (xS X) 0 0 (eF E)) σ 42 [(0, vR E 42), (1, vI l1)] [vI v0, vI v1, vR E 44] := by
  have hh1 : 1 ≤ hN := by omega
  replace h : ix (wr v1) 10 ∧ ∀ s12 : st_S, s12 = sI σ 44 (Int.toNat (wr v1)) v0 → ∀ x13 : Int, x13 = wr (l1 + 1) → k2 x13 s12 := h
  obtain ⟨b11, h⟩ := h
  refine j_iast (jn := (Int.toNat (wr v1))) hc (fun hv => sv_kl hv hm rfl) rfl b11 rfl cv0 dX5_askPrices_42 (fun s12 es12 => ?_)
  replace h := h s12 es12
  obtain ⟨x13, ex13⟩ : ∃ y : Int, y = wr (l1 + 1) := ⟨_, rfl⟩
  have cx13 : wr x13 = x13 := by rw [ex13]; exact wr_wr _
  replace h := h x13 ex13
  refine j_iinc (lv' := [(1, vI x13), (0, vR E 42)]) hc 1 dX5_askPrices_43 rfl (by decide) ex13 rfl ?_
  refine j_goto (tgt := 2) hc dX5_askPrices_46 (by decide) ?_
  refine j_sub (lv' := [(0, vR E 42), (1, vI x13)]) [1, 0] rfl ?_
  exact hk2 cx13 h
set_option maxRecDepth 20000 in
theorem jl_X5_askPrices_2 {X : jj_X} {E : ev_E} {n0 hN : Nat} (hc : Cx X E cX5_askPrices 2 n0 hN RX5) (hm : eM E = 1) (hr : (xT X).sig.returnType = none) (hh : 5 ≤ hN) {Q : st_S → Prop} : ∀ (n : Nat) {l1 : Int} (cl1 : wr l1 = l1) {σ : st_S}, L_X5_askPrices_2 Q n l1 σ → J X E 2 n0 0 0 (MQ (xB X) (qV E (n0 + 0) Q) (xA X) (xS X) 0 0 (eF E)) σ 2 [(0, vR E 42), (1, vI l1)] [] := by
  have hh1 : 1 ≤ hN := by omega
  intro n
  induction n with
  | zero => intro l1 cl1 σ h; exact h.elim
  | succ n ih =>
    intro l1 cl1 σ h
    have hk2 : ∀ {l1 : Int} (cl1 : wr l1 = l1) {σ : st_S}, L_X5_askPrices_2 Q n l1 σ → J X E 2 n0 0 0 (MQ (xB X) (qV E (n0 + 0) Q) (xA X) (xS X) 0 0 (eF E)) σ 2 [(0, vR E 42), (1, vI l1)] [] := ih
    replace h : (gI σ 25 0 ≤ l1 → Q σ) ∧ (¬ gI σ 25 0 ≤ l1 → ix l1 10 ∧ (¬ gI σ 29 (Int.toNat l1) = 0 → B_X5_askPrices_42 Q (L_X5_askPrices_2 Q n) l1 0 l1 σ) ∧ (gI σ 29 (Int.toNat l1) = 0 → wp_X3_costs l1 σ (fun r17 s18 => B_X5_askPrices_42 Q (L_X5_askPrices_2 Q n) l1 r17 l1 s18))) := h
    refine j_iload_n hc 1 dX5_askPrices_2 rfl rfl ?_
    refine j_aload_nR hc 0 dX5_askPrices_3 rfl rfl ?_
    refine j_getR (c' := 25) hc fl_RX5_39 rfl rfl (fun hv => (sv_k hv hm rfl)) dX5_askPrices_4 ?_
    refine j_getI hc fl_RX5_54 (Or.inl rfl) (fun hv => Or.inl (sv_k hv hm rfl)) dX5_askPrices_7 (fun cn14 => ?_)
    refine j_ic_ge hc cl1 cn14 (tgt := 49) dX5_askPrices_10 (by decide) (fun q20 => ?_) (fun q20 => ?_)
    · replace h := h.1 q20
      exact j_vret hc hr h dX5_askPrices_49
    · replace h := h.2 q20
      refine j_aload_nR hc 0 dX5_askPrices_13 rfl rfl ?_
      refine j_getR (c' := 44) hc fl_RX5_15 rfl rfl (fun hv => (sv_k hv hm rfl)) dX5_askPrices_14 ?_
      refine j_iload_n hc 1 dX5_askPrices_17 rfl rfl ?_
      refine j_aload_nR hc 0 dX5_askPrices_18 rfl rfl ?_
      refine j_getR (c' := 25) hc fl_RX5_39 rfl rfl (fun hv => (sv_k hv hm rfl)) dX5_askPrices_19 ?_
      refine j_getR (c' := 29) hc fl_RX5_63 rfl rfl (fun hv => (sv_k hv hm rfl)) dX5_askPrices_22 ?_
      refine j_iload_n hc 1 dX5_askPrices_25 rfl rfl ?_
      obtain ⟨b15, h⟩ := h
      refine j_iald (jn := (Int.toNat l1)) hc (fun hv => sv_kl hv hm rfl) cl1 b15 rfl dX5_askPrices_26 (fun cn16 => ?_)
      refine j_if_ne hc cn16 (tgt := 41) dX5_askPrices_27 (by decide) (fun q19 => ?_) (fun q19 => ?_)
      · replace h := h.1 q19
        refine j_iconst hc dX5_askPrices_41 ?_
        refine j_sub (lv' := [(0, vR E 42), (1, vI l1)]) [0, 1] rfl ?_
        exact jb_X5_askPrices_42 hc hm hr hh hk2 cl1 (wlit 0 (by decide)) h
      · replace h := h.2 q19
        refine j_aload_nR hc 0 dX5_askPrices_30 rfl rfl ?_
        refine j_getR (c' := 35) hc fl_RX5_43 rfl rfl (fun hv => (sv_k hv hm rfl)) dX5_askPrices_31 ?_
        refine j_iload_n hc 1 dX5_askPrices_34 rfl rfl ?_
        refine j_vI hc (k := 3) (by decide) (fun hv => Or.inl (sv_k hv hm rfl)) ml_RX5_88 mv_X3_costs (As := [vI l1]) (c_X3_costs (cx_E hc) hm cl1 h) rfl (by omega) (by decide) ⟨Nat.zero_le _, Nat.zero_le _⟩ (Nat.le_of_ble_eq_true rfl) rfl dX5_askPrices_35 (fun r17 s18 cr17 h => ?_)
        refine j_goto (tgt := 42) hc dX5_askPrices_38 (by decide) ?_
        refine j_sub (lv' := [(0, vR E 42), (1, vI l1)]) [0, 1] rfl ?_
        exact jb_X5_askPrices_42 hc hm hr hh hk2 cl1 cr17 h
set_option maxRecDepth 20000 in
theorem c_X5_askPrices {l : Launch} {E : ev_E} (hE : Eok E) (hm : eM E = 1) {σ : st_S} {Q : st_S → Prop} (h : wp_X5_askPrices σ Q) : cM l yX5_askPrices cX5_askPrices 2 none E 5 0 0 [vR E 42] σ (qV E (gN σ + 0) Q) := by
  refine cM_of (lv := [(0, vR E 42)]) (by decide) hE (Nat.le_of_ble_eq_true rfl) (rfl) ?_
  intro X hX hc _ _ hr _ _
  subst hX
  have hh : 5 ≤ 5 := Nat.le_refl _
  have hh1 : 1 ≤ 5 := by omega
  replace h : ∃ m2 : Nat, L_X5_askPrices_2 Q m2 0 σ := h
  refine j_iconst hc dX5_askPrices_0 ?_
  refine j_istore_n (lv' := [(1, vI 0), (0, vR E 42)]) hc dX5_askPrices_1 rfl (by decide) rfl ?_
  obtain ⟨n2, h⟩ := h
  refine j_sub (lv' := [(0, vR E 42), (1, vI 0)]) [1, 0] rfl ?_
  exact jl_X5_askPrices_2 hc hm hr hh n2 (wlit 0 (by decide)) h
-- LitStrangers$Paper.priceOf(I)I
theorem dX5_priceOf_0 : decode cX5_priceOf 0 = .ok (.iconst 0, 1) := by decide +kernel
theorem dX5_priceOf_1 : decode cX5_priceOf 1 = .ok (.istore_n 2, 1) := by decide +kernel
theorem dX5_priceOf_2 : decode cX5_priceOf 2 = .ok (.iconst 0, 1) := by decide +kernel
theorem dX5_priceOf_3 : decode cX5_priceOf 3 = .ok (.istore_n 3, 1) := by decide +kernel
theorem dX5_priceOf_4 : decode cX5_priceOf 4 = .ok (.iload_n 3, 1) := by decide +kernel
theorem dX5_priceOf_5 : decode cX5_priceOf 5 = .ok (.aload_n 0, 1) := by decide +kernel
theorem dX5_priceOf_6 : decode cX5_priceOf 6 = .ok (.getfield 39, 3) := by decide +kernel
theorem dX5_priceOf_9 : decode cX5_priceOf 9 = .ok (.getfield 54, 3) := by decide +kernel
theorem dX5_priceOf_12 : decode cX5_priceOf 12 = .ok (.if_icmp .ge 26, 3) := by decide +kernel
theorem dX5_priceOf_15 : decode cX5_priceOf 15 = .ok (.iload_n 1, 1) := by decide +kernel
theorem dX5_priceOf_16 : decode cX5_priceOf 16 = .ok (.iload_n 3, 1) := by decide +kernel
theorem dX5_priceOf_17 : decode cX5_priceOf 17 = .ok (.ishr, 1) := by decide +kernel
theorem dX5_priceOf_18 : decode cX5_priceOf 18 = .ok (.iconst 1, 1) := by decide +kernel
theorem dX5_priceOf_19 : decode cX5_priceOf 19 = .ok (.iand, 1) := by decide +kernel
theorem dX5_priceOf_20 : decode cX5_priceOf 20 = .ok (.ifCond .eq 12, 3) := by decide +kernel
theorem dX5_priceOf_23 : decode cX5_priceOf 23 = .ok (.iload_n 2, 1) := by decide +kernel
theorem dX5_priceOf_24 : decode cX5_priceOf 24 = .ok (.aload_n 0, 1) := by decide +kernel
theorem dX5_priceOf_25 : decode cX5_priceOf 25 = .ok (.getfield 15, 3) := by decide +kernel
theorem dX5_priceOf_28 : decode cX5_priceOf 28 = .ok (.iload_n 3, 1) := by decide +kernel
theorem dX5_priceOf_29 : decode cX5_priceOf 29 = .ok (.iaload, 1) := by decide +kernel
theorem dX5_priceOf_30 : decode cX5_priceOf 30 = .ok (.iadd, 1) := by decide +kernel
theorem dX5_priceOf_31 : decode cX5_priceOf 31 = .ok (.istore_n 2, 1) := by decide +kernel
theorem dX5_priceOf_32 : decode cX5_priceOf 32 = .ok (.iinc 3 1, 3) := by decide +kernel
theorem dX5_priceOf_35 : decode cX5_priceOf 35 = .ok (.goto (-31), 3) := by decide +kernel
theorem dX5_priceOf_38 : decode cX5_priceOf 38 = .ok (.iload_n 2, 1) := by decide +kernel
theorem dX5_priceOf_39 : decode cX5_priceOf 39 = .ok (.ireturn, 1) := by decide +kernel
def B_X5_priceOf_32 (Q : Int → st_S → Prop)  (k4 : Int → Int → Int → st_S → Prop) (l1 : Int) (l2 : Int) (l3 : Int) (σ : st_S) : Prop := ∀ x8 : Int, x8 = wr (l3 + 1) → k4 l1 l2 x8 σ
def L_X5_priceOf_4 (Q : Int → st_S → Prop)   : Nat → Int → Int → Int → st_S → Prop
  | 0 => fun _ _ _ _ => False
  | n + 1 => fun l1 l2 l3 σ => (gI σ 25 0 ≤ l3 → Q l2 σ) ∧ (¬ gI σ 25 0 ≤ l3 → (o_and (o_shr l1 l3) 1 = 0 → B_X5_priceOf_32 Q (L_X5_priceOf_4 Q n) l1 l2 l3 σ) ∧ (¬ o_and (o_shr l1 l3) 1 = 0 → ix l3 10 ∧ ∀ x12 : Int, x12 = wr (l2 + gI σ 44 (Int.toNat l3)) → B_X5_priceOf_32 Q (L_X5_priceOf_4 Q n) l1 x12 l3 σ))
def wp_X5_priceOf (a1 : Int) (σ : st_S) (Q : Int → st_S → Prop) : Prop := ∃ m4 : Nat, L_X5_priceOf_4 Q m4 a1 0 0 σ
set_option maxRecDepth 20000 in
theorem jb_X5_priceOf_32 {X : jj_X} {E : ev_E} {n0 hN : Nat} (hc : Cx X E cX5_priceOf 4 n0 hN RX5) (hm : eM E = 1) (hr : (xT X).sig.returnType = (some .int)) (hh : 1 ≤ hN) {Q : Int → st_S → Prop} {k4 : Int → Int → Int → st_S → Prop} (hk4 : ∀ {l1 : Int} {l2 : Int} {l3 : Int} (cl1 : wr l1 = l1) (cl2 : wr l2 = l2) (cl3 : wr l3 = l3) {σ : st_S}, k4 l1 l2 l3 σ → J X E 4 n0 0 0 (MQ (xB X) (qI E (n0 + 0) Q) (xA X) (xS X) 0 0 (eF E)) σ 4 [(0, vR E 42), (1, vI l1), (2, vI l2), (3, vI l3)] []) {l1 : Int} {l2 : Int} {l3 : Int} (cl1 : wr l1 = l1) (cl2 : wr l2 = l2) (cl3 : wr l3 = l3) {σ : st_S} (h : B_X5_priceOf_32 Q k4 l1 l2 l3 σ) : J X E 4 n0 0 0 (MQ (xB X) (qI E (n0 + 0) Q) (xA X) (xS X) 0 0 (eF E)) σ 32 [(0, vR E 42), (1, vI l1), (2, vI l2), (3, vI l3)] [] := by
  have hh1 : 1 ≤ hN := by omega
  replace h : ∀ x8 : Int, x8 = wr (l3 + 1) → k4 l1 l2 x8 σ := h
  obtain ⟨x8, ex8⟩ : ∃ y : Int, y = wr (l3 + 1) := ⟨_, rfl⟩
  have cx8 : wr x8 = x8 := by rw [ex8]; exact wr_wr _
  replace h := h x8 ex8
  refine j_iinc (lv' := [(3, vI x8), (0, vR E 42), (1, vI l1), (2, vI l2)]) hc 3 dX5_priceOf_32 rfl (by decide) ex8 rfl ?_
  refine j_goto (tgt := 4) hc dX5_priceOf_35 (by decide) ?_
  refine j_sub (lv' := [(0, vR E 42), (1, vI l1), (2, vI l2), (3, vI x8)]) [1, 2, 3, 0] rfl ?_
  exact hk4 cl1 cl2 cx8 h
set_option maxRecDepth 20000 in
theorem jl_X5_priceOf_4 {X : jj_X} {E : ev_E} {n0 hN : Nat} (hc : Cx X E cX5_priceOf 4 n0 hN RX5) (hm : eM E = 1) (hr : (xT X).sig.returnType = (some .int)) (hh : 1 ≤ hN) {Q : Int → st_S → Prop} : ∀ (n : Nat) {l1 : Int} {l2 : Int} {l3 : Int} (cl1 : wr l1 = l1) (cl2 : wr l2 = l2) (cl3 : wr l3 = l3) {σ : st_S}, L_X5_priceOf_4 Q n l1 l2 l3 σ → J X E 4 n0 0 0 (MQ (xB X) (qI E (n0 + 0) Q) (xA X) (xS X) 0 0 (eF E)) σ 4 [(0, vR E 42), (1, vI l1), (2, vI l2), (3, vI l3)] [] := by
  have hh1 : 1 ≤ hN := by omega
  intro n
  induction n with
  | zero => intro l1 l2 l3 cl1 cl2 cl3 σ h; exact h.elim
  | succ n ih =>
    intro l1 l2 l3 cl1 cl2 cl3 σ h
    have hk4 : ∀ {l1 : Int} {l2 : Int} {l3 : Int} (cl1 : wr l1 = l1) (cl2 : wr l2 = l2) (cl3 : wr l3 = l3) {σ : st_S}, L_X5_priceOf_4 Q n l1 l2 l3 σ → J X E 4 n0 0 0 (MQ (xB X) (qI E (n0 + 0) Q) (xA X) (xS X) 0 0 (eF E)) σ 4 [(0, vR E 42), (1, vI l1), (2, vI l2), (3, vI l3)] [] := ih
    replace h : (gI σ 25 0 ≤ l3 → Q l2 σ) ∧ (¬ gI σ 25 0 ≤ l3 → (o_and (o_shr l1 l3) 1 = 0 → B_X5_priceOf_32 Q (L_X5_priceOf_4 Q n) l1 l2 l3 σ) ∧ (¬ o_and (o_shr l1 l3) 1 = 0 → ix l3 10 ∧ ∀ x12 : Int, x12 = wr (l2 + gI σ 44 (Int.toNat l3)) → B_X5_priceOf_32 Q (L_X5_priceOf_4 Q n) l1 x12 l3 σ)) := h
    refine j_iload_n hc 3 dX5_priceOf_4 rfl rfl ?_
    refine j_aload_nR hc 0 dX5_priceOf_5 rfl rfl ?_
    refine j_getR (c' := 25) hc fl_RX5_39 rfl rfl (fun hv => (sv_k hv hm rfl)) dX5_priceOf_6 ?_
    refine j_getI hc fl_RX5_54 (Or.inl rfl) (fun hv => Or.inl (sv_k hv hm rfl)) dX5_priceOf_9 (fun cn9 => ?_)
    refine j_ic_ge hc cl3 cn9 (tgt := 38) dX5_priceOf_12 (by decide) (fun q14 => ?_) (fun q14 => ?_)
    · replace h := h.1 q14
      refine j_iload_n hc 2 dX5_priceOf_38 rfl rfl ?_
      exact j_iret hc hr cl2 h dX5_priceOf_39
    · replace h := h.2 q14
      refine j_iload_n hc 1 dX5_priceOf_15 rfl rfl ?_
      refine j_iload_n hc 3 dX5_priceOf_16 rfl rfl ?_
      refine j_ishr hc dX5_priceOf_17 ?_
      refine j_iconst hc dX5_priceOf_18 ?_
      refine j_iand hc dX5_priceOf_19 ?_
      refine j_if_eq hc (cn_and _ _) (tgt := 32) dX5_priceOf_20 (by decide) (fun q13 => ?_) (fun q13 => ?_)
      · replace h := h.1 q13
        refine j_sub (lv' := [(0, vR E 42), (1, vI l1), (2, vI l2), (3, vI l3)]) [0, 1, 2, 3] rfl ?_
        exact jb_X5_priceOf_32 hc hm hr hh hk4 cl1 cl2 cl3 h
      · replace h := h.2 q13
        refine j_iload_n hc 2 dX5_priceOf_23 rfl rfl ?_
        refine j_aload_nR hc 0 dX5_priceOf_24 rfl rfl ?_
        refine j_getR (c' := 44) hc fl_RX5_15 rfl rfl (fun hv => (sv_k hv hm rfl)) dX5_priceOf_25 ?_
        refine j_iload_n hc 3 dX5_priceOf_28 rfl rfl ?_
        obtain ⟨b10, h⟩ := h
        refine j_iald (jn := (Int.toNat l3)) hc (fun hv => sv_kl hv hm rfl) cl3 b10 rfl dX5_priceOf_29 (fun cn11 => ?_)
        refine j_iadd hc dX5_priceOf_30 ?_
        refine j_w (fun x12 ex12 cx12 => ?_)
        replace h := h x12 ex12
        refine j_istore_n (lv' := [(2, vI x12), (0, vR E 42), (1, vI l1), (3, vI l3)]) hc dX5_priceOf_31 rfl (by decide) rfl ?_
        refine j_sub (lv' := [(0, vR E 42), (1, vI l1), (2, vI x12), (3, vI l3)]) [1, 2, 0, 3] rfl ?_
        exact jb_X5_priceOf_32 hc hm hr hh hk4 cl1 cx12 cl3 h
set_option maxRecDepth 20000 in
theorem c_X5_priceOf {l : Launch} {E : ev_E} (hE : Eok E) (hm : eM E = 1) {a1 : Int} (ca1 : wr a1 = a1) {σ : st_S} {Q : Int → st_S → Prop} (h : wp_X5_priceOf a1 σ Q) : cM l yX5_priceOf cX5_priceOf 4 (some .int) E 1 0 0 [vR E 42, vI a1] σ (qI E (gN σ + 0) Q) := by
  refine cM_of (lv := [(0, vR E 42), (1, vI a1)]) (by decide) hE (Nat.le_of_ble_eq_true rfl) (rfl) ?_
  intro X hX hc _ _ hr _ _
  subst hX
  have hh : 1 ≤ 1 := Nat.le_refl _
  have hh1 : 1 ≤ 1 := by omega
  replace h : ∃ m4 : Nat, L_X5_priceOf_4 Q m4 a1 0 0 σ := h
  refine j_iconst hc dX5_priceOf_0 ?_
  refine j_istore_n (lv' := [(2, vI 0), (0, vR E 42), (1, vI a1)]) hc dX5_priceOf_1 rfl (by decide) rfl ?_
  refine j_iconst hc dX5_priceOf_2 ?_
  refine j_istore_n (lv' := [(3, vI 0), (2, vI 0), (0, vR E 42), (1, vI a1)]) hc dX5_priceOf_3 rfl (by decide) rfl ?_
  obtain ⟨n4, h⟩ := h
  refine j_sub (lv' := [(0, vR E 42), (1, vI a1), (2, vI 0), (3, vI 0)]) [2, 3, 1, 0] rfl ?_
  exact jl_X5_priceOf_4 hc hm hr hh n4 ca1 (wlit 0 (by decide)) (wlit 0 (by decide)) h
-- LitStrangers$Paper.landsOf(I)I
theorem dX5_landsOf_0 : decode cX5_landsOf 0 = .ok (.iconst 0, 1) := by decide +kernel
theorem dX5_landsOf_1 : decode cX5_landsOf 1 = .ok (.istore_n 2, 1) := by decide +kernel
theorem dX5_landsOf_2 : decode cX5_landsOf 2 = .ok (.iconst 0, 1) := by decide +kernel
theorem dX5_landsOf_3 : decode cX5_landsOf 3 = .ok (.istore_n 3, 1) := by decide +kernel
theorem dX5_landsOf_4 : decode cX5_landsOf 4 = .ok (.iload_n 3, 1) := by decide +kernel
theorem dX5_landsOf_5 : decode cX5_landsOf 5 = .ok (.aload_n 0, 1) := by decide +kernel
theorem dX5_landsOf_6 : decode cX5_landsOf 6 = .ok (.getfield 39, 3) := by decide +kernel
theorem dX5_landsOf_9 : decode cX5_landsOf 9 = .ok (.getfield 54, 3) := by decide +kernel
theorem dX5_landsOf_12 : decode cX5_landsOf 12 = .ok (.if_icmp .ge 31, 3) := by decide +kernel
theorem dX5_landsOf_15 : decode cX5_landsOf 15 = .ok (.iload_n 1, 1) := by decide +kernel
theorem dX5_landsOf_16 : decode cX5_landsOf 16 = .ok (.iload_n 3, 1) := by decide +kernel
theorem dX5_landsOf_17 : decode cX5_landsOf 17 = .ok (.ishr, 1) := by decide +kernel
theorem dX5_landsOf_18 : decode cX5_landsOf 18 = .ok (.iconst 1, 1) := by decide +kernel
theorem dX5_landsOf_19 : decode cX5_landsOf 19 = .ok (.iand, 1) := by decide +kernel
theorem dX5_landsOf_20 : decode cX5_landsOf 20 = .ok (.ifCond .eq 17, 3) := by decide +kernel
theorem dX5_landsOf_23 : decode cX5_landsOf 23 = .ok (.iload_n 2, 1) := by decide +kernel
theorem dX5_landsOf_24 : decode cX5_landsOf 24 = .ok (.iconst 1, 1) := by decide +kernel
theorem dX5_landsOf_25 : decode cX5_landsOf 25 = .ok (.aload_n 0, 1) := by decide +kernel
theorem dX5_landsOf_26 : decode cX5_landsOf 26 = .ok (.getfield 39, 3) := by decide +kernel
theorem dX5_landsOf_29 : decode cX5_landsOf 29 = .ok (.getfield 93, 3) := by decide +kernel
theorem dX5_landsOf_32 : decode cX5_landsOf 32 = .ok (.iload_n 3, 1) := by decide +kernel
theorem dX5_landsOf_33 : decode cX5_landsOf 33 = .ok (.iaload, 1) := by decide +kernel
theorem dX5_landsOf_34 : decode cX5_landsOf 34 = .ok (.ishl, 1) := by decide +kernel
theorem dX5_landsOf_35 : decode cX5_landsOf 35 = .ok (.ior, 1) := by decide +kernel
theorem dX5_landsOf_36 : decode cX5_landsOf 36 = .ok (.istore_n 2, 1) := by decide +kernel
theorem dX5_landsOf_37 : decode cX5_landsOf 37 = .ok (.iinc 3 1, 3) := by decide +kernel
theorem dX5_landsOf_40 : decode cX5_landsOf 40 = .ok (.goto (-36), 3) := by decide +kernel
theorem dX5_landsOf_43 : decode cX5_landsOf 43 = .ok (.iload_n 2, 1) := by decide +kernel
theorem dX5_landsOf_44 : decode cX5_landsOf 44 = .ok (.ireturn, 1) := by decide +kernel
def B_X5_landsOf_37 (Q : Int → st_S → Prop)  (k4 : Int → Int → Int → st_S → Prop) (l1 : Int) (l2 : Int) (l3 : Int) (σ : st_S) : Prop := ∀ x8 : Int, x8 = wr (l3 + 1) → k4 l1 l2 x8 σ
def L_X5_landsOf_4 (Q : Int → st_S → Prop)   : Nat → Int → Int → Int → st_S → Prop
  | 0 => fun _ _ _ _ => False
  | n + 1 => fun l1 l2 l3 σ => (gI σ 25 0 ≤ l3 → Q l2 σ) ∧ (¬ gI σ 25 0 ≤ l3 → (o_and (o_shr l1 l3) 1 = 0 → B_X5_landsOf_37 Q (L_X5_landsOf_4 Q n) l1 l2 l3 σ) ∧ (¬ o_and (o_shr l1 l3) 1 = 0 → ix l3 10 ∧ ∀ x12 : Int, x12 = o_or l2 (o_shl 1 (gI σ 27 (Int.toNat l3))) → B_X5_landsOf_37 Q (L_X5_landsOf_4 Q n) l1 x12 l3 σ))
def wp_X5_landsOf (a1 : Int) (σ : st_S) (Q : Int → st_S → Prop) : Prop := ∃ m4 : Nat, L_X5_landsOf_4 Q m4 a1 0 0 σ
set_option maxRecDepth 20000 in
theorem jb_X5_landsOf_37 {X : jj_X} {E : ev_E} {n0 hN : Nat} (hc : Cx X E cX5_landsOf 4 n0 hN RX5) (hm : eM E = 1) (hr : (xT X).sig.returnType = (some .int)) (hh : 1 ≤ hN) {Q : Int → st_S → Prop} {k4 : Int → Int → Int → st_S → Prop} (hk4 : ∀ {l1 : Int} {l2 : Int} {l3 : Int} (cl1 : wr l1 = l1) (cl2 : wr l2 = l2) (cl3 : wr l3 = l3) {σ : st_S}, k4 l1 l2 l3 σ → J X E 4 n0 0 0 (MQ (xB X) (qI E (n0 + 0) Q) (xA X) (xS X) 0 0 (eF E)) σ 4 [(0, vR E 42), (1, vI l1), (2, vI l2), (3, vI l3)] []) {l1 : Int} {l2 : Int} {l3 : Int} (cl1 : wr l1 = l1) (cl2 : wr l2 = l2) (cl3 : wr l3 = l3) {σ : st_S} (h : B_X5_landsOf_37 Q k4 l1 l2 l3 σ) : J X E 4 n0 0 0 (MQ (xB X) (qI E (n0 + 0) Q) (xA X) (xS X) 0 0 (eF E)) σ 37 [(0, vR E 42), (1, vI l1), (2, vI l2), (3, vI l3)] [] := by
  have hh1 : 1 ≤ hN := by omega
  replace h : ∀ x8 : Int, x8 = wr (l3 + 1) → k4 l1 l2 x8 σ := h
  obtain ⟨x8, ex8⟩ : ∃ y : Int, y = wr (l3 + 1) := ⟨_, rfl⟩
  have cx8 : wr x8 = x8 := by rw [ex8]; exact wr_wr _
  replace h := h x8 ex8
  refine j_iinc (lv' := [(3, vI x8), (0, vR E 42), (1, vI l1), (2, vI l2)]) hc 3 dX5_landsOf_37 rfl (by decide) ex8 rfl ?_
  refine j_goto (tgt := 4) hc dX5_landsOf_40 (by decide) ?_
  refine j_sub (lv' := [(0, vR E 42), (1, vI l1), (2, vI l2), (3, vI x8)]) [1, 2, 3, 0] rfl ?_
  exact hk4 cl1 cl2 cx8 h
set_option maxRecDepth 20000 in
theorem jl_X5_landsOf_4 {X : jj_X} {E : ev_E} {n0 hN : Nat} (hc : Cx X E cX5_landsOf 4 n0 hN RX5) (hm : eM E = 1) (hr : (xT X).sig.returnType = (some .int)) (hh : 1 ≤ hN) {Q : Int → st_S → Prop} : ∀ (n : Nat) {l1 : Int} {l2 : Int} {l3 : Int} (cl1 : wr l1 = l1) (cl2 : wr l2 = l2) (cl3 : wr l3 = l3) {σ : st_S}, L_X5_landsOf_4 Q n l1 l2 l3 σ → J X E 4 n0 0 0 (MQ (xB X) (qI E (n0 + 0) Q) (xA X) (xS X) 0 0 (eF E)) σ 4 [(0, vR E 42), (1, vI l1), (2, vI l2), (3, vI l3)] [] := by
  have hh1 : 1 ≤ hN := by omega
  intro n
  induction n with
  | zero => intro l1 l2 l3 cl1 cl2 cl3 σ h; exact h.elim
  | succ n ih =>
    intro l1 l2 l3 cl1 cl2 cl3 σ h
    have hk4 : ∀ {l1 : Int} {l2 : Int} {l3 : Int} (cl1 : wr l1 = l1) (cl2 : wr l2 = l2) (cl3 : wr l3 = l3) {σ : st_S}, L_X5_landsOf_4 Q n l1 l2 l3 σ → J X E 4 n0 0 0 (MQ (xB X) (qI E (n0 + 0) Q) (xA X) (xS X) 0 0 (eF E)) σ 4 [(0, vR E 42), (1, vI l1), (2, vI l2), (3, vI l3)] [] := ih
    replace h : (gI σ 25 0 ≤ l3 → Q l2 σ) ∧ (¬ gI σ 25 0 ≤ l3 → (o_and (o_shr l1 l3) 1 = 0 → B_X5_landsOf_37 Q (L_X5_landsOf_4 Q n) l1 l2 l3 σ) ∧ (¬ o_and (o_shr l1 l3) 1 = 0 → ix l3 10 ∧ ∀ x12 : Int, x12 = o_or l2 (o_shl 1 (gI σ 27 (Int.toNat l3))) → B_X5_landsOf_37 Q (L_X5_landsOf_4 Q n) l1 x12 l3 σ)) := h
    refine j_iload_n hc 3 dX5_landsOf_4 rfl rfl ?_
    refine j_aload_nR hc 0 dX5_landsOf_5 rfl rfl ?_
    refine j_getR (c' := 25) hc fl_RX5_39 rfl rfl (fun hv => (sv_k hv hm rfl)) dX5_landsOf_6 ?_
    refine j_getI hc fl_RX5_54 (Or.inl rfl) (fun hv => Or.inl (sv_k hv hm rfl)) dX5_landsOf_9 (fun cn9 => ?_)
    refine j_ic_ge hc cl3 cn9 (tgt := 43) dX5_landsOf_12 (by decide) (fun q14 => ?_) (fun q14 => ?_)
    · replace h := h.1 q14
      refine j_iload_n hc 2 dX5_landsOf_43 rfl rfl ?_
      exact j_iret hc hr cl2 h dX5_landsOf_44
    · replace h := h.2 q14
      refine j_iload_n hc 1 dX5_landsOf_15 rfl rfl ?_
      refine j_iload_n hc 3 dX5_landsOf_16 rfl rfl ?_
      refine j_ishr hc dX5_landsOf_17 ?_
      refine j_iconst hc dX5_landsOf_18 ?_
      refine j_iand hc dX5_landsOf_19 ?_
      refine j_if_eq hc (cn_and _ _) (tgt := 37) dX5_landsOf_20 (by decide) (fun q13 => ?_) (fun q13 => ?_)
      · replace h := h.1 q13
        refine j_sub (lv' := [(0, vR E 42), (1, vI l1), (2, vI l2), (3, vI l3)]) [0, 1, 2, 3] rfl ?_
        exact jb_X5_landsOf_37 hc hm hr hh hk4 cl1 cl2 cl3 h
      · replace h := h.2 q13
        refine j_iload_n hc 2 dX5_landsOf_23 rfl rfl ?_
        refine j_iconst hc dX5_landsOf_24 ?_
        refine j_aload_nR hc 0 dX5_landsOf_25 rfl rfl ?_
        refine j_getR (c' := 25) hc fl_RX5_39 rfl rfl (fun hv => (sv_k hv hm rfl)) dX5_landsOf_26 ?_
        refine j_getR (c' := 27) hc fl_RX5_93 rfl rfl (fun hv => (sv_k hv hm rfl)) dX5_landsOf_29 ?_
        refine j_iload_n hc 3 dX5_landsOf_32 rfl rfl ?_
        obtain ⟨b10, h⟩ := h
        refine j_iald (jn := (Int.toNat l3)) hc (fun hv => sv_kl hv hm rfl) cl3 b10 rfl dX5_landsOf_33 (fun cn11 => ?_)
        refine j_ishl hc dX5_landsOf_34 ?_
        refine j_ior hc dX5_landsOf_35 ?_
        refine j_c (cn_or _ _) (fun x12 ex12 cx12 => ?_)
        replace h := h x12 ex12
        refine j_istore_n (lv' := [(2, vI x12), (0, vR E 42), (1, vI l1), (3, vI l3)]) hc dX5_landsOf_36 rfl (by decide) rfl ?_
        refine j_sub (lv' := [(0, vR E 42), (1, vI l1), (2, vI x12), (3, vI l3)]) [1, 2, 0, 3] rfl ?_
        exact jb_X5_landsOf_37 hc hm hr hh hk4 cl1 cx12 cl3 h
set_option maxRecDepth 20000 in
theorem c_X5_landsOf {l : Launch} {E : ev_E} (hE : Eok E) (hm : eM E = 1) {a1 : Int} (ca1 : wr a1 = a1) {σ : st_S} {Q : Int → st_S → Prop} (h : wp_X5_landsOf a1 σ Q) : cM l yX5_landsOf cX5_landsOf 4 (some .int) E 1 0 0 [vR E 42, vI a1] σ (qI E (gN σ + 0) Q) := by
  refine cM_of (lv := [(0, vR E 42), (1, vI a1)]) (by decide) hE (Nat.le_of_ble_eq_true rfl) (rfl) ?_
  intro X hX hc _ _ hr _ _
  subst hX
  have hh : 1 ≤ 1 := Nat.le_refl _
  have hh1 : 1 ≤ 1 := by omega
  replace h : ∃ m4 : Nat, L_X5_landsOf_4 Q m4 a1 0 0 σ := h
  refine j_iconst hc dX5_landsOf_0 ?_
  refine j_istore_n (lv' := [(2, vI 0), (0, vR E 42), (1, vI a1)]) hc dX5_landsOf_1 rfl (by decide) rfl ?_
  refine j_iconst hc dX5_landsOf_2 ?_
  refine j_istore_n (lv' := [(3, vI 0), (2, vI 0), (0, vR E 42), (1, vI a1)]) hc dX5_landsOf_3 rfl (by decide) rfl ?_
  obtain ⟨n4, h⟩ := h
  refine j_sub (lv' := [(0, vR E 42), (1, vI a1), (2, vI 0), (3, vI 0)]) [2, 3, 1, 0] rfl ?_
  exact jl_X5_landsOf_4 hc hm hr hh n4 ca1 (wlit 0 (by decide)) (wlit 0 (by decide)) h
-- LitStrangers$Paper.thoseWhoMatter()I
theorem dX5_thoseWhoMatter_0 : decode cX5_thoseWhoMatter 0 = .ok (.iconst 0, 1) := by decide +kernel
theorem dX5_thoseWhoMatter_1 : decode cX5_thoseWhoMatter 1 = .ok (.istore_n 1, 1) := by decide +kernel
theorem dX5_thoseWhoMatter_2 : decode cX5_thoseWhoMatter 2 = .ok (.iconst 0, 1) := by decide +kernel
theorem dX5_thoseWhoMatter_3 : decode cX5_thoseWhoMatter 3 = .ok (.istore_n 2, 1) := by decide +kernel
theorem dX5_thoseWhoMatter_4 : decode cX5_thoseWhoMatter 4 = .ok (.iload_n 2, 1) := by decide +kernel
theorem dX5_thoseWhoMatter_5 : decode cX5_thoseWhoMatter 5 = .ok (.aload_n 0, 1) := by decide +kernel
theorem dX5_thoseWhoMatter_6 : decode cX5_thoseWhoMatter 6 = .ok (.getfield 39, 3) := by decide +kernel
theorem dX5_thoseWhoMatter_9 : decode cX5_thoseWhoMatter 9 = .ok (.getfield 54, 3) := by decide +kernel
theorem dX5_thoseWhoMatter_12 : decode cX5_thoseWhoMatter 12 = .ok (.if_icmp .ge 52, 3) := by decide +kernel
theorem dX5_thoseWhoMatter_15 : decode cX5_thoseWhoMatter 15 = .ok (.aload_n 0, 1) := by decide +kernel
theorem dX5_thoseWhoMatter_16 : decode cX5_thoseWhoMatter 16 = .ok (.getfield 47, 3) := by decide +kernel
theorem dX5_thoseWhoMatter_19 : decode cX5_thoseWhoMatter 19 = .ok (.iload_n 2, 1) := by decide +kernel
theorem dX5_thoseWhoMatter_20 : decode cX5_thoseWhoMatter 20 = .ok (.ishr, 1) := by decide +kernel
theorem dX5_thoseWhoMatter_21 : decode cX5_thoseWhoMatter 21 = .ok (.iconst 1, 1) := by decide +kernel
theorem dX5_thoseWhoMatter_22 : decode cX5_thoseWhoMatter 22 = .ok (.iand, 1) := by decide +kernel
theorem dX5_thoseWhoMatter_23 : decode cX5_thoseWhoMatter 23 = .ok (.ifCond .eq 17, 3) := by decide +kernel
theorem dX5_thoseWhoMatter_26 : decode cX5_thoseWhoMatter 26 = .ok (.aload_n 0, 1) := by decide +kernel
theorem dX5_thoseWhoMatter_27 : decode cX5_thoseWhoMatter 27 = .ok (.getfield 18, 3) := by decide +kernel
theorem dX5_thoseWhoMatter_30 : decode cX5_thoseWhoMatter 30 = .ok (.iload_n 2, 1) := by decide +kernel
theorem dX5_thoseWhoMatter_31 : decode cX5_thoseWhoMatter 31 = .ok (.iaload, 1) := by decide +kernel
theorem dX5_thoseWhoMatter_32 : decode cX5_thoseWhoMatter 32 = .ok (.aload_n 0, 1) := by decide +kernel
theorem dX5_thoseWhoMatter_33 : decode cX5_thoseWhoMatter 33 = .ok (.getfield 47, 3) := by decide +kernel
theorem dX5_thoseWhoMatter_36 : decode cX5_thoseWhoMatter 36 = .ok (.iand, 1) := by decide +kernel
theorem dX5_thoseWhoMatter_37 : decode cX5_thoseWhoMatter 37 = .ok (.goto 4, 3) := by decide +kernel
theorem dX5_thoseWhoMatter_40 : decode cX5_thoseWhoMatter 40 = .ok (.iconst 0, 1) := by decide +kernel
theorem dX5_thoseWhoMatter_41 : decode cX5_thoseWhoMatter 41 = .ok (.istore_n 3, 1) := by decide +kernel
theorem dX5_thoseWhoMatter_42 : decode cX5_thoseWhoMatter 42 = .ok (.iload_n 1, 1) := by decide +kernel
theorem dX5_thoseWhoMatter_43 : decode cX5_thoseWhoMatter 43 = .ok (.iload_n 3, 1) := by decide +kernel
theorem dX5_thoseWhoMatter_44 : decode cX5_thoseWhoMatter 44 = .ok (.ifCond .ne 7, 3) := by decide +kernel
theorem dX5_thoseWhoMatter_47 : decode cX5_thoseWhoMatter 47 = .ok (.iconst 0, 1) := by decide +kernel
theorem dX5_thoseWhoMatter_48 : decode cX5_thoseWhoMatter 48 = .ok (.goto 8, 3) := by decide +kernel
theorem dX5_thoseWhoMatter_51 : decode cX5_thoseWhoMatter 51 = .ok (.iload_n 3, 1) := by decide +kernel
theorem dX5_thoseWhoMatter_52 : decode cX5_thoseWhoMatter 52 = .ok (.iconst 1, 1) := by decide +kernel
theorem dX5_thoseWhoMatter_53 : decode cX5_thoseWhoMatter 53 = .ok (.iload_n 2, 1) := by decide +kernel
theorem dX5_thoseWhoMatter_54 : decode cX5_thoseWhoMatter 54 = .ok (.ishl, 1) := by decide +kernel
theorem dX5_thoseWhoMatter_55 : decode cX5_thoseWhoMatter 55 = .ok (.ior, 1) := by decide +kernel
theorem dX5_thoseWhoMatter_56 : decode cX5_thoseWhoMatter 56 = .ok (.ior, 1) := by decide +kernel
theorem dX5_thoseWhoMatter_57 : decode cX5_thoseWhoMatter 57 = .ok (.istore_n 1, 1) := by decide +kernel
theorem dX5_thoseWhoMatter_58 : decode cX5_thoseWhoMatter 58 = .ok (.iinc 2 1, 3) := by decide +kernel
theorem dX5_thoseWhoMatter_61 : decode cX5_thoseWhoMatter 61 = .ok (.goto (-57), 3) := by decide +kernel
theorem dX5_thoseWhoMatter_64 : decode cX5_thoseWhoMatter 64 = .ok (.iload_n 1, 1) := by decide +kernel
theorem dX5_thoseWhoMatter_65 : decode cX5_thoseWhoMatter 65 = .ok (.ireturn, 1) := by decide +kernel
def B_X5_thoseWhoMatter_56 (Q : Int → st_S → Prop)  (k4 : Int → Int → st_S → Prop) (l2 : Int) (v0 : Int) (v1 : Int) (σ : st_S) : Prop := ∀ x11 : Int, x11 = o_or v1 v0 → ∀ x12 : Int, x12 = wr (l2 + 1) → k4 x11 x12 σ
def B_X5_thoseWhoMatter_41 (Q : Int → st_S → Prop)  (k4 : Int → Int → st_S → Prop) (l1 : Int) (l2 : Int) (v0 : Int) (σ : st_S) : Prop := (¬ v0 = 0 → B_X5_thoseWhoMatter_56 Q k4 l2 (o_or v0 (o_shl 1 l2)) l1 σ) ∧ (v0 = 0 → B_X5_thoseWhoMatter_56 Q k4 l2 0 l1 σ)
def L_X5_thoseWhoMatter_4 (Q : Int → st_S → Prop)   : Nat → Int → Int → st_S → Prop
  | 0 => fun _ _ _ => False
  | n + 1 => fun l1 l2 σ => (gI σ 25 0 ≤ l2 → Q l1 σ) ∧ (¬ gI σ 25 0 ≤ l2 → (o_and (o_shr (gI σ 42 0) l2) 1 = 0 → B_X5_thoseWhoMatter_41 Q (L_X5_thoseWhoMatter_4 Q n) l1 l2 0 σ) ∧ (¬ o_and (o_shr (gI σ 42 0) l2) 1 = 0 → ix l2 10 ∧ B_X5_thoseWhoMatter_41 Q (L_X5_thoseWhoMatter_4 Q n) l1 l2 (o_and (gI σ 45 (Int.toNat l2)) (gI σ 42 0)) σ))
def wp_X5_thoseWhoMatter  (σ : st_S) (Q : Int → st_S → Prop) : Prop := ∃ m4 : Nat, L_X5_thoseWhoMatter_4 Q m4 0 0 σ
set_option maxRecDepth 20000 in
theorem jb_X5_thoseWhoMatter_56 {X : jj_X} {E : ev_E} {n0 hN : Nat} (hc : Cx X E cX5_thoseWhoMatter 4 n0 hN RX5) (hm : eM E = 1) (hr : (xT X).sig.returnType = (some .int)) (hh : 1 ≤ hN) {Q : Int → st_S → Prop} {k4 : Int → Int → st_S → Prop} (hk4 : ∀ {l1 : Int} {l2 : Int} (cl1 : wr l1 = l1) (cl2 : wr l2 = l2) {σ : st_S}, k4 l1 l2 σ → J X E 4 n0 0 0 (MQ (xB X) (qI E (n0 + 0) Q) (xA X) (xS X) 0 0 (eF E)) σ 4 [(0, vR E 42), (1, vI l1), (2, vI l2)] []) {l2 : Int} {v0 : Int} {v1 : Int} (cl2 : wr l2 = l2) (cv0 : wr v0 = v0) {σ : st_S} (h : B_X5_thoseWhoMatter_56 Q k4 l2 v0 v1 σ) : J X E 4 n0 0 0 (MQ (xB X) (qI E (n0 + 0) Q) (xA X) (xS X) 0 0 (eF E)) σ 56 [(0, vR E 42), (2, vI l2)] [vI v0, vI v1] := by
  have hh1 : 1 ≤ hN := by omega
  replace h : ∀ x11 : Int, x11 = o_or v1 v0 → ∀ x12 : Int, x12 = wr (l2 + 1) → k4 x11 x12 σ := h
  refine j_ior hc dX5_thoseWhoMatter_56 ?_
  refine j_c (cn_or _ _) (fun x11 ex11 cx11 => ?_)
  replace h := h x11 ex11
  refine j_istore_n (lv' := [(1, vI x11), (0, vR E 42), (2, vI l2)]) hc dX5_thoseWhoMatter_57 rfl (by decide) rfl ?_
  obtain ⟨x12, ex12⟩ : ∃ y : Int, y = wr (l2 + 1) := ⟨_, rfl⟩
  have cx12 : wr x12 = x12 := by rw [ex12]; exact wr_wr _
  replace h := h x12 ex12
  refine j_iinc (lv' := [(2, vI x12), (1, vI x11), (0, vR E 42)]) hc 2 dX5_thoseWhoMatter_58 rfl (by decide) ex12 rfl ?_
  refine j_goto (tgt := 4) hc dX5_thoseWhoMatter_61 (by decide) ?_
  refine j_sub (lv' := [(0, vR E 42), (1, vI x11), (2, vI x12)]) [2, 1, 0] rfl ?_
  exact hk4 cx11 cx12 h
set_option maxRecDepth 20000 in
theorem jb_X5_thoseWhoMatter_41 {X : jj_X} {E : ev_E} {n0 hN : Nat} (hc : Cx X E cX5_thoseWhoMatter 4 n0 hN RX5) (hm : eM E = 1) (hr : (xT X).sig.returnType = (some .int)) (hh : 1 ≤ hN) {Q : Int → st_S → Prop} {k4 : Int → Int → st_S → Prop} (hk4 : ∀ {l1 : Int} {l2 : Int} (cl1 : wr l1 = l1) (cl2 : wr l2 = l2) {σ : st_S}, k4 l1 l2 σ → J X E 4 n0 0 0 (MQ (xB X) (qI E (n0 + 0) Q) (xA X) (xS X) 0 0 (eF E)) σ 4 [(0, vR E 42), (1, vI l1), (2, vI l2)] []) {l1 : Int} {l2 : Int} {v0 : Int} (cl1 : wr l1 = l1) (cl2 : wr l2 = l2) (cv0 : wr v0 = v0) {σ : st_S} (h : B_X5_thoseWhoMatter_41 Q k4 l1 l2 v0 σ) : J X E 4 n0 0 0 (MQ (xB X) (qI E (n0 + 0) Q) (xA X) (xS X) 0 0 (eF E)) σ 41 [(0, vR E 42), (1, vI l1), (2, vI l2)] [vI v0] := by
  have hh1 : 1 ≤ hN := by omega
  replace h : (¬ v0 = 0 → B_X5_thoseWhoMatter_56 Q k4 l2 (o_or v0 (o_shl 1 l2)) l1 σ) ∧ (v0 = 0 → B_X5_thoseWhoMatter_56 Q k4 l2 0 l1 σ) := h
  refine j_istore_n (lv' := [(3, vI v0), (0, vR E 42), (1, vI l1), (2, vI l2)]) hc dX5_thoseWhoMatter_41 rfl (by decide) rfl ?_
  refine j_iload_n hc 2 dX5_thoseWhoMatter_42 rfl rfl ?_
  refine j_iload_n hc 0 dX5_thoseWhoMatter_43 rfl rfl ?_
  refine j_if_ne hc cv0 (tgt := 51) dX5_thoseWhoMatter_44 (by decide) (fun q13 => ?_) (fun q13 => ?_)
  · replace h := h.1 q13
    refine j_iload_n hc 0 dX5_thoseWhoMatter_51 rfl rfl ?_
    refine j_iconst hc dX5_thoseWhoMatter_52 ?_
    refine j_iload_n hc 3 dX5_thoseWhoMatter_53 rfl rfl ?_
    refine j_ishl hc dX5_thoseWhoMatter_54 ?_
    refine j_ior hc dX5_thoseWhoMatter_55 ?_
    refine j_sub (lv' := [(0, vR E 42), (2, vI l2)]) [1, 3] rfl ?_
    exact jb_X5_thoseWhoMatter_56 hc hm hr hh hk4 cl2 (cn_or _ _) h
  · replace h := h.2 q13
    refine j_iconst hc dX5_thoseWhoMatter_47 ?_
    refine j_goto (tgt := 56) hc dX5_thoseWhoMatter_48 (by decide) ?_
    refine j_sub (lv' := [(0, vR E 42), (2, vI l2)]) [1, 3] rfl ?_
    exact jb_X5_thoseWhoMatter_56 hc hm hr hh hk4 cl2 (wlit 0 (by decide)) h
set_option maxRecDepth 20000 in
theorem jl_X5_thoseWhoMatter_4 {X : jj_X} {E : ev_E} {n0 hN : Nat} (hc : Cx X E cX5_thoseWhoMatter 4 n0 hN RX5) (hm : eM E = 1) (hr : (xT X).sig.returnType = (some .int)) (hh : 1 ≤ hN) {Q : Int → st_S → Prop} : ∀ (n : Nat) {l1 : Int} {l2 : Int} (cl1 : wr l1 = l1) (cl2 : wr l2 = l2) {σ : st_S}, L_X5_thoseWhoMatter_4 Q n l1 l2 σ → J X E 4 n0 0 0 (MQ (xB X) (qI E (n0 + 0) Q) (xA X) (xS X) 0 0 (eF E)) σ 4 [(0, vR E 42), (1, vI l1), (2, vI l2)] [] := by
  have hh1 : 1 ≤ hN := by omega
  intro n
  induction n with
  | zero => intro l1 l2 cl1 cl2 σ h; exact h.elim
  | succ n ih =>
    intro l1 l2 cl1 cl2 σ h
    have hk4 : ∀ {l1 : Int} {l2 : Int} (cl1 : wr l1 = l1) (cl2 : wr l2 = l2) {σ : st_S}, L_X5_thoseWhoMatter_4 Q n l1 l2 σ → J X E 4 n0 0 0 (MQ (xB X) (qI E (n0 + 0) Q) (xA X) (xS X) 0 0 (eF E)) σ 4 [(0, vR E 42), (1, vI l1), (2, vI l2)] [] := ih
    replace h : (gI σ 25 0 ≤ l2 → Q l1 σ) ∧ (¬ gI σ 25 0 ≤ l2 → (o_and (o_shr (gI σ 42 0) l2) 1 = 0 → B_X5_thoseWhoMatter_41 Q (L_X5_thoseWhoMatter_4 Q n) l1 l2 0 σ) ∧ (¬ o_and (o_shr (gI σ 42 0) l2) 1 = 0 → ix l2 10 ∧ B_X5_thoseWhoMatter_41 Q (L_X5_thoseWhoMatter_4 Q n) l1 l2 (o_and (gI σ 45 (Int.toNat l2)) (gI σ 42 0)) σ)) := h
    refine j_iload_n hc 2 dX5_thoseWhoMatter_4 rfl rfl ?_
    refine j_aload_nR hc 0 dX5_thoseWhoMatter_5 rfl rfl ?_
    refine j_getR (c' := 25) hc fl_RX5_39 rfl rfl (fun hv => (sv_k hv hm rfl)) dX5_thoseWhoMatter_6 ?_
    refine j_getI hc fl_RX5_54 (Or.inl rfl) (fun hv => Or.inl (sv_k hv hm rfl)) dX5_thoseWhoMatter_9 (fun cn14 => ?_)
    refine j_ic_ge hc cl2 cn14 (tgt := 64) dX5_thoseWhoMatter_12 (by decide) (fun q20 => ?_) (fun q20 => ?_)
    · replace h := h.1 q20
      refine j_iload_n hc 1 dX5_thoseWhoMatter_64 rfl rfl ?_
      exact j_iret hc hr cl1 h dX5_thoseWhoMatter_65
    · replace h := h.2 q20
      refine j_aload_nR hc 0 dX5_thoseWhoMatter_15 rfl rfl ?_
      refine j_getI hc fl_RX5_47 (Or.inl rfl) (fun hv => Or.inl (sv_k hv hm rfl)) dX5_thoseWhoMatter_16 (fun cn15 => ?_)
      refine j_iload_n hc 2 dX5_thoseWhoMatter_19 rfl rfl ?_
      refine j_ishr hc dX5_thoseWhoMatter_20 ?_
      refine j_iconst hc dX5_thoseWhoMatter_21 ?_
      refine j_iand hc dX5_thoseWhoMatter_22 ?_
      refine j_if_eq hc (cn_and _ _) (tgt := 40) dX5_thoseWhoMatter_23 (by decide) (fun q19 => ?_) (fun q19 => ?_)
      · replace h := h.1 q19
        refine j_iconst hc dX5_thoseWhoMatter_40 ?_
        refine j_sub (lv' := [(0, vR E 42), (1, vI l1), (2, vI l2)]) [0, 1, 2] rfl ?_
        exact jb_X5_thoseWhoMatter_41 hc hm hr hh hk4 cl1 cl2 (wlit 0 (by decide)) h
      · replace h := h.2 q19
        refine j_aload_nR hc 0 dX5_thoseWhoMatter_26 rfl rfl ?_
        refine j_getR (c' := 45) hc fl_RX5_18 rfl rfl (fun hv => (sv_k hv hm rfl)) dX5_thoseWhoMatter_27 ?_
        refine j_iload_n hc 2 dX5_thoseWhoMatter_30 rfl rfl ?_
        obtain ⟨b16, h⟩ := h
        refine j_iald (jn := (Int.toNat l2)) hc (fun hv => sv_kl hv hm rfl) cl2 b16 rfl dX5_thoseWhoMatter_31 (fun cn17 => ?_)
        refine j_aload_nR hc 0 dX5_thoseWhoMatter_32 rfl rfl ?_
        refine j_getI hc fl_RX5_47 (Or.inl rfl) (fun hv => Or.inl (sv_k hv hm rfl)) dX5_thoseWhoMatter_33 (fun cn18 => ?_)
        refine j_iand hc dX5_thoseWhoMatter_36 ?_
        refine j_goto (tgt := 41) hc dX5_thoseWhoMatter_37 (by decide) ?_
        refine j_sub (lv' := [(0, vR E 42), (1, vI l1), (2, vI l2)]) [0, 1, 2] rfl ?_
        exact jb_X5_thoseWhoMatter_41 hc hm hr hh hk4 cl1 cl2 (cn_and _ _) h
set_option maxRecDepth 20000 in
theorem c_X5_thoseWhoMatter {l : Launch} {E : ev_E} (hE : Eok E) (hm : eM E = 1) {σ : st_S} {Q : Int → st_S → Prop} (h : wp_X5_thoseWhoMatter σ Q) : cM l yX5_thoseWhoMatter cX5_thoseWhoMatter 4 (some .int) E 1 0 0 [vR E 42] σ (qI E (gN σ + 0) Q) := by
  refine cM_of (lv := [(0, vR E 42)]) (by decide) hE (Nat.le_of_ble_eq_true rfl) (rfl) ?_
  intro X hX hc _ _ hr _ _
  subst hX
  have hh : 1 ≤ 1 := Nat.le_refl _
  have hh1 : 1 ≤ 1 := by omega
  replace h : ∃ m4 : Nat, L_X5_thoseWhoMatter_4 Q m4 0 0 σ := h
  refine j_iconst hc dX5_thoseWhoMatter_0 ?_
  refine j_istore_n (lv' := [(1, vI 0), (0, vR E 42)]) hc dX5_thoseWhoMatter_1 rfl (by decide) rfl ?_
  refine j_iconst hc dX5_thoseWhoMatter_2 ?_
  refine j_istore_n (lv' := [(2, vI 0), (1, vI 0), (0, vR E 42)]) hc dX5_thoseWhoMatter_3 rfl (by decide) rfl ?_
  obtain ⟨n4, h⟩ := h
  refine j_sub (lv' := [(0, vR E 42), (1, vI 0), (2, vI 0)]) [2, 1, 0] rfl ?_
  exact jl_X5_thoseWhoMatter_4 hc hm hr hh n4 (wlit 0 (by decide)) (wlit 0 (by decide)) h
-- LitStrangers$Paper.sets()I
theorem dX5_sets_0 : decode cX5_sets 0 = .ok (.iconst 1, 1) := by decide +kernel
theorem dX5_sets_1 : decode cX5_sets 1 = .ok (.iconst 0, 1) := by decide +kernel
theorem dX5_sets_2 : decode cX5_sets 2 = .ok (.bipush 10, 2) := by decide +kernel
theorem dX5_sets_4 : decode cX5_sets 4 = .ok (.aload_n 0, 1) := by decide +kernel
theorem dX5_sets_5 : decode cX5_sets 5 = .ok (.getfield 39, 3) := by decide +kernel
theorem dX5_sets_8 : decode cX5_sets 8 = .ok (.getfield 54, 3) := by decide +kernel
theorem dX5_sets_11 : decode cX5_sets 11 = .ok (.invokestatic 96, 3) := by decide +kernel
theorem dX5_sets_14 : decode cX5_sets 14 = .ok (.invokestatic 102, 3) := by decide +kernel
theorem dX5_sets_17 : decode cX5_sets 17 = .ok (.ishl, 1) := by decide +kernel
theorem dX5_sets_18 : decode cX5_sets 18 = .ok (.ireturn, 1) := by decide +kernel
def wp_X5_sets  (σ : st_S) (Q : Int → st_S → Prop) : Prop := Q (o_shl 1 (o_max 0 (o_min 10 (gI σ 25 0)))) σ
set_option maxRecDepth 20000 in
theorem c_X5_sets {l : Launch} {E : ev_E} (hE : Eok E) (hm : eM E = 1) {σ : st_S} {Q : Int → st_S → Prop} (h : wp_X5_sets σ Q) : cM l yX5_sets cX5_sets 1 (some .int) E 1 0 0 [vR E 42] σ (qI E (gN σ + 0) Q) := by
  refine cM_of (lv := [(0, vR E 42)]) (by decide) hE (Nat.le_of_ble_eq_true rfl) (rfl) ?_
  intro X hX hc _ _ hr _ _
  subst hX
  have hh : 1 ≤ 1 := Nat.le_refl _
  have hh1 : 1 ≤ 1 := by omega
  replace h : Q (o_shl 1 (o_max 0 (o_min 10 (gI σ 25 0)))) σ := h
  refine j_iconst hc dX5_sets_0 ?_
  refine j_iconst hc dX5_sets_1 ?_
  refine j_bipush hc dX5_sets_2 (by decide) ?_
  refine j_aload_nR hc 0 dX5_sets_4 rfl rfl ?_
  refine j_getR (c' := 25) hc fl_RX5_39 rfl rfl (fun hv => (sv_k hv hm rfl)) dX5_sets_5 ?_
  refine j_getI hc fl_RX5_54 (Or.inl rfl) (fun hv => Or.inl (sv_k hv hm rfl)) dX5_sets_8 (fun cn4 => ?_)
  refine j_mmin hc mm_RX5_96 hh1 (wlit 10 (by decide)) cn4 (Nat.le_of_ble_eq_true rfl) ⟨Nat.zero_le _, Nat.zero_le _⟩ dX5_sets_11 (fun cn5 => ?_)
  refine j_mmax hc mm_RX5_102 hh1 (wlit 0 (by decide)) cn5 (Nat.le_of_ble_eq_true rfl) ⟨Nat.zero_le _, Nat.zero_le _⟩ dX5_sets_14 (fun cn6 => ?_)
  refine j_ishl hc dX5_sets_17 ?_
  exact j_iret hc hr (cn_shl _ _) h dX5_sets_18
-- LitStrangers$Paper.nightsFrom(III)I
theorem dX5_nightsFrom_0 : decode cX5_nightsFrom 0 = .ok (.iload_n 2, 1) := by decide +kernel
theorem dX5_nightsFrom_1 : decode cX5_nightsFrom 1 = .ok (.iload_n 3, 1) := by decide +kernel
theorem dX5_nightsFrom_2 : decode cX5_nightsFrom 2 = .ok (.iconst (-1), 1) := by decide +kernel
theorem dX5_nightsFrom_3 : decode cX5_nightsFrom 3 = .ok (.ixor, 1) := by decide +kernel
theorem dX5_nightsFrom_4 : decode cX5_nightsFrom 4 = .ok (.iand, 1) := by decide +kernel
theorem dX5_nightsFrom_5 : decode cX5_nightsFrom 5 = .ok (.istore 4, 2) := by decide +kernel
theorem dX5_nightsFrom_7 : decode cX5_nightsFrom 7 = .ok (.iload_n 2, 1) := by decide +kernel
theorem dX5_nightsFrom_8 : decode cX5_nightsFrom 8 = .ok (.iload_n 3, 1) := by decide +kernel
theorem dX5_nightsFrom_9 : decode cX5_nightsFrom 9 = .ok (.iand, 1) := by decide +kernel
theorem dX5_nightsFrom_10 : decode cX5_nightsFrom 10 = .ok (.iload_n 3, 1) := by decide +kernel
theorem dX5_nightsFrom_11 : decode cX5_nightsFrom 11 = .ok (.bipush 10, 2) := by decide +kernel
theorem dX5_nightsFrom_13 : decode cX5_nightsFrom 13 = .ok (.ishr, 1) := by decide +kernel
theorem dX5_nightsFrom_14 : decode cX5_nightsFrom 14 = .ok (.iconst (-1), 1) := by decide +kernel
theorem dX5_nightsFrom_15 : decode cX5_nightsFrom 15 = .ok (.ixor, 1) := by decide +kernel
theorem dX5_nightsFrom_16 : decode cX5_nightsFrom 16 = .ok (.iand, 1) := by decide +kernel
theorem dX5_nightsFrom_17 : decode cX5_nightsFrom 17 = .ok (.istore 5, 2) := by decide +kernel
theorem dX5_nightsFrom_19 : decode cX5_nightsFrom 19 = .ok (.iconst 0, 1) := by decide +kernel
theorem dX5_nightsFrom_20 : decode cX5_nightsFrom 20 = .ok (.istore 6, 2) := by decide +kernel
theorem dX5_nightsFrom_22 : decode cX5_nightsFrom 22 = .ok (.iload_n 1, 1) := by decide +kernel
theorem dX5_nightsFrom_23 : decode cX5_nightsFrom 23 = .ok (.istore 7, 2) := by decide +kernel
theorem dX5_nightsFrom_25 : decode cX5_nightsFrom 25 = .ok (.iload 7, 2) := by decide +kernel
theorem dX5_nightsFrom_27 : decode cX5_nightsFrom 27 = .ok (.ifCond .lt 72, 3) := by decide +kernel
theorem dX5_nightsFrom_30 : decode cX5_nightsFrom 30 = .ok (.iload 7, 2) := by decide +kernel
theorem dX5_nightsFrom_32 : decode cX5_nightsFrom 32 = .ok (.aload_n 0, 1) := by decide +kernel
theorem dX5_nightsFrom_33 : decode cX5_nightsFrom 33 = .ok (.getfield 39, 3) := by decide +kernel
theorem dX5_nightsFrom_36 : decode cX5_nightsFrom 36 = .ok (.getfield 54, 3) := by decide +kernel
theorem dX5_nightsFrom_39 : decode cX5_nightsFrom 39 = .ok (.if_icmp .ge 60, 3) := by decide +kernel
theorem dX5_nightsFrom_42 : decode cX5_nightsFrom 42 = .ok (.iload 6, 2) := by decide +kernel
theorem dX5_nightsFrom_44 : decode cX5_nightsFrom 44 = .ok (.aload_n 0, 1) := by decide +kernel
theorem dX5_nightsFrom_45 : decode cX5_nightsFrom 45 = .ok (.getfield 24, 3) := by decide +kernel
theorem dX5_nightsFrom_48 : decode cX5_nightsFrom 48 = .ok (.iload 7, 2) := by decide +kernel
theorem dX5_nightsFrom_50 : decode cX5_nightsFrom 50 = .ok (.iaload, 1) := by decide +kernel
theorem dX5_nightsFrom_51 : decode cX5_nightsFrom 51 = .ok (.iadd, 1) := by decide +kernel
theorem dX5_nightsFrom_52 : decode cX5_nightsFrom 52 = .ok (.istore 6, 2) := by decide +kernel
theorem dX5_nightsFrom_54 : decode cX5_nightsFrom 54 = .ok (.iconst 2, 1) := by decide +kernel
theorem dX5_nightsFrom_55 : decode cX5_nightsFrom 55 = .ok (.iload 4, 2) := by decide +kernel
theorem dX5_nightsFrom_57 : decode cX5_nightsFrom 57 = .ok (.aload_n 0, 1) := by decide +kernel
theorem dX5_nightsFrom_58 : decode cX5_nightsFrom 58 = .ok (.getfield 27, 3) := by decide +kernel
theorem dX5_nightsFrom_61 : decode cX5_nightsFrom 61 = .ok (.iload 7, 2) := by decide +kernel
theorem dX5_nightsFrom_63 : decode cX5_nightsFrom 63 = .ok (.iaload, 1) := by decide +kernel
theorem dX5_nightsFrom_64 : decode cX5_nightsFrom 64 = .ok (.iand, 1) := by decide +kernel
theorem dX5_nightsFrom_65 : decode cX5_nightsFrom 65 = .ok (.invokestatic 105, 3) := by decide +kernel
theorem dX5_nightsFrom_68 : decode cX5_nightsFrom 68 = .ok (.imul, 1) := by decide +kernel
theorem dX5_nightsFrom_69 : decode cX5_nightsFrom 69 = .ok (.iload 5, 2) := by decide +kernel
theorem dX5_nightsFrom_71 : decode cX5_nightsFrom 71 = .ok (.aload_n 0, 1) := by decide +kernel
theorem dX5_nightsFrom_72 : decode cX5_nightsFrom 72 = .ok (.getfield 27, 3) := by decide +kernel
theorem dX5_nightsFrom_75 : decode cX5_nightsFrom 75 = .ok (.iload 7, 2) := by decide +kernel
theorem dX5_nightsFrom_77 : decode cX5_nightsFrom 77 = .ok (.iaload, 1) := by decide +kernel
theorem dX5_nightsFrom_78 : decode cX5_nightsFrom 78 = .ok (.iand, 1) := by decide +kernel
theorem dX5_nightsFrom_79 : decode cX5_nightsFrom 79 = .ok (.invokestatic 105, 3) := by decide +kernel
theorem dX5_nightsFrom_82 : decode cX5_nightsFrom 82 = .ok (.iadd, 1) := by decide +kernel
theorem dX5_nightsFrom_83 : decode cX5_nightsFrom 83 = .ok (.iload 6, 2) := by decide +kernel
theorem dX5_nightsFrom_85 : decode cX5_nightsFrom 85 = .ok (.if_icmp .ge 8, 3) := by decide +kernel
theorem dX5_nightsFrom_88 : decode cX5_nightsFrom 88 = .ok (.iload 7, 2) := by decide +kernel
theorem dX5_nightsFrom_90 : decode cX5_nightsFrom 90 = .ok (.iload_n 1, 1) := by decide +kernel
theorem dX5_nightsFrom_91 : decode cX5_nightsFrom 91 = .ok (.isub, 1) := by decide +kernel
theorem dX5_nightsFrom_92 : decode cX5_nightsFrom 92 = .ok (.ireturn, 1) := by decide +kernel
theorem dX5_nightsFrom_93 : decode cX5_nightsFrom 93 = .ok (.iinc 7 1, 3) := by decide +kernel
theorem dX5_nightsFrom_96 : decode cX5_nightsFrom 96 = .ok (.goto (-71), 3) := by decide +kernel
theorem dX5_nightsFrom_99 : decode cX5_nightsFrom 99 = .ok (.iconst 0, 1) := by decide +kernel
theorem dX5_nightsFrom_100 : decode cX5_nightsFrom 100 = .ok (.aload_n 0, 1) := by decide +kernel
theorem dX5_nightsFrom_101 : decode cX5_nightsFrom 101 = .ok (.getfield 39, 3) := by decide +kernel
theorem dX5_nightsFrom_104 : decode cX5_nightsFrom 104 = .ok (.getfield 54, 3) := by decide +kernel
theorem dX5_nightsFrom_107 : decode cX5_nightsFrom 107 = .ok (.iload_n 1, 1) := by decide +kernel
theorem dX5_nightsFrom_108 : decode cX5_nightsFrom 108 = .ok (.isub, 1) := by decide +kernel
theorem dX5_nightsFrom_109 : decode cX5_nightsFrom 109 = .ok (.invokestatic 102, 3) := by decide +kernel
theorem dX5_nightsFrom_112 : decode cX5_nightsFrom 112 = .ok (.ireturn, 1) := by decide +kernel
def B_X5_nightsFrom_99 (Q : Int → st_S → Prop)   (l1 : Int) (σ : st_S) : Prop := Q (o_max 0 (wr (gI σ 25 0 - l1))) σ
def L_X5_nightsFrom_25 (Q : Int → st_S → Prop)   : Nat → Int → Int → Int → Int → Int → st_S → Prop
  | 0 => fun _ _ _ _ _ _ => False
  | n + 1 => fun l1 l4 l5 l6 l7 σ => (l7 < 0 → B_X5_nightsFrom_99 Q l1 σ) ∧ (¬ l7 < 0 → (gI σ 25 0 ≤ l7 → B_X5_nightsFrom_99 Q l1 σ) ∧ (¬ gI σ 25 0 ≤ l7 → ix l7 10 ∧ ∀ x25 : Int, x25 = wr (l6 + gI σ 47 (Int.toNat l7)) → ix l7 10 ∧ wp_J6_bitCount_0f7a4 (o_and l4 (gI σ 48 (Int.toNat l7))) σ (fun r28 s29 => ix l7 10 ∧ wp_J6_bitCount_0f7a4 (o_and l5 (gI s29 48 (Int.toNat l7))) s29 (fun r32 s33 => (x25 ≤ wr ((2 * r28) + r32) → ∀ x34 : Int, x34 = wr (l7 + 1) → (L_X5_nightsFrom_25 Q n) l1 l4 l5 x25 x34 s33) ∧ (¬ x25 ≤ wr ((2 * r28) + r32) → Q (wr (l7 - l1)) s33)))))
def wp_X5_nightsFrom (a1 : Int) (a2 : Int) (a3 : Int) (σ : st_S) (Q : Int → st_S → Prop) : Prop := ∀ x38 : Int, x38 = o_and a2 (o_xor a3 (-1)) → ∀ x39 : Int, x39 = o_and (o_and a2 a3) (o_xor (o_shr a3 10) (-1)) → ∃ m25 : Nat, L_X5_nightsFrom_25 Q m25 a1 x38 x39 0 a1 σ
set_option maxRecDepth 20000 in
theorem jb_X5_nightsFrom_99 {X : jj_X} {E : ev_E} {n0 hN : Nat} (hc : Cx X E cX5_nightsFrom 8 n0 hN RX5) (hm : eM E = 1) (hr : (xT X).sig.returnType = (some .int)) (hh : 2 ≤ hN) {Q : Int → st_S → Prop} {l1 : Int} (cl1 : wr l1 = l1) {σ : st_S} (h : B_X5_nightsFrom_99 Q l1 σ) : J X E 8 n0 0 0 (MQ (xB X) (qI E (n0 + 0) Q) (xA X) (xS X) 0 0 (eF E)) σ 99 [(0, vR E 42), (1, vI l1)] [] := by
  have hh1 : 1 ≤ hN := by omega
  replace h : Q (o_max 0 (wr (gI σ 25 0 - l1))) σ := h
  refine j_iconst hc dX5_nightsFrom_99 ?_
  refine j_aload_nR hc 0 dX5_nightsFrom_100 rfl rfl ?_
  refine j_getR (c' := 25) hc fl_RX5_39 rfl rfl (fun hv => (sv_k hv hm rfl)) dX5_nightsFrom_101 ?_
  refine j_getI hc fl_RX5_54 (Or.inl rfl) (fun hv => Or.inl (sv_k hv hm rfl)) dX5_nightsFrom_104 (fun cn20 => ?_)
  refine j_iload_n hc 1 dX5_nightsFrom_107 rfl rfl ?_
  refine j_isub hc dX5_nightsFrom_108 ?_
  refine j_mmax hc mm_RX5_102 hh1 (wlit 0 (by decide)) rfl (Nat.le_of_ble_eq_true rfl) ⟨Nat.zero_le _, Nat.zero_le _⟩ dX5_nightsFrom_109 (fun cn21 => ?_)
  exact j_iret hc hr cn21 h dX5_nightsFrom_112
set_option maxRecDepth 20000 in
theorem jl_X5_nightsFrom_25 {X : jj_X} {E : ev_E} {n0 hN : Nat} (hc : Cx X E cX5_nightsFrom 8 n0 hN RX5) (hm : eM E = 1) (hr : (xT X).sig.returnType = (some .int)) (hh : 2 ≤ hN) {Q : Int → st_S → Prop} : ∀ (n : Nat) {l1 : Int} {l4 : Int} {l5 : Int} {l6 : Int} {l7 : Int} (cl1 : wr l1 = l1) (cl4 : wr l4 = l4) (cl5 : wr l5 = l5) (cl6 : wr l6 = l6) (cl7 : wr l7 = l7) {σ : st_S}, L_X5_nightsFrom_25 Q n l1 l4 l5 l6 l7 σ → J X E 8 n0 0 0 (MQ (xB X) (qI E (n0 + 0) Q) (xA X) (xS X) 0 0 (eF E)) σ 25 [(0, vR E 42), (1, vI l1), (4, vI l4), (5, vI l5), (6, vI l6), (7, vI l7)] [] := by
  have hh1 : 1 ≤ hN := by omega
  intro n
  induction n with
  | zero => intro l1 l4 l5 l6 l7 cl1 cl4 cl5 cl6 cl7 σ h; exact h.elim
  | succ n ih =>
    intro l1 l4 l5 l6 l7 cl1 cl4 cl5 cl6 cl7 σ h
    have hk25 : ∀ {l1 : Int} {l4 : Int} {l5 : Int} {l6 : Int} {l7 : Int} (cl1 : wr l1 = l1) (cl4 : wr l4 = l4) (cl5 : wr l5 = l5) (cl6 : wr l6 = l6) (cl7 : wr l7 = l7) {σ : st_S}, L_X5_nightsFrom_25 Q n l1 l4 l5 l6 l7 σ → J X E 8 n0 0 0 (MQ (xB X) (qI E (n0 + 0) Q) (xA X) (xS X) 0 0 (eF E)) σ 25 [(0, vR E 42), (1, vI l1), (4, vI l4), (5, vI l5), (6, vI l6), (7, vI l7)] [] := ih
    replace h : (l7 < 0 → B_X5_nightsFrom_99 Q l1 σ) ∧ (¬ l7 < 0 → (gI σ 25 0 ≤ l7 → B_X5_nightsFrom_99 Q l1 σ) ∧ (¬ gI σ 25 0 ≤ l7 → ix l7 10 ∧ ∀ x25 : Int, x25 = wr (l6 + gI σ 47 (Int.toNat l7)) → ix l7 10 ∧ wp_J6_bitCount_0f7a4 (o_and l4 (gI σ 48 (Int.toNat l7))) σ (fun r28 s29 => ix l7 10 ∧ wp_J6_bitCount_0f7a4 (o_and l5 (gI s29 48 (Int.toNat l7))) s29 (fun r32 s33 => (x25 ≤ wr ((2 * r28) + r32) → ∀ x34 : Int, x34 = wr (l7 + 1) → (L_X5_nightsFrom_25 Q n) l1 l4 l5 x25 x34 s33) ∧ (¬ x25 ≤ wr ((2 * r28) + r32) → Q (wr (l7 - l1)) s33))))) := h
    refine j_iload hc 5 dX5_nightsFrom_25 rfl ?_
    refine j_if_lt hc cl7 (tgt := 99) dX5_nightsFrom_27 (by decide) (fun q37 => ?_) (fun q37 => ?_)
    · replace h := h.1 q37
      refine j_sub (lv' := [(0, vR E 42), (1, vI l1)]) [0, 1] rfl ?_
      exact jb_X5_nightsFrom_99 hc hm hr hh cl1 h
    · replace h := h.2 q37
      refine j_iload hc 5 dX5_nightsFrom_30 rfl ?_
      refine j_aload_nR hc 0 dX5_nightsFrom_32 rfl rfl ?_
      refine j_getR (c' := 25) hc fl_RX5_39 rfl rfl (fun hv => (sv_k hv hm rfl)) dX5_nightsFrom_33 ?_
      refine j_getI hc fl_RX5_54 (Or.inl rfl) (fun hv => Or.inl (sv_k hv hm rfl)) dX5_nightsFrom_36 (fun cn22 => ?_)
      refine j_ic_ge hc cl7 cn22 (tgt := 99) dX5_nightsFrom_39 (by decide) (fun q36 => ?_) (fun q36 => ?_)
      · replace h := h.1 q36
        refine j_sub (lv' := [(0, vR E 42), (1, vI l1)]) [0, 1] rfl ?_
        exact jb_X5_nightsFrom_99 hc hm hr hh cl1 h
      · replace h := h.2 q36
        refine j_iload hc 4 dX5_nightsFrom_42 rfl ?_
        refine j_aload_nR hc 0 dX5_nightsFrom_44 rfl rfl ?_
        refine j_getR (c' := 47) hc fl_RX5_24 rfl rfl (fun hv => (sv_k hv hm rfl)) dX5_nightsFrom_45 ?_
        refine j_iload hc 5 dX5_nightsFrom_48 rfl ?_
        obtain ⟨b23, h⟩ := h
        refine j_iald (jn := (Int.toNat l7)) hc (fun hv => sv_kl hv hm rfl) cl7 b23 rfl dX5_nightsFrom_50 (fun cn24 => ?_)
        refine j_iadd hc dX5_nightsFrom_51 ?_
        refine j_w (fun x25 ex25 cx25 => ?_)
        replace h := h x25 ex25
        refine j_istore (lv' := [(6, vI x25), (0, vR E 42), (1, vI l1), (4, vI l4), (5, vI l5), (7, vI l7)]) hc dX5_nightsFrom_52 (by decide) rfl ?_
        refine j_iconst hc dX5_nightsFrom_54 ?_
        refine j_iload hc 3 dX5_nightsFrom_55 rfl ?_
        refine j_aload_nR hc 1 dX5_nightsFrom_57 rfl rfl ?_
        refine j_getR (c' := 48) hc fl_RX5_27 rfl rfl (fun hv => (sv_k hv hm rfl)) dX5_nightsFrom_58 ?_
        refine j_iload hc 5 dX5_nightsFrom_61 rfl ?_
        obtain ⟨b26, h⟩ := h
        refine j_iald (jn := (Int.toNat l7)) hc (fun hv => sv_kl hv hm rfl) cl7 b26 rfl dX5_nightsFrom_63 (fun cn27 => ?_)
        refine j_iand hc dX5_nightsFrom_64 ?_
        refine j_sI hc ml_RX5_105 mv_J6_bitCount_0f7a4 (As := [vI (o_and l4 (gI σ 48 (Int.toNat l7)))]) (c_J6_bitCount_0f7a4 (cx_E hc) (cn_and _ _) h) rfl (by omega) (by decide) ⟨Nat.zero_le _, Nat.zero_le _⟩ (Nat.le_of_ble_eq_true rfl) rfl dX5_nightsFrom_65 (fun r28 s29 cr28 h => ?_)
        refine j_imul hc dX5_nightsFrom_68 ?_
        refine j_iload hc 4 dX5_nightsFrom_69 rfl ?_
        refine j_aload_nR hc 1 dX5_nightsFrom_71 rfl rfl ?_
        refine j_getR (c' := 48) hc fl_RX5_27 rfl rfl (fun hv => (sv_k hv hm rfl)) dX5_nightsFrom_72 ?_
        refine j_iload hc 5 dX5_nightsFrom_75 rfl ?_
        obtain ⟨b30, h⟩ := h
        refine j_iald (jn := (Int.toNat l7)) hc (fun hv => sv_kl hv hm rfl) cl7 b30 rfl dX5_nightsFrom_77 (fun cn31 => ?_)
        refine j_iand hc dX5_nightsFrom_78 ?_
        refine j_sI hc ml_RX5_105 mv_J6_bitCount_0f7a4 (As := [vI (o_and l5 (gI s29 48 (Int.toNat l7)))]) (c_J6_bitCount_0f7a4 (cx_E hc) (cn_and _ _) h) rfl (by omega) (by decide) ⟨Nat.zero_le _, Nat.zero_le _⟩ (Nat.le_of_ble_eq_true rfl) rfl dX5_nightsFrom_79 (fun r32 s33 cr32 h => ?_)
        refine j_iadd hc dX5_nightsFrom_82 ?_
        refine j_iload hc 0 dX5_nightsFrom_83 rfl ?_
        refine j_ic_ge hc rfl cx25 (tgt := 93) dX5_nightsFrom_85 (by decide) (fun q35 => ?_) (fun q35 => ?_)
        · replace h := h.1 q35
          obtain ⟨x34, ex34⟩ : ∃ y : Int, y = wr (l7 + 1) := ⟨_, rfl⟩
          have cx34 : wr x34 = x34 := by rw [ex34]; exact wr_wr _
          replace h := h x34 ex34
          refine j_iinc (lv' := [(7, vI x34), (6, vI x25), (0, vR E 42), (1, vI l1), (4, vI l4), (5, vI l5)]) hc 5 dX5_nightsFrom_93 rfl (by decide) ex34 rfl ?_
          refine j_goto (tgt := 25) hc dX5_nightsFrom_96 (by decide) ?_
          refine j_sub (lv' := [(0, vR E 42), (1, vI l1), (4, vI l4), (5, vI l5), (6, vI x25), (7, vI x34)]) [2, 3, 4, 5, 1, 0] rfl ?_
          exact hk25 cl1 cl4 cl5 cx25 cx34 h
        · replace h := h.2 q35
          refine j_iload hc 5 dX5_nightsFrom_88 rfl ?_
          refine j_iload_n hc 2 dX5_nightsFrom_90 rfl rfl ?_
          refine j_isub hc dX5_nightsFrom_91 ?_
          refine j_w (fun y ey cy => ?_)
          subst ey
          exact j_iret hc hr cy h dX5_nightsFrom_92
set_option maxRecDepth 20000 in
theorem c_X5_nightsFrom {l : Launch} {E : ev_E} (hE : Eok E) (hm : eM E = 1) {a1 : Int} {a2 : Int} {a3 : Int} (ca1 : wr a1 = a1) (ca2 : wr a2 = a2) (ca3 : wr a3 = a3) {σ : st_S} {Q : Int → st_S → Prop} (h : wp_X5_nightsFrom a1 a2 a3 σ Q) : cM l yX5_nightsFrom cX5_nightsFrom 8 (some .int) E 2 0 0 [vR E 42, vI a1, vI a2, vI a3] σ (qI E (gN σ + 0) Q) := by
  refine cM_of (lv := [(0, vR E 42), (1, vI a1), (2, vI a2), (3, vI a3)]) (by decide) hE (Nat.le_of_ble_eq_true rfl) (rfl) ?_
  intro X hX hc _ _ hr _ _
  subst hX
  have hh : 2 ≤ 2 := Nat.le_refl _
  have hh1 : 1 ≤ 2 := by omega
  replace h : ∀ x38 : Int, x38 = o_and a2 (o_xor a3 (-1)) → ∀ x39 : Int, x39 = o_and (o_and a2 a3) (o_xor (o_shr a3 10) (-1)) → ∃ m25 : Nat, L_X5_nightsFrom_25 Q m25 a1 x38 x39 0 a1 σ := h
  refine j_iload_n hc 2 dX5_nightsFrom_0 rfl rfl ?_
  refine j_iload_n hc 3 dX5_nightsFrom_1 rfl rfl ?_
  refine j_iconst hc dX5_nightsFrom_2 ?_
  refine j_ixor hc dX5_nightsFrom_3 ?_
  refine j_iand hc dX5_nightsFrom_4 ?_
  refine j_c (cn_and _ _) (fun x38 ex38 cx38 => ?_)
  replace h := h x38 ex38
  refine j_istore (lv' := [(4, vI x38), (0, vR E 42), (1, vI a1), (2, vI a2), (3, vI a3)]) hc dX5_nightsFrom_5 (by decide) rfl ?_
  refine j_iload_n hc 3 dX5_nightsFrom_7 rfl rfl ?_
  refine j_iload_n hc 4 dX5_nightsFrom_8 rfl rfl ?_
  refine j_iand hc dX5_nightsFrom_9 ?_
  refine j_iload_n hc 4 dX5_nightsFrom_10 rfl rfl ?_
  refine j_bipush hc dX5_nightsFrom_11 (by decide) ?_
  refine j_ishr hc dX5_nightsFrom_13 ?_
  refine j_iconst hc dX5_nightsFrom_14 ?_
  refine j_ixor hc dX5_nightsFrom_15 ?_
  refine j_iand hc dX5_nightsFrom_16 ?_
  refine j_c (cn_and _ _) (fun x39 ex39 cx39 => ?_)
  replace h := h x39 ex39
  refine j_istore (lv' := [(5, vI x39), (4, vI x38), (0, vR E 42), (1, vI a1), (2, vI a2), (3, vI a3)]) hc dX5_nightsFrom_17 (by decide) rfl ?_
  refine j_iconst hc dX5_nightsFrom_19 ?_
  refine j_istore (lv' := [(6, vI 0), (5, vI x39), (4, vI x38), (0, vR E 42), (1, vI a1), (2, vI a2), (3, vI a3)]) hc dX5_nightsFrom_20 (by decide) rfl ?_
  refine j_iload_n hc 4 dX5_nightsFrom_22 rfl rfl ?_
  refine j_istore (lv' := [(7, vI a1), (6, vI 0), (5, vI x39), (4, vI x38), (0, vR E 42), (1, vI a1), (2, vI a2), (3, vI a3)]) hc dX5_nightsFrom_23 (by decide) rfl ?_
  obtain ⟨n25, h⟩ := h
  refine j_sub (lv' := [(0, vR E 42), (1, vI a1), (4, vI x38), (5, vI x39), (6, vI 0), (7, vI a1)]) [4, 5, 3, 2, 1, 0] rfl ?_
  exact jl_X5_nightsFrom_25 hc hm hr hh n25 ca1 cx38 cx39 (wlit 0 (by decide)) ca1 h
-- LitStrangers$Paper.spoiled(III)I
theorem dX5_spoiled_0 : decode cX5_spoiled 0 = .ok (.iload_n 1, 1) := by decide +kernel
theorem dX5_spoiled_1 : decode cX5_spoiled 1 = .ok (.sipush 1023, 3) := by decide +kernel
theorem dX5_spoiled_4 : decode cX5_spoiled 4 = .ok (.iand, 1) := by decide +kernel
theorem dX5_spoiled_5 : decode cX5_spoiled 5 = .ok (.istore 4, 2) := by decide +kernel
theorem dX5_spoiled_7 : decode cX5_spoiled 7 = .ok (.iload_n 1, 1) := by decide +kernel
theorem dX5_spoiled_8 : decode cX5_spoiled 8 = .ok (.bipush 10, 2) := by decide +kernel
theorem dX5_spoiled_10 : decode cX5_spoiled 10 = .ok (.ishr, 1) := by decide +kernel
theorem dX5_spoiled_11 : decode cX5_spoiled 11 = .ok (.istore 5, 2) := by decide +kernel
theorem dX5_spoiled_13 : decode cX5_spoiled 13 = .ok (.iload_n 2, 1) := by decide +kernel
theorem dX5_spoiled_14 : decode cX5_spoiled 14 = .ok (.iload_n 3, 1) := by decide +kernel
theorem dX5_spoiled_15 : decode cX5_spoiled 15 = .ok (.iconst (-1), 1) := by decide +kernel
theorem dX5_spoiled_16 : decode cX5_spoiled 16 = .ok (.ixor, 1) := by decide +kernel
theorem dX5_spoiled_17 : decode cX5_spoiled 17 = .ok (.iand, 1) := by decide +kernel
theorem dX5_spoiled_18 : decode cX5_spoiled 18 = .ok (.istore 6, 2) := by decide +kernel
theorem dX5_spoiled_20 : decode cX5_spoiled 20 = .ok (.iconst 0, 1) := by decide +kernel
theorem dX5_spoiled_21 : decode cX5_spoiled 21 = .ok (.istore 7, 2) := by decide +kernel
theorem dX5_spoiled_23 : decode cX5_spoiled 23 = .ok (.iload 7, 2) := by decide +kernel
theorem dX5_spoiled_25 : decode cX5_spoiled 25 = .ok (.aload_n 0, 1) := by decide +kernel
theorem dX5_spoiled_26 : decode cX5_spoiled 26 = .ok (.getfield 39, 3) := by decide +kernel
theorem dX5_spoiled_29 : decode cX5_spoiled 29 = .ok (.getfield 54, 3) := by decide +kernel
theorem dX5_spoiled_32 : decode cX5_spoiled 32 = .ok (.if_icmp .ge 62, 3) := by decide +kernel
theorem dX5_spoiled_35 : decode cX5_spoiled 35 = .ok (.iload 6, 2) := by decide +kernel
theorem dX5_spoiled_37 : decode cX5_spoiled 37 = .ok (.iload 7, 2) := by decide +kernel
theorem dX5_spoiled_39 : decode cX5_spoiled 39 = .ok (.ishr, 1) := by decide +kernel
theorem dX5_spoiled_40 : decode cX5_spoiled 40 = .ok (.iconst 1, 1) := by decide +kernel
theorem dX5_spoiled_41 : decode cX5_spoiled 41 = .ok (.iand, 1) := by decide +kernel
theorem dX5_spoiled_42 : decode cX5_spoiled 42 = .ok (.ifCond .eq 46, 3) := by decide +kernel
theorem dX5_spoiled_45 : decode cX5_spoiled 45 = .ok (.iload 5, 2) := by decide +kernel
theorem dX5_spoiled_47 : decode cX5_spoiled 47 = .ok (.aload_n 0, 1) := by decide +kernel
theorem dX5_spoiled_48 : decode cX5_spoiled 48 = .ok (.getfield 21, 3) := by decide +kernel
theorem dX5_spoiled_51 : decode cX5_spoiled 51 = .ok (.iload 7, 2) := by decide +kernel
theorem dX5_spoiled_53 : decode cX5_spoiled 53 = .ok (.iaload, 1) := by decide +kernel
theorem dX5_spoiled_54 : decode cX5_spoiled 54 = .ok (.iload 4, 2) := by decide +kernel
theorem dX5_spoiled_56 : decode cX5_spoiled 56 = .ok (.aload_n 0, 1) := by decide +kernel
theorem dX5_spoiled_57 : decode cX5_spoiled 57 = .ok (.getfield 18, 3) := by decide +kernel
theorem dX5_spoiled_60 : decode cX5_spoiled 60 = .ok (.iload 7, 2) := by decide +kernel
theorem dX5_spoiled_62 : decode cX5_spoiled 62 = .ok (.iaload, 1) := by decide +kernel
theorem dX5_spoiled_63 : decode cX5_spoiled 63 = .ok (.iand, 1) := by decide +kernel
theorem dX5_spoiled_64 : decode cX5_spoiled 64 = .ok (.ior, 1) := by decide +kernel
theorem dX5_spoiled_65 : decode cX5_spoiled 65 = .ok (.iload_n 3, 1) := by decide +kernel
theorem dX5_spoiled_66 : decode cX5_spoiled 66 = .ok (.iconst (-1), 1) := by decide +kernel
theorem dX5_spoiled_67 : decode cX5_spoiled 67 = .ok (.ixor, 1) := by decide +kernel
theorem dX5_spoiled_68 : decode cX5_spoiled 68 = .ok (.iand, 1) := by decide +kernel
theorem dX5_spoiled_69 : decode cX5_spoiled 69 = .ok (.ior, 1) := by decide +kernel
theorem dX5_spoiled_70 : decode cX5_spoiled 70 = .ok (.istore 5, 2) := by decide +kernel
theorem dX5_spoiled_72 : decode cX5_spoiled 72 = .ok (.iload 4, 2) := by decide +kernel
theorem dX5_spoiled_74 : decode cX5_spoiled 74 = .ok (.aload_n 0, 1) := by decide +kernel
theorem dX5_spoiled_75 : decode cX5_spoiled 75 = .ok (.getfield 18, 3) := by decide +kernel
theorem dX5_spoiled_78 : decode cX5_spoiled 78 = .ok (.iload 7, 2) := by decide +kernel
theorem dX5_spoiled_80 : decode cX5_spoiled 80 = .ok (.iaload, 1) := by decide +kernel
theorem dX5_spoiled_81 : decode cX5_spoiled 81 = .ok (.iload_n 3, 1) := by decide +kernel
theorem dX5_spoiled_82 : decode cX5_spoiled 82 = .ok (.iconst (-1), 1) := by decide +kernel
theorem dX5_spoiled_83 : decode cX5_spoiled 83 = .ok (.ixor, 1) := by decide +kernel
theorem dX5_spoiled_84 : decode cX5_spoiled 84 = .ok (.iand, 1) := by decide +kernel
theorem dX5_spoiled_85 : decode cX5_spoiled 85 = .ok (.ior, 1) := by decide +kernel
theorem dX5_spoiled_86 : decode cX5_spoiled 86 = .ok (.istore 4, 2) := by decide +kernel
theorem dX5_spoiled_88 : decode cX5_spoiled 88 = .ok (.iinc 7 1, 3) := by decide +kernel
theorem dX5_spoiled_91 : decode cX5_spoiled 91 = .ok (.goto (-68), 3) := by decide +kernel
theorem dX5_spoiled_94 : decode cX5_spoiled 94 = .ok (.iload 5, 2) := by decide +kernel
theorem dX5_spoiled_96 : decode cX5_spoiled 96 = .ok (.bipush 10, 2) := by decide +kernel
theorem dX5_spoiled_98 : decode cX5_spoiled 98 = .ok (.ishl, 1) := by decide +kernel
theorem dX5_spoiled_99 : decode cX5_spoiled 99 = .ok (.iload 4, 2) := by decide +kernel
theorem dX5_spoiled_101 : decode cX5_spoiled 101 = .ok (.ior, 1) := by decide +kernel
theorem dX5_spoiled_102 : decode cX5_spoiled 102 = .ok (.ireturn, 1) := by decide +kernel
def B_X5_spoiled_88 (Q : Int → st_S → Prop)  (k23 : Int → Int → Int → Int → Int → st_S → Prop) (l3 : Int) (l4 : Int) (l5 : Int) (l6 : Int) (l7 : Int) (σ : st_S) : Prop := ∀ x15 : Int, x15 = wr (l7 + 1) → k23 l3 l4 l5 l6 x15 σ
def L_X5_spoiled_23 (Q : Int → st_S → Prop)   : Nat → Int → Int → Int → Int → Int → st_S → Prop
  | 0 => fun _ _ _ _ _ _ => False
  | n + 1 => fun l3 l4 l5 l6 l7 σ => (gI σ 25 0 ≤ l7 → Q (o_or (o_shl l5 10) l4) σ) ∧ (¬ gI σ 25 0 ≤ l7 → (o_and (o_shr l6 l7) 1 = 0 → B_X5_spoiled_88 Q (L_X5_spoiled_23 Q n) l3 l4 l5 l6 l7 σ) ∧ (¬ o_and (o_shr l6 l7) 1 = 0 → ix l7 10 ∧ ix l7 10 ∧ ∀ x21 : Int, x21 = o_or l5 (o_and (o_or (gI σ 46 (Int.toNat l7)) (o_and l4 (gI σ 45 (Int.toNat l7)))) (o_xor l3 (-1))) → ix l7 10 ∧ ∀ x24 : Int, x24 = o_or l4 (o_and (gI σ 45 (Int.toNat l7)) (o_xor l3 (-1))) → B_X5_spoiled_88 Q (L_X5_spoiled_23 Q n) l3 x24 x21 l6 l7 σ))
def wp_X5_spoiled (a1 : Int) (a2 : Int) (a3 : Int) (σ : st_S) (Q : Int → st_S → Prop) : Prop := ∀ x27 : Int, x27 = o_and a1 1023 → ∀ x28 : Int, x28 = o_shr a1 10 → ∀ x29 : Int, x29 = o_and a2 (o_xor a3 (-1)) → ∃ m23 : Nat, L_X5_spoiled_23 Q m23 a3 x27 x28 x29 0 σ
set_option maxRecDepth 20000 in
theorem jb_X5_spoiled_88 {X : jj_X} {E : ev_E} {n0 hN : Nat} (hc : Cx X E cX5_spoiled 8 n0 hN RX5) (hm : eM E = 1) (hr : (xT X).sig.returnType = (some .int)) (hh : 1 ≤ hN) {Q : Int → st_S → Prop} {k23 : Int → Int → Int → Int → Int → st_S → Prop} (hk23 : ∀ {l3 : Int} {l4 : Int} {l5 : Int} {l6 : Int} {l7 : Int} (cl3 : wr l3 = l3) (cl4 : wr l4 = l4) (cl5 : wr l5 = l5) (cl6 : wr l6 = l6) (cl7 : wr l7 = l7) {σ : st_S}, k23 l3 l4 l5 l6 l7 σ → J X E 8 n0 0 0 (MQ (xB X) (qI E (n0 + 0) Q) (xA X) (xS X) 0 0 (eF E)) σ 23 [(0, vR E 42), (3, vI l3), (4, vI l4), (5, vI l5), (6, vI l6), (7, vI l7)] []) {l3 : Int} {l4 : Int} {l5 : Int} {l6 : Int} {l7 : Int} (cl3 : wr l3 = l3) (cl4 : wr l4 = l4) (cl5 : wr l5 = l5) (cl6 : wr l6 = l6) (cl7 : wr l7 = l7) {σ : st_S} (h : B_X5_spoiled_88 Q k23 l3 l4 l5 l6 l7 σ) : J X E 8 n0 0 0 (MQ (xB X) (qI E (n0 + 0) Q) (xA X) (xS X) 0 0 (eF E)) σ 88 [(0, vR E 42), (3, vI l3), (4, vI l4), (5, vI l5), (6, vI l6), (7, vI l7)] [] := by
  have hh1 : 1 ≤ hN := by omega
  replace h : ∀ x15 : Int, x15 = wr (l7 + 1) → k23 l3 l4 l5 l6 x15 σ := h
  obtain ⟨x15, ex15⟩ : ∃ y : Int, y = wr (l7 + 1) := ⟨_, rfl⟩
  have cx15 : wr x15 = x15 := by rw [ex15]; exact wr_wr _
  replace h := h x15 ex15
  refine j_iinc (lv' := [(7, vI x15), (0, vR E 42), (3, vI l3), (4, vI l4), (5, vI l5), (6, vI l6)]) hc 5 dX5_spoiled_88 rfl (by decide) ex15 rfl ?_
  refine j_goto (tgt := 23) hc dX5_spoiled_91 (by decide) ?_
  refine j_sub (lv' := [(0, vR E 42), (3, vI l3), (4, vI l4), (5, vI l5), (6, vI l6), (7, vI x15)]) [1, 2, 3, 4, 5, 0] rfl ?_
  exact hk23 cl3 cl4 cl5 cl6 cx15 h
set_option maxRecDepth 20000 in
theorem jl_X5_spoiled_23 {X : jj_X} {E : ev_E} {n0 hN : Nat} (hc : Cx X E cX5_spoiled 8 n0 hN RX5) (hm : eM E = 1) (hr : (xT X).sig.returnType = (some .int)) (hh : 1 ≤ hN) {Q : Int → st_S → Prop} : ∀ (n : Nat) {l3 : Int} {l4 : Int} {l5 : Int} {l6 : Int} {l7 : Int} (cl3 : wr l3 = l3) (cl4 : wr l4 = l4) (cl5 : wr l5 = l5) (cl6 : wr l6 = l6) (cl7 : wr l7 = l7) {σ : st_S}, L_X5_spoiled_23 Q n l3 l4 l5 l6 l7 σ → J X E 8 n0 0 0 (MQ (xB X) (qI E (n0 + 0) Q) (xA X) (xS X) 0 0 (eF E)) σ 23 [(0, vR E 42), (3, vI l3), (4, vI l4), (5, vI l5), (6, vI l6), (7, vI l7)] [] := by
  have hh1 : 1 ≤ hN := by omega
  intro n
  induction n with
  | zero => intro l3 l4 l5 l6 l7 cl3 cl4 cl5 cl6 cl7 σ h; exact h.elim
  | succ n ih =>
    intro l3 l4 l5 l6 l7 cl3 cl4 cl5 cl6 cl7 σ h
    have hk23 : ∀ {l3 : Int} {l4 : Int} {l5 : Int} {l6 : Int} {l7 : Int} (cl3 : wr l3 = l3) (cl4 : wr l4 = l4) (cl5 : wr l5 = l5) (cl6 : wr l6 = l6) (cl7 : wr l7 = l7) {σ : st_S}, L_X5_spoiled_23 Q n l3 l4 l5 l6 l7 σ → J X E 8 n0 0 0 (MQ (xB X) (qI E (n0 + 0) Q) (xA X) (xS X) 0 0 (eF E)) σ 23 [(0, vR E 42), (3, vI l3), (4, vI l4), (5, vI l5), (6, vI l6), (7, vI l7)] [] := ih
    replace h : (gI σ 25 0 ≤ l7 → Q (o_or (o_shl l5 10) l4) σ) ∧ (¬ gI σ 25 0 ≤ l7 → (o_and (o_shr l6 l7) 1 = 0 → B_X5_spoiled_88 Q (L_X5_spoiled_23 Q n) l3 l4 l5 l6 l7 σ) ∧ (¬ o_and (o_shr l6 l7) 1 = 0 → ix l7 10 ∧ ix l7 10 ∧ ∀ x21 : Int, x21 = o_or l5 (o_and (o_or (gI σ 46 (Int.toNat l7)) (o_and l4 (gI σ 45 (Int.toNat l7)))) (o_xor l3 (-1))) → ix l7 10 ∧ ∀ x24 : Int, x24 = o_or l4 (o_and (gI σ 45 (Int.toNat l7)) (o_xor l3 (-1))) → B_X5_spoiled_88 Q (L_X5_spoiled_23 Q n) l3 x24 x21 l6 l7 σ)) := h
    refine j_iload hc 5 dX5_spoiled_23 rfl ?_
    refine j_aload_nR hc 0 dX5_spoiled_25 rfl rfl ?_
    refine j_getR (c' := 25) hc fl_RX5_39 rfl rfl (fun hv => (sv_k hv hm rfl)) dX5_spoiled_26 ?_
    refine j_getI hc fl_RX5_54 (Or.inl rfl) (fun hv => Or.inl (sv_k hv hm rfl)) dX5_spoiled_29 (fun cn16 => ?_)
    refine j_ic_ge hc cl7 cn16 (tgt := 94) dX5_spoiled_32 (by decide) (fun q26 => ?_) (fun q26 => ?_)
    · replace h := h.1 q26
      refine j_iload hc 3 dX5_spoiled_94 rfl ?_
      refine j_bipush hc dX5_spoiled_96 (by decide) ?_
      refine j_ishl hc dX5_spoiled_98 ?_
      refine j_iload hc 2 dX5_spoiled_99 rfl ?_
      refine j_ior hc dX5_spoiled_101 ?_
      exact j_iret hc hr (cn_or _ _) h dX5_spoiled_102
    · replace h := h.2 q26
      refine j_iload hc 4 dX5_spoiled_35 rfl ?_
      refine j_iload hc 5 dX5_spoiled_37 rfl ?_
      refine j_ishr hc dX5_spoiled_39 ?_
      refine j_iconst hc dX5_spoiled_40 ?_
      refine j_iand hc dX5_spoiled_41 ?_
      refine j_if_eq hc (cn_and _ _) (tgt := 88) dX5_spoiled_42 (by decide) (fun q25 => ?_) (fun q25 => ?_)
      · replace h := h.1 q25
        refine j_sub (lv' := [(0, vR E 42), (3, vI l3), (4, vI l4), (5, vI l5), (6, vI l6), (7, vI l7)]) [0, 1, 2, 3, 4, 5] rfl ?_
        exact jb_X5_spoiled_88 hc hm hr hh hk23 cl3 cl4 cl5 cl6 cl7 h
      · replace h := h.2 q25
        refine j_iload hc 3 dX5_spoiled_45 rfl ?_
        refine j_aload_nR hc 0 dX5_spoiled_47 rfl rfl ?_
        refine j_getR (c' := 46) hc fl_RX5_21 rfl rfl (fun hv => (sv_k hv hm rfl)) dX5_spoiled_48 ?_
        refine j_iload hc 5 dX5_spoiled_51 rfl ?_
        obtain ⟨b17, h⟩ := h
        refine j_iald (jn := (Int.toNat l7)) hc (fun hv => sv_kl hv hm rfl) cl7 b17 rfl dX5_spoiled_53 (fun cn18 => ?_)
        refine j_iload hc 2 dX5_spoiled_54 rfl ?_
        refine j_aload_nR hc 0 dX5_spoiled_56 rfl rfl ?_
        refine j_getR (c' := 45) hc fl_RX5_18 rfl rfl (fun hv => (sv_k hv hm rfl)) dX5_spoiled_57 ?_
        refine j_iload hc 5 dX5_spoiled_60 rfl ?_
        obtain ⟨b19, h⟩ := h
        refine j_iald (jn := (Int.toNat l7)) hc (fun hv => sv_kl hv hm rfl) cl7 b19 rfl dX5_spoiled_62 (fun cn20 => ?_)
        refine j_iand hc dX5_spoiled_63 ?_
        refine j_ior hc dX5_spoiled_64 ?_
        refine j_iload_n hc 1 dX5_spoiled_65 rfl rfl ?_
        refine j_iconst hc dX5_spoiled_66 ?_
        refine j_ixor hc dX5_spoiled_67 ?_
        refine j_iand hc dX5_spoiled_68 ?_
        refine j_ior hc dX5_spoiled_69 ?_
        refine j_c (cn_or _ _) (fun x21 ex21 cx21 => ?_)
        replace h := h x21 ex21
        refine j_istore (lv' := [(5, vI x21), (0, vR E 42), (3, vI l3), (4, vI l4), (6, vI l6), (7, vI l7)]) hc dX5_spoiled_70 (by decide) rfl ?_
        refine j_iload hc 3 dX5_spoiled_72 rfl ?_
        refine j_aload_nR hc 1 dX5_spoiled_74 rfl rfl ?_
        refine j_getR (c' := 45) hc fl_RX5_18 rfl rfl (fun hv => (sv_k hv hm rfl)) dX5_spoiled_75 ?_
        refine j_iload hc 5 dX5_spoiled_78 rfl ?_
        obtain ⟨b22, h⟩ := h
        refine j_iald (jn := (Int.toNat l7)) hc (fun hv => sv_kl hv hm rfl) cl7 b22 rfl dX5_spoiled_80 (fun cn23 => ?_)
        refine j_iload_n hc 2 dX5_spoiled_81 rfl rfl ?_
        refine j_iconst hc dX5_spoiled_82 ?_
        refine j_ixor hc dX5_spoiled_83 ?_
        refine j_iand hc dX5_spoiled_84 ?_
        refine j_ior hc dX5_spoiled_85 ?_
        refine j_c (cn_or _ _) (fun x24 ex24 cx24 => ?_)
        replace h := h x24 ex24
        refine j_istore (lv' := [(4, vI x24), (5, vI x21), (0, vR E 42), (3, vI l3), (6, vI l6), (7, vI l7)]) hc dX5_spoiled_86 (by decide) rfl ?_
        refine j_sub (lv' := [(0, vR E 42), (3, vI l3), (4, vI x24), (5, vI x21), (6, vI l6), (7, vI l7)]) [2, 3, 0, 1, 4, 5] rfl ?_
        exact jb_X5_spoiled_88 hc hm hr hh hk23 cl3 cx24 cx21 cl6 cl7 h
set_option maxRecDepth 20000 in
theorem c_X5_spoiled {l : Launch} {E : ev_E} (hE : Eok E) (hm : eM E = 1) {a1 : Int} {a2 : Int} {a3 : Int} (ca1 : wr a1 = a1) (ca2 : wr a2 = a2) (ca3 : wr a3 = a3) {σ : st_S} {Q : Int → st_S → Prop} (h : wp_X5_spoiled a1 a2 a3 σ Q) : cM l yX5_spoiled cX5_spoiled 8 (some .int) E 1 0 0 [vR E 42, vI a1, vI a2, vI a3] σ (qI E (gN σ + 0) Q) := by
  refine cM_of (lv := [(0, vR E 42), (1, vI a1), (2, vI a2), (3, vI a3)]) (by decide) hE (Nat.le_of_ble_eq_true rfl) (rfl) ?_
  intro X hX hc _ _ hr _ _
  subst hX
  have hh : 1 ≤ 1 := Nat.le_refl _
  have hh1 : 1 ≤ 1 := by omega
  replace h : ∀ x27 : Int, x27 = o_and a1 1023 → ∀ x28 : Int, x28 = o_shr a1 10 → ∀ x29 : Int, x29 = o_and a2 (o_xor a3 (-1)) → ∃ m23 : Nat, L_X5_spoiled_23 Q m23 a3 x27 x28 x29 0 σ := h
  refine j_iload_n hc 1 dX5_spoiled_0 rfl rfl ?_
  refine j_sipush hc dX5_spoiled_1 (by decide) ?_
  refine j_iand hc dX5_spoiled_4 ?_
  refine j_c (cn_and _ _) (fun x27 ex27 cx27 => ?_)
  replace h := h x27 ex27
  refine j_istore (lv' := [(4, vI x27), (0, vR E 42), (1, vI a1), (2, vI a2), (3, vI a3)]) hc dX5_spoiled_5 (by decide) rfl ?_
  refine j_iload_n hc 2 dX5_spoiled_7 rfl rfl ?_
  refine j_bipush hc dX5_spoiled_8 (by decide) ?_
  refine j_ishr hc dX5_spoiled_10 ?_
  refine j_c (cn_shr _ _) (fun x28 ex28 cx28 => ?_)
  replace h := h x28 ex28
  refine j_istore (lv' := [(5, vI x28), (4, vI x27), (0, vR E 42), (1, vI a1), (2, vI a2), (3, vI a3)]) hc dX5_spoiled_11 (by decide) rfl ?_
  refine j_iload_n hc 4 dX5_spoiled_13 rfl rfl ?_
  refine j_iload_n hc 5 dX5_spoiled_14 rfl rfl ?_
  refine j_iconst hc dX5_spoiled_15 ?_
  refine j_ixor hc dX5_spoiled_16 ?_
  refine j_iand hc dX5_spoiled_17 ?_
  refine j_c (cn_and _ _) (fun x29 ex29 cx29 => ?_)
  replace h := h x29 ex29
  refine j_istore (lv' := [(6, vI x29), (5, vI x28), (4, vI x27), (0, vR E 42), (1, vI a1), (2, vI a2), (3, vI a3)]) hc dX5_spoiled_18 (by decide) rfl ?_
  refine j_iconst hc dX5_spoiled_20 ?_
  refine j_istore (lv' := [(7, vI 0), (6, vI x29), (5, vI x28), (4, vI x27), (0, vR E 42), (1, vI a1), (2, vI a2), (3, vI a3)]) hc dX5_spoiled_21 (by decide) rfl ?_
  obtain ⟨n23, h⟩ := h
  refine j_sub (lv' := [(0, vR E 42), (3, vI a3), (4, vI x27), (5, vI x28), (6, vI x29), (7, vI 0)]) [4, 7, 3, 2, 1, 0] rfl ?_
  exact jl_X5_spoiled_23 hc hm hr hh n23 ca3 cx27 cx28 cx29 (wlit 0 (by decide)) h
-- LitStrangers$Paper.pick(III)V
theorem dX5_pick_0 : decode cX5_pick 0 = .ok (.iconst 0, 1) := by decide +kernel
theorem dX5_pick_1 : decode cX5_pick 1 = .ok (.istore 4, 2) := by decide +kernel
theorem dX5_pick_3 : decode cX5_pick 3 = .ok (.iload 4, 2) := by decide +kernel
theorem dX5_pick_5 : decode cX5_pick 5 = .ok (.iload_n 1, 1) := by decide +kernel
theorem dX5_pick_6 : decode cX5_pick 6 = .ok (.if_icmp .ge 138, 3) := by decide +kernel
theorem dX5_pick_9 : decode cX5_pick 9 = .ok (.iconst 1, 1) := by decide +kernel
theorem dX5_pick_10 : decode cX5_pick 10 = .ok (.iload 4, 2) := by decide +kernel
theorem dX5_pick_12 : decode cX5_pick 12 = .ok (.ishl, 1) := by decide +kernel
theorem dX5_pick_13 : decode cX5_pick 13 = .ok (.istore 5, 2) := by decide +kernel
theorem dX5_pick_15 : decode cX5_pick 15 = .ok (.aload_n 0, 1) := by decide +kernel
theorem dX5_pick_16 : decode cX5_pick 16 = .ok (.getfield 110, 3) := by decide +kernel
theorem dX5_pick_19 : decode cX5_pick 19 = .ok (.iload 5, 2) := by decide +kernel
theorem dX5_pick_21 : decode cX5_pick 21 = .ok (.iand, 1) := by decide +kernel
theorem dX5_pick_22 : decode cX5_pick 22 = .ok (.ifCond .eq 7, 3) := by decide +kernel
theorem dX5_pick_25 : decode cX5_pick 25 = .ok (.iconst 2, 1) := by decide +kernel
theorem dX5_pick_26 : decode cX5_pick 26 = .ok (.goto 18, 3) := by decide +kernel
theorem dX5_pick_29 : decode cX5_pick 29 = .ok (.aload_n 0, 1) := by decide +kernel
theorem dX5_pick_30 : decode cX5_pick 30 = .ok (.getfield 113, 3) := by decide +kernel
theorem dX5_pick_33 : decode cX5_pick 33 = .ok (.iload 5, 2) := by decide +kernel
theorem dX5_pick_35 : decode cX5_pick 35 = .ok (.iand, 1) := by decide +kernel
theorem dX5_pick_36 : decode cX5_pick 36 = .ok (.ifCond .eq 7, 3) := by decide +kernel
theorem dX5_pick_39 : decode cX5_pick 39 = .ok (.iconst 1, 1) := by decide +kernel
theorem dX5_pick_40 : decode cX5_pick 40 = .ok (.goto 4, 3) := by decide +kernel
theorem dX5_pick_43 : decode cX5_pick 43 = .ok (.iconst 0, 1) := by decide +kernel
theorem dX5_pick_44 : decode cX5_pick 44 = .ok (.istore 6, 2) := by decide +kernel
theorem dX5_pick_46 : decode cX5_pick 46 = .ok (.iload 6, 2) := by decide +kernel
theorem dX5_pick_48 : decode cX5_pick 48 = .ok (.ifCond .eq 90, 3) := by decide +kernel
theorem dX5_pick_51 : decode cX5_pick 51 = .ok (.iload 6, 2) := by decide +kernel
theorem dX5_pick_53 : decode cX5_pick 53 = .ok (.iload_n 2, 1) := by decide +kernel
theorem dX5_pick_54 : decode cX5_pick 54 = .ok (.if_icmp .le 6, 3) := by decide +kernel
theorem dX5_pick_57 : decode cX5_pick 57 = .ok (.goto 81, 3) := by decide +kernel
theorem dX5_pick_60 : decode cX5_pick 60 = .ok (.iload 6, 2) := by decide +kernel
theorem dX5_pick_62 : decode cX5_pick 62 = .ok (.iload_n 2, 1) := by decide +kernel
theorem dX5_pick_63 : decode cX5_pick 63 = .ok (.if_icmp .ge 20, 3) := by decide +kernel
theorem dX5_pick_66 : decode cX5_pick 66 = .ok (.aload_n 0, 1) := by decide +kernel
theorem dX5_pick_67 : decode cX5_pick 67 = .ok (.iload 4, 2) := by decide +kernel
theorem dX5_pick_69 : decode cX5_pick 69 = .ok (.iload_n 2, 1) := by decide +kernel
theorem dX5_pick_70 : decode cX5_pick 70 = .ok (.iload 6, 2) := by decide +kernel
theorem dX5_pick_72 : decode cX5_pick 72 = .ok (.isub, 1) := by decide +kernel
theorem dX5_pick_73 : decode cX5_pick 73 = .ok (.iload_n 3, 1) := by decide +kernel
theorem dX5_pick_74 : decode cX5_pick 74 = .ok (.iload 5, 2) := by decide +kernel
theorem dX5_pick_76 : decode cX5_pick 76 = .ok (.ior, 1) := by decide +kernel
theorem dX5_pick_77 : decode cX5_pick 77 = .ok (.invokevirtual 148, 3) := by decide +kernel
theorem dX5_pick_80 : decode cX5_pick 80 = .ok (.goto 58, 3) := by decide +kernel
theorem dX5_pick_83 : decode cX5_pick 83 = .ok (.aload_n 0, 1) := by decide +kernel
theorem dX5_pick_84 : decode cX5_pick 84 = .ok (.getfield 145, 3) := by decide +kernel
theorem dX5_pick_87 : decode cX5_pick 87 = .ok (.sipush 210, 3) := by decide +kernel
theorem dX5_pick_90 : decode cX5_pick 90 = .ok (.if_icmp .ge 48, 3) := by decide +kernel
theorem dX5_pick_93 : decode cX5_pick 93 = .ok (.aload_n 0, 1) := by decide +kernel
theorem dX5_pick_94 : decode cX5_pick 94 = .ok (.getfield 142, 3) := by decide +kernel
theorem dX5_pick_97 : decode cX5_pick 97 = .ok (.aload_n 0, 1) := by decide +kernel
theorem dX5_pick_98 : decode cX5_pick 98 = .ok (.getfield 145, 3) := by decide +kernel
theorem dX5_pick_101 : decode cX5_pick 101 = .ok (.iadd, 1) := by decide +kernel
theorem dX5_pick_102 : decode cX5_pick 102 = .ok (.aload_n 0, 1) := by decide +kernel
theorem dX5_pick_103 : decode cX5_pick 103 = .ok (.getfield 36, 3) := by decide +kernel
theorem dX5_pick_106 : decode cX5_pick 106 = .ok (.arraylength, 1) := by decide +kernel
theorem dX5_pick_107 : decode cX5_pick 107 = .ok (.if_icmp .ge 31, 3) := by decide +kernel
theorem dX5_pick_110 : decode cX5_pick 110 = .ok (.aload_n 0, 1) := by decide +kernel
theorem dX5_pick_111 : decode cX5_pick 111 = .ok (.getfield 36, 3) := by decide +kernel
theorem dX5_pick_114 : decode cX5_pick 114 = .ok (.aload_n 0, 1) := by decide +kernel
theorem dX5_pick_115 : decode cX5_pick 115 = .ok (.getfield 142, 3) := by decide +kernel
theorem dX5_pick_118 : decode cX5_pick 118 = .ok (.aload_n 0, 1) := by decide +kernel
theorem dX5_pick_119 : decode cX5_pick 119 = .ok (.getfield 145, 3) := by decide +kernel
theorem dX5_pick_122 : decode cX5_pick 122 = .ok (.iadd, 1) := by decide +kernel
theorem dX5_pick_123 : decode cX5_pick 123 = .ok (.iload_n 3, 1) := by decide +kernel
theorem dX5_pick_124 : decode cX5_pick 124 = .ok (.iload 5, 2) := by decide +kernel
theorem dX5_pick_126 : decode cX5_pick 126 = .ok (.ior, 1) := by decide +kernel
theorem dX5_pick_127 : decode cX5_pick 127 = .ok (.iastore, 1) := by decide +kernel
theorem dX5_pick_128 : decode cX5_pick 128 = .ok (.aload_n 0, 1) := by decide +kernel
theorem dX5_pick_129 : decode cX5_pick 129 = .ok (.dup, 1) := by decide +kernel
theorem dX5_pick_130 : decode cX5_pick 130 = .ok (.getfield 145, 3) := by decide +kernel
theorem dX5_pick_133 : decode cX5_pick 133 = .ok (.iconst 1, 1) := by decide +kernel
theorem dX5_pick_134 : decode cX5_pick 134 = .ok (.iadd, 1) := by decide +kernel
theorem dX5_pick_135 : decode cX5_pick 135 = .ok (.putfield 145, 3) := by decide +kernel
theorem dX5_pick_138 : decode cX5_pick 138 = .ok (.iinc 4 1, 3) := by decide +kernel
theorem dX5_pick_141 : decode cX5_pick 141 = .ok (.goto (-138), 3) := by decide +kernel
theorem dX5_pick_144 : decode cX5_pick 144 = .ok (.return_, 1) := by decide +kernel
def B_X5_pick_138 (Q : st_S → Prop) (rc_X5_pick : Int → Int → Int → st_S → (st_S → Prop) → Prop) (k3 : Int → Int → Int → Int → st_S → Prop) (l1 : Int) (l2 : Int) (l3 : Int) (l4 : Int) (σ : st_S) : Prop := ∀ x20 : Int, x20 = wr (l4 + 1) → k3 l1 l2 l3 x20 σ
def B_X5_pick_44 (Q : st_S → Prop) (rc_X5_pick : Int → Int → Int → st_S → (st_S → Prop) → Prop) (k3 : Int → Int → Int → Int → st_S → Prop) (l1 : Int) (l2 : Int) (l3 : Int) (l4 : Int) (l5 : Int) (v0 : Int) (σ : st_S) : Prop := (v0 = 0 → B_X5_pick_138 Q rc_X5_pick k3 l1 l2 l3 l4 σ) ∧ (¬ v0 = 0 → (v0 ≤ l2 → (l2 ≤ v0 → (210 ≤ gI σ 42 14 → B_X5_pick_138 Q rc_X5_pick k3 l1 l2 l3 l4 σ) ∧ (¬ 210 ≤ gI σ 42 14 → (2100 ≤ wr (gI σ 42 13 + gI σ 42 14) → B_X5_pick_138 Q rc_X5_pick k3 l1 l2 l3 l4 σ) ∧ (¬ 2100 ≤ wr (gI σ 42 13 + gI σ 42 14) → ix (wr (gI σ 42 13 + gI σ 42 14)) 2100 ∧ ∀ s27 : st_S, s27 = sI σ 51 (Int.toNat (wr (gI σ 42 13 + gI σ 42 14))) (o_or l3 l5) → ∀ x29 : Int, x29 = wr (gI s27 42 14 + 1) → ∀ s30 : st_S, s30 = sI s27 42 14 x29 → B_X5_pick_138 Q rc_X5_pick k3 l1 l2 l3 l4 s30))) ∧ (¬ l2 ≤ v0 → rc_X5_pick l4 (wr (l2 - v0)) (o_or l3 l5) σ (fun s34 => B_X5_pick_138 Q rc_X5_pick k3 l1 l2 l3 l4 s34))) ∧ (¬ v0 ≤ l2 → B_X5_pick_138 Q rc_X5_pick k3 l1 l2 l3 l4 σ))
def L_X5_pick_3 (Q : st_S → Prop) (rc_X5_pick : Int → Int → Int → st_S → (st_S → Prop) → Prop)  : Nat → Int → Int → Int → Int → st_S → Prop
  | 0 => fun _ _ _ _ _ => False
  | n + 1 => fun l1 l2 l3 l4 σ => (l1 ≤ l4 → Q σ) ∧ (¬ l1 ≤ l4 → ∀ x38 : Int, x38 = o_shl 1 l4 → (o_and (gI σ 42 15) x38 = 0 → (o_and (gI σ 42 16) x38 = 0 → B_X5_pick_44 Q rc_X5_pick (L_X5_pick_3 Q rc_X5_pick n) l1 l2 l3 l4 x38 0 σ) ∧ (¬ o_and (gI σ 42 16) x38 = 0 → B_X5_pick_44 Q rc_X5_pick (L_X5_pick_3 Q rc_X5_pick n) l1 l2 l3 l4 x38 1 σ)) ∧ (¬ o_and (gI σ 42 15) x38 = 0 → B_X5_pick_44 Q rc_X5_pick (L_X5_pick_3 Q rc_X5_pick n) l1 l2 l3 l4 x38 2 σ))
def e_X5_pick (rc_X5_pick : Int → Int → Int → st_S → (st_S → Prop) → Prop) (a1 : Int) (a2 : Int) (a3 : Int) (σ : st_S) (Q : st_S → Prop) : Prop := ∃ m3 : Nat, L_X5_pick_3 Q rc_X5_pick m3 a1 a2 a3 0 σ
def G_X5_pick : Nat → (Int → Int → Int → st_S → (st_S → Prop) → Prop)
  | 0 => fun _ _ _ _ _ => False
  | d + 1 => e_X5_pick ((G_X5_pick d))
def wp_X5_pick (d : Nat) : Int → Int → Int → st_S → (st_S → Prop) → Prop := (G_X5_pick d)
set_option maxRecDepth 20000 in
theorem jb_X5_pick_138 {X : jj_X} {E : ev_E} {n0 hN : Nat} (hc : Cx X E cX5_pick 7 n0 hN RX5) (hm : eM E = 1) (hr : (xT X).sig.returnType = none) {d : Nat} (hh : 1 + (d + 1) ≤ hN) {Q : st_S → Prop} {rc_X5_pick : Int → Int → Int → st_S → (st_S → Prop) → Prop} (hr_X5_pick : ∀ {l : Launch} {E : ev_E} (hE : Eok E) (hm : eM E = 1) {a1 : Int} {a2 : Int} {a3 : Int} (ca1 : wr a1 = a1) (ca2 : wr a2 = a2) (ca3 : wr a3 = a3) {σ : st_S} {Q : st_S → Prop}, rc_X5_pick a1 a2 a3 σ Q → cM l yX5_pick cX5_pick 7 none E (1 + d) 0 0 [vR E 42, vI a1, vI a2, vI a3] σ (qV E (gN σ + 0) Q)) {k3 : Int → Int → Int → Int → st_S → Prop} (hk3 : ∀ {l1 : Int} {l2 : Int} {l3 : Int} {l4 : Int} (cl1 : wr l1 = l1) (cl2 : wr l2 = l2) (cl3 : wr l3 = l3) (cl4 : wr l4 = l4) {σ : st_S}, k3 l1 l2 l3 l4 σ → J X E 7 n0 0 0 (MQ (xB X) (qV E (n0 + 0) Q) (xA X) (xS X) 0 0 (eF E)) σ 3 [(0, vR E 42), (1, vI l1), (2, vI l2), (3, vI l3), (4, vI l4)] []) {l1 : Int} {l2 : Int} {l3 : Int} {l4 : Int} (cl1 : wr l1 = l1) (cl2 : wr l2 = l2) (cl3 : wr l3 = l3) (cl4 : wr l4 = l4) {σ : st_S} (h : B_X5_pick_138 Q rc_X5_pick k3 l1 l2 l3 l4 σ) : J X E 7 n0 0 0 (MQ (xB X) (qV E (n0 + 0) Q) (xA X) (xS X) 0 0 (eF E)) σ 138 [(0, vR E 42), (1, vI l1), (2, vI l2), (3, vI l3), (4, vI l4)] [] := by
  have hh1 : 1 ≤ hN := by omega
  replace h : ∀ x20 : Int, x20 = wr (l4 + 1) → k3 l1 l2 l3 x20 σ := h
  obtain ⟨x20, ex20⟩ : ∃ y : Int, y = wr (l4 + 1) := ⟨_, rfl⟩
  have cx20 : wr x20 = x20 := by rw [ex20]; exact wr_wr _
  replace h := h x20 ex20
  refine j_iinc (lv' := [(4, vI x20), (0, vR E 42), (1, vI l1), (2, vI l2), (3, vI l3)]) hc 4 dX5_pick_138 rfl (by decide) ex20 rfl ?_
  refine j_goto (tgt := 3) hc dX5_pick_141 (by decide) ?_
  refine j_sub (lv' := [(0, vR E 42), (1, vI l1), (2, vI l2), (3, vI l3), (4, vI x20)]) [1, 2, 3, 4, 0] rfl ?_
  exact hk3 cl1 cl2 cl3 cx20 h
set_option maxRecDepth 20000 in
theorem jb_X5_pick_44 {X : jj_X} {E : ev_E} {n0 hN : Nat} (hc : Cx X E cX5_pick 7 n0 hN RX5) (hm : eM E = 1) (hr : (xT X).sig.returnType = none) {d : Nat} (hh : 1 + (d + 1) ≤ hN) {Q : st_S → Prop} {rc_X5_pick : Int → Int → Int → st_S → (st_S → Prop) → Prop} (hr_X5_pick : ∀ {l : Launch} {E : ev_E} (hE : Eok E) (hm : eM E = 1) {a1 : Int} {a2 : Int} {a3 : Int} (ca1 : wr a1 = a1) (ca2 : wr a2 = a2) (ca3 : wr a3 = a3) {σ : st_S} {Q : st_S → Prop}, rc_X5_pick a1 a2 a3 σ Q → cM l yX5_pick cX5_pick 7 none E (1 + d) 0 0 [vR E 42, vI a1, vI a2, vI a3] σ (qV E (gN σ + 0) Q)) {k3 : Int → Int → Int → Int → st_S → Prop} (hk3 : ∀ {l1 : Int} {l2 : Int} {l3 : Int} {l4 : Int} (cl1 : wr l1 = l1) (cl2 : wr l2 = l2) (cl3 : wr l3 = l3) (cl4 : wr l4 = l4) {σ : st_S}, k3 l1 l2 l3 l4 σ → J X E 7 n0 0 0 (MQ (xB X) (qV E (n0 + 0) Q) (xA X) (xS X) 0 0 (eF E)) σ 3 [(0, vR E 42), (1, vI l1), (2, vI l2), (3, vI l3), (4, vI l4)] []) {l1 : Int} {l2 : Int} {l3 : Int} {l4 : Int} {l5 : Int} {v0 : Int} (cl1 : wr l1 = l1) (cl2 : wr l2 = l2) (cl3 : wr l3 = l3) (cl4 : wr l4 = l4) (cl5 : wr l5 = l5) (cv0 : wr v0 = v0) {σ : st_S} (h : B_X5_pick_44 Q rc_X5_pick k3 l1 l2 l3 l4 l5 v0 σ) : J X E 7 n0 0 0 (MQ (xB X) (qV E (n0 + 0) Q) (xA X) (xS X) 0 0 (eF E)) σ 44 [(0, vR E 42), (1, vI l1), (2, vI l2), (3, vI l3), (4, vI l4), (5, vI l5)] [vI v0] := by
  have hh1 : 1 ≤ hN := by omega
  replace h : (v0 = 0 → B_X5_pick_138 Q rc_X5_pick k3 l1 l2 l3 l4 σ) ∧ (¬ v0 = 0 → (v0 ≤ l2 → (l2 ≤ v0 → (210 ≤ gI σ 42 14 → B_X5_pick_138 Q rc_X5_pick k3 l1 l2 l3 l4 σ) ∧ (¬ 210 ≤ gI σ 42 14 → (2100 ≤ wr (gI σ 42 13 + gI σ 42 14) → B_X5_pick_138 Q rc_X5_pick k3 l1 l2 l3 l4 σ) ∧ (¬ 2100 ≤ wr (gI σ 42 13 + gI σ 42 14) → ix (wr (gI σ 42 13 + gI σ 42 14)) 2100 ∧ ∀ s27 : st_S, s27 = sI σ 51 (Int.toNat (wr (gI σ 42 13 + gI σ 42 14))) (o_or l3 l5) → ∀ x29 : Int, x29 = wr (gI s27 42 14 + 1) → ∀ s30 : st_S, s30 = sI s27 42 14 x29 → B_X5_pick_138 Q rc_X5_pick k3 l1 l2 l3 l4 s30))) ∧ (¬ l2 ≤ v0 → rc_X5_pick l4 (wr (l2 - v0)) (o_or l3 l5) σ (fun s34 => B_X5_pick_138 Q rc_X5_pick k3 l1 l2 l3 l4 s34))) ∧ (¬ v0 ≤ l2 → B_X5_pick_138 Q rc_X5_pick k3 l1 l2 l3 l4 σ)) := h
  refine j_istore (lv' := [(6, vI v0), (0, vR E 42), (1, vI l1), (2, vI l2), (3, vI l3), (4, vI l4), (5, vI l5)]) hc dX5_pick_44 (by decide) rfl ?_
  refine j_iload hc 0 dX5_pick_46 rfl ?_
  refine j_if_eq hc cv0 (tgt := 138) dX5_pick_48 (by decide) (fun q37 => ?_) (fun q37 => ?_)
  · replace h := h.1 q37
    refine j_sub (lv' := [(0, vR E 42), (1, vI l1), (2, vI l2), (3, vI l3), (4, vI l4)]) [1, 2, 3, 4, 5] rfl ?_
    exact jb_X5_pick_138 hc hm hr hh hr_X5_pick hk3 cl1 cl2 cl3 cl4 h
  · replace h := h.2 q37
    refine j_iload hc 0 dX5_pick_51 rfl ?_
    refine j_iload_n hc 3 dX5_pick_53 rfl rfl ?_
    refine j_ic_le hc cv0 cl2 (tgt := 60) dX5_pick_54 (by decide) (fun q36 => ?_) (fun q36 => ?_)
    · replace h := h.1 q36
      refine j_iload hc 0 dX5_pick_60 rfl ?_
      refine j_iload_n hc 3 dX5_pick_62 rfl rfl ?_
      refine j_ic_ge hc cv0 cl2 (tgt := 83) dX5_pick_63 (by decide) (fun q35 => ?_) (fun q35 => ?_)
      · replace h := h.1 q35
        refine j_aload_nR hc 1 dX5_pick_83 rfl rfl ?_
        refine j_getI hc fl_RX5_145 (Or.inl rfl) (fun hv => Or.inl (sv_k hv hm rfl)) dX5_pick_84 (fun cn21 => ?_)
        refine j_sipush hc dX5_pick_87 (by decide) ?_
        refine j_ic_ge hc cn21 (wlit 210 (by decide)) (tgt := 138) dX5_pick_90 (by decide) (fun q32 => ?_) (fun q32 => ?_)
        · replace h := h.1 q32
          refine j_sub (lv' := [(0, vR E 42), (1, vI l1), (2, vI l2), (3, vI l3), (4, vI l4)]) [1, 2, 3, 4, 5] rfl ?_
          exact jb_X5_pick_138 hc hm hr hh hr_X5_pick hk3 cl1 cl2 cl3 cl4 h
        · replace h := h.2 q32
          refine j_aload_nR hc 1 dX5_pick_93 rfl rfl ?_
          refine j_getI hc fl_RX5_142 (Or.inl rfl) (fun hv => Or.inl (sv_k hv hm rfl)) dX5_pick_94 (fun cn22 => ?_)
          refine j_aload_nR hc 1 dX5_pick_97 rfl rfl ?_
          refine j_getI hc fl_RX5_145 (Or.inl rfl) (fun hv => Or.inl (sv_k hv hm rfl)) dX5_pick_98 (fun cn23 => ?_)
          refine j_iadd hc dX5_pick_101 ?_
          refine j_aload_nR hc 1 dX5_pick_102 rfl rfl ?_
          refine j_getR (c' := 51) hc fl_RX5_36 rfl rfl (fun hv => (sv_k hv hm rfl)) dX5_pick_103 ?_
          refine j_alen hc 0 (by decide) (fun hv => sv_kl hv hm rfl) dX5_pick_106 ?_
          refine j_ic_ge hc rfl (wlit 2100 (by decide)) (tgt := 138) dX5_pick_107 (by decide) (fun q31 => ?_) (fun q31 => ?_)
          · replace h := h.1 q31
            refine j_sub (lv' := [(0, vR E 42), (1, vI l1), (2, vI l2), (3, vI l3), (4, vI l4)]) [1, 2, 3, 4, 5] rfl ?_
            exact jb_X5_pick_138 hc hm hr hh hr_X5_pick hk3 cl1 cl2 cl3 cl4 h
          · replace h := h.2 q31
            refine j_aload_nR hc 1 dX5_pick_110 rfl rfl ?_
            refine j_getR (c' := 51) hc fl_RX5_36 rfl rfl (fun hv => (sv_k hv hm rfl)) dX5_pick_111 ?_
            refine j_aload_nR hc 1 dX5_pick_114 rfl rfl ?_
            refine j_getI hc fl_RX5_142 (Or.inl rfl) (fun hv => Or.inl (sv_k hv hm rfl)) dX5_pick_115 (fun cn24 => ?_)
            refine j_aload_nR hc 1 dX5_pick_118 rfl rfl ?_
            refine j_getI hc fl_RX5_145 (Or.inl rfl) (fun hv => Or.inl (sv_k hv hm rfl)) dX5_pick_119 (fun cn25 => ?_)
            refine j_iadd hc dX5_pick_122 ?_
            refine j_iload_n hc 4 dX5_pick_123 rfl rfl ?_
            refine j_iload hc 6 dX5_pick_124 rfl ?_
            refine j_ior hc dX5_pick_126 ?_
            obtain ⟨b26, h⟩ := h
            refine j_iast (jn := (Int.toNat (wr (gI σ 42 13 + gI σ 42 14)))) hc (fun hv => sv_kl hv hm rfl) rfl b26 rfl (cn_or _ _) dX5_pick_127 (fun s27 es27 => ?_)
            replace h := h s27 es27
            refine j_aload_nR hc 1 dX5_pick_128 rfl rfl ?_
            refine j_dup hc dX5_pick_129 rfl ?_
            refine j_getI hc fl_RX5_145 (Or.inl rfl) (fun hv => Or.inl (sv_k hv hm rfl)) dX5_pick_130 (fun cn28 => ?_)
            refine j_iconst hc dX5_pick_133 ?_
            refine j_iadd hc dX5_pick_134 ?_
            refine j_w (fun x29 ex29 cx29 => ?_)
            replace h := h x29 ex29
            refine j_putI hc fl_RX5_145 rfl rfl (fun hv => Or.inl (sv_k hv hm rfl)) cx29 dX5_pick_135 (fun s30 es30 => ?_)
            replace h := h s30 es30
            refine j_sub (lv' := [(0, vR E 42), (1, vI l1), (2, vI l2), (3, vI l3), (4, vI l4)]) [1, 2, 3, 4, 5] rfl ?_
            exact jb_X5_pick_138 hc hm hr hh hr_X5_pick hk3 cl1 cl2 cl3 cl4 h
      · replace h := h.2 q35
        refine j_aload_nR hc 1 dX5_pick_66 rfl rfl ?_
        refine j_iload hc 5 dX5_pick_67 rfl ?_
        refine j_iload_n hc 3 dX5_pick_69 rfl rfl ?_
        refine j_iload hc 0 dX5_pick_70 rfl ?_
        refine j_isub hc dX5_pick_72 ?_
        refine j_iload_n hc 4 dX5_pick_73 rfl rfl ?_
        refine j_iload hc 6 dX5_pick_74 rfl ?_
        refine j_ior hc dX5_pick_76 ?_
        refine j_vV hc (k := 5) (by decide) (fun hv => Or.inl (sv_k hv hm rfl)) ml_RX5_148 mv_X5_pick (As := [vI l4, vI (wr (l2 - v0)), vI (o_or l3 l5)]) (hr_X5_pick (cx_E hc) hm cl4 (wr_wr _) (cn_or _ _) h) rfl (by omega) (by decide) ⟨Nat.zero_le _, Nat.zero_le _⟩ (Nat.le_of_ble_eq_true rfl) (by simp only [vI_wr, vL_wl]; rfl) dX5_pick_77 (fun s34 h => ?_)
        refine j_goto (tgt := 138) hc dX5_pick_80 (by decide) ?_
        refine j_sub (lv' := [(0, vR E 42), (1, vI l1), (2, vI l2), (3, vI l3), (4, vI l4)]) [1, 2, 3, 4, 5] rfl ?_
        exact jb_X5_pick_138 hc hm hr hh hr_X5_pick hk3 cl1 cl2 cl3 cl4 h
    · replace h := h.2 q36
      refine j_goto (tgt := 138) hc dX5_pick_57 (by decide) ?_
      refine j_sub (lv' := [(0, vR E 42), (1, vI l1), (2, vI l2), (3, vI l3), (4, vI l4)]) [1, 2, 3, 4, 5] rfl ?_
      exact jb_X5_pick_138 hc hm hr hh hr_X5_pick hk3 cl1 cl2 cl3 cl4 h
set_option maxRecDepth 20000 in
theorem jl_X5_pick_3 {X : jj_X} {E : ev_E} {n0 hN : Nat} (hc : Cx X E cX5_pick 7 n0 hN RX5) (hm : eM E = 1) (hr : (xT X).sig.returnType = none) {d : Nat} (hh : 1 + (d + 1) ≤ hN) {Q : st_S → Prop} {rc_X5_pick : Int → Int → Int → st_S → (st_S → Prop) → Prop} (hr_X5_pick : ∀ {l : Launch} {E : ev_E} (hE : Eok E) (hm : eM E = 1) {a1 : Int} {a2 : Int} {a3 : Int} (ca1 : wr a1 = a1) (ca2 : wr a2 = a2) (ca3 : wr a3 = a3) {σ : st_S} {Q : st_S → Prop}, rc_X5_pick a1 a2 a3 σ Q → cM l yX5_pick cX5_pick 7 none E (1 + d) 0 0 [vR E 42, vI a1, vI a2, vI a3] σ (qV E (gN σ + 0) Q)) : ∀ (n : Nat) {l1 : Int} {l2 : Int} {l3 : Int} {l4 : Int} (cl1 : wr l1 = l1) (cl2 : wr l2 = l2) (cl3 : wr l3 = l3) (cl4 : wr l4 = l4) {σ : st_S}, L_X5_pick_3 Q rc_X5_pick n l1 l2 l3 l4 σ → J X E 7 n0 0 0 (MQ (xB X) (qV E (n0 + 0) Q) (xA X) (xS X) 0 0 (eF E)) σ 3 [(0, vR E 42), (1, vI l1), (2, vI l2), (3, vI l3), (4, vI l4)] [] := by
  have hh1 : 1 ≤ hN := by omega
  intro n
  induction n with
  | zero => intro l1 l2 l3 l4 cl1 cl2 cl3 cl4 σ h; exact h.elim
  | succ n ih =>
    intro l1 l2 l3 l4 cl1 cl2 cl3 cl4 σ h
    have hk3 : ∀ {l1 : Int} {l2 : Int} {l3 : Int} {l4 : Int} (cl1 : wr l1 = l1) (cl2 : wr l2 = l2) (cl3 : wr l3 = l3) (cl4 : wr l4 = l4) {σ : st_S}, L_X5_pick_3 Q rc_X5_pick n l1 l2 l3 l4 σ → J X E 7 n0 0 0 (MQ (xB X) (qV E (n0 + 0) Q) (xA X) (xS X) 0 0 (eF E)) σ 3 [(0, vR E 42), (1, vI l1), (2, vI l2), (3, vI l3), (4, vI l4)] [] := ih
    replace h : (l1 ≤ l4 → Q σ) ∧ (¬ l1 ≤ l4 → ∀ x38 : Int, x38 = o_shl 1 l4 → (o_and (gI σ 42 15) x38 = 0 → (o_and (gI σ 42 16) x38 = 0 → B_X5_pick_44 Q rc_X5_pick (L_X5_pick_3 Q rc_X5_pick n) l1 l2 l3 l4 x38 0 σ) ∧ (¬ o_and (gI σ 42 16) x38 = 0 → B_X5_pick_44 Q rc_X5_pick (L_X5_pick_3 Q rc_X5_pick n) l1 l2 l3 l4 x38 1 σ)) ∧ (¬ o_and (gI σ 42 15) x38 = 0 → B_X5_pick_44 Q rc_X5_pick (L_X5_pick_3 Q rc_X5_pick n) l1 l2 l3 l4 x38 2 σ)) := h
    refine j_iload hc 4 dX5_pick_3 rfl ?_
    refine j_iload_n hc 1 dX5_pick_5 rfl rfl ?_
    refine j_ic_ge hc cl4 cl1 (tgt := 144) dX5_pick_6 (by decide) (fun q43 => ?_) (fun q43 => ?_)
    · replace h := h.1 q43
      exact j_vret hc hr h dX5_pick_144
    · replace h := h.2 q43
      refine j_iconst hc dX5_pick_9 ?_
      refine j_iload hc 4 dX5_pick_10 rfl ?_
      refine j_ishl hc dX5_pick_12 ?_
      refine j_c (cn_shl _ _) (fun x38 ex38 cx38 => ?_)
      replace h := h x38 ex38
      refine j_istore (lv' := [(5, vI x38), (0, vR E 42), (1, vI l1), (2, vI l2), (3, vI l3), (4, vI l4)]) hc dX5_pick_13 (by decide) rfl ?_
      refine j_aload_nR hc 1 dX5_pick_15 rfl rfl ?_
      refine j_getI hc fl_RX5_110 (Or.inl rfl) (fun hv => Or.inl (sv_k hv hm rfl)) dX5_pick_16 (fun cn39 => ?_)
      refine j_iload hc 0 dX5_pick_19 rfl ?_
      refine j_iand hc dX5_pick_21 ?_
      refine j_if_eq hc (cn_and _ _) (tgt := 29) dX5_pick_22 (by decide) (fun q42 => ?_) (fun q42 => ?_)
      · replace h := h.1 q42
        refine j_aload_nR hc 1 dX5_pick_29 rfl rfl ?_
        refine j_getI hc fl_RX5_113 (Or.inl rfl) (fun hv => Or.inl (sv_k hv hm rfl)) dX5_pick_30 (fun cn40 => ?_)
        refine j_iload hc 0 dX5_pick_33 rfl ?_
        refine j_iand hc dX5_pick_35 ?_
        refine j_if_eq hc (cn_and _ _) (tgt := 43) dX5_pick_36 (by decide) (fun q41 => ?_) (fun q41 => ?_)
        · replace h := h.1 q41
          refine j_iconst hc dX5_pick_43 ?_
          refine j_sub (lv' := [(0, vR E 42), (1, vI l1), (2, vI l2), (3, vI l3), (4, vI l4), (5, vI x38)]) [1, 2, 3, 4, 5, 0] rfl ?_
          exact jb_X5_pick_44 hc hm hr hh hr_X5_pick hk3 cl1 cl2 cl3 cl4 cx38 (wlit 0 (by decide)) h
        · replace h := h.2 q41
          refine j_iconst hc dX5_pick_39 ?_
          refine j_goto (tgt := 44) hc dX5_pick_40 (by decide) ?_
          refine j_sub (lv' := [(0, vR E 42), (1, vI l1), (2, vI l2), (3, vI l3), (4, vI l4), (5, vI x38)]) [1, 2, 3, 4, 5, 0] rfl ?_
          exact jb_X5_pick_44 hc hm hr hh hr_X5_pick hk3 cl1 cl2 cl3 cl4 cx38 (wlit 1 (by decide)) h
      · replace h := h.2 q42
        refine j_iconst hc dX5_pick_25 ?_
        refine j_goto (tgt := 44) hc dX5_pick_26 (by decide) ?_
        refine j_sub (lv' := [(0, vR E 42), (1, vI l1), (2, vI l2), (3, vI l3), (4, vI l4), (5, vI x38)]) [1, 2, 3, 4, 5, 0] rfl ?_
        exact jb_X5_pick_44 hc hm hr hh hr_X5_pick hk3 cl1 cl2 cl3 cl4 cx38 (wlit 2 (by decide)) h
set_option maxRecDepth 20000 in
theorem ce_X5_pick {d : Nat} {rc_X5_pick : Int → Int → Int → st_S → (st_S → Prop) → Prop} (hr_X5_pick : ∀ {l : Launch} {E : ev_E} (hE : Eok E) (hm : eM E = 1) {a1 : Int} {a2 : Int} {a3 : Int} (ca1 : wr a1 = a1) (ca2 : wr a2 = a2) (ca3 : wr a3 = a3) {σ : st_S} {Q : st_S → Prop}, rc_X5_pick a1 a2 a3 σ Q → cM l yX5_pick cX5_pick 7 none E (1 + d) 0 0 [vR E 42, vI a1, vI a2, vI a3] σ (qV E (gN σ + 0) Q)) {l : Launch} {E : ev_E} (hE : Eok E) (hm : eM E = 1) {a1 : Int} {a2 : Int} {a3 : Int} (ca1 : wr a1 = a1) (ca2 : wr a2 = a2) (ca3 : wr a3 = a3) {σ : st_S} {Q : st_S → Prop} (h : e_X5_pick rc_X5_pick a1 a2 a3 σ Q) : cM l yX5_pick cX5_pick 7 none E (1 + (d + 1)) 0 0 [vR E 42, vI a1, vI a2, vI a3] σ (qV E (gN σ + 0) Q) := by
  refine cM_of (lv := [(0, vR E 42), (1, vI a1), (2, vI a2), (3, vI a3)]) (by decide) hE (Nat.le_of_ble_eq_true rfl) (rfl) ?_
  intro X hX hc _ _ hr _ _
  subst hX
  have hh : 1 + (d + 1) ≤ 1 + (d + 1) := Nat.le_refl _
  have hh1 : 1 ≤ 1 + (d + 1) := by omega
  replace h : ∃ m3 : Nat, L_X5_pick_3 Q rc_X5_pick m3 a1 a2 a3 0 σ := h
  refine j_iconst hc dX5_pick_0 ?_
  refine j_istore (lv' := [(4, vI 0), (0, vR E 42), (1, vI a1), (2, vI a2), (3, vI a3)]) hc dX5_pick_1 (by decide) rfl ?_
  obtain ⟨n3, h⟩ := h
  refine j_sub (lv' := [(0, vR E 42), (1, vI a1), (2, vI a2), (3, vI a3), (4, vI 0)]) [1, 2, 3, 4, 0] rfl ?_
  exact jl_X5_pick_3 hc hm hr hh hr_X5_pick n3 ca1 ca2 ca3 (wlit 0 (by decide)) h
theorem ca_X5_pick : ∀ d : Nat, (∀ {l : Launch} {E : ev_E} (hE : Eok E) (hm : eM E = 1) {a1 : Int} {a2 : Int} {a3 : Int} (ca1 : wr a1 = a1) (ca2 : wr a2 = a2) (ca3 : wr a3 = a3) {σ : st_S} {Q : st_S → Prop}, wp_X5_pick d a1 a2 a3 σ Q → cM l yX5_pick cX5_pick 7 none E (1 + d) 0 0 [vR E 42, vI a1, vI a2, vI a3] σ (qV E (gN σ + 0) Q)) := by
  intro d
  induction d with
  | zero => exact (fun {l} {E} hE hm {a1} {a2} {a3} ca1 ca2 ca3 {σ} {Q} h => h.elim)
  | succ d ih =>
    have q0 := @ih
    exact (fun {l} {E} hE hm {a1} {a2} {a3} ca1 ca2 ca3 {σ} {Q} h => ce_X5_pick (d := d) (rc_X5_pick := wp_X5_pick d) @q0 hE hm ca1 ca2 ca3 h)
theorem c_X5_pick {l : Launch} {E : ev_E} (hE : Eok E) (hm : eM E = 1) (d : Nat) {a1 : Int} {a2 : Int} {a3 : Int} (ca1 : wr a1 = a1) (ca2 : wr a2 = a2) (ca3 : wr a3 = a3) {σ : st_S} {Q : st_S → Prop} : wp_X5_pick d a1 a2 a3 σ Q → cM l yX5_pick cX5_pick 7 none E (1 + d) 0 0 [vR E 42, vI a1, vI a2, vI a3] σ (qV E (gN σ + 0) Q) := fun h => (ca_X5_pick d) hE hm ca1 ca2 ca3 h
-- LitStrangers$Paper.fill(II)I
theorem dX5_fill_0 : decode cX5_fill 0 = .ok (.aload_n 0, 1) := by decide +kernel
theorem dX5_fill_1 : decode cX5_fill 1 = .ok (.iload_n 1, 1) := by decide +kernel
theorem dX5_fill_2 : decode cX5_fill 2 = .ok (.sipush 210, 3) := by decide +kernel
theorem dX5_fill_5 : decode cX5_fill 5 = .ok (.imul, 1) := by decide +kernel
theorem dX5_fill_6 : decode cX5_fill 6 = .ok (.putfield 142, 3) := by decide +kernel
theorem dX5_fill_9 : decode cX5_fill 9 = .ok (.aload_n 0, 1) := by decide +kernel
theorem dX5_fill_10 : decode cX5_fill 10 = .ok (.iconst 0, 1) := by decide +kernel
theorem dX5_fill_11 : decode cX5_fill 11 = .ok (.putfield 145, 3) := by decide +kernel
theorem dX5_fill_14 : decode cX5_fill 14 = .ok (.aload_n 0, 1) := by decide +kernel
theorem dX5_fill_15 : decode cX5_fill 15 = .ok (.aload_n 0, 1) := by decide +kernel
theorem dX5_fill_16 : decode cX5_fill 16 = .ok (.getfield 39, 3) := by decide +kernel
theorem dX5_fill_19 : decode cX5_fill 19 = .ok (.getfield 54, 3) := by decide +kernel
theorem dX5_fill_22 : decode cX5_fill 22 = .ok (.iload_n 2, 1) := by decide +kernel
theorem dX5_fill_23 : decode cX5_fill 23 = .ok (.iconst 0, 1) := by decide +kernel
theorem dX5_fill_24 : decode cX5_fill 24 = .ok (.invokevirtual 148, 3) := by decide +kernel
theorem dX5_fill_27 : decode cX5_fill 27 = .ok (.aload_n 0, 1) := by decide +kernel
theorem dX5_fill_28 : decode cX5_fill 28 = .ok (.getfield 145, 3) := by decide +kernel
theorem dX5_fill_31 : decode cX5_fill 31 = .ok (.ireturn, 1) := by decide +kernel
def wp_X5_fill (a1 : Int) (a2 : Int) (σ : st_S) (Q : Int → st_S → Prop) : Prop := ∀ x9 : Int, x9 = wr (a1 * 210) → ∀ s10 : st_S, s10 = sI σ 42 13 x9 → ∀ s11 : st_S, s11 = sI s10 42 14 0 → wp_X5_pick 6 (gI s11 25 0) a2 0 s11 (fun s14 => Q (gI s14 42 14) s14)
set_option maxRecDepth 20000 in
theorem c_X5_fill {l : Launch} {E : ev_E} (hE : Eok E) (hm : eM E = 1) {a1 : Int} {a2 : Int} (ca1 : wr a1 = a1) (ca2 : wr a2 = a2) {σ : st_S} {Q : Int → st_S → Prop} (h : wp_X5_fill a1 a2 σ Q) : cM l yX5_fill cX5_fill 3 (some .int) E 8 0 0 [vR E 42, vI a1, vI a2] σ (qI E (gN σ + 0) Q) := by
  refine cM_of (lv := [(0, vR E 42), (1, vI a1), (2, vI a2)]) (by decide) hE (Nat.le_of_ble_eq_true rfl) (rfl) ?_
  intro X hX hc _ _ hr _ _
  subst hX
  have hh : 8 ≤ 8 := Nat.le_refl _
  have hh1 : 1 ≤ 8 := by omega
  replace h : ∀ x9 : Int, x9 = wr (a1 * 210) → ∀ s10 : st_S, s10 = sI σ 42 13 x9 → ∀ s11 : st_S, s11 = sI s10 42 14 0 → wp_X5_pick 6 (gI s11 25 0) a2 0 s11 (fun s14 => Q (gI s14 42 14) s14) := h
  refine j_aload_nR hc 0 dX5_fill_0 rfl rfl ?_
  refine j_iload_n hc 1 dX5_fill_1 rfl rfl ?_
  refine j_sipush hc dX5_fill_2 (by decide) ?_
  refine j_imul hc dX5_fill_5 ?_
  refine j_w (fun x9 ex9 cx9 => ?_)
  replace h := h x9 ex9
  refine j_putI hc fl_RX5_142 rfl rfl (fun hv => Or.inl (sv_k hv hm rfl)) cx9 dX5_fill_6 (fun s10 es10 => ?_)
  replace h := h s10 es10
  refine j_aload_nR hc 0 dX5_fill_9 rfl rfl ?_
  refine j_iconst hc dX5_fill_10 ?_
  refine j_putI hc fl_RX5_145 rfl rfl (fun hv => Or.inl (sv_k hv hm rfl)) (wlit 0 (by decide)) dX5_fill_11 (fun s11 es11 => ?_)
  replace h := h s11 es11
  refine j_aload_nR hc 0 dX5_fill_14 rfl rfl ?_
  refine j_aload_nR hc 0 dX5_fill_15 rfl rfl ?_
  refine j_getR (c' := 25) hc fl_RX5_39 rfl rfl (fun hv => (sv_k hv hm rfl)) dX5_fill_16 ?_
  refine j_getI hc fl_RX5_54 (Or.inl rfl) (fun hv => Or.inl (sv_k hv hm rfl)) dX5_fill_19 (fun cn12 => ?_)
  refine j_iload_n hc 2 dX5_fill_22 rfl rfl ?_
  refine j_iconst hc dX5_fill_23 ?_
  refine j_vV hc (k := 5) (by decide) (fun hv => Or.inl (sv_k hv hm rfl)) ml_RX5_148 mv_X5_pick (As := [vI (gI s11 25 0), vI a2, vI 0]) (c_X5_pick (cx_E hc) hm 6 cn12 ca2 (wlit 0 (by decide)) h) rfl (by omega) (by decide) ⟨Nat.zero_le _, Nat.zero_le _⟩ (Nat.le_of_ble_eq_true rfl) rfl dX5_fill_24 (fun s14 h => ?_)
  refine j_aload_nR hc 0 dX5_fill_27 rfl rfl ?_
  refine j_getI hc fl_RX5_145 (Or.inl rfl) (fun hv => Or.inl (sv_k hv hm rfl)) dX5_fill_28 (fun cn15 => ?_)
  exact j_iret hc hr cn15 h dX5_fill_31
-- LitStrangers$Paper.list(III)I
theorem dX5_list_0 : decode cX5_list 0 = .ok (.iload_n 1, 1) := by decide +kernel
theorem dX5_list_1 : decode cX5_list 1 = .ok (.ifCond .lt 14, 3) := by decide +kernel
theorem dX5_list_4 : decode cX5_list 4 = .ok (.iload_n 1, 1) := by decide +kernel
theorem dX5_list_5 : decode cX5_list 5 = .ok (.aload_n 0, 1) := by decide +kernel
theorem dX5_list_6 : decode cX5_list 6 = .ok (.getfield 39, 3) := by decide +kernel
theorem dX5_list_9 : decode cX5_list 9 = .ok (.getfield 54, 3) := by decide +kernel
theorem dX5_list_12 : decode cX5_list 12 = .ok (.if_icmp .lt 5, 3) := by decide +kernel
theorem dX5_list_15 : decode cX5_list 15 = .ok (.iconst 0, 1) := by decide +kernel
theorem dX5_list_16 : decode cX5_list 16 = .ok (.ireturn, 1) := by decide +kernel
theorem dX5_list_17 : decode cX5_list 17 = .ok (.aload_n 0, 1) := by decide +kernel
theorem dX5_list_18 : decode cX5_list 18 = .ok (.iload_n 2, 1) := by decide +kernel
theorem dX5_list_19 : decode cX5_list 19 = .ok (.aload_n 0, 1) := by decide +kernel
theorem dX5_list_20 : decode cX5_list 20 = .ok (.getfield 30, 3) := by decide +kernel
theorem dX5_list_23 : decode cX5_list 23 = .ok (.iload_n 1, 1) := by decide +kernel
theorem dX5_list_24 : decode cX5_list 24 = .ok (.iaload, 1) := by decide +kernel
theorem dX5_list_25 : decode cX5_list 25 = .ok (.iand, 1) := by decide +kernel
theorem dX5_list_26 : decode cX5_list 26 = .ok (.iload_n 3, 1) := by decide +kernel
theorem dX5_list_27 : decode cX5_list 27 = .ok (.iconst (-1), 1) := by decide +kernel
theorem dX5_list_28 : decode cX5_list 28 = .ok (.ixor, 1) := by decide +kernel
theorem dX5_list_29 : decode cX5_list 29 = .ok (.iand, 1) := by decide +kernel
theorem dX5_list_30 : decode cX5_list 30 = .ok (.putfield 110, 3) := by decide +kernel
theorem dX5_list_33 : decode cX5_list 33 = .ok (.aload_n 0, 1) := by decide +kernel
theorem dX5_list_34 : decode cX5_list 34 = .ok (.iload_n 2, 1) := by decide +kernel
theorem dX5_list_35 : decode cX5_list 35 = .ok (.aload_n 0, 1) := by decide +kernel
theorem dX5_list_36 : decode cX5_list 36 = .ok (.getfield 33, 3) := by decide +kernel
theorem dX5_list_39 : decode cX5_list 39 = .ok (.iload_n 1, 1) := by decide +kernel
theorem dX5_list_40 : decode cX5_list 40 = .ok (.iaload, 1) := by decide +kernel
theorem dX5_list_41 : decode cX5_list 41 = .ok (.iand, 1) := by decide +kernel
theorem dX5_list_42 : decode cX5_list 42 = .ok (.iload_n 3, 1) := by decide +kernel
theorem dX5_list_43 : decode cX5_list 43 = .ok (.iand, 1) := by decide +kernel
theorem dX5_list_44 : decode cX5_list 44 = .ok (.iload_n 3, 1) := by decide +kernel
theorem dX5_list_45 : decode cX5_list 45 = .ok (.bipush 10, 2) := by decide +kernel
theorem dX5_list_47 : decode cX5_list 47 = .ok (.ishr, 1) := by decide +kernel
theorem dX5_list_48 : decode cX5_list 48 = .ok (.iconst (-1), 1) := by decide +kernel
theorem dX5_list_49 : decode cX5_list 49 = .ok (.ixor, 1) := by decide +kernel
theorem dX5_list_50 : decode cX5_list 50 = .ok (.iand, 1) := by decide +kernel
theorem dX5_list_51 : decode cX5_list 51 = .ok (.putfield 113, 3) := by decide +kernel
theorem dX5_list_54 : decode cX5_list 54 = .ok (.aload_n 0, 1) := by decide +kernel
theorem dX5_list_55 : decode cX5_list 55 = .ok (.iload_n 1, 1) := by decide +kernel
theorem dX5_list_56 : decode cX5_list 56 = .ok (.aload_n 0, 1) := by decide +kernel
theorem dX5_list_57 : decode cX5_list 57 = .ok (.getfield 24, 3) := by decide +kernel
theorem dX5_list_60 : decode cX5_list 60 = .ok (.iload_n 1, 1) := by decide +kernel
theorem dX5_list_61 : decode cX5_list 61 = .ok (.iaload, 1) := by decide +kernel
theorem dX5_list_62 : decode cX5_list 62 = .ok (.invokevirtual 116, 3) := by decide +kernel
theorem dX5_list_65 : decode cX5_list 65 = .ok (.ireturn, 1) := by decide +kernel
def B_X5_list_15 (Q : Int → st_S → Prop)    (σ : st_S) : Prop := Q 0 σ
def wp_X5_list (a1 : Int) (a2 : Int) (a3 : Int) (σ : st_S) (Q : Int → st_S → Prop) : Prop := (a1 < 0 → B_X5_list_15 Q σ) ∧ (¬ a1 < 0 → (a1 < gI σ 25 0 → ix a1 10 ∧ ∀ s17 : st_S, s17 = sI σ 42 15 (o_and (o_and a2 (gI σ 49 (Int.toNat a1))) (o_xor a3 (-1))) → ix a1 10 ∧ ∀ s20 : st_S, s20 = sI s17 42 16 (o_and (o_and (o_and a2 (gI s17 50 (Int.toNat a1))) a3) (o_xor (o_shr a3 10) (-1))) → ix a1 10 ∧ wp_X5_fill a1 (gI s20 47 (Int.toNat a1)) s20 (fun r23 s24 => Q r23 s24)) ∧ (¬ a1 < gI σ 25 0 → B_X5_list_15 Q σ))
set_option maxRecDepth 20000 in
theorem jb_X5_list_15 {X : jj_X} {E : ev_E} {n0 hN : Nat} (hc : Cx X E cX5_list 4 n0 hN RX5) (hm : eM E = 1) (hr : (xT X).sig.returnType = (some .int)) (hh : 9 ≤ hN) {Q : Int → st_S → Prop} {σ : st_S} (h : B_X5_list_15 Q σ) : J X E 4 n0 0 0 (MQ (xB X) (qI E (n0 + 0) Q) (xA X) (xS X) 0 0 (eF E)) σ 15 [] [] := by
  have hh1 : 1 ≤ hN := by omega
  replace h : Q 0 σ := h
  refine j_iconst hc dX5_list_15 ?_
  exact j_iret hc hr (wlit 0 (by decide)) h dX5_list_16
set_option maxRecDepth 20000 in
theorem c_X5_list {l : Launch} {E : ev_E} (hE : Eok E) (hm : eM E = 1) {a1 : Int} {a2 : Int} {a3 : Int} (ca1 : wr a1 = a1) (ca2 : wr a2 = a2) (ca3 : wr a3 = a3) {σ : st_S} {Q : Int → st_S → Prop} (h : wp_X5_list a1 a2 a3 σ Q) : cM l yX5_list cX5_list 4 (some .int) E 9 0 0 [vR E 42, vI a1, vI a2, vI a3] σ (qI E (gN σ + 0) Q) := by
  refine cM_of (lv := [(0, vR E 42), (1, vI a1), (2, vI a2), (3, vI a3)]) (by decide) hE (Nat.le_of_ble_eq_true rfl) (rfl) ?_
  intro X hX hc _ _ hr _ _
  subst hX
  have hh : 9 ≤ 9 := Nat.le_refl _
  have hh1 : 1 ≤ 9 := by omega
  replace h : (a1 < 0 → B_X5_list_15 Q σ) ∧ (¬ a1 < 0 → (a1 < gI σ 25 0 → ix a1 10 ∧ ∀ s17 : st_S, s17 = sI σ 42 15 (o_and (o_and a2 (gI σ 49 (Int.toNat a1))) (o_xor a3 (-1))) → ix a1 10 ∧ ∀ s20 : st_S, s20 = sI s17 42 16 (o_and (o_and (o_and a2 (gI s17 50 (Int.toNat a1))) a3) (o_xor (o_shr a3 10) (-1))) → ix a1 10 ∧ wp_X5_fill a1 (gI s20 47 (Int.toNat a1)) s20 (fun r23 s24 => Q r23 s24)) ∧ (¬ a1 < gI σ 25 0 → B_X5_list_15 Q σ)) := h
  refine j_iload_n hc 1 dX5_list_0 rfl rfl ?_
  refine j_if_lt hc ca1 (tgt := 15) dX5_list_1 (by decide) (fun q26 => ?_) (fun q26 => ?_)
  · replace h := h.1 q26
    refine j_sub (lv' := []) [] rfl ?_
    exact jb_X5_list_15 hc hm hr hh h
  · replace h := h.2 q26
    refine j_iload_n hc 1 dX5_list_4 rfl rfl ?_
    refine j_aload_nR hc 0 dX5_list_5 rfl rfl ?_
    refine j_getR (c' := 25) hc fl_RX5_39 rfl rfl (fun hv => (sv_k hv hm rfl)) dX5_list_6 ?_
    refine j_getI hc fl_RX5_54 (Or.inl rfl) (fun hv => Or.inl (sv_k hv hm rfl)) dX5_list_9 (fun cn14 => ?_)
    refine j_ic_lt hc ca1 cn14 (tgt := 17) dX5_list_12 (by decide) (fun q25 => ?_) (fun q25 => ?_)
    · replace h := h.1 q25
      refine j_aload_nR hc 0 dX5_list_17 rfl rfl ?_
      refine j_iload_n hc 2 dX5_list_18 rfl rfl ?_
      refine j_aload_nR hc 0 dX5_list_19 rfl rfl ?_
      refine j_getR (c' := 49) hc fl_RX5_30 rfl rfl (fun hv => (sv_k hv hm rfl)) dX5_list_20 ?_
      refine j_iload_n hc 1 dX5_list_23 rfl rfl ?_
      obtain ⟨b15, h⟩ := h
      refine j_iald (jn := (Int.toNat a1)) hc (fun hv => sv_kl hv hm rfl) ca1 b15 rfl dX5_list_24 (fun cn16 => ?_)
      refine j_iand hc dX5_list_25 ?_
      refine j_iload_n hc 3 dX5_list_26 rfl rfl ?_
      refine j_iconst hc dX5_list_27 ?_
      refine j_ixor hc dX5_list_28 ?_
      refine j_iand hc dX5_list_29 ?_
      refine j_putI hc fl_RX5_110 rfl rfl (fun hv => Or.inl (sv_k hv hm rfl)) (cn_and _ _) dX5_list_30 (fun s17 es17 => ?_)
      replace h := h s17 es17
      refine j_aload_nR hc 0 dX5_list_33 rfl rfl ?_
      refine j_iload_n hc 2 dX5_list_34 rfl rfl ?_
      refine j_aload_nR hc 0 dX5_list_35 rfl rfl ?_
      refine j_getR (c' := 50) hc fl_RX5_33 rfl rfl (fun hv => (sv_k hv hm rfl)) dX5_list_36 ?_
      refine j_iload_n hc 1 dX5_list_39 rfl rfl ?_
      obtain ⟨b18, h⟩ := h
      refine j_iald (jn := (Int.toNat a1)) hc (fun hv => sv_kl hv hm rfl) ca1 b18 rfl dX5_list_40 (fun cn19 => ?_)
      refine j_iand hc dX5_list_41 ?_
      refine j_iload_n hc 3 dX5_list_42 rfl rfl ?_
      refine j_iand hc dX5_list_43 ?_
      refine j_iload_n hc 3 dX5_list_44 rfl rfl ?_
      refine j_bipush hc dX5_list_45 (by decide) ?_
      refine j_ishr hc dX5_list_47 ?_
      refine j_iconst hc dX5_list_48 ?_
      refine j_ixor hc dX5_list_49 ?_
      refine j_iand hc dX5_list_50 ?_
      refine j_putI hc fl_RX5_113 rfl rfl (fun hv => Or.inl (sv_k hv hm rfl)) (cn_and _ _) dX5_list_51 (fun s20 es20 => ?_)
      replace h := h s20 es20
      refine j_aload_nR hc 0 dX5_list_54 rfl rfl ?_
      refine j_iload_n hc 1 dX5_list_55 rfl rfl ?_
      refine j_aload_nR hc 0 dX5_list_56 rfl rfl ?_
      refine j_getR (c' := 47) hc fl_RX5_24 rfl rfl (fun hv => (sv_k hv hm rfl)) dX5_list_57 ?_
      refine j_iload_n hc 1 dX5_list_60 rfl rfl ?_
      obtain ⟨b21, h⟩ := h
      refine j_iald (jn := (Int.toNat a1)) hc (fun hv => sv_kl hv hm rfl) ca1 b21 rfl dX5_list_61 (fun cn22 => ?_)
      refine j_vI hc (k := 5) (by decide) (fun hv => Or.inl (sv_k hv hm rfl)) ml_RX5_116 mv_X5_fill (As := [vI a1, vI (gI s20 47 (Int.toNat a1))]) (c_X5_fill (cx_E hc) hm ca1 cn22 h) rfl (by omega) (by decide) ⟨Nat.zero_le _, Nat.zero_le _⟩ (Nat.le_of_ble_eq_true rfl) rfl dX5_list_62 (fun r23 s24 cr23 h => ?_)
      exact j_iret hc hr cr23 h dX5_list_65
    · replace h := h.2 q25
      refine j_sub (lv' := []) [] rfl ?_
      exact jb_X5_list_15 hc hm hr hh h
-- LitStrangers$Paper.crewAt(II)I
theorem dX5_crewAt_0 : decode cX5_crewAt 0 = .ok (.iload_n 1, 1) := by decide +kernel
theorem dX5_crewAt_1 : decode cX5_crewAt 1 = .ok (.sipush 210, 3) := by decide +kernel
theorem dX5_crewAt_4 : decode cX5_crewAt 4 = .ok (.imul, 1) := by decide +kernel
theorem dX5_crewAt_5 : decode cX5_crewAt 5 = .ok (.iload_n 2, 1) := by decide +kernel
theorem dX5_crewAt_6 : decode cX5_crewAt 6 = .ok (.iadd, 1) := by decide +kernel
theorem dX5_crewAt_7 : decode cX5_crewAt 7 = .ok (.istore_n 3, 1) := by decide +kernel
theorem dX5_crewAt_8 : decode cX5_crewAt 8 = .ok (.iload_n 3, 1) := by decide +kernel
theorem dX5_crewAt_9 : decode cX5_crewAt 9 = .ok (.ifCond .lt 21, 3) := by decide +kernel
theorem dX5_crewAt_12 : decode cX5_crewAt 12 = .ok (.iload_n 3, 1) := by decide +kernel
theorem dX5_crewAt_13 : decode cX5_crewAt 13 = .ok (.aload_n 0, 1) := by decide +kernel
theorem dX5_crewAt_14 : decode cX5_crewAt 14 = .ok (.getfield 36, 3) := by decide +kernel
theorem dX5_crewAt_17 : decode cX5_crewAt 17 = .ok (.arraylength, 1) := by decide +kernel
theorem dX5_crewAt_18 : decode cX5_crewAt 18 = .ok (.if_icmp .ge 12, 3) := by decide +kernel
theorem dX5_crewAt_21 : decode cX5_crewAt 21 = .ok (.aload_n 0, 1) := by decide +kernel
theorem dX5_crewAt_22 : decode cX5_crewAt 22 = .ok (.getfield 36, 3) := by decide +kernel
theorem dX5_crewAt_25 : decode cX5_crewAt 25 = .ok (.iload_n 3, 1) := by decide +kernel
theorem dX5_crewAt_26 : decode cX5_crewAt 26 = .ok (.iaload, 1) := by decide +kernel
theorem dX5_crewAt_27 : decode cX5_crewAt 27 = .ok (.goto 4, 3) := by decide +kernel
theorem dX5_crewAt_30 : decode cX5_crewAt 30 = .ok (.iconst 0, 1) := by decide +kernel
theorem dX5_crewAt_31 : decode cX5_crewAt 31 = .ok (.ireturn, 1) := by decide +kernel
def B_X5_crewAt_31 (Q : Int → st_S → Prop)   (v0 : Int) (σ : st_S) : Prop := Q v0 σ
def B_X5_crewAt_30 (Q : Int → st_S → Prop)    (σ : st_S) : Prop := B_X5_crewAt_31 Q 0 σ
def wp_X5_crewAt (a1 : Int) (a2 : Int) (σ : st_S) (Q : Int → st_S → Prop) : Prop := ∀ x4 : Int, x4 = wr ((a1 * 210) + a2) → (x4 < 0 → B_X5_crewAt_30 Q σ) ∧ (¬ x4 < 0 → (2100 ≤ x4 → B_X5_crewAt_30 Q σ) ∧ (¬ 2100 ≤ x4 → ix x4 2100 ∧ B_X5_crewAt_31 Q (gI σ 51 (Int.toNat x4)) σ))
set_option maxRecDepth 20000 in
theorem jb_X5_crewAt_31 {X : jj_X} {E : ev_E} {n0 hN : Nat} (hc : Cx X E cX5_crewAt 4 n0 hN RX5) (hm : eM E = 1) (hr : (xT X).sig.returnType = (some .int)) (hh : 1 ≤ hN) {Q : Int → st_S → Prop} {v0 : Int} (cv0 : wr v0 = v0) {σ : st_S} (h : B_X5_crewAt_31 Q v0 σ) : J X E 4 n0 0 0 (MQ (xB X) (qI E (n0 + 0) Q) (xA X) (xS X) 0 0 (eF E)) σ 31 [] [vI v0] := by
  have hh1 : 1 ≤ hN := by omega
  replace h : Q v0 σ := h
  exact j_iret hc hr cv0 h dX5_crewAt_31
set_option maxRecDepth 20000 in
theorem jb_X5_crewAt_30 {X : jj_X} {E : ev_E} {n0 hN : Nat} (hc : Cx X E cX5_crewAt 4 n0 hN RX5) (hm : eM E = 1) (hr : (xT X).sig.returnType = (some .int)) (hh : 1 ≤ hN) {Q : Int → st_S → Prop} {σ : st_S} (h : B_X5_crewAt_30 Q σ) : J X E 4 n0 0 0 (MQ (xB X) (qI E (n0 + 0) Q) (xA X) (xS X) 0 0 (eF E)) σ 30 [] [] := by
  have hh1 : 1 ≤ hN := by omega
  replace h : B_X5_crewAt_31 Q 0 σ := h
  refine j_iconst hc dX5_crewAt_30 ?_
  refine j_sub (lv' := []) [] rfl ?_
  exact jb_X5_crewAt_31 hc hm hr hh (wlit 0 (by decide)) h
set_option maxRecDepth 20000 in
theorem c_X5_crewAt {l : Launch} {E : ev_E} (hE : Eok E) (hm : eM E = 1) {a1 : Int} {a2 : Int} (ca1 : wr a1 = a1) (ca2 : wr a2 = a2) {σ : st_S} {Q : Int → st_S → Prop} (h : wp_X5_crewAt a1 a2 σ Q) : cM l yX5_crewAt cX5_crewAt 4 (some .int) E 1 0 0 [vR E 42, vI a1, vI a2] σ (qI E (gN σ + 0) Q) := by
  refine cM_of (lv := [(0, vR E 42), (1, vI a1), (2, vI a2)]) (by decide) hE (Nat.le_of_ble_eq_true rfl) (rfl) ?_
  intro X hX hc _ _ hr _ _
  subst hX
  have hh : 1 ≤ 1 := Nat.le_refl _
  have hh1 : 1 ≤ 1 := by omega
  replace h : ∀ x4 : Int, x4 = wr ((a1 * 210) + a2) → (x4 < 0 → B_X5_crewAt_30 Q σ) ∧ (¬ x4 < 0 → (2100 ≤ x4 → B_X5_crewAt_30 Q σ) ∧ (¬ 2100 ≤ x4 → ix x4 2100 ∧ B_X5_crewAt_31 Q (gI σ 51 (Int.toNat x4)) σ)) := h
  refine j_iload_n hc 1 dX5_crewAt_0 rfl rfl ?_
  refine j_sipush hc dX5_crewAt_1 (by decide) ?_
  refine j_imul hc dX5_crewAt_4 ?_
  refine j_iload_n hc 2 dX5_crewAt_5 rfl rfl ?_
  refine j_iadd hc dX5_crewAt_6 ?_
  refine j_w (fun x4 ex4 cx4 => ?_)
  replace h := h x4 ex4
  refine j_istore_n (lv' := [(3, vI x4), (0, vR E 42), (1, vI a1), (2, vI a2)]) hc dX5_crewAt_7 rfl (by decide) rfl ?_
  refine j_iload_n hc 0 dX5_crewAt_8 rfl rfl ?_
  refine j_if_lt hc cx4 (tgt := 30) dX5_crewAt_9 (by decide) (fun q8 => ?_) (fun q8 => ?_)
  · replace h := h.1 q8
    refine j_sub (lv' := []) [] rfl ?_
    exact jb_X5_crewAt_30 hc hm hr hh h
  · replace h := h.2 q8
    refine j_iload_n hc 0 dX5_crewAt_12 rfl rfl ?_
    refine j_aload_nR hc 1 dX5_crewAt_13 rfl rfl ?_
    refine j_getR (c' := 51) hc fl_RX5_36 rfl rfl (fun hv => (sv_k hv hm rfl)) dX5_crewAt_14 ?_
    refine j_alen hc 0 (by decide) (fun hv => sv_kl hv hm rfl) dX5_crewAt_17 ?_
    refine j_ic_ge hc cx4 (wlit 2100 (by decide)) (tgt := 30) dX5_crewAt_18 (by decide) (fun q7 => ?_) (fun q7 => ?_)
    · replace h := h.1 q7
      refine j_sub (lv' := []) [] rfl ?_
      exact jb_X5_crewAt_30 hc hm hr hh h
    · replace h := h.2 q7
      refine j_aload_nR hc 1 dX5_crewAt_21 rfl rfl ?_
      refine j_getR (c' := 51) hc fl_RX5_36 rfl rfl (fun hv => (sv_k hv hm rfl)) dX5_crewAt_22 ?_
      refine j_iload_n hc 0 dX5_crewAt_25 rfl rfl ?_
      obtain ⟨b5, h⟩ := h
      refine j_iald (jn := (Int.toNat x4)) hc (fun hv => sv_kl hv hm rfl) cx4 b5 rfl dX5_crewAt_26 (fun cn6 => ?_)
      refine j_goto (tgt := 31) hc dX5_crewAt_27 (by decide) ?_
      refine j_sub (lv' := []) [] rfl ?_
      exact jb_X5_crewAt_31 hc hm hr hh cn6 h
-- LitStrangers$Paper.winterBy(II[I)I
theorem dX5_winterBy_0 : decode cX5_winterBy 0 = .ok (.iload_n 1, 1) := by decide +kernel
theorem dX5_winterBy_1 : decode cX5_winterBy 1 = .ok (.istore 4, 2) := by decide +kernel
theorem dX5_winterBy_3 : decode cX5_winterBy 3 = .ok (.aload_n 0, 1) := by decide +kernel
theorem dX5_winterBy_4 : decode cX5_winterBy 4 = .ok (.getfield 47, 3) := by decide +kernel
theorem dX5_winterBy_7 : decode cX5_winterBy 7 = .ok (.istore 5, 2) := by decide +kernel
theorem dX5_winterBy_9 : decode cX5_winterBy 9 = .ok (.aload_n 0, 1) := by decide +kernel
theorem dX5_winterBy_10 : decode cX5_winterBy 10 = .ok (.getfield 51, 3) := by decide +kernel
theorem dX5_winterBy_13 : decode cX5_winterBy 13 = .ok (.istore 6, 2) := by decide +kernel
theorem dX5_winterBy_15 : decode cX5_winterBy 15 = .ok (.iconst 0, 1) := by decide +kernel
theorem dX5_winterBy_16 : decode cX5_winterBy 16 = .ok (.istore 7, 2) := by decide +kernel
theorem dX5_winterBy_18 : decode cX5_winterBy 18 = .ok (.iconst 0, 1) := by decide +kernel
theorem dX5_winterBy_19 : decode cX5_winterBy 19 = .ok (.istore 8, 2) := by decide +kernel
theorem dX5_winterBy_21 : decode cX5_winterBy 21 = .ok (.iload 8, 2) := by decide +kernel
theorem dX5_winterBy_23 : decode cX5_winterBy 23 = .ok (.iload_n 2, 1) := by decide +kernel
theorem dX5_winterBy_24 : decode cX5_winterBy 24 = .ok (.if_icmp .ge 167, 3) := by decide +kernel
theorem dX5_winterBy_27 : decode cX5_winterBy 27 = .ok (.iload 8, 2) := by decide +kernel
theorem dX5_winterBy_29 : decode cX5_winterBy 29 = .ok (.aload_n 3, 1) := by decide +kernel
theorem dX5_winterBy_30 : decode cX5_winterBy 30 = .ok (.arraylength, 1) := by decide +kernel
theorem dX5_winterBy_31 : decode cX5_winterBy 31 = .ok (.if_icmp .ge 160, 3) := by decide +kernel
theorem dX5_winterBy_34 : decode cX5_winterBy 34 = .ok (.iload 4, 2) := by decide +kernel
theorem dX5_winterBy_36 : decode cX5_winterBy 36 = .ok (.sipush 1103, 3) := by decide +kernel
theorem dX5_winterBy_39 : decode cX5_winterBy 39 = .ok (.imul, 1) := by decide +kernel
theorem dX5_winterBy_40 : decode cX5_winterBy 40 = .ok (.sipush 12345, 3) := by decide +kernel
theorem dX5_winterBy_43 : decode cX5_winterBy 43 = .ok (.iadd, 1) := by decide +kernel
theorem dX5_winterBy_44 : decode cX5_winterBy 44 = .ok (.ldc 119, 2) := by decide +kernel
theorem dX5_winterBy_46 : decode cX5_winterBy 46 = .ok (.irem, 1) := by decide +kernel
theorem dX5_winterBy_47 : decode cX5_winterBy 47 = .ok (.istore 4, 2) := by decide +kernel
theorem dX5_winterBy_49 : decode cX5_winterBy 49 = .ok (.iload 4, 2) := by decide +kernel
theorem dX5_winterBy_51 : decode cX5_winterBy 51 = .ok (.bipush 10, 2) := by decide +kernel
theorem dX5_winterBy_53 : decode cX5_winterBy 53 = .ok (.irem, 1) := by decide +kernel
theorem dX5_winterBy_54 : decode cX5_winterBy 54 = .ok (.aload_n 0, 1) := by decide +kernel
theorem dX5_winterBy_55 : decode cX5_winterBy 55 = .ok (.getfield 39, 3) := by decide +kernel
theorem dX5_winterBy_58 : decode cX5_winterBy 58 = .ok (.getfield 72, 3) := by decide +kernel
theorem dX5_winterBy_61 : decode cX5_winterBy 61 = .ok (.iconst 1, 1) := by decide +kernel
theorem dX5_winterBy_62 : decode cX5_winterBy 62 = .ok (.iaload, 1) := by decide +kernel
theorem dX5_winterBy_63 : decode cX5_winterBy 63 = .ok (.if_icmp .ge 7, 3) := by decide +kernel
theorem dX5_winterBy_66 : decode cX5_winterBy 66 = .ok (.iconst 1, 1) := by decide +kernel
theorem dX5_winterBy_67 : decode cX5_winterBy 67 = .ok (.goto 4, 3) := by decide +kernel
theorem dX5_winterBy_70 : decode cX5_winterBy 70 = .ok (.iconst 0, 1) := by decide +kernel
theorem dX5_winterBy_71 : decode cX5_winterBy 71 = .ok (.istore 9, 2) := by decide +kernel
theorem dX5_winterBy_73 : decode cX5_winterBy 73 = .ok (.aload_n 0, 1) := by decide +kernel
theorem dX5_winterBy_74 : decode cX5_winterBy 74 = .ok (.aload_n 0, 1) := by decide +kernel
theorem dX5_winterBy_75 : decode cX5_winterBy 75 = .ok (.iload 8, 2) := by decide +kernel
theorem dX5_winterBy_77 : decode cX5_winterBy 77 = .ok (.iload 9, 2) := by decide +kernel
theorem dX5_winterBy_79 : decode cX5_winterBy 79 = .ok (.iconst 0, 1) := by decide +kernel
theorem dX5_winterBy_80 : decode cX5_winterBy 80 = .ok (.iload 5, 2) := by decide +kernel
theorem dX5_winterBy_82 : decode cX5_winterBy 82 = .ok (.iload 6, 2) := by decide +kernel
theorem dX5_winterBy_84 : decode cX5_winterBy 84 = .ok (.iconst (-1), 1) := by decide +kernel
theorem dX5_winterBy_85 : decode cX5_winterBy 85 = .ok (.ixor, 1) := by decide +kernel
theorem dX5_winterBy_86 : decode cX5_winterBy 86 = .ok (.iand, 1) := by decide +kernel
theorem dX5_winterBy_87 : decode cX5_winterBy 87 = .ok (.invokevirtual 84, 3) := by decide +kernel
theorem dX5_winterBy_90 : decode cX5_winterBy 90 = .ok (.putfield 110, 3) := by decide +kernel
theorem dX5_winterBy_93 : decode cX5_winterBy 93 = .ok (.aload_n 0, 1) := by decide +kernel
theorem dX5_winterBy_94 : decode cX5_winterBy 94 = .ok (.aload_n 0, 1) := by decide +kernel
theorem dX5_winterBy_95 : decode cX5_winterBy 95 = .ok (.iload 8, 2) := by decide +kernel
theorem dX5_winterBy_97 : decode cX5_winterBy 97 = .ok (.iload 9, 2) := by decide +kernel
theorem dX5_winterBy_99 : decode cX5_winterBy 99 = .ok (.iconst 1, 1) := by decide +kernel
theorem dX5_winterBy_100 : decode cX5_winterBy 100 = .ok (.iload 5, 2) := by decide +kernel
theorem dX5_winterBy_102 : decode cX5_winterBy 102 = .ok (.iload 6, 2) := by decide +kernel
theorem dX5_winterBy_104 : decode cX5_winterBy 104 = .ok (.iand, 1) := by decide +kernel
theorem dX5_winterBy_105 : decode cX5_winterBy 105 = .ok (.iload 6, 2) := by decide +kernel
theorem dX5_winterBy_107 : decode cX5_winterBy 107 = .ok (.bipush 10, 2) := by decide +kernel
theorem dX5_winterBy_109 : decode cX5_winterBy 109 = .ok (.ishr, 1) := by decide +kernel
theorem dX5_winterBy_110 : decode cX5_winterBy 110 = .ok (.iconst (-1), 1) := by decide +kernel
theorem dX5_winterBy_111 : decode cX5_winterBy 111 = .ok (.ixor, 1) := by decide +kernel
theorem dX5_winterBy_112 : decode cX5_winterBy 112 = .ok (.iand, 1) := by decide +kernel
theorem dX5_winterBy_113 : decode cX5_winterBy 113 = .ok (.invokevirtual 84, 3) := by decide +kernel
theorem dX5_winterBy_116 : decode cX5_winterBy 116 = .ok (.putfield 113, 3) := by decide +kernel
theorem dX5_winterBy_119 : decode cX5_winterBy 119 = .ok (.aload_n 0, 1) := by decide +kernel
theorem dX5_winterBy_120 : decode cX5_winterBy 120 = .ok (.iconst 0, 1) := by decide +kernel
theorem dX5_winterBy_121 : decode cX5_winterBy 121 = .ok (.iload 9, 2) := by decide +kernel
theorem dX5_winterBy_123 : decode cX5_winterBy 123 = .ok (.invokestatic 78, 3) := by decide +kernel
theorem dX5_winterBy_126 : decode cX5_winterBy 126 = .ok (.invokevirtual 116, 3) := by decide +kernel
theorem dX5_winterBy_129 : decode cX5_winterBy 129 = .ok (.ifCond .le 12, 3) := by decide +kernel
theorem dX5_winterBy_132 : decode cX5_winterBy 132 = .ok (.aload_n 0, 1) := by decide +kernel
theorem dX5_winterBy_133 : decode cX5_winterBy 133 = .ok (.getfield 36, 3) := by decide +kernel
theorem dX5_winterBy_136 : decode cX5_winterBy 136 = .ok (.iconst 0, 1) := by decide +kernel
theorem dX5_winterBy_137 : decode cX5_winterBy 137 = .ok (.iaload, 1) := by decide +kernel
theorem dX5_winterBy_138 : decode cX5_winterBy 138 = .ok (.goto 4, 3) := by decide +kernel
theorem dX5_winterBy_141 : decode cX5_winterBy 141 = .ok (.iconst 0, 1) := by decide +kernel
theorem dX5_winterBy_142 : decode cX5_winterBy 142 = .ok (.istore 10, 2) := by decide +kernel
theorem dX5_winterBy_144 : decode cX5_winterBy 144 = .ok (.aload_n 3, 1) := by decide +kernel
theorem dX5_winterBy_145 : decode cX5_winterBy 145 = .ok (.iload 8, 2) := by decide +kernel
theorem dX5_winterBy_147 : decode cX5_winterBy 147 = .ok (.iload 10, 2) := by decide +kernel
theorem dX5_winterBy_149 : decode cX5_winterBy 149 = .ok (.iastore, 1) := by decide +kernel
theorem dX5_winterBy_150 : decode cX5_winterBy 150 = .ok (.iload 7, 2) := by decide +kernel
theorem dX5_winterBy_152 : decode cX5_winterBy 152 = .ok (.iload 10, 2) := by decide +kernel
theorem dX5_winterBy_154 : decode cX5_winterBy 154 = .ok (.ifCond .ne 7, 3) := by decide +kernel
theorem dX5_winterBy_157 : decode cX5_winterBy 157 = .ok (.iconst 0, 1) := by decide +kernel
theorem dX5_winterBy_158 : decode cX5_winterBy 158 = .ok (.goto 4, 3) := by decide +kernel
theorem dX5_winterBy_161 : decode cX5_winterBy 161 = .ok (.iconst 1, 1) := by decide +kernel
theorem dX5_winterBy_162 : decode cX5_winterBy 162 = .ok (.iadd, 1) := by decide +kernel
theorem dX5_winterBy_163 : decode cX5_winterBy 163 = .ok (.istore 7, 2) := by decide +kernel
theorem dX5_winterBy_165 : decode cX5_winterBy 165 = .ok (.iload 5, 2) := by decide +kernel
theorem dX5_winterBy_167 : decode cX5_winterBy 167 = .ok (.iload 10, 2) := by decide +kernel
theorem dX5_winterBy_169 : decode cX5_winterBy 169 = .ok (.iconst (-1), 1) := by decide +kernel
theorem dX5_winterBy_170 : decode cX5_winterBy 170 = .ok (.ixor, 1) := by decide +kernel
theorem dX5_winterBy_171 : decode cX5_winterBy 171 = .ok (.iand, 1) := by decide +kernel
theorem dX5_winterBy_172 : decode cX5_winterBy 172 = .ok (.istore 5, 2) := by decide +kernel
theorem dX5_winterBy_174 : decode cX5_winterBy 174 = .ok (.aload_n 0, 1) := by decide +kernel
theorem dX5_winterBy_175 : decode cX5_winterBy 175 = .ok (.iload 6, 2) := by decide +kernel
theorem dX5_winterBy_177 : decode cX5_winterBy 177 = .ok (.iload 10, 2) := by decide +kernel
theorem dX5_winterBy_179 : decode cX5_winterBy 179 = .ok (.iconst 0, 1) := by decide +kernel
theorem dX5_winterBy_180 : decode cX5_winterBy 180 = .ok (.invokevirtual 120, 3) := by decide +kernel
theorem dX5_winterBy_183 : decode cX5_winterBy 183 = .ok (.istore 6, 2) := by decide +kernel
theorem dX5_winterBy_185 : decode cX5_winterBy 185 = .ok (.iinc 8 1, 3) := by decide +kernel
theorem dX5_winterBy_188 : decode cX5_winterBy 188 = .ok (.goto (-167), 3) := by decide +kernel
theorem dX5_winterBy_191 : decode cX5_winterBy 191 = .ok (.iload 7, 2) := by decide +kernel
theorem dX5_winterBy_193 : decode cX5_winterBy 193 = .ok (.ireturn, 1) := by decide +kernel
def B_X5_winterBy_162 (Q : Int → st_S → Prop)  (k21 : Int → Int → Int → Int → Int → Int → st_S → Prop) (l2 : Int) (l4 : Int) (l5 : Int) (l6 : Int) (l8 : Int) (l10 : Int) (v0 : Int) (v1 : Int) (σ : st_S) : Prop := ∀ x38 : Int, x38 = wr (v1 + v0) → ∀ x39 : Int, x39 = o_and l5 (o_xor l10 (-1)) → wp_X5_spoiled l6 l10 0 σ (fun r40 s41 => ∀ x42 : Int, x42 = wr (l8 + 1) → k21 l2 l4 x39 r40 x38 x42 s41)
def B_X5_winterBy_142 (Q : Int → st_S → Prop)  (k21 : Int → Int → Int → Int → Int → Int → st_S → Prop) (l2 : Int) (l4 : Int) (l5 : Int) (l6 : Int) (l7 : Int) (l8 : Int) (v0 : Int) (σ : st_S) : Prop := ix l8 60 ∧ ∀ s44 : st_S, s44 = sI σ 23 (Int.toNat l8) v0 → (¬ v0 = 0 → B_X5_winterBy_162 Q k21 l2 l4 l5 l6 l8 v0 1 l7 s44) ∧ (v0 = 0 → B_X5_winterBy_162 Q k21 l2 l4 l5 l6 l8 v0 0 l7 s44)
def B_X5_winterBy_71 (Q : Int → st_S → Prop)  (k21 : Int → Int → Int → Int → Int → Int → st_S → Prop) (l2 : Int) (l4 : Int) (l5 : Int) (l6 : Int) (l7 : Int) (l8 : Int) (v0 : Int) (σ : st_S) : Prop := wp_X5_freeOn l8 v0 0 (o_and l5 (o_xor l6 (-1))) σ (fun r46 s47 => ∀ s48 : st_S, s48 = sI s47 42 15 r46 → wp_X5_freeOn l8 v0 1 (o_and (o_and l5 l6) (o_xor (o_shr l6 10) (-1))) s48 (fun r49 s50 => ∀ s51 : st_S, s51 = sI s50 42 16 r49 → wp_X5_wanted v0 s51 (fun r52 s53 => wp_X5_fill 0 r52 s53 (fun r54 s55 => (r54 ≤ 0 → B_X5_winterBy_142 Q k21 l2 l4 l5 l6 l7 l8 0 s55) ∧ (¬ r54 ≤ 0 → B_X5_winterBy_142 Q k21 l2 l4 l5 l6 l7 l8 (gI s55 51 0) s55)))))
def B_X5_winterBy_191 (Q : Int → st_S → Prop)   (l7 : Int) (σ : st_S) : Prop := Q l7 σ
def L_X5_winterBy_21 (Q : Int → st_S → Prop)   : Nat → Int → Int → Int → Int → Int → Int → st_S → Prop
  | 0 => fun _ _ _ _ _ _ _ => False
  | n + 1 => fun l2 l4 l5 l6 l7 l8 σ => (l2 ≤ l8 → B_X5_winterBy_191 Q l7 σ) ∧ (¬ l2 ≤ l8 → (60 ≤ l8 → B_X5_winterBy_191 Q l7 σ) ∧ (¬ 60 ≤ l8 → ∀ x58 : Int, x58 = o_rem ((l4 * 1103) + 12345) 1000003 → (gI σ 33 1 ≤ o_rem x58 10 → B_X5_winterBy_71 Q (L_X5_winterBy_21 Q n) l2 x58 l5 l6 l7 l8 0 σ) ∧ (¬ gI σ 33 1 ≤ o_rem x58 10 → B_X5_winterBy_71 Q (L_X5_winterBy_21 Q n) l2 x58 l5 l6 l7 l8 1 σ)))
def wp_X5_winterBy (a1 : Int) (a2 : Int) (σ : st_S) (Q : Int → st_S → Prop) : Prop := ∀ x64 : Int, x64 = gI σ 42 0 → ∀ x66 : Int, x66 = gI σ 42 1 → ∃ m21 : Nat, L_X5_winterBy_21 Q m21 a2 a1 x64 x66 0 0 σ
set_option maxRecDepth 20000 in
theorem jb_X5_winterBy_162 {X : jj_X} {E : ev_E} {n0 hN : Nat} (hc : Cx X E cX5_winterBy 11 n0 hN RX5) (hm : eM E = 1) (hr : (xT X).sig.returnType = (some .int)) (hh : 9 ≤ hN) {Q : Int → st_S → Prop} {k21 : Int → Int → Int → Int → Int → Int → st_S → Prop} (hk21 : ∀ {l2 : Int} {l4 : Int} {l5 : Int} {l6 : Int} {l7 : Int} {l8 : Int} (cl2 : wr l2 = l2) (cl4 : wr l4 = l4) (cl5 : wr l5 = l5) (cl6 : wr l6 = l6) (cl7 : wr l7 = l7) (cl8 : wr l8 = l8) {σ : st_S}, k21 l2 l4 l5 l6 l7 l8 σ → J X E 11 n0 0 0 (MQ (xB X) (qI E (n0 + 0) Q) (xA X) (xS X) 0 0 (eF E)) σ 21 [(0, vR E 42), (2, vI l2), (3, vR E 23), (4, vI l4), (5, vI l5), (6, vI l6), (7, vI l7), (8, vI l8)] []) {l2 : Int} {l4 : Int} {l5 : Int} {l6 : Int} {l8 : Int} {l10 : Int} {v0 : Int} {v1 : Int} (cl2 : wr l2 = l2) (cl4 : wr l4 = l4) (cl5 : wr l5 = l5) (cl6 : wr l6 = l6) (cl8 : wr l8 = l8) (cl10 : wr l10 = l10) (cv0 : wr v0 = v0) {σ : st_S} (h : B_X5_winterBy_162 Q k21 l2 l4 l5 l6 l8 l10 v0 v1 σ) : J X E 11 n0 0 0 (MQ (xB X) (qI E (n0 + 0) Q) (xA X) (xS X) 0 0 (eF E)) σ 162 [(0, vR E 42), (2, vI l2), (3, vR E 23), (4, vI l4), (5, vI l5), (6, vI l6), (8, vI l8), (10, vI l10)] [vI v0, vI v1] := by
  have hh1 : 1 ≤ hN := by omega
  replace h : ∀ x38 : Int, x38 = wr (v1 + v0) → ∀ x39 : Int, x39 = o_and l5 (o_xor l10 (-1)) → wp_X5_spoiled l6 l10 0 σ (fun r40 s41 => ∀ x42 : Int, x42 = wr (l8 + 1) → k21 l2 l4 x39 r40 x38 x42 s41) := h
  refine j_iadd hc dX5_winterBy_162 ?_
  refine j_w (fun x38 ex38 cx38 => ?_)
  replace h := h x38 ex38
  refine j_istore (lv' := [(7, vI x38), (0, vR E 42), (2, vI l2), (3, vR E 23), (4, vI l4), (5, vI l5), (6, vI l6), (8, vI l8), (10, vI l10)]) hc dX5_winterBy_163 (by decide) rfl ?_
  refine j_iload hc 5 dX5_winterBy_165 rfl ?_
  refine j_iload hc 8 dX5_winterBy_167 rfl ?_
  refine j_iconst hc dX5_winterBy_169 ?_
  refine j_ixor hc dX5_winterBy_170 ?_
  refine j_iand hc dX5_winterBy_171 ?_
  refine j_c (cn_and _ _) (fun x39 ex39 cx39 => ?_)
  replace h := h x39 ex39
  refine j_istore (lv' := [(5, vI x39), (7, vI x38), (0, vR E 42), (2, vI l2), (3, vR E 23), (4, vI l4), (6, vI l6), (8, vI l8), (10, vI l10)]) hc dX5_winterBy_172 (by decide) rfl ?_
  refine j_aload_nR hc 2 dX5_winterBy_174 rfl rfl ?_
  refine j_iload hc 6 dX5_winterBy_175 rfl ?_
  refine j_iload hc 8 dX5_winterBy_177 rfl ?_
  refine j_iconst hc dX5_winterBy_179 ?_
  refine j_vI hc (k := 5) (by decide) (fun hv => Or.inl (sv_k hv hm rfl)) ml_RX5_120 mv_X5_spoiled (As := [vI l6, vI l10, vI 0]) (c_X5_spoiled (cx_E hc) hm cl6 cl10 (wlit 0 (by decide)) h) rfl (by omega) (by decide) ⟨Nat.zero_le _, Nat.zero_le _⟩ (Nat.le_of_ble_eq_true rfl) rfl dX5_winterBy_180 (fun r40 s41 cr40 h => ?_)
  refine j_istore (lv' := [(6, vI r40), (5, vI x39), (7, vI x38), (0, vR E 42), (2, vI l2), (3, vR E 23), (4, vI l4), (8, vI l8), (10, vI l10)]) hc dX5_winterBy_183 (by decide) rfl ?_
  obtain ⟨x42, ex42⟩ : ∃ y : Int, y = wr (l8 + 1) := ⟨_, rfl⟩
  have cx42 : wr x42 = x42 := by rw [ex42]; exact wr_wr _
  replace h := h x42 ex42
  refine j_iinc (lv' := [(8, vI x42), (6, vI r40), (5, vI x39), (7, vI x38), (0, vR E 42), (2, vI l2), (3, vR E 23), (4, vI l4), (10, vI l10)]) hc 7 dX5_winterBy_185 rfl (by decide) ex42 rfl ?_
  refine j_goto (tgt := 21) hc dX5_winterBy_188 (by decide) ?_
  refine j_sub (lv' := [(0, vR E 42), (2, vI l2), (3, vR E 23), (4, vI l4), (5, vI x39), (6, vI r40), (7, vI x38), (8, vI x42)]) [4, 5, 6, 7, 2, 1, 3, 0] rfl ?_
  exact hk21 cl2 cl4 cx39 cr40 cx38 cx42 h
set_option maxRecDepth 20000 in
theorem jb_X5_winterBy_142 {X : jj_X} {E : ev_E} {n0 hN : Nat} (hc : Cx X E cX5_winterBy 11 n0 hN RX5) (hm : eM E = 1) (hr : (xT X).sig.returnType = (some .int)) (hh : 9 ≤ hN) {Q : Int → st_S → Prop} {k21 : Int → Int → Int → Int → Int → Int → st_S → Prop} (hk21 : ∀ {l2 : Int} {l4 : Int} {l5 : Int} {l6 : Int} {l7 : Int} {l8 : Int} (cl2 : wr l2 = l2) (cl4 : wr l4 = l4) (cl5 : wr l5 = l5) (cl6 : wr l6 = l6) (cl7 : wr l7 = l7) (cl8 : wr l8 = l8) {σ : st_S}, k21 l2 l4 l5 l6 l7 l8 σ → J X E 11 n0 0 0 (MQ (xB X) (qI E (n0 + 0) Q) (xA X) (xS X) 0 0 (eF E)) σ 21 [(0, vR E 42), (2, vI l2), (3, vR E 23), (4, vI l4), (5, vI l5), (6, vI l6), (7, vI l7), (8, vI l8)] []) {l2 : Int} {l4 : Int} {l5 : Int} {l6 : Int} {l7 : Int} {l8 : Int} {v0 : Int} (cl2 : wr l2 = l2) (cl4 : wr l4 = l4) (cl5 : wr l5 = l5) (cl6 : wr l6 = l6) (cl7 : wr l7 = l7) (cl8 : wr l8 = l8) (cv0 : wr v0 = v0) {σ : st_S} (h : B_X5_winterBy_142 Q k21 l2 l4 l5 l6 l7 l8 v0 σ) : J X E 11 n0 0 0 (MQ (xB X) (qI E (n0 + 0) Q) (xA X) (xS X) 0 0 (eF E)) σ 142 [(0, vR E 42), (2, vI l2), (3, vR E 23), (4, vI l4), (5, vI l5), (6, vI l6), (7, vI l7), (8, vI l8)] [vI v0] := by
  have hh1 : 1 ≤ hN := by omega
  replace h : ix l8 60 ∧ ∀ s44 : st_S, s44 = sI σ 23 (Int.toNat l8) v0 → (¬ v0 = 0 → B_X5_winterBy_162 Q k21 l2 l4 l5 l6 l8 v0 1 l7 s44) ∧ (v0 = 0 → B_X5_winterBy_162 Q k21 l2 l4 l5 l6 l8 v0 0 l7 s44) := h
  refine j_istore (lv' := [(10, vI v0), (0, vR E 42), (2, vI l2), (3, vR E 23), (4, vI l4), (5, vI l5), (6, vI l6), (7, vI l7), (8, vI l8)]) hc dX5_winterBy_142 (by decide) rfl ?_
  refine j_aload_nR hc 3 dX5_winterBy_144 rfl rfl ?_
  refine j_iload hc 8 dX5_winterBy_145 rfl ?_
  refine j_iload hc 0 dX5_winterBy_147 rfl ?_
  obtain ⟨b43, h⟩ := h
  refine j_iast (jn := (Int.toNat l8)) hc (fun hv => sv_kl hv hm rfl) cl8 b43 rfl cv0 dX5_winterBy_149 (fun s44 es44 => ?_)
  replace h := h s44 es44
  refine j_iload hc 7 dX5_winterBy_150 rfl ?_
  refine j_iload hc 0 dX5_winterBy_152 rfl ?_
  refine j_if_ne hc cv0 (tgt := 161) dX5_winterBy_154 (by decide) (fun q45 => ?_) (fun q45 => ?_)
  · replace h := h.1 q45
    refine j_iconst hc dX5_winterBy_161 ?_
    refine j_sub (lv' := [(0, vR E 42), (2, vI l2), (3, vR E 23), (4, vI l4), (5, vI l5), (6, vI l6), (8, vI l8), (10, vI v0)]) [1, 2, 3, 4, 5, 6, 8, 0] rfl ?_
    exact jb_X5_winterBy_162 hc hm hr hh hk21 cl2 cl4 cl5 cl6 cl8 cv0 (wlit 1 (by decide)) h
  · replace h := h.2 q45
    refine j_iconst hc dX5_winterBy_157 ?_
    refine j_goto (tgt := 162) hc dX5_winterBy_158 (by decide) ?_
    refine j_sub (lv' := [(0, vR E 42), (2, vI l2), (3, vR E 23), (4, vI l4), (5, vI l5), (6, vI l6), (8, vI l8), (10, vI v0)]) [1, 2, 3, 4, 5, 6, 8, 0] rfl ?_
    exact jb_X5_winterBy_162 hc hm hr hh hk21 cl2 cl4 cl5 cl6 cl8 cv0 (wlit 0 (by decide)) h
set_option maxRecDepth 20000 in
theorem jb_X5_winterBy_71 {X : jj_X} {E : ev_E} {n0 hN : Nat} (hc : Cx X E cX5_winterBy 11 n0 hN RX5) (hm : eM E = 1) (hr : (xT X).sig.returnType = (some .int)) (hh : 9 ≤ hN) {Q : Int → st_S → Prop} {k21 : Int → Int → Int → Int → Int → Int → st_S → Prop} (hk21 : ∀ {l2 : Int} {l4 : Int} {l5 : Int} {l6 : Int} {l7 : Int} {l8 : Int} (cl2 : wr l2 = l2) (cl4 : wr l4 = l4) (cl5 : wr l5 = l5) (cl6 : wr l6 = l6) (cl7 : wr l7 = l7) (cl8 : wr l8 = l8) {σ : st_S}, k21 l2 l4 l5 l6 l7 l8 σ → J X E 11 n0 0 0 (MQ (xB X) (qI E (n0 + 0) Q) (xA X) (xS X) 0 0 (eF E)) σ 21 [(0, vR E 42), (2, vI l2), (3, vR E 23), (4, vI l4), (5, vI l5), (6, vI l6), (7, vI l7), (8, vI l8)] []) {l2 : Int} {l4 : Int} {l5 : Int} {l6 : Int} {l7 : Int} {l8 : Int} {v0 : Int} (cl2 : wr l2 = l2) (cl4 : wr l4 = l4) (cl5 : wr l5 = l5) (cl6 : wr l6 = l6) (cl7 : wr l7 = l7) (cl8 : wr l8 = l8) (cv0 : wr v0 = v0) {σ : st_S} (h : B_X5_winterBy_71 Q k21 l2 l4 l5 l6 l7 l8 v0 σ) : J X E 11 n0 0 0 (MQ (xB X) (qI E (n0 + 0) Q) (xA X) (xS X) 0 0 (eF E)) σ 71 [(0, vR E 42), (2, vI l2), (3, vR E 23), (4, vI l4), (5, vI l5), (6, vI l6), (7, vI l7), (8, vI l8)] [vI v0] := by
  have hh1 : 1 ≤ hN := by omega
  replace h : wp_X5_freeOn l8 v0 0 (o_and l5 (o_xor l6 (-1))) σ (fun r46 s47 => ∀ s48 : st_S, s48 = sI s47 42 15 r46 → wp_X5_freeOn l8 v0 1 (o_and (o_and l5 l6) (o_xor (o_shr l6 10) (-1))) s48 (fun r49 s50 => ∀ s51 : st_S, s51 = sI s50 42 16 r49 → wp_X5_wanted v0 s51 (fun r52 s53 => wp_X5_fill 0 r52 s53 (fun r54 s55 => (r54 ≤ 0 → B_X5_winterBy_142 Q k21 l2 l4 l5 l6 l7 l8 0 s55) ∧ (¬ r54 ≤ 0 → B_X5_winterBy_142 Q k21 l2 l4 l5 l6 l7 l8 (gI s55 51 0) s55))))) := h
  refine j_istore (lv' := [(9, vI v0), (0, vR E 42), (2, vI l2), (3, vR E 23), (4, vI l4), (5, vI l5), (6, vI l6), (7, vI l7), (8, vI l8)]) hc dX5_winterBy_71 (by decide) rfl ?_
  refine j_aload_nR hc 1 dX5_winterBy_73 rfl rfl ?_
  refine j_aload_nR hc 1 dX5_winterBy_74 rfl rfl ?_
  refine j_iload hc 8 dX5_winterBy_75 rfl ?_
  refine j_iload hc 0 dX5_winterBy_77 rfl ?_
  refine j_iconst hc dX5_winterBy_79 ?_
  refine j_iload hc 5 dX5_winterBy_80 rfl ?_
  refine j_iload hc 6 dX5_winterBy_82 rfl ?_
  refine j_iconst hc dX5_winterBy_84 ?_
  refine j_ixor hc dX5_winterBy_85 ?_
  refine j_iand hc dX5_winterBy_86 ?_
  refine j_vI hc (k := 5) (by decide) (fun hv => Or.inl (sv_k hv hm rfl)) ml_RX5_84 mv_X5_freeOn (As := [vI l8, vI v0, vI 0, vI (o_and l5 (o_xor l6 (-1)))]) (c_X5_freeOn (cx_E hc) hm cl8 cv0 (wlit 0 (by decide)) (cn_and _ _) h) rfl (by omega) (by decide) ⟨Nat.zero_le _, Nat.zero_le _⟩ (Nat.le_of_ble_eq_true rfl) rfl dX5_winterBy_87 (fun r46 s47 cr46 h => ?_)
  refine j_putI hc fl_RX5_110 rfl rfl (fun hv => Or.inl (sv_k hv hm rfl)) cr46 dX5_winterBy_90 (fun s48 es48 => ?_)
  replace h := h s48 es48
  refine j_aload_nR hc 1 dX5_winterBy_93 rfl rfl ?_
  refine j_aload_nR hc 1 dX5_winterBy_94 rfl rfl ?_
  refine j_iload hc 8 dX5_winterBy_95 rfl ?_
  refine j_iload hc 0 dX5_winterBy_97 rfl ?_
  refine j_iconst hc dX5_winterBy_99 ?_
  refine j_iload hc 5 dX5_winterBy_100 rfl ?_
  refine j_iload hc 6 dX5_winterBy_102 rfl ?_
  refine j_iand hc dX5_winterBy_104 ?_
  refine j_iload hc 6 dX5_winterBy_105 rfl ?_
  refine j_bipush hc dX5_winterBy_107 (by decide) ?_
  refine j_ishr hc dX5_winterBy_109 ?_
  refine j_iconst hc dX5_winterBy_110 ?_
  refine j_ixor hc dX5_winterBy_111 ?_
  refine j_iand hc dX5_winterBy_112 ?_
  refine j_vI hc (k := 5) (by decide) (fun hv => Or.inl (sv_k hv hm rfl)) ml_RX5_84 mv_X5_freeOn (As := [vI l8, vI v0, vI 1, vI (o_and (o_and l5 l6) (o_xor (o_shr l6 10) (-1)))]) (c_X5_freeOn (cx_E hc) hm cl8 cv0 (wlit 1 (by decide)) (cn_and _ _) h) rfl (by omega) (by decide) ⟨Nat.zero_le _, Nat.zero_le _⟩ (Nat.le_of_ble_eq_true rfl) rfl dX5_winterBy_113 (fun r49 s50 cr49 h => ?_)
  refine j_putI hc fl_RX5_113 rfl rfl (fun hv => Or.inl (sv_k hv hm rfl)) cr49 dX5_winterBy_116 (fun s51 es51 => ?_)
  replace h := h s51 es51
  refine j_aload_nR hc 1 dX5_winterBy_119 rfl rfl ?_
  refine j_iconst hc dX5_winterBy_120 ?_
  refine j_iload hc 0 dX5_winterBy_121 rfl ?_
  refine j_sI hc ml_RX5_78 mv_X5_wanted (As := [vI v0]) (c_X5_wanted (cx_E hc) hm cv0 h) rfl (by omega) (by decide) ⟨Nat.zero_le _, Nat.zero_le _⟩ (Nat.le_of_ble_eq_true rfl) rfl dX5_winterBy_123 (fun r52 s53 cr52 h => ?_)
  refine j_vI hc (k := 5) (by decide) (fun hv => Or.inl (sv_k hv hm rfl)) ml_RX5_116 mv_X5_fill (As := [vI 0, vI r52]) (c_X5_fill (cx_E hc) hm (wlit 0 (by decide)) cr52 h) rfl (by omega) (by decide) ⟨Nat.zero_le _, Nat.zero_le _⟩ (Nat.le_of_ble_eq_true rfl) rfl dX5_winterBy_126 (fun r54 s55 cr54 h => ?_)
  refine j_if_le hc cr54 (tgt := 141) dX5_winterBy_129 (by decide) (fun q57 => ?_) (fun q57 => ?_)
  · replace h := h.1 q57
    refine j_iconst hc dX5_winterBy_141 ?_
    refine j_sub (lv' := [(0, vR E 42), (2, vI l2), (3, vR E 23), (4, vI l4), (5, vI l5), (6, vI l6), (7, vI l7), (8, vI l8)]) [1, 2, 3, 4, 5, 6, 7, 8] rfl ?_
    exact jb_X5_winterBy_142 hc hm hr hh hk21 cl2 cl4 cl5 cl6 cl7 cl8 (wlit 0 (by decide)) h
  · replace h := h.2 q57
    refine j_aload_nR hc 1 dX5_winterBy_132 rfl rfl ?_
    refine j_getR (c' := 51) hc fl_RX5_36 rfl rfl (fun hv => (sv_k hv hm rfl)) dX5_winterBy_133 ?_
    refine j_iconst hc dX5_winterBy_136 ?_
    refine j_iald (jn := 0) hc (fun hv => sv_kl hv hm rfl) (wlit 0 (by decide)) ⟨by decide, by decide⟩ rfl dX5_winterBy_137 (fun cn56 => ?_)
    refine j_goto (tgt := 142) hc dX5_winterBy_138 (by decide) ?_
    refine j_sub (lv' := [(0, vR E 42), (2, vI l2), (3, vR E 23), (4, vI l4), (5, vI l5), (6, vI l6), (7, vI l7), (8, vI l8)]) [1, 2, 3, 4, 5, 6, 7, 8] rfl ?_
    exact jb_X5_winterBy_142 hc hm hr hh hk21 cl2 cl4 cl5 cl6 cl7 cl8 cn56 h
set_option maxRecDepth 20000 in
theorem jb_X5_winterBy_191 {X : jj_X} {E : ev_E} {n0 hN : Nat} (hc : Cx X E cX5_winterBy 11 n0 hN RX5) (hm : eM E = 1) (hr : (xT X).sig.returnType = (some .int)) (hh : 9 ≤ hN) {Q : Int → st_S → Prop} {l7 : Int} (cl7 : wr l7 = l7) {σ : st_S} (h : B_X5_winterBy_191 Q l7 σ) : J X E 11 n0 0 0 (MQ (xB X) (qI E (n0 + 0) Q) (xA X) (xS X) 0 0 (eF E)) σ 191 [(7, vI l7)] [] := by
  have hh1 : 1 ≤ hN := by omega
  replace h : Q l7 σ := h
  refine j_iload hc 0 dX5_winterBy_191 rfl ?_
  exact j_iret hc hr cl7 h dX5_winterBy_193
set_option maxRecDepth 20000 in
theorem jl_X5_winterBy_21 {X : jj_X} {E : ev_E} {n0 hN : Nat} (hc : Cx X E cX5_winterBy 11 n0 hN RX5) (hm : eM E = 1) (hr : (xT X).sig.returnType = (some .int)) (hh : 9 ≤ hN) {Q : Int → st_S → Prop} : ∀ (n : Nat) {l2 : Int} {l4 : Int} {l5 : Int} {l6 : Int} {l7 : Int} {l8 : Int} (cl2 : wr l2 = l2) (cl4 : wr l4 = l4) (cl5 : wr l5 = l5) (cl6 : wr l6 = l6) (cl7 : wr l7 = l7) (cl8 : wr l8 = l8) {σ : st_S}, L_X5_winterBy_21 Q n l2 l4 l5 l6 l7 l8 σ → J X E 11 n0 0 0 (MQ (xB X) (qI E (n0 + 0) Q) (xA X) (xS X) 0 0 (eF E)) σ 21 [(0, vR E 42), (2, vI l2), (3, vR E 23), (4, vI l4), (5, vI l5), (6, vI l6), (7, vI l7), (8, vI l8)] [] := by
  have hh1 : 1 ≤ hN := by omega
  intro n
  induction n with
  | zero => intro l2 l4 l5 l6 l7 l8 cl2 cl4 cl5 cl6 cl7 cl8 σ h; exact h.elim
  | succ n ih =>
    intro l2 l4 l5 l6 l7 l8 cl2 cl4 cl5 cl6 cl7 cl8 σ h
    have hk21 : ∀ {l2 : Int} {l4 : Int} {l5 : Int} {l6 : Int} {l7 : Int} {l8 : Int} (cl2 : wr l2 = l2) (cl4 : wr l4 = l4) (cl5 : wr l5 = l5) (cl6 : wr l6 = l6) (cl7 : wr l7 = l7) (cl8 : wr l8 = l8) {σ : st_S}, L_X5_winterBy_21 Q n l2 l4 l5 l6 l7 l8 σ → J X E 11 n0 0 0 (MQ (xB X) (qI E (n0 + 0) Q) (xA X) (xS X) 0 0 (eF E)) σ 21 [(0, vR E 42), (2, vI l2), (3, vR E 23), (4, vI l4), (5, vI l5), (6, vI l6), (7, vI l7), (8, vI l8)] [] := ih
    replace h : (l2 ≤ l8 → B_X5_winterBy_191 Q l7 σ) ∧ (¬ l2 ≤ l8 → (60 ≤ l8 → B_X5_winterBy_191 Q l7 σ) ∧ (¬ 60 ≤ l8 → ∀ x58 : Int, x58 = o_rem ((l4 * 1103) + 12345) 1000003 → (gI σ 33 1 ≤ o_rem x58 10 → B_X5_winterBy_71 Q (L_X5_winterBy_21 Q n) l2 x58 l5 l6 l7 l8 0 σ) ∧ (¬ gI σ 33 1 ≤ o_rem x58 10 → B_X5_winterBy_71 Q (L_X5_winterBy_21 Q n) l2 x58 l5 l6 l7 l8 1 σ))) := h
    refine j_iload hc 7 dX5_winterBy_21 rfl ?_
    refine j_iload_n hc 1 dX5_winterBy_23 rfl rfl ?_
    refine j_ic_ge hc cl8 cl2 (tgt := 191) dX5_winterBy_24 (by decide) (fun q62 => ?_) (fun q62 => ?_)
    · replace h := h.1 q62
      refine j_sub (lv' := [(7, vI l7)]) [6] rfl ?_
      exact jb_X5_winterBy_191 hc hm hr hh cl7 h
    · replace h := h.2 q62
      refine j_iload hc 7 dX5_winterBy_27 rfl ?_
      refine j_aload_nR hc 2 dX5_winterBy_29 rfl rfl ?_
      refine j_alen hc 0 (by decide) (fun hv => sv_kl hv hm rfl) dX5_winterBy_30 ?_
      refine j_ic_ge hc cl8 (wlit 60 (by decide)) (tgt := 191) dX5_winterBy_31 (by decide) (fun q61 => ?_) (fun q61 => ?_)
      · replace h := h.1 q61
        refine j_sub (lv' := [(7, vI l7)]) [6] rfl ?_
        exact jb_X5_winterBy_191 hc hm hr hh cl7 h
      · replace h := h.2 q61
        refine j_iload hc 3 dX5_winterBy_34 rfl ?_
        refine j_sipush hc dX5_winterBy_36 (by decide) ?_
        refine j_imul hc dX5_winterBy_39 ?_
        refine j_sipush hc dX5_winterBy_40 (by decide) ?_
        refine j_iadd hc dX5_winterBy_43 ?_
        refine j_ldc (x := 1000003) hc (by decide) kc_RX5_119 dX5_winterBy_44 ?_
        refine j_irem hc dX5_winterBy_46 (by decide) ?_
        refine j_c (cn_rem _ _) (fun x58 ex58 cx58 => ?_)
        replace h := h x58 ex58
        refine j_istore (lv' := [(4, vI x58), (0, vR E 42), (2, vI l2), (3, vR E 23), (5, vI l5), (6, vI l6), (7, vI l7), (8, vI l8)]) hc dX5_winterBy_47 (by decide) rfl ?_
        refine j_iload hc 0 dX5_winterBy_49 rfl ?_
        refine j_bipush hc dX5_winterBy_51 (by decide) ?_
        refine j_irem hc dX5_winterBy_53 (by decide) ?_
        refine j_aload_nR hc 1 dX5_winterBy_54 rfl rfl ?_
        refine j_getR (c' := 25) hc fl_RX5_39 rfl rfl (fun hv => (sv_k hv hm rfl)) dX5_winterBy_55 ?_
        refine j_getR (c' := 33) hc fl_RX5_72 rfl rfl (fun hv => (sv_k hv hm rfl)) dX5_winterBy_58 ?_
        refine j_iconst hc dX5_winterBy_61 ?_
        refine j_iald (jn := 1) hc (fun hv => sv_kl hv hm rfl) (wlit 1 (by decide)) ⟨by decide, by decide⟩ rfl dX5_winterBy_62 (fun cn59 => ?_)
        refine j_ic_ge hc (cn_rem _ _) cn59 (tgt := 70) dX5_winterBy_63 (by decide) (fun q60 => ?_) (fun q60 => ?_)
        · replace h := h.1 q60
          refine j_iconst hc dX5_winterBy_70 ?_
          refine j_sub (lv' := [(0, vR E 42), (2, vI l2), (3, vR E 23), (4, vI x58), (5, vI l5), (6, vI l6), (7, vI l7), (8, vI l8)]) [1, 2, 3, 0, 4, 5, 6, 7] rfl ?_
          exact jb_X5_winterBy_71 hc hm hr hh hk21 cl2 cx58 cl5 cl6 cl7 cl8 (wlit 0 (by decide)) h
        · replace h := h.2 q60
          refine j_iconst hc dX5_winterBy_66 ?_
          refine j_goto (tgt := 71) hc dX5_winterBy_67 (by decide) ?_
          refine j_sub (lv' := [(0, vR E 42), (2, vI l2), (3, vR E 23), (4, vI x58), (5, vI l5), (6, vI l6), (7, vI l7), (8, vI l8)]) [1, 2, 3, 0, 4, 5, 6, 7] rfl ?_
          exact jb_X5_winterBy_71 hc hm hr hh hk21 cl2 cx58 cl5 cl6 cl7 cl8 (wlit 1 (by decide)) h
set_option maxRecDepth 20000 in
theorem c_X5_winterBy {l : Launch} {E : ev_E} (hE : Eok E) (hm : eM E = 1) {a1 : Int} {a2 : Int} (ca1 : wr a1 = a1) (ca2 : wr a2 = a2) {σ : st_S} {Q : Int → st_S → Prop} (h : wp_X5_winterBy a1 a2 σ Q) : cM l yX5_winterBy cX5_winterBy 11 (some .int) E 9 0 0 [vR E 42, vI a1, vI a2, vR E 23] σ (qI E (gN σ + 0) Q) := by
  refine cM_of (lv := [(0, vR E 42), (1, vI a1), (2, vI a2), (3, vR E 23)]) (by decide) hE (Nat.le_of_ble_eq_true rfl) (rfl) ?_
  intro X hX hc _ _ hr _ _
  subst hX
  have hh : 9 ≤ 9 := Nat.le_refl _
  have hh1 : 1 ≤ 9 := by omega
  replace h : ∀ x64 : Int, x64 = gI σ 42 0 → ∀ x66 : Int, x66 = gI σ 42 1 → ∃ m21 : Nat, L_X5_winterBy_21 Q m21 a2 a1 x64 x66 0 0 σ := h
  refine j_iload_n hc 1 dX5_winterBy_0 rfl rfl ?_
  refine j_istore (lv' := [(4, vI a1), (0, vR E 42), (1, vI a1), (2, vI a2), (3, vR E 23)]) hc dX5_winterBy_1 (by decide) rfl ?_
  refine j_aload_nR hc 1 dX5_winterBy_3 rfl rfl ?_
  refine j_getI hc fl_RX5_47 (Or.inl rfl) (fun hv => Or.inl (sv_k hv hm rfl)) dX5_winterBy_4 (fun cn63 => ?_)
  refine j_c cn63 (fun x64 ex64 cx64 => ?_)
  replace h := h x64 ex64
  refine j_istore (lv' := [(5, vI x64), (4, vI a1), (0, vR E 42), (1, vI a1), (2, vI a2), (3, vR E 23)]) hc dX5_winterBy_7 (by decide) rfl ?_
  refine j_aload_nR hc 2 dX5_winterBy_9 rfl rfl ?_
  refine j_getI hc fl_RX5_51 (Or.inl rfl) (fun hv => Or.inl (sv_k hv hm rfl)) dX5_winterBy_10 (fun cn65 => ?_)
  refine j_c cn65 (fun x66 ex66 cx66 => ?_)
  replace h := h x66 ex66
  refine j_istore (lv' := [(6, vI x66), (5, vI x64), (4, vI a1), (0, vR E 42), (1, vI a1), (2, vI a2), (3, vR E 23)]) hc dX5_winterBy_13 (by decide) rfl ?_
  refine j_iconst hc dX5_winterBy_15 ?_
  refine j_istore (lv' := [(7, vI 0), (6, vI x66), (5, vI x64), (4, vI a1), (0, vR E 42), (1, vI a1), (2, vI a2), (3, vR E 23)]) hc dX5_winterBy_16 (by decide) rfl ?_
  refine j_iconst hc dX5_winterBy_18 ?_
  refine j_istore (lv' := [(8, vI 0), (7, vI 0), (6, vI x66), (5, vI x64), (4, vI a1), (0, vR E 42), (1, vI a1), (2, vI a2), (3, vR E 23)]) hc dX5_winterBy_19 (by decide) rfl ?_
  obtain ⟨n21, h⟩ := h
  refine j_sub (lv' := [(0, vR E 42), (2, vI a2), (3, vR E 23), (4, vI a1), (5, vI x64), (6, vI x66), (7, vI 0), (8, vI 0)]) [5, 7, 8, 4, 3, 2, 1, 0] rfl ?_
  exact jl_X5_winterBy_21 hc hm hr hh n21 ca2 ca1 cx64 cx66 (wlit 0 (by decide)) (wlit 0 (by decide)) h
-- LitStrangers$Search.isSeen(III)Z
theorem dX8_isSeen_0 : decode cX8_isSeen 0 = .ok (.aload_n 0, 1) := by decide +kernel
theorem dX8_isSeen_1 : decode cX8_isSeen 1 = .ok (.getfield 69, 3) := by decide +kernel
theorem dX8_isSeen_4 : decode cX8_isSeen 4 = .ok (.ifCond .eq 10, 3) := by decide +kernel
theorem dX8_isSeen_7 : decode cX8_isSeen 7 = .ok (.aload_n 0, 1) := by decide +kernel
theorem dX8_isSeen_8 : decode cX8_isSeen 8 = .ok (.getfield 18, 3) := by decide +kernel
theorem dX8_isSeen_11 : decode cX8_isSeen 11 = .ok (.goto 7, 3) := by decide +kernel
theorem dX8_isSeen_14 : decode cX8_isSeen 14 = .ok (.aload_n 0, 1) := by decide +kernel
theorem dX8_isSeen_15 : decode cX8_isSeen 15 = .ok (.getfield 9, 3) := by decide +kernel
theorem dX8_isSeen_18 : decode cX8_isSeen 18 = .ok (.astore 4, 2) := by decide +kernel
theorem dX8_isSeen_20 : decode cX8_isSeen 20 = .ok (.aload_n 0, 1) := by decide +kernel
theorem dX8_isSeen_21 : decode cX8_isSeen 21 = .ok (.getfield 69, 3) := by decide +kernel
theorem dX8_isSeen_24 : decode cX8_isSeen 24 = .ok (.ifCond .eq 14, 3) := by decide +kernel
theorem dX8_isSeen_27 : decode cX8_isSeen 27 = .ok (.iload_n 1, 1) := by decide +kernel
theorem dX8_isSeen_28 : decode cX8_isSeen 28 = .ok (.iconst 1, 1) := by decide +kernel
theorem dX8_isSeen_29 : decode cX8_isSeen 29 = .ok (.ishr, 1) := by decide +kernel
theorem dX8_isSeen_30 : decode cX8_isSeen 30 = .ok (.bipush 10, 2) := by decide +kernel
theorem dX8_isSeen_32 : decode cX8_isSeen 32 = .ok (.ishl, 1) := by decide +kernel
theorem dX8_isSeen_33 : decode cX8_isSeen 33 = .ok (.iload_n 2, 1) := by decide +kernel
theorem dX8_isSeen_34 : decode cX8_isSeen 34 = .ok (.iadd, 1) := by decide +kernel
theorem dX8_isSeen_35 : decode cX8_isSeen 35 = .ok (.goto 4, 3) := by decide +kernel
theorem dX8_isSeen_38 : decode cX8_isSeen 38 = .ok (.iload_n 2, 1) := by decide +kernel
theorem dX8_isSeen_39 : decode cX8_isSeen 39 = .ok (.istore 5, 2) := by decide +kernel
theorem dX8_isSeen_41 : decode cX8_isSeen 41 = .ok (.aload_n 0, 1) := by decide +kernel
theorem dX8_isSeen_42 : decode cX8_isSeen 42 = .ok (.getfield 69, 3) := by decide +kernel
theorem dX8_isSeen_45 : decode cX8_isSeen 45 = .ok (.ifCond .eq 16, 3) := by decide +kernel
theorem dX8_isSeen_48 : decode cX8_isSeen 48 = .ok (.iconst 1, 1) := by decide +kernel
theorem dX8_isSeen_49 : decode cX8_isSeen 49 = .ok (.iload_n 1, 1) := by decide +kernel
theorem dX8_isSeen_50 : decode cX8_isSeen 50 = .ok (.iconst 1, 1) := by decide +kernel
theorem dX8_isSeen_51 : decode cX8_isSeen 51 = .ok (.iand, 1) := by decide +kernel
theorem dX8_isSeen_52 : decode cX8_isSeen 52 = .ok (.bipush 16, 2) := by decide +kernel
theorem dX8_isSeen_54 : decode cX8_isSeen 54 = .ok (.imul, 1) := by decide +kernel
theorem dX8_isSeen_55 : decode cX8_isSeen 55 = .ok (.iload_n 3, 1) := by decide +kernel
theorem dX8_isSeen_56 : decode cX8_isSeen 56 = .ok (.iadd, 1) := by decide +kernel
theorem dX8_isSeen_57 : decode cX8_isSeen 57 = .ok (.ishl, 1) := by decide +kernel
theorem dX8_isSeen_58 : decode cX8_isSeen 58 = .ok (.goto 6, 3) := by decide +kernel
theorem dX8_isSeen_61 : decode cX8_isSeen 61 = .ok (.iconst 1, 1) := by decide +kernel
theorem dX8_isSeen_62 : decode cX8_isSeen 62 = .ok (.iload_n 1, 1) := by decide +kernel
theorem dX8_isSeen_63 : decode cX8_isSeen 63 = .ok (.ishl, 1) := by decide +kernel
theorem dX8_isSeen_64 : decode cX8_isSeen 64 = .ok (.istore 6, 2) := by decide +kernel
theorem dX8_isSeen_66 : decode cX8_isSeen 66 = .ok (.iload 5, 2) := by decide +kernel
theorem dX8_isSeen_68 : decode cX8_isSeen 68 = .ok (.ifCond .lt 11, 3) := by decide +kernel
theorem dX8_isSeen_71 : decode cX8_isSeen 71 = .ok (.iload 5, 2) := by decide +kernel
theorem dX8_isSeen_73 : decode cX8_isSeen 73 = .ok (.aload 4, 2) := by decide +kernel
theorem dX8_isSeen_75 : decode cX8_isSeen 75 = .ok (.arraylength, 1) := by decide +kernel
theorem dX8_isSeen_76 : decode cX8_isSeen 76 = .ok (.if_icmp .lt 5, 3) := by decide +kernel
theorem dX8_isSeen_79 : decode cX8_isSeen 79 = .ok (.iconst 1, 1) := by decide +kernel
theorem dX8_isSeen_80 : decode cX8_isSeen 80 = .ok (.ireturn, 1) := by decide +kernel
theorem dX8_isSeen_81 : decode cX8_isSeen 81 = .ok (.aload 4, 2) := by decide +kernel
theorem dX8_isSeen_83 : decode cX8_isSeen 83 = .ok (.iload 5, 2) := by decide +kernel
theorem dX8_isSeen_85 : decode cX8_isSeen 85 = .ok (.iaload, 1) := by decide +kernel
theorem dX8_isSeen_86 : decode cX8_isSeen 86 = .ok (.iload 6, 2) := by decide +kernel
theorem dX8_isSeen_88 : decode cX8_isSeen 88 = .ok (.iand, 1) := by decide +kernel
theorem dX8_isSeen_89 : decode cX8_isSeen 89 = .ok (.ifCond .eq 7, 3) := by decide +kernel
theorem dX8_isSeen_92 : decode cX8_isSeen 92 = .ok (.iconst 1, 1) := by decide +kernel
theorem dX8_isSeen_93 : decode cX8_isSeen 93 = .ok (.goto 4, 3) := by decide +kernel
theorem dX8_isSeen_96 : decode cX8_isSeen 96 = .ok (.iconst 0, 1) := by decide +kernel
theorem dX8_isSeen_97 : decode cX8_isSeen 97 = .ok (.istore 7, 2) := by decide +kernel
theorem dX8_isSeen_99 : decode cX8_isSeen 99 = .ok (.aload 4, 2) := by decide +kernel
theorem dX8_isSeen_101 : decode cX8_isSeen 101 = .ok (.iload 5, 2) := by decide +kernel
theorem dX8_isSeen_103 : decode cX8_isSeen 103 = .ok (.dup2, 1) := by decide +kernel
theorem dX8_isSeen_104 : decode cX8_isSeen 104 = .ok (.iaload, 1) := by decide +kernel
theorem dX8_isSeen_105 : decode cX8_isSeen 105 = .ok (.iload 6, 2) := by decide +kernel
theorem dX8_isSeen_107 : decode cX8_isSeen 107 = .ok (.ior, 1) := by decide +kernel
theorem dX8_isSeen_108 : decode cX8_isSeen 108 = .ok (.iastore, 1) := by decide +kernel
theorem dX8_isSeen_109 : decode cX8_isSeen 109 = .ok (.iload 7, 2) := by decide +kernel
theorem dX8_isSeen_111 : decode cX8_isSeen 111 = .ok (.ireturn, 1) := by decide +kernel
def B_X8_isSeen_79 (Q : Int → st_S → Prop)    (σ : st_S) : Prop := Q 1 σ
def B_X8_isSeen_97 (Q : Int → st_S → Prop)   (l4 : Nat) (l5 : Int) (l6 : Int) (v0 : Int) (σ : st_S) : Prop := gK σ l4 = 0 ∧ ix l5 (gL σ l4) ∧ ix l5 (gL σ l4) ∧ ∀ s34 : st_S, s34 = sI σ l4 (Int.toNat l5) (o_or (gI σ l4 (Int.toNat l5)) l6) → (v0 = 0 ∨ v0 = 1) ∧ Q v0 s34
def B_X8_isSeen_64 (Q : Int → st_S → Prop)   (l4 : Nat) (l5 : Int) (v0 : Int) (σ : st_S) : Prop := (l5 < 0 → B_X8_isSeen_79 Q σ) ∧ (¬ l5 < 0 → gK σ l4 = 0 ∧ (l5 < wr ((gL σ l4) : Int) → ix l5 (gL σ l4) ∧ (o_and (gI σ l4 (Int.toNat l5)) v0 = 0 → B_X8_isSeen_97 Q l4 l5 v0 0 σ) ∧ (¬ o_and (gI σ l4 (Int.toNat l5)) v0 = 0 → B_X8_isSeen_97 Q l4 l5 v0 1 σ)) ∧ (¬ l5 < wr ((gL σ l4) : Int) → B_X8_isSeen_79 Q σ))
def B_X8_isSeen_39 (Q : Int → st_S → Prop)   (l1 : Int) (l3 : Int) (l4 : Nat) (v0 : Int) (σ : st_S) : Prop := (gI σ 56 16 = 0 → B_X8_isSeen_64 Q l4 v0 (o_shl 1 l1) σ) ∧ (¬ gI σ 56 16 = 0 → B_X8_isSeen_64 Q l4 v0 (o_shl 1 ((o_and l1 1 * 16) + l3)) σ)
def B_X8_isSeen_18 (Q : Int → st_S → Prop)   (l1 : Int) (l2 : Int) (l3 : Int) (v0 : Nat) (σ : st_S) : Prop := (gI σ 56 16 = 0 → B_X8_isSeen_39 Q l1 l3 v0 l2 σ) ∧ (¬ gI σ 56 16 = 0 → ∀ x44 : Int, x44 = wr (o_shl (o_shr l1 1) 10 + l2) → B_X8_isSeen_39 Q l1 l3 v0 x44 σ)
def wp_X8_isSeen (a1 : Int) (a2 : Int) (a3 : Int) (σ : st_S) (Q : Int → st_S → Prop) : Prop := (gI σ 56 16 = 0 → B_X8_isSeen_18 Q a1 a2 a3 57 σ) ∧ (¬ gI σ 56 16 = 0 → B_X8_isSeen_18 Q a1 a2 a3 59 σ)
set_option maxRecDepth 20000 in
theorem jb_X8_isSeen_79 {X : jj_X} {E : ev_E} {n0 hN : Nat} (hc : Cx X E cX8_isSeen 8 n0 hN RX8) (hm : eM E = 1) (hr : (xT X).sig.returnType = (some .boolean)) (hh : 1 ≤ hN) {Q : Int → st_S → Prop} {σ : st_S} (h : B_X8_isSeen_79 Q σ) : J X E 8 n0 0 0 (MQ (xB X) (qI E (n0 + 0) Q) (xA X) (xS X) 0 0 (eF E)) σ 79 [] [] := by
  have hh1 : 1 ≤ hN := by omega
  replace h : Q 1 σ := h
  refine j_iconst hc dX8_isSeen_79 ?_
  exact j_zret hc hr (nar_bool (Or.inr rfl)) (by decide) h dX8_isSeen_80
set_option maxRecDepth 20000 in
theorem jb_X8_isSeen_97 {X : jj_X} {E : ev_E} {n0 hN : Nat} (hc : Cx X E cX8_isSeen 8 n0 hN RX8) (hm : eM E = 1) (hr : (xT X).sig.returnType = (some .boolean)) (hh : 1 ≤ hN) {Q : Int → st_S → Prop} {l4 : Nat} {l5 : Int} {l6 : Int} {v0 : Int} (cl5 : wr l5 = l5) (cl6 : wr l6 = l6) (cv0 : wr v0 = v0) {σ : st_S} (h : B_X8_isSeen_97 Q l4 l5 l6 v0 σ) : J X E 8 n0 0 0 (MQ (xB X) (qI E (n0 + 0) Q) (xA X) (xS X) 0 0 (eF E)) σ 97 [(4, vR E l4), (5, vI l5), (6, vI l6)] [vI v0] := by
  have hh1 : 1 ≤ hN := by omega
  replace h : gK σ l4 = 0 ∧ ix l5 (gL σ l4) ∧ ix l5 (gL σ l4) ∧ ∀ s34 : st_S, s34 = sI σ l4 (Int.toNat l5) (o_or (gI σ l4 (Int.toNat l5)) l6) → (v0 = 0 ∨ v0 = 1) ∧ Q v0 s34 := h
  refine j_istore (lv' := [(7, vI v0), (4, vR E l4), (5, vI l5), (6, vI l6)]) hc dX8_isSeen_97 (by decide) rfl ?_
  refine j_aloadR hc 1 dX8_isSeen_99 rfl ?_
  refine j_iload hc 2 dX8_isSeen_101 rfl ?_
  refine j_dup2 hc dX8_isSeen_103 rfl rfl ?_
  obtain ⟨f30, h⟩ := h
  obtain ⟨b31, h⟩ := h
  refine j_iald (jn := (Int.toNat l5)) hc (fun _ => ⟨f30, rfl⟩) cl5 b31 rfl dX8_isSeen_104 (fun cn32 => ?_)
  refine j_iload hc 3 dX8_isSeen_105 rfl ?_
  refine j_ior hc dX8_isSeen_107 ?_
  obtain ⟨b33, h⟩ := h
  refine j_iast (jn := (Int.toNat l5)) hc (fun _ => ⟨f30, rfl⟩) cl5 b33 rfl (cn_or _ _) dX8_isSeen_108 (fun s34 es34 => ?_)
  replace h := h s34 es34
  refine j_iload hc 0 dX8_isSeen_109 rfl ?_
  exact j_zret hc hr (nar_bool h.1) (by rcases h.1 with e | e <;> (rw [e]; decide)) h.2 dX8_isSeen_111
set_option maxRecDepth 20000 in
theorem jb_X8_isSeen_64 {X : jj_X} {E : ev_E} {n0 hN : Nat} (hc : Cx X E cX8_isSeen 8 n0 hN RX8) (hm : eM E = 1) (hr : (xT X).sig.returnType = (some .boolean)) (hh : 1 ≤ hN) {Q : Int → st_S → Prop} {l4 : Nat} {l5 : Int} {v0 : Int} (cl5 : wr l5 = l5) (cv0 : wr v0 = v0) {σ : st_S} (h : B_X8_isSeen_64 Q l4 l5 v0 σ) : J X E 8 n0 0 0 (MQ (xB X) (qI E (n0 + 0) Q) (xA X) (xS X) 0 0 (eF E)) σ 64 [(4, vR E l4), (5, vI l5)] [vI v0] := by
  have hh1 : 1 ≤ hN := by omega
  replace h : (l5 < 0 → B_X8_isSeen_79 Q σ) ∧ (¬ l5 < 0 → gK σ l4 = 0 ∧ (l5 < wr ((gL σ l4) : Int) → ix l5 (gL σ l4) ∧ (o_and (gI σ l4 (Int.toNat l5)) v0 = 0 → B_X8_isSeen_97 Q l4 l5 v0 0 σ) ∧ (¬ o_and (gI σ l4 (Int.toNat l5)) v0 = 0 → B_X8_isSeen_97 Q l4 l5 v0 1 σ)) ∧ (¬ l5 < wr ((gL σ l4) : Int) → B_X8_isSeen_79 Q σ)) := h
  refine j_istore (lv' := [(6, vI v0), (4, vR E l4), (5, vI l5)]) hc dX8_isSeen_64 (by decide) rfl ?_
  refine j_iload hc 2 dX8_isSeen_66 rfl ?_
  refine j_if_lt hc cl5 (tgt := 79) dX8_isSeen_68 (by decide) (fun q40 => ?_) (fun q40 => ?_)
  · replace h := h.1 q40
    refine j_sub (lv' := []) [] rfl ?_
    exact jb_X8_isSeen_79 hc hm hr hh h
  · replace h := h.2 q40
    refine j_iload hc 2 dX8_isSeen_71 rfl ?_
    refine j_aloadR hc 1 dX8_isSeen_73 rfl ?_
    obtain ⟨f35, h⟩ := h
    refine j_alen hc 0 (by decide) (fun _ => ⟨f35, rfl⟩) dX8_isSeen_75 ?_
    refine j_ic_lt hc cl5 rfl (tgt := 81) dX8_isSeen_76 (by decide) (fun q39 => ?_) (fun q39 => ?_)
    · replace h := h.1 q39
      refine j_aloadR hc 1 dX8_isSeen_81 rfl ?_
      refine j_iload hc 2 dX8_isSeen_83 rfl ?_
      obtain ⟨b36, h⟩ := h
      refine j_iald (jn := (Int.toNat l5)) hc (fun _ => ⟨f35, rfl⟩) cl5 b36 rfl dX8_isSeen_85 (fun cn37 => ?_)
      refine j_iload hc 0 dX8_isSeen_86 rfl ?_
      refine j_iand hc dX8_isSeen_88 ?_
      refine j_if_eq hc (cn_and _ _) (tgt := 96) dX8_isSeen_89 (by decide) (fun q38 => ?_) (fun q38 => ?_)
      · replace h := h.1 q38
        refine j_iconst hc dX8_isSeen_96 ?_
        refine j_sub (lv' := [(4, vR E l4), (5, vI l5), (6, vI v0)]) [1, 2, 0] rfl ?_
        exact jb_X8_isSeen_97 hc hm hr hh cl5 cv0 (wlit 0 (by decide)) h
      · replace h := h.2 q38
        refine j_iconst hc dX8_isSeen_92 ?_
        refine j_goto (tgt := 97) hc dX8_isSeen_93 (by decide) ?_
        refine j_sub (lv' := [(4, vR E l4), (5, vI l5), (6, vI v0)]) [1, 2, 0] rfl ?_
        exact jb_X8_isSeen_97 hc hm hr hh cl5 cv0 (wlit 1 (by decide)) h
    · replace h := h.2 q39
      refine j_sub (lv' := []) [] rfl ?_
      exact jb_X8_isSeen_79 hc hm hr hh h
set_option maxRecDepth 20000 in
theorem jb_X8_isSeen_39 {X : jj_X} {E : ev_E} {n0 hN : Nat} (hc : Cx X E cX8_isSeen 8 n0 hN RX8) (hm : eM E = 1) (hr : (xT X).sig.returnType = (some .boolean)) (hh : 1 ≤ hN) {Q : Int → st_S → Prop} {l1 : Int} {l3 : Int} {l4 : Nat} {v0 : Int} (cl1 : wr l1 = l1) (cl3 : wr l3 = l3) (cv0 : wr v0 = v0) {σ : st_S} (h : B_X8_isSeen_39 Q l1 l3 l4 v0 σ) : J X E 8 n0 0 0 (MQ (xB X) (qI E (n0 + 0) Q) (xA X) (xS X) 0 0 (eF E)) σ 39 [(0, vR E 56), (1, vI l1), (3, vI l3), (4, vR E l4)] [vI v0] := by
  have hh1 : 1 ≤ hN := by omega
  replace h : (gI σ 56 16 = 0 → B_X8_isSeen_64 Q l4 v0 (o_shl 1 l1) σ) ∧ (¬ gI σ 56 16 = 0 → B_X8_isSeen_64 Q l4 v0 (o_shl 1 ((o_and l1 1 * 16) + l3)) σ) := h
  refine j_istore (lv' := [(5, vI v0), (0, vR E 56), (1, vI l1), (3, vI l3), (4, vR E l4)]) hc dX8_isSeen_39 (by decide) rfl ?_
  refine j_aload_nR hc 1 dX8_isSeen_41 rfl rfl ?_
  refine j_getI hc fl_RX8_69 (Or.inr rfl) (fun hv => Or.inl (sv_k hv hm rfl)) dX8_isSeen_42 (fun cn41 => ?_)
  refine j_if_eq hc cn41 (tgt := 61) dX8_isSeen_45 (by decide) (fun q42 => ?_) (fun q42 => ?_)
  · replace h := h.1 q42
    refine j_iconst hc dX8_isSeen_61 ?_
    refine j_iload_n hc 2 dX8_isSeen_62 rfl rfl ?_
    refine j_ishl hc dX8_isSeen_63 ?_
    refine j_sub (lv' := [(4, vR E l4), (5, vI v0)]) [4, 0] rfl ?_
    exact jb_X8_isSeen_64 hc hm hr hh cv0 (cn_shl _ _) h
  · replace h := h.2 q42
    refine j_iconst hc dX8_isSeen_48 ?_
    refine j_iload_n hc 2 dX8_isSeen_49 rfl rfl ?_
    refine j_iconst hc dX8_isSeen_50 ?_
    refine j_iand hc dX8_isSeen_51 ?_
    refine j_bipush hc dX8_isSeen_52 (by decide) ?_
    refine j_imul hc dX8_isSeen_54 ?_
    refine j_iload_n hc 3 dX8_isSeen_55 rfl rfl ?_
    refine j_iadd hc dX8_isSeen_56 ?_
    refine j_ishl hc dX8_isSeen_57 ?_
    refine j_goto (tgt := 64) hc dX8_isSeen_58 (by decide) ?_
    refine j_sub (lv' := [(4, vR E l4), (5, vI v0)]) [4, 0] rfl ?_
    exact jb_X8_isSeen_64 hc hm hr hh cv0 (cn_shl _ _) h
set_option maxRecDepth 20000 in
theorem jb_X8_isSeen_18 {X : jj_X} {E : ev_E} {n0 hN : Nat} (hc : Cx X E cX8_isSeen 8 n0 hN RX8) (hm : eM E = 1) (hr : (xT X).sig.returnType = (some .boolean)) (hh : 1 ≤ hN) {Q : Int → st_S → Prop} {l1 : Int} {l2 : Int} {l3 : Int} {v0 : Nat} (cl1 : wr l1 = l1) (cl2 : wr l2 = l2) (cl3 : wr l3 = l3) {σ : st_S} (h : B_X8_isSeen_18 Q l1 l2 l3 v0 σ) : J X E 8 n0 0 0 (MQ (xB X) (qI E (n0 + 0) Q) (xA X) (xS X) 0 0 (eF E)) σ 18 [(0, vR E 56), (1, vI l1), (2, vI l2), (3, vI l3)] [vR E v0] := by
  have hh1 : 1 ≤ hN := by omega
  replace h : (gI σ 56 16 = 0 → B_X8_isSeen_39 Q l1 l3 v0 l2 σ) ∧ (¬ gI σ 56 16 = 0 → ∀ x44 : Int, x44 = wr (o_shl (o_shr l1 1) 10 + l2) → B_X8_isSeen_39 Q l1 l3 v0 x44 σ) := h
  refine j_astoreR (lv' := [(4, vR E v0), (0, vR E 56), (1, vI l1), (2, vI l2), (3, vI l3)]) hc dX8_isSeen_18 (by decide) rfl ?_
  refine j_aload_nR hc 1 dX8_isSeen_20 rfl rfl ?_
  refine j_getI hc fl_RX8_69 (Or.inr rfl) (fun hv => Or.inl (sv_k hv hm rfl)) dX8_isSeen_21 (fun cn43 => ?_)
  refine j_if_eq hc cn43 (tgt := 38) dX8_isSeen_24 (by decide) (fun q45 => ?_) (fun q45 => ?_)
  · replace h := h.1 q45
    refine j_iload_n hc 3 dX8_isSeen_38 rfl rfl ?_
    refine j_sub (lv' := [(0, vR E 56), (1, vI l1), (3, vI l3), (4, vR E v0)]) [1, 2, 4, 0] rfl ?_
    exact jb_X8_isSeen_39 hc hm hr hh cl1 cl3 cl2 h
  · replace h := h.2 q45
    refine j_iload_n hc 2 dX8_isSeen_27 rfl rfl ?_
    refine j_iconst hc dX8_isSeen_28 ?_
    refine j_ishr hc dX8_isSeen_29 ?_
    refine j_bipush hc dX8_isSeen_30 (by decide) ?_
    refine j_ishl hc dX8_isSeen_32 ?_
    refine j_iload_n hc 3 dX8_isSeen_33 rfl rfl ?_
    refine j_iadd hc dX8_isSeen_34 ?_
    refine j_goto (tgt := 39) hc dX8_isSeen_35 (by decide) ?_
    refine j_w (fun x44 ex44 cx44 => ?_)
    replace h := h x44 ex44
    refine j_sub (lv' := [(0, vR E 56), (1, vI l1), (3, vI l3), (4, vR E v0)]) [1, 2, 4, 0] rfl ?_
    exact jb_X8_isSeen_39 hc hm hr hh cl1 cl3 cx44 h
set_option maxRecDepth 20000 in
theorem c_X8_isSeen {l : Launch} {E : ev_E} (hE : Eok E) (hm : eM E = 1) {a1 : Int} {a2 : Int} {a3 : Int} (ca1 : wr a1 = a1) (ca2 : wr a2 = a2) (ca3 : wr a3 = a3) {σ : st_S} {Q : Int → st_S → Prop} (h : wp_X8_isSeen a1 a2 a3 σ Q) : cM l yX8_isSeen cX8_isSeen 8 (some .boolean) E 1 0 0 [vR E 56, vI a1, vI a2, vI a3] σ (qI E (gN σ + 0) Q) := by
  refine cM_of (lv := [(0, vR E 56), (1, vI a1), (2, vI a2), (3, vI a3)]) (by decide) hE (Nat.le_of_ble_eq_true rfl) (rfl) ?_
  intro X hX hc _ _ hr _ _
  subst hX
  have hh : 1 ≤ 1 := Nat.le_refl _
  have hh1 : 1 ≤ 1 := by omega
  replace h : (gI σ 56 16 = 0 → B_X8_isSeen_18 Q a1 a2 a3 57 σ) ∧ (¬ gI σ 56 16 = 0 → B_X8_isSeen_18 Q a1 a2 a3 59 σ) := h
  refine j_aload_nR hc 0 dX8_isSeen_0 rfl rfl ?_
  refine j_getI hc fl_RX8_69 (Or.inr rfl) (fun hv => Or.inl (sv_k hv hm rfl)) dX8_isSeen_1 (fun cn46 => ?_)
  refine j_if_eq hc cn46 (tgt := 14) dX8_isSeen_4 (by decide) (fun q47 => ?_) (fun q47 => ?_)
  · replace h := h.1 q47
    refine j_aload_nR hc 0 dX8_isSeen_14 rfl rfl ?_
    refine j_getR (c' := 57) hc fl_RX8_9 rfl rfl (fun hv => (sv_k hv hm rfl)) dX8_isSeen_15 ?_
    refine j_sub (lv' := [(0, vR E 56), (1, vI a1), (2, vI a2), (3, vI a3)]) [0, 1, 2, 3] rfl ?_
    exact jb_X8_isSeen_18 hc hm hr hh ca1 ca2 ca3 h
  · replace h := h.2 q47
    refine j_aload_nR hc 0 dX8_isSeen_7 rfl rfl ?_
    refine j_getR (c' := 59) hc fl_RX8_18 rfl rfl (fun hv => (sv_k hv hm rfl)) dX8_isSeen_8 ?_
    refine j_goto (tgt := 18) hc dX8_isSeen_11 (by decide) ?_
    refine j_sub (lv' := [(0, vR E 56), (1, vI a1), (2, vI a2), (3, vI a3)]) [0, 1, 2, 3] rfl ?_
    exact jb_X8_isSeen_18 hc hm hr hh ca1 ca2 ca3 h
-- LitStrangers$Search.isVain(III)Z
theorem dX8_isVain_0 : decode cX8_isVain 0 = .ok (.iload_n 1, 1) := by decide +kernel
theorem dX8_isVain_1 : decode cX8_isVain 1 = .ok (.aload_n 0, 1) := by decide +kernel
theorem dX8_isVain_2 : decode cX8_isVain 2 = .ok (.getfield 132, 3) := by decide +kernel
theorem dX8_isVain_5 : decode cX8_isVain 5 = .ok (.if_icmp .lt 5, 3) := by decide +kernel
theorem dX8_isVain_8 : decode cX8_isVain 8 = .ok (.iconst 1, 1) := by decide +kernel
theorem dX8_isVain_9 : decode cX8_isVain 9 = .ok (.ireturn, 1) := by decide +kernel
theorem dX8_isVain_10 : decode cX8_isVain 10 = .ok (.iload_n 1, 1) := by decide +kernel
theorem dX8_isVain_11 : decode cX8_isVain 11 = .ok (.aload_n 0, 1) := by decide +kernel
theorem dX8_isVain_12 : decode cX8_isVain 12 = .ok (.getfield 37, 3) := by decide +kernel
theorem dX8_isVain_15 : decode cX8_isVain 15 = .ok (.iload_n 1, 1) := by decide +kernel
theorem dX8_isVain_16 : decode cX8_isVain 16 = .ok (.aload_n 0, 1) := by decide +kernel
theorem dX8_isVain_17 : decode cX8_isVain 17 = .ok (.getfield 123, 3) := by decide +kernel
theorem dX8_isVain_20 : decode cX8_isVain 20 = .ok (.iload_n 2, 1) := by decide +kernel
theorem dX8_isVain_21 : decode cX8_isVain 21 = .ok (.iconst (-1), 1) := by decide +kernel
theorem dX8_isVain_22 : decode cX8_isVain 22 = .ok (.ixor, 1) := by decide +kernel
theorem dX8_isVain_23 : decode cX8_isVain 23 = .ok (.iand, 1) := by decide +kernel
theorem dX8_isVain_24 : decode cX8_isVain 24 = .ok (.iload_n 3, 1) := by decide +kernel
theorem dX8_isVain_25 : decode cX8_isVain 25 = .ok (.invokevirtual 156, 3) := by decide +kernel
theorem dX8_isVain_28 : decode cX8_isVain 28 = .ok (.iadd, 1) := by decide +kernel
theorem dX8_isVain_29 : decode cX8_isVain 29 = .ok (.istore 4, 2) := by decide +kernel
theorem dX8_isVain_31 : decode cX8_isVain 31 = .ok (.aload_n 0, 1) := by decide +kernel
theorem dX8_isVain_32 : decode cX8_isVain 32 = .ok (.getfield 65, 3) := by decide +kernel
theorem dX8_isVain_35 : decode cX8_isVain 35 = .ok (.ifCond .eq 14, 3) := by decide +kernel
theorem dX8_isVain_38 : decode cX8_isVain 38 = .ok (.iload 4, 2) := by decide +kernel
theorem dX8_isVain_40 : decode cX8_isVain 40 = .ok (.aload_n 0, 1) := by decide +kernel
theorem dX8_isVain_41 : decode cX8_isVain 41 = .ok (.getfield 132, 3) := by decide +kernel
theorem dX8_isVain_44 : decode cX8_isVain 44 = .ok (.if_icmp .ge 5, 3) := by decide +kernel
theorem dX8_isVain_47 : decode cX8_isVain 47 = .ok (.iconst 1, 1) := by decide +kernel
theorem dX8_isVain_48 : decode cX8_isVain 48 = .ok (.ireturn, 1) := by decide +kernel
theorem dX8_isVain_49 : decode cX8_isVain 49 = .ok (.aload_n 0, 1) := by decide +kernel
theorem dX8_isVain_50 : decode cX8_isVain 50 = .ok (.getfield 61, 3) := by decide +kernel
theorem dX8_isVain_53 : decode cX8_isVain 53 = .ok (.ifCond .eq 26, 3) := by decide +kernel
theorem dX8_isVain_56 : decode cX8_isVain 56 = .ok (.aload_n 0, 1) := by decide +kernel
theorem dX8_isVain_57 : decode cX8_isVain 57 = .ok (.getfield 37, 3) := by decide +kernel
theorem dX8_isVain_60 : decode cX8_isVain 60 = .ok (.iload_n 2, 1) := by decide +kernel
theorem dX8_isVain_61 : decode cX8_isVain 61 = .ok (.invokevirtual 147, 3) := by decide +kernel
theorem dX8_isVain_64 : decode cX8_isVain 64 = .ok (.aload_n 0, 1) := by decide +kernel
theorem dX8_isVain_65 : decode cX8_isVain 65 = .ok (.getfield 55, 3) := by decide +kernel
theorem dX8_isVain_68 : decode cX8_isVain 68 = .ok (.if_icmp .lt 7, 3) := by decide +kernel
theorem dX8_isVain_71 : decode cX8_isVain 71 = .ok (.iconst 1, 1) := by decide +kernel
theorem dX8_isVain_72 : decode cX8_isVain 72 = .ok (.goto 32, 3) := by decide +kernel
theorem dX8_isVain_75 : decode cX8_isVain 75 = .ok (.iconst 0, 1) := by decide +kernel
theorem dX8_isVain_76 : decode cX8_isVain 76 = .ok (.goto 28, 3) := by decide +kernel
theorem dX8_isVain_79 : decode cX8_isVain 79 = .ok (.aload_n 0, 1) := by decide +kernel
theorem dX8_isVain_80 : decode cX8_isVain 80 = .ok (.getfield 55, 3) := by decide +kernel
theorem dX8_isVain_83 : decode cX8_isVain 83 = .ok (.aload_n 0, 1) := by decide +kernel
theorem dX8_isVain_84 : decode cX8_isVain 84 = .ok (.getfield 132, 3) := by decide +kernel
theorem dX8_isVain_87 : decode cX8_isVain 87 = .ok (.if_icmp .ge 12, 3) := by decide +kernel
theorem dX8_isVain_90 : decode cX8_isVain 90 = .ok (.iload 4, 2) := by decide +kernel
theorem dX8_isVain_92 : decode cX8_isVain 92 = .ok (.aload_n 0, 1) := by decide +kernel
theorem dX8_isVain_93 : decode cX8_isVain 93 = .ok (.getfield 55, 3) := by decide +kernel
theorem dX8_isVain_96 : decode cX8_isVain 96 = .ok (.if_icmp .gt 7, 3) := by decide +kernel
theorem dX8_isVain_99 : decode cX8_isVain 99 = .ok (.iconst 1, 1) := by decide +kernel
theorem dX8_isVain_100 : decode cX8_isVain 100 = .ok (.goto 4, 3) := by decide +kernel
theorem dX8_isVain_103 : decode cX8_isVain 103 = .ok (.iconst 0, 1) := by decide +kernel
theorem dX8_isVain_104 : decode cX8_isVain 104 = .ok (.ireturn, 1) := by decide +kernel
def B_X8_isVain_104 (Q : Int → st_S → Prop)   (v0 : Int) (σ : st_S) : Prop := (v0 = 0 ∨ v0 = 1) ∧ Q v0 σ
def B_X8_isVain_99 (Q : Int → st_S → Prop)    (σ : st_S) : Prop := B_X8_isVain_104 Q 1 σ
def B_X8_isVain_49 (Q : Int → st_S → Prop)   (l2 : Int) (l4 : Int) (σ : st_S) : Prop := (gI σ 56 14 = 0 → (gI σ 56 12 ≤ gI σ 56 13 → B_X8_isVain_99 Q σ) ∧ (¬ gI σ 56 12 ≤ gI σ 56 13 → (gI σ 56 13 < l4 → B_X8_isVain_104 Q 0 σ) ∧ (¬ gI σ 56 13 < l4 → B_X8_isVain_99 Q σ))) ∧ (¬ gI σ 56 14 = 0 → wp_X5_priceOf l2 σ (fun r21 s22 => (r21 < gI s22 56 13 → B_X8_isVain_104 Q 0 s22) ∧ (¬ r21 < gI s22 56 13 → B_X8_isVain_104 Q 1 s22)))
def wp_X8_isVain (a1 : Int) (a2 : Int) (a3 : Int) (σ : st_S) (Q : Int → st_S → Prop) : Prop := (a1 < gI σ 56 12 → wp_X5_nightsFrom a1 (o_and (gI σ 56 10) (o_xor a2 (-1))) a3 σ (fun r28 s29 => ∀ x30 : Int, x30 = wr (a1 + r28) → (gI s29 56 15 = 0 → B_X8_isVain_49 Q a2 x30 s29) ∧ (¬ gI s29 56 15 = 0 → (gI s29 56 12 ≤ x30 → B_X8_isVain_49 Q a2 x30 s29) ∧ (¬ gI s29 56 12 ≤ x30 → Q 1 s29)))) ∧ (¬ a1 < gI σ 56 12 → Q 1 σ)
set_option maxRecDepth 20000 in
theorem jb_X8_isVain_104 {X : jj_X} {E : ev_E} {n0 hN : Nat} (hc : Cx X E cX8_isVain 5 n0 hN RX8) (hm : eM E = 1) (hr : (xT X).sig.returnType = (some .boolean)) (hh : 3 ≤ hN) {Q : Int → st_S → Prop} {v0 : Int} (cv0 : wr v0 = v0) {σ : st_S} (h : B_X8_isVain_104 Q v0 σ) : J X E 5 n0 0 0 (MQ (xB X) (qI E (n0 + 0) Q) (xA X) (xS X) 0 0 (eF E)) σ 104 [] [vI v0] := by
  have hh1 : 1 ≤ hN := by omega
  replace h : (v0 = 0 ∨ v0 = 1) ∧ Q v0 σ := h
  exact j_zret hc hr (nar_bool h.1) (by rcases h.1 with e | e <;> (rw [e]; decide)) h.2 dX8_isVain_104
set_option maxRecDepth 20000 in
theorem jb_X8_isVain_99 {X : jj_X} {E : ev_E} {n0 hN : Nat} (hc : Cx X E cX8_isVain 5 n0 hN RX8) (hm : eM E = 1) (hr : (xT X).sig.returnType = (some .boolean)) (hh : 3 ≤ hN) {Q : Int → st_S → Prop} {σ : st_S} (h : B_X8_isVain_99 Q σ) : J X E 5 n0 0 0 (MQ (xB X) (qI E (n0 + 0) Q) (xA X) (xS X) 0 0 (eF E)) σ 99 [] [] := by
  have hh1 : 1 ≤ hN := by omega
  replace h : B_X8_isVain_104 Q 1 σ := h
  refine j_iconst hc dX8_isVain_99 ?_
  refine j_goto (tgt := 104) hc dX8_isVain_100 (by decide) ?_
  refine j_sub (lv' := []) [] rfl ?_
  exact jb_X8_isVain_104 hc hm hr hh (wlit 1 (by decide)) h
set_option maxRecDepth 20000 in
theorem jb_X8_isVain_49 {X : jj_X} {E : ev_E} {n0 hN : Nat} (hc : Cx X E cX8_isVain 5 n0 hN RX8) (hm : eM E = 1) (hr : (xT X).sig.returnType = (some .boolean)) (hh : 3 ≤ hN) {Q : Int → st_S → Prop} {l2 : Int} {l4 : Int} (cl2 : wr l2 = l2) (cl4 : wr l4 = l4) {σ : st_S} (h : B_X8_isVain_49 Q l2 l4 σ) : J X E 5 n0 0 0 (MQ (xB X) (qI E (n0 + 0) Q) (xA X) (xS X) 0 0 (eF E)) σ 49 [(0, vR E 56), (2, vI l2), (4, vI l4)] [] := by
  have hh1 : 1 ≤ hN := by omega
  replace h : (gI σ 56 14 = 0 → (gI σ 56 12 ≤ gI σ 56 13 → B_X8_isVain_99 Q σ) ∧ (¬ gI σ 56 12 ≤ gI σ 56 13 → (gI σ 56 13 < l4 → B_X8_isVain_104 Q 0 σ) ∧ (¬ gI σ 56 13 < l4 → B_X8_isVain_99 Q σ))) ∧ (¬ gI σ 56 14 = 0 → wp_X5_priceOf l2 σ (fun r21 s22 => (r21 < gI s22 56 13 → B_X8_isVain_104 Q 0 s22) ∧ (¬ r21 < gI s22 56 13 → B_X8_isVain_104 Q 1 s22))) := h
  refine j_aload_nR hc 0 dX8_isVain_49 rfl rfl ?_
  refine j_getI hc fl_RX8_61 (Or.inr rfl) (fun hv => Or.inl (sv_k hv hm rfl)) dX8_isVain_50 (fun cn15 => ?_)
  refine j_if_eq hc cn15 (tgt := 79) dX8_isVain_53 (by decide) (fun q25 => ?_) (fun q25 => ?_)
  · replace h := h.1 q25
    refine j_aload_nR hc 0 dX8_isVain_79 rfl rfl ?_
    refine j_getI hc fl_RX8_55 (Or.inl rfl) (fun hv => Or.inl (sv_k hv hm rfl)) dX8_isVain_80 (fun cn16 => ?_)
    refine j_aload_nR hc 0 dX8_isVain_83 rfl rfl ?_
    refine j_getI hc fl_RX8_132 (Or.inl rfl) (fun hv => Or.inl (sv_k hv hm rfl)) dX8_isVain_84 (fun cn17 => ?_)
    refine j_ic_ge hc cn16 cn17 (tgt := 99) dX8_isVain_87 (by decide) (fun q20 => ?_) (fun q20 => ?_)
    · replace h := h.1 q20
      refine j_sub (lv' := []) [] rfl ?_
      exact jb_X8_isVain_99 hc hm hr hh h
    · replace h := h.2 q20
      refine j_iload hc 2 dX8_isVain_90 rfl ?_
      refine j_aload_nR hc 0 dX8_isVain_92 rfl rfl ?_
      refine j_getI hc fl_RX8_55 (Or.inl rfl) (fun hv => Or.inl (sv_k hv hm rfl)) dX8_isVain_93 (fun cn18 => ?_)
      refine j_ic_gt hc cl4 cn18 (tgt := 103) dX8_isVain_96 (by decide) (fun q19 => ?_) (fun q19 => ?_)
      · replace h := h.1 q19
        refine j_iconst hc dX8_isVain_103 ?_
        refine j_sub (lv' := []) [] rfl ?_
        exact jb_X8_isVain_104 hc hm hr hh (wlit 0 (by decide)) h
      · replace h := h.2 q19
        refine j_sub (lv' := []) [] rfl ?_
        exact jb_X8_isVain_99 hc hm hr hh h
  · replace h := h.2 q25
    refine j_aload_nR hc 0 dX8_isVain_56 rfl rfl ?_
    refine j_getR (c' := 42) hc fl_RX8_37 rfl rfl (fun hv => (sv_k hv hm rfl)) dX8_isVain_57 ?_
    refine j_iload_n hc 1 dX8_isVain_60 rfl rfl ?_
    refine j_vI hc (k := 5) (by decide) (fun hv => Or.inl (sv_k hv hm rfl)) ml_RX8_147 mv_X5_priceOf (As := [vI l2]) (c_X5_priceOf (cx_E hc) hm cl2 h) rfl (by omega) (by decide) ⟨Nat.zero_le _, Nat.zero_le _⟩ (Nat.le_of_ble_eq_true rfl) rfl dX8_isVain_61 (fun r21 s22 cr21 h => ?_)
    refine j_aload_nR hc 0 dX8_isVain_64 rfl rfl ?_
    refine j_getI hc fl_RX8_55 (Or.inl rfl) (fun hv => Or.inl (sv_k hv hm rfl)) dX8_isVain_65 (fun cn23 => ?_)
    refine j_ic_lt hc cr21 cn23 (tgt := 75) dX8_isVain_68 (by decide) (fun q24 => ?_) (fun q24 => ?_)
    · replace h := h.1 q24
      refine j_iconst hc dX8_isVain_75 ?_
      refine j_goto (tgt := 104) hc dX8_isVain_76 (by decide) ?_
      refine j_sub (lv' := []) [] rfl ?_
      exact jb_X8_isVain_104 hc hm hr hh (wlit 0 (by decide)) h
    · replace h := h.2 q24
      refine j_iconst hc dX8_isVain_71 ?_
      refine j_goto (tgt := 104) hc dX8_isVain_72 (by decide) ?_
      refine j_sub (lv' := []) [] rfl ?_
      exact jb_X8_isVain_104 hc hm hr hh (wlit 1 (by decide)) h
set_option maxRecDepth 20000 in
theorem c_X8_isVain {l : Launch} {E : ev_E} (hE : Eok E) (hm : eM E = 1) {a1 : Int} {a2 : Int} {a3 : Int} (ca1 : wr a1 = a1) (ca2 : wr a2 = a2) (ca3 : wr a3 = a3) {σ : st_S} {Q : Int → st_S → Prop} (h : wp_X8_isVain a1 a2 a3 σ Q) : cM l yX8_isVain cX8_isVain 5 (some .boolean) E 3 0 0 [vR E 56, vI a1, vI a2, vI a3] σ (qI E (gN σ + 0) Q) := by
  refine cM_of (lv := [(0, vR E 56), (1, vI a1), (2, vI a2), (3, vI a3)]) (by decide) hE (Nat.le_of_ble_eq_true rfl) (rfl) ?_
  intro X hX hc _ _ hr _ _
  subst hX
  have hh : 3 ≤ 3 := Nat.le_refl _
  have hh1 : 1 ≤ 3 := by omega
  replace h : (a1 < gI σ 56 12 → wp_X5_nightsFrom a1 (o_and (gI σ 56 10) (o_xor a2 (-1))) a3 σ (fun r28 s29 => ∀ x30 : Int, x30 = wr (a1 + r28) → (gI s29 56 15 = 0 → B_X8_isVain_49 Q a2 x30 s29) ∧ (¬ gI s29 56 15 = 0 → (gI s29 56 12 ≤ x30 → B_X8_isVain_49 Q a2 x30 s29) ∧ (¬ gI s29 56 12 ≤ x30 → Q 1 s29)))) ∧ (¬ a1 < gI σ 56 12 → Q 1 σ) := h
  refine j_iload_n hc 1 dX8_isVain_0 rfl rfl ?_
  refine j_aload_nR hc 0 dX8_isVain_1 rfl rfl ?_
  refine j_getI hc fl_RX8_132 (Or.inl rfl) (fun hv => Or.inl (sv_k hv hm rfl)) dX8_isVain_2 (fun cn26 => ?_)
  refine j_ic_lt hc ca1 cn26 (tgt := 10) dX8_isVain_5 (by decide) (fun q35 => ?_) (fun q35 => ?_)
  · replace h := h.1 q35
    refine j_iload_n hc 1 dX8_isVain_10 rfl rfl ?_
    refine j_aload_nR hc 0 dX8_isVain_11 rfl rfl ?_
    refine j_getR (c' := 42) hc fl_RX8_37 rfl rfl (fun hv => (sv_k hv hm rfl)) dX8_isVain_12 ?_
    refine j_iload_n hc 1 dX8_isVain_15 rfl rfl ?_
    refine j_aload_nR hc 0 dX8_isVain_16 rfl rfl ?_
    refine j_getI hc fl_RX8_123 (Or.inl rfl) (fun hv => Or.inl (sv_k hv hm rfl)) dX8_isVain_17 (fun cn27 => ?_)
    refine j_iload_n hc 2 dX8_isVain_20 rfl rfl ?_
    refine j_iconst hc dX8_isVain_21 ?_
    refine j_ixor hc dX8_isVain_22 ?_
    refine j_iand hc dX8_isVain_23 ?_
    refine j_iload_n hc 3 dX8_isVain_24 rfl rfl ?_
    refine j_vI hc (k := 5) (by decide) (fun hv => Or.inl (sv_k hv hm rfl)) ml_RX8_156 mv_X5_nightsFrom (As := [vI a1, vI (o_and (gI σ 56 10) (o_xor a2 (-1))), vI a3]) (c_X5_nightsFrom (cx_E hc) hm ca1 (cn_and _ _) ca3 h) rfl (by omega) (by decide) ⟨Nat.zero_le _, Nat.zero_le _⟩ (Nat.le_of_ble_eq_true rfl) rfl dX8_isVain_25 (fun r28 s29 cr28 h => ?_)
    refine j_iadd hc dX8_isVain_28 ?_
    refine j_w (fun x30 ex30 cx30 => ?_)
    replace h := h x30 ex30
    refine j_istore (lv' := [(4, vI x30), (0, vR E 56), (1, vI a1), (2, vI a2), (3, vI a3)]) hc dX8_isVain_29 (by decide) rfl ?_
    refine j_aload_nR hc 1 dX8_isVain_31 rfl rfl ?_
    refine j_getI hc fl_RX8_65 (Or.inr rfl) (fun hv => Or.inl (sv_k hv hm rfl)) dX8_isVain_32 (fun cn31 => ?_)
    refine j_if_eq hc cn31 (tgt := 49) dX8_isVain_35 (by decide) (fun q34 => ?_) (fun q34 => ?_)
    · replace h := h.1 q34
      refine j_sub (lv' := [(0, vR E 56), (2, vI a2), (4, vI x30)]) [1, 3, 0] rfl ?_
      exact jb_X8_isVain_49 hc hm hr hh ca2 cx30 h
    · replace h := h.2 q34
      refine j_iload hc 0 dX8_isVain_38 rfl ?_
      refine j_aload_nR hc 1 dX8_isVain_40 rfl rfl ?_
      refine j_getI hc fl_RX8_132 (Or.inl rfl) (fun hv => Or.inl (sv_k hv hm rfl)) dX8_isVain_41 (fun cn32 => ?_)
      refine j_ic_ge hc cx30 cn32 (tgt := 49) dX8_isVain_44 (by decide) (fun q33 => ?_) (fun q33 => ?_)
      · replace h := h.1 q33
        refine j_sub (lv' := [(0, vR E 56), (2, vI a2), (4, vI x30)]) [1, 3, 0] rfl ?_
        exact jb_X8_isVain_49 hc hm hr hh ca2 cx30 h
      · replace h := h.2 q33
        refine j_iconst hc dX8_isVain_47 ?_
        exact j_zret hc hr (nar_bool (Or.inr rfl)) (by decide) h dX8_isVain_48
  · replace h := h.2 q35
    refine j_iconst hc dX8_isVain_8 ?_
    exact j_zret hc hr (nar_bool (Or.inr rfl)) (by decide) h dX8_isVain_9
-- LitStrangers$Search.note(II)V
theorem dX8_note_0 : decode cX8_note 0 = .ok (.aload_n 0, 1) := by decide +kernel
theorem dX8_note_1 : decode cX8_note 1 = .ok (.getfield 61, 3) := by decide +kernel
theorem dX8_note_4 : decode cX8_note 4 = .ok (.ifCond .eq 22, 3) := by decide +kernel
theorem dX8_note_7 : decode cX8_note 7 = .ok (.iload_n 1, 1) := by decide +kernel
theorem dX8_note_8 : decode cX8_note 8 = .ok (.aload_n 0, 1) := by decide +kernel
theorem dX8_note_9 : decode cX8_note 9 = .ok (.getfield 132, 3) := by decide +kernel
theorem dX8_note_12 : decode cX8_note 12 = .ok (.if_icmp .ne 14, 3) := by decide +kernel
theorem dX8_note_15 : decode cX8_note 15 = .ok (.aload_n 0, 1) := by decide +kernel
theorem dX8_note_16 : decode cX8_note 16 = .ok (.getfield 37, 3) := by decide +kernel
theorem dX8_note_19 : decode cX8_note 19 = .ok (.iload_n 2, 1) := by decide +kernel
theorem dX8_note_20 : decode cX8_note 20 = .ok (.invokevirtual 147, 3) := by decide +kernel
theorem dX8_note_23 : decode cX8_note 23 = .ok (.goto 5, 3) := by decide +kernel
theorem dX8_note_26 : decode cX8_note 26 = .ok (.ldc 68, 2) := by decide +kernel
theorem dX8_note_28 : decode cX8_note 28 = .ok (.istore_n 3, 1) := by decide +kernel
theorem dX8_note_29 : decode cX8_note 29 = .ok (.aload_n 0, 1) := by decide +kernel
theorem dX8_note_30 : decode cX8_note 30 = .ok (.getfield 61, 3) := by decide +kernel
theorem dX8_note_33 : decode cX8_note 33 = .ok (.ifCond .eq 14, 3) := by decide +kernel
theorem dX8_note_36 : decode cX8_note 36 = .ok (.iload_n 3, 1) := by decide +kernel
theorem dX8_note_37 : decode cX8_note 37 = .ok (.aload_n 0, 1) := by decide +kernel
theorem dX8_note_38 : decode cX8_note 38 = .ok (.getfield 55, 3) := by decide +kernel
theorem dX8_note_41 : decode cX8_note 41 = .ok (.if_icmp .ge 45, 3) := by decide +kernel
theorem dX8_note_44 : decode cX8_note 44 = .ok (.goto 11, 3) := by decide +kernel
theorem dX8_note_47 : decode cX8_note 47 = .ok (.iload_n 1, 1) := by decide +kernel
theorem dX8_note_48 : decode cX8_note 48 = .ok (.aload_n 0, 1) := by decide +kernel
theorem dX8_note_49 : decode cX8_note 49 = .ok (.getfield 55, 3) := by decide +kernel
theorem dX8_note_52 : decode cX8_note 52 = .ok (.if_icmp .le 34, 3) := by decide +kernel
theorem dX8_note_55 : decode cX8_note 55 = .ok (.aload_n 0, 1) := by decide +kernel
theorem dX8_note_56 : decode cX8_note 56 = .ok (.aload_n 0, 1) := by decide +kernel
theorem dX8_note_57 : decode cX8_note 57 = .ok (.getfield 61, 3) := by decide +kernel
theorem dX8_note_60 : decode cX8_note 60 = .ok (.ifCond .eq 7, 3) := by decide +kernel
theorem dX8_note_63 : decode cX8_note 63 = .ok (.iload_n 3, 1) := by decide +kernel
theorem dX8_note_64 : decode cX8_note 64 = .ok (.goto 4, 3) := by decide +kernel
theorem dX8_note_67 : decode cX8_note 67 = .ok (.iload_n 1, 1) := by decide +kernel
theorem dX8_note_68 : decode cX8_note 68 = .ok (.putfield 55, 3) := by decide +kernel
theorem dX8_note_71 : decode cX8_note 71 = .ok (.aload_n 0, 1) := by decide +kernel
theorem dX8_note_72 : decode cX8_note 72 = .ok (.getfield 21, 3) := by decide +kernel
theorem dX8_note_75 : decode cX8_note 75 = .ok (.iconst 0, 1) := by decide +kernel
theorem dX8_note_76 : decode cX8_note 76 = .ok (.aload_n 0, 1) := by decide +kernel
theorem dX8_note_77 : decode cX8_note 77 = .ok (.getfield 24, 3) := by decide +kernel
theorem dX8_note_80 : decode cX8_note 80 = .ok (.iconst 0, 1) := by decide +kernel
theorem dX8_note_81 : decode cX8_note 81 = .ok (.bipush 10, 2) := by decide +kernel
theorem dX8_note_83 : decode cX8_note 83 = .ok (.invokestatic 150, 3) := by decide +kernel
theorem dX8_note_86 : decode cX8_note 86 = .ok (.return_, 1) := by decide +kernel
def B_X8_note_86 (Q : st_S → Prop)    (σ : st_S) : Prop := Q σ
def B_X8_note_68 (Q : st_S → Prop)   (v0 : Int) (σ : st_S) : Prop := ∀ s14 : st_S, s14 = sI σ 56 13 v0 → ∀ s15 : st_S, s15 = sC s14 60 0 61 0 10 → B_X8_note_86 Q s15
def B_X8_note_55 (Q : st_S → Prop)   (l1 : Int) (l3 : Int) (σ : st_S) : Prop := (gI σ 56 14 = 0 → B_X8_note_68 Q l1 σ) ∧ (¬ gI σ 56 14 = 0 → B_X8_note_68 Q l3 σ)
def B_X8_note_28 (Q : st_S → Prop)   (l1 : Int) (v0 : Int) (σ : st_S) : Prop := (gI σ 56 14 = 0 → (l1 ≤ gI σ 56 13 → B_X8_note_86 Q σ) ∧ (¬ l1 ≤ gI σ 56 13 → B_X8_note_55 Q l1 v0 σ)) ∧ (¬ gI σ 56 14 = 0 → (gI σ 56 13 ≤ v0 → B_X8_note_86 Q σ) ∧ (¬ gI σ 56 13 ≤ v0 → B_X8_note_55 Q l1 v0 σ))
def B_X8_note_26 (Q : st_S → Prop)   (l1 : Int) (σ : st_S) : Prop := B_X8_note_28 Q l1 1000000 σ
def wp_X8_note (a1 : Int) (a2 : Int) (σ : st_S) (Q : st_S → Prop) : Prop := (gI σ 56 14 = 0 → B_X8_note_26 Q a1 σ) ∧ (¬ gI σ 56 14 = 0 → (¬ a1 = gI σ 56 12 → B_X8_note_26 Q a1 σ) ∧ (a1 = gI σ 56 12 → wp_X5_priceOf a2 σ (fun r27 s28 => B_X8_note_28 Q a1 r27 s28)))
set_option maxRecDepth 20000 in
theorem jb_X8_note_86 {X : jj_X} {E : ev_E} {n0 hN : Nat} (hc : Cx X E cX8_note 4 n0 hN RX8) (hm : eM E = 1) (hr : (xT X).sig.returnType = none) (hh : 2 ≤ hN) {Q : st_S → Prop} {σ : st_S} (h : B_X8_note_86 Q σ) : J X E 4 n0 0 0 (MQ (xB X) (qV E (n0 + 0) Q) (xA X) (xS X) 0 0 (eF E)) σ 86 [] [] := by
  have hh1 : 1 ≤ hN := by omega
  replace h : Q σ := h
  exact j_vret hc hr h dX8_note_86
set_option maxRecDepth 20000 in
theorem jb_X8_note_68 {X : jj_X} {E : ev_E} {n0 hN : Nat} (hc : Cx X E cX8_note 4 n0 hN RX8) (hm : eM E = 1) (hr : (xT X).sig.returnType = none) (hh : 2 ≤ hN) {Q : st_S → Prop} {v0 : Int} (cv0 : wr v0 = v0) {σ : st_S} (h : B_X8_note_68 Q v0 σ) : J X E 4 n0 0 0 (MQ (xB X) (qV E (n0 + 0) Q) (xA X) (xS X) 0 0 (eF E)) σ 68 [(0, vR E 56)] [vI v0, vR E 56] := by
  have hh1 : 1 ≤ hN := by omega
  replace h : ∀ s14 : st_S, s14 = sI σ 56 13 v0 → ∀ s15 : st_S, s15 = sC s14 60 0 61 0 10 → B_X8_note_86 Q s15 := h
  refine j_putI hc fl_RX8_55 rfl rfl (fun hv => Or.inl (sv_k hv hm rfl)) cv0 dX8_note_68 (fun s14 es14 => ?_)
  replace h := h s14 es14
  refine j_aload_nR hc 0 dX8_note_71 rfl rfl ?_
  refine j_getR (c' := 60) hc fl_RX8_21 rfl rfl (fun hv => (sv_k hv hm rfl)) dX8_note_72 ?_
  refine j_iconst hc dX8_note_75 ?_
  refine j_aload_nR hc 0 dX8_note_76 rfl rfl ?_
  refine j_getR (c' := 61) hc fl_RX8_24 rfl rfl (fun hv => (sv_k hv hm rfl)) dX8_note_77 ?_
  refine j_iconst hc dX8_note_80 ?_
  refine j_bipush hc dX8_note_81 (by decide) ?_
  refine j_copy hc mc_RX8_150 hh1 (fun hv => sv_kl hv hm rfl) (fun hv => sv_kl hv hm rfl) (wlit 0 (by decide)) (wlit 0 (by decide)) (wlit 10 (by decide)) (by unfold cpOk; omega) (Nat.le_of_ble_eq_true rfl) dX8_note_83 (fun s15 es15 => ?_)
  replace h := h s15 es15
  refine j_sub (lv' := []) [] rfl ?_
  exact jb_X8_note_86 hc hm hr hh h
set_option maxRecDepth 20000 in
theorem jb_X8_note_55 {X : jj_X} {E : ev_E} {n0 hN : Nat} (hc : Cx X E cX8_note 4 n0 hN RX8) (hm : eM E = 1) (hr : (xT X).sig.returnType = none) (hh : 2 ≤ hN) {Q : st_S → Prop} {l1 : Int} {l3 : Int} (cl1 : wr l1 = l1) (cl3 : wr l3 = l3) {σ : st_S} (h : B_X8_note_55 Q l1 l3 σ) : J X E 4 n0 0 0 (MQ (xB X) (qV E (n0 + 0) Q) (xA X) (xS X) 0 0 (eF E)) σ 55 [(0, vR E 56), (1, vI l1), (3, vI l3)] [] := by
  have hh1 : 1 ≤ hN := by omega
  replace h : (gI σ 56 14 = 0 → B_X8_note_68 Q l1 σ) ∧ (¬ gI σ 56 14 = 0 → B_X8_note_68 Q l3 σ) := h
  refine j_aload_nR hc 0 dX8_note_55 rfl rfl ?_
  refine j_aload_nR hc 0 dX8_note_56 rfl rfl ?_
  refine j_getI hc fl_RX8_61 (Or.inr rfl) (fun hv => Or.inl (sv_k hv hm rfl)) dX8_note_57 (fun cn17 => ?_)
  refine j_if_eq hc cn17 (tgt := 67) dX8_note_60 (by decide) (fun q18 => ?_) (fun q18 => ?_)
  · replace h := h.1 q18
    refine j_iload_n hc 1 dX8_note_67 rfl rfl ?_
    refine j_sub (lv' := [(0, vR E 56)]) [0] rfl ?_
    exact jb_X8_note_68 hc hm hr hh cl1 h
  · replace h := h.2 q18
    refine j_iload_n hc 2 dX8_note_63 rfl rfl ?_
    refine j_goto (tgt := 68) hc dX8_note_64 (by decide) ?_
    refine j_sub (lv' := [(0, vR E 56)]) [0] rfl ?_
    exact jb_X8_note_68 hc hm hr hh cl3 h
set_option maxRecDepth 20000 in
theorem jb_X8_note_28 {X : jj_X} {E : ev_E} {n0 hN : Nat} (hc : Cx X E cX8_note 4 n0 hN RX8) (hm : eM E = 1) (hr : (xT X).sig.returnType = none) (hh : 2 ≤ hN) {Q : st_S → Prop} {l1 : Int} {v0 : Int} (cl1 : wr l1 = l1) (cv0 : wr v0 = v0) {σ : st_S} (h : B_X8_note_28 Q l1 v0 σ) : J X E 4 n0 0 0 (MQ (xB X) (qV E (n0 + 0) Q) (xA X) (xS X) 0 0 (eF E)) σ 28 [(0, vR E 56), (1, vI l1)] [vI v0] := by
  have hh1 : 1 ≤ hN := by omega
  replace h : (gI σ 56 14 = 0 → (l1 ≤ gI σ 56 13 → B_X8_note_86 Q σ) ∧ (¬ l1 ≤ gI σ 56 13 → B_X8_note_55 Q l1 v0 σ)) ∧ (¬ gI σ 56 14 = 0 → (gI σ 56 13 ≤ v0 → B_X8_note_86 Q σ) ∧ (¬ gI σ 56 13 ≤ v0 → B_X8_note_55 Q l1 v0 σ)) := h
  refine j_istore_n (lv' := [(3, vI v0), (0, vR E 56), (1, vI l1)]) hc dX8_note_28 rfl (by decide) rfl ?_
  refine j_aload_nR hc 1 dX8_note_29 rfl rfl ?_
  refine j_getI hc fl_RX8_61 (Or.inr rfl) (fun hv => Or.inl (sv_k hv hm rfl)) dX8_note_30 (fun cn19 => ?_)
  refine j_if_eq hc cn19 (tgt := 47) dX8_note_33 (by decide) (fun q24 => ?_) (fun q24 => ?_)
  · replace h := h.1 q24
    refine j_iload_n hc 2 dX8_note_47 rfl rfl ?_
    refine j_aload_nR hc 1 dX8_note_48 rfl rfl ?_
    refine j_getI hc fl_RX8_55 (Or.inl rfl) (fun hv => Or.inl (sv_k hv hm rfl)) dX8_note_49 (fun cn20 => ?_)
    refine j_ic_le hc cl1 cn20 (tgt := 86) dX8_note_52 (by decide) (fun q21 => ?_) (fun q21 => ?_)
    · replace h := h.1 q21
      refine j_sub (lv' := []) [] rfl ?_
      exact jb_X8_note_86 hc hm hr hh h
    · replace h := h.2 q21
      refine j_sub (lv' := [(0, vR E 56), (1, vI l1), (3, vI v0)]) [1, 2, 0] rfl ?_
      exact jb_X8_note_55 hc hm hr hh cl1 cv0 h
  · replace h := h.2 q24
    refine j_iload_n hc 0 dX8_note_36 rfl rfl ?_
    refine j_aload_nR hc 1 dX8_note_37 rfl rfl ?_
    refine j_getI hc fl_RX8_55 (Or.inl rfl) (fun hv => Or.inl (sv_k hv hm rfl)) dX8_note_38 (fun cn22 => ?_)
    refine j_ic_ge hc cv0 cn22 (tgt := 86) dX8_note_41 (by decide) (fun q23 => ?_) (fun q23 => ?_)
    · replace h := h.1 q23
      refine j_sub (lv' := []) [] rfl ?_
      exact jb_X8_note_86 hc hm hr hh h
    · replace h := h.2 q23
      refine j_goto (tgt := 55) hc dX8_note_44 (by decide) ?_
      refine j_sub (lv' := [(0, vR E 56), (1, vI l1), (3, vI v0)]) [1, 2, 0] rfl ?_
      exact jb_X8_note_55 hc hm hr hh cl1 cv0 h
set_option maxRecDepth 20000 in
theorem jb_X8_note_26 {X : jj_X} {E : ev_E} {n0 hN : Nat} (hc : Cx X E cX8_note 4 n0 hN RX8) (hm : eM E = 1) (hr : (xT X).sig.returnType = none) (hh : 2 ≤ hN) {Q : st_S → Prop} {l1 : Int} (cl1 : wr l1 = l1) {σ : st_S} (h : B_X8_note_26 Q l1 σ) : J X E 4 n0 0 0 (MQ (xB X) (qV E (n0 + 0) Q) (xA X) (xS X) 0 0 (eF E)) σ 26 [(0, vR E 56), (1, vI l1)] [] := by
  have hh1 : 1 ≤ hN := by omega
  replace h : B_X8_note_28 Q l1 1000000 σ := h
  refine j_ldc (x := 1000000) hc (by decide) kc_RX8_68 dX8_note_26 ?_
  refine j_sub (lv' := [(0, vR E 56), (1, vI l1)]) [0, 1] rfl ?_
  exact jb_X8_note_28 hc hm hr hh cl1 (wlit 1000000 (by decide)) h
set_option maxRecDepth 20000 in
theorem c_X8_note {l : Launch} {E : ev_E} (hE : Eok E) (hm : eM E = 1) {a1 : Int} {a2 : Int} (ca1 : wr a1 = a1) (ca2 : wr a2 = a2) {σ : st_S} {Q : st_S → Prop} (h : wp_X8_note a1 a2 σ Q) : cM l yX8_note cX8_note 4 none E 2 0 0 [vR E 56, vI a1, vI a2] σ (qV E (gN σ + 0) Q) := by
  refine cM_of (lv := [(0, vR E 56), (1, vI a1), (2, vI a2)]) (by decide) hE (Nat.le_of_ble_eq_true rfl) (rfl) ?_
  intro X hX hc _ _ hr _ _
  subst hX
  have hh : 2 ≤ 2 := Nat.le_refl _
  have hh1 : 1 ≤ 2 := by omega
  replace h : (gI σ 56 14 = 0 → B_X8_note_26 Q a1 σ) ∧ (¬ gI σ 56 14 = 0 → (¬ a1 = gI σ 56 12 → B_X8_note_26 Q a1 σ) ∧ (a1 = gI σ 56 12 → wp_X5_priceOf a2 σ (fun r27 s28 => B_X8_note_28 Q a1 r27 s28))) := h
  refine j_aload_nR hc 0 dX8_note_0 rfl rfl ?_
  refine j_getI hc fl_RX8_61 (Or.inr rfl) (fun hv => Or.inl (sv_k hv hm rfl)) dX8_note_1 (fun cn25 => ?_)
  refine j_if_eq hc cn25 (tgt := 26) dX8_note_4 (by decide) (fun q30 => ?_) (fun q30 => ?_)
  · replace h := h.1 q30
    refine j_sub (lv' := [(0, vR E 56), (1, vI a1)]) [0, 1] rfl ?_
    exact jb_X8_note_26 hc hm hr hh ca1 h
  · replace h := h.2 q30
    refine j_iload_n hc 1 dX8_note_7 rfl rfl ?_
    refine j_aload_nR hc 0 dX8_note_8 rfl rfl ?_
    refine j_getI hc fl_RX8_132 (Or.inl rfl) (fun hv => Or.inl (sv_k hv hm rfl)) dX8_note_9 (fun cn26 => ?_)
    refine j_ic_ne hc ca1 cn26 (tgt := 26) dX8_note_12 (by decide) (fun q29 => ?_) (fun q29 => ?_)
    · replace h := h.1 q29
      refine j_sub (lv' := [(0, vR E 56), (1, vI a1)]) [0, 1] rfl ?_
      exact jb_X8_note_26 hc hm hr hh ca1 h
    · replace h := h.2 q29
      refine j_aload_nR hc 0 dX8_note_15 rfl rfl ?_
      refine j_getR (c' := 42) hc fl_RX8_37 rfl rfl (fun hv => (sv_k hv hm rfl)) dX8_note_16 ?_
      refine j_iload_n hc 2 dX8_note_19 rfl rfl ?_
      refine j_vI hc (k := 5) (by decide) (fun hv => Or.inl (sv_k hv hm rfl)) ml_RX8_147 mv_X5_priceOf (As := [vI a2]) (c_X5_priceOf (cx_E hc) hm ca2 h) rfl (by omega) (by decide) ⟨Nat.zero_le _, Nat.zero_le _⟩ (Nat.le_of_ble_eq_true rfl) rfl dX8_note_20 (fun r27 s28 cr27 h => ?_)
      refine j_goto (tgt := 28) hc dX8_note_23 (by decide) ?_
      refine j_sub (lv' := [(0, vR E 56), (1, vI a1)]) [0, 1] rfl ?_
      exact jb_X8_note_28 hc hm hr hh ca1 cr27 h
-- LitStrangers$Search.climb(IIII)V
theorem dX8_climb_0 : decode cX8_climb 0 = .ok (.aload_n 0, 1) := by decide +kernel
theorem dX8_climb_1 : decode cX8_climb 1 = .ok (.iload_n 1, 1) := by decide +kernel
theorem dX8_climb_2 : decode cX8_climb 2 = .ok (.iload_n 2, 1) := by decide +kernel
theorem dX8_climb_3 : decode cX8_climb 3 = .ok (.invokevirtual 135, 3) := by decide +kernel
theorem dX8_climb_6 : decode cX8_climb 6 = .ok (.iload_n 1, 1) := by decide +kernel
theorem dX8_climb_7 : decode cX8_climb 7 = .ok (.bipush 10, 2) := by decide +kernel
theorem dX8_climb_9 : decode cX8_climb 9 = .ok (.if_icmp .ge 13, 3) := by decide +kernel
theorem dX8_climb_12 : decode cX8_climb 12 = .ok (.aload_n 0, 1) := by decide +kernel
theorem dX8_climb_13 : decode cX8_climb 13 = .ok (.iload_n 1, 1) := by decide +kernel
theorem dX8_climb_14 : decode cX8_climb 14 = .ok (.iload_n 2, 1) := by decide +kernel
theorem dX8_climb_15 : decode cX8_climb 15 = .ok (.iload_n 3, 1) := by decide +kernel
theorem dX8_climb_16 : decode cX8_climb 16 = .ok (.invokevirtual 138, 3) := by decide +kernel
theorem dX8_climb_19 : decode cX8_climb 19 = .ok (.ifCond .eq 4, 3) := by decide +kernel
theorem dX8_climb_22 : decode cX8_climb 22 = .ok (.return_, 1) := by decide +kernel
theorem dX8_climb_23 : decode cX8_climb 23 = .ok (.aload_n 0, 1) := by decide +kernel
theorem dX8_climb_24 : decode cX8_climb 24 = .ok (.getfield 37, 3) := by decide +kernel
theorem dX8_climb_27 : decode cX8_climb 27 = .ok (.iload_n 1, 1) := by decide +kernel
theorem dX8_climb_28 : decode cX8_climb 28 = .ok (.aload_n 0, 1) := by decide +kernel
theorem dX8_climb_29 : decode cX8_climb 29 = .ok (.getfield 123, 3) := by decide +kernel
theorem dX8_climb_32 : decode cX8_climb 32 = .ok (.iload_n 2, 1) := by decide +kernel
theorem dX8_climb_33 : decode cX8_climb 33 = .ok (.iconst (-1), 1) := by decide +kernel
theorem dX8_climb_34 : decode cX8_climb 34 = .ok (.ixor, 1) := by decide +kernel
theorem dX8_climb_35 : decode cX8_climb 35 = .ok (.iand, 1) := by decide +kernel
theorem dX8_climb_36 : decode cX8_climb 36 = .ok (.iload_n 3, 1) := by decide +kernel
theorem dX8_climb_37 : decode cX8_climb 37 = .ok (.invokevirtual 116, 3) := by decide +kernel
theorem dX8_climb_40 : decode cX8_climb 40 = .ok (.istore 5, 2) := by decide +kernel
theorem dX8_climb_42 : decode cX8_climb 42 = .ok (.iconst 0, 1) := by decide +kernel
theorem dX8_climb_43 : decode cX8_climb 43 = .ok (.istore 6, 2) := by decide +kernel
theorem dX8_climb_45 : decode cX8_climb 45 = .ok (.iload 6, 2) := by decide +kernel
theorem dX8_climb_47 : decode cX8_climb 47 = .ok (.iload 5, 2) := by decide +kernel
theorem dX8_climb_49 : decode cX8_climb 49 = .ok (.if_icmp .ge 103, 3) := by decide +kernel
theorem dX8_climb_52 : decode cX8_climb 52 = .ok (.aload_n 0, 1) := by decide +kernel
theorem dX8_climb_53 : decode cX8_climb 53 = .ok (.getfield 37, 3) := by decide +kernel
theorem dX8_climb_56 : decode cX8_climb 56 = .ok (.iload_n 1, 1) := by decide +kernel
theorem dX8_climb_57 : decode cX8_climb 57 = .ok (.iload 6, 2) := by decide +kernel
theorem dX8_climb_59 : decode cX8_climb 59 = .ok (.invokevirtual 119, 3) := by decide +kernel
theorem dX8_climb_62 : decode cX8_climb 62 = .ok (.istore 7, 2) := by decide +kernel
theorem dX8_climb_64 : decode cX8_climb 64 = .ok (.aload_n 0, 1) := by decide +kernel
theorem dX8_climb_65 : decode cX8_climb 65 = .ok (.getfield 69, 3) := by decide +kernel
theorem dX8_climb_68 : decode cX8_climb 68 = .ok (.ifCond .eq 15, 3) := by decide +kernel
theorem dX8_climb_71 : decode cX8_climb 71 = .ok (.aload_n 0, 1) := by decide +kernel
theorem dX8_climb_72 : decode cX8_climb 72 = .ok (.getfield 37, 3) := by decide +kernel
theorem dX8_climb_75 : decode cX8_climb 75 = .ok (.iload 7, 2) := by decide +kernel
theorem dX8_climb_77 : decode cX8_climb 77 = .ok (.invokevirtual 141, 3) := by decide +kernel
theorem dX8_climb_80 : decode cX8_climb 80 = .ok (.goto 4, 3) := by decide +kernel
theorem dX8_climb_83 : decode cX8_climb 83 = .ok (.iconst 0, 1) := by decide +kernel
theorem dX8_climb_84 : decode cX8_climb 84 = .ok (.istore 8, 2) := by decide +kernel
theorem dX8_climb_86 : decode cX8_climb 86 = .ok (.iload 8, 2) := by decide +kernel
theorem dX8_climb_88 : decode cX8_climb 88 = .ok (.iload 4, 2) := by decide +kernel
theorem dX8_climb_90 : decode cX8_climb 90 = .ok (.iand, 1) := by decide +kernel
theorem dX8_climb_91 : decode cX8_climb 91 = .ok (.ifCond .ne 55, 3) := by decide +kernel
theorem dX8_climb_94 : decode cX8_climb 94 = .ok (.aload_n 0, 1) := by decide +kernel
theorem dX8_climb_95 : decode cX8_climb 95 = .ok (.iload_n 1, 1) := by decide +kernel
theorem dX8_climb_96 : decode cX8_climb 96 = .ok (.iload_n 2, 1) := by decide +kernel
theorem dX8_climb_97 : decode cX8_climb 97 = .ok (.iload 7, 2) := by decide +kernel
theorem dX8_climb_99 : decode cX8_climb 99 = .ok (.ior, 1) := by decide +kernel
theorem dX8_climb_100 : decode cX8_climb 100 = .ok (.iload 8, 2) := by decide +kernel
theorem dX8_climb_102 : decode cX8_climb 102 = .ok (.invokevirtual 144, 3) := by decide +kernel
theorem dX8_climb_105 : decode cX8_climb 105 = .ok (.ifCond .eq 6, 3) := by decide +kernel
theorem dX8_climb_108 : decode cX8_climb 108 = .ok (.goto 38, 3) := by decide +kernel
theorem dX8_climb_111 : decode cX8_climb 111 = .ok (.aload_n 0, 1) := by decide +kernel
theorem dX8_climb_112 : decode cX8_climb 112 = .ok (.getfield 21, 3) := by decide +kernel
theorem dX8_climb_115 : decode cX8_climb 115 = .ok (.iload_n 1, 1) := by decide +kernel
theorem dX8_climb_116 : decode cX8_climb 116 = .ok (.iload 7, 2) := by decide +kernel
theorem dX8_climb_118 : decode cX8_climb 118 = .ok (.iastore, 1) := by decide +kernel
theorem dX8_climb_119 : decode cX8_climb 119 = .ok (.aload_n 0, 1) := by decide +kernel
theorem dX8_climb_120 : decode cX8_climb 120 = .ok (.iload_n 1, 1) := by decide +kernel
theorem dX8_climb_121 : decode cX8_climb 121 = .ok (.iconst 1, 1) := by decide +kernel
theorem dX8_climb_122 : decode cX8_climb 122 = .ok (.iadd, 1) := by decide +kernel
theorem dX8_climb_123 : decode cX8_climb 123 = .ok (.iload_n 2, 1) := by decide +kernel
theorem dX8_climb_124 : decode cX8_climb 124 = .ok (.iload 7, 2) := by decide +kernel
theorem dX8_climb_126 : decode cX8_climb 126 = .ok (.ior, 1) := by decide +kernel
theorem dX8_climb_127 : decode cX8_climb 127 = .ok (.aload_n 0, 1) := by decide +kernel
theorem dX8_climb_128 : decode cX8_climb 128 = .ok (.getfield 37, 3) := by decide +kernel
theorem dX8_climb_131 : decode cX8_climb 131 = .ok (.iload_n 3, 1) := by decide +kernel
theorem dX8_climb_132 : decode cX8_climb 132 = .ok (.iload 7, 2) := by decide +kernel
theorem dX8_climb_134 : decode cX8_climb 134 = .ok (.aload_n 0, 1) := by decide +kernel
theorem dX8_climb_135 : decode cX8_climb 135 = .ok (.getfield 124, 3) := by decide +kernel
theorem dX8_climb_138 : decode cX8_climb 138 = .ok (.invokevirtual 112, 3) := by decide +kernel
theorem dX8_climb_141 : decode cX8_climb 141 = .ok (.iload 8, 2) := by decide +kernel
theorem dX8_climb_143 : decode cX8_climb 143 = .ok (.invokevirtual 51, 3) := by decide +kernel
theorem dX8_climb_146 : decode cX8_climb 146 = .ok (.iinc 6 1, 3) := by decide +kernel
theorem dX8_climb_149 : decode cX8_climb 149 = .ok (.goto (-104), 3) := by decide +kernel
theorem dX8_climb_152 : decode cX8_climb 152 = .ok (.return_, 1) := by decide +kernel
def B_X8_climb_22 (Q : st_S → Prop) (rc_X8_climb : Int → Int → Int → Int → st_S → (st_S → Prop) → Prop)   (σ : st_S) : Prop := Q σ
def B_X8_climb_146 (Q : st_S → Prop) (rc_X8_climb : Int → Int → Int → Int → st_S → (st_S → Prop) → Prop) (k45 : Int → Int → Int → Int → Int → Int → st_S → Prop) (l1 : Int) (l2 : Int) (l3 : Int) (l4 : Int) (l5 : Int) (l6 : Int) (σ : st_S) : Prop := ∀ x28 : Int, x28 = wr (l6 + 1) → k45 l1 l2 l3 l4 l5 x28 σ
def B_X8_climb_84 (Q : st_S → Prop) (rc_X8_climb : Int → Int → Int → Int → st_S → (st_S → Prop) → Prop) (k45 : Int → Int → Int → Int → Int → Int → st_S → Prop) (l1 : Int) (l2 : Int) (l3 : Int) (l4 : Int) (l5 : Int) (l6 : Int) (l7 : Int) (v0 : Int) (σ : st_S) : Prop := (¬ o_and v0 l4 = 0 → B_X8_climb_146 Q rc_X8_climb k45 l1 l2 l3 l4 l5 l6 σ) ∧ (o_and v0 l4 = 0 → wp_X8_isSeen l1 (o_or l2 l7) v0 σ (fun r29 s30 => (r29 = 0 → ix l1 10 ∧ ∀ s32 : st_S, s32 = sI s30 60 (Int.toNat l1) l7 → wp_X5_spoiled l3 l7 (gI s32 56 11) s32 (fun r34 s35 => rc_X8_climb (wr (l1 + 1)) (o_or l2 l7) r34 v0 s35 (fun s37 => B_X8_climb_146 Q rc_X8_climb k45 l1 l2 l3 l4 l5 l6 s37))) ∧ (¬ r29 = 0 → B_X8_climb_146 Q rc_X8_climb k45 l1 l2 l3 l4 l5 l6 s30)))
def L_X8_climb_45 (Q : st_S → Prop) (rc_X8_climb : Int → Int → Int → Int → st_S → (st_S → Prop) → Prop)  : Nat → Int → Int → Int → Int → Int → Int → st_S → Prop
  | 0 => fun _ _ _ _ _ _ _ => False
  | n + 1 => fun l1 l2 l3 l4 l5 l6 σ => (l5 ≤ l6 → Q σ) ∧ (¬ l5 ≤ l6 → wp_X5_crewAt l1 l6 σ (fun r40 s41 => (gI s41 56 16 = 0 → B_X8_climb_84 Q rc_X8_climb (L_X8_climb_45 Q rc_X8_climb n) l1 l2 l3 l4 l5 l6 r40 0 s41) ∧ (¬ gI s41 56 16 = 0 → wp_X5_landsOf r40 s41 (fun r43 s44 => B_X8_climb_84 Q rc_X8_climb (L_X8_climb_45 Q rc_X8_climb n) l1 l2 l3 l4 l5 l6 r40 r43 s44))))
def e_X8_climb (rc_X8_climb : Int → Int → Int → Int → st_S → (st_S → Prop) → Prop) (a1 : Int) (a2 : Int) (a3 : Int) (a4 : Int) (σ : st_S) (Q : st_S → Prop) : Prop := wp_X8_note a1 a2 σ (fun s48 => (10 ≤ a1 → B_X8_climb_22 Q rc_X8_climb s48) ∧ (¬ 10 ≤ a1 → wp_X8_isVain a1 a2 a3 s48 (fun r49 s50 => (r49 = 0 → wp_X5_list a1 (o_and (gI s50 56 10) (o_xor a2 (-1))) a3 s50 (fun r52 s53 => ∃ m45 : Nat, L_X8_climb_45 Q rc_X8_climb m45 a1 a2 a3 a4 r52 0 s53)) ∧ (¬ r49 = 0 → B_X8_climb_22 Q rc_X8_climb s50))))
def G_X8_climb : Nat → (Int → Int → Int → Int → st_S → (st_S → Prop) → Prop)
  | 0 => fun _ _ _ _ _ _ => False
  | d + 1 => e_X8_climb ((G_X8_climb d))
def wp_X8_climb (d : Nat) : Int → Int → Int → Int → st_S → (st_S → Prop) → Prop := (G_X8_climb d)
set_option maxRecDepth 20000 in
theorem jb_X8_climb_22 {X : jj_X} {E : ev_E} {n0 hN : Nat} (hc : Cx X E cX8_climb 9 n0 hN RX8) (hm : eM E = 1) (hr : (xT X).sig.returnType = none) {d : Nat} (hh : 10 + (d + 1) ≤ hN) {Q : st_S → Prop} {rc_X8_climb : Int → Int → Int → Int → st_S → (st_S → Prop) → Prop} (hr_X8_climb : ∀ {l : Launch} {E : ev_E} (hE : Eok E) (hm : eM E = 1) {a1 : Int} {a2 : Int} {a3 : Int} {a4 : Int} (ca1 : wr a1 = a1) (ca2 : wr a2 = a2) (ca3 : wr a3 = a3) (ca4 : wr a4 = a4) {σ : st_S} {Q : st_S → Prop}, rc_X8_climb a1 a2 a3 a4 σ Q → cM l yX8_climb cX8_climb 9 none E (10 + d) 0 0 [vR E 56, vI a1, vI a2, vI a3, vI a4] σ (qV E (gN σ + 0) Q)) {σ : st_S} (h : B_X8_climb_22 Q rc_X8_climb σ) : J X E 9 n0 0 0 (MQ (xB X) (qV E (n0 + 0) Q) (xA X) (xS X) 0 0 (eF E)) σ 22 [] [] := by
  have hh1 : 1 ≤ hN := by omega
  replace h : Q σ := h
  exact j_vret hc hr h dX8_climb_22
set_option maxRecDepth 20000 in
theorem jb_X8_climb_146 {X : jj_X} {E : ev_E} {n0 hN : Nat} (hc : Cx X E cX8_climb 9 n0 hN RX8) (hm : eM E = 1) (hr : (xT X).sig.returnType = none) {d : Nat} (hh : 10 + (d + 1) ≤ hN) {Q : st_S → Prop} {rc_X8_climb : Int → Int → Int → Int → st_S → (st_S → Prop) → Prop} (hr_X8_climb : ∀ {l : Launch} {E : ev_E} (hE : Eok E) (hm : eM E = 1) {a1 : Int} {a2 : Int} {a3 : Int} {a4 : Int} (ca1 : wr a1 = a1) (ca2 : wr a2 = a2) (ca3 : wr a3 = a3) (ca4 : wr a4 = a4) {σ : st_S} {Q : st_S → Prop}, rc_X8_climb a1 a2 a3 a4 σ Q → cM l yX8_climb cX8_climb 9 none E (10 + d) 0 0 [vR E 56, vI a1, vI a2, vI a3, vI a4] σ (qV E (gN σ + 0) Q)) {k45 : Int → Int → Int → Int → Int → Int → st_S → Prop} (hk45 : ∀ {l1 : Int} {l2 : Int} {l3 : Int} {l4 : Int} {l5 : Int} {l6 : Int} (cl1 : wr l1 = l1) (cl2 : wr l2 = l2) (cl3 : wr l3 = l3) (cl4 : wr l4 = l4) (cl5 : wr l5 = l5) (cl6 : wr l6 = l6) {σ : st_S}, k45 l1 l2 l3 l4 l5 l6 σ → J X E 9 n0 0 0 (MQ (xB X) (qV E (n0 + 0) Q) (xA X) (xS X) 0 0 (eF E)) σ 45 [(0, vR E 56), (1, vI l1), (2, vI l2), (3, vI l3), (4, vI l4), (5, vI l5), (6, vI l6)] []) {l1 : Int} {l2 : Int} {l3 : Int} {l4 : Int} {l5 : Int} {l6 : Int} (cl1 : wr l1 = l1) (cl2 : wr l2 = l2) (cl3 : wr l3 = l3) (cl4 : wr l4 = l4) (cl5 : wr l5 = l5) (cl6 : wr l6 = l6) {σ : st_S} (h : B_X8_climb_146 Q rc_X8_climb k45 l1 l2 l3 l4 l5 l6 σ) : J X E 9 n0 0 0 (MQ (xB X) (qV E (n0 + 0) Q) (xA X) (xS X) 0 0 (eF E)) σ 146 [(0, vR E 56), (1, vI l1), (2, vI l2), (3, vI l3), (4, vI l4), (5, vI l5), (6, vI l6)] [] := by
  have hh1 : 1 ≤ hN := by omega
  replace h : ∀ x28 : Int, x28 = wr (l6 + 1) → k45 l1 l2 l3 l4 l5 x28 σ := h
  obtain ⟨x28, ex28⟩ : ∃ y : Int, y = wr (l6 + 1) := ⟨_, rfl⟩
  have cx28 : wr x28 = x28 := by rw [ex28]; exact wr_wr _
  replace h := h x28 ex28
  refine j_iinc (lv' := [(6, vI x28), (0, vR E 56), (1, vI l1), (2, vI l2), (3, vI l3), (4, vI l4), (5, vI l5)]) hc 6 dX8_climb_146 rfl (by decide) ex28 rfl ?_
  refine j_goto (tgt := 45) hc dX8_climb_149 (by decide) ?_
  refine j_sub (lv' := [(0, vR E 56), (1, vI l1), (2, vI l2), (3, vI l3), (4, vI l4), (5, vI l5), (6, vI x28)]) [1, 2, 3, 4, 5, 6, 0] rfl ?_
  exact hk45 cl1 cl2 cl3 cl4 cl5 cx28 h
set_option maxRecDepth 20000 in
theorem jb_X8_climb_84 {X : jj_X} {E : ev_E} {n0 hN : Nat} (hc : Cx X E cX8_climb 9 n0 hN RX8) (hm : eM E = 1) (hr : (xT X).sig.returnType = none) {d : Nat} (hh : 10 + (d + 1) ≤ hN) {Q : st_S → Prop} {rc_X8_climb : Int → Int → Int → Int → st_S → (st_S → Prop) → Prop} (hr_X8_climb : ∀ {l : Launch} {E : ev_E} (hE : Eok E) (hm : eM E = 1) {a1 : Int} {a2 : Int} {a3 : Int} {a4 : Int} (ca1 : wr a1 = a1) (ca2 : wr a2 = a2) (ca3 : wr a3 = a3) (ca4 : wr a4 = a4) {σ : st_S} {Q : st_S → Prop}, rc_X8_climb a1 a2 a3 a4 σ Q → cM l yX8_climb cX8_climb 9 none E (10 + d) 0 0 [vR E 56, vI a1, vI a2, vI a3, vI a4] σ (qV E (gN σ + 0) Q)) {k45 : Int → Int → Int → Int → Int → Int → st_S → Prop} (hk45 : ∀ {l1 : Int} {l2 : Int} {l3 : Int} {l4 : Int} {l5 : Int} {l6 : Int} (cl1 : wr l1 = l1) (cl2 : wr l2 = l2) (cl3 : wr l3 = l3) (cl4 : wr l4 = l4) (cl5 : wr l5 = l5) (cl6 : wr l6 = l6) {σ : st_S}, k45 l1 l2 l3 l4 l5 l6 σ → J X E 9 n0 0 0 (MQ (xB X) (qV E (n0 + 0) Q) (xA X) (xS X) 0 0 (eF E)) σ 45 [(0, vR E 56), (1, vI l1), (2, vI l2), (3, vI l3), (4, vI l4), (5, vI l5), (6, vI l6)] []) {l1 : Int} {l2 : Int} {l3 : Int} {l4 : Int} {l5 : Int} {l6 : Int} {l7 : Int} {v0 : Int} (cl1 : wr l1 = l1) (cl2 : wr l2 = l2) (cl3 : wr l3 = l3) (cl4 : wr l4 = l4) (cl5 : wr l5 = l5) (cl6 : wr l6 = l6) (cl7 : wr l7 = l7) (cv0 : wr v0 = v0) {σ : st_S} (h : B_X8_climb_84 Q rc_X8_climb k45 l1 l2 l3 l4 l5 l6 l7 v0 σ) : J X E 9 n0 0 0 (MQ (xB X) (qV E (n0 + 0) Q) (xA X) (xS X) 0 0 (eF E)) σ 84 [(0, vR E 56), (1, vI l1), (2, vI l2), (3, vI l3), (4, vI l4), (5, vI l5), (6, vI l6), (7, vI l7)] [vI v0] := by
  have hh1 : 1 ≤ hN := by omega
  replace h : (¬ o_and v0 l4 = 0 → B_X8_climb_146 Q rc_X8_climb k45 l1 l2 l3 l4 l5 l6 σ) ∧ (o_and v0 l4 = 0 → wp_X8_isSeen l1 (o_or l2 l7) v0 σ (fun r29 s30 => (r29 = 0 → ix l1 10 ∧ ∀ s32 : st_S, s32 = sI s30 60 (Int.toNat l1) l7 → wp_X5_spoiled l3 l7 (gI s32 56 11) s32 (fun r34 s35 => rc_X8_climb (wr (l1 + 1)) (o_or l2 l7) r34 v0 s35 (fun s37 => B_X8_climb_146 Q rc_X8_climb k45 l1 l2 l3 l4 l5 l6 s37))) ∧ (¬ r29 = 0 → B_X8_climb_146 Q rc_X8_climb k45 l1 l2 l3 l4 l5 l6 s30))) := h
  refine j_istore (lv' := [(8, vI v0), (0, vR E 56), (1, vI l1), (2, vI l2), (3, vI l3), (4, vI l4), (5, vI l5), (6, vI l6), (7, vI l7)]) hc dX8_climb_84 (by decide) rfl ?_
  refine j_iload hc 0 dX8_climb_86 rfl ?_
  refine j_iload hc 5 dX8_climb_88 rfl ?_
  refine j_iand hc dX8_climb_90 ?_
  refine j_if_ne hc (cn_and _ _) (tgt := 146) dX8_climb_91 (by decide) (fun q39 => ?_) (fun q39 => ?_)
  · replace h := h.1 q39
    refine j_sub (lv' := [(0, vR E 56), (1, vI l1), (2, vI l2), (3, vI l3), (4, vI l4), (5, vI l5), (6, vI l6)]) [1, 2, 3, 4, 5, 6, 7] rfl ?_
    exact jb_X8_climb_146 hc hm hr hh hr_X8_climb hk45 cl1 cl2 cl3 cl4 cl5 cl6 h
  · replace h := h.2 q39
    refine j_aload_nR hc 1 dX8_climb_94 rfl rfl ?_
    refine j_iload_n hc 2 dX8_climb_95 rfl rfl ?_
    refine j_iload_n hc 3 dX8_climb_96 rfl rfl ?_
    refine j_iload hc 8 dX8_climb_97 rfl ?_
    refine j_ior hc dX8_climb_99 ?_
    refine j_iload hc 0 dX8_climb_100 rfl ?_
    refine j_vI hc (k := 8) (by decide) (fun hv => Or.inl (sv_k hv hm rfl)) ml_RX8_144 mv_X8_isSeen (As := [vI l1, vI (o_or l2 l7), vI v0]) (c_X8_isSeen (cx_E hc) hm cl1 (cn_or _ _) cv0 h) rfl (by omega) (by decide) ⟨Nat.zero_le _, Nat.zero_le _⟩ (Nat.le_of_ble_eq_true rfl) rfl dX8_climb_102 (fun r29 s30 cr29 h => ?_)
    refine j_if_eq hc cr29 (tgt := 111) dX8_climb_105 (by decide) (fun q38 => ?_) (fun q38 => ?_)
    · replace h := h.1 q38
      refine j_aload_nR hc 1 dX8_climb_111 rfl rfl ?_
      refine j_getR (c' := 60) hc fl_RX8_21 rfl rfl (fun hv => (sv_k hv hm rfl)) dX8_climb_112 ?_
      refine j_iload_n hc 2 dX8_climb_115 rfl rfl ?_
      refine j_iload hc 8 dX8_climb_116 rfl ?_
      obtain ⟨b31, h⟩ := h
      refine j_iast (jn := (Int.toNat l1)) hc (fun hv => sv_kl hv hm rfl) cl1 b31 rfl cl7 dX8_climb_118 (fun s32 es32 => ?_)
      replace h := h s32 es32
      refine j_aload_nR hc 1 dX8_climb_119 rfl rfl ?_
      refine j_iload_n hc 2 dX8_climb_120 rfl rfl ?_
      refine j_iconst hc dX8_climb_121 ?_
      refine j_iadd hc dX8_climb_122 ?_
      refine j_iload_n hc 3 dX8_climb_123 rfl rfl ?_
      refine j_iload hc 8 dX8_climb_124 rfl ?_
      refine j_ior hc dX8_climb_126 ?_
      refine j_aload_nR hc 1 dX8_climb_127 rfl rfl ?_
      refine j_getR (c' := 42) hc fl_RX8_37 rfl rfl (fun hv => (sv_k hv hm rfl)) dX8_climb_128 ?_
      refine j_iload_n hc 4 dX8_climb_131 rfl rfl ?_
      refine j_iload hc 8 dX8_climb_132 rfl ?_
      refine j_aload_nR hc 1 dX8_climb_134 rfl rfl ?_
      refine j_getI hc fl_RX8_124 (Or.inl rfl) (fun hv => Or.inl (sv_k hv hm rfl)) dX8_climb_135 (fun cn33 => ?_)
      refine j_vI hc (k := 5) (by decide) (fun hv => Or.inl (sv_k hv hm rfl)) ml_RX8_112 mv_X5_spoiled (As := [vI l3, vI l7, vI (gI s32 56 11)]) (c_X5_spoiled (cx_E hc) hm cl3 cl7 cn33 h) rfl (by omega) (by decide) ⟨Nat.zero_le _, Nat.zero_le _⟩ (Nat.le_of_ble_eq_true rfl) rfl dX8_climb_138 (fun r34 s35 cr34 h => ?_)
      refine j_iload hc 0 dX8_climb_141 rfl ?_
      refine j_vV hc (k := 8) (by decide) (fun hv => Or.inl (sv_k hv hm rfl)) ml_RX8_51 mv_X8_climb (As := [vI (wr (l1 + 1)), vI (o_or l2 l7), vI r34, vI v0]) (hr_X8_climb (cx_E hc) hm (wr_wr _) (cn_or _ _) cr34 cv0 h) rfl (by omega) (by decide) ⟨Nat.zero_le _, Nat.zero_le _⟩ (Nat.le_of_ble_eq_true rfl) (by simp only [vI_wr, vL_wl]; rfl) dX8_climb_143 (fun s37 h => ?_)
      refine j_sub (lv' := [(0, vR E 56), (1, vI l1), (2, vI l2), (3, vI l3), (4, vI l4), (5, vI l5), (6, vI l6)]) [1, 2, 3, 4, 5, 6, 7] rfl ?_
      exact jb_X8_climb_146 hc hm hr hh hr_X8_climb hk45 cl1 cl2 cl3 cl4 cl5 cl6 h
    · replace h := h.2 q38
      refine j_goto (tgt := 146) hc dX8_climb_108 (by decide) ?_
      refine j_sub (lv' := [(0, vR E 56), (1, vI l1), (2, vI l2), (3, vI l3), (4, vI l4), (5, vI l5), (6, vI l6)]) [1, 2, 3, 4, 5, 6, 7] rfl ?_
      exact jb_X8_climb_146 hc hm hr hh hr_X8_climb hk45 cl1 cl2 cl3 cl4 cl5 cl6 h
set_option maxRecDepth 20000 in
theorem jl_X8_climb_45 {X : jj_X} {E : ev_E} {n0 hN : Nat} (hc : Cx X E cX8_climb 9 n0 hN RX8) (hm : eM E = 1) (hr : (xT X).sig.returnType = none) {d : Nat} (hh : 10 + (d + 1) ≤ hN) {Q : st_S → Prop} {rc_X8_climb : Int → Int → Int → Int → st_S → (st_S → Prop) → Prop} (hr_X8_climb : ∀ {l : Launch} {E : ev_E} (hE : Eok E) (hm : eM E = 1) {a1 : Int} {a2 : Int} {a3 : Int} {a4 : Int} (ca1 : wr a1 = a1) (ca2 : wr a2 = a2) (ca3 : wr a3 = a3) (ca4 : wr a4 = a4) {σ : st_S} {Q : st_S → Prop}, rc_X8_climb a1 a2 a3 a4 σ Q → cM l yX8_climb cX8_climb 9 none E (10 + d) 0 0 [vR E 56, vI a1, vI a2, vI a3, vI a4] σ (qV E (gN σ + 0) Q)) : ∀ (n : Nat) {l1 : Int} {l2 : Int} {l3 : Int} {l4 : Int} {l5 : Int} {l6 : Int} (cl1 : wr l1 = l1) (cl2 : wr l2 = l2) (cl3 : wr l3 = l3) (cl4 : wr l4 = l4) (cl5 : wr l5 = l5) (cl6 : wr l6 = l6) {σ : st_S}, L_X8_climb_45 Q rc_X8_climb n l1 l2 l3 l4 l5 l6 σ → J X E 9 n0 0 0 (MQ (xB X) (qV E (n0 + 0) Q) (xA X) (xS X) 0 0 (eF E)) σ 45 [(0, vR E 56), (1, vI l1), (2, vI l2), (3, vI l3), (4, vI l4), (5, vI l5), (6, vI l6)] [] := by
  have hh1 : 1 ≤ hN := by omega
  intro n
  induction n with
  | zero => intro l1 l2 l3 l4 l5 l6 cl1 cl2 cl3 cl4 cl5 cl6 σ h; exact h.elim
  | succ n ih =>
    intro l1 l2 l3 l4 l5 l6 cl1 cl2 cl3 cl4 cl5 cl6 σ h
    have hk45 : ∀ {l1 : Int} {l2 : Int} {l3 : Int} {l4 : Int} {l5 : Int} {l6 : Int} (cl1 : wr l1 = l1) (cl2 : wr l2 = l2) (cl3 : wr l3 = l3) (cl4 : wr l4 = l4) (cl5 : wr l5 = l5) (cl6 : wr l6 = l6) {σ : st_S}, L_X8_climb_45 Q rc_X8_climb n l1 l2 l3 l4 l5 l6 σ → J X E 9 n0 0 0 (MQ (xB X) (qV E (n0 + 0) Q) (xA X) (xS X) 0 0 (eF E)) σ 45 [(0, vR E 56), (1, vI l1), (2, vI l2), (3, vI l3), (4, vI l4), (5, vI l5), (6, vI l6)] [] := ih
    replace h : (l5 ≤ l6 → Q σ) ∧ (¬ l5 ≤ l6 → wp_X5_crewAt l1 l6 σ (fun r40 s41 => (gI s41 56 16 = 0 → B_X8_climb_84 Q rc_X8_climb (L_X8_climb_45 Q rc_X8_climb n) l1 l2 l3 l4 l5 l6 r40 0 s41) ∧ (¬ gI s41 56 16 = 0 → wp_X5_landsOf r40 s41 (fun r43 s44 => B_X8_climb_84 Q rc_X8_climb (L_X8_climb_45 Q rc_X8_climb n) l1 l2 l3 l4 l5 l6 r40 r43 s44)))) := h
    refine j_iload hc 6 dX8_climb_45 rfl ?_
    refine j_iload hc 5 dX8_climb_47 rfl ?_
    refine j_ic_ge hc cl6 cl5 (tgt := 152) dX8_climb_49 (by decide) (fun q46 => ?_) (fun q46 => ?_)
    · replace h := h.1 q46
      exact j_vret hc hr h dX8_climb_152
    · replace h := h.2 q46
      refine j_aload_nR hc 0 dX8_climb_52 rfl rfl ?_
      refine j_getR (c' := 42) hc fl_RX8_37 rfl rfl (fun hv => (sv_k hv hm rfl)) dX8_climb_53 ?_
      refine j_iload_n hc 1 dX8_climb_56 rfl rfl ?_
      refine j_iload hc 6 dX8_climb_57 rfl ?_
      refine j_vI hc (k := 5) (by decide) (fun hv => Or.inl (sv_k hv hm rfl)) ml_RX8_119 mv_X5_crewAt (As := [vI l1, vI l6]) (c_X5_crewAt (cx_E hc) hm cl1 cl6 h) rfl (by omega) (by decide) ⟨Nat.zero_le _, Nat.zero_le _⟩ (Nat.le_of_ble_eq_true rfl) rfl dX8_climb_59 (fun r40 s41 cr40 h => ?_)
      refine j_istore (lv' := [(7, vI r40), (0, vR E 56), (1, vI l1), (2, vI l2), (3, vI l3), (4, vI l4), (5, vI l5), (6, vI l6)]) hc dX8_climb_62 (by decide) rfl ?_
      refine j_aload_nR hc 1 dX8_climb_64 rfl rfl ?_
      refine j_getI hc fl_RX8_69 (Or.inr rfl) (fun hv => Or.inl (sv_k hv hm rfl)) dX8_climb_65 (fun cn42 => ?_)
      refine j_if_eq hc cn42 (tgt := 83) dX8_climb_68 (by decide) (fun q45 => ?_) (fun q45 => ?_)
      · replace h := h.1 q45
        refine j_iconst hc dX8_climb_83 ?_
        refine j_sub (lv' := [(0, vR E 56), (1, vI l1), (2, vI l2), (3, vI l3), (4, vI l4), (5, vI l5), (6, vI l6), (7, vI r40)]) [1, 2, 3, 4, 5, 6, 7, 0] rfl ?_
        exact jb_X8_climb_84 hc hm hr hh hr_X8_climb hk45 cl1 cl2 cl3 cl4 cl5 cl6 cr40 (wlit 0 (by decide)) h
      · replace h := h.2 q45
        refine j_aload_nR hc 1 dX8_climb_71 rfl rfl ?_
        refine j_getR (c' := 42) hc fl_RX8_37 rfl rfl (fun hv => (sv_k hv hm rfl)) dX8_climb_72 ?_
        refine j_iload hc 0 dX8_climb_75 rfl ?_
        refine j_vI hc (k := 5) (by decide) (fun hv => Or.inl (sv_k hv hm rfl)) ml_RX8_141 mv_X5_landsOf (As := [vI r40]) (c_X5_landsOf (cx_E hc) hm cr40 h) rfl (by omega) (by decide) ⟨Nat.zero_le _, Nat.zero_le _⟩ (Nat.le_of_ble_eq_true rfl) rfl dX8_climb_77 (fun r43 s44 cr43 h => ?_)
        refine j_goto (tgt := 84) hc dX8_climb_80 (by decide) ?_
        refine j_sub (lv' := [(0, vR E 56), (1, vI l1), (2, vI l2), (3, vI l3), (4, vI l4), (5, vI l5), (6, vI l6), (7, vI r40)]) [1, 2, 3, 4, 5, 6, 7, 0] rfl ?_
        exact jb_X8_climb_84 hc hm hr hh hr_X8_climb hk45 cl1 cl2 cl3 cl4 cl5 cl6 cr40 cr43 h
set_option maxRecDepth 20000 in
theorem ce_X8_climb {d : Nat} {rc_X8_climb : Int → Int → Int → Int → st_S → (st_S → Prop) → Prop} (hr_X8_climb : ∀ {l : Launch} {E : ev_E} (hE : Eok E) (hm : eM E = 1) {a1 : Int} {a2 : Int} {a3 : Int} {a4 : Int} (ca1 : wr a1 = a1) (ca2 : wr a2 = a2) (ca3 : wr a3 = a3) (ca4 : wr a4 = a4) {σ : st_S} {Q : st_S → Prop}, rc_X8_climb a1 a2 a3 a4 σ Q → cM l yX8_climb cX8_climb 9 none E (10 + d) 0 0 [vR E 56, vI a1, vI a2, vI a3, vI a4] σ (qV E (gN σ + 0) Q)) {l : Launch} {E : ev_E} (hE : Eok E) (hm : eM E = 1) {a1 : Int} {a2 : Int} {a3 : Int} {a4 : Int} (ca1 : wr a1 = a1) (ca2 : wr a2 = a2) (ca3 : wr a3 = a3) (ca4 : wr a4 = a4) {σ : st_S} {Q : st_S → Prop} (h : e_X8_climb rc_X8_climb a1 a2 a3 a4 σ Q) : cM l yX8_climb cX8_climb 9 none E (10 + (d + 1)) 0 0 [vR E 56, vI a1, vI a2, vI a3, vI a4] σ (qV E (gN σ + 0) Q) := by
  refine cM_of (lv := [(0, vR E 56), (1, vI a1), (2, vI a2), (3, vI a3), (4, vI a4)]) (by decide) hE (Nat.le_of_ble_eq_true rfl) (rfl) ?_
  intro X hX hc _ _ hr _ _
  subst hX
  have hh : 10 + (d + 1) ≤ 10 + (d + 1) := Nat.le_refl _
  have hh1 : 1 ≤ 10 + (d + 1) := by omega
  replace h : wp_X8_note a1 a2 σ (fun s48 => (10 ≤ a1 → B_X8_climb_22 Q rc_X8_climb s48) ∧ (¬ 10 ≤ a1 → wp_X8_isVain a1 a2 a3 s48 (fun r49 s50 => (r49 = 0 → wp_X5_list a1 (o_and (gI s50 56 10) (o_xor a2 (-1))) a3 s50 (fun r52 s53 => ∃ m45 : Nat, L_X8_climb_45 Q rc_X8_climb m45 a1 a2 a3 a4 r52 0 s53)) ∧ (¬ r49 = 0 → B_X8_climb_22 Q rc_X8_climb s50)))) := h
  refine j_aload_nR hc 0 dX8_climb_0 rfl rfl ?_
  refine j_iload_n hc 1 dX8_climb_1 rfl rfl ?_
  refine j_iload_n hc 2 dX8_climb_2 rfl rfl ?_
  refine j_vV hc (k := 8) (by decide) (fun hv => Or.inl (sv_k hv hm rfl)) ml_RX8_135 mv_X8_note (As := [vI a1, vI a2]) (c_X8_note (cx_E hc) hm ca1 ca2 h) rfl (by omega) (by decide) ⟨Nat.zero_le _, Nat.zero_le _⟩ (Nat.le_of_ble_eq_true rfl) rfl dX8_climb_3 (fun s48 h => ?_)
  refine j_iload_n hc 1 dX8_climb_6 rfl rfl ?_
  refine j_bipush hc dX8_climb_7 (by decide) ?_
  refine j_ic_ge hc ca1 (wlit 10 (by decide)) (tgt := 22) dX8_climb_9 (by decide) (fun q55 => ?_) (fun q55 => ?_)
  · replace h := h.1 q55
    refine j_sub (lv' := []) [] rfl ?_
    exact jb_X8_climb_22 hc hm hr hh hr_X8_climb h
  · replace h := h.2 q55
    refine j_aload_nR hc 0 dX8_climb_12 rfl rfl ?_
    refine j_iload_n hc 1 dX8_climb_13 rfl rfl ?_
    refine j_iload_n hc 2 dX8_climb_14 rfl rfl ?_
    refine j_iload_n hc 3 dX8_climb_15 rfl rfl ?_
    refine j_vI hc (k := 8) (by decide) (fun hv => Or.inl (sv_k hv hm rfl)) ml_RX8_138 mv_X8_isVain (As := [vI a1, vI a2, vI a3]) (c_X8_isVain (cx_E hc) hm ca1 ca2 ca3 h) rfl (by omega) (by decide) ⟨Nat.zero_le _, Nat.zero_le _⟩ (Nat.le_of_ble_eq_true rfl) rfl dX8_climb_16 (fun r49 s50 cr49 h => ?_)
    refine j_if_eq hc cr49 (tgt := 23) dX8_climb_19 (by decide) (fun q54 => ?_) (fun q54 => ?_)
    · replace h := h.1 q54
      refine j_aload_nR hc 0 dX8_climb_23 rfl rfl ?_
      refine j_getR (c' := 42) hc fl_RX8_37 rfl rfl (fun hv => (sv_k hv hm rfl)) dX8_climb_24 ?_
      refine j_iload_n hc 1 dX8_climb_27 rfl rfl ?_
      refine j_aload_nR hc 0 dX8_climb_28 rfl rfl ?_
      refine j_getI hc fl_RX8_123 (Or.inl rfl) (fun hv => Or.inl (sv_k hv hm rfl)) dX8_climb_29 (fun cn51 => ?_)
      refine j_iload_n hc 2 dX8_climb_32 rfl rfl ?_
      refine j_iconst hc dX8_climb_33 ?_
      refine j_ixor hc dX8_climb_34 ?_
      refine j_iand hc dX8_climb_35 ?_
      refine j_iload_n hc 3 dX8_climb_36 rfl rfl ?_
      refine j_vI hc (k := 5) (by decide) (fun hv => Or.inl (sv_k hv hm rfl)) ml_RX8_116 mv_X5_list (As := [vI a1, vI (o_and (gI s50 56 10) (o_xor a2 (-1))), vI a3]) (c_X5_list (cx_E hc) hm ca1 (cn_and _ _) ca3 h) rfl (by omega) (by decide) ⟨Nat.zero_le _, Nat.zero_le _⟩ (Nat.le_of_ble_eq_true rfl) rfl dX8_climb_37 (fun r52 s53 cr52 h => ?_)
      refine j_istore (lv' := [(5, vI r52), (0, vR E 56), (1, vI a1), (2, vI a2), (3, vI a3), (4, vI a4)]) hc dX8_climb_40 (by decide) rfl ?_
      refine j_iconst hc dX8_climb_42 ?_
      refine j_istore (lv' := [(6, vI 0), (5, vI r52), (0, vR E 56), (1, vI a1), (2, vI a2), (3, vI a3), (4, vI a4)]) hc dX8_climb_43 (by decide) rfl ?_
      obtain ⟨n45, h⟩ := h
      refine j_sub (lv' := [(0, vR E 56), (1, vI a1), (2, vI a2), (3, vI a3), (4, vI a4), (5, vI r52), (6, vI 0)]) [2, 3, 4, 5, 6, 1, 0] rfl ?_
      exact jl_X8_climb_45 hc hm hr hh hr_X8_climb n45 ca1 ca2 ca3 ca4 cr52 (wlit 0 (by decide)) h
    · replace h := h.2 q54
      refine j_sub (lv' := []) [] rfl ?_
      exact jb_X8_climb_22 hc hm hr hh hr_X8_climb h
theorem ca_X8_climb : ∀ d : Nat, (∀ {l : Launch} {E : ev_E} (hE : Eok E) (hm : eM E = 1) {a1 : Int} {a2 : Int} {a3 : Int} {a4 : Int} (ca1 : wr a1 = a1) (ca2 : wr a2 = a2) (ca3 : wr a3 = a3) (ca4 : wr a4 = a4) {σ : st_S} {Q : st_S → Prop}, wp_X8_climb d a1 a2 a3 a4 σ Q → cM l yX8_climb cX8_climb 9 none E (10 + d) 0 0 [vR E 56, vI a1, vI a2, vI a3, vI a4] σ (qV E (gN σ + 0) Q)) := by
  intro d
  induction d with
  | zero => exact (fun {l} {E} hE hm {a1} {a2} {a3} {a4} ca1 ca2 ca3 ca4 {σ} {Q} h => h.elim)
  | succ d ih =>
    have q0 := @ih
    exact (fun {l} {E} hE hm {a1} {a2} {a3} {a4} ca1 ca2 ca3 ca4 {σ} {Q} h => ce_X8_climb (d := d) (rc_X8_climb := wp_X8_climb d) @q0 hE hm ca1 ca2 ca3 ca4 h)
theorem c_X8_climb {l : Launch} {E : ev_E} (hE : Eok E) (hm : eM E = 1) (d : Nat) {a1 : Int} {a2 : Int} {a3 : Int} {a4 : Int} (ca1 : wr a1 = a1) (ca2 : wr a2 = a2) (ca3 : wr a3 = a3) (ca4 : wr a4 = a4) {σ : st_S} {Q : st_S → Prop} : wp_X8_climb d a1 a2 a3 a4 σ Q → cM l yX8_climb cX8_climb 9 none E (10 + d) 0 0 [vR E 56, vI a1, vI a2, vI a3, vI a4] σ (qV E (gN σ + 0) Q) := fun h => (ca_X8_climb d) hE hm ca1 ca2 ca3 ca4 h
-- LitStrangers$Search.set(III)V
theorem dX8_set_0 : decode cX8_set 0 = .ok (.aload_n 0, 1) := by decide +kernel
theorem dX8_set_1 : decode cX8_set 1 = .ok (.iload_n 1, 1) := by decide +kernel
theorem dX8_set_2 : decode cX8_set 2 = .ok (.putfield 123, 3) := by decide +kernel
theorem dX8_set_5 : decode cX8_set 5 = .ok (.aload_n 0, 1) := by decide +kernel
theorem dX8_set_6 : decode cX8_set 6 = .ok (.iload_n 2, 1) := by decide +kernel
theorem dX8_set_7 : decode cX8_set 7 = .ok (.putfield 124, 3) := by decide +kernel
theorem dX8_set_10 : decode cX8_set 10 = .ok (.aload_n 0, 1) := by decide +kernel
theorem dX8_set_11 : decode cX8_set 11 = .ok (.bipush 10, 2) := by decide +kernel
theorem dX8_set_13 : decode cX8_set 13 = .ok (.iload_n 3, 1) := by decide +kernel
theorem dX8_set_14 : decode cX8_set 14 = .ok (.invokestatic 127, 3) := by decide +kernel
theorem dX8_set_17 : decode cX8_set 17 = .ok (.putfield 132, 3) := by decide +kernel
theorem dX8_set_20 : decode cX8_set 20 = .ok (.aload_n 0, 1) := by decide +kernel
theorem dX8_set_21 : decode cX8_set 21 = .ok (.iconst 0, 1) := by decide +kernel
theorem dX8_set_22 : decode cX8_set 22 = .ok (.putfield 55, 3) := by decide +kernel
theorem dX8_set_25 : decode cX8_set 25 = .ok (.aload_n 0, 1) := by decide +kernel
theorem dX8_set_26 : decode cX8_set 26 = .ok (.iconst 0, 1) := by decide +kernel
theorem dX8_set_27 : decode cX8_set 27 = .ok (.putfield 61, 3) := by decide +kernel
theorem dX8_set_30 : decode cX8_set 30 = .ok (.aload_n 0, 1) := by decide +kernel
theorem dX8_set_31 : decode cX8_set 31 = .ok (.iconst 0, 1) := by decide +kernel
theorem dX8_set_32 : decode cX8_set 32 = .ok (.putfield 65, 3) := by decide +kernel
theorem dX8_set_35 : decode cX8_set 35 = .ok (.aload_n 0, 1) := by decide +kernel
theorem dX8_set_36 : decode cX8_set 36 = .ok (.iconst 0, 1) := by decide +kernel
theorem dX8_set_37 : decode cX8_set 37 = .ok (.putfield 69, 3) := by decide +kernel
theorem dX8_set_40 : decode cX8_set 40 = .ok (.aload_n 0, 1) := by decide +kernel
theorem dX8_set_41 : decode cX8_set 41 = .ok (.getfield 9, 3) := by decide +kernel
theorem dX8_set_44 : decode cX8_set 44 = .ok (.iconst 0, 1) := by decide +kernel
theorem dX8_set_45 : decode cX8_set 45 = .ok (.invokestatic 72, 3) := by decide +kernel
theorem dX8_set_48 : decode cX8_set 48 = .ok (.return_, 1) := by decide +kernel
def wp_X8_set (a1 : Int) (a2 : Int) (a3 : Int) (σ : st_S) (Q : st_S → Prop) : Prop := ∀ s21 : st_S, s21 = sI σ 56 10 a1 → ∀ s22 : st_S, s22 = sI s21 56 11 a2 → ∀ s24 : st_S, s24 = sI s22 56 12 (o_min 10 a3) → ∀ s25 : st_S, s25 = sI s24 56 13 0 → ∀ s26 : st_S, s26 = sI s25 56 14 0 → ∀ s27 : st_S, s27 = sI s26 56 15 0 → ∀ s28 : st_S, s28 = sI s27 56 16 0 → wp_J7_fill_53178 57 0 s28 (fun s30 => Q s30)
set_option maxRecDepth 20000 in
theorem c_X8_set {l : Launch} {E : ev_E} (hE : Eok E) (hm : eM E = 1) {a1 : Int} {a2 : Int} {a3 : Int} (ca1 : wr a1 = a1) (ca2 : wr a2 = a2) (ca3 : wr a3 = a3) {σ : st_S} {Q : st_S → Prop} (h : wp_X8_set a1 a2 a3 σ Q) : cM l yX8_set cX8_set 4 none E 2 0 0 [vR E 56, vI a1, vI a2, vI a3] σ (qV E (gN σ + 0) Q) := by
  refine cM_of (lv := [(0, vR E 56), (1, vI a1), (2, vI a2), (3, vI a3)]) (by decide) hE (Nat.le_of_ble_eq_true rfl) (rfl) ?_
  intro X hX hc _ _ hr _ _
  subst hX
  have hh : 2 ≤ 2 := Nat.le_refl _
  have hh1 : 1 ≤ 2 := by omega
  replace h : ∀ s21 : st_S, s21 = sI σ 56 10 a1 → ∀ s22 : st_S, s22 = sI s21 56 11 a2 → ∀ s24 : st_S, s24 = sI s22 56 12 (o_min 10 a3) → ∀ s25 : st_S, s25 = sI s24 56 13 0 → ∀ s26 : st_S, s26 = sI s25 56 14 0 → ∀ s27 : st_S, s27 = sI s26 56 15 0 → ∀ s28 : st_S, s28 = sI s27 56 16 0 → wp_J7_fill_53178 57 0 s28 (fun s30 => Q s30) := h
  refine j_aload_nR hc 0 dX8_set_0 rfl rfl ?_
  refine j_iload_n hc 1 dX8_set_1 rfl rfl ?_
  refine j_putI hc fl_RX8_123 rfl rfl (fun hv => Or.inl (sv_k hv hm rfl)) ca1 dX8_set_2 (fun s21 es21 => ?_)
  replace h := h s21 es21
  refine j_aload_nR hc 0 dX8_set_5 rfl rfl ?_
  refine j_iload_n hc 2 dX8_set_6 rfl rfl ?_
  refine j_putI hc fl_RX8_124 rfl rfl (fun hv => Or.inl (sv_k hv hm rfl)) ca2 dX8_set_7 (fun s22 es22 => ?_)
  replace h := h s22 es22
  refine j_aload_nR hc 0 dX8_set_10 rfl rfl ?_
  refine j_bipush hc dX8_set_11 (by decide) ?_
  refine j_iload_n hc 3 dX8_set_13 rfl rfl ?_
  refine j_mmin hc mm_RX8_127 hh1 (wlit 10 (by decide)) ca3 (Nat.le_of_ble_eq_true rfl) ⟨Nat.zero_le _, Nat.zero_le _⟩ dX8_set_14 (fun cn23 => ?_)
  refine j_putI hc fl_RX8_132 rfl rfl (fun hv => Or.inl (sv_k hv hm rfl)) cn23 dX8_set_17 (fun s24 es24 => ?_)
  replace h := h s24 es24
  refine j_aload_nR hc 0 dX8_set_20 rfl rfl ?_
  refine j_iconst hc dX8_set_21 ?_
  refine j_putI hc fl_RX8_55 rfl rfl (fun hv => Or.inl (sv_k hv hm rfl)) (wlit 0 (by decide)) dX8_set_22 (fun s25 es25 => ?_)
  replace h := h s25 es25
  refine j_aload_nR hc 0 dX8_set_25 rfl rfl ?_
  refine j_iconst hc dX8_set_26 ?_
  refine j_putZ hc fl_RX8_61 rfl rfl (fun hv => Or.inl (sv_k hv hm rfl)) (Or.inl rfl) dX8_set_27 (fun s26 es26 => ?_)
  replace h := h s26 es26
  refine j_aload_nR hc 0 dX8_set_30 rfl rfl ?_
  refine j_iconst hc dX8_set_31 ?_
  refine j_putZ hc fl_RX8_65 rfl rfl (fun hv => Or.inl (sv_k hv hm rfl)) (Or.inl rfl) dX8_set_32 (fun s27 es27 => ?_)
  replace h := h s27 es27
  refine j_aload_nR hc 0 dX8_set_35 rfl rfl ?_
  refine j_iconst hc dX8_set_36 ?_
  refine j_putZ hc fl_RX8_69 rfl rfl (fun hv => Or.inl (sv_k hv hm rfl)) (Or.inl rfl) dX8_set_37 (fun s28 es28 => ?_)
  replace h := h s28 es28
  refine j_aload_nR hc 0 dX8_set_40 rfl rfl ?_
  refine j_getR (c' := 57) hc fl_RX8_9 rfl rfl (fun hv => (sv_k hv hm rfl)) dX8_set_41 ?_
  refine j_iconst hc dX8_set_44 ?_
  refine j_sV hc ml_RX8_72 mv_J7_fill_53178 (As := [vR E 57, vI 0]) (c_J7_fill_53178 (cx_E hc) (wlit 0 (by decide)) h) rfl (by omega) (by decide) ⟨Nat.zero_le _, Nat.zero_le _⟩ (Nat.le_of_ble_eq_true rfl) rfl dX8_set_45 (fun s30 h => ?_)
  exact j_vret hc hr h dX8_set_48
-- LitStrangers$Search.longest(I)I
theorem dX8_longest_0 : decode cX8_longest 0 = .ok (.aload_n 0, 1) := by decide +kernel
theorem dX8_longest_1 : decode cX8_longest 1 = .ok (.iload_n 1, 1) := by decide +kernel
theorem dX8_longest_2 : decode cX8_longest 2 = .ok (.iconst 0, 1) := by decide +kernel
theorem dX8_longest_3 : decode cX8_longest 3 = .ok (.bipush 10, 2) := by decide +kernel
theorem dX8_longest_5 : decode cX8_longest 5 = .ok (.invokevirtual 41, 3) := by decide +kernel
theorem dX8_longest_8 : decode cX8_longest 8 = .ok (.aload_n 0, 1) := by decide +kernel
theorem dX8_longest_9 : decode cX8_longest 9 = .ok (.iconst 0, 1) := by decide +kernel
theorem dX8_longest_10 : decode cX8_longest 10 = .ok (.iconst 0, 1) := by decide +kernel
theorem dX8_longest_11 : decode cX8_longest 11 = .ok (.aload_n 0, 1) := by decide +kernel
theorem dX8_longest_12 : decode cX8_longest 12 = .ok (.getfield 37, 3) := by decide +kernel
theorem dX8_longest_15 : decode cX8_longest 15 = .ok (.getfield 45, 3) := by decide +kernel
theorem dX8_longest_18 : decode cX8_longest 18 = .ok (.iconst 0, 1) := by decide +kernel
theorem dX8_longest_19 : decode cX8_longest 19 = .ok (.invokevirtual 51, 3) := by decide +kernel
theorem dX8_longest_22 : decode cX8_longest 22 = .ok (.aload_n 0, 1) := by decide +kernel
theorem dX8_longest_23 : decode cX8_longest 23 = .ok (.getfield 55, 3) := by decide +kernel
theorem dX8_longest_26 : decode cX8_longest 26 = .ok (.ireturn, 1) := by decide +kernel
def wp_X8_longest (a1 : Int) (σ : st_S) (Q : Int → st_S → Prop) : Prop := wp_X8_set a1 0 10 σ (fun s8 => wp_X8_climb 12 0 0 (gI s8 42 1) 0 s8 (fun s11 => Q (gI s11 56 13) s11))
set_option maxRecDepth 20000 in
theorem c_X8_longest {l : Launch} {E : ev_E} (hE : Eok E) (hm : eM E = 1) {a1 : Int} (ca1 : wr a1 = a1) {σ : st_S} {Q : Int → st_S → Prop} (h : wp_X8_longest a1 σ Q) : cM l yX8_longest cX8_longest 2 (some .int) E 23 0 0 [vR E 56, vI a1] σ (qI E (gN σ + 0) Q) := by
  refine cM_of (lv := [(0, vR E 56), (1, vI a1)]) (by decide) hE (Nat.le_of_ble_eq_true rfl) (rfl) ?_
  intro X hX hc _ _ hr _ _
  subst hX
  have hh : 23 ≤ 23 := Nat.le_refl _
  have hh1 : 1 ≤ 23 := by omega
  replace h : wp_X8_set a1 0 10 σ (fun s8 => wp_X8_climb 12 0 0 (gI s8 42 1) 0 s8 (fun s11 => Q (gI s11 56 13) s11)) := h
  refine j_aload_nR hc 0 dX8_longest_0 rfl rfl ?_
  refine j_iload_n hc 1 dX8_longest_1 rfl rfl ?_
  refine j_iconst hc dX8_longest_2 ?_
  refine j_bipush hc dX8_longest_3 (by decide) ?_
  refine j_vV hc (k := 8) (by decide) (fun hv => Or.inl (sv_k hv hm rfl)) ml_RX8_41 mv_X8_set (As := [vI a1, vI 0, vI 10]) (c_X8_set (cx_E hc) hm ca1 (wlit 0 (by decide)) (wlit 10 (by decide)) h) rfl (by omega) (by decide) ⟨Nat.zero_le _, Nat.zero_le _⟩ (Nat.le_of_ble_eq_true rfl) rfl dX8_longest_5 (fun s8 h => ?_)
  refine j_aload_nR hc 0 dX8_longest_8 rfl rfl ?_
  refine j_iconst hc dX8_longest_9 ?_
  refine j_iconst hc dX8_longest_10 ?_
  refine j_aload_nR hc 0 dX8_longest_11 rfl rfl ?_
  refine j_getR (c' := 42) hc fl_RX8_37 rfl rfl (fun hv => (sv_k hv hm rfl)) dX8_longest_12 ?_
  refine j_getI hc fl_RX8_45 (Or.inl rfl) (fun hv => Or.inl (sv_k hv hm rfl)) dX8_longest_15 (fun cn9 => ?_)
  refine j_iconst hc dX8_longest_18 ?_
  refine j_vV hc (k := 8) (by decide) (fun hv => Or.inl (sv_k hv hm rfl)) ml_RX8_51 mv_X8_climb (As := [vI 0, vI 0, vI (gI s8 42 1), vI 0]) (c_X8_climb (cx_E hc) hm 12 (wlit 0 (by decide)) (wlit 0 (by decide)) cn9 (wlit 0 (by decide)) h) rfl (by omega) (by decide) ⟨Nat.zero_le _, Nat.zero_le _⟩ (Nat.le_of_ble_eq_true rfl) rfl dX8_longest_19 (fun s11 h => ?_)
  refine j_aload_nR hc 0 dX8_longest_22 rfl rfl ?_
  refine j_getI hc fl_RX8_55 (Or.inl rfl) (fun hv => Or.inl (sv_k hv hm rfl)) dX8_longest_23 (fun cn12 => ?_)
  exact j_iret hc hr cn12 h dX8_longest_26
-- LitStrangers$Search.cheapest(I)I
theorem dX8_cheapest_0 : decode cX8_cheapest 0 = .ok (.aload_n 0, 1) := by decide +kernel
theorem dX8_cheapest_1 : decode cX8_cheapest 1 = .ok (.aload_n 0, 1) := by decide +kernel
theorem dX8_cheapest_2 : decode cX8_cheapest 2 = .ok (.getfield 37, 3) := by decide +kernel
theorem dX8_cheapest_5 : decode cX8_cheapest 5 = .ok (.getfield 58, 3) := by decide +kernel
theorem dX8_cheapest_8 : decode cX8_cheapest 8 = .ok (.iconst 0, 1) := by decide +kernel
theorem dX8_cheapest_9 : decode cX8_cheapest 9 = .ok (.iload_n 1, 1) := by decide +kernel
theorem dX8_cheapest_10 : decode cX8_cheapest 10 = .ok (.invokevirtual 41, 3) := by decide +kernel
theorem dX8_cheapest_13 : decode cX8_cheapest 13 = .ok (.aload_n 0, 1) := by decide +kernel
theorem dX8_cheapest_14 : decode cX8_cheapest 14 = .ok (.iconst 1, 1) := by decide +kernel
theorem dX8_cheapest_15 : decode cX8_cheapest 15 = .ok (.putfield 61, 3) := by decide +kernel
theorem dX8_cheapest_18 : decode cX8_cheapest 18 = .ok (.aload_n 0, 1) := by decide +kernel
theorem dX8_cheapest_19 : decode cX8_cheapest 19 = .ok (.iconst 1, 1) := by decide +kernel
theorem dX8_cheapest_20 : decode cX8_cheapest 20 = .ok (.putfield 65, 3) := by decide +kernel
theorem dX8_cheapest_23 : decode cX8_cheapest 23 = .ok (.aload_n 0, 1) := by decide +kernel
theorem dX8_cheapest_24 : decode cX8_cheapest 24 = .ok (.ldc 68, 2) := by decide +kernel
theorem dX8_cheapest_26 : decode cX8_cheapest 26 = .ok (.putfield 55, 3) := by decide +kernel
theorem dX8_cheapest_29 : decode cX8_cheapest 29 = .ok (.aload_n 0, 1) := by decide +kernel
theorem dX8_cheapest_30 : decode cX8_cheapest 30 = .ok (.iconst 0, 1) := by decide +kernel
theorem dX8_cheapest_31 : decode cX8_cheapest 31 = .ok (.iconst 0, 1) := by decide +kernel
theorem dX8_cheapest_32 : decode cX8_cheapest 32 = .ok (.aload_n 0, 1) := by decide +kernel
theorem dX8_cheapest_33 : decode cX8_cheapest 33 = .ok (.getfield 37, 3) := by decide +kernel
theorem dX8_cheapest_36 : decode cX8_cheapest 36 = .ok (.getfield 45, 3) := by decide +kernel
theorem dX8_cheapest_39 : decode cX8_cheapest 39 = .ok (.iconst 0, 1) := by decide +kernel
theorem dX8_cheapest_40 : decode cX8_cheapest 40 = .ok (.invokevirtual 51, 3) := by decide +kernel
theorem dX8_cheapest_43 : decode cX8_cheapest 43 = .ok (.aload_n 0, 1) := by decide +kernel
theorem dX8_cheapest_44 : decode cX8_cheapest 44 = .ok (.getfield 55, 3) := by decide +kernel
theorem dX8_cheapest_47 : decode cX8_cheapest 47 = .ok (.ldc 68, 2) := by decide +kernel
theorem dX8_cheapest_49 : decode cX8_cheapest 49 = .ok (.if_icmp .ne 7, 3) := by decide +kernel
theorem dX8_cheapest_52 : decode cX8_cheapest 52 = .ok (.iconst (-1), 1) := by decide +kernel
theorem dX8_cheapest_53 : decode cX8_cheapest 53 = .ok (.goto 7, 3) := by decide +kernel
theorem dX8_cheapest_56 : decode cX8_cheapest 56 = .ok (.aload_n 0, 1) := by decide +kernel
theorem dX8_cheapest_57 : decode cX8_cheapest 57 = .ok (.getfield 55, 3) := by decide +kernel
theorem dX8_cheapest_60 : decode cX8_cheapest 60 = .ok (.ireturn, 1) := by decide +kernel
def B_X8_cheapest_60 (Q : Int → st_S → Prop)   (v0 : Int) (σ : st_S) : Prop := Q v0 σ
def wp_X8_cheapest (a1 : Int) (σ : st_S) (Q : Int → st_S → Prop) : Prop := wp_X8_set (gI σ 42 0) 0 a1 σ (fun s19 => ∀ s20 : st_S, s20 = sI s19 56 14 1 → ∀ s21 : st_S, s21 = sI s20 56 15 1 → ∀ s22 : st_S, s22 = sI s21 56 13 1000000 → wp_X8_climb 12 0 0 (gI s22 42 1) 0 s22 (fun s25 => (¬ gI s25 56 13 = 1000000 → B_X8_cheapest_60 Q (gI s25 56 13) s25) ∧ (gI s25 56 13 = 1000000 → B_X8_cheapest_60 Q (-1) s25)))
set_option maxRecDepth 20000 in
theorem jb_X8_cheapest_60 {X : jj_X} {E : ev_E} {n0 hN : Nat} (hc : Cx X E cX8_cheapest 2 n0 hN RX8) (hm : eM E = 1) (hr : (xT X).sig.returnType = (some .int)) (hh : 23 ≤ hN) {Q : Int → st_S → Prop} {v0 : Int} (cv0 : wr v0 = v0) {σ : st_S} (h : B_X8_cheapest_60 Q v0 σ) : J X E 2 n0 0 0 (MQ (xB X) (qI E (n0 + 0) Q) (xA X) (xS X) 0 0 (eF E)) σ 60 [] [vI v0] := by
  have hh1 : 1 ≤ hN := by omega
  replace h : Q v0 σ := h
  exact j_iret hc hr cv0 h dX8_cheapest_60
set_option maxRecDepth 20000 in
theorem c_X8_cheapest {l : Launch} {E : ev_E} (hE : Eok E) (hm : eM E = 1) {a1 : Int} (ca1 : wr a1 = a1) {σ : st_S} {Q : Int → st_S → Prop} (h : wp_X8_cheapest a1 σ Q) : cM l yX8_cheapest cX8_cheapest 2 (some .int) E 23 0 0 [vR E 56, vI a1] σ (qI E (gN σ + 0) Q) := by
  refine cM_of (lv := [(0, vR E 56), (1, vI a1)]) (by decide) hE (Nat.le_of_ble_eq_true rfl) (rfl) ?_
  intro X hX hc _ _ hr _ _
  subst hX
  have hh : 23 ≤ 23 := Nat.le_refl _
  have hh1 : 1 ≤ 23 := by omega
  replace h : wp_X8_set (gI σ 42 0) 0 a1 σ (fun s19 => ∀ s20 : st_S, s20 = sI s19 56 14 1 → ∀ s21 : st_S, s21 = sI s20 56 15 1 → ∀ s22 : st_S, s22 = sI s21 56 13 1000000 → wp_X8_climb 12 0 0 (gI s22 42 1) 0 s22 (fun s25 => (¬ gI s25 56 13 = 1000000 → B_X8_cheapest_60 Q (gI s25 56 13) s25) ∧ (gI s25 56 13 = 1000000 → B_X8_cheapest_60 Q (-1) s25))) := h
  refine j_aload_nR hc 0 dX8_cheapest_0 rfl rfl ?_
  refine j_aload_nR hc 0 dX8_cheapest_1 rfl rfl ?_
  refine j_getR (c' := 42) hc fl_RX8_37 rfl rfl (fun hv => (sv_k hv hm rfl)) dX8_cheapest_2 ?_
  refine j_getI hc fl_RX8_58 (Or.inl rfl) (fun hv => Or.inl (sv_k hv hm rfl)) dX8_cheapest_5 (fun cn17 => ?_)
  refine j_iconst hc dX8_cheapest_8 ?_
  refine j_iload_n hc 1 dX8_cheapest_9 rfl rfl ?_
  refine j_vV hc (k := 8) (by decide) (fun hv => Or.inl (sv_k hv hm rfl)) ml_RX8_41 mv_X8_set (As := [vI (gI σ 42 0), vI 0, vI a1]) (c_X8_set (cx_E hc) hm cn17 (wlit 0 (by decide)) ca1 h) rfl (by omega) (by decide) ⟨Nat.zero_le _, Nat.zero_le _⟩ (Nat.le_of_ble_eq_true rfl) rfl dX8_cheapest_10 (fun s19 h => ?_)
  refine j_aload_nR hc 0 dX8_cheapest_13 rfl rfl ?_
  refine j_iconst hc dX8_cheapest_14 ?_
  refine j_putZ hc fl_RX8_61 rfl rfl (fun hv => Or.inl (sv_k hv hm rfl)) (Or.inr rfl) dX8_cheapest_15 (fun s20 es20 => ?_)
  replace h := h s20 es20
  refine j_aload_nR hc 0 dX8_cheapest_18 rfl rfl ?_
  refine j_iconst hc dX8_cheapest_19 ?_
  refine j_putZ hc fl_RX8_65 rfl rfl (fun hv => Or.inl (sv_k hv hm rfl)) (Or.inr rfl) dX8_cheapest_20 (fun s21 es21 => ?_)
  replace h := h s21 es21
  refine j_aload_nR hc 0 dX8_cheapest_23 rfl rfl ?_
  refine j_ldc (x := 1000000) hc (by decide) kc_RX8_68 dX8_cheapest_24 ?_
  refine j_putI hc fl_RX8_55 rfl rfl (fun hv => Or.inl (sv_k hv hm rfl)) (wlit 1000000 (by decide)) dX8_cheapest_26 (fun s22 es22 => ?_)
  replace h := h s22 es22
  refine j_aload_nR hc 0 dX8_cheapest_29 rfl rfl ?_
  refine j_iconst hc dX8_cheapest_30 ?_
  refine j_iconst hc dX8_cheapest_31 ?_
  refine j_aload_nR hc 0 dX8_cheapest_32 rfl rfl ?_
  refine j_getR (c' := 42) hc fl_RX8_37 rfl rfl (fun hv => (sv_k hv hm rfl)) dX8_cheapest_33 ?_
  refine j_getI hc fl_RX8_45 (Or.inl rfl) (fun hv => Or.inl (sv_k hv hm rfl)) dX8_cheapest_36 (fun cn23 => ?_)
  refine j_iconst hc dX8_cheapest_39 ?_
  refine j_vV hc (k := 8) (by decide) (fun hv => Or.inl (sv_k hv hm rfl)) ml_RX8_51 mv_X8_climb (As := [vI 0, vI 0, vI (gI s22 42 1), vI 0]) (c_X8_climb (cx_E hc) hm 12 (wlit 0 (by decide)) (wlit 0 (by decide)) cn23 (wlit 0 (by decide)) h) rfl (by omega) (by decide) ⟨Nat.zero_le _, Nat.zero_le _⟩ (Nat.le_of_ble_eq_true rfl) rfl dX8_cheapest_40 (fun s25 h => ?_)
  refine j_aload_nR hc 0 dX8_cheapest_43 rfl rfl ?_
  refine j_getI hc fl_RX8_55 (Or.inl rfl) (fun hv => Or.inl (sv_k hv hm rfl)) dX8_cheapest_44 (fun cn26 => ?_)
  refine j_ldc (x := 1000000) hc (by decide) kc_RX8_68 dX8_cheapest_47 ?_
  refine j_ic_ne hc cn26 (wlit 1000000 (by decide)) (tgt := 56) dX8_cheapest_49 (by decide) (fun q28 => ?_) (fun q28 => ?_)
  · replace h := h.1 q28
    refine j_aload_nR hc 0 dX8_cheapest_56 rfl rfl ?_
    refine j_getI hc fl_RX8_55 (Or.inl rfl) (fun hv => Or.inl (sv_k hv hm rfl)) dX8_cheapest_57 (fun cn27 => ?_)
    refine j_sub (lv' := []) [] rfl ?_
    exact jb_X8_cheapest_60 hc hm hr hh cn27 h
  · replace h := h.2 q28
    refine j_iconst hc dX8_cheapest_52 ?_
    refine j_goto (tgt := 60) hc dX8_cheapest_53 (by decide) ?_
    refine j_sub (lv' := []) [] rfl ?_
    exact jb_X8_cheapest_60 hc hm hr hh (wlit (-1) (by decide)) h
-- LitStrangers$Search.turns()I
theorem dX8_turns_0 : decode cX8_turns 0 = .ok (.aload_n 0, 1) := by decide +kernel
theorem dX8_turns_1 : decode cX8_turns 1 = .ok (.aload_n 0, 1) := by decide +kernel
theorem dX8_turns_2 : decode cX8_turns 2 = .ok (.getfield 37, 3) := by decide +kernel
theorem dX8_turns_5 : decode cX8_turns 5 = .ok (.getfield 58, 3) := by decide +kernel
theorem dX8_turns_8 : decode cX8_turns 8 = .ok (.iconst 0, 1) := by decide +kernel
theorem dX8_turns_9 : decode cX8_turns 9 = .ok (.bipush 10, 2) := by decide +kernel
theorem dX8_turns_11 : decode cX8_turns 11 = .ok (.invokevirtual 41, 3) := by decide +kernel
theorem dX8_turns_14 : decode cX8_turns 14 = .ok (.aload_n 0, 1) := by decide +kernel
theorem dX8_turns_15 : decode cX8_turns 15 = .ok (.iconst 1, 1) := by decide +kernel
theorem dX8_turns_16 : decode cX8_turns 16 = .ok (.putfield 69, 3) := by decide +kernel
theorem dX8_turns_19 : decode cX8_turns 19 = .ok (.aload_n 0, 1) := by decide +kernel
theorem dX8_turns_20 : decode cX8_turns 20 = .ok (.getfield 18, 3) := by decide +kernel
theorem dX8_turns_23 : decode cX8_turns 23 = .ok (.iconst 0, 1) := by decide +kernel
theorem dX8_turns_24 : decode cX8_turns 24 = .ok (.invokestatic 72, 3) := by decide +kernel
theorem dX8_turns_27 : decode cX8_turns 27 = .ok (.aload_n 0, 1) := by decide +kernel
theorem dX8_turns_28 : decode cX8_turns 28 = .ok (.iconst 0, 1) := by decide +kernel
theorem dX8_turns_29 : decode cX8_turns 29 = .ok (.iconst 0, 1) := by decide +kernel
theorem dX8_turns_30 : decode cX8_turns 30 = .ok (.aload_n 0, 1) := by decide +kernel
theorem dX8_turns_31 : decode cX8_turns 31 = .ok (.getfield 37, 3) := by decide +kernel
theorem dX8_turns_34 : decode cX8_turns 34 = .ok (.getfield 45, 3) := by decide +kernel
theorem dX8_turns_37 : decode cX8_turns 37 = .ok (.iconst 0, 1) := by decide +kernel
theorem dX8_turns_38 : decode cX8_turns 38 = .ok (.invokevirtual 51, 3) := by decide +kernel
theorem dX8_turns_41 : decode cX8_turns 41 = .ok (.aload_n 0, 1) := by decide +kernel
theorem dX8_turns_42 : decode cX8_turns 42 = .ok (.getfield 55, 3) := by decide +kernel
theorem dX8_turns_45 : decode cX8_turns 45 = .ok (.ireturn, 1) := by decide +kernel
def wp_X8_turns  (σ : st_S) (Q : Int → st_S → Prop) : Prop := wp_X8_set (gI σ 42 0) 0 10 σ (fun s15 => ∀ s16 : st_S, s16 = sI s15 56 16 1 → wp_J7_fill_53178 59 0 s16 (fun s18 => wp_X8_climb 12 0 0 (gI s18 42 1) 0 s18 (fun s21 => Q (gI s21 56 13) s21)))
set_option maxRecDepth 20000 in
theorem c_X8_turns {l : Launch} {E : ev_E} (hE : Eok E) (hm : eM E = 1) {σ : st_S} {Q : Int → st_S → Prop} (h : wp_X8_turns σ Q) : cM l yX8_turns cX8_turns 1 (some .int) E 23 0 0 [vR E 56] σ (qI E (gN σ + 0) Q) := by
  refine cM_of (lv := [(0, vR E 56)]) (by decide) hE (Nat.le_of_ble_eq_true rfl) (rfl) ?_
  intro X hX hc _ _ hr _ _
  subst hX
  have hh : 23 ≤ 23 := Nat.le_refl _
  have hh1 : 1 ≤ 23 := by omega
  replace h : wp_X8_set (gI σ 42 0) 0 10 σ (fun s15 => ∀ s16 : st_S, s16 = sI s15 56 16 1 → wp_J7_fill_53178 59 0 s16 (fun s18 => wp_X8_climb 12 0 0 (gI s18 42 1) 0 s18 (fun s21 => Q (gI s21 56 13) s21))) := h
  refine j_aload_nR hc 0 dX8_turns_0 rfl rfl ?_
  refine j_aload_nR hc 0 dX8_turns_1 rfl rfl ?_
  refine j_getR (c' := 42) hc fl_RX8_37 rfl rfl (fun hv => (sv_k hv hm rfl)) dX8_turns_2 ?_
  refine j_getI hc fl_RX8_58 (Or.inl rfl) (fun hv => Or.inl (sv_k hv hm rfl)) dX8_turns_5 (fun cn13 => ?_)
  refine j_iconst hc dX8_turns_8 ?_
  refine j_bipush hc dX8_turns_9 (by decide) ?_
  refine j_vV hc (k := 8) (by decide) (fun hv => Or.inl (sv_k hv hm rfl)) ml_RX8_41 mv_X8_set (As := [vI (gI σ 42 0), vI 0, vI 10]) (c_X8_set (cx_E hc) hm cn13 (wlit 0 (by decide)) (wlit 10 (by decide)) h) rfl (by omega) (by decide) ⟨Nat.zero_le _, Nat.zero_le _⟩ (Nat.le_of_ble_eq_true rfl) rfl dX8_turns_11 (fun s15 h => ?_)
  refine j_aload_nR hc 0 dX8_turns_14 rfl rfl ?_
  refine j_iconst hc dX8_turns_15 ?_
  refine j_putZ hc fl_RX8_69 rfl rfl (fun hv => Or.inl (sv_k hv hm rfl)) (Or.inr rfl) dX8_turns_16 (fun s16 es16 => ?_)
  replace h := h s16 es16
  refine j_aload_nR hc 0 dX8_turns_19 rfl rfl ?_
  refine j_getR (c' := 59) hc fl_RX8_18 rfl rfl (fun hv => (sv_k hv hm rfl)) dX8_turns_20 ?_
  refine j_iconst hc dX8_turns_23 ?_
  refine j_sV hc ml_RX8_72 mv_J7_fill_53178 (As := [vR E 59, vI 0]) (c_J7_fill_53178 (cx_E hc) (wlit 0 (by decide)) h) rfl (by omega) (by decide) ⟨Nat.zero_le _, Nat.zero_le _⟩ (Nat.le_of_ble_eq_true rfl) rfl dX8_turns_24 (fun s18 h => ?_)
  refine j_aload_nR hc 0 dX8_turns_27 rfl rfl ?_
  refine j_iconst hc dX8_turns_28 ?_
  refine j_iconst hc dX8_turns_29 ?_
  refine j_aload_nR hc 0 dX8_turns_30 rfl rfl ?_
  refine j_getR (c' := 42) hc fl_RX8_37 rfl rfl (fun hv => (sv_k hv hm rfl)) dX8_turns_31 ?_
  refine j_getI hc fl_RX8_45 (Or.inl rfl) (fun hv => Or.inl (sv_k hv hm rfl)) dX8_turns_34 (fun cn19 => ?_)
  refine j_iconst hc dX8_turns_37 ?_
  refine j_vV hc (k := 8) (by decide) (fun hv => Or.inl (sv_k hv hm rfl)) ml_RX8_51 mv_X8_climb (As := [vI 0, vI 0, vI (gI s18 42 1), vI 0]) (c_X8_climb (cx_E hc) hm 12 (wlit 0 (by decide)) (wlit 0 (by decide)) cn19 (wlit 0 (by decide)) h) rfl (by omega) (by decide) ⟨Nat.zero_le _, Nat.zero_le _⟩ (Nat.le_of_ble_eq_true rfl) rfl dX8_turns_38 (fun s21 h => ?_)
  refine j_aload_nR hc 0 dX8_turns_41 rfl rfl ?_
  refine j_getI hc fl_RX8_55 (Or.inl rfl) (fun hv => Or.inl (sv_k hv hm rfl)) dX8_turns_42 (fun cn22 => ?_)
  exact j_iret hc hr cn22 h dX8_turns_45
-- LitStrangers$Search.crewOf(II)I
theorem dX8_crewOf_0 : decode cX8_crewOf 0 = .ok (.iload_n 1, 1) := by decide +kernel
theorem dX8_crewOf_1 : decode cX8_crewOf 1 = .ok (.ifCond .lt 23, 3) := by decide +kernel
theorem dX8_crewOf_4 : decode cX8_crewOf 4 = .ok (.iload_n 1, 1) := by decide +kernel
theorem dX8_crewOf_5 : decode cX8_crewOf 5 = .ok (.iload_n 2, 1) := by decide +kernel
theorem dX8_crewOf_6 : decode cX8_crewOf 6 = .ok (.if_icmp .ge 18, 3) := by decide +kernel
theorem dX8_crewOf_9 : decode cX8_crewOf 9 = .ok (.iload_n 1, 1) := by decide +kernel
theorem dX8_crewOf_10 : decode cX8_crewOf 10 = .ok (.bipush 10, 2) := by decide +kernel
theorem dX8_crewOf_12 : decode cX8_crewOf 12 = .ok (.if_icmp .ge 12, 3) := by decide +kernel
theorem dX8_crewOf_15 : decode cX8_crewOf 15 = .ok (.aload_n 0, 1) := by decide +kernel
theorem dX8_crewOf_16 : decode cX8_crewOf 16 = .ok (.getfield 24, 3) := by decide +kernel
theorem dX8_crewOf_19 : decode cX8_crewOf 19 = .ok (.iload_n 1, 1) := by decide +kernel
theorem dX8_crewOf_20 : decode cX8_crewOf 20 = .ok (.iaload, 1) := by decide +kernel
theorem dX8_crewOf_21 : decode cX8_crewOf 21 = .ok (.goto 4, 3) := by decide +kernel
theorem dX8_crewOf_24 : decode cX8_crewOf 24 = .ok (.iconst (-1), 1) := by decide +kernel
theorem dX8_crewOf_25 : decode cX8_crewOf 25 = .ok (.ireturn, 1) := by decide +kernel
def B_X8_crewOf_25 (Q : Int → st_S → Prop)   (v0 : Int) (σ : st_S) : Prop := Q v0 σ
def B_X8_crewOf_24 (Q : Int → st_S → Prop)    (σ : st_S) : Prop := B_X8_crewOf_25 Q (-1) σ
def wp_X8_crewOf (a1 : Int) (a2 : Int) (σ : st_S) (Q : Int → st_S → Prop) : Prop := (a1 < 0 → B_X8_crewOf_24 Q σ) ∧ (¬ a1 < 0 → (a2 ≤ a1 → B_X8_crewOf_24 Q σ) ∧ (¬ a2 ≤ a1 → (10 ≤ a1 → B_X8_crewOf_24 Q σ) ∧ (¬ 10 ≤ a1 → ix a1 10 ∧ B_X8_crewOf_25 Q (gI σ 61 (Int.toNat a1)) σ)))
set_option maxRecDepth 20000 in
theorem jb_X8_crewOf_25 {X : jj_X} {E : ev_E} {n0 hN : Nat} (hc : Cx X E cX8_crewOf 3 n0 hN RX8) (hm : eM E = 1) (hr : (xT X).sig.returnType = (some .int)) (hh : 1 ≤ hN) {Q : Int → st_S → Prop} {v0 : Int} (cv0 : wr v0 = v0) {σ : st_S} (h : B_X8_crewOf_25 Q v0 σ) : J X E 3 n0 0 0 (MQ (xB X) (qI E (n0 + 0) Q) (xA X) (xS X) 0 0 (eF E)) σ 25 [] [vI v0] := by
  have hh1 : 1 ≤ hN := by omega
  replace h : Q v0 σ := h
  exact j_iret hc hr cv0 h dX8_crewOf_25
set_option maxRecDepth 20000 in
theorem jb_X8_crewOf_24 {X : jj_X} {E : ev_E} {n0 hN : Nat} (hc : Cx X E cX8_crewOf 3 n0 hN RX8) (hm : eM E = 1) (hr : (xT X).sig.returnType = (some .int)) (hh : 1 ≤ hN) {Q : Int → st_S → Prop} {σ : st_S} (h : B_X8_crewOf_24 Q σ) : J X E 3 n0 0 0 (MQ (xB X) (qI E (n0 + 0) Q) (xA X) (xS X) 0 0 (eF E)) σ 24 [] [] := by
  have hh1 : 1 ≤ hN := by omega
  replace h : B_X8_crewOf_25 Q (-1) σ := h
  refine j_iconst hc dX8_crewOf_24 ?_
  refine j_sub (lv' := []) [] rfl ?_
  exact jb_X8_crewOf_25 hc hm hr hh (wlit (-1) (by decide)) h
set_option maxRecDepth 20000 in
theorem c_X8_crewOf {l : Launch} {E : ev_E} (hE : Eok E) (hm : eM E = 1) {a1 : Int} {a2 : Int} (ca1 : wr a1 = a1) (ca2 : wr a2 = a2) {σ : st_S} {Q : Int → st_S → Prop} (h : wp_X8_crewOf a1 a2 σ Q) : cM l yX8_crewOf cX8_crewOf 3 (some .int) E 1 0 0 [vR E 56, vI a1, vI a2] σ (qI E (gN σ + 0) Q) := by
  refine cM_of (lv := [(0, vR E 56), (1, vI a1), (2, vI a2)]) (by decide) hE (Nat.le_of_ble_eq_true rfl) (rfl) ?_
  intro X hX hc _ _ hr _ _
  subst hX
  have hh : 1 ≤ 1 := Nat.le_refl _
  have hh1 : 1 ≤ 1 := by omega
  replace h : (a1 < 0 → B_X8_crewOf_24 Q σ) ∧ (¬ a1 < 0 → (a2 ≤ a1 → B_X8_crewOf_24 Q σ) ∧ (¬ a2 ≤ a1 → (10 ≤ a1 → B_X8_crewOf_24 Q σ) ∧ (¬ 10 ≤ a1 → ix a1 10 ∧ B_X8_crewOf_25 Q (gI σ 61 (Int.toNat a1)) σ))) := h
  refine j_iload_n hc 1 dX8_crewOf_0 rfl rfl ?_
  refine j_if_lt hc ca1 (tgt := 24) dX8_crewOf_1 (by decide) (fun q7 => ?_) (fun q7 => ?_)
  · replace h := h.1 q7
    refine j_sub (lv' := []) [] rfl ?_
    exact jb_X8_crewOf_24 hc hm hr hh h
  · replace h := h.2 q7
    refine j_iload_n hc 1 dX8_crewOf_4 rfl rfl ?_
    refine j_iload_n hc 2 dX8_crewOf_5 rfl rfl ?_
    refine j_ic_ge hc ca1 ca2 (tgt := 24) dX8_crewOf_6 (by decide) (fun q6 => ?_) (fun q6 => ?_)
    · replace h := h.1 q6
      refine j_sub (lv' := []) [] rfl ?_
      exact jb_X8_crewOf_24 hc hm hr hh h
    · replace h := h.2 q6
      refine j_iload_n hc 1 dX8_crewOf_9 rfl rfl ?_
      refine j_bipush hc dX8_crewOf_10 (by decide) ?_
      refine j_ic_ge hc ca1 (wlit 10 (by decide)) (tgt := 24) dX8_crewOf_12 (by decide) (fun q5 => ?_) (fun q5 => ?_)
      · replace h := h.1 q5
        refine j_sub (lv' := []) [] rfl ?_
        exact jb_X8_crewOf_24 hc hm hr hh h
      · replace h := h.2 q5
        refine j_aload_nR hc 0 dX8_crewOf_15 rfl rfl ?_
        refine j_getR (c' := 61) hc fl_RX8_24 rfl rfl (fun hv => (sv_k hv hm rfl)) dX8_crewOf_16 ?_
        refine j_iload_n hc 1 dX8_crewOf_19 rfl rfl ?_
        obtain ⟨b3, h⟩ := h
        refine j_iald (jn := (Int.toNat a1)) hc (fun hv => sv_kl hv hm rfl) ca1 b3 rfl dX8_crewOf_20 (fun cn4 => ?_)
        refine j_goto (tgt := 25) hc dX8_crewOf_21 (by decide) ?_
        refine j_sub (lv' := []) [] rfl ?_
        exact jb_X8_crewOf_25 hc hm hr hh cn4 h
-- LitStrangers$Search.tellLate(II)V
theorem dX8_tellLate_0 : decode cX8_tellLate 0 = .ok (.iconst 0, 1) := by decide +kernel
theorem dX8_tellLate_1 : decode cX8_tellLate 1 = .ok (.istore_n 3, 1) := by decide +kernel
theorem dX8_tellLate_2 : decode cX8_tellLate 2 = .ok (.iload_n 3, 1) := by decide +kernel
theorem dX8_tellLate_3 : decode cX8_tellLate 3 = .ok (.bipush 10, 2) := by decide +kernel
theorem dX8_tellLate_5 : decode cX8_tellLate 5 = .ok (.if_icmp .ge 33, 3) := by decide +kernel
theorem dX8_tellLate_8 : decode cX8_tellLate 8 = .ok (.iload_n 1, 1) := by decide +kernel
theorem dX8_tellLate_9 : decode cX8_tellLate 9 = .ok (.iload_n 3, 1) := by decide +kernel
theorem dX8_tellLate_10 : decode cX8_tellLate 10 = .ok (.ishr, 1) := by decide +kernel
theorem dX8_tellLate_11 : decode cX8_tellLate 11 = .ok (.iconst 1, 1) := by decide +kernel
theorem dX8_tellLate_12 : decode cX8_tellLate 12 = .ok (.iand, 1) := by decide +kernel
theorem dX8_tellLate_13 : decode cX8_tellLate 13 = .ok (.ifCond .eq 19, 3) := by decide +kernel
theorem dX8_tellLate_16 : decode cX8_tellLate 16 = .ok (.aload_n 0, 1) := by decide +kernel
theorem dX8_tellLate_17 : decode cX8_tellLate 17 = .ok (.getfield 27, 3) := by decide +kernel
theorem dX8_tellLate_20 : decode cX8_tellLate 20 = .ok (.iload_n 3, 1) := by decide +kernel
theorem dX8_tellLate_21 : decode cX8_tellLate 21 = .ok (.aload_n 0, 1) := by decide +kernel
theorem dX8_tellLate_22 : decode cX8_tellLate 22 = .ok (.getfield 27, 3) := by decide +kernel
theorem dX8_tellLate_25 : decode cX8_tellLate 25 = .ok (.iload_n 3, 1) := by decide +kernel
theorem dX8_tellLate_26 : decode cX8_tellLate 26 = .ok (.iaload, 1) := by decide +kernel
theorem dX8_tellLate_27 : decode cX8_tellLate 27 = .ok (.iload_n 2, 1) := by decide +kernel
theorem dX8_tellLate_28 : decode cX8_tellLate 28 = .ok (.invokestatic 162, 3) := by decide +kernel
theorem dX8_tellLate_31 : decode cX8_tellLate 31 = .ok (.iastore, 1) := by decide +kernel
theorem dX8_tellLate_32 : decode cX8_tellLate 32 = .ok (.iinc 3 1, 3) := by decide +kernel
theorem dX8_tellLate_35 : decode cX8_tellLate 35 = .ok (.goto (-33), 3) := by decide +kernel
theorem dX8_tellLate_38 : decode cX8_tellLate 38 = .ok (.return_, 1) := by decide +kernel
def B_X8_tellLate_32 (Q : st_S → Prop)  (k2 : Int → Int → Int → st_S → Prop) (l1 : Int) (l2 : Int) (l3 : Int) (σ : st_S) : Prop := ∀ x9 : Int, x9 = wr (l3 + 1) → k2 l1 l2 x9 σ
def L_X8_tellLate_2 (Q : st_S → Prop)   : Nat → Int → Int → Int → st_S → Prop
  | 0 => fun _ _ _ _ => False
  | n + 1 => fun l1 l2 l3 σ => (10 ≤ l3 → Q σ) ∧ (¬ 10 ≤ l3 → (o_and (o_shr l1 l3) 1 = 0 → B_X8_tellLate_32 Q (L_X8_tellLate_2 Q n) l1 l2 l3 σ) ∧ (¬ o_and (o_shr l1 l3) 1 = 0 → ix l3 10 ∧ ix l3 10 ∧ ∀ s14 : st_S, s14 = sI σ 62 (Int.toNat l3) (o_max (gI σ 62 (Int.toNat l3)) l2) → B_X8_tellLate_32 Q (L_X8_tellLate_2 Q n) l1 l2 l3 s14))
def wp_X8_tellLate (a1 : Int) (a2 : Int) (σ : st_S) (Q : st_S → Prop) : Prop := ∃ m2 : Nat, L_X8_tellLate_2 Q m2 a1 a2 0 σ
set_option maxRecDepth 20000 in
theorem jb_X8_tellLate_32 {X : jj_X} {E : ev_E} {n0 hN : Nat} (hc : Cx X E cX8_tellLate 4 n0 hN RX8) (hm : eM E = 1) (hr : (xT X).sig.returnType = none) (hh : 1 ≤ hN) {Q : st_S → Prop} {k2 : Int → Int → Int → st_S → Prop} (hk2 : ∀ {l1 : Int} {l2 : Int} {l3 : Int} (cl1 : wr l1 = l1) (cl2 : wr l2 = l2) (cl3 : wr l3 = l3) {σ : st_S}, k2 l1 l2 l3 σ → J X E 4 n0 0 0 (MQ (xB X) (qV E (n0 + 0) Q) (xA X) (xS X) 0 0 (eF E)) σ 2 [(0, vR E 56), (1, vI l1), (2, vI l2), (3, vI l3)] []) {l1 : Int} {l2 : Int} {l3 : Int} (cl1 : wr l1 = l1) (cl2 : wr l2 = l2) (cl3 : wr l3 = l3) {σ : st_S} (h : B_X8_tellLate_32 Q k2 l1 l2 l3 σ) : J X E 4 n0 0 0 (MQ (xB X) (qV E (n0 + 0) Q) (xA X) (xS X) 0 0 (eF E)) σ 32 [(0, vR E 56), (1, vI l1), (2, vI l2), (3, vI l3)] [] := by
  have hh1 : 1 ≤ hN := by omega
  replace h : ∀ x9 : Int, x9 = wr (l3 + 1) → k2 l1 l2 x9 σ := h
  obtain ⟨x9, ex9⟩ : ∃ y : Int, y = wr (l3 + 1) := ⟨_, rfl⟩
  have cx9 : wr x9 = x9 := by rw [ex9]; exact wr_wr _
  replace h := h x9 ex9
  refine j_iinc (lv' := [(3, vI x9), (0, vR E 56), (1, vI l1), (2, vI l2)]) hc 3 dX8_tellLate_32 rfl (by decide) ex9 rfl ?_
  refine j_goto (tgt := 2) hc dX8_tellLate_35 (by decide) ?_
  refine j_sub (lv' := [(0, vR E 56), (1, vI l1), (2, vI l2), (3, vI x9)]) [1, 2, 3, 0] rfl ?_
  exact hk2 cl1 cl2 cx9 h
set_option maxRecDepth 20000 in
theorem jl_X8_tellLate_2 {X : jj_X} {E : ev_E} {n0 hN : Nat} (hc : Cx X E cX8_tellLate 4 n0 hN RX8) (hm : eM E = 1) (hr : (xT X).sig.returnType = none) (hh : 1 ≤ hN) {Q : st_S → Prop} : ∀ (n : Nat) {l1 : Int} {l2 : Int} {l3 : Int} (cl1 : wr l1 = l1) (cl2 : wr l2 = l2) (cl3 : wr l3 = l3) {σ : st_S}, L_X8_tellLate_2 Q n l1 l2 l3 σ → J X E 4 n0 0 0 (MQ (xB X) (qV E (n0 + 0) Q) (xA X) (xS X) 0 0 (eF E)) σ 2 [(0, vR E 56), (1, vI l1), (2, vI l2), (3, vI l3)] [] := by
  have hh1 : 1 ≤ hN := by omega
  intro n
  induction n with
  | zero => intro l1 l2 l3 cl1 cl2 cl3 σ h; exact h.elim
  | succ n ih =>
    intro l1 l2 l3 cl1 cl2 cl3 σ h
    have hk2 : ∀ {l1 : Int} {l2 : Int} {l3 : Int} (cl1 : wr l1 = l1) (cl2 : wr l2 = l2) (cl3 : wr l3 = l3) {σ : st_S}, L_X8_tellLate_2 Q n l1 l2 l3 σ → J X E 4 n0 0 0 (MQ (xB X) (qV E (n0 + 0) Q) (xA X) (xS X) 0 0 (eF E)) σ 2 [(0, vR E 56), (1, vI l1), (2, vI l2), (3, vI l3)] [] := ih
    replace h : (10 ≤ l3 → Q σ) ∧ (¬ 10 ≤ l3 → (o_and (o_shr l1 l3) 1 = 0 → B_X8_tellLate_32 Q (L_X8_tellLate_2 Q n) l1 l2 l3 σ) ∧ (¬ o_and (o_shr l1 l3) 1 = 0 → ix l3 10 ∧ ix l3 10 ∧ ∀ s14 : st_S, s14 = sI σ 62 (Int.toNat l3) (o_max (gI σ 62 (Int.toNat l3)) l2) → B_X8_tellLate_32 Q (L_X8_tellLate_2 Q n) l1 l2 l3 s14)) := h
    refine j_iload_n hc 3 dX8_tellLate_2 rfl rfl ?_
    refine j_bipush hc dX8_tellLate_3 (by decide) ?_
    refine j_ic_ge hc cl3 (wlit 10 (by decide)) (tgt := 38) dX8_tellLate_5 (by decide) (fun q16 => ?_) (fun q16 => ?_)
    · replace h := h.1 q16
      exact j_vret hc hr h dX8_tellLate_38
    · replace h := h.2 q16
      refine j_iload_n hc 1 dX8_tellLate_8 rfl rfl ?_
      refine j_iload_n hc 3 dX8_tellLate_9 rfl rfl ?_
      refine j_ishr hc dX8_tellLate_10 ?_
      refine j_iconst hc dX8_tellLate_11 ?_
      refine j_iand hc dX8_tellLate_12 ?_
      refine j_if_eq hc (cn_and _ _) (tgt := 32) dX8_tellLate_13 (by decide) (fun q15 => ?_) (fun q15 => ?_)
      · replace h := h.1 q15
        refine j_sub (lv' := [(0, vR E 56), (1, vI l1), (2, vI l2), (3, vI l3)]) [0, 1, 2, 3] rfl ?_
        exact jb_X8_tellLate_32 hc hm hr hh hk2 cl1 cl2 cl3 h
      · replace h := h.2 q15
        refine j_aload_nR hc 0 dX8_tellLate_16 rfl rfl ?_
        refine j_getR (c' := 62) hc fl_RX8_27 rfl rfl (fun hv => (sv_k hv hm rfl)) dX8_tellLate_17 ?_
        refine j_iload_n hc 3 dX8_tellLate_20 rfl rfl ?_
        refine j_aload_nR hc 0 dX8_tellLate_21 rfl rfl ?_
        refine j_getR (c' := 62) hc fl_RX8_27 rfl rfl (fun hv => (sv_k hv hm rfl)) dX8_tellLate_22 ?_
        refine j_iload_n hc 3 dX8_tellLate_25 rfl rfl ?_
        obtain ⟨b10, h⟩ := h
        refine j_iald (jn := (Int.toNat l3)) hc (fun hv => sv_kl hv hm rfl) cl3 b10 rfl dX8_tellLate_26 (fun cn11 => ?_)
        refine j_iload_n hc 2 dX8_tellLate_27 rfl rfl ?_
        refine j_mmax hc mm_RX8_162 hh1 cn11 cl2 (Nat.le_of_ble_eq_true rfl) ⟨Nat.zero_le _, Nat.zero_le _⟩ dX8_tellLate_28 (fun cn12 => ?_)
        obtain ⟨b13, h⟩ := h
        refine j_iast (jn := (Int.toNat l3)) hc (fun hv => sv_kl hv hm rfl) cl3 b13 rfl cn12 dX8_tellLate_31 (fun s14 es14 => ?_)
        replace h := h s14 es14
        refine j_sub (lv' := [(0, vR E 56), (1, vI l1), (2, vI l2), (3, vI l3)]) [0, 1, 2, 3] rfl ?_
        exact jb_X8_tellLate_32 hc hm hr hh hk2 cl1 cl2 cl3 h
set_option maxRecDepth 20000 in
theorem c_X8_tellLate {l : Launch} {E : ev_E} (hE : Eok E) (hm : eM E = 1) {a1 : Int} {a2 : Int} (ca1 : wr a1 = a1) (ca2 : wr a2 = a2) {σ : st_S} {Q : st_S → Prop} (h : wp_X8_tellLate a1 a2 σ Q) : cM l yX8_tellLate cX8_tellLate 4 none E 1 0 0 [vR E 56, vI a1, vI a2] σ (qV E (gN σ + 0) Q) := by
  refine cM_of (lv := [(0, vR E 56), (1, vI a1), (2, vI a2)]) (by decide) hE (Nat.le_of_ble_eq_true rfl) (rfl) ?_
  intro X hX hc _ _ hr _ _
  subst hX
  have hh : 1 ≤ 1 := Nat.le_refl _
  have hh1 : 1 ≤ 1 := by omega
  replace h : ∃ m2 : Nat, L_X8_tellLate_2 Q m2 a1 a2 0 σ := h
  refine j_iconst hc dX8_tellLate_0 ?_
  refine j_istore_n (lv' := [(3, vI 0), (0, vR E 56), (1, vI a1), (2, vI a2)]) hc dX8_tellLate_1 rfl (by decide) rfl ?_
  obtain ⟨n2, h⟩ := h
  refine j_sub (lv' := [(0, vR E 56), (1, vI a1), (2, vI a2), (3, vI 0)]) [1, 2, 3, 0] rfl ?_
  exact jl_X8_tellLate_2 hc hm hr hh n2 ca1 ca2 (wlit 0 (by decide)) h
-- LitStrangers$Search.trace(III)Z
theorem dX8_trace_0 : decode cX8_trace 0 = .ok (.iload_n 1, 1) := by decide +kernel
theorem dX8_trace_1 : decode cX8_trace 1 = .ok (.aload_n 0, 1) := by decide +kernel
theorem dX8_trace_2 : decode cX8_trace 2 = .ok (.getfield 132, 3) := by decide +kernel
theorem dX8_trace_5 : decode cX8_trace 5 = .ok (.if_icmp .ge 9, 3) := by decide +kernel
theorem dX8_trace_8 : decode cX8_trace 8 = .ok (.iload_n 1, 1) := by decide +kernel
theorem dX8_trace_9 : decode cX8_trace 9 = .ok (.bipush 10, 2) := by decide +kernel
theorem dX8_trace_11 : decode cX8_trace 11 = .ok (.if_icmp .lt 5, 3) := by decide +kernel
theorem dX8_trace_14 : decode cX8_trace 14 = .ok (.iconst 1, 1) := by decide +kernel
theorem dX8_trace_15 : decode cX8_trace 15 = .ok (.ireturn, 1) := by decide +kernel
theorem dX8_trace_16 : decode cX8_trace 16 = .ok (.iconst 1, 1) := by decide +kernel
theorem dX8_trace_17 : decode cX8_trace 17 = .ok (.iload_n 1, 1) := by decide +kernel
theorem dX8_trace_18 : decode cX8_trace 18 = .ok (.ishl, 1) := by decide +kernel
theorem dX8_trace_19 : decode cX8_trace 19 = .ok (.istore 4, 2) := by decide +kernel
theorem dX8_trace_21 : decode cX8_trace 21 = .ok (.aload_n 0, 1) := by decide +kernel
theorem dX8_trace_22 : decode cX8_trace 22 = .ok (.getfield 9, 3) := by decide +kernel
theorem dX8_trace_25 : decode cX8_trace 25 = .ok (.iload_n 2, 1) := by decide +kernel
theorem dX8_trace_26 : decode cX8_trace 26 = .ok (.iaload, 1) := by decide +kernel
theorem dX8_trace_27 : decode cX8_trace 27 = .ok (.iload 4, 2) := by decide +kernel
theorem dX8_trace_29 : decode cX8_trace 29 = .ok (.iand, 1) := by decide +kernel
theorem dX8_trace_30 : decode cX8_trace 30 = .ok (.ifCond .eq 21, 3) := by decide +kernel
theorem dX8_trace_33 : decode cX8_trace 33 = .ok (.aload_n 0, 1) := by decide +kernel
theorem dX8_trace_34 : decode cX8_trace 34 = .ok (.getfield 15, 3) := by decide +kernel
theorem dX8_trace_37 : decode cX8_trace 37 = .ok (.iload_n 2, 1) := by decide +kernel
theorem dX8_trace_38 : decode cX8_trace 38 = .ok (.iaload, 1) := by decide +kernel
theorem dX8_trace_39 : decode cX8_trace 39 = .ok (.iload 4, 2) := by decide +kernel
theorem dX8_trace_41 : decode cX8_trace 41 = .ok (.iand, 1) := by decide +kernel
theorem dX8_trace_42 : decode cX8_trace 42 = .ok (.ifCond .eq 7, 3) := by decide +kernel
theorem dX8_trace_45 : decode cX8_trace 45 = .ok (.iconst 1, 1) := by decide +kernel
theorem dX8_trace_46 : decode cX8_trace 46 = .ok (.goto 4, 3) := by decide +kernel
theorem dX8_trace_49 : decode cX8_trace 49 = .ok (.iconst 0, 1) := by decide +kernel
theorem dX8_trace_50 : decode cX8_trace 50 = .ok (.ireturn, 1) := by decide +kernel
theorem dX8_trace_51 : decode cX8_trace 51 = .ok (.aload_n 0, 1) := by decide +kernel
theorem dX8_trace_52 : decode cX8_trace 52 = .ok (.getfield 9, 3) := by decide +kernel
theorem dX8_trace_55 : decode cX8_trace 55 = .ok (.iload_n 2, 1) := by decide +kernel
theorem dX8_trace_56 : decode cX8_trace 56 = .ok (.dup2, 1) := by decide +kernel
theorem dX8_trace_57 : decode cX8_trace 57 = .ok (.iaload, 1) := by decide +kernel
theorem dX8_trace_58 : decode cX8_trace 58 = .ok (.iload 4, 2) := by decide +kernel
theorem dX8_trace_60 : decode cX8_trace 60 = .ok (.ior, 1) := by decide +kernel
theorem dX8_trace_61 : decode cX8_trace 61 = .ok (.iastore, 1) := by decide +kernel
theorem dX8_trace_62 : decode cX8_trace 62 = .ok (.aload_n 0, 1) := by decide +kernel
theorem dX8_trace_63 : decode cX8_trace 63 = .ok (.getfield 37, 3) := by decide +kernel
theorem dX8_trace_66 : decode cX8_trace 66 = .ok (.iload_n 1, 1) := by decide +kernel
theorem dX8_trace_67 : decode cX8_trace 67 = .ok (.aload_n 0, 1) := by decide +kernel
theorem dX8_trace_68 : decode cX8_trace 68 = .ok (.getfield 123, 3) := by decide +kernel
theorem dX8_trace_71 : decode cX8_trace 71 = .ok (.iload_n 2, 1) := by decide +kernel
theorem dX8_trace_72 : decode cX8_trace 72 = .ok (.iconst (-1), 1) := by decide +kernel
theorem dX8_trace_73 : decode cX8_trace 73 = .ok (.ixor, 1) := by decide +kernel
theorem dX8_trace_74 : decode cX8_trace 74 = .ok (.iand, 1) := by decide +kernel
theorem dX8_trace_75 : decode cX8_trace 75 = .ok (.iload_n 3, 1) := by decide +kernel
theorem dX8_trace_76 : decode cX8_trace 76 = .ok (.invokevirtual 116, 3) := by decide +kernel
theorem dX8_trace_79 : decode cX8_trace 79 = .ok (.istore 5, 2) := by decide +kernel
theorem dX8_trace_81 : decode cX8_trace 81 = .ok (.iconst 0, 1) := by decide +kernel
theorem dX8_trace_82 : decode cX8_trace 82 = .ok (.istore 6, 2) := by decide +kernel
theorem dX8_trace_84 : decode cX8_trace 84 = .ok (.iload 6, 2) := by decide +kernel
theorem dX8_trace_86 : decode cX8_trace 86 = .ok (.iload 5, 2) := by decide +kernel
theorem dX8_trace_88 : decode cX8_trace 88 = .ok (.if_icmp .ge 64, 3) := by decide +kernel
theorem dX8_trace_91 : decode cX8_trace 91 = .ok (.aload_n 0, 1) := by decide +kernel
theorem dX8_trace_92 : decode cX8_trace 92 = .ok (.getfield 37, 3) := by decide +kernel
theorem dX8_trace_95 : decode cX8_trace 95 = .ok (.iload_n 1, 1) := by decide +kernel
theorem dX8_trace_96 : decode cX8_trace 96 = .ok (.iload 6, 2) := by decide +kernel
theorem dX8_trace_98 : decode cX8_trace 98 = .ok (.invokevirtual 119, 3) := by decide +kernel
theorem dX8_trace_101 : decode cX8_trace 101 = .ok (.istore 7, 2) := by decide +kernel
theorem dX8_trace_103 : decode cX8_trace 103 = .ok (.aload_n 0, 1) := by decide +kernel
theorem dX8_trace_104 : decode cX8_trace 104 = .ok (.iload_n 1, 1) := by decide +kernel
theorem dX8_trace_105 : decode cX8_trace 105 = .ok (.iconst 1, 1) := by decide +kernel
theorem dX8_trace_106 : decode cX8_trace 106 = .ok (.iadd, 1) := by decide +kernel
theorem dX8_trace_107 : decode cX8_trace 107 = .ok (.iload_n 2, 1) := by decide +kernel
theorem dX8_trace_108 : decode cX8_trace 108 = .ok (.iload 7, 2) := by decide +kernel
theorem dX8_trace_110 : decode cX8_trace 110 = .ok (.ior, 1) := by decide +kernel
theorem dX8_trace_111 : decode cX8_trace 111 = .ok (.aload_n 0, 1) := by decide +kernel
theorem dX8_trace_112 : decode cX8_trace 112 = .ok (.getfield 37, 3) := by decide +kernel
theorem dX8_trace_115 : decode cX8_trace 115 = .ok (.iload_n 3, 1) := by decide +kernel
theorem dX8_trace_116 : decode cX8_trace 116 = .ok (.iload 7, 2) := by decide +kernel
theorem dX8_trace_118 : decode cX8_trace 118 = .ok (.iconst 0, 1) := by decide +kernel
theorem dX8_trace_119 : decode cX8_trace 119 = .ok (.invokevirtual 112, 3) := by decide +kernel
theorem dX8_trace_122 : decode cX8_trace 122 = .ok (.invokevirtual 82, 3) := by decide +kernel
theorem dX8_trace_125 : decode cX8_trace 125 = .ok (.ifCond .eq 21, 3) := by decide +kernel
theorem dX8_trace_128 : decode cX8_trace 128 = .ok (.aload_n 0, 1) := by decide +kernel
theorem dX8_trace_129 : decode cX8_trace 129 = .ok (.getfield 15, 3) := by decide +kernel
theorem dX8_trace_132 : decode cX8_trace 132 = .ok (.iload_n 2, 1) := by decide +kernel
theorem dX8_trace_133 : decode cX8_trace 133 = .ok (.dup2, 1) := by decide +kernel
theorem dX8_trace_134 : decode cX8_trace 134 = .ok (.iaload, 1) := by decide +kernel
theorem dX8_trace_135 : decode cX8_trace 135 = .ok (.iload 4, 2) := by decide +kernel
theorem dX8_trace_137 : decode cX8_trace 137 = .ok (.ior, 1) := by decide +kernel
theorem dX8_trace_138 : decode cX8_trace 138 = .ok (.iastore, 1) := by decide +kernel
theorem dX8_trace_139 : decode cX8_trace 139 = .ok (.aload_n 0, 1) := by decide +kernel
theorem dX8_trace_140 : decode cX8_trace 140 = .ok (.iload 7, 2) := by decide +kernel
theorem dX8_trace_142 : decode cX8_trace 142 = .ok (.iload_n 1, 1) := by decide +kernel
theorem dX8_trace_143 : decode cX8_trace 143 = .ok (.invokevirtual 159, 3) := by decide +kernel
theorem dX8_trace_146 : decode cX8_trace 146 = .ok (.iinc 6 1, 3) := by decide +kernel
theorem dX8_trace_149 : decode cX8_trace 149 = .ok (.goto (-65), 3) := by decide +kernel
theorem dX8_trace_152 : decode cX8_trace 152 = .ok (.aload_n 0, 1) := by decide +kernel
theorem dX8_trace_153 : decode cX8_trace 153 = .ok (.getfield 15, 3) := by decide +kernel
theorem dX8_trace_156 : decode cX8_trace 156 = .ok (.iload_n 2, 1) := by decide +kernel
theorem dX8_trace_157 : decode cX8_trace 157 = .ok (.iaload, 1) := by decide +kernel
theorem dX8_trace_158 : decode cX8_trace 158 = .ok (.iload 4, 2) := by decide +kernel
theorem dX8_trace_160 : decode cX8_trace 160 = .ok (.iand, 1) := by decide +kernel
theorem dX8_trace_161 : decode cX8_trace 161 = .ok (.ifCond .eq 7, 3) := by decide +kernel
theorem dX8_trace_164 : decode cX8_trace 164 = .ok (.iconst 1, 1) := by decide +kernel
theorem dX8_trace_165 : decode cX8_trace 165 = .ok (.goto 4, 3) := by decide +kernel
theorem dX8_trace_168 : decode cX8_trace 168 = .ok (.iconst 0, 1) := by decide +kernel
theorem dX8_trace_169 : decode cX8_trace 169 = .ok (.ireturn, 1) := by decide +kernel
def B_X8_trace_14 (Q : Int → st_S → Prop) (rc_X8_trace : Int → Int → Int → st_S → (Int → st_S → Prop) → Prop)   (σ : st_S) : Prop := Q 1 σ
def B_X8_trace_50 (Q : Int → st_S → Prop) (rc_X8_trace : Int → Int → Int → st_S → (Int → st_S → Prop) → Prop)  (v0 : Int) (σ : st_S) : Prop := (v0 = 0 ∨ v0 = 1) ∧ Q v0 σ
def B_X8_trace_146 (Q : Int → st_S → Prop) (rc_X8_trace : Int → Int → Int → st_S → (Int → st_S → Prop) → Prop) (k84 : Int → Int → Int → Int → Int → Int → st_S → Prop) (l1 : Int) (l2 : Int) (l3 : Int) (l4 : Int) (l5 : Int) (l6 : Int) (σ : st_S) : Prop := ∀ x34 : Int, x34 = wr (l6 + 1) → k84 l1 l2 l3 l4 l5 x34 σ
def B_X8_trace_169 (Q : Int → st_S → Prop) (rc_X8_trace : Int → Int → Int → st_S → (Int → st_S → Prop) → Prop)  (v0 : Int) (σ : st_S) : Prop := (v0 = 0 ∨ v0 = 1) ∧ Q v0 σ
def L_X8_trace_84 (Q : Int → st_S → Prop) (rc_X8_trace : Int → Int → Int → st_S → (Int → st_S → Prop) → Prop)  : Nat → Int → Int → Int → Int → Int → Int → st_S → Prop
  | 0 => fun _ _ _ _ _ _ _ => False
  | n + 1 => fun l1 l2 l3 l4 l5 l6 σ => (l5 ≤ l6 → ix l2 1024 ∧ (o_and (gI σ 58 (Int.toNat l2)) l4 = 0 → B_X8_trace_169 Q rc_X8_trace 0 σ) ∧ (¬ o_and (gI σ 58 (Int.toNat l2)) l4 = 0 → B_X8_trace_169 Q rc_X8_trace 1 σ)) ∧ (¬ l5 ≤ l6 → wp_X5_crewAt l1 l6 σ (fun r38 s39 => wp_X5_spoiled l3 r38 0 s39 (fun r40 s41 => rc_X8_trace (wr (l1 + 1)) (o_or l2 r38) r40 s41 (fun r42 s43 => (r42 = 0 → B_X8_trace_146 Q rc_X8_trace (L_X8_trace_84 Q rc_X8_trace n) l1 l2 l3 l4 l5 l6 s43) ∧ (¬ r42 = 0 → ix l2 1024 ∧ ix l2 1024 ∧ ∀ s47 : st_S, s47 = sI s43 58 (Int.toNat l2) (o_or (gI s43 58 (Int.toNat l2)) l4) → wp_X8_tellLate r38 l1 s47 (fun s49 => B_X8_trace_146 Q rc_X8_trace (L_X8_trace_84 Q rc_X8_trace n) l1 l2 l3 l4 l5 l6 s49))))))
def e_X8_trace (rc_X8_trace : Int → Int → Int → st_S → (Int → st_S → Prop) → Prop) (a1 : Int) (a2 : Int) (a3 : Int) (σ : st_S) (Q : Int → st_S → Prop) : Prop := (gI σ 56 12 ≤ a1 → B_X8_trace_14 Q rc_X8_trace σ) ∧ (¬ gI σ 56 12 ≤ a1 → (a1 < 10 → ∀ x53 : Int, x53 = o_shl 1 a1 → ix a2 1024 ∧ (o_and (gI σ 57 (Int.toNat a2)) x53 = 0 → ix a2 1024 ∧ ix a2 1024 ∧ ∀ s59 : st_S, s59 = sI σ 57 (Int.toNat a2) (o_or (gI σ 57 (Int.toNat a2)) x53) → wp_X5_list a1 (o_and (gI s59 56 10) (o_xor a2 (-1))) a3 s59 (fun r61 s62 => ∃ m84 : Nat, L_X8_trace_84 Q rc_X8_trace m84 a1 a2 a3 x53 r61 0 s62)) ∧ (¬ o_and (gI σ 57 (Int.toNat a2)) x53 = 0 → ix a2 1024 ∧ (o_and (gI σ 58 (Int.toNat a2)) x53 = 0 → B_X8_trace_50 Q rc_X8_trace 0 σ) ∧ (¬ o_and (gI σ 58 (Int.toNat a2)) x53 = 0 → B_X8_trace_50 Q rc_X8_trace 1 σ))) ∧ (¬ a1 < 10 → B_X8_trace_14 Q rc_X8_trace σ))
def G_X8_trace : Nat → (Int → Int → Int → st_S → (Int → st_S → Prop) → Prop)
  | 0 => fun _ _ _ _ _ => False
  | d + 1 => e_X8_trace ((G_X8_trace d))
def wp_X8_trace (d : Nat) : Int → Int → Int → st_S → (Int → st_S → Prop) → Prop := (G_X8_trace d)
set_option maxRecDepth 20000 in
theorem jb_X8_trace_14 {X : jj_X} {E : ev_E} {n0 hN : Nat} (hc : Cx X E cX8_trace 8 n0 hN RX8) (hm : eM E = 1) (hr : (xT X).sig.returnType = (some .boolean)) {d : Nat} (hh : 10 + (d + 1) ≤ hN) {Q : Int → st_S → Prop} {rc_X8_trace : Int → Int → Int → st_S → (Int → st_S → Prop) → Prop} (hr_X8_trace : ∀ {l : Launch} {E : ev_E} (hE : Eok E) (hm : eM E = 1) {a1 : Int} {a2 : Int} {a3 : Int} (ca1 : wr a1 = a1) (ca2 : wr a2 = a2) (ca3 : wr a3 = a3) {σ : st_S} {Q : Int → st_S → Prop}, rc_X8_trace a1 a2 a3 σ Q → cM l yX8_trace cX8_trace 8 (some .boolean) E (10 + d) 0 0 [vR E 56, vI a1, vI a2, vI a3] σ (qI E (gN σ + 0) Q)) {σ : st_S} (h : B_X8_trace_14 Q rc_X8_trace σ) : J X E 8 n0 0 0 (MQ (xB X) (qI E (n0 + 0) Q) (xA X) (xS X) 0 0 (eF E)) σ 14 [] [] := by
  have hh1 : 1 ≤ hN := by omega
  replace h : Q 1 σ := h
  refine j_iconst hc dX8_trace_14 ?_
  exact j_zret hc hr (nar_bool (Or.inr rfl)) (by decide) h dX8_trace_15
set_option maxRecDepth 20000 in
theorem jb_X8_trace_50 {X : jj_X} {E : ev_E} {n0 hN : Nat} (hc : Cx X E cX8_trace 8 n0 hN RX8) (hm : eM E = 1) (hr : (xT X).sig.returnType = (some .boolean)) {d : Nat} (hh : 10 + (d + 1) ≤ hN) {Q : Int → st_S → Prop} {rc_X8_trace : Int → Int → Int → st_S → (Int → st_S → Prop) → Prop} (hr_X8_trace : ∀ {l : Launch} {E : ev_E} (hE : Eok E) (hm : eM E = 1) {a1 : Int} {a2 : Int} {a3 : Int} (ca1 : wr a1 = a1) (ca2 : wr a2 = a2) (ca3 : wr a3 = a3) {σ : st_S} {Q : Int → st_S → Prop}, rc_X8_trace a1 a2 a3 σ Q → cM l yX8_trace cX8_trace 8 (some .boolean) E (10 + d) 0 0 [vR E 56, vI a1, vI a2, vI a3] σ (qI E (gN σ + 0) Q)) {v0 : Int} (cv0 : wr v0 = v0) {σ : st_S} (h : B_X8_trace_50 Q rc_X8_trace v0 σ) : J X E 8 n0 0 0 (MQ (xB X) (qI E (n0 + 0) Q) (xA X) (xS X) 0 0 (eF E)) σ 50 [] [vI v0] := by
  have hh1 : 1 ≤ hN := by omega
  replace h : (v0 = 0 ∨ v0 = 1) ∧ Q v0 σ := h
  exact j_zret hc hr (nar_bool h.1) (by rcases h.1 with e | e <;> (rw [e]; decide)) h.2 dX8_trace_50
set_option maxRecDepth 20000 in
theorem jb_X8_trace_146 {X : jj_X} {E : ev_E} {n0 hN : Nat} (hc : Cx X E cX8_trace 8 n0 hN RX8) (hm : eM E = 1) (hr : (xT X).sig.returnType = (some .boolean)) {d : Nat} (hh : 10 + (d + 1) ≤ hN) {Q : Int → st_S → Prop} {rc_X8_trace : Int → Int → Int → st_S → (Int → st_S → Prop) → Prop} (hr_X8_trace : ∀ {l : Launch} {E : ev_E} (hE : Eok E) (hm : eM E = 1) {a1 : Int} {a2 : Int} {a3 : Int} (ca1 : wr a1 = a1) (ca2 : wr a2 = a2) (ca3 : wr a3 = a3) {σ : st_S} {Q : Int → st_S → Prop}, rc_X8_trace a1 a2 a3 σ Q → cM l yX8_trace cX8_trace 8 (some .boolean) E (10 + d) 0 0 [vR E 56, vI a1, vI a2, vI a3] σ (qI E (gN σ + 0) Q)) {k84 : Int → Int → Int → Int → Int → Int → st_S → Prop} (hk84 : ∀ {l1 : Int} {l2 : Int} {l3 : Int} {l4 : Int} {l5 : Int} {l6 : Int} (cl1 : wr l1 = l1) (cl2 : wr l2 = l2) (cl3 : wr l3 = l3) (cl4 : wr l4 = l4) (cl5 : wr l5 = l5) (cl6 : wr l6 = l6) {σ : st_S}, k84 l1 l2 l3 l4 l5 l6 σ → J X E 8 n0 0 0 (MQ (xB X) (qI E (n0 + 0) Q) (xA X) (xS X) 0 0 (eF E)) σ 84 [(0, vR E 56), (1, vI l1), (2, vI l2), (3, vI l3), (4, vI l4), (5, vI l5), (6, vI l6)] []) {l1 : Int} {l2 : Int} {l3 : Int} {l4 : Int} {l5 : Int} {l6 : Int} (cl1 : wr l1 = l1) (cl2 : wr l2 = l2) (cl3 : wr l3 = l3) (cl4 : wr l4 = l4) (cl5 : wr l5 = l5) (cl6 : wr l6 = l6) {σ : st_S} (h : B_X8_trace_146 Q rc_X8_trace k84 l1 l2 l3 l4 l5 l6 σ) : J X E 8 n0 0 0 (MQ (xB X) (qI E (n0 + 0) Q) (xA X) (xS X) 0 0 (eF E)) σ 146 [(0, vR E 56), (1, vI l1), (2, vI l2), (3, vI l3), (4, vI l4), (5, vI l5), (6, vI l6)] [] := by
  have hh1 : 1 ≤ hN := by omega
  replace h : ∀ x34 : Int, x34 = wr (l6 + 1) → k84 l1 l2 l3 l4 l5 x34 σ := h
  obtain ⟨x34, ex34⟩ : ∃ y : Int, y = wr (l6 + 1) := ⟨_, rfl⟩
  have cx34 : wr x34 = x34 := by rw [ex34]; exact wr_wr _
  replace h := h x34 ex34
  refine j_iinc (lv' := [(6, vI x34), (0, vR E 56), (1, vI l1), (2, vI l2), (3, vI l3), (4, vI l4), (5, vI l5)]) hc 6 dX8_trace_146 rfl (by decide) ex34 rfl ?_
  refine j_goto (tgt := 84) hc dX8_trace_149 (by decide) ?_
  refine j_sub (lv' := [(0, vR E 56), (1, vI l1), (2, vI l2), (3, vI l3), (4, vI l4), (5, vI l5), (6, vI x34)]) [1, 2, 3, 4, 5, 6, 0] rfl ?_
  exact hk84 cl1 cl2 cl3 cl4 cl5 cx34 h
set_option maxRecDepth 20000 in
theorem jb_X8_trace_169 {X : jj_X} {E : ev_E} {n0 hN : Nat} (hc : Cx X E cX8_trace 8 n0 hN RX8) (hm : eM E = 1) (hr : (xT X).sig.returnType = (some .boolean)) {d : Nat} (hh : 10 + (d + 1) ≤ hN) {Q : Int → st_S → Prop} {rc_X8_trace : Int → Int → Int → st_S → (Int → st_S → Prop) → Prop} (hr_X8_trace : ∀ {l : Launch} {E : ev_E} (hE : Eok E) (hm : eM E = 1) {a1 : Int} {a2 : Int} {a3 : Int} (ca1 : wr a1 = a1) (ca2 : wr a2 = a2) (ca3 : wr a3 = a3) {σ : st_S} {Q : Int → st_S → Prop}, rc_X8_trace a1 a2 a3 σ Q → cM l yX8_trace cX8_trace 8 (some .boolean) E (10 + d) 0 0 [vR E 56, vI a1, vI a2, vI a3] σ (qI E (gN σ + 0) Q)) {v0 : Int} (cv0 : wr v0 = v0) {σ : st_S} (h : B_X8_trace_169 Q rc_X8_trace v0 σ) : J X E 8 n0 0 0 (MQ (xB X) (qI E (n0 + 0) Q) (xA X) (xS X) 0 0 (eF E)) σ 169 [] [vI v0] := by
  have hh1 : 1 ≤ hN := by omega
  replace h : (v0 = 0 ∨ v0 = 1) ∧ Q v0 σ := h
  exact j_zret hc hr (nar_bool h.1) (by rcases h.1 with e | e <;> (rw [e]; decide)) h.2 dX8_trace_169
set_option maxRecDepth 20000 in
theorem jl_X8_trace_84 {X : jj_X} {E : ev_E} {n0 hN : Nat} (hc : Cx X E cX8_trace 8 n0 hN RX8) (hm : eM E = 1) (hr : (xT X).sig.returnType = (some .boolean)) {d : Nat} (hh : 10 + (d + 1) ≤ hN) {Q : Int → st_S → Prop} {rc_X8_trace : Int → Int → Int → st_S → (Int → st_S → Prop) → Prop} (hr_X8_trace : ∀ {l : Launch} {E : ev_E} (hE : Eok E) (hm : eM E = 1) {a1 : Int} {a2 : Int} {a3 : Int} (ca1 : wr a1 = a1) (ca2 : wr a2 = a2) (ca3 : wr a3 = a3) {σ : st_S} {Q : Int → st_S → Prop}, rc_X8_trace a1 a2 a3 σ Q → cM l yX8_trace cX8_trace 8 (some .boolean) E (10 + d) 0 0 [vR E 56, vI a1, vI a2, vI a3] σ (qI E (gN σ + 0) Q)) : ∀ (n : Nat) {l1 : Int} {l2 : Int} {l3 : Int} {l4 : Int} {l5 : Int} {l6 : Int} (cl1 : wr l1 = l1) (cl2 : wr l2 = l2) (cl3 : wr l3 = l3) (cl4 : wr l4 = l4) (cl5 : wr l5 = l5) (cl6 : wr l6 = l6) {σ : st_S}, L_X8_trace_84 Q rc_X8_trace n l1 l2 l3 l4 l5 l6 σ → J X E 8 n0 0 0 (MQ (xB X) (qI E (n0 + 0) Q) (xA X) (xS X) 0 0 (eF E)) σ 84 [(0, vR E 56), (1, vI l1), (2, vI l2), (3, vI l3), (4, vI l4), (5, vI l5), (6, vI l6)] [] := by
  have hh1 : 1 ≤ hN := by omega
  intro n
  induction n with
  | zero => intro l1 l2 l3 l4 l5 l6 cl1 cl2 cl3 cl4 cl5 cl6 σ h; exact h.elim
  | succ n ih =>
    intro l1 l2 l3 l4 l5 l6 cl1 cl2 cl3 cl4 cl5 cl6 σ h
    have hk84 : ∀ {l1 : Int} {l2 : Int} {l3 : Int} {l4 : Int} {l5 : Int} {l6 : Int} (cl1 : wr l1 = l1) (cl2 : wr l2 = l2) (cl3 : wr l3 = l3) (cl4 : wr l4 = l4) (cl5 : wr l5 = l5) (cl6 : wr l6 = l6) {σ : st_S}, L_X8_trace_84 Q rc_X8_trace n l1 l2 l3 l4 l5 l6 σ → J X E 8 n0 0 0 (MQ (xB X) (qI E (n0 + 0) Q) (xA X) (xS X) 0 0 (eF E)) σ 84 [(0, vR E 56), (1, vI l1), (2, vI l2), (3, vI l3), (4, vI l4), (5, vI l5), (6, vI l6)] [] := ih
    replace h : (l5 ≤ l6 → ix l2 1024 ∧ (o_and (gI σ 58 (Int.toNat l2)) l4 = 0 → B_X8_trace_169 Q rc_X8_trace 0 σ) ∧ (¬ o_and (gI σ 58 (Int.toNat l2)) l4 = 0 → B_X8_trace_169 Q rc_X8_trace 1 σ)) ∧ (¬ l5 ≤ l6 → wp_X5_crewAt l1 l6 σ (fun r38 s39 => wp_X5_spoiled l3 r38 0 s39 (fun r40 s41 => rc_X8_trace (wr (l1 + 1)) (o_or l2 r38) r40 s41 (fun r42 s43 => (r42 = 0 → B_X8_trace_146 Q rc_X8_trace (L_X8_trace_84 Q rc_X8_trace n) l1 l2 l3 l4 l5 l6 s43) ∧ (¬ r42 = 0 → ix l2 1024 ∧ ix l2 1024 ∧ ∀ s47 : st_S, s47 = sI s43 58 (Int.toNat l2) (o_or (gI s43 58 (Int.toNat l2)) l4) → wp_X8_tellLate r38 l1 s47 (fun s49 => B_X8_trace_146 Q rc_X8_trace (L_X8_trace_84 Q rc_X8_trace n) l1 l2 l3 l4 l5 l6 s49)))))) := h
    refine j_iload hc 6 dX8_trace_84 rfl ?_
    refine j_iload hc 5 dX8_trace_86 rfl ?_
    refine j_ic_ge hc cl6 cl5 (tgt := 152) dX8_trace_88 (by decide) (fun q51 => ?_) (fun q51 => ?_)
    · replace h := h.1 q51
      refine j_aload_nR hc 0 dX8_trace_152 rfl rfl ?_
      refine j_getR (c' := 58) hc fl_RX8_15 rfl rfl (fun hv => (sv_k hv hm rfl)) dX8_trace_153 ?_
      refine j_iload_n hc 2 dX8_trace_156 rfl rfl ?_
      obtain ⟨b35, h⟩ := h
      refine j_iald (jn := (Int.toNat l2)) hc (fun hv => sv_kl hv hm rfl) cl2 b35 rfl dX8_trace_157 (fun cn36 => ?_)
      refine j_iload hc 4 dX8_trace_158 rfl ?_
      refine j_iand hc dX8_trace_160 ?_
      refine j_if_eq hc (cn_and _ _) (tgt := 168) dX8_trace_161 (by decide) (fun q37 => ?_) (fun q37 => ?_)
      · replace h := h.1 q37
        refine j_iconst hc dX8_trace_168 ?_
        refine j_sub (lv' := []) [] rfl ?_
        exact jb_X8_trace_169 hc hm hr hh hr_X8_trace (wlit 0 (by decide)) h
      · replace h := h.2 q37
        refine j_iconst hc dX8_trace_164 ?_
        refine j_goto (tgt := 169) hc dX8_trace_165 (by decide) ?_
        refine j_sub (lv' := []) [] rfl ?_
        exact jb_X8_trace_169 hc hm hr hh hr_X8_trace (wlit 1 (by decide)) h
    · replace h := h.2 q51
      refine j_aload_nR hc 0 dX8_trace_91 rfl rfl ?_
      refine j_getR (c' := 42) hc fl_RX8_37 rfl rfl (fun hv => (sv_k hv hm rfl)) dX8_trace_92 ?_
      refine j_iload_n hc 1 dX8_trace_95 rfl rfl ?_
      refine j_iload hc 6 dX8_trace_96 rfl ?_
      refine j_vI hc (k := 5) (by decide) (fun hv => Or.inl (sv_k hv hm rfl)) ml_RX8_119 mv_X5_crewAt (As := [vI l1, vI l6]) (c_X5_crewAt (cx_E hc) hm cl1 cl6 h) rfl (by omega) (by decide) ⟨Nat.zero_le _, Nat.zero_le _⟩ (Nat.le_of_ble_eq_true rfl) rfl dX8_trace_98 (fun r38 s39 cr38 h => ?_)
      refine j_istore (lv' := [(7, vI r38), (0, vR E 56), (1, vI l1), (2, vI l2), (3, vI l3), (4, vI l4), (5, vI l5), (6, vI l6)]) hc dX8_trace_101 (by decide) rfl ?_
      refine j_aload_nR hc 1 dX8_trace_103 rfl rfl ?_
      refine j_iload_n hc 2 dX8_trace_104 rfl rfl ?_
      refine j_iconst hc dX8_trace_105 ?_
      refine j_iadd hc dX8_trace_106 ?_
      refine j_iload_n hc 3 dX8_trace_107 rfl rfl ?_
      refine j_iload hc 0 dX8_trace_108 rfl ?_
      refine j_ior hc dX8_trace_110 ?_
      refine j_aload_nR hc 1 dX8_trace_111 rfl rfl ?_
      refine j_getR (c' := 42) hc fl_RX8_37 rfl rfl (fun hv => (sv_k hv hm rfl)) dX8_trace_112 ?_
      refine j_iload_n hc 4 dX8_trace_115 rfl rfl ?_
      refine j_iload hc 0 dX8_trace_116 rfl ?_
      refine j_iconst hc dX8_trace_118 ?_
      refine j_vI hc (k := 5) (by decide) (fun hv => Or.inl (sv_k hv hm rfl)) ml_RX8_112 mv_X5_spoiled (As := [vI l3, vI r38, vI 0]) (c_X5_spoiled (cx_E hc) hm cl3 cr38 (wlit 0 (by decide)) h) rfl (by omega) (by decide) ⟨Nat.zero_le _, Nat.zero_le _⟩ (Nat.le_of_ble_eq_true rfl) rfl dX8_trace_119 (fun r40 s41 cr40 h => ?_)
      refine j_vI hc (k := 8) (by decide) (fun hv => Or.inl (sv_k hv hm rfl)) ml_RX8_82 mv_X8_trace (As := [vI (wr (l1 + 1)), vI (o_or l2 r38), vI r40]) (hr_X8_trace (cx_E hc) hm (wr_wr _) (cn_or _ _) cr40 h) rfl (by omega) (by decide) ⟨Nat.zero_le _, Nat.zero_le _⟩ (Nat.le_of_ble_eq_true rfl) (by simp only [vI_wr, vL_wl]; rfl) dX8_trace_122 (fun r42 s43 cr42 h => ?_)
      refine j_if_eq hc cr42 (tgt := 146) dX8_trace_125 (by decide) (fun q50 => ?_) (fun q50 => ?_)
      · replace h := h.1 q50
        refine j_sub (lv' := [(0, vR E 56), (1, vI l1), (2, vI l2), (3, vI l3), (4, vI l4), (5, vI l5), (6, vI l6)]) [1, 2, 3, 4, 5, 6, 7] rfl ?_
        exact jb_X8_trace_146 hc hm hr hh hr_X8_trace hk84 cl1 cl2 cl3 cl4 cl5 cl6 h
      · replace h := h.2 q50
        refine j_aload_nR hc 1 dX8_trace_128 rfl rfl ?_
        refine j_getR (c' := 58) hc fl_RX8_15 rfl rfl (fun hv => (sv_k hv hm rfl)) dX8_trace_129 ?_
        refine j_iload_n hc 3 dX8_trace_132 rfl rfl ?_
        refine j_dup2 hc dX8_trace_133 rfl rfl ?_
        obtain ⟨b44, h⟩ := h
        refine j_iald (jn := (Int.toNat l2)) hc (fun hv => sv_kl hv hm rfl) cl2 b44 rfl dX8_trace_134 (fun cn45 => ?_)
        refine j_iload hc 5 dX8_trace_135 rfl ?_
        refine j_ior hc dX8_trace_137 ?_
        obtain ⟨b46, h⟩ := h
        refine j_iast (jn := (Int.toNat l2)) hc (fun hv => sv_kl hv hm rfl) cl2 b46 rfl (cn_or _ _) dX8_trace_138 (fun s47 es47 => ?_)
        replace h := h s47 es47
        refine j_aload_nR hc 1 dX8_trace_139 rfl rfl ?_
        refine j_iload hc 0 dX8_trace_140 rfl ?_
        refine j_iload_n hc 2 dX8_trace_142 rfl rfl ?_
        refine j_vV hc (k := 8) (by decide) (fun hv => Or.inl (sv_k hv hm rfl)) ml_RX8_159 mv_X8_tellLate (As := [vI r38, vI l1]) (c_X8_tellLate (cx_E hc) hm cr38 cl1 h) rfl (by omega) (by decide) ⟨Nat.zero_le _, Nat.zero_le _⟩ (Nat.le_of_ble_eq_true rfl) rfl dX8_trace_143 (fun s49 h => ?_)
        refine j_sub (lv' := [(0, vR E 56), (1, vI l1), (2, vI l2), (3, vI l3), (4, vI l4), (5, vI l5), (6, vI l6)]) [1, 2, 3, 4, 5, 6, 7] rfl ?_
        exact jb_X8_trace_146 hc hm hr hh hr_X8_trace hk84 cl1 cl2 cl3 cl4 cl5 cl6 h
set_option maxRecDepth 20000 in
theorem ce_X8_trace {d : Nat} {rc_X8_trace : Int → Int → Int → st_S → (Int → st_S → Prop) → Prop} (hr_X8_trace : ∀ {l : Launch} {E : ev_E} (hE : Eok E) (hm : eM E = 1) {a1 : Int} {a2 : Int} {a3 : Int} (ca1 : wr a1 = a1) (ca2 : wr a2 = a2) (ca3 : wr a3 = a3) {σ : st_S} {Q : Int → st_S → Prop}, rc_X8_trace a1 a2 a3 σ Q → cM l yX8_trace cX8_trace 8 (some .boolean) E (10 + d) 0 0 [vR E 56, vI a1, vI a2, vI a3] σ (qI E (gN σ + 0) Q)) {l : Launch} {E : ev_E} (hE : Eok E) (hm : eM E = 1) {a1 : Int} {a2 : Int} {a3 : Int} (ca1 : wr a1 = a1) (ca2 : wr a2 = a2) (ca3 : wr a3 = a3) {σ : st_S} {Q : Int → st_S → Prop} (h : e_X8_trace rc_X8_trace a1 a2 a3 σ Q) : cM l yX8_trace cX8_trace 8 (some .boolean) E (10 + (d + 1)) 0 0 [vR E 56, vI a1, vI a2, vI a3] σ (qI E (gN σ + 0) Q) := by
  refine cM_of (lv := [(0, vR E 56), (1, vI a1), (2, vI a2), (3, vI a3)]) (by decide) hE (Nat.le_of_ble_eq_true rfl) (rfl) ?_
  intro X hX hc _ _ hr _ _
  subst hX
  have hh : 10 + (d + 1) ≤ 10 + (d + 1) := Nat.le_refl _
  have hh1 : 1 ≤ 10 + (d + 1) := by omega
  replace h : (gI σ 56 12 ≤ a1 → B_X8_trace_14 Q rc_X8_trace σ) ∧ (¬ gI σ 56 12 ≤ a1 → (a1 < 10 → ∀ x53 : Int, x53 = o_shl 1 a1 → ix a2 1024 ∧ (o_and (gI σ 57 (Int.toNat a2)) x53 = 0 → ix a2 1024 ∧ ix a2 1024 ∧ ∀ s59 : st_S, s59 = sI σ 57 (Int.toNat a2) (o_or (gI σ 57 (Int.toNat a2)) x53) → wp_X5_list a1 (o_and (gI s59 56 10) (o_xor a2 (-1))) a3 s59 (fun r61 s62 => ∃ m84 : Nat, L_X8_trace_84 Q rc_X8_trace m84 a1 a2 a3 x53 r61 0 s62)) ∧ (¬ o_and (gI σ 57 (Int.toNat a2)) x53 = 0 → ix a2 1024 ∧ (o_and (gI σ 58 (Int.toNat a2)) x53 = 0 → B_X8_trace_50 Q rc_X8_trace 0 σ) ∧ (¬ o_and (gI σ 58 (Int.toNat a2)) x53 = 0 → B_X8_trace_50 Q rc_X8_trace 1 σ))) ∧ (¬ a1 < 10 → B_X8_trace_14 Q rc_X8_trace σ)) := h
  refine j_iload_n hc 1 dX8_trace_0 rfl rfl ?_
  refine j_aload_nR hc 0 dX8_trace_1 rfl rfl ?_
  refine j_getI hc fl_RX8_132 (Or.inl rfl) (fun hv => Or.inl (sv_k hv hm rfl)) dX8_trace_2 (fun cn52 => ?_)
  refine j_ic_ge hc ca1 cn52 (tgt := 14) dX8_trace_5 (by decide) (fun q68 => ?_) (fun q68 => ?_)
  · replace h := h.1 q68
    refine j_sub (lv' := []) [] rfl ?_
    exact jb_X8_trace_14 hc hm hr hh hr_X8_trace h
  · replace h := h.2 q68
    refine j_iload_n hc 1 dX8_trace_8 rfl rfl ?_
    refine j_bipush hc dX8_trace_9 (by decide) ?_
    refine j_ic_lt hc ca1 (wlit 10 (by decide)) (tgt := 16) dX8_trace_11 (by decide) (fun q67 => ?_) (fun q67 => ?_)
    · replace h := h.1 q67
      refine j_iconst hc dX8_trace_16 ?_
      refine j_iload_n hc 1 dX8_trace_17 rfl rfl ?_
      refine j_ishl hc dX8_trace_18 ?_
      refine j_c (cn_shl _ _) (fun x53 ex53 cx53 => ?_)
      replace h := h x53 ex53
      refine j_istore (lv' := [(4, vI x53), (0, vR E 56), (1, vI a1), (2, vI a2), (3, vI a3)]) hc dX8_trace_19 (by decide) rfl ?_
      refine j_aload_nR hc 1 dX8_trace_21 rfl rfl ?_
      refine j_getR (c' := 57) hc fl_RX8_9 rfl rfl (fun hv => (sv_k hv hm rfl)) dX8_trace_22 ?_
      refine j_iload_n hc 3 dX8_trace_25 rfl rfl ?_
      obtain ⟨b54, h⟩ := h
      refine j_iald (jn := (Int.toNat a2)) hc (fun hv => sv_kl hv hm rfl) ca2 b54 rfl dX8_trace_26 (fun cn55 => ?_)
      refine j_iload hc 0 dX8_trace_27 rfl ?_
      refine j_iand hc dX8_trace_29 ?_
      refine j_if_eq hc (cn_and _ _) (tgt := 51) dX8_trace_30 (by decide) (fun q66 => ?_) (fun q66 => ?_)
      · replace h := h.1 q66
        refine j_aload_nR hc 1 dX8_trace_51 rfl rfl ?_
        refine j_getR (c' := 57) hc fl_RX8_9 rfl rfl (fun hv => (sv_k hv hm rfl)) dX8_trace_52 ?_
        refine j_iload_n hc 3 dX8_trace_55 rfl rfl ?_
        refine j_dup2 hc dX8_trace_56 rfl rfl ?_
        obtain ⟨b56, h⟩ := h
        refine j_iald (jn := (Int.toNat a2)) hc (fun hv => sv_kl hv hm rfl) ca2 b56 rfl dX8_trace_57 (fun cn57 => ?_)
        refine j_iload hc 0 dX8_trace_58 rfl ?_
        refine j_ior hc dX8_trace_60 ?_
        obtain ⟨b58, h⟩ := h
        refine j_iast (jn := (Int.toNat a2)) hc (fun hv => sv_kl hv hm rfl) ca2 b58 rfl (cn_or _ _) dX8_trace_61 (fun s59 es59 => ?_)
        replace h := h s59 es59
        refine j_aload_nR hc 1 dX8_trace_62 rfl rfl ?_
        refine j_getR (c' := 42) hc fl_RX8_37 rfl rfl (fun hv => (sv_k hv hm rfl)) dX8_trace_63 ?_
        refine j_iload_n hc 2 dX8_trace_66 rfl rfl ?_
        refine j_aload_nR hc 1 dX8_trace_67 rfl rfl ?_
        refine j_getI hc fl_RX8_123 (Or.inl rfl) (fun hv => Or.inl (sv_k hv hm rfl)) dX8_trace_68 (fun cn60 => ?_)
        refine j_iload_n hc 3 dX8_trace_71 rfl rfl ?_
        refine j_iconst hc dX8_trace_72 ?_
        refine j_ixor hc dX8_trace_73 ?_
        refine j_iand hc dX8_trace_74 ?_
        refine j_iload_n hc 4 dX8_trace_75 rfl rfl ?_
        refine j_vI hc (k := 5) (by decide) (fun hv => Or.inl (sv_k hv hm rfl)) ml_RX8_116 mv_X5_list (As := [vI a1, vI (o_and (gI s59 56 10) (o_xor a2 (-1))), vI a3]) (c_X5_list (cx_E hc) hm ca1 (cn_and _ _) ca3 h) rfl (by omega) (by decide) ⟨Nat.zero_le _, Nat.zero_le _⟩ (Nat.le_of_ble_eq_true rfl) rfl dX8_trace_76 (fun r61 s62 cr61 h => ?_)
        refine j_istore (lv' := [(5, vI r61), (4, vI x53), (0, vR E 56), (1, vI a1), (2, vI a2), (3, vI a3)]) hc dX8_trace_79 (by decide) rfl ?_
        refine j_iconst hc dX8_trace_81 ?_
        refine j_istore (lv' := [(6, vI 0), (5, vI r61), (4, vI x53), (0, vR E 56), (1, vI a1), (2, vI a2), (3, vI a3)]) hc dX8_trace_82 (by decide) rfl ?_
        obtain ⟨n84, h⟩ := h
        refine j_sub (lv' := [(0, vR E 56), (1, vI a1), (2, vI a2), (3, vI a3), (4, vI x53), (5, vI r61), (6, vI 0)]) [3, 4, 5, 6, 2, 1, 0] rfl ?_
        exact jl_X8_trace_84 hc hm hr hh hr_X8_trace n84 ca1 ca2 ca3 cx53 cr61 (wlit 0 (by decide)) h
      · replace h := h.2 q66
        refine j_aload_nR hc 1 dX8_trace_33 rfl rfl ?_
        refine j_getR (c' := 58) hc fl_RX8_15 rfl rfl (fun hv => (sv_k hv hm rfl)) dX8_trace_34 ?_
        refine j_iload_n hc 3 dX8_trace_37 rfl rfl ?_
        obtain ⟨b63, h⟩ := h
        refine j_iald (jn := (Int.toNat a2)) hc (fun hv => sv_kl hv hm rfl) ca2 b63 rfl dX8_trace_38 (fun cn64 => ?_)
        refine j_iload hc 0 dX8_trace_39 rfl ?_
        refine j_iand hc dX8_trace_41 ?_
        refine j_if_eq hc (cn_and _ _) (tgt := 49) dX8_trace_42 (by decide) (fun q65 => ?_) (fun q65 => ?_)
        · replace h := h.1 q65
          refine j_iconst hc dX8_trace_49 ?_
          refine j_sub (lv' := []) [] rfl ?_
          exact jb_X8_trace_50 hc hm hr hh hr_X8_trace (wlit 0 (by decide)) h
        · replace h := h.2 q65
          refine j_iconst hc dX8_trace_45 ?_
          refine j_goto (tgt := 50) hc dX8_trace_46 (by decide) ?_
          refine j_sub (lv' := []) [] rfl ?_
          exact jb_X8_trace_50 hc hm hr hh hr_X8_trace (wlit 1 (by decide)) h
    · replace h := h.2 q67
      refine j_sub (lv' := []) [] rfl ?_
      exact jb_X8_trace_14 hc hm hr hh hr_X8_trace h
theorem ca_X8_trace : ∀ d : Nat, (∀ {l : Launch} {E : ev_E} (hE : Eok E) (hm : eM E = 1) {a1 : Int} {a2 : Int} {a3 : Int} (ca1 : wr a1 = a1) (ca2 : wr a2 = a2) (ca3 : wr a3 = a3) {σ : st_S} {Q : Int → st_S → Prop}, wp_X8_trace d a1 a2 a3 σ Q → cM l yX8_trace cX8_trace 8 (some .boolean) E (10 + d) 0 0 [vR E 56, vI a1, vI a2, vI a3] σ (qI E (gN σ + 0) Q)) := by
  intro d
  induction d with
  | zero => exact (fun {l} {E} hE hm {a1} {a2} {a3} ca1 ca2 ca3 {σ} {Q} h => h.elim)
  | succ d ih =>
    have q0 := @ih
    exact (fun {l} {E} hE hm {a1} {a2} {a3} ca1 ca2 ca3 {σ} {Q} h => ce_X8_trace (d := d) (rc_X8_trace := wp_X8_trace d) @q0 hE hm ca1 ca2 ca3 h)
theorem c_X8_trace {l : Launch} {E : ev_E} (hE : Eok E) (hm : eM E = 1) (d : Nat) {a1 : Int} {a2 : Int} {a3 : Int} (ca1 : wr a1 = a1) (ca2 : wr a2 = a2) (ca3 : wr a3 = a3) {σ : st_S} {Q : Int → st_S → Prop} : wp_X8_trace d a1 a2 a3 σ Q → cM l yX8_trace cX8_trace 8 (some .boolean) E (10 + d) 0 0 [vR E 56, vI a1, vI a2, vI a3] σ (qI E (gN σ + 0) Q) := fun h => (ca_X8_trace d) hE hm ca1 ca2 ca3 h
-- LitStrangers$Search.latestOf(I)I
theorem dX8_latestOf_0 : decode cX8_latestOf 0 = .ok (.aload_n 0, 1) := by decide +kernel
theorem dX8_latestOf_1 : decode cX8_latestOf 1 = .ok (.aload_n 0, 1) := by decide +kernel
theorem dX8_latestOf_2 : decode cX8_latestOf 2 = .ok (.getfield 37, 3) := by decide +kernel
theorem dX8_latestOf_5 : decode cX8_latestOf 5 = .ok (.getfield 58, 3) := by decide +kernel
theorem dX8_latestOf_8 : decode cX8_latestOf 8 = .ok (.invokevirtual 78, 3) := by decide +kernel
theorem dX8_latestOf_11 : decode cX8_latestOf 11 = .ok (.istore_n 2, 1) := by decide +kernel
theorem dX8_latestOf_12 : decode cX8_latestOf 12 = .ok (.aload_n 0, 1) := by decide +kernel
theorem dX8_latestOf_13 : decode cX8_latestOf 13 = .ok (.aload_n 0, 1) := by decide +kernel
theorem dX8_latestOf_14 : decode cX8_latestOf 14 = .ok (.getfield 37, 3) := by decide +kernel
theorem dX8_latestOf_17 : decode cX8_latestOf 17 = .ok (.getfield 58, 3) := by decide +kernel
theorem dX8_latestOf_20 : decode cX8_latestOf 20 = .ok (.iconst 0, 1) := by decide +kernel
theorem dX8_latestOf_21 : decode cX8_latestOf 21 = .ok (.iload_n 2, 1) := by decide +kernel
theorem dX8_latestOf_22 : decode cX8_latestOf 22 = .ok (.invokevirtual 41, 3) := by decide +kernel
theorem dX8_latestOf_25 : decode cX8_latestOf 25 = .ok (.aload_n 0, 1) := by decide +kernel
theorem dX8_latestOf_26 : decode cX8_latestOf 26 = .ok (.getfield 15, 3) := by decide +kernel
theorem dX8_latestOf_29 : decode cX8_latestOf 29 = .ok (.iconst 0, 1) := by decide +kernel
theorem dX8_latestOf_30 : decode cX8_latestOf 30 = .ok (.invokestatic 72, 3) := by decide +kernel
theorem dX8_latestOf_33 : decode cX8_latestOf 33 = .ok (.aload_n 0, 1) := by decide +kernel
theorem dX8_latestOf_34 : decode cX8_latestOf 34 = .ok (.getfield 27, 3) := by decide +kernel
theorem dX8_latestOf_37 : decode cX8_latestOf 37 = .ok (.iconst (-1), 1) := by decide +kernel
theorem dX8_latestOf_38 : decode cX8_latestOf 38 = .ok (.invokestatic 72, 3) := by decide +kernel
theorem dX8_latestOf_41 : decode cX8_latestOf 41 = .ok (.aload_n 0, 1) := by decide +kernel
theorem dX8_latestOf_42 : decode cX8_latestOf 42 = .ok (.iconst 0, 1) := by decide +kernel
theorem dX8_latestOf_43 : decode cX8_latestOf 43 = .ok (.iconst 0, 1) := by decide +kernel
theorem dX8_latestOf_44 : decode cX8_latestOf 44 = .ok (.aload_n 0, 1) := by decide +kernel
theorem dX8_latestOf_45 : decode cX8_latestOf 45 = .ok (.getfield 37, 3) := by decide +kernel
theorem dX8_latestOf_48 : decode cX8_latestOf 48 = .ok (.getfield 45, 3) := by decide +kernel
theorem dX8_latestOf_51 : decode cX8_latestOf 51 = .ok (.invokevirtual 82, 3) := by decide +kernel
theorem dX8_latestOf_54 : decode cX8_latestOf 54 = .ok (.pop, 1) := by decide +kernel
theorem dX8_latestOf_55 : decode cX8_latestOf 55 = .ok (.iload_n 1, 1) := by decide +kernel
theorem dX8_latestOf_56 : decode cX8_latestOf 56 = .ok (.ifCond .lt 18, 3) := by decide +kernel
theorem dX8_latestOf_59 : decode cX8_latestOf 59 = .ok (.iload_n 1, 1) := by decide +kernel
theorem dX8_latestOf_60 : decode cX8_latestOf 60 = .ok (.bipush 10, 2) := by decide +kernel
theorem dX8_latestOf_62 : decode cX8_latestOf 62 = .ok (.if_icmp .ge 12, 3) := by decide +kernel
theorem dX8_latestOf_65 : decode cX8_latestOf 65 = .ok (.aload_n 0, 1) := by decide +kernel
theorem dX8_latestOf_66 : decode cX8_latestOf 66 = .ok (.getfield 27, 3) := by decide +kernel
theorem dX8_latestOf_69 : decode cX8_latestOf 69 = .ok (.iload_n 1, 1) := by decide +kernel
theorem dX8_latestOf_70 : decode cX8_latestOf 70 = .ok (.iaload, 1) := by decide +kernel
theorem dX8_latestOf_71 : decode cX8_latestOf 71 = .ok (.goto 4, 3) := by decide +kernel
theorem dX8_latestOf_74 : decode cX8_latestOf 74 = .ok (.iconst (-1), 1) := by decide +kernel
theorem dX8_latestOf_75 : decode cX8_latestOf 75 = .ok (.ireturn, 1) := by decide +kernel
def B_X8_latestOf_75 (Q : Int → st_S → Prop)   (v0 : Int) (σ : st_S) : Prop := Q v0 σ
def B_X8_latestOf_74 (Q : Int → st_S → Prop)    (σ : st_S) : Prop := B_X8_latestOf_75 Q (-1) σ
def wp_X8_latestOf (a1 : Int) (σ : st_S) (Q : Int → st_S → Prop) : Prop := wp_X8_longest (gI σ 42 0) σ (fun r18 s19 => wp_X8_set (gI s19 42 0) 0 r18 s19 (fun s22 => wp_J7_fill_53178 58 0 s22 (fun s24 => wp_J7_fill_53178 62 (-1) s24 (fun s26 => wp_X8_trace 12 0 0 (gI s26 42 1) s26 (fun r28 s29 => (a1 < 0 → B_X8_latestOf_74 Q s29) ∧ (¬ a1 < 0 → (10 ≤ a1 → B_X8_latestOf_74 Q s29) ∧ (¬ 10 ≤ a1 → ix a1 10 ∧ B_X8_latestOf_75 Q (gI s29 62 (Int.toNat a1)) s29)))))))
set_option maxRecDepth 20000 in
theorem jb_X8_latestOf_75 {X : jj_X} {E : ev_E} {n0 hN : Nat} (hc : Cx X E cX8_latestOf 3 n0 hN RX8) (hm : eM E = 1) (hr : (xT X).sig.returnType = (some .int)) (hh : 24 ≤ hN) {Q : Int → st_S → Prop} {v0 : Int} (cv0 : wr v0 = v0) {σ : st_S} (h : B_X8_latestOf_75 Q v0 σ) : J X E 3 n0 0 0 (MQ (xB X) (qI E (n0 + 0) Q) (xA X) (xS X) 0 0 (eF E)) σ 75 [] [vI v0] := by
  have hh1 : 1 ≤ hN := by omega
  replace h : Q v0 σ := h
  exact j_iret hc hr cv0 h dX8_latestOf_75
set_option maxRecDepth 20000 in
theorem jb_X8_latestOf_74 {X : jj_X} {E : ev_E} {n0 hN : Nat} (hc : Cx X E cX8_latestOf 3 n0 hN RX8) (hm : eM E = 1) (hr : (xT X).sig.returnType = (some .int)) (hh : 24 ≤ hN) {Q : Int → st_S → Prop} {σ : st_S} (h : B_X8_latestOf_74 Q σ) : J X E 3 n0 0 0 (MQ (xB X) (qI E (n0 + 0) Q) (xA X) (xS X) 0 0 (eF E)) σ 74 [] [] := by
  have hh1 : 1 ≤ hN := by omega
  replace h : B_X8_latestOf_75 Q (-1) σ := h
  refine j_iconst hc dX8_latestOf_74 ?_
  refine j_sub (lv' := []) [] rfl ?_
  exact jb_X8_latestOf_75 hc hm hr hh (wlit (-1) (by decide)) h
set_option maxRecDepth 20000 in
theorem c_X8_latestOf {l : Launch} {E : ev_E} (hE : Eok E) (hm : eM E = 1) {a1 : Int} (ca1 : wr a1 = a1) {σ : st_S} {Q : Int → st_S → Prop} (h : wp_X8_latestOf a1 σ Q) : cM l yX8_latestOf cX8_latestOf 3 (some .int) E 24 0 0 [vR E 56, vI a1] σ (qI E (gN σ + 0) Q) := by
  refine cM_of (lv := [(0, vR E 56), (1, vI a1)]) (by decide) hE (Nat.le_of_ble_eq_true rfl) (rfl) ?_
  intro X hX hc _ _ hr _ _
  subst hX
  have hh : 24 ≤ 24 := Nat.le_refl _
  have hh1 : 1 ≤ 24 := by omega
  replace h : wp_X8_longest (gI σ 42 0) σ (fun r18 s19 => wp_X8_set (gI s19 42 0) 0 r18 s19 (fun s22 => wp_J7_fill_53178 58 0 s22 (fun s24 => wp_J7_fill_53178 62 (-1) s24 (fun s26 => wp_X8_trace 12 0 0 (gI s26 42 1) s26 (fun r28 s29 => (a1 < 0 → B_X8_latestOf_74 Q s29) ∧ (¬ a1 < 0 → (10 ≤ a1 → B_X8_latestOf_74 Q s29) ∧ (¬ 10 ≤ a1 → ix a1 10 ∧ B_X8_latestOf_75 Q (gI s29 62 (Int.toNat a1)) s29))))))) := h
  refine j_aload_nR hc 0 dX8_latestOf_0 rfl rfl ?_
  refine j_aload_nR hc 0 dX8_latestOf_1 rfl rfl ?_
  refine j_getR (c' := 42) hc fl_RX8_37 rfl rfl (fun hv => (sv_k hv hm rfl)) dX8_latestOf_2 ?_
  refine j_getI hc fl_RX8_58 (Or.inl rfl) (fun hv => Or.inl (sv_k hv hm rfl)) dX8_latestOf_5 (fun cn17 => ?_)
  refine j_vI hc (k := 8) (by decide) (fun hv => Or.inl (sv_k hv hm rfl)) ml_RX8_78 mv_X8_longest (As := [vI (gI σ 42 0)]) (c_X8_longest (cx_E hc) hm cn17 h) rfl (by omega) (by decide) ⟨Nat.zero_le _, Nat.zero_le _⟩ (Nat.le_of_ble_eq_true rfl) rfl dX8_latestOf_8 (fun r18 s19 cr18 h => ?_)
  refine j_istore_n (lv' := [(2, vI r18), (0, vR E 56), (1, vI a1)]) hc dX8_latestOf_11 rfl (by decide) rfl ?_
  refine j_aload_nR hc 1 dX8_latestOf_12 rfl rfl ?_
  refine j_aload_nR hc 1 dX8_latestOf_13 rfl rfl ?_
  refine j_getR (c' := 42) hc fl_RX8_37 rfl rfl (fun hv => (sv_k hv hm rfl)) dX8_latestOf_14 ?_
  refine j_getI hc fl_RX8_58 (Or.inl rfl) (fun hv => Or.inl (sv_k hv hm rfl)) dX8_latestOf_17 (fun cn20 => ?_)
  refine j_iconst hc dX8_latestOf_20 ?_
  refine j_iload_n hc 0 dX8_latestOf_21 rfl rfl ?_
  refine j_vV hc (k := 8) (by decide) (fun hv => Or.inl (sv_k hv hm rfl)) ml_RX8_41 mv_X8_set (As := [vI (gI s19 42 0), vI 0, vI r18]) (c_X8_set (cx_E hc) hm cn20 (wlit 0 (by decide)) cr18 h) rfl (by omega) (by decide) ⟨Nat.zero_le _, Nat.zero_le _⟩ (Nat.le_of_ble_eq_true rfl) rfl dX8_latestOf_22 (fun s22 h => ?_)
  refine j_aload_nR hc 1 dX8_latestOf_25 rfl rfl ?_
  refine j_getR (c' := 58) hc fl_RX8_15 rfl rfl (fun hv => (sv_k hv hm rfl)) dX8_latestOf_26 ?_
  refine j_iconst hc dX8_latestOf_29 ?_
  refine j_sV hc ml_RX8_72 mv_J7_fill_53178 (As := [vR E 58, vI 0]) (c_J7_fill_53178 (cx_E hc) (wlit 0 (by decide)) h) rfl (by omega) (by decide) ⟨Nat.zero_le _, Nat.zero_le _⟩ (Nat.le_of_ble_eq_true rfl) rfl dX8_latestOf_30 (fun s24 h => ?_)
  refine j_aload_nR hc 1 dX8_latestOf_33 rfl rfl ?_
  refine j_getR (c' := 62) hc fl_RX8_27 rfl rfl (fun hv => (sv_k hv hm rfl)) dX8_latestOf_34 ?_
  refine j_iconst hc dX8_latestOf_37 ?_
  refine j_sV hc ml_RX8_72 mv_J7_fill_53178 (As := [vR E 62, vI (-1)]) (c_J7_fill_53178 (cx_E hc) (wlit (-1) (by decide)) h) rfl (by omega) (by decide) ⟨Nat.zero_le _, Nat.zero_le _⟩ (Nat.le_of_ble_eq_true rfl) rfl dX8_latestOf_38 (fun s26 h => ?_)
  refine j_aload_nR hc 1 dX8_latestOf_41 rfl rfl ?_
  refine j_iconst hc dX8_latestOf_42 ?_
  refine j_iconst hc dX8_latestOf_43 ?_
  refine j_aload_nR hc 1 dX8_latestOf_44 rfl rfl ?_
  refine j_getR (c' := 42) hc fl_RX8_37 rfl rfl (fun hv => (sv_k hv hm rfl)) dX8_latestOf_45 ?_
  refine j_getI hc fl_RX8_45 (Or.inl rfl) (fun hv => Or.inl (sv_k hv hm rfl)) dX8_latestOf_48 (fun cn27 => ?_)
  refine j_vI hc (k := 8) (by decide) (fun hv => Or.inl (sv_k hv hm rfl)) ml_RX8_82 mv_X8_trace (As := [vI 0, vI 0, vI (gI s26 42 1)]) (c_X8_trace (cx_E hc) hm 12 (wlit 0 (by decide)) (wlit 0 (by decide)) cn27 h) rfl (by omega) (by decide) ⟨Nat.zero_le _, Nat.zero_le _⟩ (Nat.le_of_ble_eq_true rfl) rfl dX8_latestOf_51 (fun r28 s29 cr28 h => ?_)
  refine j_pop hc dX8_latestOf_54 rfl ?_
  refine j_iload_n hc 2 dX8_latestOf_55 rfl rfl ?_
  refine j_if_lt hc ca1 (tgt := 74) dX8_latestOf_56 (by decide) (fun q33 => ?_) (fun q33 => ?_)
  · replace h := h.1 q33
    refine j_sub (lv' := []) [] rfl ?_
    exact jb_X8_latestOf_74 hc hm hr hh h
  · replace h := h.2 q33
    refine j_iload_n hc 2 dX8_latestOf_59 rfl rfl ?_
    refine j_bipush hc dX8_latestOf_60 (by decide) ?_
    refine j_ic_ge hc ca1 (wlit 10 (by decide)) (tgt := 74) dX8_latestOf_62 (by decide) (fun q32 => ?_) (fun q32 => ?_)
    · replace h := h.1 q32
      refine j_sub (lv' := []) [] rfl ?_
      exact jb_X8_latestOf_74 hc hm hr hh h
    · replace h := h.2 q32
      refine j_aload_nR hc 1 dX8_latestOf_65 rfl rfl ?_
      refine j_getR (c' := 62) hc fl_RX8_27 rfl rfl (fun hv => (sv_k hv hm rfl)) dX8_latestOf_66 ?_
      refine j_iload_n hc 2 dX8_latestOf_69 rfl rfl ?_
      obtain ⟨b30, h⟩ := h
      refine j_iald (jn := (Int.toNat a1)) hc (fun hv => sv_kl hv hm rfl) ca1 b30 rfl dX8_latestOf_70 (fun cn31 => ?_)
      refine j_goto (tgt := 75) hc dX8_latestOf_71 (by decide) ?_
      refine j_sub (lv' := []) [] rfl ?_
      exact jb_X8_latestOf_75 hc hm hr hh cn31 h
-- LitStrangers$Search.canReach(II)Z
theorem dX8_canReach_0 : decode cX8_canReach 0 = .ok (.aload_n 0, 1) := by decide +kernel
theorem dX8_canReach_1 : decode cX8_canReach 1 = .ok (.aload_n 0, 1) := by decide +kernel
theorem dX8_canReach_2 : decode cX8_canReach 2 = .ok (.getfield 37, 3) := by decide +kernel
theorem dX8_canReach_5 : decode cX8_canReach 5 = .ok (.getfield 58, 3) := by decide +kernel
theorem dX8_canReach_8 : decode cX8_canReach 8 = .ok (.iload_n 2, 1) := by decide +kernel
theorem dX8_canReach_9 : decode cX8_canReach 9 = .ok (.iload_n 1, 1) := by decide +kernel
theorem dX8_canReach_10 : decode cX8_canReach 10 = .ok (.invokevirtual 41, 3) := by decide +kernel
theorem dX8_canReach_13 : decode cX8_canReach 13 = .ok (.aload_n 0, 1) := by decide +kernel
theorem dX8_canReach_14 : decode cX8_canReach 14 = .ok (.iconst 1, 1) := by decide +kernel
theorem dX8_canReach_15 : decode cX8_canReach 15 = .ok (.putfield 65, 3) := by decide +kernel
theorem dX8_canReach_18 : decode cX8_canReach 18 = .ok (.aload_n 0, 1) := by decide +kernel
theorem dX8_canReach_19 : decode cX8_canReach 19 = .ok (.iconst 0, 1) := by decide +kernel
theorem dX8_canReach_20 : decode cX8_canReach 20 = .ok (.iconst 0, 1) := by decide +kernel
theorem dX8_canReach_21 : decode cX8_canReach 21 = .ok (.aload_n 0, 1) := by decide +kernel
theorem dX8_canReach_22 : decode cX8_canReach 22 = .ok (.getfield 37, 3) := by decide +kernel
theorem dX8_canReach_25 : decode cX8_canReach 25 = .ok (.getfield 45, 3) := by decide +kernel
theorem dX8_canReach_28 : decode cX8_canReach 28 = .ok (.iconst 0, 1) := by decide +kernel
theorem dX8_canReach_29 : decode cX8_canReach 29 = .ok (.invokevirtual 51, 3) := by decide +kernel
theorem dX8_canReach_32 : decode cX8_canReach 32 = .ok (.aload_n 0, 1) := by decide +kernel
theorem dX8_canReach_33 : decode cX8_canReach 33 = .ok (.getfield 55, 3) := by decide +kernel
theorem dX8_canReach_36 : decode cX8_canReach 36 = .ok (.iload_n 1, 1) := by decide +kernel
theorem dX8_canReach_37 : decode cX8_canReach 37 = .ok (.if_icmp .lt 7, 3) := by decide +kernel
theorem dX8_canReach_40 : decode cX8_canReach 40 = .ok (.iconst 1, 1) := by decide +kernel
theorem dX8_canReach_41 : decode cX8_canReach 41 = .ok (.goto 4, 3) := by decide +kernel
theorem dX8_canReach_44 : decode cX8_canReach 44 = .ok (.iconst 0, 1) := by decide +kernel
theorem dX8_canReach_45 : decode cX8_canReach 45 = .ok (.ireturn, 1) := by decide +kernel
def B_X8_canReach_45 (Q : Int → st_S → Prop)   (v0 : Int) (σ : st_S) : Prop := (v0 = 0 ∨ v0 = 1) ∧ Q v0 σ
def wp_X8_canReach (a1 : Int) (a2 : Int) (σ : st_S) (Q : Int → st_S → Prop) : Prop := wp_X8_set (gI σ 42 0) a2 a1 σ (fun s13 => ∀ s14 : st_S, s14 = sI s13 56 15 1 → wp_X8_climb 12 0 0 (gI s14 42 1) 0 s14 (fun s17 => (gI s17 56 13 < a1 → B_X8_canReach_45 Q 0 s17) ∧ (¬ gI s17 56 13 < a1 → B_X8_canReach_45 Q 1 s17)))
set_option maxRecDepth 20000 in
theorem jb_X8_canReach_45 {X : jj_X} {E : ev_E} {n0 hN : Nat} (hc : Cx X E cX8_canReach 3 n0 hN RX8) (hm : eM E = 1) (hr : (xT X).sig.returnType = (some .boolean)) (hh : 23 ≤ hN) {Q : Int → st_S → Prop} {v0 : Int} (cv0 : wr v0 = v0) {σ : st_S} (h : B_X8_canReach_45 Q v0 σ) : J X E 3 n0 0 0 (MQ (xB X) (qI E (n0 + 0) Q) (xA X) (xS X) 0 0 (eF E)) σ 45 [] [vI v0] := by
  have hh1 : 1 ≤ hN := by omega
  replace h : (v0 = 0 ∨ v0 = 1) ∧ Q v0 σ := h
  exact j_zret hc hr (nar_bool h.1) (by rcases h.1 with e | e <;> (rw [e]; decide)) h.2 dX8_canReach_45
set_option maxRecDepth 20000 in
theorem c_X8_canReach {l : Launch} {E : ev_E} (hE : Eok E) (hm : eM E = 1) {a1 : Int} {a2 : Int} (ca1 : wr a1 = a1) (ca2 : wr a2 = a2) {σ : st_S} {Q : Int → st_S → Prop} (h : wp_X8_canReach a1 a2 σ Q) : cM l yX8_canReach cX8_canReach 3 (some .boolean) E 23 0 0 [vR E 56, vI a1, vI a2] σ (qI E (gN σ + 0) Q) := by
  refine cM_of (lv := [(0, vR E 56), (1, vI a1), (2, vI a2)]) (by decide) hE (Nat.le_of_ble_eq_true rfl) (rfl) ?_
  intro X hX hc _ _ hr _ _
  subst hX
  have hh : 23 ≤ 23 := Nat.le_refl _
  have hh1 : 1 ≤ 23 := by omega
  replace h : wp_X8_set (gI σ 42 0) a2 a1 σ (fun s13 => ∀ s14 : st_S, s14 = sI s13 56 15 1 → wp_X8_climb 12 0 0 (gI s14 42 1) 0 s14 (fun s17 => (gI s17 56 13 < a1 → B_X8_canReach_45 Q 0 s17) ∧ (¬ gI s17 56 13 < a1 → B_X8_canReach_45 Q 1 s17))) := h
  refine j_aload_nR hc 0 dX8_canReach_0 rfl rfl ?_
  refine j_aload_nR hc 0 dX8_canReach_1 rfl rfl ?_
  refine j_getR (c' := 42) hc fl_RX8_37 rfl rfl (fun hv => (sv_k hv hm rfl)) dX8_canReach_2 ?_
  refine j_getI hc fl_RX8_58 (Or.inl rfl) (fun hv => Or.inl (sv_k hv hm rfl)) dX8_canReach_5 (fun cn11 => ?_)
  refine j_iload_n hc 2 dX8_canReach_8 rfl rfl ?_
  refine j_iload_n hc 1 dX8_canReach_9 rfl rfl ?_
  refine j_vV hc (k := 8) (by decide) (fun hv => Or.inl (sv_k hv hm rfl)) ml_RX8_41 mv_X8_set (As := [vI (gI σ 42 0), vI a2, vI a1]) (c_X8_set (cx_E hc) hm cn11 ca2 ca1 h) rfl (by omega) (by decide) ⟨Nat.zero_le _, Nat.zero_le _⟩ (Nat.le_of_ble_eq_true rfl) rfl dX8_canReach_10 (fun s13 h => ?_)
  refine j_aload_nR hc 0 dX8_canReach_13 rfl rfl ?_
  refine j_iconst hc dX8_canReach_14 ?_
  refine j_putZ hc fl_RX8_65 rfl rfl (fun hv => Or.inl (sv_k hv hm rfl)) (Or.inr rfl) dX8_canReach_15 (fun s14 es14 => ?_)
  replace h := h s14 es14
  refine j_aload_nR hc 0 dX8_canReach_18 rfl rfl ?_
  refine j_iconst hc dX8_canReach_19 ?_
  refine j_iconst hc dX8_canReach_20 ?_
  refine j_aload_nR hc 0 dX8_canReach_21 rfl rfl ?_
  refine j_getR (c' := 42) hc fl_RX8_37 rfl rfl (fun hv => (sv_k hv hm rfl)) dX8_canReach_22 ?_
  refine j_getI hc fl_RX8_45 (Or.inl rfl) (fun hv => Or.inl (sv_k hv hm rfl)) dX8_canReach_25 (fun cn15 => ?_)
  refine j_iconst hc dX8_canReach_28 ?_
  refine j_vV hc (k := 8) (by decide) (fun hv => Or.inl (sv_k hv hm rfl)) ml_RX8_51 mv_X8_climb (As := [vI 0, vI 0, vI (gI s14 42 1), vI 0]) (c_X8_climb (cx_E hc) hm 12 (wlit 0 (by decide)) (wlit 0 (by decide)) cn15 (wlit 0 (by decide)) h) rfl (by omega) (by decide) ⟨Nat.zero_le _, Nat.zero_le _⟩ (Nat.le_of_ble_eq_true rfl) rfl dX8_canReach_29 (fun s17 h => ?_)
  refine j_aload_nR hc 0 dX8_canReach_32 rfl rfl ?_
  refine j_getI hc fl_RX8_55 (Or.inl rfl) (fun hv => Or.inl (sv_k hv hm rfl)) dX8_canReach_33 (fun cn18 => ?_)
  refine j_iload_n hc 1 dX8_canReach_36 rfl rfl ?_
  refine j_ic_lt hc cn18 ca1 (tgt := 44) dX8_canReach_37 (by decide) (fun q19 => ?_) (fun q19 => ?_)
  · replace h := h.1 q19
    refine j_iconst hc dX8_canReach_44 ?_
    refine j_sub (lv' := []) [] rfl ?_
    exact jb_X8_canReach_45 hc hm hr hh (wlit 0 (by decide)) h
  · replace h := h.2 q19
    refine j_iconst hc dX8_canReach_40 ?_
    refine j_goto (tgt := 45) hc dX8_canReach_41 (by decide) ?_
    refine j_sub (lv' := []) [] rfl ?_
    exact jb_X8_canReach_45 hc hm hr hh (wlit 1 (by decide)) h
-- LitStrangers$Search.hushings(II)I
theorem dX8_hushings_0 : decode cX8_hushings 0 = .ok (.aload_n 0, 1) := by decide +kernel
theorem dX8_hushings_1 : decode cX8_hushings 1 = .ok (.getfield 37, 3) := by decide +kernel
theorem dX8_hushings_4 : decode cX8_hushings 4 = .ok (.invokevirtual 86, 3) := by decide +kernel
theorem dX8_hushings_7 : decode cX8_hushings 7 = .ok (.istore_n 3, 1) := by decide +kernel
theorem dX8_hushings_8 : decode cX8_hushings 8 = .ok (.iconst 0, 1) := by decide +kernel
theorem dX8_hushings_9 : decode cX8_hushings 9 = .ok (.istore 4, 2) := by decide +kernel
theorem dX8_hushings_11 : decode cX8_hushings 11 = .ok (.iconst 0, 1) := by decide +kernel
theorem dX8_hushings_12 : decode cX8_hushings 12 = .ok (.istore 5, 2) := by decide +kernel
theorem dX8_hushings_14 : decode cX8_hushings 14 = .ok (.iload 5, 2) := by decide +kernel
theorem dX8_hushings_16 : decode cX8_hushings 16 = .ok (.aload_n 0, 1) := by decide +kernel
theorem dX8_hushings_17 : decode cX8_hushings 17 = .ok (.getfield 37, 3) := by decide +kernel
theorem dX8_hushings_20 : decode cX8_hushings 20 = .ok (.invokevirtual 90, 3) := by decide +kernel
theorem dX8_hushings_23 : decode cX8_hushings 23 = .ok (.if_icmp .ge 58, 3) := by decide +kernel
theorem dX8_hushings_26 : decode cX8_hushings 26 = .ok (.iload 5, 2) := by decide +kernel
theorem dX8_hushings_28 : decode cX8_hushings 28 = .ok (.invokestatic 93, 3) := by decide +kernel
theorem dX8_hushings_31 : decode cX8_hushings 31 = .ok (.iload_n 2, 1) := by decide +kernel
theorem dX8_hushings_32 : decode cX8_hushings 32 = .ok (.if_icmp .ne 43, 3) := by decide +kernel
theorem dX8_hushings_35 : decode cX8_hushings 35 = .ok (.iload 5, 2) := by decide +kernel
theorem dX8_hushings_37 : decode cX8_hushings 37 = .ok (.iload_n 3, 1) := by decide +kernel
theorem dX8_hushings_38 : decode cX8_hushings 38 = .ok (.iconst (-1), 1) := by decide +kernel
theorem dX8_hushings_39 : decode cX8_hushings 39 = .ok (.ixor, 1) := by decide +kernel
theorem dX8_hushings_40 : decode cX8_hushings 40 = .ok (.iand, 1) := by decide +kernel
theorem dX8_hushings_41 : decode cX8_hushings 41 = .ok (.ifCond .ne 34, 3) := by decide +kernel
theorem dX8_hushings_44 : decode cX8_hushings 44 = .ok (.aload_n 0, 1) := by decide +kernel
theorem dX8_hushings_45 : decode cX8_hushings 45 = .ok (.iload_n 1, 1) := by decide +kernel
theorem dX8_hushings_46 : decode cX8_hushings 46 = .ok (.iload 5, 2) := by decide +kernel
theorem dX8_hushings_48 : decode cX8_hushings 48 = .ok (.invokevirtual 98, 3) := by decide +kernel
theorem dX8_hushings_51 : decode cX8_hushings 51 = .ok (.ifCond .eq 24, 3) := by decide +kernel
theorem dX8_hushings_54 : decode cX8_hushings 54 = .ok (.aload_n 0, 1) := by decide +kernel
theorem dX8_hushings_55 : decode cX8_hushings 55 = .ok (.iload 4, 2) := by decide +kernel
theorem dX8_hushings_57 : decode cX8_hushings 57 = .ok (.ifCond .ne 8, 3) := by decide +kernel
theorem dX8_hushings_60 : decode cX8_hushings 60 = .ok (.iload 5, 2) := by decide +kernel
theorem dX8_hushings_62 : decode cX8_hushings 62 = .ok (.goto 7, 3) := by decide +kernel
theorem dX8_hushings_65 : decode cX8_hushings 65 = .ok (.aload_n 0, 1) := by decide +kernel
theorem dX8_hushings_66 : decode cX8_hushings 66 = .ok (.getfield 102, 3) := by decide +kernel
theorem dX8_hushings_69 : decode cX8_hushings 69 = .ok (.putfield 102, 3) := by decide +kernel
theorem dX8_hushings_72 : decode cX8_hushings 72 = .ok (.iinc 4 1, 3) := by decide +kernel
theorem dX8_hushings_75 : decode cX8_hushings 75 = .ok (.iinc 5 1, 3) := by decide +kernel
theorem dX8_hushings_78 : decode cX8_hushings 78 = .ok (.goto (-64), 3) := by decide +kernel
theorem dX8_hushings_81 : decode cX8_hushings 81 = .ok (.iload 4, 2) := by decide +kernel
theorem dX8_hushings_83 : decode cX8_hushings 83 = .ok (.ireturn, 1) := by decide +kernel
def B_X8_hushings_75 (Q : Int → st_S → Prop)  (k14 : Int → Int → Int → Int → Int → st_S → Prop) (l1 : Int) (l2 : Int) (l3 : Int) (l4 : Int) (l5 : Int) (σ : st_S) : Prop := ∀ x17 : Int, x17 = wr (l5 + 1) → k14 l1 l2 l3 l4 x17 σ
def B_X8_hushings_69 (Q : Int → st_S → Prop)  (k14 : Int → Int → Int → Int → Int → st_S → Prop) (l1 : Int) (l2 : Int) (l3 : Int) (l4 : Int) (l5 : Int) (v0 : Int) (σ : st_S) : Prop := ∀ s18 : st_S, s18 = sI σ 56 0 v0 → ∀ x19 : Int, x19 = wr (l4 + 1) → B_X8_hushings_75 Q k14 l1 l2 l3 x19 l5 s18
def L_X8_hushings_14 (Q : Int → st_S → Prop)   : Nat → Int → Int → Int → Int → Int → st_S → Prop
  | 0 => fun _ _ _ _ _ _ => False
  | n + 1 => fun l1 l2 l3 l4 l5 σ => wp_X5_sets σ (fun r20 s21 => (r20 ≤ l5 → Q l4 s21) ∧ (¬ r20 ≤ l5 → wp_J6_bitCount_0f7a4 l5 s21 (fun r22 s23 => (¬ r22 = l2 → B_X8_hushings_75 Q (L_X8_hushings_14 Q n) l1 l2 l3 l4 l5 s23) ∧ (r22 = l2 → (¬ o_and l5 (o_xor l3 (-1)) = 0 → B_X8_hushings_75 Q (L_X8_hushings_14 Q n) l1 l2 l3 l4 l5 s23) ∧ (o_and l5 (o_xor l3 (-1)) = 0 → wp_X8_canReach l1 l5 s23 (fun r24 s25 => (r24 = 0 → B_X8_hushings_75 Q (L_X8_hushings_14 Q n) l1 l2 l3 l4 l5 s25) ∧ (¬ r24 = 0 → (¬ l4 = 0 → B_X8_hushings_69 Q (L_X8_hushings_14 Q n) l1 l2 l3 l4 l5 (gI s25 56 0) s25) ∧ (l4 = 0 → B_X8_hushings_69 Q (L_X8_hushings_14 Q n) l1 l2 l3 l4 l5 l5 s25))))))))
def wp_X8_hushings (a1 : Int) (a2 : Int) (σ : st_S) (Q : Int → st_S → Prop) : Prop := wp_X5_thoseWhoMatter σ (fun r32 s33 => ∃ m14 : Nat, L_X8_hushings_14 Q m14 a1 a2 r32 0 0 s33)
set_option maxRecDepth 20000 in
theorem jb_X8_hushings_75 {X : jj_X} {E : ev_E} {n0 hN : Nat} (hc : Cx X E cX8_hushings 6 n0 hN RX8) (hm : eM E = 1) (hr : (xT X).sig.returnType = (some .int)) (hh : 24 ≤ hN) {Q : Int → st_S → Prop} {k14 : Int → Int → Int → Int → Int → st_S → Prop} (hk14 : ∀ {l1 : Int} {l2 : Int} {l3 : Int} {l4 : Int} {l5 : Int} (cl1 : wr l1 = l1) (cl2 : wr l2 = l2) (cl3 : wr l3 = l3) (cl4 : wr l4 = l4) (cl5 : wr l5 = l5) {σ : st_S}, k14 l1 l2 l3 l4 l5 σ → J X E 6 n0 0 0 (MQ (xB X) (qI E (n0 + 0) Q) (xA X) (xS X) 0 0 (eF E)) σ 14 [(0, vR E 56), (1, vI l1), (2, vI l2), (3, vI l3), (4, vI l4), (5, vI l5)] []) {l1 : Int} {l2 : Int} {l3 : Int} {l4 : Int} {l5 : Int} (cl1 : wr l1 = l1) (cl2 : wr l2 = l2) (cl3 : wr l3 = l3) (cl4 : wr l4 = l4) (cl5 : wr l5 = l5) {σ : st_S} (h : B_X8_hushings_75 Q k14 l1 l2 l3 l4 l5 σ) : J X E 6 n0 0 0 (MQ (xB X) (qI E (n0 + 0) Q) (xA X) (xS X) 0 0 (eF E)) σ 75 [(0, vR E 56), (1, vI l1), (2, vI l2), (3, vI l3), (4, vI l4), (5, vI l5)] [] := by
  have hh1 : 1 ≤ hN := by omega
  replace h : ∀ x17 : Int, x17 = wr (l5 + 1) → k14 l1 l2 l3 l4 x17 σ := h
  obtain ⟨x17, ex17⟩ : ∃ y : Int, y = wr (l5 + 1) := ⟨_, rfl⟩
  have cx17 : wr x17 = x17 := by rw [ex17]; exact wr_wr _
  replace h := h x17 ex17
  refine j_iinc (lv' := [(5, vI x17), (0, vR E 56), (1, vI l1), (2, vI l2), (3, vI l3), (4, vI l4)]) hc 5 dX8_hushings_75 rfl (by decide) ex17 rfl ?_
  refine j_goto (tgt := 14) hc dX8_hushings_78 (by decide) ?_
  refine j_sub (lv' := [(0, vR E 56), (1, vI l1), (2, vI l2), (3, vI l3), (4, vI l4), (5, vI x17)]) [1, 2, 3, 4, 5, 0] rfl ?_
  exact hk14 cl1 cl2 cl3 cl4 cx17 h
set_option maxRecDepth 20000 in
theorem jb_X8_hushings_69 {X : jj_X} {E : ev_E} {n0 hN : Nat} (hc : Cx X E cX8_hushings 6 n0 hN RX8) (hm : eM E = 1) (hr : (xT X).sig.returnType = (some .int)) (hh : 24 ≤ hN) {Q : Int → st_S → Prop} {k14 : Int → Int → Int → Int → Int → st_S → Prop} (hk14 : ∀ {l1 : Int} {l2 : Int} {l3 : Int} {l4 : Int} {l5 : Int} (cl1 : wr l1 = l1) (cl2 : wr l2 = l2) (cl3 : wr l3 = l3) (cl4 : wr l4 = l4) (cl5 : wr l5 = l5) {σ : st_S}, k14 l1 l2 l3 l4 l5 σ → J X E 6 n0 0 0 (MQ (xB X) (qI E (n0 + 0) Q) (xA X) (xS X) 0 0 (eF E)) σ 14 [(0, vR E 56), (1, vI l1), (2, vI l2), (3, vI l3), (4, vI l4), (5, vI l5)] []) {l1 : Int} {l2 : Int} {l3 : Int} {l4 : Int} {l5 : Int} {v0 : Int} (cl1 : wr l1 = l1) (cl2 : wr l2 = l2) (cl3 : wr l3 = l3) (cl4 : wr l4 = l4) (cl5 : wr l5 = l5) (cv0 : wr v0 = v0) {σ : st_S} (h : B_X8_hushings_69 Q k14 l1 l2 l3 l4 l5 v0 σ) : J X E 6 n0 0 0 (MQ (xB X) (qI E (n0 + 0) Q) (xA X) (xS X) 0 0 (eF E)) σ 69 [(0, vR E 56), (1, vI l1), (2, vI l2), (3, vI l3), (4, vI l4), (5, vI l5)] [vI v0, vR E 56] := by
  have hh1 : 1 ≤ hN := by omega
  replace h : ∀ s18 : st_S, s18 = sI σ 56 0 v0 → ∀ x19 : Int, x19 = wr (l4 + 1) → B_X8_hushings_75 Q k14 l1 l2 l3 x19 l5 s18 := h
  refine j_putI hc fl_RX8_102 rfl rfl (fun hv => Or.inl (sv_k hv hm rfl)) cv0 dX8_hushings_69 (fun s18 es18 => ?_)
  replace h := h s18 es18
  obtain ⟨x19, ex19⟩ : ∃ y : Int, y = wr (l4 + 1) := ⟨_, rfl⟩
  have cx19 : wr x19 = x19 := by rw [ex19]; exact wr_wr _
  replace h := h x19 ex19
  refine j_iinc (lv' := [(4, vI x19), (0, vR E 56), (1, vI l1), (2, vI l2), (3, vI l3), (5, vI l5)]) hc 4 dX8_hushings_72 rfl (by decide) ex19 rfl ?_
  refine j_sub (lv' := [(0, vR E 56), (1, vI l1), (2, vI l2), (3, vI l3), (4, vI x19), (5, vI l5)]) [1, 2, 3, 4, 0, 5] rfl ?_
  exact jb_X8_hushings_75 hc hm hr hh hk14 cl1 cl2 cl3 cx19 cl5 h
set_option maxRecDepth 20000 in
theorem jl_X8_hushings_14 {X : jj_X} {E : ev_E} {n0 hN : Nat} (hc : Cx X E cX8_hushings 6 n0 hN RX8) (hm : eM E = 1) (hr : (xT X).sig.returnType = (some .int)) (hh : 24 ≤ hN) {Q : Int → st_S → Prop} : ∀ (n : Nat) {l1 : Int} {l2 : Int} {l3 : Int} {l4 : Int} {l5 : Int} (cl1 : wr l1 = l1) (cl2 : wr l2 = l2) (cl3 : wr l3 = l3) (cl4 : wr l4 = l4) (cl5 : wr l5 = l5) {σ : st_S}, L_X8_hushings_14 Q n l1 l2 l3 l4 l5 σ → J X E 6 n0 0 0 (MQ (xB X) (qI E (n0 + 0) Q) (xA X) (xS X) 0 0 (eF E)) σ 14 [(0, vR E 56), (1, vI l1), (2, vI l2), (3, vI l3), (4, vI l4), (5, vI l5)] [] := by
  have hh1 : 1 ≤ hN := by omega
  intro n
  induction n with
  | zero => intro l1 l2 l3 l4 l5 cl1 cl2 cl3 cl4 cl5 σ h; exact h.elim
  | succ n ih =>
    intro l1 l2 l3 l4 l5 cl1 cl2 cl3 cl4 cl5 σ h
    have hk14 : ∀ {l1 : Int} {l2 : Int} {l3 : Int} {l4 : Int} {l5 : Int} (cl1 : wr l1 = l1) (cl2 : wr l2 = l2) (cl3 : wr l3 = l3) (cl4 : wr l4 = l4) (cl5 : wr l5 = l5) {σ : st_S}, L_X8_hushings_14 Q n l1 l2 l3 l4 l5 σ → J X E 6 n0 0 0 (MQ (xB X) (qI E (n0 + 0) Q) (xA X) (xS X) 0 0 (eF E)) σ 14 [(0, vR E 56), (1, vI l1), (2, vI l2), (3, vI l3), (4, vI l4), (5, vI l5)] [] := ih
    replace h : wp_X5_sets σ (fun r20 s21 => (r20 ≤ l5 → Q l4 s21) ∧ (¬ r20 ≤ l5 → wp_J6_bitCount_0f7a4 l5 s21 (fun r22 s23 => (¬ r22 = l2 → B_X8_hushings_75 Q (L_X8_hushings_14 Q n) l1 l2 l3 l4 l5 s23) ∧ (r22 = l2 → (¬ o_and l5 (o_xor l3 (-1)) = 0 → B_X8_hushings_75 Q (L_X8_hushings_14 Q n) l1 l2 l3 l4 l5 s23) ∧ (o_and l5 (o_xor l3 (-1)) = 0 → wp_X8_canReach l1 l5 s23 (fun r24 s25 => (r24 = 0 → B_X8_hushings_75 Q (L_X8_hushings_14 Q n) l1 l2 l3 l4 l5 s25) ∧ (¬ r24 = 0 → (¬ l4 = 0 → B_X8_hushings_69 Q (L_X8_hushings_14 Q n) l1 l2 l3 l4 l5 (gI s25 56 0) s25) ∧ (l4 = 0 → B_X8_hushings_69 Q (L_X8_hushings_14 Q n) l1 l2 l3 l4 l5 l5 s25)))))))) := h
    refine j_iload hc 5 dX8_hushings_14 rfl ?_
    refine j_aload_nR hc 0 dX8_hushings_16 rfl rfl ?_
    refine j_getR (c' := 42) hc fl_RX8_37 rfl rfl (fun hv => (sv_k hv hm rfl)) dX8_hushings_17 ?_
    refine j_vI hc (k := 5) (by decide) (fun hv => Or.inl (sv_k hv hm rfl)) ml_RX8_90 mv_X5_sets (As := []) (c_X5_sets (cx_E hc) hm  h) rfl (by omega) (by decide) ⟨Nat.zero_le _, Nat.zero_le _⟩ (Nat.le_of_ble_eq_true rfl) rfl dX8_hushings_20 (fun r20 s21 cr20 h => ?_)
    refine j_ic_ge hc cl5 cr20 (tgt := 81) dX8_hushings_23 (by decide) (fun q31 => ?_) (fun q31 => ?_)
    · replace h := h.1 q31
      refine j_iload hc 4 dX8_hushings_81 rfl ?_
      exact j_iret hc hr cl4 h dX8_hushings_83
    · replace h := h.2 q31
      refine j_iload hc 5 dX8_hushings_26 rfl ?_
      refine j_sI hc ml_RX8_93 mv_J6_bitCount_0f7a4 (As := [vI l5]) (c_J6_bitCount_0f7a4 (cx_E hc) cl5 h) rfl (by omega) (by decide) ⟨Nat.zero_le _, Nat.zero_le _⟩ (Nat.le_of_ble_eq_true rfl) rfl dX8_hushings_28 (fun r22 s23 cr22 h => ?_)
      refine j_iload_n hc 2 dX8_hushings_31 rfl rfl ?_
      refine j_ic_ne hc cr22 cl2 (tgt := 75) dX8_hushings_32 (by decide) (fun q30 => ?_) (fun q30 => ?_)
      · replace h := h.1 q30
        refine j_sub (lv' := [(0, vR E 56), (1, vI l1), (2, vI l2), (3, vI l3), (4, vI l4), (5, vI l5)]) [0, 1, 2, 3, 4, 5] rfl ?_
        exact jb_X8_hushings_75 hc hm hr hh hk14 cl1 cl2 cl3 cl4 cl5 h
      · replace h := h.2 q30
        refine j_iload hc 5 dX8_hushings_35 rfl ?_
        refine j_iload_n hc 3 dX8_hushings_37 rfl rfl ?_
        refine j_iconst hc dX8_hushings_38 ?_
        refine j_ixor hc dX8_hushings_39 ?_
        refine j_iand hc dX8_hushings_40 ?_
        refine j_if_ne hc (cn_and _ _) (tgt := 75) dX8_hushings_41 (by decide) (fun q29 => ?_) (fun q29 => ?_)
        · replace h := h.1 q29
          refine j_sub (lv' := [(0, vR E 56), (1, vI l1), (2, vI l2), (3, vI l3), (4, vI l4), (5, vI l5)]) [0, 1, 2, 3, 4, 5] rfl ?_
          exact jb_X8_hushings_75 hc hm hr hh hk14 cl1 cl2 cl3 cl4 cl5 h
        · replace h := h.2 q29
          refine j_aload_nR hc 0 dX8_hushings_44 rfl rfl ?_
          refine j_iload_n hc 1 dX8_hushings_45 rfl rfl ?_
          refine j_iload hc 5 dX8_hushings_46 rfl ?_
          refine j_vI hc (k := 8) (by decide) (fun hv => Or.inl (sv_k hv hm rfl)) ml_RX8_98 mv_X8_canReach (As := [vI l1, vI l5]) (c_X8_canReach (cx_E hc) hm cl1 cl5 h) rfl (by omega) (by decide) ⟨Nat.zero_le _, Nat.zero_le _⟩ (Nat.le_of_ble_eq_true rfl) rfl dX8_hushings_48 (fun r24 s25 cr24 h => ?_)
          refine j_if_eq hc cr24 (tgt := 75) dX8_hushings_51 (by decide) (fun q28 => ?_) (fun q28 => ?_)
          · replace h := h.1 q28
            refine j_sub (lv' := [(0, vR E 56), (1, vI l1), (2, vI l2), (3, vI l3), (4, vI l4), (5, vI l5)]) [0, 1, 2, 3, 4, 5] rfl ?_
            exact jb_X8_hushings_75 hc hm hr hh hk14 cl1 cl2 cl3 cl4 cl5 h
          · replace h := h.2 q28
            refine j_aload_nR hc 0 dX8_hushings_54 rfl rfl ?_
            refine j_iload hc 4 dX8_hushings_55 rfl ?_
            refine j_if_ne hc cl4 (tgt := 65) dX8_hushings_57 (by decide) (fun q27 => ?_) (fun q27 => ?_)
            · replace h := h.1 q27
              refine j_aload_nR hc 0 dX8_hushings_65 rfl rfl ?_
              refine j_getI hc fl_RX8_102 (Or.inl rfl) (fun hv => Or.inl (sv_k hv hm rfl)) dX8_hushings_66 (fun cn26 => ?_)
              refine j_sub (lv' := [(0, vR E 56), (1, vI l1), (2, vI l2), (3, vI l3), (4, vI l4), (5, vI l5)]) [0, 1, 2, 3, 4, 5] rfl ?_
              exact jb_X8_hushings_69 hc hm hr hh hk14 cl1 cl2 cl3 cl4 cl5 cn26 h
            · replace h := h.2 q27
              refine j_iload hc 5 dX8_hushings_60 rfl ?_
              refine j_goto (tgt := 69) hc dX8_hushings_62 (by decide) ?_
              refine j_sub (lv' := [(0, vR E 56), (1, vI l1), (2, vI l2), (3, vI l3), (4, vI l4), (5, vI l5)]) [0, 1, 2, 3, 4, 5] rfl ?_
              exact jb_X8_hushings_69 hc hm hr hh hk14 cl1 cl2 cl3 cl4 cl5 cl5 h
set_option maxRecDepth 20000 in
theorem c_X8_hushings {l : Launch} {E : ev_E} (hE : Eok E) (hm : eM E = 1) {a1 : Int} {a2 : Int} (ca1 : wr a1 = a1) (ca2 : wr a2 = a2) {σ : st_S} {Q : Int → st_S → Prop} (h : wp_X8_hushings a1 a2 σ Q) : cM l yX8_hushings cX8_hushings 6 (some .int) E 24 0 0 [vR E 56, vI a1, vI a2] σ (qI E (gN σ + 0) Q) := by
  refine cM_of (lv := [(0, vR E 56), (1, vI a1), (2, vI a2)]) (by decide) hE (Nat.le_of_ble_eq_true rfl) (rfl) ?_
  intro X hX hc _ _ hr _ _
  subst hX
  have hh : 24 ≤ 24 := Nat.le_refl _
  have hh1 : 1 ≤ 24 := by omega
  replace h : wp_X5_thoseWhoMatter σ (fun r32 s33 => ∃ m14 : Nat, L_X8_hushings_14 Q m14 a1 a2 r32 0 0 s33) := h
  refine j_aload_nR hc 0 dX8_hushings_0 rfl rfl ?_
  refine j_getR (c' := 42) hc fl_RX8_37 rfl rfl (fun hv => (sv_k hv hm rfl)) dX8_hushings_1 ?_
  refine j_vI hc (k := 5) (by decide) (fun hv => Or.inl (sv_k hv hm rfl)) ml_RX8_86 mv_X5_thoseWhoMatter (As := []) (c_X5_thoseWhoMatter (cx_E hc) hm  h) rfl (by omega) (by decide) ⟨Nat.zero_le _, Nat.zero_le _⟩ (Nat.le_of_ble_eq_true rfl) rfl dX8_hushings_4 (fun r32 s33 cr32 h => ?_)
  refine j_istore_n (lv' := [(3, vI r32), (0, vR E 56), (1, vI a1), (2, vI a2)]) hc dX8_hushings_7 rfl (by decide) rfl ?_
  refine j_iconst hc dX8_hushings_8 ?_
  refine j_istore (lv' := [(4, vI 0), (3, vI r32), (0, vR E 56), (1, vI a1), (2, vI a2)]) hc dX8_hushings_9 (by decide) rfl ?_
  refine j_iconst hc dX8_hushings_11 ?_
  refine j_istore (lv' := [(5, vI 0), (4, vI 0), (3, vI r32), (0, vR E 56), (1, vI a1), (2, vI a2)]) hc dX8_hushings_12 (by decide) rfl ?_
  obtain ⟨n14, h⟩ := h
  refine j_sub (lv' := [(0, vR E 56), (1, vI a1), (2, vI a2), (3, vI r32), (4, vI 0), (5, vI 0)]) [3, 4, 5, 2, 1, 0] rfl ?_
  exact jl_X8_hushings_14 hc hm hr hh n14 ca1 ca2 cr32 (wlit 0 (by decide)) (wlit 0 (by decide)) h
-- LitStrangers$Search.spread(II)V
theorem dX8_spread_0 : decode cX8_spread 0 = .ok (.aload_n 0, 1) := by decide +kernel
theorem dX8_spread_1 : decode cX8_spread 1 = .ok (.getfield 37, 3) := by decide +kernel
theorem dX8_spread_4 : decode cX8_spread 4 = .ok (.iload_n 1, 1) := by decide +kernel
theorem dX8_spread_5 : decode cX8_spread 5 = .ok (.aload_n 0, 1) := by decide +kernel
theorem dX8_spread_6 : decode cX8_spread 6 = .ok (.getfield 37, 3) := by decide +kernel
theorem dX8_spread_9 : decode cX8_spread 9 = .ok (.getfield 58, 3) := by decide +kernel
theorem dX8_spread_12 : decode cX8_spread 12 = .ok (.iload_n 2, 1) := by decide +kernel
theorem dX8_spread_13 : decode cX8_spread 13 = .ok (.iconst (-1), 1) := by decide +kernel
theorem dX8_spread_14 : decode cX8_spread 14 = .ok (.ixor, 1) := by decide +kernel
theorem dX8_spread_15 : decode cX8_spread 15 = .ok (.iand, 1) := by decide +kernel
theorem dX8_spread_16 : decode cX8_spread 16 = .ok (.aload_n 0, 1) := by decide +kernel
theorem dX8_spread_17 : decode cX8_spread 17 = .ok (.getfield 37, 3) := by decide +kernel
theorem dX8_spread_20 : decode cX8_spread 20 = .ok (.aload_n 0, 1) := by decide +kernel
theorem dX8_spread_21 : decode cX8_spread 21 = .ok (.getfield 37, 3) := by decide +kernel
theorem dX8_spread_24 : decode cX8_spread 24 = .ok (.getfield 45, 3) := by decide +kernel
theorem dX8_spread_27 : decode cX8_spread 27 = .ok (.iload_n 2, 1) := by decide +kernel
theorem dX8_spread_28 : decode cX8_spread 28 = .ok (.iconst 0, 1) := by decide +kernel
theorem dX8_spread_29 : decode cX8_spread 29 = .ok (.invokevirtual 112, 3) := by decide +kernel
theorem dX8_spread_32 : decode cX8_spread 32 = .ok (.invokevirtual 116, 3) := by decide +kernel
theorem dX8_spread_35 : decode cX8_spread 35 = .ok (.istore_n 3, 1) := by decide +kernel
theorem dX8_spread_36 : decode cX8_spread 36 = .ok (.iconst 0, 1) := by decide +kernel
theorem dX8_spread_37 : decode cX8_spread 37 = .ok (.istore 4, 2) := by decide +kernel
theorem dX8_spread_39 : decode cX8_spread 39 = .ok (.iload 4, 2) := by decide +kernel
theorem dX8_spread_41 : decode cX8_spread 41 = .ok (.iload_n 3, 1) := by decide +kernel
theorem dX8_spread_42 : decode cX8_spread 42 = .ok (.if_icmp .ge 35, 3) := by decide +kernel
theorem dX8_spread_45 : decode cX8_spread 45 = .ok (.aload_n 0, 1) := by decide +kernel
theorem dX8_spread_46 : decode cX8_spread 46 = .ok (.getfield 34, 3) := by decide +kernel
theorem dX8_spread_49 : decode cX8_spread 49 = .ok (.iload_n 2, 1) := by decide +kernel
theorem dX8_spread_50 : decode cX8_spread 50 = .ok (.aload_n 0, 1) := by decide +kernel
theorem dX8_spread_51 : decode cX8_spread 51 = .ok (.getfield 37, 3) := by decide +kernel
theorem dX8_spread_54 : decode cX8_spread 54 = .ok (.iload_n 1, 1) := by decide +kernel
theorem dX8_spread_55 : decode cX8_spread 55 = .ok (.iload 4, 2) := by decide +kernel
theorem dX8_spread_57 : decode cX8_spread 57 = .ok (.invokevirtual 119, 3) := by decide +kernel
theorem dX8_spread_60 : decode cX8_spread 60 = .ok (.ior, 1) := by decide +kernel
theorem dX8_spread_61 : decode cX8_spread 61 = .ok (.dup2, 1) := by decide +kernel
theorem dX8_spread_62 : decode cX8_spread 62 = .ok (.laload, 1) := by decide +kernel
theorem dX8_spread_63 : decode cX8_spread 63 = .ok (.aload_n 0, 1) := by decide +kernel
theorem dX8_spread_64 : decode cX8_spread 64 = .ok (.getfield 30, 3) := by decide +kernel
theorem dX8_spread_67 : decode cX8_spread 67 = .ok (.iload_n 2, 1) := by decide +kernel
theorem dX8_spread_68 : decode cX8_spread 68 = .ok (.laload, 1) := by decide +kernel
theorem dX8_spread_69 : decode cX8_spread 69 = .ok (.ladd, 1) := by decide +kernel
theorem dX8_spread_70 : decode cX8_spread 70 = .ok (.lastore, 1) := by decide +kernel
theorem dX8_spread_71 : decode cX8_spread 71 = .ok (.iinc 4 1, 3) := by decide +kernel
theorem dX8_spread_74 : decode cX8_spread 74 = .ok (.goto (-35), 3) := by decide +kernel
theorem dX8_spread_77 : decode cX8_spread 77 = .ok (.return_, 1) := by decide +kernel
def L_X8_spread_39 (Q : st_S → Prop)   : Nat → Int → Int → Int → Int → st_S → Prop
  | 0 => fun _ _ _ _ _ => False
  | n + 1 => fun l1 l2 l3 l4 σ => (l3 ≤ l4 → Q σ) ∧ (¬ l3 ≤ l4 → ∃ t24 : Nat, gR σ 56 9 = some t24 ∧ wp_X5_crewAt l1 l4 σ (fun r25 s26 => gK s26 t24 = 1 ∧ ix (o_or l2 r25) (gL s26 t24) ∧ ∃ t30 : Nat, gR s26 56 8 = some t30 ∧ gK s26 t30 = 1 ∧ ix l2 (gL s26 t30) ∧ ∀ x34 : Int, x34 = wl (gI s26 t24 (Int.toNat (o_or l2 r25)) + gI s26 t30 (Int.toNat l2)) → ix (o_or l2 r25) (gL s26 t24) ∧ ∀ s36 : st_S, s36 = sI s26 t24 (Int.toNat (o_or l2 r25)) x34 → ∀ x37 : Int, x37 = wr (l4 + 1) → (L_X8_spread_39 Q n) l1 l2 l3 x37 s36))
def wp_X8_spread (a1 : Int) (a2 : Int) (σ : st_S) (Q : st_S → Prop) : Prop := wp_X5_spoiled (gI σ 42 1) a2 0 σ (fun r41 s42 => wp_X5_list a1 (o_and (gI σ 42 0) (o_xor a2 (-1))) r41 s42 (fun r43 s44 => ∃ m39 : Nat, L_X8_spread_39 Q m39 a1 a2 r43 0 s44))
set_option maxRecDepth 20000 in
theorem jl_X8_spread_39 {X : jj_X} {E : ev_E} {n0 hN : Nat} (hc : Cx X E cX8_spread 5 n0 hN RX8) (hm : eM E = 1) (hr : (xT X).sig.returnType = none) (hh : 10 ≤ hN) {Q : st_S → Prop} : ∀ (n : Nat) {l1 : Int} {l2 : Int} {l3 : Int} {l4 : Int} (cl1 : wr l1 = l1) (cl2 : wr l2 = l2) (cl3 : wr l3 = l3) (cl4 : wr l4 = l4) {σ : st_S}, L_X8_spread_39 Q n l1 l2 l3 l4 σ → J X E 5 n0 0 0 (MQ (xB X) (qV E (n0 + 0) Q) (xA X) (xS X) 0 0 (eF E)) σ 39 [(0, vR E 56), (1, vI l1), (2, vI l2), (3, vI l3), (4, vI l4)] [] := by
  have hh1 : 1 ≤ hN := by omega
  intro n
  induction n with
  | zero => intro l1 l2 l3 l4 cl1 cl2 cl3 cl4 σ h; exact h.elim
  | succ n ih =>
    intro l1 l2 l3 l4 cl1 cl2 cl3 cl4 σ h
    have hk39 : ∀ {l1 : Int} {l2 : Int} {l3 : Int} {l4 : Int} (cl1 : wr l1 = l1) (cl2 : wr l2 = l2) (cl3 : wr l3 = l3) (cl4 : wr l4 = l4) {σ : st_S}, L_X8_spread_39 Q n l1 l2 l3 l4 σ → J X E 5 n0 0 0 (MQ (xB X) (qV E (n0 + 0) Q) (xA X) (xS X) 0 0 (eF E)) σ 39 [(0, vR E 56), (1, vI l1), (2, vI l2), (3, vI l3), (4, vI l4)] [] := ih
    replace h : (l3 ≤ l4 → Q σ) ∧ (¬ l3 ≤ l4 → ∃ t24 : Nat, gR σ 56 9 = some t24 ∧ wp_X5_crewAt l1 l4 σ (fun r25 s26 => gK s26 t24 = 1 ∧ ix (o_or l2 r25) (gL s26 t24) ∧ ∃ t30 : Nat, gR s26 56 8 = some t30 ∧ gK s26 t30 = 1 ∧ ix l2 (gL s26 t30) ∧ ∀ x34 : Int, x34 = wl (gI s26 t24 (Int.toNat (o_or l2 r25)) + gI s26 t30 (Int.toNat l2)) → ix (o_or l2 r25) (gL s26 t24) ∧ ∀ s36 : st_S, s36 = sI s26 t24 (Int.toNat (o_or l2 r25)) x34 → ∀ x37 : Int, x37 = wr (l4 + 1) → (L_X8_spread_39 Q n) l1 l2 l3 x37 s36)) := h
    refine j_iload hc 4 dX8_spread_39 rfl ?_
    refine j_iload_n hc 3 dX8_spread_41 rfl rfl ?_
    refine j_ic_ge hc cl4 cl3 (tgt := 77) dX8_spread_42 (by decide) (fun q38 => ?_) (fun q38 => ?_)
    · replace h := h.1 q38
      exact j_vret hc hr h dX8_spread_77
    · replace h := h.2 q38
      refine j_aload_nR hc 0 dX8_spread_45 rfl rfl ?_
      refine j_getO hc fl_RX8_34 rfl (fun hv => Or.inl (sv_k hv hm rfl)) dX8_spread_46 ?_
      obtain ⟨t24, et24, h⟩ := h
      refine j_some et24 ?_
      refine j_iload_n hc 2 dX8_spread_49 rfl rfl ?_
      refine j_aload_nR hc 0 dX8_spread_50 rfl rfl ?_
      refine j_getR (c' := 42) hc fl_RX8_37 rfl rfl (fun hv => (sv_k hv hm rfl)) dX8_spread_51 ?_
      refine j_iload_n hc 1 dX8_spread_54 rfl rfl ?_
      refine j_iload hc 4 dX8_spread_55 rfl ?_
      refine j_vI hc (k := 5) (by decide) (fun hv => Or.inl (sv_k hv hm rfl)) ml_RX8_119 mv_X5_crewAt (As := [vI l1, vI l4]) (c_X5_crewAt (cx_E hc) hm cl1 cl4 h) rfl (by omega) (by decide) ⟨Nat.zero_le _, Nat.zero_le _⟩ (Nat.le_of_ble_eq_true rfl) rfl dX8_spread_57 (fun r25 s26 cr25 h => ?_)
      refine j_ior hc dX8_spread_60 ?_
      refine j_dup2 hc dX8_spread_61 rfl rfl ?_
      obtain ⟨f27, h⟩ := h
      obtain ⟨b28, h⟩ := h
      refine j_lald (jn := (Int.toNat (o_or l2 r25))) hc (fun _ => ⟨f27, rfl⟩) (cn_or _ _) b28 rfl dX8_spread_62 (fun cn29 => ?_)
      refine j_aload_nR hc 0 dX8_spread_63 rfl rfl ?_
      refine j_getO hc fl_RX8_30 rfl (fun hv => Or.inl (sv_k hv hm rfl)) dX8_spread_64 ?_
      obtain ⟨t30, et30, h⟩ := h
      refine j_some et30 ?_
      refine j_iload_n hc 2 dX8_spread_67 rfl rfl ?_
      obtain ⟨f31, h⟩ := h
      obtain ⟨b32, h⟩ := h
      refine j_lald (jn := (Int.toNat l2)) hc (fun _ => ⟨f31, rfl⟩) cl2 b32 rfl dX8_spread_68 (fun cn33 => ?_)
      refine j_ladd hc dX8_spread_69 ?_
      refine j_wl (fun x34 ex34 cx34 => ?_)
      replace h := h x34 ex34
      obtain ⟨b35, h⟩ := h
      refine j_last (jn := (Int.toNat (o_or l2 r25))) hc (fun _ => ⟨f27, rfl⟩) (cn_or _ _) b35 rfl cx34 dX8_spread_70 (fun s36 es36 => ?_)
      replace h := h s36 es36
      obtain ⟨x37, ex37⟩ : ∃ y : Int, y = wr (l4 + 1) := ⟨_, rfl⟩
      have cx37 : wr x37 = x37 := by rw [ex37]; exact wr_wr _
      replace h := h x37 ex37
      refine j_iinc (lv' := [(4, vI x37), (0, vR E 56), (1, vI l1), (2, vI l2), (3, vI l3)]) hc 4 dX8_spread_71 rfl (by decide) ex37 rfl ?_
      refine j_goto (tgt := 39) hc dX8_spread_74 (by decide) ?_
      refine j_sub (lv' := [(0, vR E 56), (1, vI l1), (2, vI l2), (3, vI l3), (4, vI x37)]) [1, 2, 3, 4, 0] rfl ?_
      exact hk39 cl1 cl2 cl3 cx37 h
set_option maxRecDepth 20000 in
theorem c_X8_spread {l : Launch} {E : ev_E} (hE : Eok E) (hm : eM E = 1) {a1 : Int} {a2 : Int} (ca1 : wr a1 = a1) (ca2 : wr a2 = a2) {σ : st_S} {Q : st_S → Prop} (h : wp_X8_spread a1 a2 σ Q) : cM l yX8_spread cX8_spread 5 none E 10 0 0 [vR E 56, vI a1, vI a2] σ (qV E (gN σ + 0) Q) := by
  refine cM_of (lv := [(0, vR E 56), (1, vI a1), (2, vI a2)]) (by decide) hE (Nat.le_of_ble_eq_true rfl) (rfl) ?_
  intro X hX hc _ _ hr _ _
  subst hX
  have hh : 10 ≤ 10 := Nat.le_refl _
  have hh1 : 1 ≤ 10 := by omega
  replace h : wp_X5_spoiled (gI σ 42 1) a2 0 σ (fun r41 s42 => wp_X5_list a1 (o_and (gI σ 42 0) (o_xor a2 (-1))) r41 s42 (fun r43 s44 => ∃ m39 : Nat, L_X8_spread_39 Q m39 a1 a2 r43 0 s44)) := h
  refine j_aload_nR hc 0 dX8_spread_0 rfl rfl ?_
  refine j_getR (c' := 42) hc fl_RX8_37 rfl rfl (fun hv => (sv_k hv hm rfl)) dX8_spread_1 ?_
  refine j_iload_n hc 1 dX8_spread_4 rfl rfl ?_
  refine j_aload_nR hc 0 dX8_spread_5 rfl rfl ?_
  refine j_getR (c' := 42) hc fl_RX8_37 rfl rfl (fun hv => (sv_k hv hm rfl)) dX8_spread_6 ?_
  refine j_getI hc fl_RX8_58 (Or.inl rfl) (fun hv => Or.inl (sv_k hv hm rfl)) dX8_spread_9 (fun cn39 => ?_)
  refine j_iload_n hc 2 dX8_spread_12 rfl rfl ?_
  refine j_iconst hc dX8_spread_13 ?_
  refine j_ixor hc dX8_spread_14 ?_
  refine j_iand hc dX8_spread_15 ?_
  refine j_aload_nR hc 0 dX8_spread_16 rfl rfl ?_
  refine j_getR (c' := 42) hc fl_RX8_37 rfl rfl (fun hv => (sv_k hv hm rfl)) dX8_spread_17 ?_
  refine j_aload_nR hc 0 dX8_spread_20 rfl rfl ?_
  refine j_getR (c' := 42) hc fl_RX8_37 rfl rfl (fun hv => (sv_k hv hm rfl)) dX8_spread_21 ?_
  refine j_getI hc fl_RX8_45 (Or.inl rfl) (fun hv => Or.inl (sv_k hv hm rfl)) dX8_spread_24 (fun cn40 => ?_)
  refine j_iload_n hc 2 dX8_spread_27 rfl rfl ?_
  refine j_iconst hc dX8_spread_28 ?_
  refine j_vI hc (k := 5) (by decide) (fun hv => Or.inl (sv_k hv hm rfl)) ml_RX8_112 mv_X5_spoiled (As := [vI (gI σ 42 1), vI a2, vI 0]) (c_X5_spoiled (cx_E hc) hm cn40 ca2 (wlit 0 (by decide)) h) rfl (by omega) (by decide) ⟨Nat.zero_le _, Nat.zero_le _⟩ (Nat.le_of_ble_eq_true rfl) rfl dX8_spread_29 (fun r41 s42 cr41 h => ?_)
  refine j_vI hc (k := 5) (by decide) (fun hv => Or.inl (sv_k hv hm rfl)) ml_RX8_116 mv_X5_list (As := [vI a1, vI (o_and (gI σ 42 0) (o_xor a2 (-1))), vI r41]) (c_X5_list (cx_E hc) hm ca1 (cn_and _ _) cr41 h) rfl (by omega) (by decide) ⟨Nat.zero_le _, Nat.zero_le _⟩ (Nat.le_of_ble_eq_true rfl) rfl dX8_spread_32 (fun r43 s44 cr43 h => ?_)
  refine j_istore_n (lv' := [(3, vI r43), (0, vR E 56), (1, vI a1), (2, vI a2)]) hc dX8_spread_35 rfl (by decide) rfl ?_
  refine j_iconst hc dX8_spread_36 ?_
  refine j_istore (lv' := [(4, vI 0), (3, vI r43), (0, vR E 56), (1, vI a1), (2, vI a2)]) hc dX8_spread_37 (by decide) rfl ?_
  obtain ⟨n39, h⟩ := h
  refine j_sub (lv' := [(0, vR E 56), (1, vI a1), (2, vI a2), (3, vI r43), (4, vI 0)]) [2, 3, 4, 1, 0] rfl ?_
  exact jl_X8_spread_39 hc hm hr hh n39 ca1 ca2 cr43 (wlit 0 (by decide)) h
-- LitStrangers$Search.rowsOf(I)J
theorem dX8_rowsOf_0 : decode cX8_rowsOf 0 = .ok (.aload_n 0, 1) := by decide +kernel
theorem dX8_rowsOf_1 : decode cX8_rowsOf 1 = .ok (.getfield 37, 3) := by decide +kernel
theorem dX8_rowsOf_4 : decode cX8_rowsOf 4 = .ok (.invokevirtual 90, 3) := by decide +kernel
theorem dX8_rowsOf_7 : decode cX8_rowsOf 7 = .ok (.istore_n 2, 1) := by decide +kernel
theorem dX8_rowsOf_8 : decode cX8_rowsOf 8 = .ok (.aload_n 0, 1) := by decide +kernel
theorem dX8_rowsOf_9 : decode cX8_rowsOf 9 = .ok (.getfield 30, 3) := by decide +kernel
theorem dX8_rowsOf_12 : decode cX8_rowsOf 12 = .ok (.lconst 0, 1) := by decide +kernel
theorem dX8_rowsOf_13 : decode cX8_rowsOf 13 = .ok (.invokestatic 105, 3) := by decide +kernel
theorem dX8_rowsOf_16 : decode cX8_rowsOf 16 = .ok (.aload_n 0, 1) := by decide +kernel
theorem dX8_rowsOf_17 : decode cX8_rowsOf 17 = .ok (.getfield 30, 3) := by decide +kernel
theorem dX8_rowsOf_20 : decode cX8_rowsOf 20 = .ok (.iconst 0, 1) := by decide +kernel
theorem dX8_rowsOf_21 : decode cX8_rowsOf 21 = .ok (.lconst 1, 1) := by decide +kernel
theorem dX8_rowsOf_22 : decode cX8_rowsOf 22 = .ok (.lastore, 1) := by decide +kernel
theorem dX8_rowsOf_23 : decode cX8_rowsOf 23 = .ok (.iconst 0, 1) := by decide +kernel
theorem dX8_rowsOf_24 : decode cX8_rowsOf 24 = .ok (.istore_n 3, 1) := by decide +kernel
theorem dX8_rowsOf_25 : decode cX8_rowsOf 25 = .ok (.iload_n 3, 1) := by decide +kernel
theorem dX8_rowsOf_26 : decode cX8_rowsOf 26 = .ok (.iload_n 1, 1) := by decide +kernel
theorem dX8_rowsOf_27 : decode cX8_rowsOf 27 = .ok (.if_icmp .ge 71, 3) := by decide +kernel
theorem dX8_rowsOf_30 : decode cX8_rowsOf 30 = .ok (.aload_n 0, 1) := by decide +kernel
theorem dX8_rowsOf_31 : decode cX8_rowsOf 31 = .ok (.getfield 34, 3) := by decide +kernel
theorem dX8_rowsOf_34 : decode cX8_rowsOf 34 = .ok (.lconst 0, 1) := by decide +kernel
theorem dX8_rowsOf_35 : decode cX8_rowsOf 35 = .ok (.invokestatic 105, 3) := by decide +kernel
theorem dX8_rowsOf_38 : decode cX8_rowsOf 38 = .ok (.iconst 0, 1) := by decide +kernel
theorem dX8_rowsOf_39 : decode cX8_rowsOf 39 = .ok (.istore 4, 2) := by decide +kernel
theorem dX8_rowsOf_41 : decode cX8_rowsOf 41 = .ok (.iload 4, 2) := by decide +kernel
theorem dX8_rowsOf_43 : decode cX8_rowsOf 43 = .ok (.iload_n 2, 1) := by decide +kernel
theorem dX8_rowsOf_44 : decode cX8_rowsOf 44 = .ok (.if_icmp .ge 28, 3) := by decide +kernel
theorem dX8_rowsOf_47 : decode cX8_rowsOf 47 = .ok (.aload_n 0, 1) := by decide +kernel
theorem dX8_rowsOf_48 : decode cX8_rowsOf 48 = .ok (.getfield 30, 3) := by decide +kernel
theorem dX8_rowsOf_51 : decode cX8_rowsOf 51 = .ok (.iload 4, 2) := by decide +kernel
theorem dX8_rowsOf_53 : decode cX8_rowsOf 53 = .ok (.laload, 1) := by decide +kernel
theorem dX8_rowsOf_54 : decode cX8_rowsOf 54 = .ok (.lconst 0, 1) := by decide +kernel
theorem dX8_rowsOf_55 : decode cX8_rowsOf 55 = .ok (.lcmp, 1) := by decide +kernel
theorem dX8_rowsOf_56 : decode cX8_rowsOf 56 = .ok (.ifCond .eq 10, 3) := by decide +kernel
theorem dX8_rowsOf_59 : decode cX8_rowsOf 59 = .ok (.aload_n 0, 1) := by decide +kernel
theorem dX8_rowsOf_60 : decode cX8_rowsOf 60 = .ok (.iload_n 3, 1) := by decide +kernel
theorem dX8_rowsOf_61 : decode cX8_rowsOf 61 = .ok (.iload 4, 2) := by decide +kernel
theorem dX8_rowsOf_63 : decode cX8_rowsOf 63 = .ok (.invokevirtual 108, 3) := by decide +kernel
theorem dX8_rowsOf_66 : decode cX8_rowsOf 66 = .ok (.iinc 4 1, 3) := by decide +kernel
theorem dX8_rowsOf_69 : decode cX8_rowsOf 69 = .ok (.goto (-28), 3) := by decide +kernel
theorem dX8_rowsOf_72 : decode cX8_rowsOf 72 = .ok (.aload_n 0, 1) := by decide +kernel
theorem dX8_rowsOf_73 : decode cX8_rowsOf 73 = .ok (.getfield 30, 3) := by decide +kernel
theorem dX8_rowsOf_76 : decode cX8_rowsOf 76 = .ok (.astore 4, 2) := by decide +kernel
theorem dX8_rowsOf_78 : decode cX8_rowsOf 78 = .ok (.aload_n 0, 1) := by decide +kernel
theorem dX8_rowsOf_79 : decode cX8_rowsOf 79 = .ok (.aload_n 0, 1) := by decide +kernel
theorem dX8_rowsOf_80 : decode cX8_rowsOf 80 = .ok (.getfield 34, 3) := by decide +kernel
theorem dX8_rowsOf_83 : decode cX8_rowsOf 83 = .ok (.putfield 30, 3) := by decide +kernel
theorem dX8_rowsOf_86 : decode cX8_rowsOf 86 = .ok (.aload_n 0, 1) := by decide +kernel
theorem dX8_rowsOf_87 : decode cX8_rowsOf 87 = .ok (.aload 4, 2) := by decide +kernel
theorem dX8_rowsOf_89 : decode cX8_rowsOf 89 = .ok (.putfield 34, 3) := by decide +kernel
theorem dX8_rowsOf_92 : decode cX8_rowsOf 92 = .ok (.iinc 3 1, 3) := by decide +kernel
theorem dX8_rowsOf_95 : decode cX8_rowsOf 95 = .ok (.goto (-70), 3) := by decide +kernel
theorem dX8_rowsOf_98 : decode cX8_rowsOf 98 = .ok (.lconst 0, 1) := by decide +kernel
theorem dX8_rowsOf_99 : decode cX8_rowsOf 99 = .ok (.lstore_n 3, 1) := by decide +kernel
theorem dX8_rowsOf_100 : decode cX8_rowsOf 100 = .ok (.iconst 0, 1) := by decide +kernel
theorem dX8_rowsOf_101 : decode cX8_rowsOf 101 = .ok (.istore 5, 2) := by decide +kernel
theorem dX8_rowsOf_103 : decode cX8_rowsOf 103 = .ok (.iload 5, 2) := by decide +kernel
theorem dX8_rowsOf_105 : decode cX8_rowsOf 105 = .ok (.iload_n 2, 1) := by decide +kernel
theorem dX8_rowsOf_106 : decode cX8_rowsOf 106 = .ok (.if_icmp .ge 19, 3) := by decide +kernel
theorem dX8_rowsOf_109 : decode cX8_rowsOf 109 = .ok (.lload_n 3, 1) := by decide +kernel
theorem dX8_rowsOf_110 : decode cX8_rowsOf 110 = .ok (.aload_n 0, 1) := by decide +kernel
theorem dX8_rowsOf_111 : decode cX8_rowsOf 111 = .ok (.getfield 30, 3) := by decide +kernel
theorem dX8_rowsOf_114 : decode cX8_rowsOf 114 = .ok (.iload 5, 2) := by decide +kernel
theorem dX8_rowsOf_116 : decode cX8_rowsOf 116 = .ok (.laload, 1) := by decide +kernel
theorem dX8_rowsOf_117 : decode cX8_rowsOf 117 = .ok (.ladd, 1) := by decide +kernel
theorem dX8_rowsOf_118 : decode cX8_rowsOf 118 = .ok (.lstore_n 3, 1) := by decide +kernel
theorem dX8_rowsOf_119 : decode cX8_rowsOf 119 = .ok (.iinc 5 1, 3) := by decide +kernel
theorem dX8_rowsOf_122 : decode cX8_rowsOf 122 = .ok (.goto (-19), 3) := by decide +kernel
theorem dX8_rowsOf_125 : decode cX8_rowsOf 125 = .ok (.lload_n 3, 1) := by decide +kernel
theorem dX8_rowsOf_126 : decode cX8_rowsOf 126 = .ok (.lreturn, 1) := by decide +kernel
def B_X8_rowsOf_66 (Q : Int → st_S → Prop)  (k25 : Int → Int → Int → st_S → Prop) (k41 : Int → Int → Int → Int → st_S → Prop) (l1 : Int) (l2 : Int) (l3 : Int) (l4 : Int) (σ : st_S) : Prop := ∀ x37 : Int, x37 = wr (l4 + 1) → k41 l1 l2 l3 x37 σ
def L_X8_rowsOf_41 (Q : Int → st_S → Prop)  (k25 : Int → Int → Int → st_S → Prop) : Nat → Int → Int → Int → Int → st_S → Prop
  | 0 => fun _ _ _ _ _ => False
  | n + 1 => fun l1 l2 l3 l4 σ => (l2 ≤ l4 → ∃ t38 : Nat, gR σ 56 8 = some t38 ∧ ∃ t39 : Nat, gR σ 56 9 = some t39 ∧ ∀ s40 : st_S, s40 = sR σ 56 8 (some t39) → ∀ s41 : st_S, s41 = sR s40 56 9 (some t38) → ∀ x42 : Int, x42 = wr (l3 + 1) → k25 l1 l2 x42 s41) ∧ (¬ l2 ≤ l4 → ∃ t43 : Nat, gR σ 56 8 = some t43 ∧ gK σ t43 = 1 ∧ ix l4 (gL σ t43) ∧ (p_cmp (gI σ t43 (Int.toNat l4)) 0 = 0 → B_X8_rowsOf_66 Q k25 (L_X8_rowsOf_41 Q k25 n) l1 l2 l3 l4 σ) ∧ (¬ p_cmp (gI σ t43 (Int.toNat l4)) 0 = 0 → wp_X8_spread l3 l4 σ (fun s48 => B_X8_rowsOf_66 Q k25 (L_X8_rowsOf_41 Q k25 n) l1 l2 l3 l4 s48)))
def L_X8_rowsOf_103 (Q : Int → st_S → Prop)   : Nat → Int → Int → Int → st_S → Prop
  | 0 => fun _ _ _ _ => False
  | n + 1 => fun l2 l3 l5 σ => (l2 ≤ l5 → Q l3 σ) ∧ (¬ l2 ≤ l5 → ∃ t51 : Nat, gR σ 56 8 = some t51 ∧ gK σ t51 = 1 ∧ ix l5 (gL σ t51) ∧ ∀ x55 : Int, x55 = wl (l3 + gI σ t51 (Int.toNat l5)) → ∀ x56 : Int, x56 = wr (l5 + 1) → (L_X8_rowsOf_103 Q n) l2 x55 x56 σ)
def L_X8_rowsOf_25 (Q : Int → st_S → Prop)   : Nat → Int → Int → Int → st_S → Prop
  | 0 => fun _ _ _ _ => False
  | n + 1 => fun l1 l2 l3 σ => (l1 ≤ l3 → ∃ m103 : Nat, L_X8_rowsOf_103 Q m103 l2 0 0 σ) ∧ (¬ l1 ≤ l3 → ∃ t58 : Nat, gR σ 56 9 = some t58 ∧ wp_J7_fill_d0a16 t58 0 σ (fun s60 => ∃ m41 : Nat, L_X8_rowsOf_41 Q (L_X8_rowsOf_25 Q n) m41 l1 l2 l3 0 s60))
def wp_X8_rowsOf (a1 : Int) (σ : st_S) (Q : Int → st_S → Prop) : Prop := wp_X5_sets σ (fun r62 s63 => ∃ t64 : Nat, gR s63 56 8 = some t64 ∧ wp_J7_fill_d0a16 t64 0 s63 (fun s66 => ∃ t67 : Nat, gR s66 56 8 = some t67 ∧ gK s66 t67 = 1 ∧ ix 0 (gL s66 t67) ∧ ∀ s70 : st_S, s70 = sI s66 t67 0 1 → ∃ m25 : Nat, L_X8_rowsOf_25 Q m25 a1 r62 0 s70))
set_option maxRecDepth 20000 in
theorem jb_X8_rowsOf_66 {X : jj_X} {E : ev_E} {n0 hN : Nat} (hc : Cx X E cX8_rowsOf 6 n0 hN RX8) (hm : eM E = 1) (hr : (xT X).sig.returnType = (some .long)) (hh : 11 ≤ hN) {Q : Int → st_S → Prop} {k25 : Int → Int → Int → st_S → Prop} (hk25 : ∀ {l1 : Int} {l2 : Int} {l3 : Int} (cl1 : wr l1 = l1) (cl2 : wr l2 = l2) (cl3 : wr l3 = l3) {σ : st_S}, k25 l1 l2 l3 σ → J X E 6 n0 0 0 (MQ (xB X) (qL E (n0 + 0) Q) (xA X) (xS X) 0 0 (eF E)) σ 25 [(0, vR E 56), (1, vI l1), (2, vI l2), (3, vI l3)] []) {k41 : Int → Int → Int → Int → st_S → Prop} (hk41 : ∀ {l1 : Int} {l2 : Int} {l3 : Int} {l4 : Int} (cl1 : wr l1 = l1) (cl2 : wr l2 = l2) (cl3 : wr l3 = l3) (cl4 : wr l4 = l4) {σ : st_S}, k41 l1 l2 l3 l4 σ → J X E 6 n0 0 0 (MQ (xB X) (qL E (n0 + 0) Q) (xA X) (xS X) 0 0 (eF E)) σ 41 [(0, vR E 56), (1, vI l1), (2, vI l2), (3, vI l3), (4, vI l4)] []) {l1 : Int} {l2 : Int} {l3 : Int} {l4 : Int} (cl1 : wr l1 = l1) (cl2 : wr l2 = l2) (cl3 : wr l3 = l3) (cl4 : wr l4 = l4) {σ : st_S} (h : B_X8_rowsOf_66 Q k25 k41 l1 l2 l3 l4 σ) : J X E 6 n0 0 0 (MQ (xB X) (qL E (n0 + 0) Q) (xA X) (xS X) 0 0 (eF E)) σ 66 [(0, vR E 56), (1, vI l1), (2, vI l2), (3, vI l3), (4, vI l4)] [] := by
  have hh1 : 1 ≤ hN := by omega
  replace h : ∀ x37 : Int, x37 = wr (l4 + 1) → k41 l1 l2 l3 x37 σ := h
  obtain ⟨x37, ex37⟩ : ∃ y : Int, y = wr (l4 + 1) := ⟨_, rfl⟩
  have cx37 : wr x37 = x37 := by rw [ex37]; exact wr_wr _
  replace h := h x37 ex37
  refine j_iinc (lv' := [(4, vI x37), (0, vR E 56), (1, vI l1), (2, vI l2), (3, vI l3)]) hc 4 dX8_rowsOf_66 rfl (by decide) ex37 rfl ?_
  refine j_goto (tgt := 41) hc dX8_rowsOf_69 (by decide) ?_
  refine j_sub (lv' := [(0, vR E 56), (1, vI l1), (2, vI l2), (3, vI l3), (4, vI x37)]) [1, 2, 3, 4, 0] rfl ?_
  exact hk41 cl1 cl2 cl3 cx37 h
set_option maxRecDepth 20000 in
theorem jl_X8_rowsOf_41 {X : jj_X} {E : ev_E} {n0 hN : Nat} (hc : Cx X E cX8_rowsOf 6 n0 hN RX8) (hm : eM E = 1) (hr : (xT X).sig.returnType = (some .long)) (hh : 11 ≤ hN) {Q : Int → st_S → Prop} {k25 : Int → Int → Int → st_S → Prop} (hk25 : ∀ {l1 : Int} {l2 : Int} {l3 : Int} (cl1 : wr l1 = l1) (cl2 : wr l2 = l2) (cl3 : wr l3 = l3) {σ : st_S}, k25 l1 l2 l3 σ → J X E 6 n0 0 0 (MQ (xB X) (qL E (n0 + 0) Q) (xA X) (xS X) 0 0 (eF E)) σ 25 [(0, vR E 56), (1, vI l1), (2, vI l2), (3, vI l3)] []) : ∀ (n : Nat) {l1 : Int} {l2 : Int} {l3 : Int} {l4 : Int} (cl1 : wr l1 = l1) (cl2 : wr l2 = l2) (cl3 : wr l3 = l3) (cl4 : wr l4 = l4) {σ : st_S}, L_X8_rowsOf_41 Q k25 n l1 l2 l3 l4 σ → J X E 6 n0 0 0 (MQ (xB X) (qL E (n0 + 0) Q) (xA X) (xS X) 0 0 (eF E)) σ 41 [(0, vR E 56), (1, vI l1), (2, vI l2), (3, vI l3), (4, vI l4)] [] := by
  have hh1 : 1 ≤ hN := by omega
  intro n
  induction n with
  | zero => intro l1 l2 l3 l4 cl1 cl2 cl3 cl4 σ h; exact h.elim
  | succ n ih =>
    intro l1 l2 l3 l4 cl1 cl2 cl3 cl4 σ h
    have hk41 : ∀ {l1 : Int} {l2 : Int} {l3 : Int} {l4 : Int} (cl1 : wr l1 = l1) (cl2 : wr l2 = l2) (cl3 : wr l3 = l3) (cl4 : wr l4 = l4) {σ : st_S}, L_X8_rowsOf_41 Q k25 n l1 l2 l3 l4 σ → J X E 6 n0 0 0 (MQ (xB X) (qL E (n0 + 0) Q) (xA X) (xS X) 0 0 (eF E)) σ 41 [(0, vR E 56), (1, vI l1), (2, vI l2), (3, vI l3), (4, vI l4)] [] := ih
    replace h : (l2 ≤ l4 → ∃ t38 : Nat, gR σ 56 8 = some t38 ∧ ∃ t39 : Nat, gR σ 56 9 = some t39 ∧ ∀ s40 : st_S, s40 = sR σ 56 8 (some t39) → ∀ s41 : st_S, s41 = sR s40 56 9 (some t38) → ∀ x42 : Int, x42 = wr (l3 + 1) → k25 l1 l2 x42 s41) ∧ (¬ l2 ≤ l4 → ∃ t43 : Nat, gR σ 56 8 = some t43 ∧ gK σ t43 = 1 ∧ ix l4 (gL σ t43) ∧ (p_cmp (gI σ t43 (Int.toNat l4)) 0 = 0 → B_X8_rowsOf_66 Q k25 (L_X8_rowsOf_41 Q k25 n) l1 l2 l3 l4 σ) ∧ (¬ p_cmp (gI σ t43 (Int.toNat l4)) 0 = 0 → wp_X8_spread l3 l4 σ (fun s48 => B_X8_rowsOf_66 Q k25 (L_X8_rowsOf_41 Q k25 n) l1 l2 l3 l4 s48))) := h
    refine j_iload hc 4 dX8_rowsOf_41 rfl ?_
    refine j_iload_n hc 2 dX8_rowsOf_43 rfl rfl ?_
    refine j_ic_ge hc cl4 cl2 (tgt := 72) dX8_rowsOf_44 (by decide) (fun q50 => ?_) (fun q50 => ?_)
    · replace h := h.1 q50
      refine j_aload_nR hc 0 dX8_rowsOf_72 rfl rfl ?_
      refine j_getO hc fl_RX8_30 rfl (fun hv => Or.inl (sv_k hv hm rfl)) dX8_rowsOf_73 ?_
      obtain ⟨t38, et38, h⟩ := h
      refine j_some et38 ?_
      refine j_astoreR (lv' := [(4, vR E t38), (0, vR E 56), (1, vI l1), (2, vI l2), (3, vI l3)]) hc dX8_rowsOf_76 (by decide) rfl ?_
      refine j_aload_nR hc 1 dX8_rowsOf_78 rfl rfl ?_
      refine j_aload_nR hc 1 dX8_rowsOf_79 rfl rfl ?_
      refine j_getO hc fl_RX8_34 rfl (fun hv => Or.inl (sv_k hv hm rfl)) dX8_rowsOf_80 ?_
      obtain ⟨t39, et39, h⟩ := h
      refine j_some et39 ?_
      refine j_putR hc fl_RX8_30 rfl (Or.inl rfl) (fun hv => Or.inl (sv_k hv hm rfl)) (fun _ => Or.inr rfl) dX8_rowsOf_83 (fun s40 es40 => ?_)
      replace h := h s40 es40
      refine j_aload_nR hc 1 dX8_rowsOf_86 rfl rfl ?_
      refine j_aloadR hc 0 dX8_rowsOf_87 rfl ?_
      refine j_putR hc fl_RX8_34 rfl (Or.inl rfl) (fun hv => Or.inl (sv_k hv hm rfl)) (fun _ => Or.inr rfl) dX8_rowsOf_89 (fun s41 es41 => ?_)
      replace h := h s41 es41
      obtain ⟨x42, ex42⟩ : ∃ y : Int, y = wr (l3 + 1) := ⟨_, rfl⟩
      have cx42 : wr x42 = x42 := by rw [ex42]; exact wr_wr _
      replace h := h x42 ex42
      refine j_iinc (lv' := [(3, vI x42), (4, vR E t38), (0, vR E 56), (1, vI l1), (2, vI l2)]) hc 4 dX8_rowsOf_92 rfl (by decide) ex42 rfl ?_
      refine j_goto (tgt := 25) hc dX8_rowsOf_95 (by decide) ?_
      refine j_sub (lv' := [(0, vR E 56), (1, vI l1), (2, vI l2), (3, vI x42)]) [2, 3, 4, 0] rfl ?_
      exact hk25 cl1 cl2 cx42 h
    · replace h := h.2 q50
      refine j_aload_nR hc 0 dX8_rowsOf_47 rfl rfl ?_
      refine j_getO hc fl_RX8_30 rfl (fun hv => Or.inl (sv_k hv hm rfl)) dX8_rowsOf_48 ?_
      obtain ⟨t43, et43, h⟩ := h
      refine j_some et43 ?_
      refine j_iload hc 4 dX8_rowsOf_51 rfl ?_
      obtain ⟨f44, h⟩ := h
      obtain ⟨b45, h⟩ := h
      refine j_lald (jn := (Int.toNat l4)) hc (fun _ => ⟨f44, rfl⟩) cl4 b45 rfl dX8_rowsOf_53 (fun cn46 => ?_)
      refine j_lconst (x := 0) hc dX8_rowsOf_54 rfl ?_
      refine j_lcmp hc dX8_rowsOf_55 ?_
      refine j_if_eq hc (cn_cmp _ _) (tgt := 66) dX8_rowsOf_56 (by decide) (fun q49 => ?_) (fun q49 => ?_)
      · replace h := h.1 q49
        refine j_sub (lv' := [(0, vR E 56), (1, vI l1), (2, vI l2), (3, vI l3), (4, vI l4)]) [0, 1, 2, 3, 4] rfl ?_
        exact jb_X8_rowsOf_66 hc hm hr hh hk25 hk41 cl1 cl2 cl3 cl4 h
      · replace h := h.2 q49
        refine j_aload_nR hc 0 dX8_rowsOf_59 rfl rfl ?_
        refine j_iload_n hc 3 dX8_rowsOf_60 rfl rfl ?_
        refine j_iload hc 4 dX8_rowsOf_61 rfl ?_
        refine j_vV hc (k := 8) (by decide) (fun hv => Or.inl (sv_k hv hm rfl)) ml_RX8_108 mv_X8_spread (As := [vI l3, vI l4]) (c_X8_spread (cx_E hc) hm cl3 cl4 h) rfl (by omega) (by decide) ⟨Nat.zero_le _, Nat.zero_le _⟩ (Nat.le_of_ble_eq_true rfl) rfl dX8_rowsOf_63 (fun s48 h => ?_)
        refine j_sub (lv' := [(0, vR E 56), (1, vI l1), (2, vI l2), (3, vI l3), (4, vI l4)]) [0, 1, 2, 3, 4] rfl ?_
        exact jb_X8_rowsOf_66 hc hm hr hh hk25 hk41 cl1 cl2 cl3 cl4 h
set_option maxRecDepth 20000 in
theorem jl_X8_rowsOf_103 {X : jj_X} {E : ev_E} {n0 hN : Nat} (hc : Cx X E cX8_rowsOf 6 n0 hN RX8) (hm : eM E = 1) (hr : (xT X).sig.returnType = (some .long)) (hh : 11 ≤ hN) {Q : Int → st_S → Prop} : ∀ (n : Nat) {l2 : Int} {l3 : Int} {l5 : Int} (cl2 : wr l2 = l2) (cl3 : wl l3 = l3) (cl5 : wr l5 = l5) {σ : st_S}, L_X8_rowsOf_103 Q n l2 l3 l5 σ → J X E 6 n0 0 0 (MQ (xB X) (qL E (n0 + 0) Q) (xA X) (xS X) 0 0 (eF E)) σ 103 [(0, vR E 56), (2, vI l2), (3, vL l3), (5, vI l5)] [] := by
  have hh1 : 1 ≤ hN := by omega
  intro n
  induction n with
  | zero => intro l2 l3 l5 cl2 cl3 cl5 σ h; exact h.elim
  | succ n ih =>
    intro l2 l3 l5 cl2 cl3 cl5 σ h
    have hk103 : ∀ {l2 : Int} {l3 : Int} {l5 : Int} (cl2 : wr l2 = l2) (cl3 : wl l3 = l3) (cl5 : wr l5 = l5) {σ : st_S}, L_X8_rowsOf_103 Q n l2 l3 l5 σ → J X E 6 n0 0 0 (MQ (xB X) (qL E (n0 + 0) Q) (xA X) (xS X) 0 0 (eF E)) σ 103 [(0, vR E 56), (2, vI l2), (3, vL l3), (5, vI l5)] [] := ih
    replace h : (l2 ≤ l5 → Q l3 σ) ∧ (¬ l2 ≤ l5 → ∃ t51 : Nat, gR σ 56 8 = some t51 ∧ gK σ t51 = 1 ∧ ix l5 (gL σ t51) ∧ ∀ x55 : Int, x55 = wl (l3 + gI σ t51 (Int.toNat l5)) → ∀ x56 : Int, x56 = wr (l5 + 1) → (L_X8_rowsOf_103 Q n) l2 x55 x56 σ) := h
    refine j_iload hc 3 dX8_rowsOf_103 rfl ?_
    refine j_iload_n hc 1 dX8_rowsOf_105 rfl rfl ?_
    refine j_ic_ge hc cl5 cl2 (tgt := 125) dX8_rowsOf_106 (by decide) (fun q57 => ?_) (fun q57 => ?_)
    · replace h := h.1 q57
      refine j_lload_n hc 2 dX8_rowsOf_125 rfl rfl ?_
      exact j_lret hc hr cl3 h dX8_rowsOf_126
    · replace h := h.2 q57
      refine j_lload_n hc 2 dX8_rowsOf_109 rfl rfl ?_
      refine j_aload_nR hc 0 dX8_rowsOf_110 rfl rfl ?_
      refine j_getO hc fl_RX8_30 rfl (fun hv => Or.inl (sv_k hv hm rfl)) dX8_rowsOf_111 ?_
      obtain ⟨t51, et51, h⟩ := h
      refine j_some et51 ?_
      refine j_iload hc 3 dX8_rowsOf_114 rfl ?_
      obtain ⟨f52, h⟩ := h
      obtain ⟨b53, h⟩ := h
      refine j_lald (jn := (Int.toNat l5)) hc (fun _ => ⟨f52, rfl⟩) cl5 b53 rfl dX8_rowsOf_116 (fun cn54 => ?_)
      refine j_ladd hc dX8_rowsOf_117 ?_
      refine j_wl (fun x55 ex55 cx55 => ?_)
      replace h := h x55 ex55
      refine j_lstore_n (lv' := [(3, vL x55), (0, vR E 56), (2, vI l2), (5, vI l5)]) hc dX8_rowsOf_118 rfl (by decide) rfl ?_
      obtain ⟨x56, ex56⟩ : ∃ y : Int, y = wr (l5 + 1) := ⟨_, rfl⟩
      have cx56 : wr x56 = x56 := by rw [ex56]; exact wr_wr _
      replace h := h x56 ex56
      refine j_iinc (lv' := [(5, vI x56), (3, vL x55), (0, vR E 56), (2, vI l2)]) hc 3 dX8_rowsOf_119 rfl (by decide) ex56 rfl ?_
      refine j_goto (tgt := 103) hc dX8_rowsOf_122 (by decide) ?_
      refine j_sub (lv' := [(0, vR E 56), (2, vI l2), (3, vL x55), (5, vI x56)]) [2, 3, 1, 0] rfl ?_
      exact hk103 cl2 cx55 cx56 h
set_option maxRecDepth 20000 in
theorem jl_X8_rowsOf_25 {X : jj_X} {E : ev_E} {n0 hN : Nat} (hc : Cx X E cX8_rowsOf 6 n0 hN RX8) (hm : eM E = 1) (hr : (xT X).sig.returnType = (some .long)) (hh : 11 ≤ hN) {Q : Int → st_S → Prop} : ∀ (n : Nat) {l1 : Int} {l2 : Int} {l3 : Int} (cl1 : wr l1 = l1) (cl2 : wr l2 = l2) (cl3 : wr l3 = l3) {σ : st_S}, L_X8_rowsOf_25 Q n l1 l2 l3 σ → J X E 6 n0 0 0 (MQ (xB X) (qL E (n0 + 0) Q) (xA X) (xS X) 0 0 (eF E)) σ 25 [(0, vR E 56), (1, vI l1), (2, vI l2), (3, vI l3)] [] := by
  have hh1 : 1 ≤ hN := by omega
  intro n
  induction n with
  | zero => intro l1 l2 l3 cl1 cl2 cl3 σ h; exact h.elim
  | succ n ih =>
    intro l1 l2 l3 cl1 cl2 cl3 σ h
    have hk25 : ∀ {l1 : Int} {l2 : Int} {l3 : Int} (cl1 : wr l1 = l1) (cl2 : wr l2 = l2) (cl3 : wr l3 = l3) {σ : st_S}, L_X8_rowsOf_25 Q n l1 l2 l3 σ → J X E 6 n0 0 0 (MQ (xB X) (qL E (n0 + 0) Q) (xA X) (xS X) 0 0 (eF E)) σ 25 [(0, vR E 56), (1, vI l1), (2, vI l2), (3, vI l3)] [] := ih
    replace h : (l1 ≤ l3 → ∃ m103 : Nat, L_X8_rowsOf_103 Q m103 l2 0 0 σ) ∧ (¬ l1 ≤ l3 → ∃ t58 : Nat, gR σ 56 9 = some t58 ∧ wp_J7_fill_d0a16 t58 0 σ (fun s60 => ∃ m41 : Nat, L_X8_rowsOf_41 Q (L_X8_rowsOf_25 Q n) m41 l1 l2 l3 0 s60)) := h
    refine j_iload_n hc 3 dX8_rowsOf_25 rfl rfl ?_
    refine j_iload_n hc 1 dX8_rowsOf_26 rfl rfl ?_
    refine j_ic_ge hc cl3 cl1 (tgt := 98) dX8_rowsOf_27 (by decide) (fun q61 => ?_) (fun q61 => ?_)
    · replace h := h.1 q61
      refine j_lconst (x := 0) hc dX8_rowsOf_98 rfl ?_
      refine j_lstore_n (lv' := [(3, vL 0), (0, vR E 56), (1, vI l1), (2, vI l2)]) hc dX8_rowsOf_99 rfl (by decide) rfl ?_
      refine j_iconst hc dX8_rowsOf_100 ?_
      refine j_istore (lv' := [(5, vI 0), (3, vL 0), (0, vR E 56), (1, vI l1), (2, vI l2)]) hc dX8_rowsOf_101 (by decide) rfl ?_
      obtain ⟨n103, h⟩ := h
      refine j_sub (lv' := [(0, vR E 56), (2, vI l2), (3, vL 0), (5, vI 0)]) [2, 4, 1, 0] rfl ?_
      exact jl_X8_rowsOf_103 hc hm hr hh n103 cl2 (llit 0 (by decide)) (wlit 0 (by decide)) h
    · replace h := h.2 q61
      refine j_aload_nR hc 0 dX8_rowsOf_30 rfl rfl ?_
      refine j_getO hc fl_RX8_34 rfl (fun hv => Or.inl (sv_k hv hm rfl)) dX8_rowsOf_31 ?_
      obtain ⟨t58, et58, h⟩ := h
      refine j_some et58 ?_
      refine j_lconst (x := 0) hc dX8_rowsOf_34 rfl ?_
      refine j_sV hc ml_RX8_105 mv_J7_fill_d0a16 (As := [vR E t58, vL 0]) (c_J7_fill_d0a16 (cx_E hc) (llit 0 (by decide)) h) rfl (by omega) (by decide) ⟨Nat.zero_le _, Nat.zero_le _⟩ (Nat.le_of_ble_eq_true rfl) rfl dX8_rowsOf_35 (fun s60 h => ?_)
      refine j_iconst hc dX8_rowsOf_38 ?_
      refine j_istore (lv' := [(4, vI 0), (0, vR E 56), (1, vI l1), (2, vI l2), (3, vI l3)]) hc dX8_rowsOf_39 (by decide) rfl ?_
      obtain ⟨n41, h⟩ := h
      refine j_sub (lv' := [(0, vR E 56), (1, vI l1), (2, vI l2), (3, vI l3), (4, vI 0)]) [1, 2, 3, 4, 0] rfl ?_
      exact jl_X8_rowsOf_41 hc hm hr hh hk25 n41 cl1 cl2 cl3 (wlit 0 (by decide)) h
set_option maxRecDepth 20000 in
theorem c_X8_rowsOf {l : Launch} {E : ev_E} (hE : Eok E) (hm : eM E = 1) {a1 : Int} (ca1 : wr a1 = a1) {σ : st_S} {Q : Int → st_S → Prop} (h : wp_X8_rowsOf a1 σ Q) : cM l yX8_rowsOf cX8_rowsOf 6 (some .long) E 11 0 0 [vR E 56, vI a1] σ (qL E (gN σ + 0) Q) := by
  refine cM_of (lv := [(0, vR E 56), (1, vI a1)]) (by decide) hE (Nat.le_of_ble_eq_true rfl) (rfl) ?_
  intro X hX hc _ _ hr _ _
  subst hX
  have hh : 11 ≤ 11 := Nat.le_refl _
  have hh1 : 1 ≤ 11 := by omega
  replace h : wp_X5_sets σ (fun r62 s63 => ∃ t64 : Nat, gR s63 56 8 = some t64 ∧ wp_J7_fill_d0a16 t64 0 s63 (fun s66 => ∃ t67 : Nat, gR s66 56 8 = some t67 ∧ gK s66 t67 = 1 ∧ ix 0 (gL s66 t67) ∧ ∀ s70 : st_S, s70 = sI s66 t67 0 1 → ∃ m25 : Nat, L_X8_rowsOf_25 Q m25 a1 r62 0 s70)) := h
  refine j_aload_nR hc 0 dX8_rowsOf_0 rfl rfl ?_
  refine j_getR (c' := 42) hc fl_RX8_37 rfl rfl (fun hv => (sv_k hv hm rfl)) dX8_rowsOf_1 ?_
  refine j_vI hc (k := 5) (by decide) (fun hv => Or.inl (sv_k hv hm rfl)) ml_RX8_90 mv_X5_sets (As := []) (c_X5_sets (cx_E hc) hm  h) rfl (by omega) (by decide) ⟨Nat.zero_le _, Nat.zero_le _⟩ (Nat.le_of_ble_eq_true rfl) rfl dX8_rowsOf_4 (fun r62 s63 cr62 h => ?_)
  refine j_istore_n (lv' := [(2, vI r62), (0, vR E 56), (1, vI a1)]) hc dX8_rowsOf_7 rfl (by decide) rfl ?_
  refine j_aload_nR hc 1 dX8_rowsOf_8 rfl rfl ?_
  refine j_getO hc fl_RX8_30 rfl (fun hv => Or.inl (sv_k hv hm rfl)) dX8_rowsOf_9 ?_
  obtain ⟨t64, et64, h⟩ := h
  refine j_some et64 ?_
  refine j_lconst (x := 0) hc dX8_rowsOf_12 rfl ?_
  refine j_sV hc ml_RX8_105 mv_J7_fill_d0a16 (As := [vR E t64, vL 0]) (c_J7_fill_d0a16 (cx_E hc) (llit 0 (by decide)) h) rfl (by omega) (by decide) ⟨Nat.zero_le _, Nat.zero_le _⟩ (Nat.le_of_ble_eq_true rfl) rfl dX8_rowsOf_13 (fun s66 h => ?_)
  refine j_aload_nR hc 1 dX8_rowsOf_16 rfl rfl ?_
  refine j_getO hc fl_RX8_30 rfl (fun hv => Or.inl (sv_k hv hm rfl)) dX8_rowsOf_17 ?_
  obtain ⟨t67, et67, h⟩ := h
  refine j_some et67 ?_
  refine j_iconst hc dX8_rowsOf_20 ?_
  refine j_lconst (x := 1) hc dX8_rowsOf_21 rfl ?_
  obtain ⟨f68, h⟩ := h
  obtain ⟨b69, h⟩ := h
  refine j_last (jn := 0) hc (fun _ => ⟨f68, rfl⟩) (wlit 0 (by decide)) b69 rfl (llit 1 (by decide)) dX8_rowsOf_22 (fun s70 es70 => ?_)
  replace h := h s70 es70
  refine j_iconst hc dX8_rowsOf_23 ?_
  refine j_istore_n (lv' := [(3, vI 0), (2, vI r62), (0, vR E 56), (1, vI a1)]) hc dX8_rowsOf_24 rfl (by decide) rfl ?_
  obtain ⟨n25, h⟩ := h
  refine j_sub (lv' := [(0, vR E 56), (1, vI a1), (2, vI r62), (3, vI 0)]) [2, 3, 1, 0] rfl ?_
  exact jl_X8_rowsOf_25 hc hm hr hh n25 ca1 cr62 (wlit 0 (by decide)) h
