theorem fl_RX1_46 : FL RX1 46 1 0 := ⟨by decide, by decide, tb_mem 157 (by decide +kernel) (by decide +kernel)⟩
theorem dX1_has_0 : decode cX1_has 0 = .ok (.iload_n 1, 1) := by decide +kernel
theorem dX1_has_1 : decode cX1_has 1 = .ok (.ifCond .lt 21, 3) := by decide +kernel
theorem dX1_has_4 : decode cX1_has 4 = .ok (.iload_n 1, 1) := by decide +kernel
theorem dX1_has_5 : decode cX1_has 5 = .ok (.aload_n 0, 1) := by decide +kernel
theorem dX1_has_6 : decode cX1_has 6 = .ok (.getfield 46, 3) := by decide +kernel
theorem dX1_has_9 : decode cX1_has 9 = .ok (.if_icmp .ge 13, 3) := by decide +kernel
theorem dX1_has_12 : decode cX1_has 12 = .ok (.iload_n 1, 1) := by decide +kernel
theorem dX1_has_13 : decode cX1_has 13 = .ok (.bipush 10, 2) := by decide +kernel
theorem dX1_has_15 : decode cX1_has 15 = .ok (.if_icmp .ge 7, 3) := by decide +kernel
theorem dX1_has_18 : decode cX1_has 18 = .ok (.iconst 1, 1) := by decide +kernel
theorem dX1_has_19 : decode cX1_has 19 = .ok (.goto 4, 3) := by decide +kernel
theorem dX1_has_22 : decode cX1_has 22 = .ok (.iconst 0, 1) := by decide +kernel
theorem dX1_has_23 : decode cX1_has 23 = .ok (.ireturn, 1) := by decide +kernel
def B_X1_has_23 (Q : Int → st_S → Prop)   (k0 : Int) (σ : st_S) : Prop := (k0 = 0 ∨ k0 = 1) ∧ Q k0 σ
def B_X1_has_22 (Q : Int → st_S → Prop)    (σ : st_S) : Prop := B_X1_has_23 Q 0 σ
def wp_X1_has (t : Nat) (a1 : Int) (σ : st_S) (Q : Int → st_S → Prop) : Prop := (a1 < 0 → B_X1_has_22 Q σ) ∧ (¬ a1 < 0 → gK σ t = 16 + 1 ∧ (gI σ t 0 ≤ a1 → B_X1_has_22 Q σ) ∧ (¬ gI σ t 0 ≤ a1 → (10 ≤ a1 → B_X1_has_22 Q σ) ∧ (¬ 10 ≤ a1 → B_X1_has_23 Q 1 σ)))
set_option maxRecDepth 20000 in
theorem jb_X1_has_23 {X : jj_X} {E : ev_E} {n0 hN : Nat} (hc : Cx X E cX1_has 2 n0 hN RX1) (hm : eM E = 1) (hr : (xT X).sig.returnType = (some .boolean)) (hh : 1 ≤ hN) {Q : Int → st_S → Prop} {k0 : Int} (ck0 : wr k0 = k0) {σ : st_S} (h : B_X1_has_23 Q k0 σ) : J X E 2 n0 0 0 (MQ (xB X) (qI E (n0 + 0) Q) (xA X) (xS X) 0 0 (eF E)) σ 23 [] [vI k0] := by
  have hh1 : 1 ≤ hN := by omega
  replace h : (k0 = 0 ∨ k0 = 1) ∧ Q k0 σ := h
  exact j_zret hc hr (nar_bool h.1) (by rcases h.1 with e | e <;> (rw [e]; decide)) h.2 dX1_has_23
set_option maxRecDepth 20000 in
theorem jb_X1_has_22 {X : jj_X} {E : ev_E} {n0 hN : Nat} (hc : Cx X E cX1_has 2 n0 hN RX1) (hm : eM E = 1) (hr : (xT X).sig.returnType = (some .boolean)) (hh : 1 ≤ hN) {Q : Int → st_S → Prop} {σ : st_S} (h : B_X1_has_22 Q σ) : J X E 2 n0 0 0 (MQ (xB X) (qI E (n0 + 0) Q) (xA X) (xS X) 0 0 (eF E)) σ 22 [] [] := by
  have hh1 : 1 ≤ hN := by omega
  replace h : B_X1_has_23 Q 0 σ := h
  refine j_iconst hc dX1_has_22 ?_
  refine j_sub (lv' := []) [] rfl ?_
  exact jb_X1_has_23 hc hm hr hh (wlit 0 (by decide)) h
set_option maxRecDepth 20000 in
theorem c_X1_has {l : Launch} {E : ev_E} (hE : Eok E) (hm : eM E = 1) {t : Nat} {a1 : Int} (ca1 : wr a1 = a1) {σ : st_S} {Q : Int → st_S → Prop} (h : wp_X1_has t a1 σ Q) : cM l yX1_has cX1_has 2 (some .boolean) E 1 0 0 [vR E t, vI a1] σ (qI E (gN σ + 0) Q) := by
  refine cM_of (lv := [(0, vR E t), (1, vI a1)]) (by decide) hE (Nat.le_of_ble_eq_true rfl) rfl ?_
  intro X hX hc _ _ hr _ _
  subst hX
  have hh : 1 ≤ 1 := Nat.le_refl _
  have hh1 : 1 ≤ 1 := by omega
  replace h : (a1 < 0 → B_X1_has_22 Q σ) ∧ (¬ a1 < 0 → gK σ t = 16 + 1 ∧ (gI σ t 0 ≤ a1 → B_X1_has_22 Q σ) ∧ (¬ gI σ t 0 ≤ a1 → (10 ≤ a1 → B_X1_has_22 Q σ) ∧ (¬ 10 ≤ a1 → B_X1_has_23 Q 1 σ))) := h
  refine j_iload_n hc 1 dX1_has_0 rfl rfl ?_
  refine j_if_lt hc ca1 (tgt := 22) dX1_has_1 (by decide) (fun q7 => ?_) (fun q7 => ?_)
  · replace h := h.1 q7
    refine j_sub (lv' := []) [] rfl ?_
    exact jb_X1_has_22 hc hm hr hh h
  · replace h := h.2 q7
    refine j_iload_n hc 1 dX1_has_4 rfl rfl ?_
    refine j_aload_nR hc 0 dX1_has_5 rfl rfl ?_
    obtain ⟨f3, h⟩ := h
    refine j_getI hc fl_RX1_46 (Or.inl rfl) (fun _ => Or.inl f3) dX1_has_6 (fun cn4 => ?_)
    refine j_ic_ge hc ca1 cn4 (tgt := 22) dX1_has_9 (by decide) (fun q6 => ?_) (fun q6 => ?_)
    · replace h := h.1 q6
      refine j_sub (lv' := []) [] rfl ?_
      exact jb_X1_has_22 hc hm hr hh h
    · replace h := h.2 q6
      refine j_iload_n hc 1 dX1_has_12 rfl rfl ?_
      refine j_bipush hc dX1_has_13 (by decide) ?_
      refine j_ic_ge hc ca1 (wlit 10 (by decide)) (tgt := 22) dX1_has_15 (by decide) (fun q5 => ?_) (fun q5 => ?_)
      · replace h := h.1 q5
        refine j_sub (lv' := []) [] rfl ?_
        exact jb_X1_has_22 hc hm hr hh h
      · replace h := h.2 q5
        refine j_iconst hc dX1_has_18 ?_
        refine j_goto (tgt := 23) hc dX1_has_19 (by decide) ?_
        refine j_sub (lv' := []) [] rfl ?_
        exact jb_X1_has_23 hc hm hr hh (wlit 1 (by decide)) h
theorem fl_RX1_15 : FL RX1 15 1 2 := ⟨by decide, by decide, tb_mem 164 (by decide +kernel) (by decide +kernel)⟩
theorem fl_RX1_18 : FL RX1 18 1 3 := ⟨by decide, by decide, tb_mem 168 (by decide +kernel) (by decide +kernel)⟩
theorem fl_RX1_21 : FL RX1 21 1 4 := ⟨by decide, by decide, tb_mem 174 (by decide +kernel) (by decide +kernel)⟩
theorem fl_RX1_24 : FL RX1 24 1 5 := ⟨by decide, by decide, tb_mem 180 (by decide +kernel) (by decide +kernel)⟩
theorem fl_RX1_27 : FL RX1 27 1 6 := ⟨by decide, by decide, tb_mem 185 (by decide +kernel) (by decide +kernel)⟩
theorem fl_RX1_9 : FL RX1 9 1 1 := ⟨by decide, by decide, tb_mem 161 (by decide +kernel) (by decide +kernel)⟩
theorem dX1_join_0 : decode cX1_join 0 = .ok (.aload_n 0, 1) := by decide +kernel
theorem dX1_join_1 : decode cX1_join 1 = .ok (.getfield 46, 3) := by decide +kernel
theorem dX1_join_4 : decode cX1_join 4 = .ok (.ifCond .lt 12, 3) := by decide +kernel
theorem dX1_join_7 : decode cX1_join 7 = .ok (.aload_n 0, 1) := by decide +kernel
theorem dX1_join_8 : decode cX1_join 8 = .ok (.getfield 46, 3) := by decide +kernel
theorem dX1_join_11 : decode cX1_join 11 = .ok (.bipush 10, 2) := by decide +kernel
theorem dX1_join_13 : decode cX1_join 13 = .ok (.if_icmp .lt 6, 3) := by decide +kernel
theorem dX1_join_16 : decode cX1_join 16 = .ok (.bipush (-5), 2) := by decide +kernel
theorem dX1_join_18 : decode cX1_join 18 = .ok (.ireturn, 1) := by decide +kernel
theorem dX1_join_19 : decode cX1_join 19 = .ok (.aload_n 0, 1) := by decide +kernel
theorem dX1_join_20 : decode cX1_join 20 = .ok (.getfield 9, 3) := by decide +kernel
theorem dX1_join_23 : decode cX1_join 23 = .ok (.aload_n 0, 1) := by decide +kernel
theorem dX1_join_24 : decode cX1_join 24 = .ok (.getfield 46, 3) := by decide +kernel
theorem dX1_join_27 : decode cX1_join 27 = .ok (.iload_n 1, 1) := by decide +kernel
theorem dX1_join_28 : decode cX1_join 28 = .ok (.iastore, 1) := by decide +kernel
theorem dX1_join_29 : decode cX1_join 29 = .ok (.aload_n 0, 1) := by decide +kernel
theorem dX1_join_30 : decode cX1_join 30 = .ok (.getfield 15, 3) := by decide +kernel
theorem dX1_join_33 : decode cX1_join 33 = .ok (.aload_n 0, 1) := by decide +kernel
theorem dX1_join_34 : decode cX1_join 34 = .ok (.getfield 46, 3) := by decide +kernel
theorem dX1_join_37 : decode cX1_join 37 = .ok (.iload_n 2, 1) := by decide +kernel
theorem dX1_join_38 : decode cX1_join 38 = .ok (.iastore, 1) := by decide +kernel
theorem dX1_join_39 : decode cX1_join 39 = .ok (.aload_n 0, 1) := by decide +kernel
theorem dX1_join_40 : decode cX1_join 40 = .ok (.getfield 18, 3) := by decide +kernel
theorem dX1_join_43 : decode cX1_join 43 = .ok (.aload_n 0, 1) := by decide +kernel
theorem dX1_join_44 : decode cX1_join 44 = .ok (.getfield 46, 3) := by decide +kernel
theorem dX1_join_47 : decode cX1_join 47 = .ok (.iload_n 3, 1) := by decide +kernel
theorem dX1_join_48 : decode cX1_join 48 = .ok (.iastore, 1) := by decide +kernel
theorem dX1_join_49 : decode cX1_join 49 = .ok (.aload_n 0, 1) := by decide +kernel
theorem dX1_join_50 : decode cX1_join 50 = .ok (.getfield 21, 3) := by decide +kernel
theorem dX1_join_53 : decode cX1_join 53 = .ok (.aload_n 0, 1) := by decide +kernel
theorem dX1_join_54 : decode cX1_join 54 = .ok (.getfield 46, 3) := by decide +kernel
theorem dX1_join_57 : decode cX1_join 57 = .ok (.iconst 0, 1) := by decide +kernel
theorem dX1_join_58 : decode cX1_join 58 = .ok (.iastore, 1) := by decide +kernel
theorem dX1_join_59 : decode cX1_join 59 = .ok (.aload_n 0, 1) := by decide +kernel
theorem dX1_join_60 : decode cX1_join 60 = .ok (.getfield 24, 3) := by decide +kernel
theorem dX1_join_63 : decode cX1_join 63 = .ok (.aload_n 0, 1) := by decide +kernel
theorem dX1_join_64 : decode cX1_join 64 = .ok (.getfield 46, 3) := by decide +kernel
theorem dX1_join_67 : decode cX1_join 67 = .ok (.iconst 0, 1) := by decide +kernel
theorem dX1_join_68 : decode cX1_join 68 = .ok (.iastore, 1) := by decide +kernel
theorem dX1_join_69 : decode cX1_join 69 = .ok (.aload_n 0, 1) := by decide +kernel
theorem dX1_join_70 : decode cX1_join 70 = .ok (.getfield 27, 3) := by decide +kernel
theorem dX1_join_73 : decode cX1_join 73 = .ok (.aload_n 0, 1) := by decide +kernel
theorem dX1_join_74 : decode cX1_join 74 = .ok (.getfield 46, 3) := by decide +kernel
theorem dX1_join_77 : decode cX1_join 77 = .ok (.iconst 0, 1) := by decide +kernel
theorem dX1_join_78 : decode cX1_join 78 = .ok (.iastore, 1) := by decide +kernel
theorem dX1_join_79 : decode cX1_join 79 = .ok (.aload_n 0, 1) := by decide +kernel
theorem dX1_join_80 : decode cX1_join 80 = .ok (.dup, 1) := by decide +kernel
theorem dX1_join_81 : decode cX1_join 81 = .ok (.getfield 46, 3) := by decide +kernel
theorem dX1_join_84 : decode cX1_join 84 = .ok (.iconst 1, 1) := by decide +kernel
theorem dX1_join_85 : decode cX1_join 85 = .ok (.iadd, 1) := by decide +kernel
theorem dX1_join_86 : decode cX1_join 86 = .ok (.putfield 46, 3) := by decide +kernel
theorem dX1_join_89 : decode cX1_join 89 = .ok (.aload_n 0, 1) := by decide +kernel
theorem dX1_join_90 : decode cX1_join 90 = .ok (.getfield 46, 3) := by decide +kernel
theorem dX1_join_93 : decode cX1_join 93 = .ok (.iconst 1, 1) := by decide +kernel
theorem dX1_join_94 : decode cX1_join 94 = .ok (.isub, 1) := by decide +kernel
theorem dX1_join_95 : decode cX1_join 95 = .ok (.ireturn, 1) := by decide +kernel
def B_X1_join_16 (Q : Int → st_S → Prop)    (σ : st_S) : Prop := Q (-5) σ
def wp_X1_join (t : Nat) (a1 : Int) (a2 : Int) (a3 : Int) (σ : st_S) (Q : Int → st_S → Prop) : Prop := gK σ t = 16 + 1 ∧ (gI σ t 0 < 0 → B_X1_join_16 Q σ) ∧ (¬ gI σ t 0 < 0 → (gI σ t 0 < 10 → ix (gI σ t 0) 10 ∧ ∀ s59 : st_S, s59 = sI σ (t + 1) (Int.toNat (gI σ t 0)) a1 → ix (gI s59 t 0) 10 ∧ ∀ s62 : st_S, s62 = sI s59 (t + 2) (Int.toNat (gI s59 t 0)) a2 → ix (gI s62 t 0) 10 ∧ ∀ s65 : st_S, s65 = sI s62 (t + 3) (Int.toNat (gI s62 t 0)) a3 → ix (gI s65 t 0) 10 ∧ ∀ s68 : st_S, s68 = sI s65 (t + 4) (Int.toNat (gI s65 t 0)) 0 → ix (gI s68 t 0) 10 ∧ ∀ s71 : st_S, s71 = sI s68 (t + 5) (Int.toNat (gI s68 t 0)) 0 → ix (gI s71 t 0) 10 ∧ ∀ s74 : st_S, s74 = sI s71 (t + 6) (Int.toNat (gI s71 t 0)) 0 → ∀ x76 : Int, x76 = wr (gI s74 t 0 + 1) → ∀ s77 : st_S, s77 = sI s74 t 0 x76 → Q (wr (gI s77 t 0 - 1)) s77) ∧ (¬ gI σ t 0 < 10 → B_X1_join_16 Q σ))
set_option maxRecDepth 20000 in
theorem jb_X1_join_16 {X : jj_X} {E : ev_E} {n0 hN : Nat} (hc : Cx X E cX1_join 4 n0 hN RX1) (hm : eM E = 1) (hr : (xT X).sig.returnType = (some .int)) (hh : 1 ≤ hN) {Q : Int → st_S → Prop} {σ : st_S} (h : B_X1_join_16 Q σ) : J X E 4 n0 0 0 (MQ (xB X) (qI E (n0 + 0) Q) (xA X) (xS X) 0 0 (eF E)) σ 16 [] [] := by
  have hh1 : 1 ≤ hN := by omega
  replace h : Q (-5) σ := h
  refine j_bipush hc dX1_join_16 (by decide) ?_
  exact j_iret hc hr (wlit (-5) (by decide)) h dX1_join_18
set_option maxRecDepth 20000 in
theorem c_X1_join {l : Launch} {E : ev_E} (hE : Eok E) (hm : eM E = 1) {t : Nat} {a1 : Int} {a2 : Int} {a3 : Int} (ca1 : wr a1 = a1) (ca2 : wr a2 = a2) (ca3 : wr a3 = a3) {σ : st_S} {Q : Int → st_S → Prop} (h : wp_X1_join t a1 a2 a3 σ Q) : cM l yX1_join cX1_join 4 (some .int) E 1 0 0 [vR E t, vI a1, vI a2, vI a3] σ (qI E (gN σ + 0) Q) := by
  refine cM_of (lv := [(0, vR E t), (1, vI a1), (2, vI a2), (3, vI a3)]) (by decide) hE (Nat.le_of_ble_eq_true rfl) rfl ?_
  intro X hX hc _ _ hr _ _
  subst hX
  have hh : 1 ≤ 1 := Nat.le_refl _
  have hh1 : 1 ≤ 1 := by omega
  replace h : gK σ t = 16 + 1 ∧ (gI σ t 0 < 0 → B_X1_join_16 Q σ) ∧ (¬ gI σ t 0 < 0 → (gI σ t 0 < 10 → ix (gI σ t 0) 10 ∧ ∀ s59 : st_S, s59 = sI σ (t + 1) (Int.toNat (gI σ t 0)) a1 → ix (gI s59 t 0) 10 ∧ ∀ s62 : st_S, s62 = sI s59 (t + 2) (Int.toNat (gI s59 t 0)) a2 → ix (gI s62 t 0) 10 ∧ ∀ s65 : st_S, s65 = sI s62 (t + 3) (Int.toNat (gI s62 t 0)) a3 → ix (gI s65 t 0) 10 ∧ ∀ s68 : st_S, s68 = sI s65 (t + 4) (Int.toNat (gI s65 t 0)) 0 → ix (gI s68 t 0) 10 ∧ ∀ s71 : st_S, s71 = sI s68 (t + 5) (Int.toNat (gI s68 t 0)) 0 → ix (gI s71 t 0) 10 ∧ ∀ s74 : st_S, s74 = sI s71 (t + 6) (Int.toNat (gI s71 t 0)) 0 → ∀ x76 : Int, x76 = wr (gI s74 t 0 + 1) → ∀ s77 : st_S, s77 = sI s74 t 0 x76 → Q (wr (gI s77 t 0 - 1)) s77) ∧ (¬ gI σ t 0 < 10 → B_X1_join_16 Q σ)) := h
  refine j_aload_nR hc 0 dX1_join_0 rfl rfl ?_
  obtain ⟨f54, h⟩ := h
  refine j_getI hc fl_RX1_46 (Or.inl rfl) (fun _ => Or.inl f54) dX1_join_1 (fun cn55 => ?_)
  refine j_if_lt hc cn55 (tgt := 16) dX1_join_4 (by decide) (fun q80 => ?_) (fun q80 => ?_)
  · replace h := h.1 q80
    refine j_sub (lv' := []) [] rfl ?_
    exact jb_X1_join_16 hc hm hr hh h
  · replace h := h.2 q80
    refine j_aload_nR hc 0 dX1_join_7 rfl rfl ?_
    refine j_getI hc fl_RX1_46 (Or.inl rfl) (fun _ => Or.inl f54) dX1_join_8 (fun cn56 => ?_)
    refine j_bipush hc dX1_join_11 (by decide) ?_
    refine j_ic_lt hc cn56 (wlit 10 (by decide)) (tgt := 19) dX1_join_13 (by decide) (fun q79 => ?_) (fun q79 => ?_)
    · replace h := h.1 q79
      refine j_aload_nR hc 0 dX1_join_19 rfl rfl ?_
      refine j_getR (c' := (t + 1)) hc fl_RX1_9 rfl rfl (fun _ => f54) dX1_join_20 ?_
      refine j_aload_nR hc 0 dX1_join_23 rfl rfl ?_
      refine j_getI hc fl_RX1_46 (Or.inl rfl) (fun _ => Or.inl f54) dX1_join_24 (fun cn57 => ?_)
      refine j_iload_n hc 1 dX1_join_27 rfl rfl ?_
      obtain ⟨b58, h⟩ := h
      refine j_iast (jn := (Int.toNat (gI σ t 0))) hc (fun hv => sv_b hv f54 (by decide) rfl) cn57 b58 rfl ca1 dX1_join_28 (fun s59 es59 => ?_)
      replace h := h s59 es59
      refine j_aload_nR hc 0 dX1_join_29 rfl rfl ?_
      refine j_getR (c' := (t + 2)) hc fl_RX1_15 rfl rfl (fun _ => (kI (Or.inl ⟨_, _, _, es59⟩) f54)) dX1_join_30 ?_
      refine j_aload_nR hc 0 dX1_join_33 rfl rfl ?_
      refine j_getI hc fl_RX1_46 (Or.inl rfl) (fun _ => Or.inl (kI (Or.inl ⟨_, _, _, es59⟩) f54)) dX1_join_34 (fun cn60 => ?_)
      refine j_iload_n hc 2 dX1_join_37 rfl rfl ?_
      obtain ⟨b61, h⟩ := h
      refine j_iast (jn := (Int.toNat (gI s59 t 0))) hc (fun hv => sv_b hv (kI (Or.inl ⟨_, _, _, es59⟩) f54) (by decide) rfl) cn60 b61 rfl ca2 dX1_join_38 (fun s62 es62 => ?_)
      replace h := h s62 es62
      refine j_aload_nR hc 0 dX1_join_39 rfl rfl ?_
      refine j_getR (c' := (t + 3)) hc fl_RX1_18 rfl rfl (fun _ => (kI (Or.inl ⟨_, _, _, es62⟩) (kI (Or.inl ⟨_, _, _, es59⟩) f54))) dX1_join_40 ?_
      refine j_aload_nR hc 0 dX1_join_43 rfl rfl ?_
      refine j_getI hc fl_RX1_46 (Or.inl rfl) (fun _ => Or.inl (kI (Or.inl ⟨_, _, _, es62⟩) (kI (Or.inl ⟨_, _, _, es59⟩) f54))) dX1_join_44 (fun cn63 => ?_)
      refine j_iload_n hc 3 dX1_join_47 rfl rfl ?_
      obtain ⟨b64, h⟩ := h
      refine j_iast (jn := (Int.toNat (gI s62 t 0))) hc (fun hv => sv_b hv (kI (Or.inl ⟨_, _, _, es62⟩) (kI (Or.inl ⟨_, _, _, es59⟩) f54)) (by decide) rfl) cn63 b64 rfl ca3 dX1_join_48 (fun s65 es65 => ?_)
      replace h := h s65 es65
      refine j_aload_nR hc 0 dX1_join_49 rfl rfl ?_
      refine j_getR (c' := (t + 4)) hc fl_RX1_21 rfl rfl (fun _ => (kI (Or.inl ⟨_, _, _, es65⟩) (kI (Or.inl ⟨_, _, _, es62⟩) (kI (Or.inl ⟨_, _, _, es59⟩) f54)))) dX1_join_50 ?_
      refine j_aload_nR hc 0 dX1_join_53 rfl rfl ?_
      refine j_getI hc fl_RX1_46 (Or.inl rfl) (fun _ => Or.inl (kI (Or.inl ⟨_, _, _, es65⟩) (kI (Or.inl ⟨_, _, _, es62⟩) (kI (Or.inl ⟨_, _, _, es59⟩) f54)))) dX1_join_54 (fun cn66 => ?_)
      refine j_iconst hc dX1_join_57 ?_
      obtain ⟨b67, h⟩ := h
      refine j_iast (jn := (Int.toNat (gI s65 t 0))) hc (fun hv => sv_b hv (kI (Or.inl ⟨_, _, _, es65⟩) (kI (Or.inl ⟨_, _, _, es62⟩) (kI (Or.inl ⟨_, _, _, es59⟩) f54))) (by decide) rfl) cn66 b67 rfl (wlit 0 (by decide)) dX1_join_58 (fun s68 es68 => ?_)
      replace h := h s68 es68
      refine j_aload_nR hc 0 dX1_join_59 rfl rfl ?_
      refine j_getR (c' := (t + 5)) hc fl_RX1_24 rfl rfl (fun _ => (kI (Or.inl ⟨_, _, _, es68⟩) (kI (Or.inl ⟨_, _, _, es65⟩) (kI (Or.inl ⟨_, _, _, es62⟩) (kI (Or.inl ⟨_, _, _, es59⟩) f54))))) dX1_join_60 ?_
      refine j_aload_nR hc 0 dX1_join_63 rfl rfl ?_
      refine j_getI hc fl_RX1_46 (Or.inl rfl) (fun _ => Or.inl (kI (Or.inl ⟨_, _, _, es68⟩) (kI (Or.inl ⟨_, _, _, es65⟩) (kI (Or.inl ⟨_, _, _, es62⟩) (kI (Or.inl ⟨_, _, _, es59⟩) f54))))) dX1_join_64 (fun cn69 => ?_)
      refine j_iconst hc dX1_join_67 ?_
      obtain ⟨b70, h⟩ := h
      refine j_iast (jn := (Int.toNat (gI s68 t 0))) hc (fun hv => sv_b hv (kI (Or.inl ⟨_, _, _, es68⟩) (kI (Or.inl ⟨_, _, _, es65⟩) (kI (Or.inl ⟨_, _, _, es62⟩) (kI (Or.inl ⟨_, _, _, es59⟩) f54)))) (by decide) rfl) cn69 b70 rfl (wlit 0 (by decide)) dX1_join_68 (fun s71 es71 => ?_)
      replace h := h s71 es71
      refine j_aload_nR hc 0 dX1_join_69 rfl rfl ?_
      refine j_getR (c' := (t + 6)) hc fl_RX1_27 rfl rfl (fun _ => (kI (Or.inl ⟨_, _, _, es71⟩) (kI (Or.inl ⟨_, _, _, es68⟩) (kI (Or.inl ⟨_, _, _, es65⟩) (kI (Or.inl ⟨_, _, _, es62⟩) (kI (Or.inl ⟨_, _, _, es59⟩) f54)))))) dX1_join_70 ?_
      refine j_aload_nR hc 0 dX1_join_73 rfl rfl ?_
      refine j_getI hc fl_RX1_46 (Or.inl rfl) (fun _ => Or.inl (kI (Or.inl ⟨_, _, _, es71⟩) (kI (Or.inl ⟨_, _, _, es68⟩) (kI (Or.inl ⟨_, _, _, es65⟩) (kI (Or.inl ⟨_, _, _, es62⟩) (kI (Or.inl ⟨_, _, _, es59⟩) f54)))))) dX1_join_74 (fun cn72 => ?_)
      refine j_iconst hc dX1_join_77 ?_
      obtain ⟨b73, h⟩ := h
      refine j_iast (jn := (Int.toNat (gI s71 t 0))) hc (fun hv => sv_b hv (kI (Or.inl ⟨_, _, _, es71⟩) (kI (Or.inl ⟨_, _, _, es68⟩) (kI (Or.inl ⟨_, _, _, es65⟩) (kI (Or.inl ⟨_, _, _, es62⟩) (kI (Or.inl ⟨_, _, _, es59⟩) f54))))) (by decide) rfl) cn72 b73 rfl (wlit 0 (by decide)) dX1_join_78 (fun s74 es74 => ?_)
      replace h := h s74 es74
      refine j_aload_nR hc 0 dX1_join_79 rfl rfl ?_
      refine j_dup hc dX1_join_80 rfl ?_
      refine j_getI hc fl_RX1_46 (Or.inl rfl) (fun _ => Or.inl (kI (Or.inl ⟨_, _, _, es74⟩) (kI (Or.inl ⟨_, _, _, es71⟩) (kI (Or.inl ⟨_, _, _, es68⟩) (kI (Or.inl ⟨_, _, _, es65⟩) (kI (Or.inl ⟨_, _, _, es62⟩) (kI (Or.inl ⟨_, _, _, es59⟩) f54))))))) dX1_join_81 (fun cn75 => ?_)
      refine j_iconst hc dX1_join_84 ?_
      refine j_iadd hc dX1_join_85 ?_
      refine j_w (fun x76 ex76 cx76 => ?_)
      replace h := h x76 ex76
      refine j_putI hc fl_RX1_46 rfl rfl (fun _ => Or.inl (kI (Or.inl ⟨_, _, _, es74⟩) (kI (Or.inl ⟨_, _, _, es71⟩) (kI (Or.inl ⟨_, _, _, es68⟩) (kI (Or.inl ⟨_, _, _, es65⟩) (kI (Or.inl ⟨_, _, _, es62⟩) (kI (Or.inl ⟨_, _, _, es59⟩) f54))))))) cx76 dX1_join_86 (fun s77 es77 => ?_)
      replace h := h s77 es77
      refine j_aload_nR hc 0 dX1_join_89 rfl rfl ?_
      refine j_getI hc fl_RX1_46 (Or.inl rfl) (fun _ => Or.inl (kI (Or.inl ⟨_, _, _, es77⟩) (kI (Or.inl ⟨_, _, _, es74⟩) (kI (Or.inl ⟨_, _, _, es71⟩) (kI (Or.inl ⟨_, _, _, es68⟩) (kI (Or.inl ⟨_, _, _, es65⟩) (kI (Or.inl ⟨_, _, _, es62⟩) (kI (Or.inl ⟨_, _, _, es59⟩) f54)))))))) dX1_join_90 (fun cn78 => ?_)
      refine j_iconst hc dX1_join_93 ?_
      refine j_isub hc dX1_join_94 ?_
      refine j_w (fun y ey cy => ?_)
      subst ey
      exact j_iret hc hr cy h dX1_join_95
    · replace h := h.2 q79
      refine j_sub (lv' := []) [] rfl ?_
      exact jb_X1_join_16 hc hm hr hh h
theorem dX1_worth_0 : decode cX1_worth 0 = .ok (.aload_n 0, 1) := by decide +kernel
theorem dX1_worth_1 : decode cX1_worth 1 = .ok (.getfield 21, 3) := by decide +kernel
theorem dX1_worth_4 : decode cX1_worth 4 = .ok (.iload_n 1, 1) := by decide +kernel
theorem dX1_worth_5 : decode cX1_worth 5 = .ok (.iaload, 1) := by decide +kernel
theorem dX1_worth_6 : decode cX1_worth 6 = .ok (.iconst 3, 1) := by decide +kernel
theorem dX1_worth_7 : decode cX1_worth 7 = .ok (.if_icmp .ne 7, 3) := by decide +kernel
theorem dX1_worth_10 : decode cX1_worth 10 = .ok (.iconst 0, 1) := by decide +kernel
theorem dX1_worth_11 : decode cX1_worth 11 = .ok (.goto 11, 3) := by decide +kernel
theorem dX1_worth_14 : decode cX1_worth 14 = .ok (.iconst 2, 1) := by decide +kernel
theorem dX1_worth_15 : decode cX1_worth 15 = .ok (.aload_n 0, 1) := by decide +kernel
theorem dX1_worth_16 : decode cX1_worth 16 = .ok (.getfield 18, 3) := by decide +kernel
theorem dX1_worth_19 : decode cX1_worth 19 = .ok (.iload_n 1, 1) := by decide +kernel
theorem dX1_worth_20 : decode cX1_worth 20 = .ok (.iaload, 1) := by decide +kernel
theorem dX1_worth_21 : decode cX1_worth 21 = .ok (.isub, 1) := by decide +kernel
theorem dX1_worth_22 : decode cX1_worth 22 = .ok (.ireturn, 1) := by decide +kernel
def B_X1_worth_22 (Q : Int → st_S → Prop)   (k0 : Int) (σ : st_S) : Prop := Q k0 σ
def wp_X1_worth (t : Nat) (a1 : Int) (σ : st_S) (Q : Int → st_S → Prop) : Prop := gK σ t = 16 + 1 ∧ ix a1 10 ∧ (¬ gI σ (t + 4) (Int.toNat a1) = 3 → ix a1 10 ∧ ∀ x14 : Int, x14 = wr (2 - gI σ (t + 3) (Int.toNat a1)) → B_X1_worth_22 Q x14 σ) ∧ (gI σ (t + 4) (Int.toNat a1) = 3 → B_X1_worth_22 Q 0 σ)
set_option maxRecDepth 20000 in
theorem jb_X1_worth_22 {X : jj_X} {E : ev_E} {n0 hN : Nat} (hc : Cx X E cX1_worth 2 n0 hN RX1) (hm : eM E = 1) (hr : (xT X).sig.returnType = (some .int)) (hh : 1 ≤ hN) {Q : Int → st_S → Prop} {k0 : Int} (ck0 : wr k0 = k0) {σ : st_S} (h : B_X1_worth_22 Q k0 σ) : J X E 2 n0 0 0 (MQ (xB X) (qI E (n0 + 0) Q) (xA X) (xS X) 0 0 (eF E)) σ 22 [] [vI k0] := by
  have hh1 : 1 ≤ hN := by omega
  replace h : Q k0 σ := h
  exact j_iret hc hr ck0 h dX1_worth_22
set_option maxRecDepth 20000 in
theorem c_X1_worth {l : Launch} {E : ev_E} (hE : Eok E) (hm : eM E = 1) {t : Nat} {a1 : Int} (ca1 : wr a1 = a1) {σ : st_S} {Q : Int → st_S → Prop} (h : wp_X1_worth t a1 σ Q) : cM l yX1_worth cX1_worth 2 (some .int) E 1 0 0 [vR E t, vI a1] σ (qI E (gN σ + 0) Q) := by
  refine cM_of (lv := [(0, vR E t), (1, vI a1)]) (by decide) hE (Nat.le_of_ble_eq_true rfl) rfl ?_
  intro X hX hc _ _ hr _ _
  subst hX
  have hh : 1 ≤ 1 := Nat.le_refl _
  have hh1 : 1 ≤ 1 := by omega
  replace h : gK σ t = 16 + 1 ∧ ix a1 10 ∧ (¬ gI σ (t + 4) (Int.toNat a1) = 3 → ix a1 10 ∧ ∀ x14 : Int, x14 = wr (2 - gI σ (t + 3) (Int.toNat a1)) → B_X1_worth_22 Q x14 σ) ∧ (gI σ (t + 4) (Int.toNat a1) = 3 → B_X1_worth_22 Q 0 σ) := h
  refine j_aload_nR hc 0 dX1_worth_0 rfl rfl ?_
  obtain ⟨f9, h⟩ := h
  refine j_getR (c' := (t + 4)) hc fl_RX1_21 rfl rfl (fun _ => f9) dX1_worth_1 ?_
  refine j_iload_n hc 1 dX1_worth_4 rfl rfl ?_
  obtain ⟨b10, h⟩ := h
  refine j_iald (jn := (Int.toNat a1)) hc (fun hv => sv_b hv f9 (by decide) rfl) ca1 b10 rfl dX1_worth_5 (fun cn11 => ?_)
  refine j_iconst hc dX1_worth_6 ?_
  refine j_ic_ne hc cn11 (wlit 3 (by decide)) (tgt := 14) dX1_worth_7 (by decide) (fun q15 => ?_) (fun q15 => ?_)
  · replace h := h.1 q15
    refine j_iconst hc dX1_worth_14 ?_
    refine j_aload_nR hc 0 dX1_worth_15 rfl rfl ?_
    refine j_getR (c' := (t + 3)) hc fl_RX1_18 rfl rfl (fun _ => f9) dX1_worth_16 ?_
    refine j_iload_n hc 1 dX1_worth_19 rfl rfl ?_
    obtain ⟨b12, h⟩ := h
    refine j_iald (jn := (Int.toNat a1)) hc (fun hv => sv_b hv f9 (by decide) rfl) ca1 b12 rfl dX1_worth_20 (fun cn13 => ?_)
    refine j_isub hc dX1_worth_21 ?_
    refine j_w (fun x14 ex14 cx14 => ?_)
    replace h := h x14 ex14
    refine j_sub (lv' := []) [] rfl ?_
    exact jb_X1_worth_22 hc hm hr hh cx14 h
  · replace h := h.2 q15
    refine j_iconst hc dX1_worth_10 ?_
    refine j_goto (tgt := 22) hc dX1_worth_11 (by decide) ?_
    refine j_sub (lv' := []) [] rfl ?_
    exact jb_X1_worth_22 hc hm hr hh (wlit 0 (by decide)) h
theorem dX1_talks_0 : decode cX1_talks 0 = .ok (.aload_n 0, 1) := by decide +kernel
theorem dX1_talks_1 : decode cX1_talks 1 = .ok (.getfield 27, 3) := by decide +kernel
theorem dX1_talks_4 : decode cX1_talks 4 = .ok (.iload_n 1, 1) := by decide +kernel
theorem dX1_talks_5 : decode cX1_talks 5 = .ok (.iaload, 1) := by decide +kernel
theorem dX1_talks_6 : decode cX1_talks 6 = .ok (.iload_n 2, 1) := by decide +kernel
theorem dX1_talks_7 : decode cX1_talks 7 = .ok (.ishr, 1) := by decide +kernel
theorem dX1_talks_8 : decode cX1_talks 8 = .ok (.iconst 1, 1) := by decide +kernel
theorem dX1_talks_9 : decode cX1_talks 9 = .ok (.iand, 1) := by decide +kernel
theorem dX1_talks_10 : decode cX1_talks 10 = .ok (.ifCond .eq 7, 3) := by decide +kernel
theorem dX1_talks_13 : decode cX1_talks 13 = .ok (.iconst 1, 1) := by decide +kernel
theorem dX1_talks_14 : decode cX1_talks 14 = .ok (.goto 4, 3) := by decide +kernel
theorem dX1_talks_17 : decode cX1_talks 17 = .ok (.iconst 0, 1) := by decide +kernel
theorem dX1_talks_18 : decode cX1_talks 18 = .ok (.ireturn, 1) := by decide +kernel
def B_X1_talks_18 (Q : Int → st_S → Prop)   (k0 : Int) (σ : st_S) : Prop := (k0 = 0 ∨ k0 = 1) ∧ Q k0 σ
def wp_X1_talks (t : Nat) (a1 : Int) (a2 : Int) (σ : st_S) (Q : Int → st_S → Prop) : Prop := gK σ t = 16 + 1 ∧ ix a1 10 ∧ (o_and (o_shr (gI σ (t + 6) (Int.toNat a1)) a2) 1 = 0 → B_X1_talks_18 Q 0 σ) ∧ (¬ o_and (o_shr (gI σ (t + 6) (Int.toNat a1)) a2) 1 = 0 → B_X1_talks_18 Q 1 σ)
set_option maxRecDepth 20000 in
theorem jb_X1_talks_18 {X : jj_X} {E : ev_E} {n0 hN : Nat} (hc : Cx X E cX1_talks 3 n0 hN RX1) (hm : eM E = 1) (hr : (xT X).sig.returnType = (some .boolean)) (hh : 1 ≤ hN) {Q : Int → st_S → Prop} {k0 : Int} (ck0 : wr k0 = k0) {σ : st_S} (h : B_X1_talks_18 Q k0 σ) : J X E 3 n0 0 0 (MQ (xB X) (qI E (n0 + 0) Q) (xA X) (xS X) 0 0 (eF E)) σ 18 [] [vI k0] := by
  have hh1 : 1 ≤ hN := by omega
  replace h : (k0 = 0 ∨ k0 = 1) ∧ Q k0 σ := h
  exact j_zret hc hr (nar_bool h.1) (by rcases h.1 with e | e <;> (rw [e]; decide)) h.2 dX1_talks_18
set_option maxRecDepth 20000 in
theorem c_X1_talks {l : Launch} {E : ev_E} (hE : Eok E) (hm : eM E = 1) {t : Nat} {a1 : Int} {a2 : Int} (ca1 : wr a1 = a1) (ca2 : wr a2 = a2) {σ : st_S} {Q : Int → st_S → Prop} (h : wp_X1_talks t a1 a2 σ Q) : cM l yX1_talks cX1_talks 3 (some .boolean) E 1 0 0 [vR E t, vI a1, vI a2] σ (qI E (gN σ + 0) Q) := by
  refine cM_of (lv := [(0, vR E t), (1, vI a1), (2, vI a2)]) (by decide) hE (Nat.le_of_ble_eq_true rfl) rfl ?_
  intro X hX hc _ _ hr _ _
  subst hX
  have hh : 1 ≤ 1 := Nat.le_refl _
  have hh1 : 1 ≤ 1 := by omega
  replace h : gK σ t = 16 + 1 ∧ ix a1 10 ∧ (o_and (o_shr (gI σ (t + 6) (Int.toNat a1)) a2) 1 = 0 → B_X1_talks_18 Q 0 σ) ∧ (¬ o_and (o_shr (gI σ (t + 6) (Int.toNat a1)) a2) 1 = 0 → B_X1_talks_18 Q 1 σ) := h
  refine j_aload_nR hc 0 dX1_talks_0 rfl rfl ?_
  obtain ⟨f5, h⟩ := h
  refine j_getR (c' := (t + 6)) hc fl_RX1_27 rfl rfl (fun _ => f5) dX1_talks_1 ?_
  refine j_iload_n hc 1 dX1_talks_4 rfl rfl ?_
  obtain ⟨b6, h⟩ := h
  refine j_iald (jn := (Int.toNat a1)) hc (fun hv => sv_b hv f5 (by decide) rfl) ca1 b6 rfl dX1_talks_5 (fun cn7 => ?_)
  refine j_iload_n hc 2 dX1_talks_6 rfl rfl ?_
  refine j_ishr hc dX1_talks_7 ?_
  refine j_iconst hc dX1_talks_8 ?_
  refine j_iand hc dX1_talks_9 ?_
  refine j_if_eq hc (cn_and _ _) (tgt := 17) dX1_talks_10 (by decide) (fun q8 => ?_) (fun q8 => ?_)
  · replace h := h.1 q8
    refine j_iconst hc dX1_talks_17 ?_
    refine j_sub (lv' := []) [] rfl ?_
    exact jb_X1_talks_18 hc hm hr hh (wlit 0 (by decide)) h
  · replace h := h.2 q8
    refine j_iconst hc dX1_talks_13 ?_
    refine j_goto (tgt := 18) hc dX1_talks_14 (by decide) ?_
    refine j_sub (lv' := []) [] rfl ?_
    exact jb_X1_talks_18 hc hm hr hh (wlit 1 (by decide)) h
theorem fl_RX1_30 : FL RX1 30 1 7 := ⟨by decide, by decide, tb_mem 187 (by decide +kernel) (by decide +kernel)⟩
theorem dX1_fogOn_0 : decode cX1_fogOn 0 = .ok (.iload_n 1, 1) := by decide +kernel
theorem dX1_fogOn_1 : decode cX1_fogOn 1 = .ok (.ifCond .lt 18, 3) := by decide +kernel
theorem dX1_fogOn_4 : decode cX1_fogOn 4 = .ok (.iload_n 1, 1) := by decide +kernel
theorem dX1_fogOn_5 : decode cX1_fogOn 5 = .ok (.bipush 100, 2) := by decide +kernel
theorem dX1_fogOn_7 : decode cX1_fogOn 7 = .ok (.if_icmp .ge 12, 3) := by decide +kernel
theorem dX1_fogOn_10 : decode cX1_fogOn 10 = .ok (.aload_n 0, 1) := by decide +kernel
theorem dX1_fogOn_11 : decode cX1_fogOn 11 = .ok (.getfield 30, 3) := by decide +kernel
theorem dX1_fogOn_14 : decode cX1_fogOn 14 = .ok (.iload_n 1, 1) := by decide +kernel
theorem dX1_fogOn_15 : decode cX1_fogOn 15 = .ok (.iaload, 1) := by decide +kernel
theorem dX1_fogOn_16 : decode cX1_fogOn 16 = .ok (.goto 4, 3) := by decide +kernel
theorem dX1_fogOn_19 : decode cX1_fogOn 19 = .ok (.iconst 0, 1) := by decide +kernel
theorem dX1_fogOn_20 : decode cX1_fogOn 20 = .ok (.ireturn, 1) := by decide +kernel
def B_X1_fogOn_20 (Q : Int → st_S → Prop)   (k0 : Int) (σ : st_S) : Prop := Q k0 σ
def B_X1_fogOn_19 (Q : Int → st_S → Prop)    (σ : st_S) : Prop := B_X1_fogOn_20 Q 0 σ
def wp_X1_fogOn (t : Nat) (a1 : Int) (σ : st_S) (Q : Int → st_S → Prop) : Prop := (a1 < 0 → B_X1_fogOn_19 Q σ) ∧ (¬ a1 < 0 → (100 ≤ a1 → B_X1_fogOn_19 Q σ) ∧ (¬ 100 ≤ a1 → gK σ t = 16 + 1 ∧ ix a1 100 ∧ B_X1_fogOn_20 Q (gI σ (t + 7) (Int.toNat a1)) σ))
set_option maxRecDepth 20000 in
theorem jb_X1_fogOn_20 {X : jj_X} {E : ev_E} {n0 hN : Nat} (hc : Cx X E cX1_fogOn 2 n0 hN RX1) (hm : eM E = 1) (hr : (xT X).sig.returnType = (some .int)) (hh : 1 ≤ hN) {Q : Int → st_S → Prop} {k0 : Int} (ck0 : wr k0 = k0) {σ : st_S} (h : B_X1_fogOn_20 Q k0 σ) : J X E 2 n0 0 0 (MQ (xB X) (qI E (n0 + 0) Q) (xA X) (xS X) 0 0 (eF E)) σ 20 [] [vI k0] := by
  have hh1 : 1 ≤ hN := by omega
  replace h : Q k0 σ := h
  exact j_iret hc hr ck0 h dX1_fogOn_20
set_option maxRecDepth 20000 in
theorem jb_X1_fogOn_19 {X : jj_X} {E : ev_E} {n0 hN : Nat} (hc : Cx X E cX1_fogOn 2 n0 hN RX1) (hm : eM E = 1) (hr : (xT X).sig.returnType = (some .int)) (hh : 1 ≤ hN) {Q : Int → st_S → Prop} {σ : st_S} (h : B_X1_fogOn_19 Q σ) : J X E 2 n0 0 0 (MQ (xB X) (qI E (n0 + 0) Q) (xA X) (xS X) 0 0 (eF E)) σ 19 [] [] := by
  have hh1 : 1 ≤ hN := by omega
  replace h : B_X1_fogOn_20 Q 0 σ := h
  refine j_iconst hc dX1_fogOn_19 ?_
  refine j_sub (lv' := []) [] rfl ?_
  exact jb_X1_fogOn_20 hc hm hr hh (wlit 0 (by decide)) h
set_option maxRecDepth 20000 in
theorem c_X1_fogOn {l : Launch} {E : ev_E} (hE : Eok E) (hm : eM E = 1) {t : Nat} {a1 : Int} (ca1 : wr a1 = a1) {σ : st_S} {Q : Int → st_S → Prop} (h : wp_X1_fogOn t a1 σ Q) : cM l yX1_fogOn cX1_fogOn 2 (some .int) E 1 0 0 [vR E t, vI a1] σ (qI E (gN σ + 0) Q) := by
  refine cM_of (lv := [(0, vR E t), (1, vI a1)]) (by decide) hE (Nat.le_of_ble_eq_true rfl) rfl ?_
  intro X hX hc _ _ hr _ _
  subst hX
  have hh : 1 ≤ 1 := Nat.le_refl _
  have hh1 : 1 ≤ 1 := by omega
  replace h : (a1 < 0 → B_X1_fogOn_19 Q σ) ∧ (¬ a1 < 0 → (100 ≤ a1 → B_X1_fogOn_19 Q σ) ∧ (¬ 100 ≤ a1 → gK σ t = 16 + 1 ∧ ix a1 100 ∧ B_X1_fogOn_20 Q (gI σ (t + 7) (Int.toNat a1)) σ)) := h
  refine j_iload_n hc 1 dX1_fogOn_0 rfl rfl ?_
  refine j_if_lt hc ca1 (tgt := 19) dX1_fogOn_1 (by decide) (fun q9 => ?_) (fun q9 => ?_)
  · replace h := h.1 q9
    refine j_sub (lv' := []) [] rfl ?_
    exact jb_X1_fogOn_19 hc hm hr hh h
  · replace h := h.2 q9
    refine j_iload_n hc 1 dX1_fogOn_4 rfl rfl ?_
    refine j_bipush hc dX1_fogOn_5 (by decide) ?_
    refine j_ic_ge hc ca1 (wlit 100 (by decide)) (tgt := 19) dX1_fogOn_7 (by decide) (fun q8 => ?_) (fun q8 => ?_)
    · replace h := h.1 q8
      refine j_sub (lv' := []) [] rfl ?_
      exact jb_X1_fogOn_19 hc hm hr hh h
    · replace h := h.2 q8
      refine j_aload_nR hc 0 dX1_fogOn_10 rfl rfl ?_
      obtain ⟨f5, h⟩ := h
      refine j_getR (c' := (t + 7)) hc fl_RX1_30 rfl rfl (fun _ => f5) dX1_fogOn_11 ?_
      refine j_iload_n hc 1 dX1_fogOn_14 rfl rfl ?_
      obtain ⟨b6, h⟩ := h
      refine j_iald (jn := (Int.toNat a1)) hc (fun hv => sv_b hv f5 (by decide) rfl) ca1 b6 rfl dX1_fogOn_15 (fun cn7 => ?_)
      refine j_goto (tgt := 20) hc dX1_fogOn_16 (by decide) ?_
      refine j_sub (lv' := []) [] rfl ?_
      exact jb_X1_fogOn_20 hc hm hr hh cn7 h
theorem dX1_anyOnRoad_0 : decode cX1_anyOnRoad 0 = .ok (.iconst 0, 1) := by decide +kernel
theorem dX1_anyOnRoad_1 : decode cX1_anyOnRoad 1 = .ok (.istore_n 1, 1) := by decide +kernel
theorem dX1_anyOnRoad_2 : decode cX1_anyOnRoad 2 = .ok (.iload_n 1, 1) := by decide +kernel
theorem dX1_anyOnRoad_3 : decode cX1_anyOnRoad 3 = .ok (.aload_n 0, 1) := by decide +kernel
theorem dX1_anyOnRoad_4 : decode cX1_anyOnRoad 4 = .ok (.getfield 46, 3) := by decide +kernel
theorem dX1_anyOnRoad_7 : decode cX1_anyOnRoad 7 = .ok (.if_icmp .ge 21, 3) := by decide +kernel
theorem dX1_anyOnRoad_10 : decode cX1_anyOnRoad 10 = .ok (.aload_n 0, 1) := by decide +kernel
theorem dX1_anyOnRoad_11 : decode cX1_anyOnRoad 11 = .ok (.getfield 21, 3) := by decide +kernel
theorem dX1_anyOnRoad_14 : decode cX1_anyOnRoad 14 = .ok (.iload_n 1, 1) := by decide +kernel
theorem dX1_anyOnRoad_15 : decode cX1_anyOnRoad 15 = .ok (.iaload, 1) := by decide +kernel
theorem dX1_anyOnRoad_16 : decode cX1_anyOnRoad 16 = .ok (.iconst 1, 1) := by decide +kernel
theorem dX1_anyOnRoad_17 : decode cX1_anyOnRoad 17 = .ok (.if_icmp .ne 5, 3) := by decide +kernel
theorem dX1_anyOnRoad_20 : decode cX1_anyOnRoad 20 = .ok (.iconst 1, 1) := by decide +kernel
theorem dX1_anyOnRoad_21 : decode cX1_anyOnRoad 21 = .ok (.ireturn, 1) := by decide +kernel
theorem dX1_anyOnRoad_22 : decode cX1_anyOnRoad 22 = .ok (.iinc 1 1, 3) := by decide +kernel
theorem dX1_anyOnRoad_25 : decode cX1_anyOnRoad 25 = .ok (.goto (-23), 3) := by decide +kernel
theorem dX1_anyOnRoad_28 : decode cX1_anyOnRoad 28 = .ok (.iconst 0, 1) := by decide +kernel
theorem dX1_anyOnRoad_29 : decode cX1_anyOnRoad 29 = .ok (.ireturn, 1) := by decide +kernel
def L_X1_anyOnRoad_2 (Q : Int → st_S → Prop)   : Nat → Int → Nat → st_S → Prop
  | 0 => fun _ _ _ => False
  | n + 1 => fun l1 l0 σ => gK σ l0 = 16 + 1 ∧ (gI σ l0 0 ≤ l1 → Q 0 σ) ∧ (¬ gI σ l0 0 ≤ l1 → ix l1 10 ∧ (¬ gI σ (l0 + 4) (Int.toNat l1) = 1 → ∀ x13 : Int, x13 = wr (l1 + 1) → (L_X1_anyOnRoad_2 Q n) x13 l0 σ) ∧ (gI σ (l0 + 4) (Int.toNat l1) = 1 → Q 1 σ))
def wp_X1_anyOnRoad (t : Nat) (σ : st_S) (Q : Int → st_S → Prop) : Prop := ∃ n : Nat, L_X1_anyOnRoad_2 Q n 0 t σ
set_option maxRecDepth 20000 in
theorem jl_X1_anyOnRoad_2 {X : jj_X} {E : ev_E} {n0 hN : Nat} (hc : Cx X E cX1_anyOnRoad 2 n0 hN RX1) (hm : eM E = 1) (hr : (xT X).sig.returnType = (some .boolean)) (hh : 1 ≤ hN) {Q : Int → st_S → Prop} : ∀ (n : Nat) {l1 : Int} {l0 : Nat} (cl1 : wr l1 = l1) {σ : st_S}, L_X1_anyOnRoad_2 Q n l1 l0 σ → J X E 2 n0 0 0 (MQ (xB X) (qI E (n0 + 0) Q) (xA X) (xS X) 0 0 (eF E)) σ 2 [(1, vI l1), (0, vR E l0)] [] := by
  have hh1 : 1 ≤ hN := by omega
  intro n
  induction n with
  | zero => intro l1 l0 cl1 σ h; exact h.elim
  | succ n ih =>
    intro l1 l0 cl1 σ h
    have hk2 : ∀ {l1 : Int} {l0 : Nat} (cl1 : wr l1 = l1) {σ : st_S}, L_X1_anyOnRoad_2 Q n l1 l0 σ → J X E 2 n0 0 0 (MQ (xB X) (qI E (n0 + 0) Q) (xA X) (xS X) 0 0 (eF E)) σ 2 [(1, vI l1), (0, vR E l0)] [] := ih
    replace h : gK σ l0 = 16 + 1 ∧ (gI σ l0 0 ≤ l1 → Q 0 σ) ∧ (¬ gI σ l0 0 ≤ l1 → ix l1 10 ∧ (¬ gI σ (l0 + 4) (Int.toNat l1) = 1 → ∀ x13 : Int, x13 = wr (l1 + 1) → (L_X1_anyOnRoad_2 Q n) x13 l0 σ) ∧ (gI σ (l0 + 4) (Int.toNat l1) = 1 → Q 1 σ)) := h
    refine j_iload_n hc 0 dX1_anyOnRoad_2 rfl rfl ?_
    refine j_aload_nR hc 1 dX1_anyOnRoad_3 rfl rfl ?_
    obtain ⟨f9, h⟩ := h
    refine j_getI hc fl_RX1_46 (Or.inl rfl) (fun _ => Or.inl f9) dX1_anyOnRoad_4 (fun cn10 => ?_)
    refine j_ic_ge hc cl1 cn10 (tgt := 28) dX1_anyOnRoad_7 (by decide) (fun q15 => ?_) (fun q15 => ?_)
    · replace h := h.1 q15
      refine j_iconst hc dX1_anyOnRoad_28 ?_
      exact j_zret hc hr (nar_bool (Or.inl rfl)) (by decide) h dX1_anyOnRoad_29
    · replace h := h.2 q15
      refine j_aload_nR hc 1 dX1_anyOnRoad_10 rfl rfl ?_
      refine j_getR (c' := (l0 + 4)) hc fl_RX1_21 rfl rfl (fun _ => f9) dX1_anyOnRoad_11 ?_
      refine j_iload_n hc 0 dX1_anyOnRoad_14 rfl rfl ?_
      obtain ⟨b11, h⟩ := h
      refine j_iald (jn := (Int.toNat l1)) hc (fun hv => sv_b hv f9 (by decide) rfl) cl1 b11 rfl dX1_anyOnRoad_15 (fun cn12 => ?_)
      refine j_iconst hc dX1_anyOnRoad_16 ?_
      refine j_ic_ne hc cn12 (wlit 1 (by decide)) (tgt := 22) dX1_anyOnRoad_17 (by decide) (fun q14 => ?_) (fun q14 => ?_)
      · replace h := h.1 q14
        obtain ⟨x13, ex13⟩ : ∃ y : Int, y = wr (l1 + 1) := ⟨_, rfl⟩
        have cx13 : wr x13 = x13 := by rw [ex13]; exact wr_wr _
        replace h := h x13 ex13
        refine j_iinc (lv' := [(1, vI x13), (0, vR E l0)]) hc 0 dX1_anyOnRoad_22 rfl (by decide) ex13 rfl ?_
        refine j_goto (tgt := 2) hc dX1_anyOnRoad_25 (by decide) ?_
        refine j_sub (lv' := [(1, vI x13), (0, vR E l0)]) [0, 1] rfl ?_
        exact hk2 cx13 h
      · replace h := h.2 q14
        refine j_iconst hc dX1_anyOnRoad_20 ?_
        exact j_zret hc hr (nar_bool (Or.inr rfl)) (by decide) h dX1_anyOnRoad_21
set_option maxRecDepth 20000 in
theorem c_X1_anyOnRoad {l : Launch} {E : ev_E} (hE : Eok E) (hm : eM E = 1) {t : Nat} {σ : st_S} {Q : Int → st_S → Prop} (h : wp_X1_anyOnRoad t σ Q) : cM l yX1_anyOnRoad cX1_anyOnRoad 2 (some .boolean) E 1 0 0 [vR E t] σ (qI E (gN σ + 0) Q) := by
  refine cM_of (lv := [(0, vR E t)]) (by decide) hE (Nat.le_of_ble_eq_true rfl) rfl ?_
  intro X hX hc _ _ hr _ _
  subst hX
  have hh : 1 ≤ 1 := Nat.le_refl _
  have hh1 : 1 ≤ 1 := by omega
  replace h : ∃ n : Nat, L_X1_anyOnRoad_2 Q n 0 t σ := h
  refine j_iconst hc dX1_anyOnRoad_0 ?_
  refine j_istore_n (lv' := [(1, vI 0), (0, vR E t)]) hc dX1_anyOnRoad_1 rfl (by decide) rfl ?_
  obtain ⟨n2, h⟩ := h
  refine j_sub (lv' := [(1, vI 0), (0, vR E t)]) [0, 1] rfl ?_
  exact jl_X1_anyOnRoad_2 hc hm hr hh n2 (wlit 0 (by decide)) h
theorem dX1_here_0 : decode cX1_here 0 = .ok (.iconst 0, 1) := by decide +kernel
theorem dX1_here_1 : decode cX1_here 1 = .ok (.istore_n 1, 1) := by decide +kernel
theorem dX1_here_2 : decode cX1_here 2 = .ok (.iconst 0, 1) := by decide +kernel
theorem dX1_here_3 : decode cX1_here 3 = .ok (.istore_n 2, 1) := by decide +kernel
theorem dX1_here_4 : decode cX1_here 4 = .ok (.iload_n 2, 1) := by decide +kernel
theorem dX1_here_5 : decode cX1_here 5 = .ok (.aload_n 0, 1) := by decide +kernel
theorem dX1_here_6 : decode cX1_here 6 = .ok (.getfield 46, 3) := by decide +kernel
theorem dX1_here_9 : decode cX1_here 9 = .ok (.if_icmp .ge 25, 3) := by decide +kernel
theorem dX1_here_12 : decode cX1_here 12 = .ok (.aload_n 0, 1) := by decide +kernel
theorem dX1_here_13 : decode cX1_here 13 = .ok (.getfield 21, 3) := by decide +kernel
theorem dX1_here_16 : decode cX1_here 16 = .ok (.iload_n 2, 1) := by decide +kernel
theorem dX1_here_17 : decode cX1_here 17 = .ok (.iaload, 1) := by decide +kernel
theorem dX1_here_18 : decode cX1_here 18 = .ok (.iconst 2, 1) := by decide +kernel
theorem dX1_here_19 : decode cX1_here 19 = .ok (.if_icmp .ne 9, 3) := by decide +kernel
theorem dX1_here_22 : decode cX1_here 22 = .ok (.iload_n 1, 1) := by decide +kernel
theorem dX1_here_23 : decode cX1_here 23 = .ok (.iconst 1, 1) := by decide +kernel
theorem dX1_here_24 : decode cX1_here 24 = .ok (.iload_n 2, 1) := by decide +kernel
theorem dX1_here_25 : decode cX1_here 25 = .ok (.ishl, 1) := by decide +kernel
theorem dX1_here_26 : decode cX1_here 26 = .ok (.ior, 1) := by decide +kernel
theorem dX1_here_27 : decode cX1_here 27 = .ok (.istore_n 1, 1) := by decide +kernel
theorem dX1_here_28 : decode cX1_here 28 = .ok (.iinc 2 1, 3) := by decide +kernel
theorem dX1_here_31 : decode cX1_here 31 = .ok (.goto (-27), 3) := by decide +kernel
theorem dX1_here_34 : decode cX1_here 34 = .ok (.iload_n 1, 1) := by decide +kernel
theorem dX1_here_35 : decode cX1_here 35 = .ok (.ireturn, 1) := by decide +kernel
def B_X1_here_28 (Q : Int → st_S → Prop)  (k4 : Int → Int → Nat → st_S → Prop) (l1 : Int) (l2 : Int) (l0 : Nat) (σ : st_S) : Prop := ∀ x11 : Int, x11 = wr (l2 + 1) → k4 x11 l1 l0 σ
def L_X1_here_4 (Q : Int → st_S → Prop)   : Nat → Int → Int → Nat → st_S → Prop
  | 0 => fun _ _ _ _ => False
  | n + 1 => fun l2 l1 l0 σ => gK σ l0 = 16 + 1 ∧ (gI σ l0 0 ≤ l2 → Q l1 σ) ∧ (¬ gI σ l0 0 ≤ l2 → ix l2 10 ∧ (¬ gI σ (l0 + 4) (Int.toNat l2) = 2 → B_X1_here_28 Q (L_X1_here_4 Q n) l1 l2 l0 σ) ∧ (gI σ (l0 + 4) (Int.toNat l2) = 2 → ∀ x16 : Int, x16 = o_or l1 (o_shl 1 l2) → B_X1_here_28 Q (L_X1_here_4 Q n) x16 l2 l0 σ))
def wp_X1_here (t : Nat) (σ : st_S) (Q : Int → st_S → Prop) : Prop := ∃ n : Nat, L_X1_here_4 Q n 0 0 t σ
set_option maxRecDepth 20000 in
theorem jb_X1_here_28 {X : jj_X} {E : ev_E} {n0 hN : Nat} (hc : Cx X E cX1_here 3 n0 hN RX1) (hm : eM E = 1) (hr : (xT X).sig.returnType = (some .int)) (hh : 1 ≤ hN) {Q : Int → st_S → Prop} {k4 : Int → Int → Nat → st_S → Prop} (hk4 : ∀ {l2 : Int} {l1 : Int} {l0 : Nat} (cl2 : wr l2 = l2) (cl1 : wr l1 = l1) {σ : st_S}, k4 l2 l1 l0 σ → J X E 3 n0 0 0 (MQ (xB X) (qI E (n0 + 0) Q) (xA X) (xS X) 0 0 (eF E)) σ 4 [(2, vI l2), (1, vI l1), (0, vR E l0)] []) {l1 : Int} {l2 : Int} {l0 : Nat} (cl1 : wr l1 = l1) (cl2 : wr l2 = l2) {σ : st_S} (h : B_X1_here_28 Q k4 l1 l2 l0 σ) : J X E 3 n0 0 0 (MQ (xB X) (qI E (n0 + 0) Q) (xA X) (xS X) 0 0 (eF E)) σ 28 [(1, vI l1), (2, vI l2), (0, vR E l0)] [] := by
  have hh1 : 1 ≤ hN := by omega
  replace h : ∀ x11 : Int, x11 = wr (l2 + 1) → k4 x11 l1 l0 σ := h
  obtain ⟨x11, ex11⟩ : ∃ y : Int, y = wr (l2 + 1) := ⟨_, rfl⟩
  have cx11 : wr x11 = x11 := by rw [ex11]; exact wr_wr _
  replace h := h x11 ex11
  refine j_iinc (lv' := [(2, vI x11), (1, vI l1), (0, vR E l0)]) hc 1 dX1_here_28 rfl (by decide) ex11 rfl ?_
  refine j_goto (tgt := 4) hc dX1_here_31 (by decide) ?_
  refine j_sub (lv' := [(2, vI x11), (1, vI l1), (0, vR E l0)]) [0, 1, 2] rfl ?_
  exact hk4 cx11 cl1 h
set_option maxRecDepth 20000 in
theorem jl_X1_here_4 {X : jj_X} {E : ev_E} {n0 hN : Nat} (hc : Cx X E cX1_here 3 n0 hN RX1) (hm : eM E = 1) (hr : (xT X).sig.returnType = (some .int)) (hh : 1 ≤ hN) {Q : Int → st_S → Prop} : ∀ (n : Nat) {l2 : Int} {l1 : Int} {l0 : Nat} (cl2 : wr l2 = l2) (cl1 : wr l1 = l1) {σ : st_S}, L_X1_here_4 Q n l2 l1 l0 σ → J X E 3 n0 0 0 (MQ (xB X) (qI E (n0 + 0) Q) (xA X) (xS X) 0 0 (eF E)) σ 4 [(2, vI l2), (1, vI l1), (0, vR E l0)] [] := by
  have hh1 : 1 ≤ hN := by omega
  intro n
  induction n with
  | zero => intro l2 l1 l0 cl2 cl1 σ h; exact h.elim
  | succ n ih =>
    intro l2 l1 l0 cl2 cl1 σ h
    have hk4 : ∀ {l2 : Int} {l1 : Int} {l0 : Nat} (cl2 : wr l2 = l2) (cl1 : wr l1 = l1) {σ : st_S}, L_X1_here_4 Q n l2 l1 l0 σ → J X E 3 n0 0 0 (MQ (xB X) (qI E (n0 + 0) Q) (xA X) (xS X) 0 0 (eF E)) σ 4 [(2, vI l2), (1, vI l1), (0, vR E l0)] [] := ih
    replace h : gK σ l0 = 16 + 1 ∧ (gI σ l0 0 ≤ l2 → Q l1 σ) ∧ (¬ gI σ l0 0 ≤ l2 → ix l2 10 ∧ (¬ gI σ (l0 + 4) (Int.toNat l2) = 2 → B_X1_here_28 Q (L_X1_here_4 Q n) l1 l2 l0 σ) ∧ (gI σ (l0 + 4) (Int.toNat l2) = 2 → ∀ x16 : Int, x16 = o_or l1 (o_shl 1 l2) → B_X1_here_28 Q (L_X1_here_4 Q n) x16 l2 l0 σ)) := h
    refine j_iload_n hc 0 dX1_here_4 rfl rfl ?_
    refine j_aload_nR hc 2 dX1_here_5 rfl rfl ?_
    obtain ⟨f12, h⟩ := h
    refine j_getI hc fl_RX1_46 (Or.inl rfl) (fun _ => Or.inl f12) dX1_here_6 (fun cn13 => ?_)
    refine j_ic_ge hc cl2 cn13 (tgt := 34) dX1_here_9 (by decide) (fun q18 => ?_) (fun q18 => ?_)
    · replace h := h.1 q18
      refine j_iload_n hc 1 dX1_here_34 rfl rfl ?_
      exact j_iret hc hr cl1 h dX1_here_35
    · replace h := h.2 q18
      refine j_aload_nR hc 2 dX1_here_12 rfl rfl ?_
      refine j_getR (c' := (l0 + 4)) hc fl_RX1_21 rfl rfl (fun _ => f12) dX1_here_13 ?_
      refine j_iload_n hc 0 dX1_here_16 rfl rfl ?_
      obtain ⟨b14, h⟩ := h
      refine j_iald (jn := (Int.toNat l2)) hc (fun hv => sv_b hv f12 (by decide) rfl) cl2 b14 rfl dX1_here_17 (fun cn15 => ?_)
      refine j_iconst hc dX1_here_18 ?_
      refine j_ic_ne hc cn15 (wlit 2 (by decide)) (tgt := 28) dX1_here_19 (by decide) (fun q17 => ?_) (fun q17 => ?_)
      · replace h := h.1 q17
        refine j_sub (lv' := [(1, vI l1), (2, vI l2), (0, vR E l0)]) [1, 0, 2] rfl ?_
        exact jb_X1_here_28 hc hm hr hh hk4 cl1 cl2 h
      · replace h := h.2 q17
        refine j_iload_n hc 1 dX1_here_22 rfl rfl ?_
        refine j_iconst hc dX1_here_23 ?_
        refine j_iload_n hc 0 dX1_here_24 rfl rfl ?_
        refine j_ishl hc dX1_here_25 ?_
        refine j_ior hc dX1_here_26 ?_
        refine j_c (cn_or _ _) (fun x16 ex16 cx16 => ?_)
        replace h := h x16 ex16
        refine j_istore_n (lv' := [(1, vI x16), (2, vI l2), (0, vR E l0)]) hc dX1_here_27 rfl (by decide) rfl ?_
        refine j_sub (lv' := [(1, vI x16), (2, vI l2), (0, vR E l0)]) [0, 1, 2] rfl ?_
        exact jb_X1_here_28 hc hm hr hh hk4 cx16 cl2 h
set_option maxRecDepth 20000 in
theorem c_X1_here {l : Launch} {E : ev_E} (hE : Eok E) (hm : eM E = 1) {t : Nat} {σ : st_S} {Q : Int → st_S → Prop} (h : wp_X1_here t σ Q) : cM l yX1_here cX1_here 3 (some .int) E 1 0 0 [vR E t] σ (qI E (gN σ + 0) Q) := by
  refine cM_of (lv := [(0, vR E t)]) (by decide) hE (Nat.le_of_ble_eq_true rfl) rfl ?_
  intro X hX hc _ _ hr _ _
  subst hX
  have hh : 1 ≤ 1 := Nat.le_refl _
  have hh1 : 1 ≤ 1 := by omega
  replace h : ∃ n : Nat, L_X1_here_4 Q n 0 0 t σ := h
  refine j_iconst hc dX1_here_0 ?_
  refine j_istore_n (lv' := [(1, vI 0), (0, vR E t)]) hc dX1_here_1 rfl (by decide) rfl ?_
  refine j_iconst hc dX1_here_2 ?_
  refine j_istore_n (lv' := [(2, vI 0), (1, vI 0), (0, vR E t)]) hc dX1_here_3 rfl (by decide) rfl ?_
  obtain ⟨n4, h⟩ := h
  refine j_sub (lv' := [(2, vI 0), (1, vI 0), (0, vR E t)]) [0, 1, 2] rfl ?_
  exact jl_X1_here_4 hc hm hr hh n4 (wlit 0 (by decide)) (wlit 0 (by decide)) h
theorem dX1_peopleOf_0 : decode cX1_peopleOf 0 = .ok (.iconst 0, 1) := by decide +kernel
theorem dX1_peopleOf_1 : decode cX1_peopleOf 1 = .ok (.istore_n 2, 1) := by decide +kernel
theorem dX1_peopleOf_2 : decode cX1_peopleOf 2 = .ok (.iconst 0, 1) := by decide +kernel
theorem dX1_peopleOf_3 : decode cX1_peopleOf 3 = .ok (.istore_n 3, 1) := by decide +kernel
theorem dX1_peopleOf_4 : decode cX1_peopleOf 4 = .ok (.iload_n 3, 1) := by decide +kernel
theorem dX1_peopleOf_5 : decode cX1_peopleOf 5 = .ok (.aload_n 0, 1) := by decide +kernel
theorem dX1_peopleOf_6 : decode cX1_peopleOf 6 = .ok (.getfield 46, 3) := by decide +kernel
theorem dX1_peopleOf_9 : decode cX1_peopleOf 9 = .ok (.if_icmp .ge 25, 3) := by decide +kernel
theorem dX1_peopleOf_12 : decode cX1_peopleOf 12 = .ok (.aload_n 0, 1) := by decide +kernel
theorem dX1_peopleOf_13 : decode cX1_peopleOf 13 = .ok (.getfield 15, 3) := by decide +kernel
theorem dX1_peopleOf_16 : decode cX1_peopleOf 16 = .ok (.iload_n 3, 1) := by decide +kernel
theorem dX1_peopleOf_17 : decode cX1_peopleOf 17 = .ok (.iaload, 1) := by decide +kernel
theorem dX1_peopleOf_18 : decode cX1_peopleOf 18 = .ok (.iload_n 1, 1) := by decide +kernel
theorem dX1_peopleOf_19 : decode cX1_peopleOf 19 = .ok (.if_icmp .ne 9, 3) := by decide +kernel
theorem dX1_peopleOf_22 : decode cX1_peopleOf 22 = .ok (.iload_n 2, 1) := by decide +kernel
theorem dX1_peopleOf_23 : decode cX1_peopleOf 23 = .ok (.iconst 1, 1) := by decide +kernel
theorem dX1_peopleOf_24 : decode cX1_peopleOf 24 = .ok (.iload_n 3, 1) := by decide +kernel
theorem dX1_peopleOf_25 : decode cX1_peopleOf 25 = .ok (.ishl, 1) := by decide +kernel
theorem dX1_peopleOf_26 : decode cX1_peopleOf 26 = .ok (.ior, 1) := by decide +kernel
theorem dX1_peopleOf_27 : decode cX1_peopleOf 27 = .ok (.istore_n 2, 1) := by decide +kernel
theorem dX1_peopleOf_28 : decode cX1_peopleOf 28 = .ok (.iinc 3 1, 3) := by decide +kernel
theorem dX1_peopleOf_31 : decode cX1_peopleOf 31 = .ok (.goto (-27), 3) := by decide +kernel
theorem dX1_peopleOf_34 : decode cX1_peopleOf 34 = .ok (.iload_n 2, 1) := by decide +kernel
theorem dX1_peopleOf_35 : decode cX1_peopleOf 35 = .ok (.ireturn, 1) := by decide +kernel
def B_X1_peopleOf_28 (Q : Int → st_S → Prop)  (k4 : Int → Int → Nat → Int → st_S → Prop) (l2 : Int) (l3 : Int) (l0 : Nat) (l1 : Int) (σ : st_S) : Prop := ∀ x11 : Int, x11 = wr (l3 + 1) → k4 x11 l2 l0 l1 σ
def L_X1_peopleOf_4 (Q : Int → st_S → Prop)   : Nat → Int → Int → Nat → Int → st_S → Prop
  | 0 => fun _ _ _ _ _ => False
  | n + 1 => fun l3 l2 l0 l1 σ => gK σ l0 = 16 + 1 ∧ (gI σ l0 0 ≤ l3 → Q l2 σ) ∧ (¬ gI σ l0 0 ≤ l3 → ix l3 10 ∧ (¬ gI σ (l0 + 2) (Int.toNat l3) = l1 → B_X1_peopleOf_28 Q (L_X1_peopleOf_4 Q n) l2 l3 l0 l1 σ) ∧ (gI σ (l0 + 2) (Int.toNat l3) = l1 → ∀ x16 : Int, x16 = o_or l2 (o_shl 1 l3) → B_X1_peopleOf_28 Q (L_X1_peopleOf_4 Q n) x16 l3 l0 l1 σ))
def wp_X1_peopleOf (t : Nat) (a1 : Int) (σ : st_S) (Q : Int → st_S → Prop) : Prop := ∃ n : Nat, L_X1_peopleOf_4 Q n 0 0 t a1 σ
set_option maxRecDepth 20000 in
theorem jb_X1_peopleOf_28 {X : jj_X} {E : ev_E} {n0 hN : Nat} (hc : Cx X E cX1_peopleOf 4 n0 hN RX1) (hm : eM E = 1) (hr : (xT X).sig.returnType = (some .int)) (hh : 1 ≤ hN) {Q : Int → st_S → Prop} {k4 : Int → Int → Nat → Int → st_S → Prop} (hk4 : ∀ {l3 : Int} {l2 : Int} {l0 : Nat} {l1 : Int} (cl3 : wr l3 = l3) (cl2 : wr l2 = l2) (cl1 : wr l1 = l1) {σ : st_S}, k4 l3 l2 l0 l1 σ → J X E 4 n0 0 0 (MQ (xB X) (qI E (n0 + 0) Q) (xA X) (xS X) 0 0 (eF E)) σ 4 [(3, vI l3), (2, vI l2), (0, vR E l0), (1, vI l1)] []) {l2 : Int} {l3 : Int} {l0 : Nat} {l1 : Int} (cl2 : wr l2 = l2) (cl3 : wr l3 = l3) (cl1 : wr l1 = l1) {σ : st_S} (h : B_X1_peopleOf_28 Q k4 l2 l3 l0 l1 σ) : J X E 4 n0 0 0 (MQ (xB X) (qI E (n0 + 0) Q) (xA X) (xS X) 0 0 (eF E)) σ 28 [(2, vI l2), (3, vI l3), (0, vR E l0), (1, vI l1)] [] := by
  have hh1 : 1 ≤ hN := by omega
  replace h : ∀ x11 : Int, x11 = wr (l3 + 1) → k4 x11 l2 l0 l1 σ := h
  obtain ⟨x11, ex11⟩ : ∃ y : Int, y = wr (l3 + 1) := ⟨_, rfl⟩
  have cx11 : wr x11 = x11 := by rw [ex11]; exact wr_wr _
  replace h := h x11 ex11
  refine j_iinc (lv' := [(3, vI x11), (2, vI l2), (0, vR E l0), (1, vI l1)]) hc 1 dX1_peopleOf_28 rfl (by decide) ex11 rfl ?_
  refine j_goto (tgt := 4) hc dX1_peopleOf_31 (by decide) ?_
  refine j_sub (lv' := [(3, vI x11), (2, vI l2), (0, vR E l0), (1, vI l1)]) [0, 1, 2, 3] rfl ?_
  exact hk4 cx11 cl2 cl1 h
set_option maxRecDepth 20000 in
theorem jl_X1_peopleOf_4 {X : jj_X} {E : ev_E} {n0 hN : Nat} (hc : Cx X E cX1_peopleOf 4 n0 hN RX1) (hm : eM E = 1) (hr : (xT X).sig.returnType = (some .int)) (hh : 1 ≤ hN) {Q : Int → st_S → Prop} : ∀ (n : Nat) {l3 : Int} {l2 : Int} {l0 : Nat} {l1 : Int} (cl3 : wr l3 = l3) (cl2 : wr l2 = l2) (cl1 : wr l1 = l1) {σ : st_S}, L_X1_peopleOf_4 Q n l3 l2 l0 l1 σ → J X E 4 n0 0 0 (MQ (xB X) (qI E (n0 + 0) Q) (xA X) (xS X) 0 0 (eF E)) σ 4 [(3, vI l3), (2, vI l2), (0, vR E l0), (1, vI l1)] [] := by
  have hh1 : 1 ≤ hN := by omega
  intro n
  induction n with
  | zero => intro l3 l2 l0 l1 cl3 cl2 cl1 σ h; exact h.elim
  | succ n ih =>
    intro l3 l2 l0 l1 cl3 cl2 cl1 σ h
    have hk4 : ∀ {l3 : Int} {l2 : Int} {l0 : Nat} {l1 : Int} (cl3 : wr l3 = l3) (cl2 : wr l2 = l2) (cl1 : wr l1 = l1) {σ : st_S}, L_X1_peopleOf_4 Q n l3 l2 l0 l1 σ → J X E 4 n0 0 0 (MQ (xB X) (qI E (n0 + 0) Q) (xA X) (xS X) 0 0 (eF E)) σ 4 [(3, vI l3), (2, vI l2), (0, vR E l0), (1, vI l1)] [] := ih
    replace h : gK σ l0 = 16 + 1 ∧ (gI σ l0 0 ≤ l3 → Q l2 σ) ∧ (¬ gI σ l0 0 ≤ l3 → ix l3 10 ∧ (¬ gI σ (l0 + 2) (Int.toNat l3) = l1 → B_X1_peopleOf_28 Q (L_X1_peopleOf_4 Q n) l2 l3 l0 l1 σ) ∧ (gI σ (l0 + 2) (Int.toNat l3) = l1 → ∀ x16 : Int, x16 = o_or l2 (o_shl 1 l3) → B_X1_peopleOf_28 Q (L_X1_peopleOf_4 Q n) x16 l3 l0 l1 σ)) := h
    refine j_iload_n hc 0 dX1_peopleOf_4 rfl rfl ?_
    refine j_aload_nR hc 2 dX1_peopleOf_5 rfl rfl ?_
    obtain ⟨f12, h⟩ := h
    refine j_getI hc fl_RX1_46 (Or.inl rfl) (fun _ => Or.inl f12) dX1_peopleOf_6 (fun cn13 => ?_)
    refine j_ic_ge hc cl3 cn13 (tgt := 34) dX1_peopleOf_9 (by decide) (fun q18 => ?_) (fun q18 => ?_)
    · replace h := h.1 q18
      refine j_iload_n hc 1 dX1_peopleOf_34 rfl rfl ?_
      exact j_iret hc hr cl2 h dX1_peopleOf_35
    · replace h := h.2 q18
      refine j_aload_nR hc 2 dX1_peopleOf_12 rfl rfl ?_
      refine j_getR (c' := (l0 + 2)) hc fl_RX1_15 rfl rfl (fun _ => f12) dX1_peopleOf_13 ?_
      refine j_iload_n hc 0 dX1_peopleOf_16 rfl rfl ?_
      obtain ⟨b14, h⟩ := h
      refine j_iald (jn := (Int.toNat l3)) hc (fun hv => sv_b hv f12 (by decide) rfl) cl3 b14 rfl dX1_peopleOf_17 (fun cn15 => ?_)
      refine j_iload_n hc 3 dX1_peopleOf_18 rfl rfl ?_
      refine j_ic_ne hc cn15 cl1 (tgt := 28) dX1_peopleOf_19 (by decide) (fun q17 => ?_) (fun q17 => ?_)
      · replace h := h.1 q17
        refine j_sub (lv' := [(2, vI l2), (3, vI l3), (0, vR E l0), (1, vI l1)]) [1, 0, 2, 3] rfl ?_
        exact jb_X1_peopleOf_28 hc hm hr hh hk4 cl2 cl3 cl1 h
      · replace h := h.2 q17
        refine j_iload_n hc 1 dX1_peopleOf_22 rfl rfl ?_
        refine j_iconst hc dX1_peopleOf_23 ?_
        refine j_iload_n hc 0 dX1_peopleOf_24 rfl rfl ?_
        refine j_ishl hc dX1_peopleOf_25 ?_
        refine j_ior hc dX1_peopleOf_26 ?_
        refine j_c (cn_or _ _) (fun x16 ex16 cx16 => ?_)
        replace h := h x16 ex16
        refine j_istore_n (lv' := [(2, vI x16), (3, vI l3), (0, vR E l0), (1, vI l1)]) hc dX1_peopleOf_27 rfl (by decide) rfl ?_
        refine j_sub (lv' := [(2, vI x16), (3, vI l3), (0, vR E l0), (1, vI l1)]) [0, 1, 2, 3] rfl ?_
        exact jb_X1_peopleOf_28 hc hm hr hh hk4 cx16 cl3 cl1 h
set_option maxRecDepth 20000 in
theorem c_X1_peopleOf {l : Launch} {E : ev_E} (hE : Eok E) (hm : eM E = 1) {t : Nat} {a1 : Int} (ca1 : wr a1 = a1) {σ : st_S} {Q : Int → st_S → Prop} (h : wp_X1_peopleOf t a1 σ Q) : cM l yX1_peopleOf cX1_peopleOf 4 (some .int) E 1 0 0 [vR E t, vI a1] σ (qI E (gN σ + 0) Q) := by
  refine cM_of (lv := [(0, vR E t), (1, vI a1)]) (by decide) hE (Nat.le_of_ble_eq_true rfl) rfl ?_
  intro X hX hc _ _ hr _ _
  subst hX
  have hh : 1 ≤ 1 := Nat.le_refl _
  have hh1 : 1 ≤ 1 := by omega
  replace h : ∃ n : Nat, L_X1_peopleOf_4 Q n 0 0 t a1 σ := h
  refine j_iconst hc dX1_peopleOf_0 ?_
  refine j_istore_n (lv' := [(2, vI 0), (0, vR E t), (1, vI a1)]) hc dX1_peopleOf_1 rfl (by decide) rfl ?_
  refine j_iconst hc dX1_peopleOf_2 ?_
  refine j_istore_n (lv' := [(3, vI 0), (2, vI 0), (0, vR E t), (1, vI a1)]) hc dX1_peopleOf_3 rfl (by decide) rfl ?_
  obtain ⟨n4, h⟩ := h
  refine j_sub (lv' := [(3, vI 0), (2, vI 0), (0, vR E t), (1, vI a1)]) [0, 1, 2, 3] rfl ?_
  exact jl_X1_peopleOf_4 hc hm hr hh n4 (wlit 0 (by decide)) (wlit 0 (by decide)) ca1 h
