/-! winter: both -/
theorem ppC_gen {σ τ : st_S} {K : Nat → Int} {n : Nat} {M : zM} (h : ppC σ K n M) (hg : τ.2 = σ.2) (hI : ∀ c j, (25 ≤ c ∧ c ≤ 34) ∨ 65 ≤ c ∨ (c = 42 ∧ j ≤ 1) ∨ (43 ≤ c ∧ c ≤ 50 ∧ c ≠ 44) → gI τ c j = gI σ c j) : ppC τ K n M := by
  refine ⟨?_, ppA_of h.2.1 (fun c j q => hI _ _ (by omega)), ppN_of h.2.2 (fun c j q => hI _ _ (by omega))⟩
  obtain ⟨h1, h2, h3, h4, h5, h6, h7, h8, h9, hf, hj⟩ := h.1
  refine ⟨zC1_of h1 (hI _ _ (by omega)) rfl, zC2_of h2 (fun p _ => hI _ _ (by omega)) (fun _ _ _ => rfl), zC3_of h3 (fun p _ => hI _ _ (by omega)) (fun _ _ _ => rfl), zC4_of h4 (fun p _ => hI _ _ (by omega)) (fun _ _ _ => rfl), zC5_of h5 (fun p _ => hI _ _ (by omega)) (fun _ _ => rfl), zC6_of h6 (fun p _ => hI _ _ (by omega)) (fun _ _ => rfl) (fun _ _ _ => rfl), zC7_of h7 (fun p _ => hI _ _ (by omega)) (fun _ _ _ => rfl), zC8_of h8 (fun p => hI _ _ (by omega)) (fun _ _ _ => rfl), zC9_of h9 (fun p => hI _ _ (by omega)) (fun _ _ => rfl), fMc_ab hf hg (fun c j hc => hI _ _ (by omega)), zJk_of hj hg⟩
def fgF (K : Nat → Int) (s : Nat) : Int := if K 254 ≤ ((s % 10 : Nat) : Int) then 0 else 1
theorem fgF_v (K : Nat → Int) (s : Nat) : fgF K s = 0 ∨ fgF K s = 1 := by unfold fgF; split <;> omega
/-- the draw, those who have lit it, how many nights were lit, behind k nights -/
noncomputable def wst (M : zM) (K : Nat → Int) (n seed : Nat) : Nat → Nat × Nat × Nat
  | 0 => (seed, 0, 0)
  | k + 1 => (drw (wst M K n seed k).1, (wst M K n seed k).2.1 ||| (crW M K n k (wst M K n seed k).2.1 (fgF K (drw (wst M K n seed k).1))).headD 0, (wst M K n seed k).2.2 + (if (crW M K n k (wst M K n seed k).2.1 (fgF K (drw (wst M K n seed k).1))).headD 0 = 0 then 0 else 1))
noncomputable def wcw (M : zM) (K : Nat → Int) (n seed k : Nat) : Nat := (crW M K n k (wst M K n seed k).2.1 (fgF K (drw (wst M K n seed k).1))).headD 0
theorem wst_s {M : zM} {K : Nat → Int} {n seed k : Nat} : wst M K n seed (k + 1) = (drw (wst M K n seed k).1, (wst M K n seed k).2.1 ||| wcw M K n seed k, (wst M K n seed k).2.2 + (if wcw M K n seed k = 0 then 0 else 1)) := rfl
theorem cw_m {M : zM} {K : Nat → Int} {n night used : Nat} {fog : Int} : (crW M K n night used fog).headD 0 < 1024 ∧ ∀ p, used.testBit p = true → ((crW M K n night used fog).headD 0).testBit p = false := by
  have nd := ndF_v fog
  cases hl : crW M K n night used fog with
  | nil => exact ⟨by decide, fun p _ => Nat.zero_testBit p⟩
  | cons X l =>
    have hX : X ∈ pkL (wWV M K n night used fog) 10 (ndF fog) := by
      have : X ∈ crW M K n night used fog := by rw [hl]; exact List.mem_cons_self
      exact this
    have m := (pk_mem (by omega)).mp hX
    refine ⟨m.1, fun p hp => ?_⟩
    show X.testBit p = false
    cases hb : X.testBit p with
    | false => rfl
    | true =>
      have p10 : p < 10 := by
        refine Classical.byContradiction (fun z => ?_)
        rw [tb_big m.1 (by omega)] at hb
        exact absurd hb (by decide)
      have := (wWV_p (m.2.1 p p10 hb)).2
      rw [hp] at this
      exact absurd this (by decide)
theorem wst_r {M : zM} {K : Nat → Int} {n seed : Nat} (hs : seed < 1000003) (k : Nat) : (wst M K n seed k).1 < 1000003 ∧ (wst M K n seed k).2.1 < 1024 ∧ (wst M K n seed k).2.2 ≤ k := by
  induction k with
  | zero => exact ⟨hs, show 0 < 1024 by decide, Nat.le_refl 0⟩
  | succ k ih =>
    rw [wst_s]
    refine ⟨drw_lt _, Nat.or_lt_two_pow (n := 10) ih.2.1 cw_m.1, ?_⟩
    show (wst M K n seed k).2.2 + _ ≤ k + 1
    split <;> omega
def zV (σ τ : st_S) : Prop := τ.2 = σ.2 ∧ ∀ c j, ¬ (36 ≤ c ∧ c ≤ 38) → ¬ (42 ≤ c ∧ c ≤ 51) → c ≠ 23 → gI τ c j = gI σ c j
theorem zV_tr {σ τ υ : st_S} (h : zV σ τ) (g : zV τ υ) : zV σ υ := ⟨g.1.trans h.1, fun c j a b d => (g.2 c j a b d).trans (h.2 c j a b d)⟩
set_option maxHeartbeats 1000000 in
theorem w_winterBy {σ : st_S} {K : Nat → Int} {n seed N : Nat} {M : zM} {Q : Int → st_S → Prop} (h : ppC σ K n M) (hs : seed < 1000003) (hN : N ≤ 60) (hQ : ∀ τ, zV σ τ → (∀ j, j < N → gI τ 23 j = (wcw M K n seed j : Int)) → Q ((wst M K n seed N).2.2 : Int) τ) : wp_X5_winterBy (seed : Int) (N : Int) σ Q := by
  have hn := h.1.1.2.2
  obtain ⟨H0, eH, hH0⟩ := h.2.1.2.1
  intro x ex y ey
  rw [show gI σ 42 0 = (ppl K n : Int) from h.2.1.1] at ex
  rw [eH] at ey
  subst ex
  subst ey
  have key : ∀ m k : Nat, k + m = N → ∀ τ R H, zV σ τ → ppC τ K n M → rsOk R K n 0 (wst M K n seed k).2.1 → hOk H (hdV M K n 0 (wst M K n seed k).2.1) n → (∀ j, j < k → gI τ 23 j = (wcw M K n seed j : Int)) → L_X5_winterBy_21 Q (m + 1) (N : Int) ((wst M K n seed k).1 : Int) (R : Int) (H : Int) ((wst M K n seed k).2.2 : Int) (k : Int) τ := by
    intro m
    induction m with
    | zero =>
      intro k hk τ R H a1 a2 a3 a4 a5
      have ek : k = N := by omega
      subst ek
      exact ⟨fun _ => hQ τ a1 a5, fun z => absurd (Int.le_refl _) z⟩
    | succ m ih =>
      intro k hk τ R H a1 a2 a3 a4 a5
      have wr0 := wst_r (M := M) (K := K) (n := n) hs k
      have e254 : gI τ 33 1 = K 254 := by
        have := a2.1.2.2.2.2.2.2.2.2.1
        unfold zC9 at this
        exact this.2.1.1
      refine ⟨fun z => absurd z (by omega), fun _ => ⟨fun z => absurd z (by omega), fun _ => ?_⟩⟩
      intro x ex
      rw [drw_c wr0.1] at ex
      subst ex
      rw [e254, drw_10]
      have hR1 := a3.1
      have hH1 := a4.1
      have es : o_shr (H : Int) 10 = ((H >>> 10 : Nat) : Int) := n_shr (a := H) (k := 10) (by omega) (by decide)
      have s10 : H >>> 10 ≤ H := by rw [Nat.shiftRight_eq_div_pow]; exact Nat.div_le_self _ _
      have b2 : R &&& H < 2 ^ 31 := and_lt (by omega)
      have body : ∀ fog : Int, fog = fgF K (drw (wst M K n seed k).1) → B_X5_winterBy_71 Q (L_X5_winterBy_21 Q (m + 1)) (N : Int) (drw (wst M K n seed k).1 : Int) (R : Int) (H : Int) ((wst M K n seed k).2.2 : Int) (k : Int) fog τ := by
        intro fog ef
        have hf : fog = 0 ∨ fog = 1 := by rw [ef]; exact fgF_v _ _
        unfold B_X5_winterBy_71
        rw [n_andn (by omega) (by omega), n_and (by omega) (by omega), es, n_andn b2 (by omega)]
        have l1 : ndn R H < 1024 := Nat.lt_of_le_of_lt (ndn_le _ _) hR1
        have l2 : ndn (R &&& H) (H >>> 10) < 1024 := Nat.lt_of_le_of_lt (ndn_le _ _) (Nat.lt_of_le_of_lt Nat.and_le_left hR1)
        refine w_freeOn (h := 0) a2.1 (by omega) (by decide) hf l1 (fun p hp => (a2.2.1.2.2 p hp).1) (fun τ1 j1 => ?_)
        intro s2 e2
        have z2 : zV τ s2 := ⟨by rw [e2]; exact j1.1, fun c j q1 q2 _ => by rw [e2, gI_sI, if_neg (by omega), j1.2 _ _ (by omega) (by omega) (by omega)]⟩
        have o2 : ∀ c j, 42 ≤ c → c ≤ 51 → ¬ (c = 42 ∧ j = 15) → gI s2 c j = gI τ c j := fun c j q1 q2 q3 => by rw [e2, gI_sI, if_neg q3, j1.2 _ _ (by omega) (by omega) (by omega)]
        have d2 : ∀ j, gI s2 23 j = gI τ 23 j := fun j => by rw [e2, gI_sI, if_neg (by omega), j1.2 _ _ (by omega) (by omega) (by omega)]
        have v2 : gI s2 42 15 = (bsN (frB M K k 0 fog (ndn R H)) n : Int) := by rw [e2, gI_sI, if_pos ⟨rfl, rfl⟩]
        clear e2
        have p2 : ppC s2 K n M := ppC_gen a2 z2.1 (fun c j q => by
          by_cases w : 42 ≤ c ∧ c ≤ 51
          · exact o2 c j w.1 w.2 (by omega)
          · exact z2.2 c j (by omega) w (by omega))
        refine w_freeOn (h := 1) p2.1 (by omega) (by decide) hf l2 (fun p hp => (p2.2.1.2.2 p hp).1) (fun τ3 j3 => ?_)
        intro s4 e4
        have z4 : zV s2 s4 := ⟨by rw [e4]; exact j3.1, fun c j q1 q2 _ => by rw [e4, gI_sI, if_neg (by omega), j3.2 _ _ (by omega) (by omega) (by omega)]⟩
        have o4 : ∀ c j, 42 ≤ c → c ≤ 51 → ¬ (c = 42 ∧ j = 16) → gI s4 c j = gI s2 c j := fun c j q1 q2 q3 => by rw [e4, gI_sI, if_neg q3, j3.2 _ _ (by omega) (by omega) (by omega)]
        have d4 : ∀ j, gI s4 23 j = gI s2 23 j := fun j => by rw [e4, gI_sI, if_neg (by omega), j3.2 _ _ (by omega) (by omega) (by omega)]
        have v4 : gI s4 42 16 = (bsN (frB M K k 1 fog (ndn (R &&& H) (H >>> 10))) n : Int) := by rw [e4, gI_sI, if_pos ⟨rfl, rfl⟩]
        clear e4
        have p4 : ppC s4 K n M := ppC_gen p2 z4.1 (fun c j q => by
          by_cases w : 42 ≤ c ∧ c ≤ 51
          · exact o4 c j w.1 w.2 (by omega)
          · exact z4.2 c j (by omega) w (by omega))
        have wn : wp_X5_fill 0 ((ndF fog : Nat) : Int) s4 (fun r54 s55 => (r54 ≤ 0 → B_X5_winterBy_142 Q (L_X5_winterBy_21 Q (m + 1)) (N : Int) (drw (wst M K n seed k).1 : Int) (R : Int) (H : Int) ((wst M K n seed k).2.2 : Int) (k : Int) 0 s55) ∧ (¬ r54 ≤ 0 → B_X5_winterBy_142 Q (L_X5_winterBy_21 Q (m + 1)) (N : Int) (drw (wst M K n seed k).1 : Int) (R : Int) (H : Int) ((wst M K n seed k).2.2 : Int) (k : Int) (gI s55 51 0) s55)) := by
          have ew : wTO (bsN (frB M K k 0 fog (ndn R H)) n) (bsN (frB M K k 1 fog (ndn (R &&& H) (H >>> 10))) n) = wWV M K n k (wst M K n seed k).2.1 fog := funext fun p => wW_eq a2.1 a4 a3 p
          have el : pkL (wTO (bsN (frB M K k 0 fog (ndn R H)) n) (bsN (frB M K k 1 fog (ndn (R &&& H) (H >>> 10))) n)) n (ndF fog) = crW M K n k (wst M K n seed k).2.1 fog := by
            rw [ew]
            unfold crW
            exact (pk_top hn (fun p hp => by unfold wWV; rw [if_neg (fun w => by have := w.1; omega)])).symm
          refine w_fillP (night := 0) (bsN_lt _ _ hn) (bsN_lt _ _ hn) hn p4.1.1.1 (by rw [o4 _ _ (by omega) (by omega) (by omega)]; exact v2) v4 (by decide) (ndF_v fog) (fun τ5 t1 t2 t3 => ?_)
          rw [el] at t3 ⊢
          have z5 : zV s4 τ5 := ⟨t1, fun c j q1 q2 _ => t2 c j (by omega) (by omega)⟩
          have p5 : ppC τ5 K n M := ppC_gen p4 t1 (fun c j q => t2 c j (by omega) (by omega))
          have put : ∀ v : Int, v = (wcw M K n seed k : Int) → B_X5_winterBy_142 Q (L_X5_winterBy_21 Q (m + 1)) (N : Int) (drw (wst M K n seed k).1 : Int) (R : Int) (H : Int) ((wst M K n seed k).2.2 : Int) (k : Int) v τ5 := by
            intro v hv
            subst hv
            have cwm := cw_m (M := M) (K := K) (n := n) (night := k) (used := (wst M K n seed k).2.1) (fog := fgF K (drw (wst M K n seed k).1))
            have c10 : wcw M K n seed k < 1024 := cwm.1
            have cdj : ∀ p, (wst M K n seed k).2.1.testBit p = true → (wcw M K n seed k).testBit p = false := cwm.2
            refine ⟨ixn (by omega), ?_⟩
            intro s6 e6
            rw [Int.toNat_natCast] at e6
            have z6 : zV τ5 s6 := ⟨by rw [e6]; rfl, fun c j q1 q2 q3 => by rw [e6, gI_sI, if_neg (by omega)]⟩
            have p6 : ppC s6 K n M := ppC_gen p5 z6.1 (fun c j q => by rw [e6, gI_sI, if_neg (by omega)])
            have d6 : ∀ j, j < k + 1 → gI s6 23 j = (wcw M K n seed j : Int) := fun j hj => by
              by_cases e : j = k
              · subst e; rw [e6, gI_sI, if_pos ⟨rfl, rfl⟩]
              · rw [e6, gI_sI, if_neg (by omega), t2 _ _ (by omega) (by omega), d4, d2]; exact a5 j (by omega)
            have z06 : zV σ s6 := zV_tr a1 (zV_tr z2 (zV_tr z4 (zV_tr z5 z6)))
            clear e6
            have step : ∀ v1 : Int, wr (((wst M K n seed k).2.2 : Int) + v1) = ((wst M K n seed (k + 1)).2.2 : Int) → B_X5_winterBy_162 Q (L_X5_winterBy_21 Q (m + 1)) (N : Int) (drw (wst M K n seed k).1 : Int) (R : Int) (H : Int) (k : Int) (wcw M K n seed k : Int) v1 ((wst M K n seed k).2.2 : Int) s6 := by
              intro v1 hv1 x ex y ey
              rw [hv1] at ex
              rw [n_andn (by omega) (by omega)] at ey
              subst ex
              subst ey
              refine w_spoiled (hsh := 0) p6 a4 c10 (by decide) (fun p _ hp => cdj p hp) (fun H' hH' => ?_)
              intro x ex
              rw [wks (by omega)] at ex
              subst ex
              refine ih (k + 1) (by omega) s6 _ _ z06 p6 ⟨Nat.lt_of_le_of_lt (ndn_le _ _) hR1, fun p hp => ?_⟩ hH' d6
              have e := a3.2 p hp
              rw [Nat.or_zero] at e
              show _ = (decide (¬ K p = 3) && !((wst M K n seed k).2.1 ||| wcw M K n seed k ||| 0).testBit p)
              rw [ndn_bit (by omega), e, Nat.or_zero, Nat.testBit_or]
              cases decide (¬ K p = 3) <;> cases (wst M K n seed k).2.1.testBit p <;> cases (wcw M K n seed k).testBit p <;> rfl
            have ws : (wst M K n seed (k + 1)).2.2 = (wst M K n seed k).2.2 + (if wcw M K n seed k = 0 then 0 else 1) := rfl
            refine ⟨fun q => step 1 ?_, fun q => step 0 ?_⟩
            · rw [ws, if_neg (by omega), show ((wst M K n seed k).2.2 : Int) + 1 = (((wst M K n seed k).2.2 + 1 : Nat) : Int) by omega]
              exact wr_n (by omega)
            · rw [ws, if_pos (by omega), Int.add_zero]
              exact wr_n (by omega)
          have hd : wcw M K n seed k = (crW M K n k (wst M K n seed k).2.1 fog).headD 0 := by unfold wcw; rw [ef]
          cases hl : crW M K n k (wst M K n seed k).2.1 fog with
          | nil =>
            rw [hl] at hd
            exact ⟨fun _ => put 0 (by rw [hd]; rfl), fun q => absurd (by decide) q⟩
          | cons X l =>
            rw [hl] at hd t3
            have t0 := t3 0 (by simp)
            refine ⟨fun q => absurd q (by rw [List.length_cons]; omega), fun _ => put _ ?_⟩
            rw [hd]
            exact t0
        refine ⟨fun q => ?_, fun q => ?_⟩
        · have e : ndF fog = 2 := by unfold ndF; rw [if_neg q]
          rw [e] at wn
          exact wn
        · have e : ndF fog = 4 := by unfold ndF; rw [if_pos q]
          rw [e] at wn
          exact wn
      refine ⟨fun z => body 0 ?_, fun z => body 1 ?_⟩
      · unfold fgF; rw [if_pos z]
      · unfold fgF; rw [if_neg z]
  have pl := ppl_lt (K := K) hn
  exact ⟨N + 1, key N 0 (by omega) σ _ _ ⟨rfl, fun _ _ _ _ _ => rfl⟩ h ⟨pl, fun p hp => by rw [Nat.or_zero]; exact ppl_b p hp⟩ (hOk_root hH0) (fun j hj => absurd hj (by omega))⟩
/-! the reference's winter -/
def zLw (σ τ : st_S) : Prop := τ.2 = σ.2 ∧ ∀ c j, ¬ (c = 0 ∧ (j = 8 ∨ j = 22 ∨ j = 23 ∨ j = 24 ∨ j = 34 ∨ j = 35 ∨ j = 50 ∨ j = 51)) → c ≠ 12 → ¬ (15 ≤ c ∧ c ≤ 25) → gI τ c j = gI σ c j
theorem zLw_tr {σ τ υ : st_S} (h : zLw σ τ) (g : zLw τ υ) : zLw σ υ := ⟨g.1.trans h.1, fun c j a b d => (g.2 c j a b d).trans (h.2 c j a b d)⟩
theorem zLw_L {σ τ : st_S} (h : zL σ τ) : zLw σ τ := ⟨h.1, fun c j a b d => h.2 c j (by omega) b (by omega)⟩
theorem zLw_X {σ τ : st_S} (h : zX σ τ) : zLw σ τ := zLw_L (zL_Y (zY_X h))
theorem zLw_sI {σ : st_S} {c j : Nat} {v : Int} (h : c = 25 ∨ (c = 0 ∧ (j = 50 ∨ j = 51))) : zLw σ (sI σ c j v) := ⟨rfl, fun c' j' a b d => by rw [gI_sI, if_neg (by omega)]⟩
theorem zLw_K {σ τ : st_S} (h : zLw σ τ) : gI τ 2 = gI σ 2 := funext fun j => h.2 2 j (by omega) (by decide) (by omega)
theorem sxM_gen {σ τ : st_S} {n : Nat} {M : zM} (h : sxM σ n M 0 0) (hK : gI τ 2 = gI σ 2) (hI : ∀ c j, c = 15 ∨ c = 16 ∨ c = 17 ∨ (c = 0 ∧ (j = 34 ∨ j = 35)) → gI τ c j = gI σ c j) : sxM τ n M 0 0 := by
  obtain ⟨hx, hl, hb, ga, gh, ha, hh⟩ := h
  exact ⟨cxM_of hx hK, ⟨fun p hp => by rw [hI _ _ (by omega), hK]; exact hl.1 p hp, fun p q hp hq => by rw [hI _ _ (by omega), hK]; exact hl.2 p q hp hq⟩, bcM_of hb (fun j => hI _ _ (by omega)) hK, by rw [hI _ _ (by omega)]; exact ga, by rw [hI _ _ (by omega)]; exact gh, ha, hh⟩
set_option maxHeartbeats 1000000 in
theorem m_winterL {σ : st_S} {K : Nat → Int} {n seed N : Nat} {M : zM} {Q : Int → st_S → Prop} (hK : gI σ 2 = K) (hs : sxM σ n M 0 0) (hsd : seed < 1000003) (hN : N ≤ 60) (h51 : gI σ 0 51 = (seed : Int)) (hQ : ∀ τ, zLw σ τ → gI τ 0 50 = gI σ 0 50 → (∀ j, j < N → gI τ 25 j = (wcw M K n seed j : Int)) → wp_X11_good ((wst M K n seed N).2.2 : Int) τ (fun r s => Q r s)) : ∃ m, L_X11_winter_48 Q m (N : Int) 0 0 0 σ := by
  have hxc := hs.1.1.choose_spec
  have hn := hxc.1.2.2
  have key : ∀ m k : Nat, k + m = N → ∀ τ, zLw σ τ → sxM τ n M 0 0 → gI τ 0 50 = gI σ 0 50 → gI τ 0 51 = ((wst M K n seed k).1 : Int) → (∀ j, j < k → gI τ 25 j = (wcw M K n seed j : Int)) → L_X11_winter_48 Q (m + 1) (N : Int) ((wst M K n seed k).2.1 : Int) ((wst M K n seed k).2.2 : Int) (k : Int) τ := by
    intro m
    induction m with
    | zero =>
      intro k hk τ a1 a2 a3 a4 a5
      have ek : k = N := by omega
      subst ek
      exact ⟨fun _ => hQ τ a1 a3 a5, fun z => absurd (Int.le_refl _) z⟩
    | succ m ih =>
      intro k hk τ a1 a2 a3 a4 a5
      have wr0 := wst_r (M := M) (K := K) (n := n) hsd k
      have Kt : gI τ 2 = K := by rw [zLw_K a1]; exact hK
      refine ⟨fun z => absurd z (by omega), fun _ => ?_⟩
      intro s1 e1
      rw [a4, drw_m wr0.1] at e1
      have v1 : gI s1 0 51 = (drw (wst M K n seed k).1 : Int) := by rw [e1, gI_sI, if_pos ⟨rfl, rfl⟩]
      have o1 : ∀ c j, ¬ (c = 0 ∧ j = 51) → gI s1 c j = gI τ c j := fun c j q => by rw [e1, gI_sI, if_neg q]
      have z1 : zLw σ s1 := zLw_tr a1 (by rw [e1]; exact zLw_sI (by omega))
      clear e1
      have K1 : gI s1 2 = K := by rw [zLw_K z1]; exact hK
      have x1 : sxM s1 n M 0 0 := sxM_gen a2 (by rw [K1, Kt]) (fun c j q => o1 c j (by omega))
      refine ⟨by decide, ?_⟩
      rw [v1, drw_10]
      have body : ∀ fog : Int, fog = fgF K (drw (wst M K n seed k).1) → B_X11_winter_76 Q (L_X11_winter_48 Q (m + 1)) (N : Int) ((wst M K n seed k).2.1 : Int) ((wst M K n seed k).2.2 : Int) (k : Int) fog s1 := by
        intro fog ef
        have hf : fog = 0 ∨ fog = 1 := by rw [ef]; exact fgF_v _ _
        refine m_laysWorthsOf x1 (by omega) wr0.2.1 hf (fun s2 t1 t2 t3 => ?_)
        rw [K1] at t3
        have z2 : zLw σ s2 := zLw_tr z1 (zLw_X t1)
        have x2 : sxM s2 n M 0 0 := sxM_gen x1 (zX_K t1) (fun c j q => by
          by_cases w : c = 17
          · rw [w]; exact t2 j
          · exact t1.2 c j (by omega) (by omega) w (by omega))
        have nd := ndF_v fog
        generalize hl : crW M K n k (wst M K n seed k).2.1 fog = l
        have srt : List.Pairwise (· < ·) l := by rw [← hl]; exact pk_sort (by omega)
        have pos : ∀ Y, Y ∈ l → 1 ≤ Y := fun Y hY => by rw [← hl] at hY; exact pk_pos (by omega) hY
        have lt10 : ∀ Y, Y ∈ l → Y < 1024 := fun Y hY => by rw [← hl] at hY; exact pk_lts (by omega) hY
        have hd : wcw M K n seed k = l.headD 0 := by unfold wcw; rw [← ef, hl]
        have put : ∀ (r v : Int), v = (wcw M K n seed k : Int) → (r = -1 ↔ wcw M K n seed k = 0) → B_X11_winter_117 Q (L_X11_winter_48 Q (m + 1)) (N : Int) ((wst M K n seed k).2.1 : Int) ((wst M K n seed k).2.2 : Int) (k : Int) r v (k : Int) s2 := by
          intro r v hv hr
          have c10 : wcw M K n seed k < 1024 := (cw_m (M := M) (K := K) (n := n) (night := k) (used := (wst M K n seed k).2.1) (fog := fgF K (drw (wst M K n seed k).1))).1
          unfold B_X11_winter_117
          rw [wr_n (by omega)]
          refine ⟨ixn (by omega), ?_⟩
          intro s3 e3
          rw [Int.toNat_natCast, hv] at e3
          have z3 : zLw σ s3 := zLw_tr z2 (by rw [e3]; exact zLw_sI (by omega))
          have v3 : gI s3 25 k = (wcw M K n seed k : Int) := by rw [e3, gI_sI, if_pos ⟨rfl, rfl⟩]
          have o3 : ∀ c j, ¬ (c = 25 ∧ j = k) → gI s3 c j = gI s2 c j := fun c j q => by rw [e3, gI_sI, if_neg q]
          clear e3
          have x3 : sxM s3 n M 0 0 := sxM_gen x2 (by rw [zLw_K z3, zLw_K z2]) (fun c j q => o3 c j (by omega))
          refine ⟨ixn (by omega), ?_⟩
          intro x ex
          rw [Int.toNat_natCast, v3, n_or (by omega) (by omega)] at ex
          subst ex
          have ws : wst M K n seed (k + 1) = (drw (wst M K n seed k).1, (wst M K n seed k).2.1 ||| wcw M K n seed k, (wst M K n seed k).2.2 + (if wcw M K n seed k = 0 then 0 else 1)) := wst_s
          have go : ∀ v1 : Int, wr (((wst M K n seed k).2.2 : Int) + v1) = ((wst M K n seed (k + 1)).2.2 : Int) → B_X11_winter_141 Q (L_X11_winter_48 Q (m + 1)) (N : Int) (((wst M K n seed k).2.1 ||| wcw M K n seed k : Nat) : Int) (k : Int) v1 ((wst M K n seed k).2.2 : Int) s3 := by
            intro v1' hv1 x ex y ey
            rw [hv1] at ex
            rw [wks (by omega)] at ey
            subst ex
            subst ey
            have i := ih (k + 1) (by omega) s3 z3 x3 (by rw [o3 _ _ (by omega), t1.2 _ _ (by omega) (by decide) (by decide) (by decide), o1 _ _ (by omega)]; exact a3) (by rw [o3 _ _ (by omega), t1.2 _ _ (by omega) (by decide) (by decide) (by decide), v1, ws]) (fun j hj => by
              by_cases e : j = k
              · subst e; exact v3
              · rw [o3 _ _ (by omega), t1.2 _ _ (by omega) (by decide) (by decide) (by decide), o1 _ _ (by omega)]; exact a5 j (by omega))
            rw [ws] at i ⊢
            exact i
          refine ⟨fun q => go 1 ?_, fun q => go 0 ?_⟩
          · rw [ws, if_neg (fun w => q (hr.mpr w))]
            rw [show ((wst M K n seed k).2.2 : Int) + 1 = (((wst M K n seed k).2.2 + 1 : Nat) : Int) by omega]
            exact wr_n (by omega)
          · rw [ws, if_pos (hr.mp q), Int.add_zero]
            exact wr_n (by omega)
        have main : wp_X11_crewBehind 0 ((ndF fog : Nat) : Int) s2 (fun r52 s53 => (¬ r52 = (-1) → B_X11_winter_117 Q (L_X11_winter_48 Q (m + 1)) (N : Int) ((wst M K n seed k).2.1 : Int) ((wst M K n seed k).2.2 : Int) (k : Int) r52 r52 (k : Int) s53) ∧ (r52 = (-1) → B_X11_winter_117 Q (L_X11_winter_48 Q (m + 1)) (N : Int) ((wst M K n seed k).2.1 : Int) ((wst M K n seed k).2.2 : Int) (k : Int) r52 0 (k : Int) s53)) := by
          refine m_crewBehind (S := 0) (w := wWV M K n k (wst M K n seed k).2.1 fog) (fun p => by have := wWV_2 (night := k) (used := (wst M K n seed k).2.1) (fog := fog) hxc p; rw [hK] at this; exact this) (by decide) nd t3 (fun X a b c => ?_) (fun a => ?_)
          · have a' : X ∈ l := by rw [← hl]; exact a
            have c' : ∀ Y, Y ∈ l → 0 < Y → X ≤ Y := fun Y hY => c Y (by rw [← hl] at hY; exact hY)
            obtain ⟨hx2, ex⟩ := nx_sort srt (i := 0) a' (Or.inl ⟨rfl, rfl, pos⟩) b c'
            have e0 : wcw M K n seed k = X := by
              rw [hd, ex]
              cases l with
              | nil => exact absurd hx2 (by simp)
              | cons Y l => rfl
            exact ⟨fun _ => put _ _ (by rw [e0]) ⟨fun q => absurd q (by omega), fun q => by omega⟩, fun q => absurd q (by omega)⟩
          · have a' : ∀ Y, Y ∈ l → ¬ 0 < Y := fun Y hY => a Y (by rw [← hl] at hY; exact hY)
            have nl := nx_end (i := 0) srt (Or.inl ⟨rfl, rfl, pos⟩) a'
            have e0 : wcw M K n seed k = 0 := by
              rw [hd]
              cases l with
              | nil => rfl
              | cons Y l => exact absurd nl (by simp)
            exact ⟨fun q => absurd rfl q, fun _ => put _ _ (by rw [e0]; rfl) ⟨fun _ => e0, fun _ => rfl⟩⟩
        refine ⟨fun q => ?_, fun q => ?_⟩
        · have e : ndF fog = 2 := by unfold ndF; rw [if_neg q]
          rw [e] at main
          exact main
        · have e : ndF fog = 4 := by unfold ndF; rw [if_pos q]
          rw [e] at main
          exact main
      refine ⟨fun z => body 0 ?_, fun z => body 1 ?_⟩
      · rw [K1] at z; unfold fgF; rw [if_pos z]
      · rw [K1] at z; unfold fgF; rw [if_neg z]
  exact ⟨N + 1, key N 0 (by omega) σ ⟨rfl, fun _ _ _ _ _ => rfl⟩ hs rfl h51 (fun j hj => absurd hj (by omega))⟩
theorem st_winter {B : Nat} {σc σm : st_S} (h : zInv B σc σm) (hk : zK1 σc) (a1 a2 : Int) : wp_X10_winter a1 a2 σc (fun r τ => wp_X11_winter a1 a2 σm (fun r2 υ => r = r2 ∧ zInv B τ υ)) := by
  obtain ⟨n, M, hx, hm, hsk, hr⟩ := inv_open h hk
  have no1 : ¬ (0 ≤ a1 ∧ a1 ≤ 1000000) → B_X10_winter_22 (fun r τ => wp_X11_winter a1 a2 σm (fun r2 υ => r = r2 ∧ zInv B τ υ)) σc := fun q => w_refuse 1 (by omega) rfl (m_lies (fun w => absurd w q) (fun _ => ⟨fun _ => m_refuses 1 (by omega) rfl ⟨rfl, inv_no (by omega) h⟩, fun w => absurd rfl w⟩))
  have no2 : (0 ≤ a1 ∧ a1 ≤ 1000000) → ¬ (1 ≤ a2 ∧ a2 ≤ 60) → B_X10_winter_22 (fun r τ => wp_X11_winter a1 a2 σm (fun r2 υ => r = r2 ∧ zInv B τ υ)) σc := fun q1 q => w_refuse 1 (by omega) rfl (m_lies (fun _ => ⟨fun w => absurd w (by decide), fun _ => m_lies (fun w => absurd w q) (fun _ => ⟨fun w => absurd rfl w, fun _ => m_refuses 1 (by omega) rfl ⟨rfl, inv_no (by omega) h⟩⟩)⟩) (fun w => absurd q1 w))
  refine ⟨fun z => no1 (by omega), fun z1 => ⟨fun z => no1 (by omega), fun z2 => ⟨fun z => no2 ⟨by omega, by omega⟩ (by omega), fun z3 => ⟨fun z4 => ?_, fun z => no2 ⟨by omega, by omega⟩ (by omega)⟩⟩⟩⟩
  obtain ⟨sd, es⟩ : ∃ s : Nat, a1 = (s : Int) := ⟨a1.toNat, by omega⟩
  obtain ⟨N, eN⟩ : ∃ N : Nat, a2 = (N : Int) := ⟨a2.toNat, by omega⟩
  subst es
  subst eN
  refine w_prepare hx (fun τ1 y1 p1 => ?_)
  intro s2 e2
  have f2 : ∀ c j, ¬ (c = 0 ∧ j = 12) → gI s2 c j = gI τ1 c j := fun c j q => by rw [e2, gI_sI, if_neg q]
  have v2 : gI s2 0 12 = (N : Int) := by rw [e2, gI_sI, if_pos ⟨rfl, rfl⟩]
  have t2 : s2.2 = τ1.2 := by rw [e2]; rfl
  clear e2
  refine w_winterBy (seed := sd) (N := N) (ppC_gen p1 t2 (fun c j q => f2 c j (by omega))) (by omega) (by omega) (fun τ3 y3 d3 => w_accept ?_)
  have tc : τ3.2 = σc.2 := y3.1.trans (t2.trans y1.1)
  have fc : ∀ c j, ¬ (36 ≤ c ∧ c ≤ 38) → ¬ (42 ≤ c ∧ c ≤ 51) → c ≠ 23 → ¬ (c = 0 ∧ j = 12) → gI τ3 c j = gI σc c j := fun c j q1 q2 q3 q4 => by rw [y3.2 c j q1 q2 q3, f2 c j q4, y1.2 c j q1 q2]
  have v3 : gI τ3 0 12 = (N : Int) := by rw [y3.2 _ _ (by omega) (by omega) (by omega)]; exact v2
  refine m_lies (fun _ => ⟨fun w => absurd w (by decide), fun _ => m_lies (fun _ => ⟨fun _ => m_looks hm (fun υ1 u1 u2 u3 => ?_), fun w => absurd w (by decide)⟩) (fun w => absurd ⟨by omega, by omega⟩ w)⟩) (fun w => absurd ⟨by omega, by omega⟩ w)
  intro s4 e4 s5 e5
  have f5 : ∀ c j, ¬ (c = 0 ∧ (j = 50 ∨ j = 51)) → gI s5 c j = gI υ1 c j := fun c j q => by rw [e5, gI_sI, if_neg (by omega), e4, gI_sI, if_neg (by omega)]
  have z5 : zLw σm s5 := zLw_tr (zLw_L u1) (by rw [e5, e4]; exact zLw_tr (zLw_sI (by omega)) (zLw_sI (by omega)))
  have v50 : gI s5 0 50 = (N : Int) := by rw [e5, gI_sI, if_pos ⟨rfl, rfl⟩]
  have v51 : gI s5 0 51 = (sd : Int) := by rw [e5, gI_sI, if_neg (by omega), e4, gI_sI, if_pos ⟨rfl, rfl⟩]
  clear e5 e4
  refine m_winterL (K := gI σm 2) (n := n) (M := M) (zLw_K z5) (sxM_gen u2 (by rw [zLw_K z5, zL_K u1]) (fun c j q => f5 c j (by omega))) (by omega) (by omega) v51 (fun υ w1 w2 w3 => m_good ⟨rfl, ?_⟩)
  have zm := zLw_tr z5 w1
  have fm : ∀ c j, lsM c j → c ≠ 25 → ¬ (c = 0 ∧ j = 50) → gI υ c j = gI σm c j := fun c j q q1 q2 => zm.2 c j (by unfold lsM at q; omega) (by unfold lsM at q; omega) (by unfold lsM at q; omega)
  have eR : ∀ c j, gR τ3 c j = gR σc c j := fun c j => by unfold gR; rw [tc]
  have eL : ∀ c, gL τ3 c = gL σc c := fun c => by unfold gL; rw [tc]
  have eK : ∀ c, gK τ3 c = gK σc c := fun c => by unfold gK; rw [tc]
  obtain ⟨⟨h1, h2, h3, h4, h5, h6⟩, hst, hrr⟩ := h
  refine inv_ok ⟨?_, ?_, ?_, ?_, ?_, ?_⟩ (fun k hk7 => ?_) ?_
  · exact zCR_of h1 (fun d j a b => fc d j (by omega) (by omega) (by omega) (by omega)) (fun j => eR _ j) (fun d j a _ q b c => ⟨fc q j (by omega) (by omega) (by omega) (by omega), eL q⟩) (fun c a b => by rw [eK]; exact b) (fun i => fm 2 i (by unfold lsM; omega) (by decide) (by omega))
  · obtain ⟨n', q1, q2⟩ := h2
    have e13 : gI υ 13 = gI σm 13 := funext fun j => fm 13 j (by unfold lsM; omega) (by decide) (by omega)
    refine ⟨n', by rw [fm 2 256 (by unfold lsM; omega) (by decide) (by omega)]; exact q1, ?_⟩
    rw [e13, fm 0 28 (by unfold lsM; omega) (by decide) (by omega)]
    exact zLg_of q2 (fun c j hc => fc c j (by omega) (by omega) (by omega) (by omega))
  · exact zImg_of h3 (by rw [tc]) (fun c j _ => eR c j) (fun c hc j => fc c j (by omega) (by omega) (by omega) (by omega)) (fun c j hc => fm c j (by unfold lsM; omega) (by omega) (by omega))
  · exact zTp_of h4 (fun c j hc => fc c j (by omega) (by omega) (by omega) (by omega)) (fun c j hc => fm c j (by unfold lsM; omega) (by omega) (by omega))
  · exact zWd_of h5 (fun j => fm 6 j (by unfold lsM; omega) (by decide) (by omega))
  · obtain ⟨_, b1, b2, b3⟩ := h6
    refine ⟨⟨N, v3, by rw [w2]; exact v50, by omega, fun k hkN => by rw [d3 k hkN, w3 k hkN]⟩, ?_, ?_, ?_⟩
    · rw [fc 0 13 (by omega) (by omega) (by omega) (by omega), fm 0 6 (by unfold lsM; omega) (by decide) (by omega)]; exact b1
    · rw [fc 12 3 (by omega) (by omega) (by omega) (by omega), fm 0 14 (by unfold lsM; omega) (by decide) (by omega)]; exact b2
    · rw [fc 52 0 (by omega) (by omega) (by omega) (by omega), fm 0 41 (by unfold lsM; omega) (by decide) (by omega)]; exact b3
  · rw [fc 24 k (by omega) (by omega) (by omega) (by omega), zm.2 1 k (by omega) (by decide) (by omega)]; exact hst.2 k hk7
  · unfold zRr
    rw [eR, eR]
    exact hrr
