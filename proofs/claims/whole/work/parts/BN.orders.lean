/-! orders: both -/
set_option maxHeartbeats 1000000 in
theorem st_orders {B : Nat} {σc σm : st_S} (h : zInv B σc σm) (hk : zK1 σc) (z32 : zcn (gI σm 2 32)) (z30 : zcn (gI σm 2 30)) (hB : B + 240 < 2000000000) : wp_X10_orders σc (fun r τ => wp_X11_orders σm (fun r2 υ => r = r2 ∧ zInv (B + 240) τ υ)) := by
  have h0 := h
  obtain ⟨⟨hcr, hlog, himg, ⟨n, t1, t2, t3, t4⟩, hwd, hsc⟩, hst, hrr⟩ := h
  have hco := h0.1
  have hb : tpB (gI σc 13) n := fun i hi => ⟨(t4 i hi).1, (t4 i hi).2.1⟩
  have hM : tpM (sI σm 0 41 (-1)) (gI σc 13) n := ⟨t3, hb, fun i hi => by rw [gI_sI, if_neg (by omega)]; exact (t4 i hi).2.2, fun i hi => by rw [gI_sI, if_neg (by omega)]; exact hwd i hi⟩
  have t2' : gI (sI σm 0 41 (-1)) 0 13 = (n : Int) := by rw [gI_sI, if_neg (by omega)]; exact t2
  obtain ⟨T, hE⟩ := tkE_ex hb t3
  have hT4 : T ≤ 400 := by have := hE.2.2.1; omega
  refine w_read (ord := true) hE t1 (fun i _ => rfl) (fun j τ e z w => ?_) (fun l τ dl e z w3 l12 l1 c7 c6 d4 ck cl => ?_)
  · intro s28 e28 s29 e29
    refine ⟨fun q => absurd rfl q, fun _ => w_refuse 6 (by decide) rfl ?_⟩
    intro s107 e107
    subst e107
    refine m_readsAs (ord := true) hM t2' (fun T' hE' => ?_)
    have eT := tkE_uq hE' hE
    subst eT
    refine ⟨fun j' υ e' z' u13 u14 => ⟨fun q => absurd rfl q, fun _ => m_refuses 6 (by decide) rfl ⟨rfl, inv_no (by decide) (zInv_mono ⟨zCo_ro hco ?_ ?_ ?_ z'.1 ?_ ?_ u13 ?_ ?_, ⟨?_, ?_⟩, ?_⟩ (Nat.le_add_right _ _))⟩⟩, fun l' υ e' => absurd (e.symm.trans e') (by simp)⟩
    · rw [e29, e28]; show τ.2.2 = _; rw [z.1]
    · intro c j _ _; rw [e29, e28]; show gR τ c j = _; unfold gR; rw [z.1]
    · intro c j hls h12 h52; rw [e29, gI_sI, if_neg (by omega), e28, gI_sI, if_neg (by omega)]; exact z.2 c j (by omega) (by unfold lsC at hls; omega)
    · intro c j hls hn hn2; rw [z'.2 c j (by unfold lsM at hls; omega) (by unfold lsM at hls; omega) (by unfold lsM at hls; omega) (by unfold lsM at hls; omega), gI_sI, if_neg (by omega)]
    · rw [e29, gI_sI, if_neg (by omega), e28, gI_sI, if_pos ⟨rfl, rfl⟩]
    · rw [e29, gI_sI, if_neg (by omega), e28, gI_sI, if_neg (by omega), w, u14, inl_inj e e']
    · rw [e29, gI_sI, if_pos ⟨rfl, rfl⟩, z'.2 _ _ (by omega) (by decide) (by decide) (by decide), gI_sI, if_pos ⟨rfl, rfl⟩]
    · rw [e29, gI_sI, if_neg (by omega), e28, gI_sI, if_neg (by omega), z.2 _ _ (by omega) (by omega), z'.2 _ _ (by omega) (by decide) (by decide) (by decide), gI_sI, if_neg (by omega)]; exact hst.1
    · intro k hk'
      rw [e29, gI_sI, if_neg (by omega), e28, gI_sI, if_neg (by omega), z.2 _ _ (by omega) (by omega), z'.2 _ _ (by omega) (by decide) (by decide) (by decide), gI_sI, if_neg (by omega)]; exact hst.2 k hk'
    · unfold zRr gR at hrr ⊢; rw [show s29.2 = σc.2 by rw [e29, e28]; exact z.1]; exact hrr
  · intro s28 e28 s29 e29
    refine ⟨fun _ => ?_, fun q => absurd q (by decide)⟩
    have s2 : s29.2 = σc.2 := by rw [e29, e28]; exact z.1
    have kS : ∀ c, gK s29 c = gK σc c := fun c => by unfold gK; rw [s2]
    have rS : ∀ c j, gR s29 c j = gR σc c j := fun c j => by unfold gR; rw [s2]
    have iS : ∀ c j, c ≠ 12 → ¬ (14 ≤ c ∧ c ≤ 20) → ¬ (c = 52 ∧ j = 0) → gI s29 c j = gI σc c j := fun c j a b d => by rw [e29, gI_sI, if_neg d, e28, gI_sI, if_neg (by omega)]; exact z.2 c j (by omega) b
    have iT : ∀ c j, ¬ (c = 12 ∧ j = 1) → ¬ (c = 52 ∧ j = 0) → gI s29 c j = gI τ c j := fun c j a b => by rw [e29, gI_sI, if_neg b, e28, gI_sI, if_neg a]
    have b7 := (fun i c (hc : gR σc 34 i = some c) => by obtain ⟨np, q1, q2, q3, q4, q5, q6, q7, q8, q9, qa, m, b1, b2, b3, b4, b5, b6, b7, b8⟩ := hcr; exact b7 i c hc : ∀ i c, gR σc 34 i = some c → 65 ≤ c ∧ gK σc c = 25)
    refine w_copyFrom (t := 1) (a := 25) (by rw [kS]; exact (zK1_at hk 1 17 0 rfl).1) (by rw [kS]; exact (zK1_at hk 25 17 0 rfl).1) (by decide) (fun i c hc => by rw [kS]; rw [rS] at hc; exact (b7 i c hc).2) (fun s31 g31 => ?_)
    have kS31 : ∀ c, gK s31 c = gK σc c := fun c => by unfold gK; rw [g31.1]; exact kS c
    have lS31 : ∀ c, gL s31 c = gL σc c := fun c => by unfold gL; rw [g31.1, s2]
    refine w_copyLog (t := 21) (a := 39) (by rw [kS31]; exact (zK1_at hk 21 20 0 rfl).1) (by rw [kS31]; exact (zK1_at hk 39 20 0 rfl).1) (by decide) (fun s33 g33 => ?_)
    intro s88 e88
    have i88 : ∀ c j, ¬ (1 ≤ c ∧ c ≤ 9) → c ≠ 22 → ¬ (c = 21 ∧ j ≤ 1) → ¬ (c = 52 ∧ j = 0) → gI s88 c j = gI s29 c j := fun c j a1 a2 a3 a4 => by rw [e88, gI_sI, if_neg a4, g33.2.1 c j a2 a3]; exact g31.2.2.2.1 c j (by omega)
    have r88 : ∀ c j, c ≠ 10 → gR s88 c j = gR σc c j := fun c j hc => by rw [e88]; show gR s33 c j = _; unfold gR; rw [g33.1]; show gR s31 c j = _; rw [g31.2.1 c j hc]; exact rS c j
    have k88 : s88.2.2 = σc.2.2 := by rw [e88]; show s33.2.2 = _; rw [g33.1, g31.1, s2]
    have f52 : gI s88 52 0 = -1 := by rw [e88, gI_sI, if_pos ⟨rfl, rfl⟩]
    have zU : zCo B s88 (uOr σm (kOr (gI σm 2) (cdT (gI σc 13) n) (vlT (gI σc 13) n) T)) := by
      refine zCo_ro hco k88 (fun c j _ hc => r88 c j hc) (fun c j hls h12 h52 => ?_) rfl (fun c j hls a1 a2 => ?_) ?_ ?_ ?_ ?_
      · rw [i88 c j (by unfold lsC at hls; omega) (by unfold lsC at hls; omega) (by unfold lsC at hls; omega) h52]
        exact iS c j h12 (by unfold lsC at hls; omega) h52
      · rw [gI_uOr]
        by_cases c2 : c = 2
        · rw [if_pos c2, kOr_n (by omega) (by omega) (by omega), c2]
        · rw [if_neg c2, if_neg (by omega), if_neg (by omega)]
      · rw [i88 _ _ (by omega) (by decide) (by omega) (by omega), e29, gI_sI, if_neg (by omega), e28, gI_sI, if_pos ⟨rfl, rfl⟩]
      · rw [gI_uOr, if_neg (by decide), if_pos ⟨rfl, rfl⟩]
      · rw [i88 _ _ (by omega) (by decide) (by omega) (by omega), iT _ _ (by omega) (by omega), w3, gI_uOr, if_neg (by decide), if_neg (by omega), if_pos (by omega)]
      · rw [f52, gI_uOr, if_neg (by decide), if_neg (by omega), if_pos (by omega)]
    obtain ⟨n', m', M, o, ts, ts0, g28, m16, dd, o240, o12, oc, om⟩ := o_ready (len := dl) (τ := τ) hE zU (zK1_of hk k88) z32 z30 hB e l12 cl
    -- the reference's run, behind the class's
    have ref : ∀ (rr : Int) (F : st_S), (∀ (U0 : st_S), gI U0 2 = kOr (gI σm 2) (cdT (gI σc 13) n) (vlT (gI σc 13) n) T → agM (uOr σm (kOr (gI σm 2) (cdT (gI σc 13) n) (vlT (gI σc 13) n) T)) U0 → U0.2 = σm.2 → gI U0 0 0 = gI σm 0 0 → (∀ k, gI U0 1 k = gI σm 1 k) → (∀ j, j < 34 → gI U0 5 j = gI σm 2 j) → (∀ j, j < 560 → gI U0 14 j = gI σm 13 j) → (∀ k, o = .inl k → ∀ υ, zOn U0 υ → ∃ m134 : Nat, L_X11_orders_134 (fun r2 υ => rr = r2 ∧ zInv (B + 240) F υ) m134 (m' : Int) (k : Int) 0 υ) ∧ (∀ w, o = .inr w → ∀ υ, zOn U0 υ → sM' υ w.2 w.1 → wp_X11_good (w.1 : Int) υ (fun r2 υ => rr = r2 ∧ zInv (B + 240) F υ))) → wp_X11_orders σm (fun r2 υ => rr = r2 ∧ zInv (B + 240) F υ) := by
      intro rr F hF
      intro s107 e107
      subst e107
      refine m_readsAs (ord := true) hM t2' (fun T' hE' => ?_)
      have eT := tkE_uq hE' hE
      subst eT
      refine ⟨fun j' υ e' => absurd (e.symm.trans e') (by simp), fun l' υ e' z' u13 u14 u18 utk => ⟨fun _ => ?_, fun q => absurd q (by decide)⟩⟩
      have zr : ∀ c j, ¬ (c = 0 ∧ (j = 8 ∨ j = 9 ∨ j = 10 ∨ j = 13 ∨ j = 14 ∨ (18 ≤ j ∧ j ≤ 21) ∨ j = 41)) → c ≠ 9 → c ≠ 10 → c ≠ 11 → gI υ c j = gI σm c j := fun c j a b d f => by rw [z'.2 c j (by omega) b d f, gI_sI, if_neg (by omega)]
      refine m_o22 (fun υ1 p1 p2 p3 => m_o48 (fun υ2 r1 r2 r3 => ?_))
      intro x87 e87
      refine m_lays (t := 6) (cf := cdT (gI σc 13) n) (vf := vlT (gI σc 13) n) (by decide) hT4 (by rw [r2 _ _ (by decide), p2 _ _ (by decide)]; exact u18) (fun k hk' => by rw [r2 _ _ (by decide), p2 _ _ (by decide), r2 _ _ (by decide), p2 _ _ (by decide)]; exact ⟨(utk k (by omega)).1, (utk k (by omega)).2.1⟩) (fun υ3 w1 w2 w3' w4 w5 => ?_)
      intro s90 e90 s91 e91 x94 e94
      have K3 : gI υ3 2 = kOr (gI σm 2) (cdT (gI σc 13) n) (vlT (gI σc 13) n) T' := kOr_lays hT4 w3' w4 (fun i a b c => by rw [w5 i a b c, r2 _ _ (by decide), p2 _ _ (by decide)]; exact zr 2 i (by omega) (by decide) (by decide) (by decide))
      have K91 : gI s91 2 = kOr (gI σm 2) (cdT (gI σc 13) n) (vlT (gI σc 13) n) T' := by rw [← K3, e91, e90]; rfl
      have o91 : ∀ c j, c ≠ 2 → ¬ (c = 0 ∧ (j = 8 ∨ j = 9 ∨ j = 10 ∨ j = 13 ∨ j = 14 ∨ (18 ≤ j ∧ j ≤ 21) ∨ (41 ≤ j ∧ j ≤ 43))) → c ≠ 5 → c ≠ 9 → c ≠ 10 → c ≠ 11 → c ≠ 14 → gI s91 c j = gI σm c j := fun c j a1 a2 a3 a4 a5 a6 a7 => by rw [e91, gI_sI, if_neg (by omega), e90, gI_sI, if_neg (by omega), w2 c j a1, r2 c j a7, p2 c j a3]; exact zr c j (by omega) a4 a5 a6
      have v43 : gI s91 0 43 = 2400 := by rw [e91, gI_sI, if_pos ⟨rfl, rfl⟩]
      have v42 : gI s91 0 42 = 0 := by rw [e91, gI_sI, if_neg (by omega), e90, gI_sI, if_pos ⟨rfl, rfl⟩]
      have v265 : gI s91 2 265 = (T' : Int) := by rw [K91]; unfold kOr; rw [if_pos rfl]
      rw [v43, v265, show ((2400 : Int) + (T' : Int)) = ((2400 + T' : Nat) : Int) by omega, wr_n (by omega)] at e94
      have v28 : x87 = (m' : Int) := by rw [e87, r2 _ _ (by decide), p2 _ _ (by decide), zr _ _ (by omega) (by decide) (by decide) (by decide)]; exact g28
      subst e94
      rw [v28]
      have q0 : ∀ j, (j = 13 → gI s91 0 j = 0) ∧ (j = 14 → gI s91 0 j = -1) ∧ (j = 41 → gI s91 0 j = -1) := fun j => by
        have f : j ≠ 42 → j ≠ 43 → gI s91 0 j = gI υ 0 j := fun a b => by rw [e91, gI_sI, if_neg (by omega), e90, gI_sI, if_neg (by omega), w2 _ _ (by decide), r2 _ _ (by decide), p2 _ _ (by decide)]
        refine ⟨fun ej => by subst ej; rw [f (by decide) (by decide)]; exact u13, fun ej => by subst ej; rw [f (by decide) (by decide)]; exact u14, fun ej => ?_⟩
        subst ej
        rw [f (by decide) (by decide), z'.2 _ _ (by omega) (by decide) (by decide) (by decide), gI_sI, if_pos ⟨rfl, rfl⟩]
      have hh := hF s91 K91 ⟨by rw [e91, e90]; show υ3.2 = σm.2; rw [w1, r1, p1]; exact z'.1, fun c j q => ?_⟩ (by rw [e91, e90]; show υ3.2 = σm.2; rw [w1, r1, p1]; exact z'.1) (o91 _ _ (by decide) (by omega) (by decide) (by decide) (by decide) (by decide) (by decide)) (fun k => o91 _ _ (by decide) (by omega) (by decide) (by decide) (by decide) (by decide) (by decide)) (fun j hj => ?_) (fun j hj => ?_)
      · exact om s91 _ _ K91 (funext fun j => o91 _ _ (by decide) (by omega) (by decide) (by decide) (by decide) (by decide) (by decide)) (by rw [o91 _ _ (by decide) (by omega) (by decide) (by decide) (by decide) (by decide) (by decide)]; exact g28) v42 v43 hh.1 hh.2
      · rw [gI_uOr]
        by_cases c2 : c = 2
        · rw [if_pos c2, c2, K91]
        · rw [if_neg c2]
          by_cases c13 : c = 0 ∧ j = 13
          · rw [if_pos c13, c13.1]; exact (q0 j).1 c13.2
          · rw [if_neg c13]
            by_cases c14 : c = 0 ∧ (j = 14 ∨ j = 41)
            · rw [if_pos c14, c14.1]
              rcases c14.2 with w | w
              · exact (q0 j).2.1 w
              · exact (q0 j).2.2 w
            · rw [if_neg c14]; exact o91 c j c2 (by unfold lsM at q; omega) (by unfold lsM at q; omega) (by unfold lsM at q; omega) (by unfold lsM at q; omega) (by unfold lsM at q; omega) (by unfold lsM at q; omega)
      · rw [e91, gI_sI, if_neg (by omega), e90, gI_sI, if_neg (by omega), w2 _ _ (by decide), r2 _ _ (by decide), p3 j hj]; exact zr 2 j (by omega) (by decide) (by decide) (by decide)
      · rw [e91, gI_sI, if_neg (by omega), e90, gI_sI, if_neg (by omega), w2 _ _ (by decide), r3 j hj, p2 _ _ (by decide)]; exact zr 13 j (by omega) (by decide) (by decide) (by decide)
    have kS88 : ∀ c, gK s88 c = gK σc c := fun c => by unfold gK; rw [k88]
    have lS88 : ∀ c, gL s88 c = gL σc c := fun c => by unfold gL; rw [k88]
    have t88 : ∀ c j, 14 ≤ c → c ≤ 20 → gI s88 c j = gI τ c j := fun c j a b => by rw [i88 c j (by omega) (by omega) (by omega) (by omega)]; exact iT c j (by omega) (by omega)
    have o15 : cO s88 15 = cO τ 15 := cO_eq (fun j => t88 15 j (by decide) (by decide))
    have c88 : ∀ c j, ¬ (1 ≤ c ∧ c ≤ 9) → c ≠ 12 → ¬ (14 ≤ c ∧ c ≤ 20) → c ≠ 22 → ¬ (c = 21 ∧ j ≤ 1) → ¬ (c = 52 ∧ j = 0) → gI s88 c j = gI σc c j := fun c j a1 a2 a3 a4 a5 a6 => by rw [i88 c j a1 a4 a5 a6]; exact iS c j a2 a3 a6
    have R88 : zRr s88 := by unfold zRr at hrr ⊢; rw [r88 56 8 (by decide), r88 56 9 (by decide)]; exact hrr
    refine oc s88 _ dd (zDr_read (by rw [kS88]; exact (zK1_at hk 53 16 0 rfl).1) (by rw [kS88]; exact (zK1_at hk 14 25 0 rfl).1) (by rw [kS88]; exact (zK1_at hk 55 0 64 rfl).1) (by rw [lS88]; exact (zK1_at hk 55 0 64 rfl).2) (by rw [lS88]; exact (zK1_at hk 15 0 400 rfl).2) (by rw [t88 _ _ (by decide) (by decide)]; exact c6) d4 (fun i a b => by rw [o15, cD_eq (fun j => t88 15 j (by decide) (by decide))]; exact ck i a b)) (by rw [t88 _ _ (by decide) (by decide)]; exact c7) (fun i hi => zCi_cCl (by omega) (cCl_of (cl i hi) (Nat.le_refl _) (fun d a b => t88 d i (by omega) b) (fun j _ => t88 15 j (by decide) (by decide)))) (fun k ek v τ1 z1 => ?_) (fun w ew τ1 z1 S1 => ?_)
    · have k12 := o12 k ek
      refine ⟨fun q => absurd q (by rw [gI_sI, if_pos ⟨rfl, rfl⟩]; omega), fun _ => ?_⟩
      generalize e35 : sI τ1 52 0 (k : Int) = s35
      have x35 : s35.2 = s88.2 := by rw [← e35]; exact z1.1
      have k35 : ∀ c, gK s35 c = gK σc c := fun c => by unfold gK; rw [x35]; exact kS88 c
      have r35 : ∀ c j, gR s35 c j = gR s88 c j := fun c j => by unfold gR; rw [x35]
      have i35 : ∀ c j, ¬ (c = 52 ∧ j = 0) → gI s35 c j = gI τ1 c j := fun c j a => by rw [← e35, gI_sI, if_neg a]
      have v35 : gI s35 52 0 = (k : Int) := by rw [← e35, gI_sI, if_pos ⟨rfl, rfl⟩]
      have r10 : ∀ j, gR s88 10 j = if j < 6 then gR σc 34 j else gR σc 10 j := fun j => by
        rw [e88]; show gR s33 10 j = _; unfold gR; rw [g33.1]; show gR s31 (1 + 9) j = _; rw [g31.2.2.1 j, rS, rS]; rfl
      refine w_copyFrom6 (t := 25) (a := 1) (by rw [k35]; exact (zK1_at hk 25 17 0 rfl).1) (by rw [k35]; exact (zK1_at hk 1 17 0 rfl).1) (by decide) (fun i c hi hc => ?_) (fun s40 g40 => ?_)
      · rw [k35]
        rw [r35, r10, if_pos hi] at hc
        exact (b7 i c hc).2
      have k40 : ∀ c, gK s40 c = gK σc c := fun c => by unfold gK; rw [g40.1]; exact k35 c
      refine w_copyLog (t := 39) (a := 21) (by rw [k40]; exact (zK1_at hk 39 20 0 rfl).1) (by rw [k40]; exact (zK1_at hk 21 20 0 rfl).1) (by decide) (fun s42 g42 => ?_)
      have i42 : ∀ c j, ¬ (25 ≤ c ∧ c ≤ 33) → c ≠ 40 → ¬ (c = 39 ∧ j ≤ 1) → gI s42 c j = gI s35 c j := fun c j a1 a2 a3 => by rw [g42.2.1 c j a2 a3]; exact g40.2.2.2.1 c j (by omega)
      have r42 : ∀ c j, gR s42 c j = gR s88 c j := fun c j => by
        unfold gR; rw [g42.1]; show gR s40 c j = gR s88 c j
        by_cases c34 : c = 34
        · subst c34
          rw [g40.2.2.1 j, r35, r35, r10, r88 34 j (by decide)]
          by_cases j6 : j < 6
          · rw [if_pos j6, if_pos j6]
          · rw [if_neg j6]
        · rw [g40.2.1 c j c34]; exact r35 c j
      have x42 : s42.2.2 = s88.2.2 := by rw [g42.1, g40.1, x35]
      -- the coast and the log are as they were
      have m1 : ∀ c j, 1 ≤ c → c ≤ 22 → gI s35 c j = gI s88 c j := fun c j a b => by rw [i35 c j (by omega)]; exact z1.2 c j (by omega) (by omega) (by omega) (by omega) (by omega)
      have m33 : ∀ c j, gI s88 c j = if c = 52 ∧ j = 0 then -1 else gI s33 c j := fun c j => by rw [e88, gI_sI]
      have m31 : ∀ c j, 1 ≤ c → c ≤ 9 → gI s88 c j = gI s31 c j := fun c j a b => by rw [m33, if_neg (by omega)]; exact g33.2.1 c j (by omega) (by omega)
      have m25 : ∀ c j, 25 ≤ c → c ≤ 34 → gI s88 c j = gI s29 c j := fun c j a b => i88 c j (by omega) (by omega) (by omega) (by omega)
      have m40 : ∀ c j, 25 ≤ c → c ≤ 33 → gI s42 c j = gI s40 c j := fun c j a b => g42.2.1 c j (by omega) (by omega)
      have f42 : ∀ c j, ¬ (25 ≤ c ∧ c ≤ 33) → ¬ (36 ≤ c ∧ c ≤ 40) → ¬ (c = 52 ∧ j = 0) → ¬ (53 ≤ c ∧ c ≤ 55) → gI s42 c j = gI s88 c j := fun c j a1 a2 a3 a4 => by rw [i42 c j a1 (by omega) (by omega), i35 c j a3]; exact z1.2 c j (by omega) (by omega) a2 (by omega) a4
      refine w_refuse 3 (by decide) rfl (ref _ _ (fun U0 hK hA h2 h00 h1k h5 h14 => ⟨fun k' ek' υ zu => ?_, fun w' ew' => absurd (ek.symm.trans ew') (by simp)⟩))
      have ekk : k' = k := by have := ek.symm.trans ek'; exact (Sum.inl.inj this).symm
      subst ekk
      refine m_o134 (fun υ1 a1 a2 a3 => m_o164 (fun υ2 b1 b2 b3 => ?_))
      intro s61 e61 s62 e62
      have n62 : ∀ c j, ¬ (c = 0 ∧ (j = 28 ∨ j = 41)) → c ≠ 13 → ¬ (c = 2 ∧ j < 34) → gI s62 c j = gI υ c j := fun c j q1 q2 q3 => by rw [e62, gI_sI, if_neg (by omega), e61, gI_sI, if_neg (by omega), b2 c j q2]; exact a2 c j q3
      have u62 : ∀ c j, ¬ (c = 0 ∧ (j = 8 ∨ (22 ≤ j ∧ j ≤ 24) ∨ j = 28 ∨ (41 ≤ j ∧ j ≤ 48))) → c ≠ 12 → c ≠ 13 → ¬ (c = 2 ∧ j < 34) → gI s62 c j = gI U0 c j := fun c j q1 q2 q3 q4 => by rw [n62 c j (by omega) q3 q4]; exact zu.2 c j (by omega) q2 q3 q4
      have v41 : gI s62 0 41 = (k' : Int) := by rw [e62, gI_sI, if_pos ⟨rfl, rfl⟩]
      have v28 : gI s62 0 28 = (m' : Int) := by rw [e62, gI_sI, if_neg (by omega), e61, gI_sI, if_pos ⟨rfl, rfl⟩]
      refine m_refuses 3 (by decide) rfl ⟨rfl, inv_no (by decide) (zInv_mono ⟨zCo_bk zU x42 (fun c j _ _ => r42 c j) ?_ ?_ ?_ ?_ ?_ ?_ ?_ ?_ ?_ ?_ ?_ ?_, ⟨?_, ?_⟩, ?_⟩ (Nat.le_add_right _ _))⟩
      · rw [m40 25 0 (by decide) (by decide), g40.2.2.2.2.1.1, m1 1 0 (by decide) (by decide), m31 1 0 (by decide) (by decide), g31.2.2.2.2.1.1, m25 25 0 (by decide) (by decide)]
      · intro j j1 j2
        rw [m40 25 j (by decide) (by decide), g40.2.2.2.2.1.2 j j1 j2, m1 1 j (by decide) (by decide), m31 1 j (by decide) (by decide), g31.2.2.2.2.1.2 j j1 j2, m25 25 j (by decide) (by decide)]
      · intro d p d1 d2 hp
        rw [m40 (25 + d) p (by omega) (by omega), g40.2.2.2.2.2.1 d p d1 d2 hp, m1 (1 + d) p (by omega) (by omega), m31 (1 + d) p (by omega) (by omega), g31.2.2.2.2.2.1 d p d1 d2 hp, m25 (25 + d) p (by omega) (by omega)]
      · intro p hp
        rw [m40 (25 + 7) p (by decide) (by decide), g40.2.2.2.2.2.2.1 p hp, m1 (1 + 7) p (by decide) (by decide), m31 (1 + 7) p (by decide) (by decide), g31.2.2.2.2.2.2.1 p hp, m25 (25 + 7) p (by decide) (by decide)]
      · intro p hp
        rw [m40 (25 + 8) p (by decide) (by decide), g40.2.2.2.2.2.2.2 p hp, m1 (1 + 8) p (by decide) (by decide), m31 (1 + 8) p (by decide) (by decide), g31.2.2.2.2.2.2.2 p hp, m25 (25 + 8) p (by decide) (by decide)]
      · intro d j hd
        exact f42 d j (by omega) (by omega) (by omega) (by omega)
      · rw [g42.2.2.1, g40.2.2.2.1 21 0 (by omega), m1 21 0 (by decide) (by decide), m33, if_neg (by omega), g33.2.2.1, i88 39 0 (by omega) (by decide) (by omega) (by omega)]
        exact g31.2.2.2.1 39 0 (by omega)
      · rw [g42.2.2.2.1, g40.2.2.2.1 21 1 (by omega), m1 21 1 (by decide) (by decide), m33, if_neg (by omega), g33.2.2.2.1, i88 39 1 (by omega) (by decide) (by omega) (by omega)]
        exact g31.2.2.2.1 39 1 (by omega)
      · intro j hj
        have a := g42.2.2.2.2 j hj
        have b := g33.2.2.2.2 j hj
        rw [show gI s42 40 j = gI s42 (39 + 1) j from rfl, a, g40.2.2.2.1 (21 + 1) j (by omega), m1 (21 + 1) j (by decide) (by decide), m33, if_neg (by omega), b, i88 40 j (by omega) (by decide) (by omega) (by omega)]
        exact g31.2.2.2.1 40 j (by omega)
      · intro c j hc
        exact f42 c j (by omega) (by omega) (by omega) (by omega)
      · intro c j hls h41' h13'
        by_cases c13 : c = 13
        · subst c13
          rw [e62, gI_sI, if_neg (by omega), e61, gI_sI, if_neg (by omega), b3 j (by omega), a2 14 j (by omega), zu.2 14 j (by omega) (by decide) (by decide) (by omega), h14 j (by omega)]
          exact (uOr_o (by decide) (by omega)).symm
        · by_cases c28 : c = 0 ∧ j = 28
          · rw [c28.1, c28.2, v28, uOr_o (by decide) (by omega)]; exact g28.symm
          · by_cases c2 : c = 2 ∧ j < 34
            · rw [c2.1, e62, gI_sI, if_neg (by omega), e61, gI_sI, if_neg (by omega), b2 2 j (by decide), a3 j c2.2, zu.2 5 j (by omega) (by decide) (by decide) (by omega), h5 j c2.2, uOr_2, kOr_n (by omega) (by omega) (by omega)]
            · rw [u62 c j (by unfold lsM at hls; omega) (by unfold lsM at hls; omega) c13 c2]
              exact hA.2 c j hls
      · rw [v41, i42 52 0 (by omega) (by decide) (by omega), v35]
      · rw [f42 0 14 (by omega) (by omega) (by omega) (by omega), c88 0 14 (by omega) (by decide) (by omega) (by decide) (by omega) (by omega), u62 0 0 (by omega) (by decide) (by decide) (by omega), h00]; exact hst.1
      · intro q hq
        rw [f42 24 q (by omega) (by omega) (by omega) (by omega), c88 24 q (by omega) (by decide) (by omega) (by decide) (by omega) (by omega), u62 1 q (by omega) (by decide) (by decide) (by omega), h1k]; exact hst.2 q hq
      · unfold zRr at R88 ⊢; rw [r42, r42]; exact R88
    · have v52 : gI τ1 52 0 = -1 := by rw [z1.2 52 0 (by omega) (by omega) (by omega) (by omega) (by omega)]; exact f52
      refine ⟨fun _ => ?_, fun q => absurd v52 q⟩
      refine w_accept (ref _ _ (fun U0 hK hA h2 h00 h1k h5 h14 => ⟨fun k' ek' => absurd (ew.symm.trans ek') (by simp), fun w' ew' υ zu Su => ?_⟩))
      have eww : w' = w := by have := ew.symm.trans ew'; exact (Sum.inr.inj this).symm
      subst eww
      have w240 := o240 w' ew
      refine m_good ⟨rfl, inv_ok (zCo_run (n := n') (M := M) (zCo_mono (zCo_ag zU (agC_rfl s88) hA) (Nat.le_add_right B 240)) z1 zu ?_) (fun q hq => ?_) ?_⟩
      · rw [Su.1, Su.2.1, Su.2.2.1]
        exact dC_mono S1 (by omega)
      · rw [z1.2 24 q (by omega) (by omega) (by omega) (by omega) (by omega), c88 24 q (by omega) (by decide) (by omega) (by decide) (by omega) (by omega), zu.2 1 q (by omega) (by decide) (by decide) (by omega), h1k]; exact hst.2 q hq
      · unfold zRr gR at R88 ⊢; rw [z1.1]; exact R88
