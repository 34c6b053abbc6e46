/-! law: both -/
/-- both have read the tape, well or not -/
theorem zCo_rd {B : Nat} {σc σm τc τm : st_S} (h : zCo B σc σm) (hk : τc.2.2 = σc.2.2) (hR : ∀ c j, c ≠ 56 → gR τc c j = gR σc c j) (hI : ∀ c j, lsC c j → c ≠ 12 → gI τc c j = gI σc c j) (hm : τm.2 = σm.2) (hM : ∀ c j, lsM c j → ¬ (c = 0 ∧ (j = 13 ∨ j = 14)) → gI τm c j = gI σm c j) (t0 : gI τc 12 1 = 0) (m0 : gI τm 0 13 = 0) (hf : gI τc 12 3 = gI τm 0 14) : zCo B τc τm := by
  obtain ⟨h1, h2, h3, h4, h5, h6⟩ := h
  have eK : ∀ c, gK τc c = gK σc c := fun c => by unfold gK; rw [hk]
  have eL : ∀ c, gL τc c = gL σc c := fun c => by unfold gL; rw [hk]
  have big : ∀ c j, 65 ≤ c → gI τc c j = gI σc c j := fun c j q => hI c j (Or.inl q) (by omega)
  refine ⟨?_, ?_, ?_, ?_, ?_, ?_⟩
  · exact zCR_of h1 (fun d j a b => hI d j (by unfold lsC; omega) (by omega)) (fun j => hR _ j (by decide)) (fun d j a _ q b c => ⟨big q j (by omega), eL q⟩) (fun c a b => by rw [eK]; exact b) (fun i => hM 2 i (by unfold lsM; omega) (by omega))
  · obtain ⟨n, a1, m, o, a2, a3, a4, a5, a6, a7⟩ := h2
    refine ⟨n, ?_, m, o, ?_, ?_, a4, ?_, a6, ?_⟩
    · rw [hM 2 256 (by unfold lsM; omega) (by omega)]; exact a1
    · rw [hI 39 0 (by unfold lsC; omega) (by decide)]; exact a2
    · rw [hM 0 28 (by unfold lsM; omega) (by omega)]; exact a3
    · rw [hI 39 1 (by unfold lsC; omega) (by decide)]; exact a5
    · intro i hi
      have e1 : (fun j => gI τc (39 + 1) ((o + i) % 16 * 35 + j)) = (fun j => gI σc (39 + 1) ((o + i) % 16 * 35 + j)) := funext fun j => hI 40 _ (by unfold lsC; omega) (by decide)
      have e2 : (fun j => gI τm 13 (35 * i + j)) = (fun j => gI σm 13 (35 * i + j)) := funext fun j => hM 13 _ (by unfold lsM; omega) (by omega)
      rw [e1, e2]
      exact a7 i hi
  · exact zImg_of h3 hk (fun c j q => hR c j (by omega)) (fun c q j => big c j q) (fun c j q => hM c j (by unfold lsM; omega) (by omega))
  · exact ⟨0, t0, m0, by decide, fun i hi => absurd hi (Nat.not_lt_zero _)⟩
  · intro i hi
    rw [hM 6 i (by unfold lsM; omega) (by omega)]
    exact h5 i hi
  · obtain ⟨⟨n, a1, a2, a3, a4⟩, b1, b2, b3⟩ := h6
    refine ⟨⟨n, ?_, ?_, a3, ?_⟩, ?_, hf, ?_⟩
    · rw [hI 0 12 (by unfold lsC; omega) (by decide)]; exact a1
    · rw [hM 0 50 (by unfold lsM; omega) (by omega)]; exact a2
    · intro k hk
      rw [hI 23 k (by unfold lsC; omega) (by decide), hM 25 k (by unfold lsM; omega) (by omega)]
      exact a4 k hk
    · rw [hI 0 13 (by unfold lsC; omega) (by decide), hM 0 6 (by unfold lsM; omega) (by omega)]; exact b1
    · rw [hI 52 0 (by unfold lsC; omega) (by decide), hM 0 41 (by unfold lsM; omega) (by omega)]; exact b3
theorem cTx_cp {τ s : st_S} {t dl ln : Nat} {ord : Bool} {M : zM} (h : cTx τ 14 ord M) (h6 : gI τ 14 6 = (dl : Int)) (h7 : gI τ 14 7 = (ln : Int)) (g6 : gI s t 6 = (dl : Int)) (g7 : gI s t 7 = (ln : Int)) (L1 : gL s (t + 1) = dl) (I1 : ∀ j, j < dl → gI s (t + 1) j = gI τ 15 j) (Ld : ∀ d, 2 ≤ d → d ≤ 6 → gL s (t + d) = ln ∧ ∀ j, j < ln → gI s (t + d) j = gI τ (14 + d) j) : cTx s t ord M := by
  obtain ⟨c7, c12, len, c6, l400, lgl, ops, opw, cl⟩ := h
  have e1 : M.1 = ln := by have := h7.symm.trans c7; omega
  have e2 : len = dl := by have := h6.symm.trans c6; omega
  subst e2
  have oO : ∀ i, i < len → cO s (t + 1) i = cO τ (14 + 1) i ∧ cD s (t + 1) i = cD τ (14 + 1) i := fun i hi => by unfold cO cD; rw [I1 i hi]; exact ⟨rfl, rfl⟩
  refine ⟨by rw [g7, e1], c12, len, g6, l400, by rw [L1]; exact Nat.le_refl _, fun i hi => by rw [(oO i hi).1]; exact ops i hi, fun e i hi => by rw [(oO i hi).1, (oO i hi).2]; exact opw e i hi, fun j hj => ?_⟩
  have hj' : j < ln := by omega
  obtain ⟨-, -, -, -, -, v1, v2, v3, v4, a, b, e, x1, x2, x3, x4, x5, x6, x7, x8⟩ := cl j hj
  have be : b ≤ e := by
    cases ed : M.2.2.2.1 j with
    | none => have := x7 ed; omega
    | some D => have := (x8 D ed).1; omega
  refine ⟨by rw [(Ld 2 (by decide) (by decide)).1]; exact hj', by rw [(Ld 3 (by decide) (by decide)).1]; exact hj', by rw [(Ld 4 (by decide) (by decide)).1]; exact hj', by rw [(Ld 5 (by decide) (by decide)).1]; exact hj', by rw [(Ld 6 (by decide) (by decide)).1]; exact hj', by rw [(Ld 2 (by decide) (by decide)).2 j hj']; exact v1, v2, by rw [(Ld 6 (by decide) (by decide)).2 j hj']; exact v3, v4, a, b, e, by rw [(Ld 3 (by decide) (by decide)).2 j hj']; exact x1, by rw [(Ld 4 (by decide) (by decide)).2 j hj']; exact x2, by rw [(Ld 5 (by decide) (by decide)).2 j hj']; exact x3, x4, fun w => xDen_cg (fun i _ hi => oO i (by omega)) (x5 w), x6, x7, fun D hD => ⟨(x8 D hD).1, xDen_cg (fun i _ hi => oO i (by omega)) (x8 D hD).2⟩⟩
theorem vl_b (tp : Nat → Int) (n : Nat) : ∀ k, 0 ≤ vlT tp n k ∧ vlT tp n k ≤ 10000009 := fun k => (nm_vl (tp := tp) (n := n) (k := k)).2
theorem inl_inj {j j' : Nat} {o : Nat ⊕ List zCl} (h : o = .inl j) (g : o = .inl j') : j = j' := Sum.inl.inj (h.symm.trans g)
set_option maxHeartbeats 1000000 in
theorem st_law {B : Nat} {σc σm : st_S} (h : zInv B σc σm) (hk : zK1 σc) : wp_X10_law σc (fun r τ => wp_X11_law σm (fun r2 υ => r = r2 ∧ zInv B τ υ)) := by
  have h0 := h
  obtain ⟨⟨hcr, hlog, himg, ⟨n, t1, t2, t3, t4⟩, hwd, hsc⟩, hst, hrr⟩ := h
  have hco := h0.1
  obtain ⟨np, q1, q2, q3, q4, q5, q6, q7, q8, q9, qa, m, b1, b2, b3, b4, b5, b6, b7, b8⟩ := hcr
  have np10 : np ≤ 10 := q1.2.2
  have g65 := gN_65 hk
  unfold wp_X10_law
  rw [b1]
  refine ⟨fun lt => ?_, fun ge => ?_⟩
  · have hb : tpB (gI σc 13) n := fun i hi => ⟨(t4 i hi).1, (t4 i hi).2.1⟩
    have hM : tpM σm (gI σc 13) n := ⟨t3, hb, fun i hi => (t4 i hi).2.2, hwd⟩
    obtain ⟨T, hE⟩ := tkE_ex hb t3
    have hT4 : T ≤ 400 := by have := hE.2.2.1; omega
    have e6 : ¬ gI σm 2 257 = 6 := by
      have : gI σm 2 257 = (m : Int) := b2
      omega
    refine w_read (ord := false) hE t1 (fun i _ => rfl) (fun j τ e z w => ?_) (fun l τ dl e z w3 l12 l1 c7 c6 d4 ck cl => ?_)
    · intro s es
      refine ⟨fun q => absurd rfl q, fun _ => w_refuse 6 (by decide) rfl ⟨fun _ => ?_, fun q => absurd q e6⟩⟩
      refine m_readsAs (ord := false) hM t2 (fun T' hE' => ?_)
      have eT := tkE_uq hE' hE
      subst eT
      refine ⟨fun j' υ e' z' u13 u14 => ⟨fun q => absurd rfl q, fun _ => m_refuses 6 (by decide) rfl ⟨rfl, inv_no (by decide) ⟨zCo_rd hco ?_ ?_ ?_ z'.1 ?_ ?_ u13 ?_, ⟨?_, ?_⟩, ?_⟩⟩⟩, fun l' υ e' => absurd (e.symm.trans e') (by simp)⟩
      · rw [es]; show τ.2.2 = _; rw [z.1]
      · intro c j _; rw [es]; show gR τ c j = _; unfold gR; rw [z.1]
      · intro c j hls h12; rw [es, gI_sI, if_neg (by omega)]; exact z.2 c j (by omega) (by unfold lsC at hls; omega)
      · intro c j hls hn; exact z'.2 c j (by unfold lsM at hls; omega) (by unfold lsM at hls; omega) (by unfold lsM at hls; omega) (by unfold lsM at hls; omega)
      · rw [es, gI_sI, if_pos ⟨rfl, rfl⟩]
      · rw [es, gI_sI, if_neg (by omega), w, u14, inl_inj e e']
      · rw [es, gI_sI, if_neg (by omega), z.2 _ _ (by omega) (by omega), z'.2 _ _ (by omega) (by decide) (by decide) (by decide)]; exact hst.1
      · intro k hk'
        rw [es, gI_sI, if_neg (by omega), z.2 _ _ (by omega) (by omega), z'.2 _ _ (by omega) (by decide) (by decide) (by decide)]; exact hst.2 k hk'
      · unfold zRr gR at hrr ⊢; rw [es]; show _ ∨ _; rw [show (sI τ 12 1 0).2 = σc.2 from z.1]; exact hrr
    · intro s32 e32
      refine ⟨fun _ => ?_, fun q => absurd q (by decide)⟩
      have s2 : s32.2 = σc.2 := by rw [e32]; exact z.1
      have kS : ∀ c, gK s32 c = gK σc c := fun c => by unfold gK; rw [s2]
      have lS : ∀ c, gL s32 c = gL σc c := fun c => by unfold gL; rw [s2]
      have rS : ∀ c j, gR s32 c j = gR σc c j := fun c j => by unfold gR; rw [s2]
      have nS : gN s32 = gN σc := by unfold gN; rw [s2]
      have iS : ∀ c j, ¬ (c = 12) → ¬ (14 ≤ c ∧ c ≤ 20) → gI s32 c j = gI σc c j := fun c j a b => by rw [e32, gI_sI, if_neg (by omega)]; exact z.2 c j (by omega) b
      have iT : ∀ c j, c ≠ 12 → gI s32 c j = gI τ c j := fun c j a => by rw [e32, gI_sI, if_neg (by omega)]
      intro t s35 et e35
      have k1520 : ∀ d, 15 ≤ d → d ≤ 20 → gK s32 d = 0 ∧ gL s32 d = (if d = 15 then 400 else 12) := by
        intro d a b
        rw [kS, lS]
        rcases (by omega : d = 15 ∨ d = 16 ∨ d = 17 ∨ d = 18 ∨ d = 19 ∨ d = 20) with w | w | w | w | w | w <;> subst w
        · exact zK1_at hk 15 0 400 rfl
        · exact zK1_at hk 16 0 12 rfl
        · exact zK1_at hk 17 0 12 rfl
        · exact zK1_at hk 18 0 12 rfl
        · exact zK1_at hk 19 0 12 rfl
        · exact zK1_at hk 20 0 12 rfl
      have t65 : 65 ≤ t := by rw [et, nS]; exact g65
      refine w_newT (dl := dl) (ln := l.length) et t65 e35 (by rw [kS]; exact (zK1_at hk 14 25 0 rfl).1) k1520 (by rw [iT _ _ (by decide)]; exact c6) (by rw [iT _ _ (by decide)]; exact c7) d4 l12 (fun s hs => ?_)
      obtain ⟨n1, n2, n3, n4, n5, n6⟩ := hs
      refine ⟨⟨n4, fun j c hj => ?_, fun j q hj hq => ?_⟩, ?_, ?_⟩
      · obtain ⟨j1, j2⟩ := sr9 hj
        have := (n6 (j + 1) (by omega) (by omega)).2.2.1
        rw [Nat.add_sub_cancel] at this
        rw [j2]; exact this
      · obtain ⟨j1, j2⟩ := sb9v hj hq
        subst j2
        exact ⟨(n6 j (by omega) (by omega)).1, fun L hL => absurd hL (by simp)⟩
      · exact List.getElem?_eq_none (by show 65 ≤ t; omega)
      · intro s37 e37
        have kk : ∀ c, gK s37 c = if c = t then 25 else gK s c := fun c => by rw [e37]; exact gK_sK s t 25 c
        have em : gI s32 25 10 = (m : Int) := by rw [iS _ _ (by decide) (by omega)]; exact b1
        rw [em, Int.toNat_natCast]
        refine ⟨ixn (by omega), by rw [kk, if_pos rfl], ?_⟩
        intro s40 e40 x ex s45 e45
        have i40 : ∀ c j, gI s40 c j = gI s c j := fun c j => by rw [e40, e37]; rfl
        have em2 : gI s40 25 10 = (m : Int) := by rw [i40, (n2 25 10 (by omega)).1]; exact em
        rw [em2, wks (by omega)] at ex
        have em3 : gI s45 25 10 = ((m + 1 : Nat) : Int) := by rw [e45, ex, gI_sI, if_pos ⟨rfl, rfl⟩]
        rw [em3, show (((m + 1 : Nat) : Int) - 1) = (m : Int) by omega, wr_n (by omega)]
        refine w_accept ⟨fun _ => ?_, fun q => absurd q e6⟩
        refine m_readsAs (ord := false) hM t2 (fun T' hE' => ?_)
        have eT := tkE_uq hE' hE
        subst eT
        refine ⟨fun j' υ e' => absurd (e.symm.trans e') (by simp), fun l' υ e' z' u13 u14 u18 utk => ⟨fun _ => ?_, fun q => absurd q (by decide)⟩⟩
        have u257 : gI υ 2 257 = (m : Int) := by rw [z'.2 _ _ (by omega) (by decide) (by decide) (by decide)]; exact b2
        rw [u257]
        refine m_lays (t := m) (cf := cdT (gI σc 13) n) (vf := vlT (gI σc 13) n) (by omega) hT4 u18 (fun k hk' => ⟨(utk k (by omega)).1, (utk k (by omega)).2.1⟩) (fun υ2 w1 w2 w3' w4 w5 => ?_)
        intro y ey υ3 e3
        have u257b : gI υ2 2 257 = (m : Int) := by rw [w5 _ (by omega) (by omega) (by omega)]; exact u257
        rw [u257b, wks (by omega)] at ey
        have u257c : gI υ3 2 257 = ((m + 1 : Nat) : Int) := by rw [e3, ey, gI_sI, if_pos ⟨rfl, rfl⟩]
        rw [u257c, show (((m + 1 : Nat) : Int) - 1) = (m : Int) by omega, wr_n (by omega)]
        refine m_good ⟨rfl, ?_⟩
        -- the stores as they are now
        have K3 : ∀ i, i ≠ 257 → i ≠ 259 + m → ¬ (266 + 400 * m ≤ i ∧ i < 266 + 400 * m + T') → ¬ (3066 + 400 * m ≤ i ∧ i < 3066 + 400 * m + T') → gI υ3 2 i = gI σm 2 i := fun i a1 a2 a3 a4 => by rw [e3, gI_sI, if_neg (by omega), w5 i a2 a3 a4, z'.2 _ _ (by omega) (by decide) (by decide) (by decide)]
        have M3 : ∀ c j, lsM c j → c ≠ 2 → ¬ (c = 0 ∧ (j = 13 ∨ j = 14)) → gI υ3 c j = gI σm c j := fun c j a1 a2 a3 => by rw [e3, gI_sI, if_neg (by omega), w2 c j a2]; exact z'.2 c j (by unfold lsM at a1; omega) (by unfold lsM at a1; omega) (by unfold lsM at a1; omega) (by unfold lsM at a1; omega)
        have I45 : ∀ c j, c < t → c ≠ 12 → ¬ (14 ≤ c ∧ c ≤ 20) → ¬ (c = 25 ∧ j = 10) → gI s45 c j = gI σc c j := fun c j a1 a2 a3 a4 => by rw [e45, gI_sI, if_neg a4, i40, (n2 c j a1).1]; exact iS c j a2 a3
        have In : ∀ c j, t ≤ c → gI s45 c j = gI s c j := fun c j a => by rw [e45, gI_sI, if_neg (by omega), i40]
        have R45 : ∀ c j, c < t → ¬ (c = 34 ∧ j = m) → gR s45 c j = gR σc c j := fun c j a1 a2 => by
          rw [e45]; show gR s40 c j = _; rw [e40, gR_sR, if_neg a2, e37]; show gR s c j = _; rw [(n2 c j a1).2]; exact rS c j
        have R34 : gR s45 34 m = some t := by rw [e45]; show gR s40 34 m = _; rw [e40, gR_sR, if_pos ⟨rfl, rfl⟩]
        have K45 : ∀ c, gK s45 c = if c = t then 25 else gK s c := fun c => by rw [e45]; show gK s40 c = _; rw [e40]; exact kk c
        have Ko : ∀ c, c < t → gK s45 c = gK σc c := fun c a => by rw [K45, if_neg (by omega), (n3 c (Or.inl a)).1]; exact kS c
        have L45 : ∀ c, gL s45 c = gL s c := fun c => by rw [e45, e40, e37]; rfl
        have Lo : ∀ c, c < t → gL s45 c = gL σc c := fun c a => by rw [L45, (n3 c (Or.inl a)).2]; exact lS c
        have tN : t = gN σc := by rw [et, nS]
        have txt : ∀ c, 65 ≤ c → gK σc c = 25 → c + 6 < t := fun c a b => by
          have := (hk.2.2 c 9 6 (0, none) (by decide) b rfl).1
          rw [tN]; exact lt_gN hk (by rw [this]; decide)
        have cst : ∀ c, 65 ≤ c → gK σc c = 17 → c + 9 < t := fun c a b => by
          have := (hk.2.2 c 1 9 (4, some 6) (by decide) b rfl).1
          rw [tN]; exact lt_gN hk (by rw [this]; decide)
        have oldT : ∀ d j, 65 ≤ d → gK σc d = 25 → ∀ q, d ≤ q → q ≤ d + 6 → gI s45 q j = gI σc q j ∧ gL s45 q = gL σc q := fun d j a b q c1 c2 => ⟨I45 q j (by have := txt d a b; omega) (by omega) (by omega) (by omega), Lo q (by have := txt d a b; omega)⟩
        have oldK : ∀ c, 65 ≤ c → gK σc c = 25 → gK s45 c = 25 := fun c a b => by rw [Ko c (by have := txt c a b; omega)]; exact b
        have new : cTx s45 t false (txM l) := by
          refine cTx_cp (dl := dl) (ln := l.length) (cTx_of_read ?_ l12 c7 c6 d4 ck cl) c6 c7 (by rw [In _ _ (Nat.le_refl _)]; exact n5.1) (by rw [In _ _ (Nat.le_refl _)]; exact n5.2) (by rw [L45]; have := (n6 1 (by decide) (by decide)).2.1; rw [if_pos rfl] at this; exact this) (fun j hj => ?_) (fun d d1 d2 => ⟨?_, fun j hj => ?_⟩)
          · have eL : ∀ c, gL τ c = gL σc c := fun c => by unfold gL; rw [z.1]
            refine ⟨by rw [eL]; exact (zK1_at hk 15 0 400 rfl).2, fun d a b => ?_⟩
            have := (k1520 d (by omega) b).2
            rw [lS, if_neg (by omega)] at this
            rw [eL]; exact this
          · rw [In _ _ (by omega)]
            have := (n6 1 (by decide) (by decide)).2.2.2 j (by rw [if_pos rfl]; exact hj)
            rw [this, iT _ _ (by decide)]
          · rw [L45]
            have := (n6 d (by omega) (by omega)).2.1
            rw [if_neg (by omega)] at this
            exact this
          · rw [In _ _ (by omega)]
            have := (n6 d (by omega) (by omega)).2.2.2 j (by rw [if_neg (by omega)]; exact hj)
            rw [this, iT _ _ (by omega)]
        have mt : mTx false (cdT (gI σc 13) n) (vlT (gI σc 13) n) T' (txM l) := t_mtx (cf_T hE) hT4 (vl_b _ _) e
        refine inv_ok ⟨?_, ?_, ?_, ?_, ?_, ?_⟩ (fun k hk' => ?_) ?_
        · refine ⟨np, ?_, ?_, ?_, ?_, ?_, ?_, ?_, ?_, ?_, ?_, m + 1, em3, u257c, by omega, ?_, ?_, ?_, fun i c hc => ?_, fun i hi => ?_⟩
          · exact zC1_of q1 (I45 _ _ (by omega) (by decide) (by omega) (by omega)) (K3 _ (by omega) (by omega) (by omega) (by omega))
          · exact zC2_of q2 (fun p _ => I45 _ _ (by omega) (by decide) (by omega) (by omega)) (fun i a b => K3 _ (by omega) (by omega) (by omega) (by omega))
          · exact zC3_of q3 (fun p _ => I45 _ _ (by omega) (by decide) (by omega) (by omega)) (fun i a b => K3 _ (by omega) (by omega) (by omega) (by omega))
          · exact zC4_of q4 (fun p _ => I45 _ _ (by omega) (by decide) (by omega) (by omega)) (fun i a b => K3 _ (by omega) (by omega) (by omega) (by omega))
          · exact zC5_of q5 (fun p _ => I45 _ _ (by omega) (by decide) (by omega) (by omega)) (fun i a => K3 _ (by omega) (by omega) (by omega) (by omega))
          · exact zC6_of q6 (fun p _ => I45 _ _ (by omega) (by decide) (by omega) (by omega)) (fun i a => K3 _ (by omega) (by omega) (by omega) (by omega)) (fun i a b => K3 _ (by omega) (by omega) (by omega) (by omega))
          · exact zC7_of q7 (fun p _ => I45 _ _ (by omega) (by decide) (by omega) (by omega)) (fun i a b => K3 _ (by omega) (by omega) (by omega) (by omega))
          · exact zC8_of q8 (fun p => I45 _ _ (by omega) (by decide) (by omega) (by omega)) (fun i a b => K3 _ (by omega) (by omega) (by omega) (by omega))
          · exact zC9_of q9 (fun p => I45 _ _ (by omega) (by decide) (by omega) (by omega)) (fun i a => K3 _ (by omega) (by omega) (by omega) (by omega))
          · unfold zCa at qa ⊢
            rw [I45 _ _ (by omega) (by decide) (by omega) (by omega), I45 _ _ (by omega) (by decide) (by omega) (by omega), I45 _ _ (by omega) (by decide) (by omega) (by omega), K3 30 (by omega) (by omega) (by omega) (by omega), K3 31 (by omega) (by omega) (by omega) (by omega), K3 32 (by omega) (by omega) (by omega) (by omega)]
            exact qa
          · rw [I45 _ _ (by omega) (by decide) (by omega) (by omega), K3 258 (by omega) (by omega) (by omega) (by omega)]; exact b4
          · rw [K3 258 (by omega) (by omega) (by omega) (by omega)]; exact b5
          · rw [K3 258 (by omega) (by omega) (by omega) (by omega)]; omega
          · by_cases ei : i = m
            · subst ei
              have hc2 : gR s45 34 i = some c := hc
              rw [R34] at hc2
              cases Option.some.inj hc2
              exact ⟨t65, by rw [K45, if_pos rfl]⟩
            · have hc2 : gR s45 34 i = some c := hc
              rw [R45 34 i (by omega) (fun w => ei w.2)] at hc2
              have := b7 i c hc2
              exact ⟨this.1, oldK c this.1 this.2⟩
          · by_cases ei : i = m
            · subst ei
              refine ⟨t, txM l, R34, new, T', by rw [e3, gI_sI, if_neg (by omega)]; exact w3', hT4, ?_⟩
              refine mTx_cg (fun j hj => ⟨?_, ?_⟩) mt
              · show gI υ3 2 (266 + 400 * i + j) = _
                rw [e3, gI_sI, if_neg (by omega)]; exact (w4 j hj).1
              · show gI υ3 2 (3066 + 400 * i + j) = _
                rw [e3, gI_sI, if_neg (by omega)]; exact (w4 j hj).2
            · obtain ⟨c, M, d1, d2, sz, d3, d4', d5⟩ := b8 i (by omega)
              have d6 := b7 i c d1
              have d1' : gR σc 34 i = some c := d1
              refine ⟨c, M, by show gR s45 34 i = _; rw [R45 34 i (by omega) (fun w => ei w.2)]; exact d1', cTx_of d2 (fun d j a b => (oldT c j d6.1 d6.2 d a b).1) (fun d a b => (oldT c 0 d6.1 d6.2 d a b).2), sz, by rw [K3 _ (by omega) (by omega) (by omega) (by omega)]; exact d3, d4', mTx_cg (fun j hj => ⟨K3 _ (by omega) (by omega) (by omega) (by omega), K3 _ (by omega) (by omega) (by omega) (by omega)⟩) d5⟩
        · obtain ⟨n', a1, m', o, a2, a3, a4, a5, a6, a7⟩ := hlog
          refine ⟨n', by rw [K3 256 (by omega) (by omega) (by omega) (by omega)]; exact a1, m', o, by rw [I45 _ _ (by omega) (by decide) (by omega) (by omega)]; exact a2, by rw [M3 0 28 (by unfold lsM; omega) (by decide) (by omega)]; exact a3, a4, by rw [I45 _ _ (by omega) (by decide) (by omega) (by omega)]; exact a5, a6, fun i hi => ?_⟩
          have e1 : (fun j => gI s45 (39 + 1) ((o + i) % 16 * 35 + j)) = (fun j => gI σc (39 + 1) ((o + i) % 16 * 35 + j)) := funext fun j => I45 _ _ (by omega) (by decide) (by omega) (by omega)
          have e2 : (fun j => gI υ3 13 (35 * i + j)) = (fun j => gI σm 13 (35 * i + j)) := funext fun j => M3 13 _ (by unfold lsM; omega) (by decide) (by omega)
          rw [e1, e2]
          exact a7 i hi
        · have im : ∀ k, zIm B σc σm k → zIm B s45 υ3 k := by
            intro k q
            rcases q with ⟨p1, p2⟩ | ⟨p1, c, p2, p3, p4, p5⟩
            · exact Or.inl ⟨by rw [M3 4 k (by unfold lsM; omega) (by decide) (by omega)]; exact p1, by rw [R45 11 k (by omega) (by omega)]; exact p2⟩
            · have c9 := cst c p3 p4
              refine Or.inr ⟨by rw [M3 4 k (by unfold lsM; omega) (by decide) (by omega)]; exact p1, c, by rw [R45 11 k (by omega) (by omega)]; exact p2, p3, by rw [Ko c (by omega)]; exact p4, ?_⟩
              exact zCR_of p5 (fun d j a b => I45 d j (by omega) (by omega) (by omega) (by omega)) (fun j => R45 _ _ (by omega) (by omega)) oldT oldK (fun i => M3 3 _ (by unfold lsM; omega) (by decide) (by omega))
          refine ⟨im 0 himg.1, im 1 himg.2.1, ?_⟩
          rw [R45 11 0 (by omega) (by omega), R45 11 1 (by omega) (by omega)]
          exact himg.2.2
        · refine ⟨0, ?_, ?_, by decide, fun i hi => absurd hi (Nat.not_lt_zero _)⟩
          · rw [e45, gI_sI, if_neg (by omega), i40, (n2 _ _ (by omega)).1, e32, gI_sI, if_pos ⟨rfl, rfl⟩]; rfl
          · rw [e3, gI_sI, if_neg (by omega), w2 _ _ (by decide), u13]; rfl
        · intro i hi
          rw [M3 6 i (by unfold lsM; omega) (by decide) (by omega)]
          exact hwd i hi
        · obtain ⟨⟨n', a1, a2, a3, a4⟩, p1, p2, p3⟩ := hsc
          refine ⟨⟨n', by rw [I45 _ _ (by omega) (by decide) (by omega) (by omega)]; exact a1, by rw [M3 0 50 (by unfold lsM; omega) (by decide) (by omega)]; exact a2, a3, fun k hk' => by rw [I45 _ _ (by omega) (by decide) (by omega) (by omega), M3 25 k (by unfold lsM; omega) (by decide) (by omega)]; exact a4 k hk'⟩, by rw [I45 _ _ (by omega) (by decide) (by omega) (by omega), M3 0 6 (by unfold lsM; omega) (by decide) (by omega)]; exact p1, ?_, by rw [I45 _ _ (by omega) (by decide) (by omega) (by omega), M3 0 41 (by unfold lsM; omega) (by decide) (by omega)]; exact p3⟩
          rw [e45, gI_sI, if_neg (by omega), i40, (n2 _ _ (by omega)).1, e32, gI_sI, if_neg (by omega), w3, e3, gI_sI, if_neg (by omega), w2 _ _ (by decide), u14]
        · rw [I45 _ _ (by omega) (by decide) (by omega) (by omega), e3, gI_sI, if_neg (by omega), w2 _ _ (by decide), z'.2 _ _ (by omega) (by decide) (by decide) (by decide)]
          exact hst.2 k hk'
        · unfold zRr at hrr ⊢
          rw [R45 56 8 (by omega) (by omega), R45 56 9 (by omega) (by omega)]
          exact hrr
  · have e6 : gI σm 2 257 = 6 := by
      have : gI σm 2 257 = (m : Int) := b2
      omega
    intro s es
    refine w_refuse 5 (by decide) rfl ⟨fun q => absurd e6 q, fun _ => ?_⟩
    intro s' es'
    refine m_refuses 5 (by decide) rfl ⟨rfl, inv_no (by decide) ⟨zCo_rd hco (by rw [es]; rfl) (fun c j _ => by rw [es]; rfl) (fun c j _ q => by rw [es, gI_sI, if_neg (by omega)]) (by rw [es']; rfl) (fun c j _ q => by rw [es', gI_sI, if_neg (by omega)]) (by rw [es, gI_sI, if_pos ⟨rfl, rfl⟩]) (by rw [es', gI_sI, if_pos ⟨rfl, rfl⟩]) ?_, ⟨?_, ?_⟩, ?_⟩⟩
    · rw [es, gI_sI, if_neg (by omega), es', gI_sI, if_neg (by omega)]; exact hsc.2.2.1
    · rw [es, gI_sI, if_neg (by omega), es', gI_sI, if_neg (by omega)]; exact hst.1
    · intro k hk'
      rw [es, gI_sI, if_neg (by omega), es', gI_sI, if_neg (by omega)]; exact hst.2 k hk'
    · rw [es]; exact hrr
