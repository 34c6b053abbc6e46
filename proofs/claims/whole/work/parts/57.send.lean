/-! send, dark -/
theorem dC_start {B : Nat} {σc σm : st_S} (h : zCo B σc σm) (hk : zK1 σc) (hz : zcn (gI σm 2 32)) : ∃ (n : Nat) (M : zM) (m : Nat), dC B σc (gI σm 2) (gI σm 13) (m : Int) n M ∧ kOk (gI σm 2) n M ∧ gI σm 0 28 = (m : Int) ∧ m ≤ 16 := by
  obtain ⟨n, M, hx, hm⟩ := zCR_M h.1 hk
  obtain ⟨n', c1, c2, c3, c4, c5, c6, c7, c8, c9, ca, cb⟩ := h.1
  obtain ⟨n2, l1, m, o, l2, l3, l4, l5, l6, l7⟩ := h.2.1
  have e1 := hx.1.2.1
  have hn2 : n2 = n := by omega
  subst hn2
  have hd : dC B σc (gI σm 2) (gI σm 13) (m : Int) n2 M := ⟨hx, ca, ⟨m, o, l2, rfl, l4, l5, l6, l7⟩, hz⟩
  exact ⟨n2, M, m, hd, kOk_of hd hm.2, l3, l4⟩
/-- the core behind a deed of both -/
theorem zCo_deed {B : Nat} {σc σm τ υ : st_S} {n : Nat} {M : zM} (h : zCo B σc σm) (hf : dF σc τ) (hg : dM σm υ) (hd : dC B τ (gI υ 2) (gI υ 13) (gI υ 0 28) n M) : zCo B τ υ := by
  obtain ⟨⟨n', c1, c2, c3, c4, c5, c6, c7, c8, c9, ca, cb⟩, hlog, himg, htp, hwd, hsc⟩ := h
  obtain ⟨⟨d1, d2, d3, d4, d5, d6, d7, d8, d9, df, dj⟩, da, dl, dz⟩ := hd
  have e22 : τ.2.2 = σc.2.2 := by rw [hf.1]
  have eR : ∀ c j, gR τ c j = gR σc c j := fun c j => by unfold gR; rw [hf.1]
  have hb : -1 ≤ gI σm 2 258 ∧ gI σm 2 258 < gI σm 2 257 ∧ gI σc 25 11 = gI σm 2 258 := by
    obtain ⟨m, b1, b2, b3, b4, b5, b6, -⟩ := cb
    omega
  have k258 : gI υ 2 258 = gI σm 2 258 := hg.2 _ _ (by omega) (by decide) (by decide) (by omega)
  refine ⟨⟨n, d1, d2, d3, d4, d5, d6, d7, d8, d9, da, ?_⟩, ⟨n, d1.2.1, dl⟩, ?_, ?_, ?_, ?_⟩
  · refine zCb_of cb (hf.2 _ _ (by omega) (by omega) (by omega) (by omega)) ⟨?_, ?_, ?_⟩ (fun j => eR _ _) (fun d hd j => hf.2 _ _ (by omega) (by omega) (by omega) (by omega)) e22 (fun i hi => hg.2 _ _ (by omega) (by decide) (by decide) (by omega))
    · rw [hf.2 _ _ (by omega) (by omega) (by omega) (by omega), k258]; exact hb.2.2
    · rw [k258]; exact hb.1
    · rw [k258]; exact hb.2.1
  · exact zImg_of himg e22 (fun c j _ => eR c j) (fun c hc j => hf.2 _ _ (by omega) (by omega) (by omega) (by omega)) (fun c j hc => hg.2 _ _ (by omega) (by omega) (by omega) (by omega))
  · exact zTp_of htp (fun c j hc => hf.2 _ _ (by omega) (by omega) (by omega) (by omega)) (fun c j hc => hg.2 _ _ (by omega) (by omega) (by omega) (by omega))
  · exact zWd_of hwd (fun j => hg.2 _ _ (by omega) (by decide) (by decide) (by omega))
  · exact zSc_of hsc (fun c j hc => hf.2 _ _ (by omega) (by omega) (by omega) (by omega)) (fun c j hc => hg.2 _ _ (by omega) (by omega) (by omega) (by omega))
theorem inv_deed {B : Nat} {σc σm τ υ : st_S} {n : Nat} {M : zM} (h : zInv B σc σm) (hf : dF σc τ) (hg : dM σm υ) (hd : dC B τ (gI υ 2) (gI υ 13) (gI υ 0 28) n M) : zInv B (sI τ 0 14 0) (sI υ 0 0 0) := by
  refine inv_ok (zCo_deed h.1 hf hg hd) (fun k hk => ?_) ?_
  · rw [hf.2 _ _ (by omega) (by omega) (by omega) (by omega), hg.2 _ _ (by omega) (by decide) (by decide) (by omega)]
    exact h.2.1.2 k hk
  · unfold zRr gR
    rw [hf.1]
    exact h.2.2
theorem w_told {r : Int} {σ : st_S} {Q : Int → st_S → Prop} (h1 : 0 ≤ r → Q r (sI σ 0 14 0)) (h0 : ∀ k : Nat, k < 7 → r = -(k : Int) → ¬ 0 ≤ r → Q r (sI (sI σ 0 14 r) 24 k (wr (gI σ 24 k + 1)))) (hr : 0 ≤ r ∨ r = -1 ∨ r = -2 ∨ r = -3) : wp_X10_told r σ Q := by
  refine ⟨fun q => w_accept (h1 q), fun q => ?_⟩
  rcases hr with e | e | e | e
  · exact absurd e q
  · exact w_refuse 1 (by decide) e (h0 1 (by decide) e q)
  · exact w_refuse 2 (by decide) e (h0 2 (by decide) e q)
  · exact w_refuse 3 (by decide) e (h0 3 (by decide) e q)
theorem m_goodOr {r : Int} {σ : st_S} {Q : Int → st_S → Prop} (h1 : 0 ≤ r → Q r (sI σ 0 0 0)) (h0 : ∀ k : Nat, k < 7 → r = -(k : Int) → ¬ 0 ≤ r → Q r (sI (sI σ 0 0 r) 1 k (wr (gI σ 1 k + 1)))) (hr : 0 ≤ r ∨ r = -1 ∨ r = -2 ∨ r = -3) : wp_X11_goodOr r σ Q := by
  refine ⟨fun q => m_good (h1 q), fun q => ?_⟩
  rcases hr with e | e | e | e
  · exact absurd e q
  · exact m_refuses 1 (by decide) e (h0 1 (by decide) e q)
  · exact m_refuses 2 (by decide) e (h0 2 (by decide) e q)
  · exact m_refuses 3 (by decide) e (h0 3 (by decide) e q)
theorem kpM_dM {σ υ : st_S} {m : Nat} {k : Int} (h : kpM σ υ m k) : dM σ υ := ⟨h.1, fun c j a b d e => h.2.1 c j d (by omega)⟩
theorem kpM_K {σ υ : st_S} {m : Nat} {k : Int} (h : kpM σ υ m k) : gI υ 2 = gI σ 2 := funext fun j => h.2.1 2 j (by decide) (by omega)
theorem kpM_L {σ υ : st_S} {m : Nat} {k : Int} (h : kpM σ υ m k) : gI υ 13 = kpF (gI σ 2) (gI σ 13) m k := funext fun j => h.2.2.2 j
/-- behind a deed of the reference that was kept -/
def dMk (σ υ : st_S) (m : Nat) (k : Int) (K' : Nat → Int) : Prop := dM σ υ ∧ gI υ 2 = K' ∧ gI υ 13 = kpF (gI σ 2) (gI σ 13) m k ∧ gI υ 0 28 = ((kpm m + 1 : Nat) : Int)
theorem m_sendsKept {σ : st_S} {m n : Nat} {M : zM} {a : Int} {Q : Int → st_S → Prop} (h : kOk (gI σ 2) n M) (hm : gI σ 0 28 = (m : Int)) (hm2 : m ≤ 16) (h2 : ¬ (0 ≤ a ∧ a < (n : Int)) → Q (-2) σ) (h3 : ∀ p : Nat, a = (p : Int) → p < n → ¬ gI σ 2 p = 0 → Q (-3) σ)
    (h1 : ∀ p : Nat, a = (p : Int) → p < n → gI σ 2 p = 0 → ∀ υ, dMk σ υ m 0 (sdK M (gI σ 2) p) → Q (cosV M (gI σ 2) p) υ) : wp_X11_sendsKept a σ Q := by
  have hx := h.1.choose_spec.1
  have hn := kOk_n h
  have h256 := hx.1.2.1
  refine m_isPerson hn h256 (fun hp => ⟨fun _ => ?_, fun z => absurd z (by decide)⟩) (fun hp => ⟨fun z => absurd rfl z, fun _ => h2 hp⟩)
  obtain ⟨p, rfl⟩ : ∃ p : Nat, a = (p : Int) := ⟨a.toNat, by omega⟩
  have hpn : p < n := by omega
  rw [wk0 (by omega)]
  refine ⟨ixn (by omega), fun z => ?_, fun z => h3 p rfl hpn z⟩
  replace z : gI σ 2 p = 0 := z
  refine m_keeps hm hm2 (fun υ1 k1 => ?_)
  have K1 := kpM_K k1
  have c1 : cxM υ1 n M := cxM_of (kOk_x h) K1
  refine m_costsNow c1 hpn (fun υ2 n2 => m_takesNow (cxM_of c1 (zN_K n2)) hpn (fun υ3 n3 => ?_))
  have K3 : gI υ3 2 = gI σ 2 := by rw [zN_K n3, zN_K n2, K1]
  rw [zN_K n2, K1]
  have L3 : gI υ3 13 = kpF (gI σ 2) (gI σ 13) m 0 := by rw [(sLg_N n3).2, (sLg_N n2).2, kpM_L k1]
  have M3 : gI υ3 0 28 = ((kpm m + 1 : Nat) : Int) := by rw [(sLg_N n3).1, (sLg_N n2).1, k1.2.2.1]
  have F3 : dM σ υ3 := dM_tr (kpM_dM k1) (dM_tr (dM_N n2) (dM_N n3))
  have tr := tak_r hx hpn
  have h9 := hx.2.2.2.2.2.2.2.2.1
  unfold zC9 at h9
  have h933 := h9.1.2
  intro x ex
  rw [K3] at ex
  intro s es
  subst es
  have fin : ∀ v : Int, (v = 2 ∧ takV M (gI σ 2) p = 0) ∨ (v = 1 ∧ ¬ takV M (gI σ 2) p = 0) → B_X11_sendsKept_69 Q (p : Int) (cosV M (gI σ 2) p) (takV M (gI σ 2) p) v (0 + (p : Int)) (sI υ3 2 32 x) := by
    intro v hv
    unfold B_X11_sendsKept_69
    rw [wk0 (by omega)]
    refine ⟨ixn (by omega), ?_⟩
    intro s1 e1
    rw [Int.toNat_natCast] at e1
    have K33 : gI s1 2 33 = gI σ 2 33 := by rw [e1, kup_sI, kup_n (by omega), kup_sI, kup_n (by omega), K3]
    have f95 : ∀ y : Int, y = (if takV M (gI σ 2) p = 0 then -1 else gI σ 2 33 + takV M (gI σ 2) p) → B_X11_sendsKept_95 Q (cosV M (gI σ 2) p) y (10 + (p : Int)) s1 := by
      intro y ey
      unfold B_X11_sendsKept_95
      rw [wk10 (by omega)]
      refine ⟨ixn (by omega), ?_⟩
      intro s2 e2
      rw [Int.toNat_natCast] at e2
      subst e2
      subst e1
      refine h1 p rfl hpn z _ ⟨dM_tr F3 (dM_tr (dM_sI (by omega)) (dM_tr (dM_sI (by omega)) (dM_sI (by omega)))), ?_, L3, M3⟩
      rw [kup_sI, kup_sI, kup_sI, K3, ey, ex]
      unfold sdK
      rcases hv with ⟨rfl, hv⟩ | ⟨rfl, hv⟩
      · rw [if_pos hv, if_pos hv]
      · rw [if_neg hv, if_neg hv]
    refine ⟨fun q => ?_, fun q => f95 (-1) (by rw [if_pos q])⟩
    intro y ey
    rw [K33, wr_id (by omega) (by omega)] at ey
    exact f95 y (by rw [if_neg q]; exact ey)
  exact ⟨fun q => fin 1 (Or.inr ⟨rfl, q⟩), fun q => fin 2 (Or.inl ⟨rfl, q⟩)⟩
theorem inv_no2 {B : Nat} {σc σm : st_S} {k : Nat} {r : Int} (hk : k < 7) (h : zInv B σc σm) : zInv B (sI (sI σc 0 14 r) 24 k (wr (gI σc 24 k + 1))) (sI (sI σm 0 0 r) 1 k (wr (gI σm 1 k + 1))) := inv_no hk h
theorem st_send {B : Nat} {σc σm : st_S} (h : zInv B σc σm) (hk : zK1 σc) (hz : zcn (gI σm 2 32)) (a1 : Int) : wp_X10_send a1 σc (fun r τ => wp_X11_send a1 σm (fun r2 υ => r = r2 ∧ zInv B τ υ)) := by
  obtain ⟨n, M, m, hd, hK, hm, hm2⟩ := dC_start h.1 hk hz
  refine w_summon hd (fun q => ?_) (fun p ep hp q => ?_) (fun p ep hp q τ hf hdt => ?_)
  · refine w_told (fun z => absurd z (by decide)) (fun k hk2 e _ => ?_) (by omega)
    refine m_sendsKept hK hm hm2 (fun _ => ?_) (fun p ep hp _ => absurd (by omega) q) (fun p ep hp _ => absurd (by omega) q)
    refine m_goodOr (fun z => absurd z (by decide)) (fun k2 hk3 e2 _ => ?_) (by omega)
    obtain rfl : k = k2 := by omega
    exact ⟨rfl, inv_no hk2 h⟩
  · refine w_told (fun z => absurd z (by decide)) (fun k hk2 e _ => ?_) (by omega)
    refine m_sendsKept hK hm hm2 (fun z => absurd (by omega) z) (fun p' ep' hp' _ => ?_) (fun p' ep' hp' z => absurd z (by rw [show p' = p by omega]; exact q))
    refine m_goodOr (fun z => absurd z (by decide)) (fun k2 hk3 e2 _ => ?_) (by omega)
    obtain rfl : k = k2 := by omega
    exact ⟨rfl, inv_no hk2 h⟩
  · have cr := cos_r hd.1 hp
    refine w_told (fun _ => ?_) (fun k hk2 e z => absurd cr.1 z) (Or.inl cr.1)
    refine m_sendsKept hK hm hm2 (fun z => absurd (by omega) z) (fun p' ep' hp' z => absurd (by rw [show p' = p by omega]; exact q) z) (fun p' ep' hp' _ υ hu => ?_)
    have epp : p' = p := by omega
    subst epp
    refine m_goodOr (fun _ => ⟨rfl, ?_⟩) (fun k hk2 e z => absurd cr.1 z) (Or.inl cr.1)
    obtain ⟨u1, u2, u3, u4⟩ := hu
    exact inv_deed h hf u1 (by rw [u2, u3, u4]; exact hdt)
/-- a dark night -/
def dkK (M : zM) (K : Nat → Int) (n : Nat) : Nat → Int := pnK M (kup K 31 (K 31 + 1)) n
theorem w_idle {B : Nat} {σ : st_S} {K L : Nat → Int} {m n : Nat} {M : zM} {Q : Int → st_S → Prop} (h : dC B σ K L (m : Int) n M) (hB : B < 2000000000) (h3 : K 33 = 999 → Q (-3) σ)
    (h1 : K 33 < 999 → ∀ τ, dF σ τ → dC (B + 1) τ (dkK M K n) (kpF K L m 2) ((kpm m + 1 : Nat) : Int) n M → Q (K 31 + 1) τ) : wp_X2_idle σ Q := by
  have hn := h.1.1.2.2
  have h9 := h.1.2.2.2.2.2.2.2.2.1
  unfold zC9 at h9
  refine ⟨fun q => ?_, fun q => h3 (by have : gI σ 33 0 = K 33 := h9.1.1; omega)⟩
  have hlt : K 33 < 999 := by have : gI σ 33 0 = K 33 := h9.1.1; omega
  refine w_dkeep h (by decide) (fun τ f hd => ?_)
  intro x ex
  have e13 := hd.2.1.2.1
  rw [e13.1, wr_id (by omega) (by omega)] at ex
  intro s es
  subst es
  refine w_pass (dC_31 (dC_mono hd (Nat.le_succ B)) (by omega)) (by rw [kup_n (by omega)]; exact hlt) (fun υ f2 hd2 => ?_)
  have e : gI υ 25 13 = x := by rw [hd2.2.1.2.1.1, pnK_n hn (by omega) (by omega) (by omega), kup_y]
  rw [e, ex]
  rw [ex] at hd2
  exact h1 hlt υ (dF_tr f (dF_tr (dF_sI (by omega)) f2)) hd2
theorem m_darkKept {σ : st_S} {m n : Nat} {M : zM} {Q : Int → st_S → Prop} (h : kOk (gI σ 2) n M) (hB : gI σ 2 31 < 2000000001) (hm : gI σ 0 28 = (m : Int)) (hm2 : m ≤ 16) (h3 : gI σ 2 33 = 999 → Q (-3) σ)
    (h1 : gI σ 2 33 < 999 → ∀ υ, dMk σ υ m 2 (dkK M (gI σ 2) n) → Q (gI σ 2 31 + 1) υ) : wp_X11_darkKept σ Q := by
  have hn := kOk_n h
  have h9 := h.1.choose_spec.1.2.2.2.2.2.2.2.2.1
  unfold zC9 at h9
  have h933 := h9.1.2
  have h31 := h.1.choose_spec.2.1.2.1.2.1
  refine ⟨fun q => ?_, fun q => h3 q⟩
  have hlt : gI σ 2 33 < 999 := by omega
  refine m_keeps hm hm2 (fun υ1 k1 => ?_)
  have K1 := kpM_K k1
  intro x ex
  rw [K1, wr_id (by omega) (by omega)] at ex
  intro s es
  subst es
  have kk : kOk (gI (sI υ1 2 31 x) 2) n M := by rw [kup_sI, K1]; exact kOk_31 h (by omega)
  refine m_pass kk (by rw [kup_sI, kup_n (by omega), K1]; exact hlt) (fun υ f l e => ?_)
  rw [kup_sI, K1] at e
  have e31 : gI υ 2 31 = x := by rw [e, pnK_n hn (by omega) (by omega) (by omega), kup_y]
  rw [e31, ex]
  have e13 : gI υ1 13 = _ := kpM_L k1
  refine h1 hlt υ ⟨dM_tr (kpM_dM k1) (dM_tr (dM_sI (by omega)) f), by rw [e, ex]; rfl, ?_, ?_⟩
  · rw [l.2]; exact e13
  · rw [l.1]; exact k1.2.2.1
theorem st_dark {B : Nat} {σc σm : st_S} (h : zInv B σc σm) (hB : B < 2000000000) (hk : zK1 σc) (hz : zcn (gI σm 2 32)) : wp_X10_dark σc (fun r τ => wp_X11_dark σm (fun r2 υ => r = r2 ∧ zInv (B + 1) τ υ)) := by
  obtain ⟨n, M, m, hd, hK, hm, hm2⟩ := dC_start h.1 hk hz
  have b31 := hd.2.1.2.1.2
  have hi : zInv (B + 1) σc σm := zInv_mono h (Nat.le_succ B)
  refine w_idle hd hB (fun q => ?_) (fun q τ hf hdt => ?_)
  · refine w_told (fun z => absurd z (by decide)) (fun k hk2 e _ => ?_) (by omega)
    refine m_darkKept hK (by omega) hm hm2 (fun _ => ?_) (fun z => absurd z (by omega))
    refine m_goodOr (fun z => absurd z (by decide)) (fun k2 hk3 e2 _ => ?_) (by omega)
    obtain rfl : k = k2 := by omega
    exact ⟨rfl, inv_no hk2 hi⟩
  · refine w_told (fun _ => ?_) (fun k hk2 e z => absurd (by omega) z) (by omega)
    refine m_darkKept hK (by omega) hm hm2 (fun z => absurd z (by omega)) (fun _ υ hu => ?_)
    refine m_goodOr (fun _ => ⟨rfl, ?_⟩) (fun k hk2 e z => absurd (by omega) z) (by omega)
    obtain ⟨u1, u2, u3, u4⟩ := hu
    exact inv_deed hi hf u1 (by rw [u2, u3, u4]; exact hdt)
