/-! light, harm -/
theorem st_light {B : Nat} {σc σm : st_S} (h : zInv B σc σm) (hk : zK1 σc) (hz : zcn (gI σm 2 32)) (a1 : Int) : wp_X10_light a1 σc (fun r τ => wp_X11_light a1 σm (fun r2 υ => r = r2 ∧ zInv B τ υ)) := by
  obtain ⟨n, M, m, hd, hK, hm, hm2⟩ := dC_start h.1 hk hz
  have inv : ∀ τ υ, zJ σc τ → zN σm υ → zInv B τ υ := fun τ υ h1 h2 => zInv_q h (zJ_agQ h1 h.2.2) (zN_agN h2)
  refine w_kindle hd (fun q => ?_) (fun c ec hc hc1 q => ?_) (fun c ec hc hc1 hs q τ hτ => ?_) (fun c ec hc hc1 hs q τ hf hdt => ?_)
  · refine w_told (fun z => absurd z (by decide)) (fun k hk2 e _ => ?_) (by omega)
    refine m_lightsKept hK hm hm2 (fun _ => ?_) (fun c ec hc hc1 _ => absurd (by omega) q) (fun c ec hc hc1 _ _ _ _ => absurd (by omega) q) (fun c ec hc hc1 _ _ _ _ => absurd (by omega) q)
    refine m_goodOr (fun z => absurd z (by decide)) (fun k2 hk3 e2 _ => ?_) (by omega)
    obtain rfl : k = k2 := by omega
    exact ⟨rfl, inv_no hk2 h⟩
  · refine w_told (fun z => absurd z (by decide)) (fun k hk2 e _ => ?_) (by omega)
    refine m_lightsKept hK hm hm2 (fun z => absurd (by omega) z) (fun c' ec' _ _ _ => ?_) (fun c' ec' _ _ hs _ _ _ => absurd (by rw [show c = c' by omega]; exact hs) q) (fun c' ec' _ _ hs _ _ _ => absurd (by rw [show c = c' by omega]; exact hs) q)
    refine m_goodOr (fun z => absurd z (by decide)) (fun k2 hk3 e2 _ => ?_) (by omega)
    obtain rfl : k = k2 := by omega
    exact ⟨rfl, inv_no hk2 h⟩
  · refine w_told (fun z => absurd z (by decide)) (fun k hk2 e _ => ?_) (by omega)
    refine m_lightsKept hK hm hm2 (fun z => absurd (by omega) z) (fun c' ec' _ _ z => absurd (by rw [show c' = c by omega]; exact hs) z) (fun c' ec' _ _ _ _ υ hu => ?_) (fun c' ec' _ _ _ z _ _ => absurd (by rw [show c = c' by omega]; exact z) q)
    refine m_goodOr (fun z => absurd z (by decide)) (fun k2 hk3 e2 _ => ?_) (by omega)
    obtain rfl : k = k2 := by omega
    exact ⟨rfl, inv_no hk2 (inv τ υ hτ hu)⟩
  · have cr := woS_r (c := c) hd.1 (Nat.le_refl n)
    refine w_told (fun _ => ?_) (fun k hk2 e z => absurd cr.1 z) (Or.inl cr.1)
    refine m_lightsKept hK hm hm2 (fun z => absurd (by omega) z) (fun c' ec' _ _ z => absurd (by rw [show c' = c by omega]; exact hs) z) (fun c' ec' _ _ _ z _ _ => absurd (by rw [show c' = c by omega]; exact q) z) (fun c' ec' _ _ _ _ υ hu => ?_)
    have ecc : c' = c := by omega
    subst ecc
    refine m_goodOr (fun _ => ⟨rfl, ?_⟩) (fun k hk2 e z => absurd cr.1 z) (Or.inl cr.1)
    obtain ⟨u1, u2, u3, u4⟩ := hu
    exact inv_deed h hf u1 (by rw [u2, u3, u4]; exact hdt)
def mnI (a b : Int) : Int := if b < a then b else a
def haS (M : zM) (K : Nat → Int) (p : Nat) : Nat → Int
  | 0 => 0
  | q + 1 => haS M K p q + (if K (54 + 10 * p + q) = 1 then mnI (spoV M K p q) (woK K q) else 0)
theorem haS_r {σ : st_S} {K : Nat → Int} {n p q : Nat} {M : zM} (h : cxC σ K n M) (hq : q ≤ n) : 0 ≤ haS M K p q ∧ haS M K p q ≤ 2 * q := by
  induction q with
  | zero => exact ⟨Int.le_refl 0, by show (0 : Int) ≤ 2 * ((0 : Nat) : Int); decide⟩
  | succ q ih =>
    have i1 := ih (by omega)
    have i2 := woK_r h (show q < n by omega)
    have i3 := spo_r M K p q
    show 0 ≤ haS M K p q + (if K (54 + 10 * p + q) = 1 then mnI (spoV M K p q) (woK K q) else 0) ∧ haS M K p q + (if K (54 + 10 * p + q) = 1 then mnI (spoV M K p q) (woK K q) else 0) ≤ 2 * ((q + 1 : Nat) : Int)
    unfold mnI
    split <;> (try split) <;> omega
set_option maxHeartbeats 400000 in
theorem st_harm {B : Nat} {σc σm : st_S} (h : zInv B σc σm) (hk : zK1 σc) (a1 : Int) : wp_X10_harm a1 σc (fun r τ => wp_X11_harm a1 σm (fun r2 υ => r = r2 ∧ zInv B τ υ)) := by
  obtain ⟨n, M, hx, hm⟩ := zCR_M h.1.1 hk
  obtain ⟨c11, c12, c13⟩ := hx.1
  have inv : ∀ τ υ, zJ σc τ → zN σm υ → zInv B τ υ := fun τ υ h1 h2 => zInv_q h (zJ_agQ h1 h.2.2) (zN_agN h2)
  refine w_has c13 c11 (fun hp => ⟨fun z => absurd z (by decide), fun _ => ?_⟩) (fun hp => ⟨fun _ => m_isPerson c13 c12 (fun q => absurd q hp) (fun _ => ⟨fun _ => ⟨rfl, h⟩, fun z => absurd rfl z⟩), fun z => absurd rfl z⟩)
  obtain ⟨p, rfl⟩ : ∃ p : Nat, a1 = (p : Int) := ⟨a1.toNat, by omega⟩
  have hpn : p < n := by omega
  have e5 : gI σc 29 p = gI σm 2 p := (hx.2.2.2.2.1 p hpn).1
  obtain ⟨f, f1, f2, f3⟩ := hx.2.2.2.2.2.2.1 p (by omega)
  refine ⟨ixn (by omega), fun z => ?_, fun z => ?_⟩
  · have z' : ¬ gI σm 2 p = 3 := fun y => z (e5.trans y)
    have keyM : ∀ τ, zJ σc τ → wp_X11_harm (p : Int) σm (fun r2 υ => haS M (gI σm 2) p n = r2 ∧ zInv B τ υ) := by
      intro τ hτ
      refine m_isPerson c13 c12 (fun _ => ⟨fun y => absurd y (by decide), fun _ => ?_⟩) (fun q => absurd hp q)
      rw [wk0 (by omega)]
      refine ⟨ixn (by omega), fun _ => ?_, fun y => absurd y z'⟩
      have key : ∀ k q : Nat, q + k = n → ∀ υ, zN σm υ → L_X11_harm_26 (fun r2 υ => haS M (gI σm 2) p n = r2 ∧ zInv B τ υ) (k + 1) (p : Int) (haS M (gI σm 2) p q) (q : Int) υ := by
        intro k
        induction k with
        | zero =>
          intro q hq υ hu
          have e0 : gI υ 2 256 = (n : Int) := by rw [zN_K hu]; exact c12
          refine ⟨fun _ => ⟨by rw [show q = n by omega], inv τ υ hτ hu⟩, fun y => absurd (show gI υ 2 256 ≤ (q : Int) by omega) y⟩
        | succ k ih =>
          intro q hq υ hu
          have eK := zN_K hu
          have e0 : gI υ 2 256 = (n : Int) := by rw [eK]; exact c12
          have r1 := haS_r (p := p) hx (show q ≤ n by omega)
          have r2 := woK_r hx (show q < n by omega)
          have r3 := spo_r M (gI σm 2) p q
          have o4 := (hx.2.2.2.1 q (by omega)).2
          have f3q := f3 q (by omega)
          have es : haS M (gI σm 2) p (q + 1) = haS M (gI σm 2) p q + (if gI σm 2 (54 + 10 * p + q) = 1 then mnI (spoV M (gI σm 2) p q) (woK (gI σm 2) q) else 0) := rfl
          have nxt : ∀ (v : Int) ω, zN σm ω → v = (if gI σm 2 (54 + 10 * p + q) = 1 then mnI (spoV M (gI σm 2) p q) (woK (gI σm 2) q) else 0) → B_X11_harm_67 (fun r2 υ => haS M (gI σm 2) p n = r2 ∧ zInv B τ υ) (L_X11_harm_26 (fun r2 υ => haS M (gI σm 2) p n = r2 ∧ zInv B τ υ) (k + 1)) (p : Int) (q : Int) v (haS M (gI σm 2) p q) ω := by
            intro v ω hω hv
            have hvr : 0 ≤ v ∧ v ≤ 2 := by rw [hv]; unfold mnI; split <;> (try split) <;> omega
            intro x ex
            rw [wr_id (by omega) (by omega)] at ex
            intro y ey
            rw [wks (by omega)] at ey
            subst ex
            subst ey
            rw [hv, ← es]
            exact ih (q + 1) (by omega) ω hω
          refine ⟨fun y => absurd y (by show ¬ gI υ 2 256 ≤ (q : Int); omega), fun _ => ⟨fun y => nxt 0 υ hu ?_, fun y => m_doTalk (by omega) (by omega) ?_⟩⟩
          · have : q = p := by omega
            rw [f3q.1]
            cases hb : f.testBit q with
            | true => exact absurd this.symm (f3q.2.2 hb).2.2
            | false => rfl
          · rw [eK]
            by_cases ht : gI σm 2 (54 + 10 * p + q) = 1
            · rw [if_pos ht] at nxt ⊢
              refine ⟨fun w => absurd w (by decide), fun _ => ?_⟩
              refine m_worthOf (by omega) (by rw [eK]; exact o4) ?_
              rw [eK]
              refine m_spoilsBy (cxM_of hm eK) hpn (by omega) (fun ω hω => ?_)
              rw [eK]
              refine ⟨fun w => nxt _ ω (zN_tr hu hω) ?_, fun w => nxt _ ω (zN_tr hu hω) ?_⟩
              · unfold mnI
                change spoV M (gI σm 2) p q ≤ woK (gI σm 2) q at w
                rw [if_neg (by omega)]
              · change ¬ spoV M (gI σm 2) p q ≤ woK (gI σm 2) q at w
                show woK (gI σm 2) q = if woK (gI σm 2) q < spoV M (gI σm 2) p q then woK (gI σm 2) q else spoV M (gI σm 2) p q
                rw [if_pos (by omega)]
            · rw [if_neg ht] at nxt ⊢
              exact ⟨fun _ => nxt 0 υ hu rfl, fun w => absurd rfl w⟩
      exact ⟨n + 1, key n 0 (by omega) σm zN_rfl⟩
    have key : ∀ k q : Nat, q + k = n → ∀ τ, zJ σc τ → L_X10_harm_30 (fun r τ => wp_X11_harm (p : Int) σm (fun r2 υ => r = r2 ∧ zInv B τ υ)) (k + 1) (p : Int) (haS M (gI σm 2) p q) (q : Int) τ := by
      intro k
      induction k with
      | zero =>
        intro q hq τ hτ
        have e0 := (cxC_of hx hτ).1.1
        refine ⟨fun _ => ?_, fun y => absurd (by omega) y⟩
        rw [show q = n by omega]
        exact keyM τ hτ
      | succ k ih =>
        intro q hq τ hτ
        have hxt := cxC_of hx hτ
        have e0 := hxt.1.1
        have e5q : gI τ 29 q = gI σm 2 q := (hxt.2.2.2.2.1 q (by omega)).1
        obtain ⟨g, g1, g2, g3⟩ := hxt.2.2.2.2.2.2.1 p (by omega)
        have g3q := (g3 q (by omega)).1
        have r1 := haS_r (p := p) hx (show q ≤ n by omega)
        have r2 := woK_r hx (show q < n by omega)
        have r3 := spo_r M (gI σm 2) p q
        have es : haS M (gI σm 2) p (q + 1) = haS M (gI σm 2) p q + (if gI σm 2 (54 + 10 * p + q) = 1 then mnI (spoV M (gI σm 2) p q) (woK (gI σm 2) q) else 0) := rfl
        have nxt : ∀ (v : Int) ω, zJ σc ω → v = haS M (gI σm 2) p (q + 1) → B_X10_harm_89 (fun r τ => wp_X11_harm (p : Int) σm (fun r2 υ => r = r2 ∧ zInv B τ υ)) (L_X10_harm_30 (fun r τ => wp_X11_harm (p : Int) σm (fun r2 υ => r = r2 ∧ zInv B τ υ)) (k + 1)) (p : Int) v (q : Int) ω := by
          intro v ω hω hv
          intro y ey
          rw [wks (by omega)] at ey
          subst ey
          rw [hv]
          exact ih (q + 1) (by omega) ω hω
        refine ⟨fun y => absurd y (by omega), fun _ => w_talks (by omega) (by omega) g1 (g2 hpn) ?_⟩
        cases hb : g.testBit q with
        | false =>
          rw [hb] at g3q
          refine ⟨fun _ => nxt _ τ hτ ?_, fun y => absurd rfl y⟩
          rw [es, g3q]
          show _ = _ + (if (0 : Int) = 1 then _ else 0)
          rw [if_neg (by decide), Int.add_zero]
        | true =>
          rw [hb] at g3q
          have g3q' : gI σm 2 (54 + 10 * p + q) = 1 := g3q
          rw [if_pos g3q'] at es
          refine ⟨fun y => absurd y (by decide), fun _ => ⟨ixn (by omega), fun y => nxt _ τ hτ ?_, fun y => ?_⟩⟩
          · have y' : gI σm 2 q = 3 := e5q.symm.trans y
            have w0 : woK (gI σm 2) q = 0 := by unfold woK; rw [if_pos y']
            rw [es, w0]
            unfold mnI
            split <;> omega
          · refine w_spoils hxt hpn (by omega) (fun ω hω => w_kw (cxC_of hxt hω) (by omega) ?_)
            intro x ex
            refine nxt _ ω (zJ_tr hτ hω) ?_
            have e : o_min (spoV M (gI σm 2) p q) (woK (gI σm 2) q) = mnI (spoV M (gI σm 2) p q) (woK (gI σm 2) q) := rfl
            have mr : 0 ≤ mnI (spoV M (gI σm 2) p q) (woK (gI σm 2) q) ∧ mnI (spoV M (gI σm 2) p q) (woK (gI σm 2) q) ≤ 2 := by unfold mnI; split <;> omega
            rw [e, wr_id (by omega) (by omega)] at ex
            rw [ex, es]
    exact ⟨n + 1, key n 0 (by omega) σc zJ_rfl⟩
  · refine m_isPerson c13 c12 (fun _ => ⟨fun y => absurd y (by decide), fun _ => ?_⟩) (fun q => absurd hp q)
    rw [wk0 (by omega)]
    exact ⟨ixn (by omega), fun y => absurd (e5.symm.trans z) y, fun _ => ⟨rfl, h⟩⟩
