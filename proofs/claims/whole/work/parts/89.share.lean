/-! share, who -/
theorem sxM_34 {σ : st_S} {n away away' hsh : Nat} {M : zM} (h : sxM σ n M away hsh) (ha : away' < 1024) : sxM (sI σ 0 34 (away' : Int)) n M away' hsh := by
  obtain ⟨hx, hl, hb, ga, gh, _, hh⟩ := h
  exact ⟨cxM_of hx rfl, ⟨hl.1, hl.2⟩, bcM_of hb (fun j => rfl) rfl, rfl, gh, ha, hh⟩
theorem sxM_35 {σ : st_S} {n away hsh hsh' : Nat} {M : zM} (h : sxM σ n M away hsh) (hh' : hsh' < 1024) : sxM (sI σ 0 35 (hsh' : Int)) n M away hsh' := by
  obtain ⟨hx, hl, hb, ga, gh, ha, _⟩ := h
  exact ⟨cxM_of hx rfl, ⟨hl.1, hl.2⟩, bcM_of hb (fun j => rfl) rfl, ga, rfl, ha, hh'⟩
theorem m_fl {σ : st_S} {n away hsh : Nat} {M : zM} {K : Nat → Int} {Q : Int → st_S → Prop} (hK : gI σ 2 = K) (hs : sxM σ n M away hsh) (hQ : ∀ τ, zL σ τ → sxM τ n M away hsh → Q (lnV (crL M K n away hsh) 11 0 0 : Int) τ) : wp_X11_forgets σ (fun s => wp_X11_longestFrom 13 0 0 s (fun r t => Q r t)) := by
  refine m_forgets (fun τ c1 c2 c3 => ?_)
  have z : zL σ τ := ⟨c1, fun c j _ _ d => c2 c j (by omega)⟩
  have Kt := zL_K z
  obtain ⟨hx, hl, hb, ga, gh, ha, hh⟩ := hs
  have st : sxM τ n M away hsh := ⟨cxM_of hx Kt, ⟨fun p hp => by rw [c2 _ _ (by decide), Kt]; exact hl.1 p hp, fun p q hp hq => by rw [c2 _ _ (by decide), Kt]; exact hl.2 p q hp hq⟩, bcM_of hb (fun j => c2 _ _ (by decide)) Kt, by rw [c2 _ _ (by decide)]; exact ga, by rw [c2 _ _ (by decide)]; exact gh, ha, hh⟩
  exact m_longestFrom (n := n) (M := M) (K := K) (away := away) (hsh := hsh) 13 0 0 (by omega) (by omega) (by decide) (by rw [Kt]; exact hK) st (mmL_0 c3) (fun υ y1 y2 y3 => hQ υ (zL_tr z (zL_Y y1)) y2)
def ldB (K : Nat → Int) (a : Int) (p : Nat) : Bool := decide (K (35 + 2 * p) = a)
theorem w_peopleOf {σ : st_S} {K : Nat → Int} {n : Nat} {M : zM} {a : Int} {Q : Int → st_S → Prop} (h : cxC σ K n M) (hQ : Q (bsN (ldB K a) n : Int) σ) : wp_X1_peopleOf a σ Q := by
  have hn := h.1.2.2
  have e0 : gI σ 25 0 = (n : Int) := h.1.1
  have key : ∀ m p : Nat, p + m = n → L_X1_peopleOf_4 Q (m + 1) a (bsN (ldB K a) p : Int) (p : Int) σ := by
    intro m
    induction m with
    | zero =>
      intro p hp
      have ep : p = n := by omega
      subst ep
      exact ⟨fun _ => hQ, fun z => absurd (by omega) z⟩
    | succ m ih =>
      intro p hp
      have nxt : ∀ v : Int, v = ((bsN (ldB K a) (p + 1) : Nat) : Int) → B_X1_peopleOf_28 Q (L_X1_peopleOf_4 Q (m + 1)) a v (p : Int) σ := by
        intro v hv y ey
        rw [wks (by omega)] at ey
        subst ey
        subst hv
        exact ih (p + 1) (by omega)
      refine ⟨fun z => absurd z (by omega), fun _ => ⟨ixn (by omega), ?_⟩⟩
      rw [Int.toNat_natCast, show gI σ 27 p = K (35 + 2 * p) from (h.2.2.1 p (by omega)).1]
      refine ⟨fun z => nxt _ ?_, fun z => ?_⟩
      · rw [bs_n (by unfold ldB; exact decide_eq_false z)]
      · intro v ev
        refine nxt v ?_
        rw [ev]
        exact bs_y (by omega) (by unfold ldB; exact decide_eq_true z)
  exact ⟨n + 1, key n 0 (by omega)⟩
theorem pl_aw {K : Nat → Int} {n A : Nat} (hn : n ≤ 10) (p : Nat) (hp : p < n) : (ndn (ppl K n) A).testBit p = (decide (¬ K p = 3) && !A.testBit p) := by
  rw [ndn_bit (by have := ppl_lt (K := K) hn; omega), ppl_b p hp, Nat.zero_testBit]
  simp
set_option maxHeartbeats 400000 in
theorem st_share {B : Nat} {σc σm : st_S} (h : zInv B σc σm) (hk : zK1 σc) (a1 : Int) : wp_X10_share a1 σc (fun r τ => wp_X11_share a1 σm (fun r2 υ => r = r2 ∧ zInv B τ υ)) := by
  obtain ⟨n, M, hx, hm, hsk, hr⟩ := inv_open h hk
  have hn := hx.1.2.2
  have h256 := hx.1.2.1
  have no : ¬ (0 ≤ a1 ∧ a1 ≤ 3) → B_X10_share_9 (fun r τ => wp_X11_share a1 σm (fun r2 υ => r = r2 ∧ zInv B τ υ)) σc := fun q => m_lies (fun w => absurd w q) (fun _ => ⟨fun w => absurd rfl w, fun _ => ⟨rfl, h⟩⟩)
  refine ⟨fun z => no (by omega), fun z => ⟨fun y => ?_, fun y => no (by omega)⟩⟩
  refine w_prepare hx (fun τ1 z1 p1 => ?_)
  have e1 : gI τ1 42 0 = (ppl (gI σm 2) n : Int) := p1.2.1.1
  have pl := ppl_lt (K := gI σm 2) hn
  rw [e1]
  refine w_longest (away := 0) p1 (sKd_of hsk z1.1) pl (fun p hp => ppl_b p hp) (fun τ2 z2 p2 e2 _ => ?_)
  refine w_peopleOf p2.1 ?_
  rw [e2, e1]
  have al := bsN_lt (ldB (gI σm 2) a1) n hn
  rw [n_andn (by omega) (by omega)]
  refine w_longest (away := bsN (ldB (gI σm 2) a1) n) p2 (sKd_of (sKd_of hsk z1.1) z2.1) (Nat.lt_of_le_of_lt (ndn_le _ _) pl) (fun p hp => pl_aw hn p hp) (fun τ3 z3 p3 e3 _ => ?_)
  have zc : agQ σc τ3 := zS_agQ (zS_tr (zS_tr (zS_P z1) z2) z3) hr
  refine m_lies (fun _ => ⟨fun _ => m_looks hm (fun υ1 y1 y2 y3 => ?_), fun w => absurd w (by decide)⟩) (fun q => absurd (by omega) q)
  refine m_longestFrom (n := n) (M := M) (K := gI σm 2) (away := 0) (hsh := 0) 13 0 0 (by omega) (by omega) (by decide) (zL_K y1) y2 (mmL_0 y3) (fun υ2 y4 y5 y6 => ?_)
  rw [show lnV (crL M (gI σm 2) n 0 0) (11 - 0) 0 0 = lnV (crL M (gI σm 2) n 0 0) 11 0 0 from rfl]
  have key : ∀ m p : Nat, p + m = n → ∀ υ, zL σm υ → sxM υ n M (bsN (ldB (gI σm 2) a1) p) 0 → L_X11_share_24 (fun r2 υ => wr ((lnV (crL M (gI σm 2) n 0 0) 11 0 0 : Int) - (lnV (crL M (gI σm 2) n (bsN (ldB (gI σm 2) a1) n) 0) 11 0 0 : Int)) = r2 ∧ zInv B τ3 υ) (m + 1) a1 (lnV (crL M (gI σm 2) n 0 0) 11 0 0 : Int) (p : Int) υ := by
    intro m
    induction m with
    | zero =>
      intro p hp υ w1 w2
      have ep : p = n := by omega
      subst ep
      have e0 : gI υ 2 256 = (p : Int) := by rw [zL_K w1]; exact h256
      refine ⟨fun _ => m_fl (K := gI σm 2) (zL_K w1) w2 (fun ω o1 o2 => ⟨rfl, zInv_q h zc (zL_agN (zL_tr w1 o1))⟩), fun q => absurd (show gI υ 2 256 ≤ (p : Int) by omega) q⟩
    | succ m ih =>
      intro p hp υ w1 w2
      have e0 : gI υ 2 256 = (n : Int) := by rw [zL_K w1]; exact h256
      refine ⟨fun q => absurd q (by show ¬ gI υ 2 256 ≤ (p : Int); omega), fun _ => m_landOf (by omega) ?_⟩
      rw [zL_K w1, w2.2.2.2.1]
      have nxt : ∀ v : Int, o_or (bsN (ldB (gI σm 2) a1) p : Int) v = ((bsN (ldB (gI σm 2) a1) (p + 1) : Nat) : Int) → B_X11_share_53 (fun r2 υ => wr ((lnV (crL M (gI σm 2) n 0 0) 11 0 0 : Int) - (lnV (crL M (gI σm 2) n (bsN (ldB (gI σm 2) a1) n) 0) 11 0 0 : Int)) = r2 ∧ zInv B τ3 υ) (L_X11_share_24 (fun r2 υ => wr ((lnV (crL M (gI σm 2) n 0 0) 11 0 0 : Int) - (lnV (crL M (gI σm 2) n (bsN (ldB (gI σm 2) a1) n) 0) 11 0 0 : Int)) = r2 ∧ zInv B τ3 υ) (m + 1)) a1 (lnV (crL M (gI σm 2) n 0 0) 11 0 0 : Int) (p : Int) v (bsN (ldB (gI σm 2) a1) p : Int) υ := by
        intro v hv s es x ex
        rw [hv] at es
        rw [wks (by omega)] at ex
        subst ex
        subst es
        exact ih (p + 1) (by omega) _ (zL_tr w1 (zL_sI (by omega))) (sxM_34 w2 (bsN_lt _ _ (by omega)))
      exact ⟨fun q => nxt 0 (bs_0 (by omega) (by unfold ldB; exact decide_eq_false q)), fun q => nxt _ (bs_y (by omega) (by unfold ldB; exact decide_eq_true q))⟩
  exact ⟨n + 1, key n 0 (by omega) υ2 (zL_tr y1 (zL_Y y4)) y5⟩
/-- who must have been there -/
noncomputable def whB (M : zM) (K : Nat → Int) (n : Nat) (a : Int) (p : Nat) : Bool := plB K p && decide ((lnV (crL M K n (2 ^ p) 0) 11 0 0 : Int) = a)
set_option maxHeartbeats 400000 in
theorem st_who {B : Nat} {σc σm : st_S} (h : zInv B σc σm) (hk : zK1 σc) (a1 : Int) : wp_X10_who a1 σc (fun r τ => wp_X11_who a1 σm (fun r2 υ => r = r2 ∧ zInv B τ υ)) := by
  obtain ⟨n, M, hx, hm, hsk, hr⟩ := inv_open h hk
  have hn := hx.1.2.2
  have h256 := hx.1.2.1
  have no : ¬ (0 ≤ a1 ∧ a1 ≤ 10) → B_X10_who_10 (fun r τ => wp_X11_who a1 σm (fun r2 υ => r = r2 ∧ zInv B τ υ)) σc := fun q => m_lies (fun w => absurd w q) (fun _ => ⟨fun w => absurd rfl w, fun _ => ⟨rfl, h⟩⟩)
  refine ⟨fun z => no (by omega), fun z => ⟨fun y => ?_, fun y => no (by omega)⟩⟩
  refine w_prepare hx (fun τ1 z1 p1 => ?_)
  have pl := ppl_lt (K := gI σm 2) hn
  have pw : ∀ p, p < 10 → (2 : Nat) ^ p < 1024 := fun p hp => Nat.pow_lt_pow_right (by decide) hp
  have fin : ∀ τ, zS σc τ → wp_X11_who a1 σm (fun r2 υ => (bsN (whB M (gI σm 2) n a1) n : Int) = r2 ∧ zInv B τ υ) := by
    intro τ zt
    have zc : agQ σc τ := zS_agQ zt hr
    refine m_lies (fun _ => ⟨fun _ => m_looks hm (fun υ1 y1 y2 y3 => ?_), fun w => absurd w (by decide)⟩) (fun q => absurd (by omega) q)
    have key : ∀ m p : Nat, p + m = n → ∀ υ A, zL σm υ → sxM υ n M A 0 → L_X11_who_20 (fun r2 υ => (bsN (whB M (gI σm 2) n a1) n : Int) = r2 ∧ zInv B τ υ) (m + 1) a1 (bsN (whB M (gI σm 2) n a1) p : Int) (p : Int) υ := by
      intro m
      induction m with
      | zero =>
        intro p hp υ A w1 w2
        have ep : p = n := by omega
        subst ep
        have e0 : gI υ 2 256 = (p : Int) := by rw [zL_K w1]; exact h256
        exact ⟨fun _ => ⟨rfl, zInv_q h zc (zL_agN w1)⟩, fun q => absurd (show gI υ 2 256 ≤ (p : Int) by omega) q⟩
      | succ m ih =>
        intro p hp υ A w1 w2
        have e0 : gI υ 2 256 = (n : Int) := by rw [zL_K w1]; exact h256
        have nxt : ∀ (v : Int) ω A', zL σm ω → sxM ω n M A' 0 → v = ((bsN (whB M (gI σm 2) n a1) (p + 1) : Nat) : Int) → B_X11_who_74 (fun r2 υ => (bsN (whB M (gI σm 2) n a1) n : Int) = r2 ∧ zInv B τ υ) (L_X11_who_20 (fun r2 υ => (bsN (whB M (gI σm 2) n a1) n : Int) = r2 ∧ zInv B τ υ) (m + 1)) a1 v (p : Int) ω := by
          intro v ω A' o1 o2 ev x ex
          rw [wks (by omega)] at ex
          subst ex
          subst ev
          exact ih (p + 1) (by omega) ω A' o1 o2
        refine ⟨fun q => absurd q (by show ¬ gI υ 2 256 ≤ (p : Int); omega), fun _ => ?_⟩
        rw [wk0 (by omega)]
        refine ⟨ixn (by omega), ?_⟩
        rw [Int.toNat_natCast, show gI υ 2 p = gI σm 2 p by rw [zL_K w1]]
        refine ⟨fun q => ?_, fun q => nxt _ υ A w1 w2 ?_⟩
        · intro s es
          rw [o_shl1 (by omega), Nat.one_shiftLeft] at es
          have zs : zL σm s := by rw [es]; exact zL_tr w1 (zL_sI (by omega))
          have ss : sxM s n M (2 ^ p) 0 := by rw [es]; exact sxM_34 w2 (pw p (by omega))
          refine m_fl (K := gI σm 2) (zL_K zs) ss (fun ω o1 o2 => ⟨fun q2 => ?_, fun q2 => ?_⟩)
          · intro x ex
            refine nxt x ω _ (zL_tr zs o1) o2 ?_
            rw [ex]
            exact bs_0 (by omega) (by unfold whB; rw [decide_eq_false q2, Bool.and_false])
          · intro x ex
            refine nxt x ω _ (zL_tr zs o1) o2 ?_
            rw [ex]
            exact bs_y (by omega) (by unfold whB plB; rw [decide_eq_true q2, decide_eq_true q]; rfl)
        · rw [bs_n (by unfold whB plB; rw [decide_eq_false (fun w => w q)]; rfl)]
    exact ⟨n + 1, key n 0 (by omega) υ1 0 y1 y2⟩
  have keyC : ∀ m p : Nat, p + m = n → ∀ τ, zS σc τ → ppC τ (gI σm 2) n M → L_X10_who_23 (fun r τ => wp_X11_who a1 σm (fun r2 υ => r = r2 ∧ zInv B τ υ)) (m + 1) a1 (bsN (whB M (gI σm 2) n a1) p : Int) (p : Int) τ := by
    intro m
    induction m with
    | zero =>
      intro p hp τ w1 w2
      have e0 : gI τ 25 0 = (n : Int) := w2.1.1.1
      have ep : p = n := by omega
      subst ep
      exact ⟨fun _ => fin τ w1, fun q => absurd (by omega) q⟩
    | succ m ih =>
      intro p hp τ w1 w2
      have e0 : gI τ 25 0 = (n : Int) := w2.1.1.1
      have e1 : gI τ 42 0 = (ppl (gI σm 2) n : Int) := w2.2.1.1
      have nxt : ∀ (v : Int) ω, zS σc ω → ppC ω (gI σm 2) n M → v = ((bsN (whB M (gI σm 2) n a1) (p + 1) : Nat) : Int) → B_X10_who_80 (fun r τ => wp_X11_who a1 σm (fun r2 υ => r = r2 ∧ zInv B τ υ)) (L_X10_who_23 (fun r τ => wp_X11_who a1 σm (fun r2 υ => r = r2 ∧ zInv B τ υ)) (m + 1)) a1 v (p : Int) ω := by
        intro v ω o1 o2 ev x ex
        rw [wks (by omega)] at ex
        subst ex
        subst ev
        exact ih (p + 1) (by omega) ω o1 o2
      refine ⟨fun q => absurd q (by omega), fun _ => ?_⟩
      intro x ex
      subst ex
      rw [e1]
      have tb := ppl_b (K := gI σm 2) p (show p < n by omega)
      rw [Nat.zero_testBit, Bool.not_false, Bool.and_true] at tb
      refine ⟨fun q => nxt _ τ w1 w2 ?_, fun q => ?_⟩
      · rw [and_bit pl (by omega), tb] at q
        rw [bs_n (by unfold whB plB; rw [q]; rfl)]
      · rw [and_bit pl (by omega), tb] at q
        have q' : decide (¬ gI σm 2 p = 3) = true := by cases hb : decide (¬ gI σm 2 p = 3); exact absurd hb q; rfl
        rw [o_shl1 (by omega), Nat.one_shiftLeft, n_andn (by omega) (by have := pw p (by omega); omega)]
        refine w_longest (away := 2 ^ p) w2 (sKd_of hsk w1.1) (Nat.lt_of_le_of_lt (ndn_le _ _) pl) (fun r hr => pl_aw hn r hr) (fun ω o1 o2 _ _ => ⟨fun q2 => nxt _ ω (zS_tr w1 o1) o2 ?_, fun q2 => ?_⟩)
        · rw [bs_n (by unfold whB; rw [decide_eq_false q2, Bool.and_false])]
        · intro y ey
          refine nxt y ω (zS_tr w1 o1) o2 ?_
          rw [ey]
          have := bs_y (f := whB M (gI σm 2) n a1) (p := p) (by omega) (by unfold whB plB; rw [decide_eq_true q2, q']; rfl)
          rw [o_shl1 (by omega), Nat.one_shiftLeft] at this
          exact this
  exact ⟨n + 1, keyC n 0 (by omega) τ1 (zS_P z1) p1⟩
