/-! winter -/
theorem iI_div {a b : Int} (ha : i32 a) (hb : i32 b) : iI a / iI b = iI (a.tdiv b) := by
  rw [← Int32.toInt_inj, Int32.toInt_div, iI_toInt, iI_toInt, iI_toInt, wr_id ha.1 ha.2, wr_id hb.1 hb.2, wr_bmod]
theorem o_rem_v {a b : Int} (ha : i32 a) (hb : i32 b) : o_rem a b = wr (a.tmod b) := by
  unfold o_rem
  rw [iI_div ha hb, ← iI_mul, ← iI_sub, iI_toInt, show a - a.tdiv b * b = a.tmod b from by rw [Int.tmod_def, Int.mul_comm]]
theorem o_rem_n {a b : Nat} (ha : a < 2147483648) (hb : b < 2147483648) : o_rem (a : Int) (b : Int) = ((a % b : Nat) : Int) := by
  rw [o_rem_v (by unfold i32; omega) (by unfold i32; omega), Int.tmod_eq_emod_of_nonneg (by omega), ← Int.natCast_emod]
  exact wr_n (Nat.lt_of_le_of_lt (Nat.mod_le _ _) ha)
def drw (s : Nat) : Nat := (1103 * s + 12345) % 1000003
theorem drw_lt (s : Nat) : drw s < 1000003 := Nat.mod_lt _ (by decide)
theorem drw_c {s : Nat} (hs : s < 1000003) : o_rem ((s : Int) * 1103 + 12345) 1000003 = (drw s : Int) := by
  have := o_rem_n (a := 1103 * s + 12345) (b := 1000003) (by omega) (by decide)
  rw [show ((1103 * s + 12345 : Nat) : Int) = (s : Int) * 1103 + 12345 by omega] at this
  exact this
theorem drw_m {s : Nat} (hs : s < 1000003) : o_l2i (p_rem (1103 * (s : Int) + 12345) 1000003) = (drw s : Int) := by
  rw [p_rem_v (by unfold i32; omega) (by unfold i32; omega), Int.tmod_eq_emod_of_nonneg (by omega)]
  have e : (1103 * (s : Int) + 12345) % 1000003 = (drw s : Int) := by unfold drw; omega
  rw [e]
  have := drw_lt s
  exact l2i_v (by unfold i32; omega)
theorem drw_10 (s : Nat) : o_rem (drw s : Int) 10 = ((drw s % 10 : Nat) : Int) := o_rem_n (by have := drw_lt s; omega) (by decide)
/-- worth on a night of a winter -/
noncomputable def wWV (M : zM) (K : Nat → Int) (n night used : Nat) (fog : Int) (p : Nat) : Nat := @ite Nat (p < n ∧ used.testBit p = false ∧ comV M K p ≤ (night : Int) ∧ ¬ K p = 3 ∧ hdV M K n 0 used p < 2 ∧ barV M K p (((hdV M K n 0 used p).toNat : Nat) : Int) (K 33 + (night : Int)) fog = 0) (Classical.propDecidable _) (2 - hdV M K n 0 used p).toNat 0
theorem wWV_2 {σ : st_S} {K : Nat → Int} {n night used : Nat} {M : zM} {fog : Int} (h : cxC σ K n M) (p : Nat) : wWV M K n night used fog p ≤ 2 := by
  unfold wWV
  split
  · rename_i q
    have := hdV_r (hsh := 0) (used := used) h q.1
    omega
  · omega
theorem wWV_p {K : Nat → Int} {n night used p : Nat} {M : zM} {fog : Int} (h : 0 < wWV M K n night used fog p) : p < n ∧ used.testBit p = false := by
  unfold wWV at h
  split at h
  · rename_i q; exact ⟨q.1, q.2.1⟩
  · omega
def ndF (fog : Int) : Nat := if fog = 1 then 4 else 2
theorem ndF_v (fog : Int) : ndF fog = 2 ∨ ndF fog = 4 := by unfold ndF; split <;> omega
noncomputable def crW (M : zM) (K : Nat → Int) (n night used : Nat) (fog : Int) : List Nat := pkL (wWV M K n night used fog) 10 (ndF fog)
set_option maxHeartbeats 400000 in
theorem m_laysWorthsOf {σ : st_S} {n night used : Nat} {M : zM} {fog : Int} {Q : st_S → Prop} (hs : sxM σ n M 0 0) (hn : night ≤ 60) (hu : used < 1024) (hf : fog = 0 ∨ fog = 1)
    (hQ : ∀ τ, zX σ τ → (∀ j, gI τ 17 j = gI σ 17 j) → (∀ p, p < 10 → gI τ 18 p = (wWV M (gI σ 2) n night used fog p : Int)) → Q τ) : wp_X11_laysWorthsOf (night : Int) (used : Int) fog σ Q := by
  obtain ⟨hx, hl, hb, ga, gh, _, _⟩ := hs
  have hxc := hx.1.choose_spec
  have hn10 := hxc.1.2.2
  have h256 := hxc.1.2.1
  have h9 := hxc.2.2.2.2.2.2.2.2.1
  unfold zC9 at h9
  have h933 := h9.1.2
  have key : ∀ k p : Nat, p + k = 10 → ∀ τ, zX σ τ → (∀ j, gI τ 17 j = gI σ 17 j) → (∀ q, q < p → gI τ 18 q = (wWV M (gI σ 2) n night used fog q : Int)) → L_X11_laysWorthsOf_3 Q (k + 1) (night : Int) (used : Int) fog (p : Int) τ := by
    intro k
    induction k with
    | zero =>
      intro p hp τ h1 h2 h3
      exact ⟨fun _ => hQ τ h1 h2 (fun q hq => h3 q (by omega)), fun z => absurd (show (10 : Int) ≤ (p : Int) by omega) z⟩
    | succ k ih =>
      intro p hp τ h1 h2 h3
      refine ⟨fun z => absurd z (by omega), fun _ => ⟨ixn (by omega), ?_⟩⟩
      intro s es
      rw [Int.toNat_natCast] at es
      have zs : zX σ s := by rw [es]; exact zX_tr h1 zX_18
      have s17 : ∀ j, gI s 17 j = gI σ 17 j := fun j => by rw [es, gI_sI, if_neg (by omega)]; exact h2 j
      have s18 : gI s 18 p = 0 := by rw [es, gI_sI, if_pos ⟨rfl, rfl⟩]
      have s3 : ∀ q, q < p → gI s 18 q = (wWV M (gI σ 2) n night used fog q : Int) := fun q hq => by rw [es, gI_sI, if_neg (by omega)]; exact h3 q hq
      clear es
      have Ks := zX_K zs
      have cs : cxM s n M := cxM_of hx Ks
      have ls := lkM_of hl zs
      have ghs : gI s 0 35 = ((0 : Nat) : Int) := by rw [zs.2 _ _ (by omega) (by decide) (by decide) (by decide)]; exact gh
      have nxt : ∀ υ, zX σ υ → (∀ j, gI υ 17 j = gI σ 17 j) → (∀ q, q < p → gI υ 18 q = (wWV M (gI σ 2) n night used fog q : Int)) → gI υ 18 p = (wWV M (gI σ 2) n night used fog p : Int) → B_X11_laysWorthsOf_110 Q (L_X11_laysWorthsOf_3 Q (k + 1)) (night : Int) (used : Int) fog (p : Int) υ := by
        intro υ a1 a2 a3 a4
        intro y ey
        rw [wks (by omega)] at ey
        subst ey
        refine ih (p + 1) (by omega) υ a1 a2 (fun q hq => ?_)
        by_cases e : q = p
        · subst e; exact a4
        · exact a3 q (by omega)
      have zero : ∀ υ, zN s υ → ¬ (p < n ∧ used.testBit p = false ∧ comV M (gI σ 2) p ≤ (night : Int) ∧ ¬ gI σ 2 p = 3 ∧ hdV M (gI σ 2) n 0 used p < 2 ∧ barV M (gI σ 2) p (((hdV M (gI σ 2) n 0 used p).toNat : Nat) : Int) (gI σ 2 33 + (night : Int)) fog = 0) → B_X11_laysWorthsOf_110 Q (L_X11_laysWorthsOf_3 Q (k + 1)) (night : Int) (used : Int) fog (p : Int) υ := by
        intro υ a1 a4
        have o18 : ∀ j, gI υ 18 j = gI s 18 j := fun j => a1.2 18 j (by omega) (by decide)
        refine nxt υ (zX_tr zs (zX_N a1)) (fun j => by rw [a1.2 17 j (by omega) (by decide)]; exact s17 j) (fun q hq => by rw [o18]; exact s3 q hq) ?_
        rw [o18, s18]
        unfold wWV
        rw [if_neg a4]
        rfl
      refine m_isPerson hn10 (by rw [Ks]; exact h256) (fun hpp => ⟨fun z => absurd z (by decide), fun _ => ?_⟩) (fun hpp => ⟨fun _ => zero s zN_rfl (fun w => hpp ⟨by omega, by have := w.1; omega⟩), fun z => absurd rfl z⟩)
      have hpn : p < n := by omega
      refine m_isIn hu (by omega) (fun hb2 => ⟨fun _ => zero s zN_rfl (fun w => by rw [hb2] at w; exact absurd w.2.1 (by decide)), fun z => absurd z (by decide)⟩) (fun hb2 => ⟨fun z => absurd rfl z, fun _ => ⟨ixn (by omega), fun z => ?_, fun z => ?_⟩⟩)
      · rw [Int.toNat_natCast, ls.1 p hpn, Ks] at z
        exact zero s zN_rfl (fun w => by have := w.2.2.1; omega)
      · rw [Int.toNat_natCast, ls.1 p hpn, Ks] at z
        rw [wk0 (by omega)]
        have hr := hdV_r (hsh := 0) (used := used) hxc hpn
        refine ⟨ixn (by omega), fun y => m_heardBy (hsh := 0) cs ls hpn hu (by decide) ghs ?_, fun y => ?_⟩
        · rw [Int.toNat_natCast, Ks] at y
          rw [Ks]
          refine ⟨fun w => zero s zN_rfl (fun u => by have := u.2.2.2.2.1; omega), fun w => ?_⟩
          have ehd : (((hdV M (gI σ 2) n 0 used p).toNat : Nat) : Int) = hdV M (gI σ 2) n 0 used p := by omega
          rw [wr_id (by omega) (by omega)]
          refine m_isBarred cs hpn (by unfold i32; omega) (by unfold i32; omega) (by unfold i32; omega) (fun υ a1 => ?_)
          rw [Ks]
          refine ⟨fun u => zero υ a1 (fun v => u (by have := v.2.2.2.2.2; rw [ehd] at this; exact this)), fun u => ?_⟩
          intro v ev
          rw [wr_id (by omega) (by omega)] at ev
          subst ev
          refine ⟨ixn (by omega), ?_⟩
          intro s41 e41
          rw [Int.toNat_natCast] at e41
          subst e41
          refine nxt _ (zX_tr (zX_tr zs (zX_N a1)) zX_18) (fun j => by rw [gI_sI, if_neg (by omega), a1.2 17 j (by omega) (by decide)]; exact s17 j) (fun q hq => by rw [gI_sI, if_neg (by omega), a1.2 18 _ (by omega) (by decide)]; exact s3 q hq) ?_
          rw [gI_sI, if_pos ⟨rfl, rfl⟩]
          unfold wWV
          rw [if_pos ⟨hpn, hb2, by omega, y, by omega, by rw [ehd]; exact u⟩]
          omega
        · rw [Int.toNat_natCast, Ks] at y
          exact zero s zN_rfl (fun w => w.2.2.2.1 y)
  exact ⟨11, key 10 0 (by omega) σ zX_rfl (fun _ => rfl) (fun q hq => absurd hq (by omega))⟩
/-- the class's worths of a winter's night -/
theorem wW_eq {σ : st_S} {K : Nat → Int} {n night used R H : Nat} {M : zM} {fog : Int} (hx : cxC σ K n M) (hH : hOk H (hdV M K n 0 used) n) (hR : rsOk R K n 0 used) (p : Nat) :
    wTO (bsN (frB M K night 0 fog (ndn R H)) n) (bsN (frB M K night 1 fog (ndn (R &&& H) (H >>> 10))) n) p = wWV M K n night used fog p := by
  have hR1 := hR.1
  have b2 : R &&& H < 2 ^ 31 := and_lt (by omega)
  unfold wTO wWV
  rw [bsN_tb, bsN_tb]
  by_cases hp : p < n
  · have hr := hdV_r (hsh := 0) (used := used) hx hp
    have hn := hx.1.2.2
    have h2 := hH.2 p (by omega)
    have rp := hR.2 p hp
    rw [Nat.or_zero] at rp
    unfold frB
    rw [ndn_bit (by omega), ndn_bit b2, Nat.testBit_and, Nat.testBit_shiftRight, Nat.add_comm 10 p, rp, h2.1, h2.2, decide_eq_true hp]
    have c3 : hdV M K n 0 used p = 0 ∨ hdV M K n 0 used p = 1 ∨ hdV M K n 0 used p = 2 := by omega
    rcases c3 with e | e | e
    · rw [e]
      by_cases c : p < n ∧ used.testBit p = false ∧ comV M K p ≤ (night : Int) ∧ ¬ K p = 3 ∧ (0 : Int) < 2 ∧ barV M K p ((((0 : Int)).toNat : Nat) : Int) (K 33 + (night : Int)) fog = 0
      · have c6 : barV M K p 0 (K 33 + (night : Int)) fog = 0 := c.2.2.2.2.2
        rw [if_pos c]
        simp [c.2.1, c.2.2.1, c.2.2.2.1, c6, hp]
      · rw [if_neg c]
        have c' : ¬ (used.testBit p = false ∧ comV M K p ≤ (night : Int) ∧ ¬ K p = 3 ∧ barV M K p 0 (K 33 + (night : Int)) fog = 0) := fun w => c ⟨hp, w.1, w.2.1, w.2.2.1, by decide, w.2.2.2⟩
        simp only [hp, true_and]
        rw [if_neg, if_neg]
        · simp
        · simp
          intro a1 a2 a3 a4
          exact c' ⟨a2, a3, a1, a4⟩
    · rw [e]
      by_cases c : p < n ∧ used.testBit p = false ∧ comV M K p ≤ (night : Int) ∧ ¬ K p = 3 ∧ (1 : Int) < 2 ∧ barV M K p ((((1 : Int)).toNat : Nat) : Int) (K 33 + (night : Int)) fog = 0
      · have c6 : barV M K p 1 (K 33 + (night : Int)) fog = 0 := c.2.2.2.2.2
        rw [if_pos c]
        simp [c.2.1, c.2.2.1, c.2.2.2.1, c6, hp]
      · rw [if_neg c]
        have c' : ¬ (used.testBit p = false ∧ comV M K p ≤ (night : Int) ∧ ¬ K p = 3 ∧ barV M K p 1 (K 33 + (night : Int)) fog = 0) := fun w => c ⟨hp, w.1, w.2.1, w.2.2.1, by decide, w.2.2.2⟩
        simp only [hp, true_and]
        rw [if_neg, if_neg]
        · simp
          intro a1 a2 a3 a4
          exact c' ⟨a2, a3, a1, a4⟩
        · simp
    · rw [e]
      rw [if_neg (by simp [hp]), if_neg (by simp [hp]), if_neg (fun w => absurd w.2.2.2.2.1 (by decide))]
  · rw [decide_eq_false hp, if_neg (by simp), if_neg (by simp), if_neg (fun w => hp w.1)]
