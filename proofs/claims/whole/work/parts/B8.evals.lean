/-! the reference works a text out -/
def tDx (R P : Int → Prop) (m : Int → st_S → (Int → st_S → Prop) → Prop) (ord : Bool) (cf vf : Nat → Int) (T s e : Nat) (D : zDn) : Prop :=
  (∀ W : Nat → Int, (∀ i, wr (W i) = W i) → ∀ v, D W = some v → R v) ∧
  ∀ (σ : st_S) (base : Nat) (W : Nat → Int) (lv : Int) (Q : Int → st_S → Prop), mEn ord σ base T cf vf W → gI σ 0 22 = ((base + s : Nat) : Int) → (gI σ 0 24 = 0 ∨ gI σ 0 24 = 1) → (lv = 0 ∨ lv = 1) → (∀ r τ, zR σ τ lv (base + e) (D W) r → P r → Q r τ) → m lv σ Q
def rSm (v : Int) : Prop := wr v = v
def rTs (v : Int) : Prop := v = 0 ∨ v = 1
def rTt (_ : Int) : Prop := True
theorem tDen_of {R P : Int → Prop} {m : Int → st_S → (Int → st_S → Prop) → Prop} {ord : Bool} {cf vf : Nat → Int} {T s e : Nat} {D : zDn} (h : tDx R P m ord cf vf T s e D) : tDen m ord cf vf T s e D := fun σ base W lv Q a b c d hq => h.2 σ base W lv Q a b c d (fun r τ z _ => hq r τ z)
theorem zR_24 {σ τ : st_S} {lv r : Int} {e : Nat} {o : Option Int} (h : zR σ τ lv e o r) (hb : gI σ 0 24 = 0 ∨ gI σ 0 24 = 1) (hl : lv = 0 ∨ lv = 1) : gI τ 0 24 = 0 ∨ gI τ 0 24 = 1 := by
  by_cases c : lv = 0 ∨ ¬ gI σ 0 24 = 0
  · rw [h.2.2.2 c]; exact hb
  · have q := h.2.2.1 (by omega) (by omega)
    cases e : o with
    | none => exact Or.inr (q.2 e)
    | some v => exact Or.inl (q.1 v e).2
/-- two worked out, one behind the other -/
theorem zR_comb {σ0 σ σ1 τ : st_S} {lv r w : Int} {e0 e : Nat} {o1 o2 o' : Option Int} (h1 : zR σ0 σ lv e0 o1 r) (hs : σ1 = sI σ 0 22 (gI σ1 0 22)) (h2 : zR σ1 τ lv e o2 w) (hb : gI σ0 0 24 = 0 ∨ gI σ0 0 24 = 1) (hl : lv = 0 ∨ lv = 1) (n1 : o1 = none → o' = none) (n2 : o2 = none → o' = none) :
    (lv = 1 ∧ gI τ 0 24 = 0 ∧ (∃ a b, o1 = some a ∧ o2 = some b ∧ r = a ∧ w = b) ∧ ∀ r' τ', zE τ τ' → gI τ' 0 22 = (e : Int) → ((∀ v, o' = some v → r' = v ∧ gI τ' 0 24 = 0) ∧ (o' = none → gI τ' 0 24 = 1)) → zR σ0 τ' lv e o' r') ∨
    ((lv = 0 ∨ gI τ 0 24 = 1) ∧ ∀ r' τ', zE τ τ' → gI τ' 0 22 = (e : Int) → gI τ' 0 24 = gI τ 0 24 → zR σ0 τ' lv e o' r') := by
  have z1 : zE σ σ1 := by rw [hs]; exact zE_22
  have e24 : gI σ1 0 24 = gI σ 0 24 := by rw [hs]; simp only [gI_sI, Nat.reduceAdd, Nat.reduceMul, Nat.reduceEqDiff, false_and, true_and, and_false, and_true, reduceIte, Int.toNat_natCast]
  have zz : ∀ τ', zE τ τ' → zE σ0 τ' := fun τ' z => zE_tr h1.1 (zE_tr z1 (zE_tr h2.1 z))
  by_cases c : lv = 0 ∨ ¬ gI σ0 0 24 = 0
  · right
    have a1 := h1.2.2.2 c
    have a2 : gI τ 0 24 = gI σ1 0 24 := h2.2.2.2 (by rw [e24, a1]; exact c)
    refine ⟨by rcases c with q | q; exact Or.inl q; right; rw [a2, e24, a1]; omega, fun r' τ' z y1 y2 => ⟨zz τ' z, y1, fun q1 q2 => absurd c (by omega), fun _ => by rw [y2, a2, e24, a1]⟩⟩
  · have l1 : lv = 1 := by omega
    have s0 : gI σ0 0 24 = 0 := by omega
    have q1 := h1.2.2.1 (by omega) s0
    cases eo1 : o1 with
    | none =>
      right
      have a1 := q1.2 eo1
      have a2 : gI τ 0 24 = gI σ1 0 24 := h2.2.2.2 (by rw [e24, a1]; exact Or.inr (by decide))
      have eo' := n1 eo1
      refine ⟨Or.inr (by rw [a2, e24, a1]), fun r' τ' z y1 y2 => ⟨zz τ' z, y1, fun _ _ => ⟨fun v hv => (by rw [eo'] at hv; exact absurd hv (by simp)), fun _ => by rw [y2, a2, e24, a1]⟩, fun q => absurd q c⟩⟩
    | some a =>
      have a1 := q1.1 a eo1
      have q2 := h2.2.2.1 (by omega) (by rw [e24]; exact a1.2)
      cases eo2 : o2 with
      | none =>
        right
        have a2 := q2.2 eo2
        have eo' := n2 eo2
        refine ⟨Or.inr a2, fun r' τ' z y1 y2 => ⟨zz τ' z, y1, fun _ _ => ⟨fun v hv => (by rw [eo'] at hv; exact absurd hv (by simp)), fun _ => by rw [y2, a2]⟩, fun q => absurd q c⟩⟩
      | some b =>
        left
        have a2 := q2.1 b eo2
        exact ⟨l1, a2.2, ⟨a, b, rfl, rfl, a1.1, a2.1⟩, fun r' τ' z y1 y2 => ⟨zz τ' z, y1, fun _ _ => y2, fun q => absurd q c⟩⟩
theorem m_bounded {σ : st_S} {x lv : Int} {Q : Int → st_S → Prop} (hl : lv = 0 ∨ lv = 1) (h1 : lv = 1 → gI σ 0 24 = 0 → wl x = x ∧ ((-1000000000 ≤ x ∧ x ≤ 1000000000) → Q x σ) ∧ (¬ (-1000000000 ≤ x ∧ x ≤ 1000000000) → ∀ r, Q r (sI σ 0 24 1))) (h0 : (lv = 0 ∨ gI σ 0 24 = 1) → ∀ r τ, zE σ τ → gI τ 0 22 = gI σ 0 22 → gI τ 0 24 = gI σ 0 24 → Q r τ) (hb : gI σ 0 24 = 0 ∨ gI σ 0 24 = 1) : wp_X11_bounded x lv σ Q := by
  have dead : (lv = 0 ∨ gI σ 0 24 = 1) → B_X11_bounded_25 Q x σ := fun c => ⟨fun _ => h0 c x σ zE_rfl rfl rfl, fun _ => h0 c 0 σ zE_rfl rfl rfl⟩
  have dead2 : gI σ 0 24 = 1 → B_X11_bounded_20 Q x σ := by
    intro c s es
    have z : zE σ s := by rw [es]; exact zE_24
    have v2 : gI s 0 22 = gI σ 0 22 := by rw [es]; simp only [gI_sI, Nat.reduceAdd, Nat.reduceMul, Nat.reduceEqDiff, false_and, true_and, and_false, and_true, reduceIte, Int.toNat_natCast]
    have v4 : gI s 0 24 = gI σ 0 24 := by rw [es, c]; simp only [gI_sI, Nat.reduceAdd, Nat.reduceMul, Nat.reduceEqDiff, false_and, true_and, and_false, and_true, reduceIte, Int.toNat_natCast]
    exact ⟨fun _ => h0 (Or.inr c) x s z v2 v4, fun _ => h0 (Or.inr c) 0 s z v2 v4⟩
  refine ⟨fun w => dead (Or.inl w), fun w => ?_⟩
  by_cases c : gI σ 0 24 = 1
  · exact ⟨fun _ => dead2 c, fun _ => ⟨fun _ => dead (Or.inr c), fun _ => dead2 c⟩⟩
  · have c0 : gI σ 0 24 = 0 := by omega
    obtain ⟨wx, q1, q2⟩ := h1 (by omega) c0
    have brk : ¬ (-1000000000 ≤ x ∧ x ≤ 1000000000) → B_X11_bounded_20 Q x σ := by
      intro q s es
      subst es
      exact ⟨fun _ => q2 q x, fun _ => q2 q 0⟩
    rw [p_gt wx (by decide), p_ge wx (by decide)]
    exact ⟨fun q => brk (by omega), fun q => ⟨fun q' => ⟨fun _ => q1 (by omega), fun z => absurd c0 z⟩, fun q' => brk (by omega)⟩⟩
section
variable {ord : Bool} {cf vf : Nat → Int} {T : Nat}
theorem tcf_e {i : Nat} (hT : cf T = 0) (hi : i ≤ T) : tcf cf T i = cf i := by
  unfold tcf
  by_cases c : i < T
  · rw [if_pos c]
  · rw [if_neg c, show i = T by omega, hT]
theorem e_chain {R P : Int → Prop} {l : Int} {it : Nat → Nat → zO} {item m : Int → st_S → (Int → st_S → Prop) → Prop} {L : (Int → st_S → Prop) → Nat → Int → Int → st_S → Prop} (hT : cf T = 0) (hm : ∀ lv σ Q, item lv σ (fun r s => ∃ f, L Q f lv r s) → m lv σ Q) (ho : pOk T it)
    (hi : ∀ k lf q, 1 ≤ k → k ≤ T → it k lf = .inr q → tDx R P item ord cf vf T k q.1 q.2.2)
    (hR : ∀ (c : Int) (D D1 : zDn), ¬ jop l c = -1 → ∀ W, (∀ v, D W = some v → R v) → (∀ v, D1 W = some v → R v) → ∀ v, dop (jop l c) D D1 W = some v → R v)
    (h0 : ∀ Q f lv r σ base W k, mEn ord σ base T cf vf W → gI σ 0 22 = ((base + k : Nat) : Int) → k ≤ T → jop l (cf k) = -1 → P r → Q r σ → L Q (f + 1) lv r σ)
    (h1 : ∀ Q f lv r σ σ0 base W k k1 D D1, mEn ord σ base T cf vf W → (gI σ0 0 24 = 0 ∨ gI σ0 0 24 = 1) → (lv = 0 ∨ lv = 1) → k + 1 ≤ T → k1 ≤ T → ¬ jop l (cf k) = -1 → zR σ0 σ lv (base + k) (D W) r → P r → (∀ v, D W = some v → R v) → (∀ v, D1 W = some v → R v) → tDx R P item ord cf vf T (k + 1) k1 D1 → (∀ r' σ', zR σ0 σ' lv (base + k1) (dop (jop l (cf k)) D D1 W) r' → P r' → L Q f lv r' σ') → L Q (f + 1) lv r σ) :
    ∀ k lf q, 1 ≤ k → k ≤ T → pCh cf l it k lf = .inr q → tDx R P m ord cf vf T k q.1 q.2.2 := by
  intro k lf q k0 hk hq
  unfold pCh at hq
  split at hq
  · exact absurd hq (by simp)
  · rename_i q1 e1
    have po := ho k lf q1 hk e1
    have d1 := hi k lf q1 k0 hk e1
    have key : ∀ (f k1 lf1 : Nat) (D : zDn), k1 ≤ T → lf1 ≤ 50 → (∀ W : Nat → Int, (∀ i, wr (W i) = W i) → ∀ v, D W = some v → R v) → pLp cf l it f k1 lf1 D = .inr q → (∀ W : Nat → Int, (∀ i, wr (W i) = W i) → ∀ v, q.2.2 W = some v → R v) ∧ ∀ (σ0 σ : st_S) (base : Nat) (W : Nat → Int) (lv r : Int) (Q : Int → st_S → Prop), mEn ord σ base T cf vf W → (gI σ0 0 24 = 0 ∨ gI σ0 0 24 = 1) → (lv = 0 ∨ lv = 1) → zR σ0 σ lv (base + k1) (D W) r → P r → (∀ r' τ, zR σ0 τ lv (base + q.1) (q.2.2 W) r' → P r' → Q r' τ) → L Q f lv r σ := by
      intro f
      induction f with
      | zero => intro k1 lf1 D _ _ _ hp; exact absurd hp (by simp [pLp])
      | succ f ih =>
        intro k1 lf1 D kT l5 hD hp
        unfold pLp at hp
        split at hp
        · rename_i ej
          cases Sum.inr.inj hp
          refine ⟨hD, fun σ0 σ base W lv r Q he hb hl hz hP hQ => ?_⟩
          exact h0 Q f lv r σ base W k1 he hz.2.1 kT ej hP (hQ r σ hz hP)
        · rename_i nj
          have k1T : k1 + 1 ≤ T := by
            by_cases e : k1 = T
            · rw [e, hT, jop_0] at nj; exact absurd rfl nj
            · omega
          split at hp
          · exact absurd hp (by simp)
          · rename_i q2 e2
            have po2 := ho (k1 + 1) lf1 q2 k1T e2
            have d2 := hi (k1 + 1) lf1 q2 (by omega) k1T e2
            have g := ih q2.1 q2.2.1 _ po2.2.1 po2.2.2.2 (fun W hW => hR (cf k1) D q2.2.2 nj W (hD W hW) (d2.1 W hW)) hp
            refine ⟨g.1, fun σ0 σ base W lv r Q he hb hl hz hP hQ => ?_⟩
            refine h1 Q f lv r σ σ0 base W k1 q2.1 D q2.2.2 he hb hl k1T po2.2.1 nj hz hP (hD W he.2.2.2.1) (d2.1 W he.2.2.2.1) d2 (fun r' σ' hz' hP' => ?_)
            exact g.2 σ0 σ' base W lv r' Q (by
              have z0 : zE σ σ' := by
                refine ⟨hz'.1.1.trans hz.1.1.symm, fun c j a => (hz'.1.2 c j a).trans (hz.1.2 c j a).symm⟩
              exact mEn_of he z0) hb hl hz' hP' hQ
    have kk := key 400 q1.1 q1.2.1 q1.2.2 po.2.1 po.2.2.2 d1.1 hq
    refine ⟨kk.1, fun σ base W lv Q he h22 hb hl hQ => hm lv σ Q (d1.2 σ base W lv _ he h22 hb hl (fun r τ hz hP => ⟨400, kk.2 σ τ base W lv r Q (mEn_of he hz.1) hb hl hz hP hQ⟩))⟩
theorem dop_wr {op : Int} {D D1 : zDn} {W : Nat → Int} (hop : ¬ op = 11) (hop2 : ¬ op = 12) : ∀ v, dop op D D1 W = some v → rSm v := by
  intro v hv
  unfold dop at hv
  rw [if_neg hop, if_neg hop2, Option.bind_eq_some_iff] at hv
  obtain ⟨a, _, hv⟩ := hv
  rw [Option.bind_eq_some_iff] at hv
  obtain ⟨b, _, hv⟩ := hv
  exact xop_wr hv
theorem dop_b {op : Int} {D D1 : zDn} {W : Nat → Int} (hop : ¬ op = 11) (hop2 : ¬ op = 12) : (D W = none → dop op D D1 W = none) ∧ (D1 W = none → dop op D D1 W = none) ∧ ∀ a b, D W = some a → D1 W = some b → dop op D D1 W = xop op a b := by
  unfold dop
  rw [if_neg hop, if_neg hop2]
  refine ⟨fun e => by rw [e]; rfl, fun e => by cases e2 : D W with | none => rfl | some a => rw [e]; rfl, fun a b e1 e2 => by rw [e1, e2]; rfl⟩
/-- a number bounded -/
theorem m_bndR {σ0 τ : st_S} {lv x : Int} {e : Nat} {o' : Option Int} {Q : Int → st_S → Prop} (hl : lv = 0 ∨ lv = 1) (hb : gI τ 0 24 = 0 ∨ gI τ 0 24 = 1) (h22 : gI τ 0 22 = (e : Int)) (live : lv = 1 → gI τ 0 24 = 0 → wl x = x ∧ o' = (if x < -1000000000 ∨ 1000000000 < x then none else some x)) (zl : lv = 1 → gI τ 0 24 = 0 → ∀ r' τ', zE τ τ' → gI τ' 0 22 = (e : Int) → ((∀ v, o' = some v → r' = v ∧ gI τ' 0 24 = 0) ∧ (o' = none → gI τ' 0 24 = 1)) → zR σ0 τ' lv e o' r') (zd : (lv = 0 ∨ gI τ 0 24 = 1) → ∀ r' τ', zE τ τ' → gI τ' 0 22 = (e : Int) → gI τ' 0 24 = gI τ 0 24 → zR σ0 τ' lv e o' r') (hQ : ∀ r' τ', zR σ0 τ' lv e o' r' → Q r' τ') : wp_X11_bounded x lv τ Q := by
  refine m_bounded hl (fun l1 c0 => ?_) (fun c r τ' z a b => hQ r τ' (zd c r τ' z (a.trans h22) b)) hb
  obtain ⟨wx, eo⟩ := live l1 c0
  refine ⟨wx, fun q => ?_, fun q r => ?_⟩
  · rw [if_neg (by omega)] at eo
    exact hQ x τ (zl l1 c0 x τ zE_rfl h22 ⟨fun v hv => ⟨by rw [eo] at hv; exact Option.some.inj hv, c0⟩, fun hv => by rw [eo] at hv; exact absurd hv (by simp)⟩)
  · rw [if_pos (by omega)] at eo
    exact hQ r _ (zl l1 c0 r _ zE_24 (by simp only [gI_sI, Nat.reduceAdd, Nat.reduceMul, Nat.reduceEqDiff, false_and, true_and, and_false, and_true, reduceIte, Int.toNat_natCast]; exact h22) ⟨fun v hv => by rw [eo] at hv; exact absurd hv (by simp), fun _ => by simp only [gI_sI, Nat.reduceAdd, Nat.reduceMul, Nat.reduceEqDiff, false_and, true_and, and_false, and_true, reduceIte, Int.toNat_natCast]⟩)
theorem wr_i32 {v : Int} (h : rSm v) : i32 v := by
  unfold rSm at h
  have := wr_bounds v
  rw [h] at this
  exact this
theorem i32_mul {a b : Int} (ha : i32 a) (hb : i32 b) : -4611686018427387904 ≤ a * b ∧ a * b ≤ 4611686018427387904 := by
  unfold i32 at *
  have h1 : a.natAbs ≤ 2147483648 := by omega
  have h2 : b.natAbs ≤ 2147483648 := by omega
  have h3 : (a * b).natAbs ≤ 2147483648 * 2147483648 := by rw [Int.natAbs_mul]; exact Nat.mul_le_mul h1 h2
  omega
theorem tdiv_c {a b : Int} (ha : i32 a) : -2147483648 ≤ a.tdiv b ∧ a.tdiv b ≤ 2147483648 := by
  unfold i32 at ha
  have h3 : (a.tdiv b).natAbs ≤ a.natAbs := by rw [Int.natAbs_tdiv]; exact Nat.div_le_self _ _
  omega
theorem tmod_c {a b : Int} (ha : i32 a) : -2147483648 ≤ a.tmod b ∧ a.tmod b ≤ 2147483648 := by
  unfold i32 at ha
  have h3 : (a.tmod b).natAbs ≤ a.natAbs := by rw [Int.natAbs_tmod]; exact Nat.mod_le _ _
  omega
set_option maxHeartbeats 400000 in
theorem e_sum {d : Nat} {it : Nat → Nat → zO} (hT : cf T = 0) (hT4 : T ≤ 400) (ho : pOk T it) (hi : ∀ k lf q, 1 ≤ k → k ≤ T → it k lf = .inr q → tDx rSm rTt (wp_X11_termOf d) ord cf vf T k q.1 q.2.2) : ∀ k lf q, 1 ≤ k → k ≤ T → pCh cf 2 it k lf = .inr q → tDx rSm rTt (wp_X11_sumOf (d + 1)) ord cf vf T k q.1 q.2.2 := by
  refine e_chain (L := fun Q f lv r s => L_X11_sumOf_6 Q (wp_X11_partOf d) (wp_X11_sumOf d) (wp_X11_termOf d) f lv r s) hT (fun lv σ Q h => h) ho hi (fun c D D1 nj W _ _ => ?_) (fun Q f lv r σ base W k he h22 kT ej hP hQ => ?_) (fun Q f lv r σ σ0 base W k k1 D D1 he hb hl k1T k2T nj hz hP hD hD1 hd hL => ?_)
  · refine dop_wr ?_ ?_
    · unfold jop; repeat' split
      all_goals omega
    · unfold jop; repeat' split
      all_goals omega
  · have ji := (jop_i (cf k)).2.2.1.mp ej
    have te := tcf_e hT kT
    refine m_codeAt he (by omega) h22 ?_
    rw [te]
    refine m_sg (c := 43) (by decide) ⟨fun w => absurd w ji.1, fun _ => m_codeAt he (by omega) h22 ?_⟩
    rw [te]
    exact m_sg (c := 45) (by decide) ⟨fun _ => hQ, fun w => absurd w ji.2⟩
  · have ji := (jop_i (cf k)).2.2.1
    have te := tcf_e (i := k) hT (by omega)
    have h22 := hz.2.1
    have b8 := he.2.1
    -- behind the sign
    have go : ∀ (pl : Int) (op : Int), ((pl = 1 ∧ op = 2) ∨ (pl = 0 ∧ op = 3)) → jop 2 (cf k) = op → B_X11_sumOf_59 Q (wp_X11_partOf d) (wp_X11_sumOf d) (wp_X11_termOf d) (L_X11_sumOf_6 Q (wp_X11_partOf d) (wp_X11_sumOf d) (wp_X11_termOf d) f) lv r pl σ := by
      intro pl op hpl ejo
      intro x ex s es
      rw [h22, wks (by omega)] at ex
      have v22 : gI s 0 22 = ((base + (k + 1) : Nat) : Int) := by rw [es, ex]; simp only [gI_sI, Nat.reduceAdd, Nat.reduceMul, Nat.reduceEqDiff, false_and, true_and, and_false, and_true, reduceIte, Int.toNat_natCast]; omega
      have e24 : gI s 0 24 = gI σ 0 24 := by rw [es]; simp only [gI_sI, Nat.reduceAdd, Nat.reduceMul, Nat.reduceEqDiff, false_and, true_and, and_false, and_true, reduceIte, Int.toNat_natCast]
      have zs : zE σ s := by rw [es]; exact zE_22
      rw [ejo] at hL
      refine hd.2 s base W lv _ (mEn_of he zs) v22 (by rw [e24]; exact zR_24 hz hb hl) hl (fun w τ hz2 _ => ?_)
      have db := dop_b (op := op) (D := D) (D1 := D1) (W := W) (by omega) (by omega)
      have cb := zR_comb (o' := dop op D D1 W) hz (by rw [v22, es, ex]; rfl) hz2 hb hl db.1 db.2.1
      have b24 := zR_24 hz2 (by rw [e24]; exact zR_24 hz hb hl) hl
      have fin : ∀ x : Int, (∀ a b, D W = some a → D1 W = some b → r = a → w = b → wl x = x ∧ xop op a b = (if x < -1000000000 ∨ 1000000000 < x then none else some x)) → wp_X11_bounded x lv τ (fun r29 s30 => L_X11_sumOf_6 Q (wp_X11_partOf d) (wp_X11_sumOf d) (wp_X11_termOf d) f lv r29 s30) := by
        intro x hx
        rcases cb with ⟨c1, c2, ⟨a, b, oa, ob, ra, wb⟩, c4⟩ | ⟨c1, c2⟩
        · exact m_bndR (e := base + k1) hl b24 hz2.2.1 (fun _ _ => by rw [db.2.2 a b oa ob]; exact hx a b oa ob ra wb) (fun _ _ => c4) (fun q => absurd q (by omega)) (fun r' τ' z => hL r' τ' z trivial)
        · exact m_bndR (e := base + k1) hl b24 hz2.2.1 (fun q1 q2 => absurd c1 (by omega)) (fun q1 q2 => absurd c1 (by omega)) (fun _ => c2) (fun r' τ' z => hL r' τ' z trivial)
      refine ⟨fun p0 => ?_, fun p1 => ?_⟩
      · intro y ey
        refine fin y (fun a b oa ob ra wb => ?_)
        have ia := wr_i32 (hD a oa)
        have ib := wr_i32 (hD1 b ob)
        unfold i32 at ia ib
        rw [ra, wb, wl_id (by omega) (by omega)] at ey
        have eop : op = 3 := by clear cb; omega
        subst ey eop
        refine ⟨wl_id (by omega) (by omega), rfl⟩
      · intro y ey
        refine fin y (fun a b oa ob ra wb => ?_)
        have ia := wr_i32 (hD a oa)
        have ib := wr_i32 (hD1 b ob)
        unfold i32 at ia ib
        rw [ra, wb, wl_id (by omega) (by omega)] at ey
        have eop : op = 2 := by clear cb; omega
        subst ey eop
        refine ⟨wl_id (by omega) (by omega), rfl⟩
    have at38 : B_X11_sumOf_38 Q (wp_X11_partOf d) (wp_X11_sumOf d) (wp_X11_termOf d) (L_X11_sumOf_6 Q (wp_X11_partOf d) (wp_X11_sumOf d) (wp_X11_termOf d) f) lv r σ := by
      refine m_codeAt he (by omega) h22 ?_
      rw [te]
      refine m_sg (c := 43) (by decide) ⟨fun w => ?_, fun w => ?_⟩
      · have c5 : cf k = 145 := by
          by_cases c5 : cf k = 145
          · exact c5
          · exact absurd (ji.mpr ⟨w, c5⟩) nj
        exact go 0 3 (Or.inr ⟨rfl, rfl⟩) (by rw [c5]; rfl)
      · have c5 : cf k = 143 := w
        exact go 1 2 (Or.inl ⟨rfl, rfl⟩) (by rw [c5]; rfl)
    refine m_codeAt he (by omega) h22 ?_
    rw [te]
    refine m_sg (c := 43) (by decide) ⟨fun _ => at38, fun w => m_codeAt he (by omega) h22 ?_⟩
    rw [te]
    exact m_sg (c := 45) (by decide) ⟨fun w2 => absurd (ji.mpr ⟨w, w2⟩) nj, fun _ => at38⟩
set_option maxHeartbeats 400000 in
theorem e_term {d : Nat} {it : Nat → Nat → zO} (hT : cf T = 0) (hT4 : T ≤ 400) (ho : pOk T it) (hi : ∀ k lf q, 1 ≤ k → k ≤ T → it k lf = .inr q → tDx rSm rTt (wp_X11_partOf d) ord cf vf T k q.1 q.2.2) : ∀ k lf q, 1 ≤ k → k ≤ T → pCh cf 3 it k lf = .inr q → tDx rSm rTt (wp_X11_termOf (d + 1)) ord cf vf T k q.1 q.2.2 := by
  refine e_chain (L := fun Q f lv r s => L_X11_termOf_6 Q (wp_X11_partOf d) (wp_X11_sumOf d) (wp_X11_termOf d) f lv r s) hT (fun lv σ Q h => h) ho hi (fun c D D1 nj W _ _ => ?_) (fun Q f lv r σ base W k he h22 kT ej hP hQ => ?_) (fun Q f lv r σ σ0 base W k k1 D D1 he hb hl k1T k2T nj hz hP hD hD1 hd hL => ?_)
  · refine dop_wr ?_ ?_
    · unfold jop; repeat' split
      all_goals omega
    · unfold jop; repeat' split
      all_goals omega
  · have ji := (jop_i (cf k)).2.2.2.mp ej
    have te := tcf_e hT kT
    refine m_codeAt he (by omega) h22 ?_
    rw [te]
    refine m_sg (c := 42) (by decide) ⟨fun w => absurd w ji.1, fun _ => m_codeAt he (by omega) h22 ?_⟩
    rw [te]
    refine m_sg (c := 47) (by decide) ⟨fun w => absurd w ji.2.1, fun _ => m_codeAt he (by omega) h22 ?_⟩
    rw [te]
    exact m_sg (c := 37) (by decide) ⟨fun _ => hQ, fun w => absurd w ji.2.2⟩
  · have ji := (jop_i (cf k)).2.2.2
    have te := tcf_e (i := k) hT (by omega)
    have h22 := hz.2.1
    have b8 := he.2.1
    have at54 : B_X11_termOf_54 Q (wp_X11_partOf d) (wp_X11_sumOf d) (wp_X11_termOf d) (L_X11_termOf_6 Q (wp_X11_partOf d) (wp_X11_sumOf d) (wp_X11_termOf d) f) lv r σ := by
      refine m_codeAt he (by omega) h22 ?_
      rw [te]
      intro x ex s es
      rw [h22, wks (by omega)] at ex
      have v22 : gI s 0 22 = ((base + (k + 1) : Nat) : Int) := by rw [es, ex]; simp only [gI_sI, Nat.reduceAdd, Nat.reduceMul, Nat.reduceEqDiff, false_and, true_and, and_false, and_true, reduceIte, Int.toNat_natCast]; omega
      have e24 : gI s 0 24 = gI σ 0 24 := by rw [es]; simp only [gI_sI, Nat.reduceAdd, Nat.reduceMul, Nat.reduceEqDiff, false_and, true_and, and_false, and_true, reduceIte, Int.toNat_natCast]
      have zs : zE σ s := by rw [es]; exact zE_22
      generalize eop : jop 3 (cf k) = op at hL
      have opv : (cf k = 142 ∧ op = 4) ∨ (cf k = 147 ∧ op = 5) ∨ (cf k = 137 ∧ op = 6) := by
        rw [← eop]
        by_cases c1 : cf k = 142
        · left; rw [c1]; exact ⟨rfl, rfl⟩
        · by_cases c2 : cf k = 147
          · right; left; rw [c2]; exact ⟨rfl, rfl⟩
          · by_cases c3 : cf k = 137
            · right; right; rw [c3]; exact ⟨rfl, rfl⟩
            · exact absurd (ji.mpr ⟨c1, c2, c3⟩) nj
      refine hd.2 s base W lv _ (mEn_of he zs) v22 (by rw [e24]; exact zR_24 hz hb hl) hl (fun w τ hz2 _ => ?_)
      have db := dop_b (op := op) (D := D) (D1 := D1) (W := W) (by omega) (by omega)
      have cb := zR_comb (o' := dop op D D1 W) hz (by rw [v22, es, ex]; rfl) hz2 hb hl db.1 db.2.1
      have b24 := zR_24 hz2 (by rw [e24]; exact zR_24 hz hb hl) hl
      -- bounded, behind a state that differs from τ in broken alone
      have fin : ∀ (x : Int), (∀ a b, D W = some a → D1 W = some b → r = a → w = b → wl x = x ∧ xop op a b = (if x < -1000000000 ∨ 1000000000 < x then none else some x)) → wp_X11_bounded x lv τ (fun r29 s30 => L_X11_termOf_6 Q (wp_X11_partOf d) (wp_X11_sumOf d) (wp_X11_termOf d) f lv r29 s30) := by
        intro x hx
        rcases cb with ⟨c1, c2, ⟨a, b, oa, ob, ra, wb⟩, c4⟩ | ⟨c1, c2⟩
        · exact m_bndR (e := base + k1) hl b24 hz2.2.1 (fun _ _ => by rw [db.2.2 a b oa ob]; exact hx a b oa ob ra wb) (fun _ _ => c4) (fun q => absurd q (by omega)) (fun r' τ' z => hL r' τ' z trivial)
        · exact m_bndR (e := base + k1) hl b24 hz2.2.1 (fun q1 q2 => absurd c1 (by omega)) (fun q1 q2 => absurd c1 (by omega)) (fun _ => c2) (fun r' τ' z => hL r' τ' z trivial)
      have ci : ∀ a, D W = some a → i32 a := fun a e => wr_i32 (hD a e)
      have ci1 : ∀ a, D1 W = some a → i32 a := fun a e => wr_i32 (hD1 a e)
      have at121 : (cf k = 142 ∨ ¬ w = 0) → B_X11_termOf_121 Q (wp_X11_partOf d) (wp_X11_sumOf d) (wp_X11_termOf d) (L_X11_termOf_6 Q (wp_X11_partOf d) (wp_X11_sumOf d) (wp_X11_termOf d) f) lv r (cf k) w τ := by
        intro hw
        refine m_sg (c := 42) (by decide) ⟨fun c1 => m_sg (c := 47) (by decide) ⟨fun c2 => ?_, fun c2 => ?_⟩, fun c1 => ?_⟩
        · have c1' : ¬ cf k = 142 := c1
          have c2' : ¬ cf k = 147 := c2
          have w0 : ¬ w = 0 := by rcases hw with q | q; exact absurd q c1'; exact q
          refine ⟨w0, fin _ (fun a b oa ob ra wb => ?_)⟩
          have ia := ci a oa
          have ib := ci1 b ob
          have e6 : op = 6 := by clear cb; omega
          rw [ra, wb, p_rem_v ia ib]
          have tb := tmod_c (b := b) ia
          refine ⟨wl_id (by omega) (by omega), ?_⟩
          rw [e6]
          show ((if b = 0 then none else some (a.tmod b)).bind _) = _
          rw [if_neg (by rw [← wb]; exact w0)]
          rfl
        · have c2' : cf k = 147 := c2
          have w0 : ¬ w = 0 := by rcases hw with q | q; exact absurd q (by omega); exact q
          refine ⟨w0, fin _ (fun a b oa ob ra wb => ?_)⟩
          have ia := ci a oa
          have ib := ci1 b ob
          have e6 : op = 5 := by clear cb; omega
          rw [ra, wb, p_div_v ia ib]
          have tb := tdiv_c (b := b) ia
          refine ⟨wl_id (by omega) (by omega), ?_⟩
          rw [e6]
          show ((if b = 0 then none else some (a.tdiv b)).bind _) = _
          rw [if_neg (by rw [← wb]; exact w0)]
          rfl
        · have c1' : cf k = 142 := c1
          intro y ey
          refine fin y (fun a b oa ob ra wb => ?_)
          have ia := ci a oa
          have ib := ci1 b ob
          have mb := i32_mul ia ib
          have e6 : op = 4 := by clear cb; omega
          rw [ra, wb, wl_id (by omega) (by omega)] at ey
          subst ey
          refine ⟨wl_id (by omega) (by omega), ?_⟩
          rw [e6]
          rfl
      -- a division by nothing
      have at115 : ¬ cf k = 142 → eqL w 0 → ∀ v0 : Int, v0 = (if lv = 0 ∧ gI τ 0 24 = 0 then 0 else 1) → B_X11_termOf_115 Q (wp_X11_partOf d) (wp_X11_sumOf d) (wp_X11_termOf d) (L_X11_termOf_6 Q (wp_X11_partOf d) (wp_X11_sumOf d) (wp_X11_termOf d) f) lv r (cf k) v0 τ := by
        intro c1 w0 v0 ev0
        refine ⟨by rw [ev0]; split; exact Or.inl rfl; exact Or.inr rfl, ?_⟩
        intro s2 es2
        have z2 : zE τ s2 := by rw [es2]; exact zE_24
        have y22 : gI s2 0 22 = ((base + k1 : Nat) : Int) := by rw [es2]; simp only [gI_sI, Nat.reduceAdd, Nat.reduceMul, Nat.reduceEqDiff, false_and, true_and, and_false, and_true, reduceIte, Int.toNat_natCast]; exact hz2.2.1
        have y24 : gI s2 0 24 = v0 := by rw [es2]; simp only [gI_sI, Nat.reduceAdd, Nat.reduceMul, Nat.reduceEqDiff, false_and, true_and, and_false, and_true, reduceIte, Int.toNat_natCast]
        have fin2 : ∀ (x : Int), wp_X11_bounded x lv s2 (fun r29 s30 => L_X11_termOf_6 Q (wp_X11_partOf d) (wp_X11_sumOf d) (wp_X11_termOf d) f lv r29 s30) := by
          intro x
          refine m_bounded hl (fun q1 q2 => ?_) (fun c r' τ' z a b => hL r' τ' ?_ trivial) (by rw [y24, ev0]; split; exact Or.inl rfl; exact Or.inr rfl)
          · rw [y24, ev0, if_neg (by omega)] at q2
            exact absurd q2 (by decide)
          · rcases cb with ⟨d1, d2, ⟨a', b', oa, ob, ra, wb⟩, d4⟩ | ⟨d1, d2⟩
            · refine d4 r' τ' (zE_tr z2 z) (a.trans y22) ?_
              have b0 : b' = 0 := by
                rw [wb] at w0
                have ib := ci1 b' ob
                unfold i32 at ib
                unfold eqL at w0
                rw [wl_id (by omega) (by omega)] at w0
                exact w0
              have eo : dop op D D1 W = none := by
                rw [db.2.2 a' b' oa ob, b0]
                rcases opv with q | q | q
                · exact absurd q.1 c1
                · rw [q.2]; rfl
                · rw [q.2]; rfl
              rw [eo]
              exact ⟨fun v hv => absurd hv (by simp), fun _ => by rw [b, y24, ev0, if_neg (by omega)]⟩
            · refine d2 r' τ' (zE_tr z2 z) (a.trans y22) ?_
              rw [b, y24, ev0]
              split
              · rename_i q; exact q.2.symm
              · rcases d1 with q | q
                · omega
                · exact q.symm
        refine m_sg (c := 42) (by decide) ⟨fun _ => m_sg (c := 47) (by decide) ⟨fun _ => ⟨by decide, fin2 _⟩, fun _ => ⟨by decide, fin2 _⟩⟩, fun c => absurd c c1⟩
      refine m_sg (c := 42) (by decide) ⟨fun c1 => at121 (Or.inl c1), fun c1 => ⟨fun pc => at121 (Or.inr (fun q => pc (by rw [q]; exact p_eqL.mpr eqL_rfl))), fun pc => ⟨fun b1 => at115 c1 (p_eqL.mp pc) 1 (by rw [if_neg (by omega)]), fun b0 => ⟨fun l0 => at115 c1 (p_eqL.mp pc) 0 (by rw [if_pos ⟨l0, b0⟩]), fun l0 => at115 c1 (p_eqL.mp pc) 1 (by rw [if_neg (by omega)])⟩⟩⟩⟩
    refine m_codeAt he (by omega) h22 ?_
    rw [te]
    refine m_sg (c := 42) (by decide) ⟨fun _ => at54, fun w1 => m_codeAt he (by omega) h22 ?_⟩
    rw [te]
    refine m_sg (c := 47) (by decide) ⟨fun _ => at54, fun w2 => m_codeAt he (by omega) h22 ?_⟩
    rw [te]
    exact m_sg (c := 37) (by decide) ⟨fun w3 => absurd (ji.mpr ⟨w1, w2, w3⟩) nj, fun _ => at54⟩
end
