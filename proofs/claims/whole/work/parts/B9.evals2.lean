/-! the reference works a text out: parts, comparisons, tests -/
section
variable {ord : Bool} {cf vf : Nat → Int} {T : Nat}
/-- a leaf: the number stands where nothing is broken, anything elsewhere -/
theorem zR_leaf {σ τ : st_S} {lv r : Int} {e : Nat} {v : Int} (z : zE σ τ) (h22 : gI τ 0 22 = (e : Int)) (h24 : gI τ 0 24 = gI σ 0 24) (h : ¬ lv = 0 → gI σ 0 24 = 0 → r = v) : zR σ τ lv e (some v) r :=
  ⟨z, h22, fun q1 q2 => ⟨fun u hu => ⟨by rw [h q1 q2]; exact Option.some.inj hu, by rw [h24]; exact q2⟩, fun hu => absurd hu (by simp)⟩, fun _ => h24⟩
set_option maxHeartbeats 400000 in
theorem e_part {d : Nat} {inner : Option (Nat → Nat → zO)} (hT : cf T = 0) (hT4 : T ≤ 400) (hv : ∀ k, 0 ≤ vf k ∧ vf k ≤ 10000009) (hi : ∀ g, inner = some g → pOk T g ∧ ∀ k lf q, 1 ≤ k → k ≤ T → g k lf = .inr q → tDx rSm rTt (wp_X11_sumOf d) ord cf vf T k q.1 q.2.2) : ∀ k lf q, 1 ≤ k → k ≤ T → pPt ord cf vf inner k lf = .inr q → tDx rSm rTt (wp_X11_partOf (d + 1)) ord cf vf T k q.1 q.2.2 := by
  intro k lf q k0 hk hq
  have po := pOk_pt (ord := ord) (vf := vf) (inner := inner) hT (fun g e => (hi g e).1) k lf q hk hq
  have te := tcf_e hT hk
  unfold pPt at hq
  by_cases e91 : cf k = 191
  · rw [if_pos e91] at hq
    have k1T := cf_lt hT hk e91 (by decide)
    cases inner with
    | none => exact absurd hq (by simp [pBr])
    | some g =>
      obtain ⟨pg, hg⟩ := hi g rfl
      unfold pBr at hq
      dsimp only at hq
      split at hq
      · exact absurd hq (by simp)
      · rename_i q1 e1
        have p1 := pg (k + 1) lf q1 k1T e1
        have d1 := hg (k + 1) lf q1 (by omega) k1T e1
        split at hq
        · cases Sum.inr.inj hq
          refine ⟨d1.1, fun σ base W lv Q he h22 hb hl hQ => ?_⟩
          have b8 := he.2.1
          change e_X11_partOf (wp_X11_partOf d) (wp_X11_sumOf d) (wp_X11_termOf d) lv σ Q
          unfold e_X11_partOf
          refine m_sg (c := 91) (by decide) (m_passes he (by omega) h22 (fun _ => ⟨fun w => absurd w (by decide), fun _ => ?_⟩) (fun w => absurd (te.trans e91) w))
          refine d1.2 _ base W lv _ (mEn_of he zE_22) (by simp only [gI_sI, Nat.reduceAdd, Nat.reduceMul, Nat.reduceEqDiff, false_and, true_and, and_false, and_true, reduceIte, Int.toNat_natCast]) (by simp only [gI_sI, Nat.reduceAdd, Nat.reduceMul, Nat.reduceEqDiff, false_and, true_and, and_false, and_true, reduceIte, Int.toNat_natCast]; exact hb) hl (fun r τ hz _ => ?_)
          intro x ex s es
          rw [hz.2.1, wks (by omega)] at ex
          subst ex
          refine hQ r s ⟨zE_tr zE_22 (zE_tr hz.1 (by rw [es]; exact zE_22)), by rw [es]; simp only [gI_sI, Nat.reduceAdd, Nat.reduceMul, Nat.reduceEqDiff, false_and, true_and, and_false, and_true, reduceIte, Int.toNat_natCast]; omega, fun a b => ?_, fun a => ?_⟩ trivial
          · have := hz.2.2.1 a (by simp only [gI_sI, Nat.reduceAdd, Nat.reduceMul, Nat.reduceEqDiff, false_and, true_and, and_false, and_true, reduceIte, Int.toNat_natCast]; exact b)
            rw [es]
            simp only [gI_sI, Nat.reduceAdd, Nat.reduceMul, Nat.reduceEqDiff, false_and, true_and, and_false, and_true, reduceIte, Int.toNat_natCast]
            exact this
          · have := hz.2.2.2 (by simp only [gI_sI, Nat.reduceAdd, Nat.reduceMul, Nat.reduceEqDiff, false_and, true_and, and_false, and_true, reduceIte, Int.toNat_natCast]; exact a)
            rw [es]
            simp only [gI_sI, Nat.reduceAdd, Nat.reduceMul, Nat.reduceEqDiff, false_and, true_and, and_false, and_true, reduceIte, Int.toNat_natCast] at this ⊢
            exact this
        · exact absurd hq (by simp)
  · rw [if_neg e91] at hq
    split at hq
    · rename_i c
      have k1T : k + 1 ≤ T := by
        by_cases e : k = T
        · subst e
          rw [hT] at c
          rcases c with w | w
          · exact absurd w.1 (by decide)
          · exact absurd (by cases ord <;> rfl) w
        · omega
      split at hq
      · exact absurd hq (by simp)
      · -- the walk that all leaves share
        have walk : ∀ (σ : st_S) (base : Nat) (W : Nat → Int) (lv : Int) (Q : Int → st_S → Prop), mEn ord σ base T cf vf W → gI σ 0 22 = ((base + k : Nat) : Int) → (cf k = 24 ∨ cf k = 25 → B_X11_partOf_63 Q (wp_X11_partOf d) (wp_X11_sumOf d) (wp_X11_termOf d) lv (cf k) (sI σ 0 22 ((base + (k + 1) : Nat) : Int))) → (¬ cf k = 24 → ¬ cf k = 25 → B_X11_partOf_87 Q (wp_X11_partOf d) (wp_X11_sumOf d) (wp_X11_termOf d) lv (cf k) 0 (sI σ 0 22 ((base + (k + 1) : Nat) : Int))) → wp_X11_partOf (d + 1) lv σ Q := by
          intro σ base W lv Q he h22 hw hn
          have b8 := he.2.1
          change e_X11_partOf (wp_X11_partOf d) (wp_X11_sumOf d) (wp_X11_termOf d) lv σ Q
          unfold e_X11_partOf
          refine m_sg (c := 91) (by decide) (m_passes he (by omega) h22 (fun w => absurd (te.symm.trans w) e91) (fun _ => ⟨fun _ => m_codeAt he (by omega) h22 ?_, fun w => absurd rfl w⟩))
          rw [te]
          intro x ex s es
          rw [h22, wks (by omega)] at ex
          subst ex
          subst es
          exact ⟨fun w => hw (Or.inl w), fun w => ⟨fun w2 => hn w w2, fun w2 => hw (Or.inr w2)⟩⟩
        split at hq
        · rename_i c5
          cases Sum.inr.inj hq
          have v1 : vf k ≤ 1000 := by
            rcases c with w | w
            · exact w.2
            · rw [c5] at w; exact absurd (by cases ord <;> rfl) w
          refine ⟨fun W hW v hvv => by cases Option.some.inj hvv; exact wr_id (by have := hv k; omega) (by omega), fun σ base W lv Q he h22 hb hl hQ => ?_⟩
          have b8 := he.2.1
          refine walk σ base W lv Q he h22 (fun w => by omega) (fun w1 w2 => ?_)
          have z1 : zE σ (sI σ 0 22 ((base + (k + 1) : Nat) : Int)) := zE_22
          have g24 : gI (sI σ 0 22 ((base + (k + 1) : Nat) : Int)) 0 24 = gI σ 0 24 := by simp only [gI_sI, Nat.reduceAdd, Nat.reduceMul, Nat.reduceEqDiff, false_and, true_and, and_false, and_true, reduceIte, Int.toNat_natCast]
          have g22 : gI (sI σ 0 22 ((base + (k + 1) : Nat) : Int)) 0 22 = ((base + (k + 1) : Nat) : Int) := by simp only [gI_sI, Nat.reduceAdd, Nat.reduceMul, Nat.reduceEqDiff, false_and, true_and, and_false, and_true, reduceIte, Int.toNat_natCast]
          have out : ∀ r, (¬ lv = 0 → gI σ 0 24 = 0 → r = vf k) → Q r (sI σ 0 22 ((base + (k + 1) : Nat) : Int)) := fun r hr => hQ r _ (zR_leaf z1 g22 g24 hr) trivial
          unfold B_X11_partOf_87
          rw [g24]
          refine ⟨fun l0 => out 0 (fun q => absurd l0 q), fun l1 => ⟨fun b0 => ⟨fun w => absurd w w1, fun _ => ⟨fun _ => ⟨fun w => absurd c5 w, fun _ => ?_⟩, fun w => absurd w w2⟩⟩, fun b0 => out 0 (fun _ q => absurd q b0)⟩⟩
          rw [g22, show (3066 + ((base + (k + 1) : Nat) : Int) - 1) = ((3066 + base + k : Nat) : Int) by omega, wr_n (by omega), Int.toNat_natCast]
          refine ⟨ixn (by omega), out _ (fun _ _ => ?_)⟩
          show gI σ 2 (3066 + base + k) = vf k
          exact (he.2.2.1 k (by omega)).2
        · rename_i c5
          have cw : ¬ wdI ord (cf k) = -1 := by rcases c with w | w; exact absurd w.1 c5; exact w
          have wv := wd_v (ord := ord) (cf k)
          have wi := wd_i (ord := ord) (cf k)
          split at hq
          · rename_i cc
            split at hq
            · rename_i c7
              cases Sum.inr.inj hq
              refine ⟨fun W hW v hvv => by cases Option.some.inj hvv; exact hW _, fun σ base W lv Q he h22 hb hl hQ => ?_⟩
              have b8 := he.2.1
              have c24 := (wi.2.1 cc.1).mp cc.2
              have k2T := cf_lt hT k1T c7.1 (by decide)
              obtain ⟨p, ep⟩ : ∃ p : Nat, vf (k + 1) = (p : Int) := ⟨(vf (k + 1)).toNat, by have := hv (k + 1); omega⟩
              refine walk σ base W lv Q he h22 (fun _ => ?_) (fun w1 w2 => by omega)
              have s1v : gI (sI σ 0 22 ((base + (k + 1) : Nat) : Int)) 0 22 = ((base + (k + 1) : Nat) : Int) := by simp only [gI_sI, Nat.reduceAdd, Nat.reduceMul, Nat.reduceEqDiff, false_and, true_and, and_false, and_true, reduceIte, Int.toNat_natCast]
              unfold B_X11_partOf_63
              rw [s1v, show (3066 + ((base + (k + 1) : Nat) : Int)) = ((3066 + base + (k + 1) : Nat) : Int) by omega, wr_n (by omega), Int.toNat_natCast]
              refine ⟨ixn (by omega), ?_⟩
              intro x ex y ey s es
              rw [wks (by omega)] at ey
              have e0 : gI (sI σ 0 22 ((base + (k + 1) : Nat) : Int)) 2 (3066 + base + (k + 1)) = gI σ 2 (3066 + base + (k + 1)) := by rw [gI_sI, if_neg (by omega)]
              rw [e0, (he.2.2.1 (k + 1) (by omega)).2, ep] at ex
              subst ex
              have z1 : zE σ s := by rw [es]; exact zE_tr zE_22 zE_22
              have g24 : gI s 0 24 = gI σ 0 24 := by rw [es]; simp only [gI_sI, Nat.reduceAdd, Nat.reduceMul, Nat.reduceEqDiff, false_and, true_and, and_false, and_true, reduceIte, Int.toNat_natCast]
              have g22 : gI s 0 22 = ((base + (k + 2) : Nat) : Int) := by rw [es, ey]; simp only [gI_sI, Nat.reduceAdd, Nat.reduceMul, Nat.reduceEqDiff, false_and, true_and, and_false, and_true, reduceIte, Int.toNat_natCast]; omega
              have out : ∀ r, (¬ lv = 0 → gI σ 0 24 = 0 → r = W (5 + (wdI ord (cf k) - 5) * 10 + vf (k + 1)).toNat) → Q r s := fun r hr => hQ r s (zR_leaf z1 g22 g24 hr) trivial
              have he2 := mEn_of he z1
              obtain ⟨f8, hw5, n, n10, e256, hp⟩ := he2.2.2.2.2.2 cc.1
              have p9 : p < 10 := by have := c7.2; omega
              have hpp := hp p p9
              have wdv : (cf k = 24 → wdI ord (cf k) = 5) ∧ (cf k = 25 → wdI ord (cf k) = 6) := by rw [cc.1]; exact ⟨fun e => by rw [e]; rfl, fun e => by rw [e]; rfl⟩
              have at112 : B_X11_partOf_112 Q (wp_X11_partOf d) (wp_X11_sumOf d) (wp_X11_termOf d) (cf k) (p : Int) s := by
                refine m_isPerson n10 e256 (fun q => ⟨fun _ => ⟨fun n24 => ?_, fun e24 => ?_⟩, fun w => absurd w (by decide)⟩) (fun q => ⟨fun w => absurd rfl w, fun _ => ?_⟩)
                · have e25 : cf k = 25 := by omega
                  rw [show (0 + (p : Int)) = ((p : Nat) : Int) by omega, wr_n (by omega), Int.toNat_natCast]
                  have w15 := (hpp.1 (by omega)).2.2.2
                  refine ⟨ixn (by omega), fun c2 => out 0 (fun _ _ => ?_), fun c2 => out 1 (fun _ _ => ?_)⟩
                  · rw [wdv.2 e25, ep, show (5 + ((6 : Int) - 5) * 10 + (p : Int)).toNat = 15 + p by omega, w15, if_neg c2]
                  · rw [wdv.2 e25, ep, show (5 + ((6 : Int) - 5) * 10 + (p : Int)).toNat = 15 + p by omega, w15, if_pos c2]
                · have w5 := hpp.1 (by omega)
                  refine m_worthOf p9 ⟨w5.2.1, w5.2.2.1⟩ (out _ (fun _ _ => ?_))
                  rw [wdv.1 e24, ep, show (5 + ((5 : Int) - 5) * 10 + (p : Int)).toNat = 5 + p by omega, w5.1]
                · have w5 := hpp.2 (by omega)
                  refine out _ (fun _ _ => ?_)
                  rcases c24 with e24 | e24
                  · rw [wdv.1 e24, ep, show (5 + ((5 : Int) - 5) * 10 + (p : Int)).toNat = 5 + p by omega, w5.1]
                  · rw [wdv.2 e24, ep, show (5 + ((6 : Int) - 5) * 10 + (p : Int)).toNat = 15 + p by omega, w5.2]
              unfold B_X11_partOf_87
              rw [g24]
              exact ⟨fun l0 => out 0 (fun q => absurd l0 q), fun l1 => ⟨fun b0 => ⟨fun _ => at112, fun n24 => ⟨fun n25 => by omega, fun _ => at112⟩⟩, fun b0 => out 0 (fun _ q => absurd q b0)⟩⟩
            · exact absurd hq (by simp)
          · rename_i cc
            cases Sum.inr.inj hq
            refine ⟨fun W hW v hvv => by cases Option.some.inj hvv; exact hW _, fun σ base W lv Q he h22 hb hl hQ => ?_⟩
            have b8 := he.2.1
            have n45 : ¬ cf k = 24 ∧ ¬ cf k = 25 := by
              cases ord with
              | true => exact ⟨fun w => cc ⟨rfl, (wi.2.1 rfl).mpr (Or.inl w)⟩, fun w => cc ⟨rfl, (wi.2.1 rfl).mpr (Or.inr w)⟩⟩
              | false => exact wi.2.2 rfl cw
            refine walk σ base W lv Q he h22 (fun w => absurd w (by omega)) (fun w1 w2 => ?_)
            have z1 : zE σ (sI σ 0 22 ((base + (k + 1) : Nat) : Int)) := zE_22
            have g24 : gI (sI σ 0 22 ((base + (k + 1) : Nat) : Int)) 0 24 = gI σ 0 24 := by simp only [gI_sI, Nat.reduceAdd, Nat.reduceMul, Nat.reduceEqDiff, false_and, true_and, and_false, and_true, reduceIte, Int.toNat_natCast]
            have g22 : gI (sI σ 0 22 ((base + (k + 1) : Nat) : Int)) 0 22 = ((base + (k + 1) : Nat) : Int) := by simp only [gI_sI, Nat.reduceAdd, Nat.reduceMul, Nat.reduceEqDiff, false_and, true_and, and_false, and_true, reduceIte, Int.toNat_natCast]
            have g8 : gI (sI σ 0 22 ((base + (k + 1) : Nat) : Int)) 0 8 = gI σ 0 8 := by simp only [gI_sI, Nat.reduceAdd, Nat.reduceMul, Nat.reduceEqDiff, false_and, true_and, and_false, and_true, reduceIte, Int.toNat_natCast]
            have g12 : ∀ j, gI (sI σ 0 22 ((base + (k + 1) : Nat) : Int)) 12 j = gI σ 12 j := fun j => by simp only [gI_sI, Nat.reduceAdd, Nat.reduceMul, Nat.reduceEqDiff, false_and, true_and, and_false, and_true, reduceIte, Int.toNat_natCast]
            have out : ∀ r, (¬ lv = 0 → gI σ 0 24 = 0 → r = W (wdI ord (cf k)).toNat) → Q r (sI σ 0 22 ((base + (k + 1) : Nat) : Int)) := fun r hr => hQ r _ (zR_leaf z1 g22 g24 hr) trivial
            unfold B_X11_partOf_87
            rw [g24]
            refine ⟨fun l0 => out 0 (fun q => absurd l0 q), fun l1 => ⟨fun b0 => ⟨fun w => absurd w w1, fun _ => ⟨fun _ => ⟨fun _ => ?_, fun w => absurd w c5⟩, fun w => absurd w w2⟩⟩, fun b0 => out 0 (fun _ q => absurd q b0)⟩⟩
            rw [g8]
            have lim := fun q => cw (wi.1.mpr q)
            cases ord with
            | false =>
              obtain ⟨f8, f12⟩ := he.2.2.2.2.1 rfl
              have lo : 10 ≤ cf k ∧ cf k ≤ 19 := by
                have a : ¬ cf k < 10 := fun q => lim (Or.inl q)
                have b : ¬ 19 < cf k := fun q => lim (Or.inr q)
                clear lim wi
                omega
              obtain ⟨i, ei⟩ : ∃ i : Nat, cf k = ((10 + i : Nat) : Int) := ⟨(cf k - 10).toNat, by omega⟩
              rw [f8, ei, show (((10 + i : Nat) : Int) - 10) = ((i : Nat) : Int) by omega, wr_n (by omega), Int.toNat_natCast]
              refine ⟨ixn (by omega), out _ (fun _ _ => ?_)⟩
              rw [g12, f12 i (by omega)]
              have ew : wdI false (cf k) = ((wpm i : Nat) : Int) := by
                unfold wdI
                simp only [Bool.false_eq_true, if_false]
                rw [if_pos lo, ei, show (((10 + i : Nat) : Int) - 10).toNat = i by omega]
              rw [ew, Int.toNat_natCast]
            | true =>
              obtain ⟨f8, f12, _⟩ := he.2.2.2.2.2 rfl
              have lo : 19 ≤ cf k ∧ cf k ≤ 25 := by
                have a : ¬ cf k < 19 := fun q => lim (Or.inl q)
                have b : ¬ 25 < cf k := fun q => lim (Or.inr q)
                clear lim wi
                omega
              obtain ⟨i, ei⟩ : ∃ i : Nat, cf k = ((19 + i : Nat) : Int) := ⟨(cf k - 19).toNat, by omega⟩
              rw [f8, ei, show (((19 + i : Nat) : Int) - 19) = ((i : Nat) : Int) by omega, wr_n (by omega), Int.toNat_natCast]
              refine ⟨ixn (by omega), out _ (fun _ _ => ?_)⟩
              rw [g12, f12 i (by omega)]
              have ew : wdI true (cf k) = ((i : Nat) : Int) := by
                unfold wdI
                simp only [if_true]
                rw [if_pos lo, ei]
                omega
              rw [ew, Int.toNat_natCast]
    · exact absurd hq (by simp)
theorem e_sums (hT : cf T = 0) (hT4 : T ≤ 400) (hv : ∀ k, 0 ≤ vf k ∧ vf k ≤ 10000009) : ∀ (r d : Nat), 3 + 3 * r ≤ d → ∀ k lf q, 1 ≤ k → k ≤ T → pSm ord cf vf r k lf = .inr q → tDx rSm rTt (wp_X11_sumOf d) ord cf vf T k q.1 q.2.2 := by
  intro r
  induction r with
  | zero =>
    intro d hd
    obtain ⟨d, rfl⟩ : ∃ e, d = e + 3 := ⟨d - 3, by omega⟩
    have pp : pOk T (pPt ord cf vf none) := pOk_pt hT (fun g e => absurd e (by simp))
    exact e_sum (d := d + 2) hT hT4 (pOk_ch hT pp) (e_term (d := d + 1) hT hT4 pp (e_part (d := d) hT hT4 hv (fun g e => absurd e (by simp))))
  | succ r ih =>
    intro d hd
    obtain ⟨d, rfl⟩ : ∃ e, d = e + 3 := ⟨d - 3, by omega⟩
    have po := pOk_sm (ord := ord) (vf := vf) hT r
    have pp : pOk T (pPt ord cf vf (some (pSm ord cf vf r))) := pOk_pt hT (fun g e => by cases Option.some.inj e; exact po)
    exact e_sum (d := d + 2) hT hT4 (pOk_ch hT pp) (e_term (d := d + 1) hT hT4 pp (e_part (d := d) hT hT4 hv (fun g e => by cases Option.some.inj e; exact ⟨po, ih d (by omega)⟩)))
/-! tests -/
theorem dop_o {op : Int} {D D1 : zDn} {W : Nat → Int} (hop : op = 11 ∨ op = 12) : dop op D D1 W = (D W).bind (fun v => if (v = 1 ↔ op = 11) then some v else D1 W) := by
  unfold dop
  rcases hop with e | e
  · rw [if_pos e]
    congr 1
    funext v
    simp only [e, iff_true]
  · rw [if_neg (by omega), if_pos e]
    congr 1
    funext v
    by_cases q : v = 1
    · rw [if_pos q, if_neg (by omega)]
    · rw [if_neg q, if_pos (by omega)]
theorem dop_ts {op : Int} {D D1 : zDn} {W : Nat → Int} (hop : op = 11 ∨ op = 12) (h : ∀ v, D W = some v → rTs v) (h1 : ∀ v, D1 W = some v → rTs v) : ∀ v, dop op D D1 W = some v → rTs v := by
  intro v hv
  rw [dop_o hop, Option.bind_eq_some_iff] at hv
  obtain ⟨a, ea, hv⟩ := hv
  split at hv
  · rw [← Option.some.inj hv]; exact h a ea
  · exact h1 v hv
/-- a link that is worked out only where it matters -/
theorem zR_leap {σ0 σ σ1 τ : st_S} {op lv lv' r w : Int} {e0 e : Nat} {D D1 : zDn} {W : Nat → Int} (hop : op = 11 ∨ op = 12) (h1 : zR σ0 σ lv e0 (D W) r) (hs : σ1 = sI σ 0 22 (gI σ1 0 22)) (h2 : zR σ1 τ lv' e (D1 W) w) (hb : gI σ0 0 24 = 0 ∨ gI σ0 0 24 = 1) (hl : lv = 0 ∨ lv = 1) (hD : ∀ v, D W = some v → rTs v) (hr : rTs r) (hw : rTs w) (hlv : lv' = (if lv = 0 ∨ (r = 1 ↔ op = 11) then 0 else 1)) :
    ∀ r', r' = (if (r = 1 ↔ op = 11) then r else w) → zR σ0 τ lv e (dop op D D1 W) r' := by
  intro r' er
  have z1 : zE σ σ1 := by rw [hs]; exact zE_22
  have e24 : gI σ1 0 24 = gI σ 0 24 := by rw [hs]; simp only [gI_sI, Nat.reduceAdd, Nat.reduceMul, Nat.reduceEqDiff, false_and, true_and, and_false, and_true, reduceIte, Int.toNat_natCast]
  refine ⟨zE_tr h1.1 (zE_tr z1 h2.1), h2.2.1, fun l1 b0 => ?_, fun c => ?_⟩
  · have q1 := h1.2.2.1 l1 b0
    rw [dop_o hop]
    cases ed : D W with
    | none =>
      have a1 := q1.2 ed
      have a2 : gI τ 0 24 = gI σ1 0 24 := h2.2.2.2 (Or.inr (by rw [e24, a1]; decide))
      exact ⟨fun v hv => absurd hv (by simp), fun _ => by rw [a2, e24, a1]⟩
    | some a =>
      have a1 := q1.1 a ed
      show (∀ v, (if (a = 1 ↔ op = 11) then some a else D1 W) = some v → _) ∧ ((if (a = 1 ↔ op = 11) then some a else D1 W) = none → _)
      rw [← a1.1]
      by_cases q : r = 1 ↔ op = 11
      · rw [if_pos q] at er ⊢
        rw [if_pos (Or.inr q)] at hlv
        have a2 : gI τ 0 24 = gI σ1 0 24 := h2.2.2.2 (Or.inl hlv)
        exact ⟨fun v hv => ⟨by rw [er]; exact Option.some.inj hv, by rw [a2, e24]; exact a1.2⟩, fun hv => absurd hv (by simp)⟩
      · rw [if_neg q] at er ⊢
        rw [if_neg (by rintro (z | z); exact l1 z; exact q z)] at hlv
        have q2 := h2.2.2.1 (by omega) (by rw [e24]; exact a1.2)
        exact ⟨fun v hv => ⟨by rw [er]; exact (q2.1 v hv).1, (q2.1 v hv).2⟩, fun hv => q2.2 hv⟩
  · have a1 := h1.2.2.2 c
    have c' : lv' = 0 ∨ ¬ gI σ1 0 24 = 0 := by
      rw [e24, a1]
      rcases c with q | q
      · left; rw [hlv, if_pos (Or.inl q)]
      · exact Or.inr q
    rw [h2.2.2.2 c', e24, a1]
set_option maxHeartbeats 400000 in
theorem e_test1 {d : Nat} {it : Nat → Nat → zO} (hT : cf T = 0) (hT4 : T ≤ 400) (ho : pOk T it) (hi : ∀ k lf q, 1 ≤ k → k ≤ T → it k lf = .inr q → tDx rTs rTs (wp_X11_bothOf d) ord cf vf T k q.1 q.2.2) : ∀ k lf q, 1 ≤ k → k ≤ T → pCh cf 0 it k lf = .inr q → tDx rTs rTs (wp_X11_testOf (d + 1)) ord cf vf T k q.1 q.2.2 := by
  have j11 : ∀ c, ¬ jop 0 c = -1 → jop 0 c = 11 := fun c h => by
    have := (jop_i c).1
    have e : c = 7 := by by_cases q : c = 7; exact q; exact absurd (this.mpr q) h
    rw [e]; rfl
  refine e_chain (L := fun Q f lv r s => L_X11_testOf_6 Q (wp_X11_bothOf d) (wp_X11_plainOf d) (wp_X11_positiveOf d) (wp_X11_testOf d) f lv r s) hT (fun lv σ Q h => h) ho hi (fun c D D1 nj W a b => dop_ts (Or.inl (j11 c nj)) a b) (fun Q f lv r σ base W k he h22 kT ej hP hQ => ?_) (fun Q f lv r σ σ0 base W k k1 D D1 he hb hl k1T k2T nj hz hP hD hD1 hd hL => ?_)
  · exact m_passes he (by omega) h22 (fun w => absurd ((tcf_e hT kT).symm.trans w) ((jop_i (cf k)).1.mp ej)) (fun _ => ⟨fun _ => ⟨hP, hQ⟩, fun w => absurd rfl w⟩)
  · have e7 : cf k = 7 := by by_cases q : cf k = 7; exact q; exact absurd ((jop_i (cf k)).1.mpr q) nj
    have h22 := hz.2.1
    rw [j11 _ nj] at hL
    refine m_passes he (by omega) h22 (fun _ => ⟨fun w => absurd w (by decide), fun _ => ?_⟩) (fun w => absurd ((tcf_e hT (by omega)).trans e7) w)
    have e24 : gI (sI σ 0 22 ((base + (k + 1) : Nat) : Int)) 0 24 = gI σ 0 24 := by simp only [gI_sI, Nat.reduceAdd, Nat.reduceMul, Nat.reduceEqDiff, false_and, true_and, and_false, and_true, reduceIte, Int.toNat_natCast]
    have at29 : ∀ lv', lv' = (if lv = 0 ∨ (r = 1 ↔ (11 : Int) = 11) then 0 else 1) → B_X11_testOf_29 Q (wp_X11_bothOf d) (wp_X11_plainOf d) (wp_X11_positiveOf d) (wp_X11_testOf d) (L_X11_testOf_6 Q (wp_X11_bothOf d) (wp_X11_plainOf d) (wp_X11_positiveOf d) (wp_X11_testOf d) f) lv r lv' (sI σ 0 22 ((base + (k + 1) : Nat) : Int)) := by
      intro lv' elv
      refine hd.2 _ base W lv' _ (mEn_of he zE_22) (by simp only [gI_sI, Nat.reduceAdd, Nat.reduceMul, Nat.reduceEqDiff, false_and, true_and, and_false, and_true, reduceIte, Int.toNat_natCast]) (by rw [e24]; exact zR_24 hz hb hl) (by rw [elv]; split; exact Or.inl rfl; exact Or.inr rfl) (fun w τ hz2 hw => ?_)
      have lp := zR_leap (op := 11) (Or.inl rfl) hz (by simp only [gI_sI, Nat.reduceAdd, Nat.reduceMul, Nat.reduceEqDiff, false_and, true_and, and_false, and_true, reduceIte, Int.toNat_natCast]) hz2 hb hl hD hP hw elv
      have ii : (r = 1 ↔ (11 : Int) = 11) ↔ r = 1 := ⟨fun q => q.mpr rfl, fun q => ⟨fun _ => rfl, fun _ => q⟩⟩
      refine ⟨fun r0 => hL 1 τ (lp 1 ?_) (Or.inr rfl), fun r0 => ⟨fun w0 => hL 0 τ (lp 0 ?_) (Or.inl rfl), fun w0 => hL 1 τ (lp 1 ?_) (Or.inr rfl)⟩⟩
      · have r1 : r = 1 := by unfold rTs at hP; omega
        rw [if_pos (ii.mpr r1), r1]
      · rw [if_neg (fun q => by have := ii.mp q; omega), w0]
      · rw [if_neg (fun q => by have := ii.mp q; omega)]; unfold rTs at hw; omega
    have ii : (r = 1 ↔ (11 : Int) = 11) ↔ r = 1 := ⟨fun q => q.mpr rfl, fun q => ⟨fun _ => rfl, fun _ => q⟩⟩
    have rr : r = 0 ∨ r = 1 := hP
    refine ⟨fun l0 => at29 0 (by rw [if_pos (Or.inl l0)]), fun l1 => ⟨fun r0 => at29 0 (by rw [if_pos (Or.inr (ii.mpr (by omega)))]), fun r0 => at29 1 (by rw [if_neg (by rintro (z | z); exact l1 z; have := ii.mp z; omega)])⟩⟩
set_option maxHeartbeats 400000 in
theorem e_both1 {d : Nat} {it : Nat → Nat → zO} (hT : cf T = 0) (hT4 : T ≤ 400) (ho : pOk T it) (hi : ∀ k lf q, 1 ≤ k → k ≤ T → it k lf = .inr q → tDx rTs rTs (wp_X11_plainOf d) ord cf vf T k q.1 q.2.2) : ∀ k lf q, 1 ≤ k → k ≤ T → pCh cf 1 it k lf = .inr q → tDx rTs rTs (wp_X11_bothOf (d + 1)) ord cf vf T k q.1 q.2.2 := by
  have j11 : ∀ c, ¬ jop 1 c = -1 → jop 1 c = 12 := fun c h => by
    have := (jop_i c).2.1
    have e : c = 8 := by by_cases q : c = 8; exact q; exact absurd (this.mpr q) h
    rw [e]; rfl
  refine e_chain (L := fun Q f lv r s => L_X11_bothOf_6 Q (wp_X11_bothOf d) (wp_X11_plainOf d) (wp_X11_positiveOf d) (wp_X11_testOf d) f lv r s) hT (fun lv σ Q h => h) ho hi (fun c D D1 nj W a b => dop_ts (Or.inr (j11 c nj)) a b) (fun Q f lv r σ base W k he h22 kT ej hP hQ => ?_) (fun Q f lv r σ σ0 base W k k1 D D1 he hb hl k1T k2T nj hz hP hD hD1 hd hL => ?_)
  · exact m_passes he (by omega) h22 (fun w => absurd ((tcf_e hT kT).symm.trans w) ((jop_i (cf k)).2.1.mp ej)) (fun _ => ⟨fun _ => ⟨hP, hQ⟩, fun w => absurd rfl w⟩)
  · have e7 : cf k = 8 := by by_cases q : cf k = 8; exact q; exact absurd ((jop_i (cf k)).2.1.mpr q) nj
    have h22 := hz.2.1
    rw [j11 _ nj] at hL
    refine m_passes he (by omega) h22 (fun _ => ⟨fun w => absurd w (by decide), fun _ => ?_⟩) (fun w => absurd ((tcf_e hT (by omega)).trans e7) w)
    have e24 : gI (sI σ 0 22 ((base + (k + 1) : Nat) : Int)) 0 24 = gI σ 0 24 := by simp only [gI_sI, Nat.reduceAdd, Nat.reduceMul, Nat.reduceEqDiff, false_and, true_and, and_false, and_true, reduceIte, Int.toNat_natCast]
    have ii : (r = 1 ↔ (12 : Int) = 11) ↔ ¬ r = 1 := ⟨fun q z => absurd (q.mp z) (by decide), fun q => ⟨fun z => absurd z q, fun z => absurd z (by decide)⟩⟩
    have rr : r = 0 ∨ r = 1 := hP
    have at29 : ∀ lv', lv' = (if lv = 0 ∨ (r = 1 ↔ (12 : Int) = 11) then 0 else 1) → B_X11_bothOf_29 Q (wp_X11_bothOf d) (wp_X11_plainOf d) (wp_X11_positiveOf d) (wp_X11_testOf d) (L_X11_bothOf_6 Q (wp_X11_bothOf d) (wp_X11_plainOf d) (wp_X11_positiveOf d) (wp_X11_testOf d) f) lv r lv' (sI σ 0 22 ((base + (k + 1) : Nat) : Int)) := by
      intro lv' elv
      refine hd.2 _ base W lv' _ (mEn_of he zE_22) (by simp only [gI_sI, Nat.reduceAdd, Nat.reduceMul, Nat.reduceEqDiff, false_and, true_and, and_false, and_true, reduceIte, Int.toNat_natCast]) (by rw [e24]; exact zR_24 hz hb hl) (by rw [elv]; split; exact Or.inl rfl; exact Or.inr rfl) (fun w τ hz2 hw => ?_)
      have lp := zR_leap (op := 12) (Or.inr rfl) hz (by simp only [gI_sI, Nat.reduceAdd, Nat.reduceMul, Nat.reduceEqDiff, false_and, true_and, and_false, and_true, reduceIte, Int.toNat_natCast]) hz2 hb hl hD hP hw elv
      refine ⟨fun r0 => hL 0 τ (lp 0 ?_) (Or.inl rfl), fun r0 => ⟨fun w0 => hL 0 τ (lp 0 ?_) (Or.inl rfl), fun w0 => hL 1 τ (lp 1 ?_) (Or.inr rfl)⟩⟩
      · rw [if_pos (ii.mpr (by omega)), r0]
      · rw [if_neg (fun q => absurd (ii.mp q) (by omega)), w0]
      · rw [if_neg (fun q => absurd (ii.mp q) (by omega))]; unfold rTs at hw; omega
    refine ⟨fun l0 => at29 0 (by rw [if_pos (Or.inl l0)]), fun l1 => ⟨fun r0 => at29 0 (by rw [if_pos (Or.inr (ii.mpr (by omega)))]), fun r0 => at29 1 (by rw [if_neg (by rintro (z | z); exact l1 z; have := ii.mp z; omega)])⟩⟩
theorem e_pos {d : Nat} {inner : Option (Nat → Nat → zO)} {sum : Nat → Nat → zO} (hT : cf T = 0) (hT4 : T ≤ 400) (hi : ∀ g, inner = some g → pOk T g ∧ ∀ k lf q, 1 ≤ k → k ≤ T → g k lf = .inr q → tDx rTs rTs (wp_X11_testOf d) ord cf vf T k q.1 q.2.2) (po : pOk T sum) (hs : ∀ k lf q, 1 ≤ k → k ≤ T → sum k lf = .inr q → tDx rSm rTt (wp_X11_sumOf 60) ord cf vf T k q.1 q.2.2) : ∀ k lf q, 1 ≤ k → k ≤ T → (if cf k = 140 then pBr cf 141 inner k lf else pCm cf sum k lf) = .inr q → tDx rTs rTs (wp_X11_positiveOf (d + 1)) ord cf vf T k q.1 q.2.2 := by
  intro k lf q k0 hk hq
  have te := tcf_e hT hk
  by_cases e40 : cf k = 140
  · rw [if_pos e40] at hq
    have k1T := cf_lt hT hk e40 (by decide)
    cases inner with
    | none => exact absurd hq (by simp [pBr])
    | some g =>
      obtain ⟨pg, hg⟩ := hi g rfl
      unfold pBr at hq
      dsimp only at hq
      split at hq
      · exact absurd hq (by simp)
      · rename_i q1 e1
        have p1 := pg (k + 1) lf q1 k1T e1
        have d1 := hg (k + 1) lf q1 (by omega) k1T e1
        split at hq
        · cases Sum.inr.inj hq
          refine ⟨d1.1, fun σ base W lv Q he h22 hb hl hQ => ?_⟩
          have b8 := he.2.1
          change e_X11_positiveOf (wp_X11_bothOf d) (wp_X11_plainOf d) (wp_X11_positiveOf d) (wp_X11_testOf d) lv σ Q
          unfold e_X11_positiveOf
          refine m_sg (c := 40) (by decide) (m_passes he (by omega) h22 (fun _ => ⟨fun w => absurd w (by decide), fun _ => ?_⟩) (fun w => absurd (te.trans e40) w))
          refine d1.2 _ base W lv _ (mEn_of he zE_22) (by simp only [gI_sI, Nat.reduceAdd, Nat.reduceMul, Nat.reduceEqDiff, false_and, true_and, and_false, and_true, reduceIte, Int.toNat_natCast]) (by simp only [gI_sI, Nat.reduceAdd, Nat.reduceMul, Nat.reduceEqDiff, false_and, true_and, and_false, and_true, reduceIte, Int.toNat_natCast]; exact hb) hl (fun r τ hz hr => ?_)
          intro x ex s es
          rw [hz.2.1, wks (by omega)] at ex
          subst ex
          refine ⟨hr, hQ r s ⟨zE_tr zE_22 (zE_tr hz.1 (by rw [es]; exact zE_22)), by rw [es]; simp only [gI_sI, Nat.reduceAdd, Nat.reduceMul, Nat.reduceEqDiff, false_and, true_and, and_false, and_true, reduceIte, Int.toNat_natCast]; omega, fun a b => ?_, fun a => ?_⟩ hr⟩
          · have := hz.2.2.1 a (by simp only [gI_sI, Nat.reduceAdd, Nat.reduceMul, Nat.reduceEqDiff, false_and, true_and, and_false, and_true, reduceIte, Int.toNat_natCast]; exact b)
            rw [es]
            simp only [gI_sI, Nat.reduceAdd, Nat.reduceMul, Nat.reduceEqDiff, false_and, true_and, and_false, and_true, reduceIte, Int.toNat_natCast]
            exact this
          · have := hz.2.2.2 (by simp only [gI_sI, Nat.reduceAdd, Nat.reduceMul, Nat.reduceEqDiff, false_and, true_and, and_false, and_true, reduceIte, Int.toNat_natCast]; exact a)
            rw [es]
            simp only [gI_sI, Nat.reduceAdd, Nat.reduceMul, Nat.reduceEqDiff, false_and, true_and, and_false, and_true, reduceIte, Int.toNat_natCast] at this ⊢
            exact this
        · exact absurd hq (by simp)
  · rw [if_neg e40] at hq
    unfold pCm at hq
    split at hq
    · exact absurd hq (by simp)
    · rename_i q1 e1
      have p1 := po k lf q1 hk e1
      have d1 := hs k lf q1 k0 hk e1
      split at hq
      · exact absurd hq (by simp)
      · rename_i nc
        have k1T : q1.1 + 1 ≤ T := by
          by_cases e : q1.1 = T
          · rw [e, hT] at nc; exact absurd cm_0 nc
          · omega
        split at hq
        · exact absurd hq (by simp)
        · rename_i q2 e2
          have p2 := po (q1.1 + 1) q1.2.1 q2 k1T e2
          have d2 := hs (q1.1 + 1) q1.2.1 q2 (by omega) k1T e2
          cases Sum.inr.inj hq
          have cv : (cf q1.1 = 160 ∧ cmI (cf q1.1) = 0) ∨ (cf q1.1 = 162 ∧ cmI (cf q1.1) = 1) ∨ (cf q1.1 = 161 ∧ cmI (cf q1.1) = 2) := by
            unfold cmI at nc ⊢
            by_cases c1 : cf q1.1 = 160
            · left; rw [if_pos c1]; exact ⟨c1, rfl⟩
            · by_cases c2 : cf q1.1 = 162
              · right; left; rw [if_neg c1, if_pos c2]; exact ⟨c2, rfl⟩
              · by_cases c3 : cf q1.1 = 161
                · right; right; rw [if_neg c1, if_neg c2, if_pos c3]; exact ⟨c3, rfl⟩
                · rw [if_neg c1, if_neg c2, if_neg c3] at nc; exact absurd rfl nc
          generalize eop : cmI (cf q1.1) = op at cv
          have xv : ∀ a b, xop (7 + op) a b = some (if op = 0 then (if a < b then 1 else 0) else if op = 1 then (if b < a then 1 else 0) else (if a = b then 1 else 0)) := by
            intro a b
            rcases cv with ⟨_, e⟩ | ⟨_, e⟩ | ⟨_, e⟩
            · rw [e]
              show ((some (if a < b then (1 : Int) else 0)).bind (fun v => if v < -1000000000 ∨ 1000000000 < v then none else some v)) = some (if a < b then 1 else 0)
              split <;> rfl
            · rw [e]
              show ((some (if b < a then (1 : Int) else 0)).bind (fun v => if v < -1000000000 ∨ 1000000000 < v then none else some v)) = some (if b < a then 1 else 0)
              split <;> rfl
            · rw [e]
              show ((some (if a = b then (1 : Int) else 0)).bind (fun v => if v < -1000000000 ∨ 1000000000 < v then none else some v)) = some (if a = b then 1 else 0)
              split <;> rfl
          show tDx rTs rTs _ ord cf vf T k q2.1 (dop (7 + op) q1.2.2 q2.2.2)
          have db := fun W => dop_b (op := 7 + op) (D := q1.2.2) (D1 := q2.2.2) (W := W) (by omega) (by omega)
          refine ⟨fun W hW v hv => ?_, fun σ base W lv Q he h22 hb hl hQ => ?_⟩
          · cases ea : q1.2.2 W with
            | none => rw [(db W).1 ea] at hv; exact absurd hv (by simp)
            | some a =>
              cases eb : q2.2.2 W with
              | none => rw [(db W).2.1 eb] at hv; exact absurd hv (by simp)
              | some b =>
                rw [(db W).2.2 a b ea eb, xv] at hv
                cases Option.some.inj hv
                unfold rTs
                repeat' split
                all_goals omega
          · have b8 := he.2.1
            have te1 := tcf_e (i := q1.1) hT (by omega)
            change e_X11_positiveOf (wp_X11_bothOf d) (wp_X11_plainOf d) (wp_X11_positiveOf d) (wp_X11_testOf d) lv σ Q
            unfold e_X11_positiveOf
            refine m_sg (c := 40) (by decide) (m_passes he (by omega) h22 (fun w => absurd (te.symm.trans w) e40) (fun _ => ⟨fun _ => ?_, fun w => absurd rfl w⟩))
            refine d1.2 σ base W lv _ he h22 hb hl (fun r τ hz _ => m_codeAt (mEn_of he hz.1) (by omega) hz.2.1 ?_)
            rw [te1]
            intro x ex s es
            rw [hz.2.1, wks (by omega)] at ex
            have v22 : gI s 0 22 = ((base + (q1.1 + 1) : Nat) : Int) := by rw [es, ex]; simp only [gI_sI, Nat.reduceAdd, Nat.reduceMul, Nat.reduceEqDiff, false_and, true_and, and_false, and_true, reduceIte, Int.toNat_natCast]; omega
            have e24 : gI s 0 24 = gI τ 0 24 := by rw [es]; simp only [gI_sI, Nat.reduceAdd, Nat.reduceMul, Nat.reduceEqDiff, false_and, true_and, and_false, and_true, reduceIte, Int.toNat_natCast]
            have zs : zE τ s := by rw [es]; exact zE_22
            refine d2.2 s base W lv _ (mEn_of he (zE_tr hz.1 zs)) v22 (by rw [e24]; exact zR_24 hz hb hl) hl (fun w υ hz2 _ => ?_)
            have cb := zR_comb (o' := dop (7 + op) q1.2.2 q2.2.2 W) hz (by rw [v22, es, ex]; rfl) hz2 hb hl (db W).1 (db W).2.1
            have out0 : (lv = 0 ∨ gI υ 0 24 = 1) → Q 0 υ := by
              intro c
              rcases cb with ⟨c1, c2, _, _⟩ | ⟨_, c2⟩
              · exact absurd c (by omega)
              · exact hQ 0 υ (c2 0 υ zE_rfl hz2.2.1 rfl) (Or.inl rfl)
            have b24 := zR_24 hz2 (by rw [e24]; exact zR_24 hz hb hl) hl
            have live : lv = 1 → gI υ 0 24 = 0 → ∃ a b, r = a ∧ w = b ∧ wl r = r ∧ wl w = w ∧ ∀ v, v = (if op = 0 then (if r < w then 1 else 0) else if op = 1 then (if w < r then 1 else 0) else (if r = w then 1 else 0)) → rTs v → Q v υ := by
              intro l1 u0
              rcases cb with ⟨_, _, ⟨a, b, oa, ob, ra, wb⟩, c4⟩ | ⟨c1, _⟩
              · have ia := wr_i32 (d1.1 W he.2.2.2.1 a oa)
                have ib := wr_i32 (d2.1 W he.2.2.2.1 b ob)
                unfold i32 at ia ib
                refine ⟨a, b, ra, wb, by rw [ra]; exact wl_id (by omega) (by omega), by rw [wb]; exact wl_id (by omega) (by omega), fun v ev hv => hQ v υ (c4 v υ zE_rfl hz2.2.1 ?_) hv⟩
                rw [(db W).2.2 a b oa ob, xv]
                refine ⟨fun u hu => ⟨?_, u0⟩, fun hu => absurd hu (by simp)⟩
                rw [ev, ra, wb]
                exact Option.some.inj hu
              · exact absurd c1 (by omega)
            have o1 : rTs 1 := Or.inr rfl
            have o0 : rTs 0 := Or.inl rfl
            refine ⟨fun l0 => ⟨o0, out0 (Or.inl l0)⟩, fun l1 => ⟨fun b1 => ⟨o0, out0 (Or.inr (by clear cb live; omega))⟩, fun b0 => ?_⟩⟩
            obtain ⟨a, b, _, _, wr1, ww, lq⟩ := live (by clear cb live; omega) b0
            refine m_sg (c := 60) (by decide) ⟨fun c1 => m_sg (c := 62) (by decide) ⟨fun c2 => ?_, fun c2 => ?_⟩, fun c1 => ?_⟩
            · have c1' : ¬ cf q1.1 = 160 := c1
              have c2' : ¬ cf q1.1 = 162 := c2
              have eo : op = 2 := by clear cb live; omega
              rw [p_eq wr1 ww]
              refine ⟨fun c => ⟨o0, lq 0 ?_ o0⟩, fun c => ⟨o1, lq 1 ?_ o1⟩⟩
              · rw [eo, if_neg (by decide), if_neg (by decide), if_neg c]
              · rw [eo, if_neg (by decide), if_neg (by decide), if_pos c]
            · have c2' : cf q1.1 = 162 := c2
              have eo : op = 1 := by clear cb live; omega
              rw [p_le wr1 ww]
              refine ⟨fun c => ⟨o0, lq 0 ?_ o0⟩, fun c => ⟨o1, lq 1 ?_ o1⟩⟩
              · rw [eo, if_neg (by decide), if_pos rfl, if_neg (by omega)]
              · rw [eo, if_neg (by decide), if_pos rfl, if_pos (by omega)]
            · have c1' : cf q1.1 = 160 := c1
              have eo : op = 0 := by clear cb live; omega
              rw [p_ge wr1 ww]
              refine ⟨fun c => ⟨o0, lq 0 ?_ o0⟩, fun c => ⟨o1, lq 1 ?_ o1⟩⟩
              · rw [eo, if_pos rfl, if_neg (by omega)]
              · rw [eo, if_pos rfl, if_pos (by omega)]
theorem e_plain {d : Nat} {inner : Option (Nat → Nat → zO)} {sum : Nat → Nat → zO} (hT : cf T = 0) (hT4 : T ≤ 400) (hp : ∀ k lf q, 1 ≤ k → k ≤ T → (if cf k = 140 then pBr cf 141 inner k lf else pCm cf sum k lf) = .inr q → tDx rTs rTs (wp_X11_positiveOf d) ord cf vf T k q.1 q.2.2) : ∀ k lf q, 1 ≤ k → k ≤ T → pPl cf inner sum k lf = .inr q → tDx rTs rTs (wp_X11_plainOf (d + 1)) ord cf vf T k q.1 q.2.2 := by
  intro k lf q k0 hk hq
  have kN := pNt_le (cf := cf) hT 400 k false hk
  unfold pPl at hq
  generalize hN : pNt cf 400 k false = N at hq kN
  split at hq
  · exact absurd hq (by simp)
  · rename_i q1 e1
    have d1 := hp N.1 lf q1 (by omega) kN.2 e1
    cases Sum.inr.inj hq
    have bv : ∀ W : Nat → Int, (∀ i, wr (W i) = W i) → ∀ v, (if N.2 = true then dNot q1.2.2 else q1.2.2) W = some v → rTs v := by
      intro W hW v hv
      split at hv
      · have hv2 : (q1.2.2 W).map (fun v => wr (1 - v)) = some v := hv
        rw [Option.map_eq_some_iff] at hv2
        obtain ⟨x, x0, xv⟩ := hv2
        rcases d1.1 W hW x x0 with e | e
        · rw [← xv, e]; exact Or.inr (by decide)
        · rw [← xv, e]; exact Or.inl (by decide)
      · exact d1.1 W hW v hv
    refine ⟨bv, fun σ base W lv Q he h22 hb hl hQ => ?_⟩
    have b8 := he.2.1
    have key : ∀ (f k1 : Nat) (b : Bool) (τ : st_S), T - k1 < f → pNt cf f k1 b = N → zE σ τ → gI τ 0 22 = ((base + k1 : Nat) : Int) → gI τ 0 24 = gI σ 0 24 → k1 ≤ T → L_X11_plainOf_2 Q (wp_X11_bothOf d) (wp_X11_plainOf d) (wp_X11_positiveOf d) (wp_X11_testOf d) f lv (if b = true then 1 else 0) τ := by
      intro f
      induction f with
      | zero => intro k1 b τ h; exact absurd h (Nat.not_lt_zero _)
      | succ f ih =>
        intro k1 b τ hf hp2 z g22 g24 kT
        unfold pNt at hp2
        refine m_passes (mEn_of he z) (by omega) g22 (fun w => ⟨fun w => absurd w (by decide), fun _ => ?_⟩) (fun w => ⟨fun _ => ?_, fun w => absurd rfl w⟩)
        · have e9 : cf k1 = 9 := (tcf_e hT kT).symm.trans w
          rw [if_pos e9] at hp2
          have k2T := cf_lt hT kT e9 (by decide)
          have nx := ih (k1 + 1) (!b) (sI τ 0 22 ((base + (k1 + 1) : Nat) : Int)) (by omega) hp2 (zE_tr z zE_22) (by simp only [gI_sI, Nat.reduceAdd, Nat.reduceMul, Nat.reduceEqDiff, false_and, true_and, and_false, and_true, reduceIte, Int.toNat_natCast]) (by simp only [gI_sI, Nat.reduceAdd, Nat.reduceMul, Nat.reduceEqDiff, false_and, true_and, and_false, and_true, reduceIte, Int.toNat_natCast]; exact g24) k2T
          cases b with
          | true => exact ⟨fun _ => nx, fun w => absurd w (by decide)⟩
          | false => exact ⟨fun w => absurd rfl w, fun _ => nx⟩
        · have e9 : ¬ cf k1 = 9 := fun c => w ((tcf_e hT kT).trans c)
          rw [if_neg e9] at hp2
          have eN1 : N.1 = k1 := by rw [← hp2]
          have eN2 : N.2 = b := by rw [← hp2]
          refine d1.2 τ base W lv _ (mEn_of he z) (by rw [eN1]; exact g22) (by rw [g24]; exact hb) hl (fun r υ hz hr => ?_)
          have zr : ∀ r', (r = 0 ∨ r = 1) → r' = (if b = true then 1 - r else r) → zR σ υ lv (base + q1.1) ((if N.2 = true then dNot q1.2.2 else q1.2.2) W) r' := by
            intro r' _ er
            rw [eN2]
            refine ⟨zE_tr z hz.1, hz.2.1, fun l1 b0 => ?_, fun c => ?_⟩
            · have qq := hz.2.2.1 l1 (by rw [g24]; exact b0)
              cases b with
              | true =>
                show (∀ v, (q1.2.2 W).map (fun v => wr (1 - v)) = some v → _) ∧ ((q1.2.2 W).map (fun v => wr (1 - v)) = none → _)
                refine ⟨fun v hv => ?_, fun hv => ?_⟩
                · rw [Option.map_eq_some_iff] at hv
                  obtain ⟨x, x0, xv⟩ := hv
                  have q3 := qq.1 x x0
                  refine ⟨?_, q3.2⟩
                  rw [er, if_pos rfl, ← xv, q3.1]
                  rcases d1.1 W he.2.2.2.1 x x0 with e | e <;> rw [e] <;> decide
                · rw [Option.map_eq_none_iff] at hv
                  exact qq.2 hv
              | false =>
                rw [er]
                exact qq
            · have q3 := hz.2.2.2 (by rw [g24]; exact c)
              rw [q3, g24]
          have rr : r = 0 ∨ r = 1 := hr
          cases b with
          | true =>
            refine ⟨fun c => ⟨Or.inl rfl, hQ 0 υ (zr 0 rr ?_) (Or.inl rfl)⟩, fun c => ⟨Or.inr rfl, hQ 1 υ (zr 1 rr ?_) (Or.inr rfl)⟩⟩
            · have c' : r = 1 := c
              rw [c']; rfl
            · have c' : ¬ r = 1 := c
              rw [show r = 0 by omega]; rfl
          | false =>
            refine ⟨fun c => ⟨Or.inl rfl, hQ 0 υ (zr 0 rr ?_) (Or.inl rfl)⟩, fun c => ⟨Or.inr rfl, hQ 1 υ (zr 1 rr ?_) (Or.inr rfl)⟩⟩
            · have c' : r = 0 := c
              rw [c']; rfl
            · have c' : ¬ r = 0 := c
              rw [show r = 1 by omega]; rfl
    exact ⟨400, key 400 k false σ (by omega) hN zE_rfl h22 rfl hk⟩
theorem e_tests (hT : cf T = 0) (hT4 : T ≤ 400) (hv : ∀ k, 0 ≤ vf k ∧ vf k ≤ 10000009) : ∀ (r d : Nat), r ≤ 8 → 4 + 4 * r ≤ d → ∀ k lf q, 1 ≤ k → k ≤ T → pTs ord cf vf r k lf = .inr q → tDx rTs rTs (wp_X11_testOf d) ord cf vf T k q.1 q.2.2 := by
  intro r
  induction r with
  | zero =>
    intro d _ hd
    obtain ⟨d, rfl⟩ : ∃ e, d = e + 4 := ⟨d - 4, by omega⟩
    have ps := pOk_sm (ord := ord) (vf := vf) hT 0
    have pp : pOk T (pPl cf none (pSm ord cf vf 0)) := pOk_pl hT (fun g e => absurd e (by simp)) ps
    exact e_test1 (d := d + 3) hT hT4 (pOk_ch hT pp) (e_both1 (d := d + 2) hT hT4 pp (e_plain (d := d + 1) hT hT4 (e_pos (d := d) hT hT4 (fun g e => absurd e (by simp)) ps (e_sums hT hT4 hv 0 60 (by omega)))))
  | succ r ih =>
    intro d hr hd
    obtain ⟨d, rfl⟩ : ∃ e, d = e + 4 := ⟨d - 4, by omega⟩
    have ps := pOk_sm (ord := ord) (vf := vf) hT (r + 1)
    have po := pOk_ts (ord := ord) (vf := vf) hT r
    have pp : pOk T (pPl cf (some (pTs ord cf vf r)) (pSm ord cf vf (r + 1))) := pOk_pl hT (fun g e => by cases Option.some.inj e; exact po) ps
    exact e_test1 (d := d + 3) hT hT4 (pOk_ch hT pp) (e_both1 (d := d + 2) hT hT4 pp (e_plain (d := d + 1) hT hT4 (e_pos (d := d) hT hT4 (fun g e => by cases Option.some.inj e; exact ⟨po, ih d (by omega) (by omega)⟩) ps (e_sums hT hT4 hv (r + 1) 60 (by omega)))))
end
