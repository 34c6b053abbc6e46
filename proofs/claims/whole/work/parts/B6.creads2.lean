/-! the class reads a text: brackets, parts, comparisons -/
section
variable {tp : Nat → Int} {n T : Nat} {ord : Bool} {k lf dl : Nat} {σ : st_S}
theorem w_bracket {d dp cl : Nat} {lv : Int} {inner : Option (Nat → Nat → zO)} (hE : tkE tp n T) (hp8 : dp ≤ 8) (h0 : inner = none → dp = 8) (h1 : ∀ g, inner = some g → dp < 8 ∧ pOk T g ∧ ∀ k lf, cSp tp n T ord (wp_X6_readChain d lv ((dp + 1 : Nat) : Int)) k lf (g k lf)) (hk1 : k + 1 ≤ T) : cSp tp n T ord (wp_X6_readBracket (d + 1) lv (cl : Int) (dp : Int)) k lf (pBr (cdT tp n) (100 + (cl : Int)) inner k lf) := by
  intro σ dl Q hs hd hk hf hq
  have hb := hE.1
  cases inner with
  | none =>
    have e8 := h0 rfl
    subst e8
    exact ⟨fun w => absurd w (by decide), fun _ => w_failS hs (fun τ z w => hf k τ rfl z w)⟩
  | some g =>
    obtain ⟨d8, po, hg⟩ := h1 g rfl
    refine ⟨fun _ => w_advS hs (fun τ1 z1 c1 u1 => ?_), fun w => absurd (by omega) w⟩
    rw [wks (by omega)]
    refine hg (k + 1) lf τ1 dl _ c1 (by omega) hk1 (fun j τ e z w => ⟨fun q => absurd rfl q, fun _ => hf j τ (by unfold pBr; dsimp only; rw [e]) (zRd_tr z1 z) w⟩) (fun q τ dl1 e z a1 a2 a3 a4 a5 a6 => ⟨fun _ => ?_, fun w => absurd w (by decide)⟩)
    refine w_isSignT (x := cl) hb a1.1 ⟨fun w => ?_, fun w => ?_⟩
    · have ec : cdT tp n q.1 = 100 + (cl : Int) := by
        by_cases c : cdT tp n q.1 = 100 + (cl : Int)
        · exact c
        · rw [if_neg c] at w; exact absurd rfl w
      refine w_advS a1 (fun τ2 z2 c2 u2 => hq (q.1 + 1, q.2.1, q.2.2) τ2 dl1 (by unfold pBr; dsimp only; rw [e]; dsimp only; rw [if_pos ec]) (zRd_tr z1 (zRd_tr z z2)) c2 a2 (by show dl1 + k ≤ dl + (q.1 + 1); omega) (fun i hi => by rw [u2, a4 i hi, u1]) (fun i b1 b2 => ?_) (xDen_cg (fun i _ _ => cO_at (u2 i)) a6))
      rw [(cO_at (u2 i)).1, (cO_at (u2 i)).2]
      exact a5 i b1 b2
    · have ec : ¬ cdT tp n q.1 = 100 + (cl : Int) := by
        intro c
        rw [if_pos c] at w
        exact absurd w (by decide)
      exact w_failS a1 (fun τ2 z2 w2 => hf q.1 τ2 (by unfold pBr; dsimp only; rw [e]; dsimp only; rw [if_neg ec]) (zRd_tr z1 (zRd_tr z z2)) w2)
theorem wd_v (c : Int) : wdI ord c = -1 ∨ (0 ≤ wdI ord c ∧ wdI ord c ≤ 9 ∧ (ord = true → wdI ord c ≤ 6)) := by
  unfold wdI wpm
  cases ord with
  | true =>
    simp only [if_true]
    split
    · right; exact ⟨by omega, by omega, fun _ => by omega⟩
    · exact Or.inl rfl
  | false =>
    simp only [Bool.false_eq_true, if_false]
    split
    · right
      refine ⟨by omega, ?_, fun w => absurd w (by decide)⟩
      split
      · decide
      · split
        · decide
        · split
          · decide
          · omega
    · exact Or.inl rfl
theorem w_part {d dp : Nat} {inner : Option (Nat → Nat → zO)} (hE : tkE tp n T) (hbr : ∀ k lf, k + 1 ≤ T → cSp tp n T ord (wp_X6_readBracket d 2 93 (dp : Int)) k lf (pBr (cdT tp n) 193 inner k lf)) : ∀ k lf, cSp tp n T ord (wp_X6_readPart (d + 1) (dp : Int)) k lf (pPt ord (cdT tp n) (vlT tp n) inner k lf) := by
  intro k lf σ dl Q hs hd hk hf hq
  have hb := hE.1
  have hT0 := cf_T hE
  have hT4 : T ≤ 400 := by have := hE.2.1; have := hE.2.2.1; omega
  show wp_X6_isSign 91 σ _
  refine w_isSignT (x := 91) hb hs.1 ⟨fun w => ?_, fun w => ?_⟩
  · have e91 : ¬ cdT tp n k = 191 := by
      intro c
      rw [if_pos (show cdT tp n k = 100 + ((91 : Nat) : Int) from c)] at w
      exact absurd w (by decide)
    have main : B_X6_readPart_33 Q (wp_X6_readBracket d) (wp_X6_readChain d) (wp_X6_readComparison d) (wp_X6_readLink d) (wp_X6_readPart d) (wp_X6_readPlain d) (if ord = true then 3 else 1) σ := by
      refine w_wordT ord hb hs.1 ?_
      have kd := cd_n (k := k) hb
      have nv := nm_vl (tp := tp) (n := n) (k := k)
      have nv1 := nm_vl (tp := tp) (n := n) (k := k + 1)
      rw [hs.1.2.1, hs.1.2.2.2.2]
      -- not a part
      have bad : ¬ ((cdT tp n k = 50 ∧ vlT tp n k ≤ 1000) ∨ ¬ wdI ord (cdT tp n k) = -1) → B_X6_readPart_79 Q (wp_X6_readBracket d) (wp_X6_readChain d) (wp_X6_readComparison d) (wp_X6_readLink d) (wp_X6_readPart d) (wp_X6_readPlain d) σ := by
        intro c
        exact w_failS hs (fun τ z w => hf k τ (by unfold pPt; rw [if_neg e91, if_neg c]) z w)
      have full : ((cdT tp n k = 50 ∧ vlT tp n k ≤ 1000) ∨ ¬ wdI ord (cdT tp n k) = -1) → 50 ≤ lf → B_X6_readPart_79 Q (wp_X6_readBracket d) (wp_X6_readChain d) (wp_X6_readComparison d) (wp_X6_readLink d) (wp_X6_readPart d) (wp_X6_readPlain d) σ := by
        intro c l5
        exact w_failS hs (fun τ z w => hf k τ (by unfold pPt; rw [if_neg e91, if_pos c, if_pos l5]) z w)
      have up : ∀ s : st_S, s = sI σ 12 9 ((lf + 1 : Nat) : Int) → zRd σ s ∧ cS s tp n ord k (lf + 1) dl ∧ ∀ i, gI s 15 i = gI σ 15 i := by
        intro s es
        obtain ⟨⟨⟨a1, a2, a3⟩, a4, a5, a6, a7⟩, b1, b2, b3⟩ := hs
        refine ⟨⟨by rw [es]; rfl, fun c j q1 q2 q3 => by rw [es, gI_sI, if_neg (by omega)]⟩, ⟨⟨⟨?_, ⟨a2.1, by rw [es]; simp only [gI_sI, Nat.reduceAdd, Nat.reduceMul, Nat.reduceEqDiff, false_and, true_and, and_false, and_true, reduceIte, Int.toNat_natCast]; exact a2.2⟩, fun i hi => ?_⟩, ?_, ?_, ?_, ?_⟩, ?_, ?_, ?_⟩, fun i => by rw [es, gI_sI, if_neg (by omega)]⟩
        · rw [es]; simp only [gI_sI, Nat.reduceAdd, Nat.reduceMul, Nat.reduceEqDiff, false_and, true_and, and_false, and_true, reduceIte, Int.toNat_natCast]; exact a1
        · rw [es]; simp only [gI_sI, Nat.reduceAdd, Nat.reduceMul, Nat.reduceEqDiff, false_and, true_and, and_false, and_true, reduceIte, Int.toNat_natCast]; exact a3 i hi
        · rw [es]; simp only [gI_sI, Nat.reduceAdd, Nat.reduceMul, Nat.reduceEqDiff, false_and, true_and, and_false, and_true, reduceIte, Int.toNat_natCast]; exact a4
        · rw [es]; simp only [gI_sI, Nat.reduceAdd, Nat.reduceMul, Nat.reduceEqDiff, false_and, true_and, and_false, and_true, reduceIte, Int.toNat_natCast]; exact a5
        · rw [es]; simp only [gI_sI, Nat.reduceAdd, Nat.reduceMul, Nat.reduceEqDiff, false_and, true_and, and_false, and_true, reduceIte, Int.toNat_natCast]; exact a6
        · rw [es]; simp only [gI_sI, Nat.reduceAdd, Nat.reduceMul, Nat.reduceEqDiff, false_and, true_and, and_false, and_true, reduceIte, Int.toNat_natCast]; exact a7
        · rw [es]; simp only [gI_sI, Nat.reduceAdd, Nat.reduceMul, Nat.reduceEqDiff, false_and, true_and, and_false, and_true, reduceIte, Int.toNat_natCast]; exact b1
        · rw [es]; simp only [gI_sI, Nat.reduceAdd, Nat.reduceMul, Nat.reduceEqDiff, false_and, true_and, and_false, and_true, reduceIte, Int.toNat_natCast]
        · rw [es]; simp only [gI_sI, Nat.reduceAdd, Nat.reduceMul, Nat.reduceEqDiff, false_and, true_and, and_false, and_true, reduceIte, Int.toNat_natCast]; exact b3
      have num : cdT tp n k = 50 → vlT tp n k ≤ 1000 → ∀ wd : Int, B_X6_readPart_70 Q (wp_X6_readBracket d) (wp_X6_readChain d) (wp_X6_readComparison d) (wp_X6_readLink d) (wp_X6_readPart d) (wp_X6_readPlain d) wd 1 σ := by
        intro c v1 wd
        have k1T := cf_lt hT0 hk c (by decide)
        unfold B_X6_readPart_70
        rw [hs.2.2.1]
        refine ⟨fun l5 => ?_, fun l5 => full (Or.inl ⟨c, v1⟩) (by omega)⟩
        intro x ex s es
        rw [wks (by omega)] at ex
        subst ex
        obtain ⟨z1, c1, u1⟩ := up s es
        refine ⟨fun q => absurd q (by decide), fun _ => ?_⟩
        obtain ⟨v, ev⟩ : ∃ v : Nat, vlT tp n k = (v : Int) := ⟨(vlT tp n k).toNat, by omega⟩
        have en : gI s 12 8 = (v : Int) := by rw [c1.1.2.2.2.2, nv.1, ev]; unfold o_min; rw [if_neg (by omega)]
        rw [en]
        refine w_addS (op := 0) c1 (by omega) (by decide) (by omega) (fun τ1 z2 c2 u2 o2 o3 => w_advS c2 (fun τ2 z3 c3 u3 => ⟨fun q => absurd q (by decide), fun _ => ?_⟩))
        have e2 := cO_at (σ := τ1) (τ := τ2) (u3 dl)
        refine hq (k + 1, lf + 1, fun _ => some (vlT tp n k)) τ2 (dl + 1) (by unfold pPt; rw [if_neg e91, if_pos (Or.inl ⟨c, v1⟩), if_neg (by omega), if_pos c]) (zRd_tr z1 (zRd_tr z2 z3)) c3 (by omega) (by show dl + 1 + k ≤ dl + (k + 1); omega) (fun i hi => by rw [u3, u2 i (by omega), u1]) (fun i b1 b2 => ?_) ?_
        · rw [show i = dl by omega, e2.1, o2]
          exact ⟨by decide, fun _ q => absurd q (by decide)⟩
        · show xDen _ _ dl (dl + 1) (lf + 1 - lf) _
          rw [show lf + 1 - lf = 1 by omega, ev]
          exact xDen_num (by rw [e2.1, o2]; rfl) (by rw [e2.2, o3]) (wr_n (by omega))
      have wrd : ¬ cdT tp n k = 50 → ¬ wdI ord (cdT tp n k) = -1 → B_X6_readPart_70 Q (wp_X6_readBracket d) (wp_X6_readChain d) (wp_X6_readComparison d) (wp_X6_readLink d) (wp_X6_readPart d) (wp_X6_readPlain d) (wdI ord (cdT tp n k)) 0 σ := by
        intro c cw
        have k1T : k + 1 ≤ T := by
          by_cases e : k = T
          · subst e; rw [hT0] at cw; exact absurd (by cases ord <;> rfl) cw
          · omega
        have wv := wd_v (ord := ord) (cdT tp n k)
        unfold B_X6_readPart_70
        rw [hs.2.2.1]
        refine ⟨fun l5 => ?_, fun l5 => full (Or.inr cw) (by omega)⟩
        intro x ex s es
        rw [wks (by omega)] at ex
        subst ex
        obtain ⟨z1, c1, u1⟩ := up s es
        refine ⟨fun _ => w_advS c1 (fun τ1 z2 c2 u2 => ⟨fun _ => ?_, fun q => absurd rfl q⟩), fun q => absurd rfl q⟩
        obtain ⟨w, ew⟩ : ∃ w : Nat, wdI ord (cdT tp n k) = (w : Int) := ⟨(wdI ord (cdT tp n k)).toNat, by omega⟩
        have un : ∀ i, gI τ1 15 i = gI σ 15 i := fun i => by rw [u2, u1]
        have plain : ¬ (ord = true ∧ 5 ≤ wdI ord (cdT tp n k)) → wp_X9_add 1 (w : Int) τ1 (fun s14 => ((1 : Int) = 0 ∨ (1 : Int) = 1) ∧ Q 1 s14) := by
          intro cc
          refine w_addS (op := 1) c2 (by omega) (by decide) (by omega) (fun τ2 z3 c3 u3 o2 o3 => ⟨Or.inr rfl, ?_⟩)
          refine hq (k + 1, lf + 1, fun W => some (W (wdI ord (cdT tp n k)).toNat)) τ2 (dl + 1) (by unfold pPt; rw [if_neg e91, if_pos (Or.inr cw), if_neg (by omega), if_neg c, if_neg cc]) (zRd_tr z1 (zRd_tr z2 z3)) c3 (by omega) (by show dl + 1 + k ≤ dl + (k + 1); omega) (fun i hi => by rw [u3 i (by omega), un]) (fun i b1 b2 => ?_) ?_
          · rw [show i = dl by omega, o2, o3]
            exact ⟨by decide, fun e _ => by omega⟩
          · show xDen _ _ dl (dl + 1) (lf + 1 - lf) _
            rw [show lf + 1 - lf = 1 by omega, ew, Int.toNat_natCast]
            exact xDen_word o2 o3 (by omega)
        unfold wp_X6_readWord
        rw [c2.2.1, ew]
        cases ord with
        | false => exact ⟨fun _ => plain (by simp), fun q => absurd rfl q⟩
        | true =>
          refine ⟨fun q => absurd q (by decide), fun _ => ⟨fun w5 => ?_, fun w5 => plain (by rw [ew]; omega)⟩⟩
          have cc : (true = true ∧ 5 ≤ wdI true (cdT tp n k)) := ⟨rfl, by rw [ew]; exact w5⟩
          have kd1 := cd_n (k := k + 1) hb
          have flt : ¬ (cdT tp n (k + 1) = 50 ∧ vlT tp n (k + 1) ≤ 9) → B_X6_readWord_40 (fun r31 s32 => (r31 = 0 ∨ r31 = 1) ∧ Q r31 s32) τ1 := by
            intro c5
            exact w_failS (Q := fun r31 s32 => (r31 = 0 ∨ r31 = 1) ∧ Q r31 s32) c2 (fun τ z w => ⟨Or.inl rfl, hf (k + 1) τ (by unfold pPt; rw [if_neg e91, if_pos (Or.inr cw), if_neg (by omega), if_neg c, if_pos cc, if_neg c5]) (zRd_tr z1 (zRd_tr z2 z)) w⟩)
          rw [c2.1.2.1, c2.1.2.2.2.2, nv1.1]
          refine ⟨fun q => flt (fun z => q (kd1.mp z.1)), fun q => ⟨fun q2 => ?_, fun q2 => flt (fun z => q2 (by unfold o_min; split <;> omega))⟩⟩
          have v9 : vlT tp n (k + 1) ≤ 9 := by
            unfold o_min at q2
            split at q2 <;> omega
          have c5 : cdT tp n (k + 1) = 50 ∧ vlT tp n (k + 1) ≤ 9 := ⟨kd1.mpr q, v9⟩
          have k2T := cf_lt hT0 k1T c5.1 (by decide)
          obtain ⟨v, ev⟩ : ∃ v : Nat, vlT tp n (k + 1) = (v : Int) := ⟨(vlT tp n (k + 1)).toNat, by omega⟩
          have em : o_min (vlT tp n (k + 1)) 1001 = (v : Int) := by rw [ev]; unfold o_min; rw [if_neg (by omega)]
          have w6 : w ≤ 6 := by have := wv; rw [ew] at this; rcases this with q | q; omega; have := q.2.2 rfl; omega
          rw [em, show (5 + ((w : Int) - 5) * 10 + (v : Int)) = ((5 + (w - 5) * 10 + v : Nat) : Int) by omega, wr_n (by omega)]
          refine w_addS (op := 1) c2 (by omega) (by decide) (by omega) (fun τ2 z3 c3 u3 o2 o3 => w_advS c3 (fun τ3 z4 c4 u4 => ⟨Or.inr rfl, ?_⟩))
          have e2 := cO_at (σ := τ2) (τ := τ3) (u4 dl)
          refine hq (k + 2, lf + 1, fun W => some (W (5 + (wdI true (cdT tp n k) - 5) * 10 + vlT tp n (k + 1)).toNat)) τ3 (dl + 1) (by unfold pPt; rw [if_neg e91, if_pos (Or.inr cw), if_neg (by omega), if_neg c, if_pos cc, if_pos c5]) (zRd_tr z1 (zRd_tr z2 (zRd_tr z3 z4))) c4 (by omega) (by show dl + 1 + k ≤ dl + (k + 2); omega) (fun i hi => by rw [u4, u3 i (by omega), un]) (fun i b1 b2 => ?_) ?_
          · rw [show i = dl by omega, e2.1, o2]
            exact ⟨by decide, fun e _ => absurd e (by decide)⟩
          · show xDen _ _ dl (dl + 1) (lf + 1 - lf) _
            rw [show lf + 1 - lf = 1 by omega, ew, ev, show (5 + ((w : Int) - 5) * 10 + (v : Int)) = ((5 + (w - 5) * 10 + v : Nat) : Int) by omega, Int.toNat_natCast]
            exact xDen_word (by rw [e2.1]; exact o2) (by rw [e2.2]; exact o3) (by omega)
      have w50 : cdT tp n k = 50 → wdI ord (cdT tp n k) = -1 := by intro c; rw [c]; cases ord <;> rfl
      refine ⟨fun q => ?_, fun q => ⟨fun q2 => ?_, fun q2 => ?_⟩⟩
      · have c5 : ¬ cdT tp n k = 50 := fun c => q (kd.mp c)
        exact ⟨fun cw => wrd c5 cw, fun cw => ⟨fun _ => bad (by rintro (z | z); exact c5 z.1; exact z cw), fun z => absurd rfl z⟩⟩
      · have c5 := kd.mpr q
        have v1 : ¬ vlT tp n k ≤ 1000 := by rw [nv.1] at q2; unfold o_min at q2; split at q2 <;> omega
        exact ⟨fun cw => absurd (w50 c5) cw, fun cw => ⟨fun _ => bad (by rintro (z | z); exact v1 z.2; exact z cw), fun z => absurd rfl z⟩⟩
      · have c5 := kd.mpr q
        have v1 : vlT tp n k ≤ 1000 := by rw [nv.1] at q2; unfold o_min at q2; split at q2 <;> omega
        exact ⟨fun cw => absurd (w50 c5) cw, fun cw => ⟨fun z => absurd z (by decide), fun _ => num c5 v1 _⟩⟩
    rw [hs.2.1]
    cases ord with
    | false => exact ⟨fun _ => main, fun q => absurd rfl q⟩
    | true => exact ⟨fun q => absurd q (by decide), fun _ => main⟩
  · have e91 : cdT tp n k = 191 := by
      by_cases c : cdT tp n k = 191
      · exact c
      · rw [if_neg (show ¬ cdT tp n k = 100 + ((91 : Nat) : Int) from c)] at w
        exact absurd rfl w
    exact cSp_or (hbr k lf (cf_lt hT0 hk e91 (by decide))) σ dl Q hs hd hk (fun j τ e => hf j τ (by unfold pPt; rw [if_pos e91]; exact e)) (fun q τ dl1 e => hq q τ dl1 (by unfold pPt; rw [if_pos e91]; exact e))
theorem w_comp {d dp : Nat} {sum : Nat → Nat → zO} (hE : tkE tp n T) (ho : pOk T sum) (hi : ∀ k lf, cSp tp n T ord (wp_X6_readChain d 2 (dp : Int)) k lf (sum k lf)) : ∀ k lf, cSp tp n T ord (wp_X6_readComparison (d + 1) (dp : Int)) k lf (pCm (cdT tp n) sum k lf) := by
  intro k lf σ dl Q hs hd hk hf hq
  have hb := hE.1
  have hT0 := cf_T hE
  have hT4 : T ≤ 400 := by have := hE.2.1; have := hE.2.2.1; omega
  refine hi k lf σ dl _ hs hd hk (fun j τ e z w => ⟨fun q => absurd rfl q, fun _ => hf j τ (by unfold pCm; rw [e]) z w⟩) (fun q τ dl1 e z a1 a2 a3 a4 a5 a6 => ⟨fun _ => ?_, fun w => absurd w (by decide)⟩)
  have po := ho k lf q hk e
  refine w_cmpT (k := q.1) hb a1.1 (Q := fun r s => B_X6_readComparison_33 Q (wp_X6_readBracket d) (wp_X6_readChain d) (wp_X6_readComparison d) (wp_X6_readLink d) (wp_X6_readPart d) (wp_X6_readPlain d) (dp : Int) r s) ?_
  have cv : cmI (cdT tp n q.1) = -1 ∨ (0 ≤ cmI (cdT tp n q.1) ∧ cmI (cdT tp n q.1) ≤ 2) := by
    unfold cmI
    repeat' split
    all_goals omega
  refine ⟨fun c0 => ?_, fun c0 => ?_⟩
  · have nc : ¬ cmI (cdT tp n q.1) = -1 := by omega
    have k1T : q.1 + 1 ≤ T := by
      by_cases e : q.1 = T
      · rw [e, hT0] at nc; exact absurd cm_0 nc
      · omega
    obtain ⟨c, ec⟩ : ∃ c : Nat, cmI (cdT tp n q.1) = (c : Int) := ⟨(cmI (cdT tp n q.1)).toNat, by omega⟩
    refine w_advS a1 (fun τ1 z1 c1 u1 => ?_)
    refine hi (q.1 + 1) q.2.1 τ1 dl1 _ c1 (by omega) k1T (fun j υ e2 y w => ⟨fun q => absurd rfl q, fun _ => hf j υ (by unfold pCm; rw [e]; dsimp only; rw [if_neg nc, e2]) (zRd_tr z (zRd_tr z1 y)) w⟩) (fun q2 υ dl2 e2 y b1 b2 b3 b4 b5 b6 => ⟨fun _ => ?_, fun w => absurd w (by decide)⟩)
    have po2 := ho (q.1 + 1) q.2.1 q2 k1T e2
    rw [ec, show (7 + (c : Int)) = ((7 + c : Nat) : Int) by omega, wr_n (by omega)]
    refine w_addS (x := 0) b1 (by omega) (by omega) (by decide) (fun υ1 w1 w2 w3 w4 w5 => ?_)
    have low : ∀ i, i < dl1 → gI υ1 15 i = gI τ 15 i := fun i hi => by rw [w3 i (by omega), b4 i (by omega), u1]
    refine hq (q2.1, q2.2.1, dop (7 + cmI (cdT tp n q.1)) q.2.2 q2.2.2) υ1 (dl2 + 1) (by unfold pCm; rw [e]; dsimp only; rw [if_neg nc, e2]) (zRd_tr z (zRd_tr z1 (zRd_tr y w1))) w2 (by omega) (by show dl2 + 1 + k ≤ dl + q2.1; omega) (fun i hi => by rw [low i (by omega)]; exact a4 i hi) (fun i h1 h2 => ?_) ?_
    · by_cases c3 : i < dl1
      · have e := cO_at (low i c3)
        rw [e.1, e.2]
        exact a5 i h1 c3
      · by_cases c' : i = dl2
        · subst c'
          rw [w4]
          exact ⟨by omega, fun _ w => absurd w (by omega)⟩
        · have e := cO_at (w3 i c')
          rw [e.1, e.2]
          exact b5 i (by omega) (by omega)
    · show xDen _ _ dl (dl2 + 1) (q2.2.1 - lf) (dop (7 + cmI (cdT tp n q.1)) q.2.2 q2.2.2)
      rw [show q2.2.1 - lf = (q.2.1 - lf) + (q2.2.1 - q.2.1) by omega]
      exact xDen_bin (b := dl1) (xDen_cg (fun i _ h2 => cO_at (low i h2)) a6) (xDen_cg (fun i _ h2 => cO_at (w3 i (by omega))) b6) (by omega) (by rw [w4, ec]; omega) (by omega)
  · have nc : cmI (cdT tp n q.1) = -1 := by omega
    exact w_failS a1 (fun τ1 z1 w => hf q.1 τ1 (by unfold pCm; rw [e]; dsimp only; rw [if_pos nc]) (zRd_tr z z1) w)
theorem w_plain {d dp : Nat} {inner : Option (Nat → Nat → zO)} {sum : Nat → Nat → zO} (hE : tkE tp n T) (hin : ∀ g, inner = some g → pOk T g) (ho : pOk T sum) (hbr : ∀ k lf, k + 1 ≤ T → cSp tp n T ord (wp_X6_readBracket d 0 41 (dp : Int)) k lf (pBr (cdT tp n) 141 inner k lf)) (hc : ∀ k lf, cSp tp n T ord (wp_X6_readComparison d (dp : Int)) k lf (pCm (cdT tp n) sum k lf)) : ∀ k lf, cSp tp n T ord (wp_X6_readPlain (d + 1) (dp : Int)) k lf (pPl (cdT tp n) inner sum k lf) := by
  intro k lf σ dl Q hs hd hk hf hq
  have hb := hE.1
  have hT0 := cf_T hE
  have hT4 : T ≤ 400 := by have := hE.2.1; have := hE.2.2.1; omega
  generalize hN : pNt (cdT tp n) 400 k false = N
  -- behind the nots
  have beh : ∀ τ, zRd σ τ → cS τ tp n ord N.1 lf dl → k ≤ N.1 → N.1 ≤ T → (N.2 = true → k < N.1) → (∀ i, gI τ 15 i = gI σ 15 i) → B_X6_readPlain_40 Q (wp_X6_readBracket d) (wp_X6_readChain d) (wp_X6_readComparison d) (wp_X6_readLink d) (wp_X6_readPart d) (wp_X6_readPlain d) (dp : Int) (if N.2 = true then 1 else 0) τ := by
    intro τ z c1 kN NT kN2 un
    have fl : ∀ (o : zO), pPl (cdT tp n) inner sum k lf = (match o with | .inl j => .inl j | .inr q => .inr (q.1, q.2.1, if N.2 = true then dNot q.2.2 else q.2.2)) → (∀ q, o = .inr q → N.1 < q.1 ∧ q.1 ≤ T) → ∀ m, cSp tp n T ord m N.1 lf o → m τ (fun r27 s28 => B_X6_readPlain_65 Q (wp_X6_readBracket d) (wp_X6_readChain d) (wp_X6_readComparison d) (wp_X6_readLink d) (wp_X6_readPart d) (wp_X6_readPlain d) (if N.2 = true then 1 else 0) r27 s28) := by
      intro o eo hoq m hm
      refine hm τ dl _ c1 (by omega) NT (fun j υ e y w => ⟨fun _ => ⟨Or.inl rfl, hf j υ (by rw [eo, e]) (zRd_tr z y) w⟩, fun q => absurd rfl q⟩) (fun q υ dl1 e y a1 a2 a3 a4 a5 a6 => ⟨fun w => absurd w (by decide), fun _ => ?_⟩)
      have qq := hoq q e
      by_cases c : N.2 = true
      · rw [if_pos c]
        refine ⟨fun w => absurd w (by decide), fun _ => ?_⟩
        have := kN2 c
        refine w_addS (op := 10) (x := 0) a1 (by omega) (by decide) (by decide) (fun υ1 w1 w2 w3 w4 w5 => ⟨Or.inr rfl, ?_⟩)
        have low : ∀ i, i < dl1 → gI υ1 15 i = gI υ 15 i := fun i hi => w3 i (by omega)
        refine hq (q.1, q.2.1, dNot q.2.2) υ1 (dl1 + 1) (by rw [eo, e]; dsimp only; rw [if_pos c]) (zRd_tr z (zRd_tr y w1)) w2 (by omega) (by show dl1 + 1 + k ≤ dl + q.1; omega) (fun i hi => by rw [low i (by omega), a4 i hi, un]) (fun i h1 h2 => ?_) (xDen_not (xDen_cg (fun i _ h2 => cO_at (low i h2)) a6) w4)
        by_cases c3 : i < dl1
        · have e := cO_at (low i c3)
          rw [e.1, e.2]
          exact a5 i h1 c3
        · rw [show i = dl1 by omega, w4]
          exact ⟨by decide, fun _ w => absurd w (by decide)⟩
      · rw [if_neg c]
        refine ⟨fun _ => ⟨Or.inr rfl, ?_⟩, fun w => absurd rfl w⟩
        exact hq (q.1, q.2.1, q.2.2) υ dl1 (by rw [eo, e]; dsimp only; rw [if_neg c]) (zRd_tr z y) a1 a2 (by show dl1 + k ≤ dl + q.1; omega) (fun i hi => by rw [a4 i hi, un]) a5 a6
    refine w_isSignT (x := 40) hb c1.1 ⟨fun w => ?_, fun w => ?_⟩
    · have e40 : ¬ cdT tp n N.1 = 140 := by
        intro c
        rw [if_pos (show cdT tp n N.1 = 100 + ((40 : Nat) : Int) from c)] at w
        exact absurd w (by decide)
      refine fl (pCm (cdT tp n) sum N.1 lf) (by unfold pPl; rw [hN, if_neg e40]; cases pCm (cdT tp n) sum N.1 lf <;> rfl) (fun q e => ⟨(pOk_cm hT0 ho N.1 lf q NT e).1, (pOk_cm hT0 ho N.1 lf q NT e).2.1⟩) _ (hc N.1 lf)
    · have e40 : cdT tp n N.1 = 140 := by
        by_cases c : cdT tp n N.1 = 140
        · exact c
        · rw [if_neg (show ¬ cdT tp n N.1 = 100 + ((40 : Nat) : Int) from c)] at w
          exact absurd rfl w
      have N1 := cf_lt hT0 NT e40 (by decide)
      exact fl (pBr (cdT tp n) 141 inner N.1 lf) (by unfold pPl; rw [hN, if_pos e40]; cases pBr (cdT tp n) 141 inner N.1 lf <;> rfl) (fun q e => ⟨(pOk_br hT0 (by decide) hin N1 e).1, (pOk_br hT0 (by decide) hin N1 e).2.1⟩) _ (hbr N.1 lf N1)
  have key : ∀ (f i k1 : Nat) (b : Bool) (τ : st_S), f + i = 400 → pNt (cdT tp n) f k1 b = N → zRd σ τ → cS τ tp n ord k1 lf dl → k ≤ k1 → k1 ≤ T → (b = true → k < k1) → (∀ i, gI τ 15 i = gI σ 15 i) → L_X6_readPlain_4 Q (wp_X6_readBracket d) (wp_X6_readChain d) (wp_X6_readComparison d) (wp_X6_readLink d) (wp_X6_readPart d) (wp_X6_readPlain d) (f + 1) (dp : Int) (if b = true then 1 else 0) (i : Int) τ := by
    intro f
    induction f with
    | zero =>
      intro i k1 b τ hfi hp z c1 kk kT hbk un
      have e : (k1, b) = N := hp
      refine ⟨fun _ => ?_, fun w => absurd (by omega) w⟩
      have := beh τ z (by rw [← e]; exact c1) (by rw [← e]; exact kk) (by rw [← e]; exact kT) (by rw [← e]; exact hbk) un
      rw [← e] at this
      exact this
    | succ f ih =>
      intro i k1 b τ hfi hp z c1 kk kT hbk un
      unfold pNt at hp
      refine ⟨fun w => absurd w (by omega), fun _ => w_isWordT (c := 8) hb c1.1 (by decide) (by decide) sb_v.2.2.2.2.2.1 ?_⟩
      refine ⟨fun w => ?_, fun w => ?_⟩
      · have c9 : ¬ cdT tp n k1 = 9 := by
          intro c
          rw [if_pos (show cdT tp n k1 = ((8 : Nat) : Int) + 1 from c)] at w
          exact absurd w (by decide)
        rw [if_neg c9] at hp
        have := beh τ z (by rw [← hp]; exact c1) (by rw [← hp]; exact kk) (by rw [← hp]; exact kT) (by rw [← hp]; exact hbk) un
        rw [← hp] at this
        exact this
      · have c9 : cdT tp n k1 = 9 := by
          by_cases c : cdT tp n k1 = 9
          · exact c
          · rw [if_neg (show ¬ cdT tp n k1 = ((8 : Nat) : Int) + 1 from c)] at w
            exact absurd rfl w
        rw [if_pos c9] at hp
        have k1T := cf_lt hT0 kT c9 (by decide)
        have go : ∀ b' : Bool, b' = !b → B_X6_readPlain_29 Q (wp_X6_readBracket d) (wp_X6_readChain d) (wp_X6_readComparison d) (wp_X6_readLink d) (wp_X6_readPart d) (wp_X6_readPlain d) (L_X6_readPlain_4 Q (wp_X6_readBracket d) (wp_X6_readChain d) (wp_X6_readComparison d) (wp_X6_readLink d) (wp_X6_readPart d) (wp_X6_readPlain d) (f + 1)) (dp : Int) (i : Int) (if b' = true then 1 else 0) τ := by
          intro b' eb
          refine w_advS c1 (fun τ1 z1 c2 u1 => ?_)
          intro x ex
          rw [wks (by omega)] at ex
          subst ex
          exact ih (i + 1) (k1 + 1) b' τ1 (by omega) (by rw [eb]; exact hp) (zRd_tr z z1) c2 (by omega) k1T (fun _ => by omega) (fun i => by rw [u1, un])
        cases b with
        | true => exact ⟨fun _ => go false rfl, fun q => absurd q (by decide)⟩
        | false => exact ⟨fun q => absurd rfl q, fun _ => go true rfl⟩
  exact ⟨401, key 400 0 k false σ rfl hN zRd_rfl hs (Nat.le_refl _) hk (fun q => absurd q (by decide)) (fun _ => rfl)⟩
theorem w_link0 {d dp : Nat} {g : Nat → Nat → zO} (h : ∀ k lf, cSp tp n T ord (wp_X6_readChain d 1 (dp : Int)) k lf (g k lf)) : ∀ k lf, cSp tp n T ord (wp_X6_readLink (d + 1) 0 (dp : Int)) k lf (g k lf) := fun k lf σ dl Q a b c hf hq => ⟨fun _ => cSp_or (h k lf) σ dl Q a b c hf hq, fun w => absurd w (by decide), fun w => absurd w (by decide), fun w => absurd w (by decide)⟩
theorem w_link1 {d dp : Nat} {g : Nat → Nat → zO} (h : ∀ k lf, cSp tp n T ord (wp_X6_readPlain d (dp : Int)) k lf (g k lf)) : ∀ k lf, cSp tp n T ord (wp_X6_readLink (d + 1) 1 (dp : Int)) k lf (g k lf) := fun k lf σ dl Q a b c hf hq => ⟨fun w => absurd w (by decide), fun _ => cSp_or (h k lf) σ dl Q a b c hf hq, fun w => absurd w (by decide), fun w => absurd w (by decide)⟩
theorem w_link2 {d dp : Nat} {g : Nat → Nat → zO} (h : ∀ k lf, cSp tp n T ord (wp_X6_readChain d 3 (dp : Int)) k lf (g k lf)) : ∀ k lf, cSp tp n T ord (wp_X6_readLink (d + 1) 2 (dp : Int)) k lf (g k lf) := fun k lf σ dl Q a b c hf hq => ⟨fun w => absurd w (by decide), fun w => absurd w (by decide), fun _ => cSp_or (h k lf) σ dl Q a b c hf hq, fun w => absurd w (by decide)⟩
theorem w_link3 {d dp : Nat} {g : Nat → Nat → zO} (h : ∀ k lf, cSp tp n T ord (wp_X6_readPart d (dp : Int)) k lf (g k lf)) : ∀ k lf, cSp tp n T ord (wp_X6_readLink (d + 1) 3 (dp : Int)) k lf (g k lf) := fun k lf σ dl Q a b c hf hq => ⟨fun w => absurd w (by decide), fun w => absurd w (by decide), fun w => absurd w (by decide), fun _ => cSp_or (h k lf) σ dl Q a b c hf hq⟩
theorem w_sumS (hE : tkE tp n T) : ∀ (r d dp : Nat), r + dp = 8 → 6 + 6 * r ≤ d → ∀ k lf, cSp tp n T ord (wp_X6_readChain d 2 (dp : Int)) k lf (pSm ord (cdT tp n) (vlT tp n) r k lf) := by
  have hT0 := cf_T hE
  intro r
  induction r with
  | zero =>
    intro d dp hr hd
    obtain ⟨d, rfl⟩ : ∃ e, d = e + 6 := ⟨d - 6, by omega⟩
    exact w_chain (d := d + 5) hE (by simp) (w_link2 (d := d + 4) (w_chain (d := d + 3) hE (by simp) (w_link3 (d := d + 2) (w_part (d := d + 1) hE (fun k lf hk1 => w_bracket (cl := 93) (inner := none) hE (by omega) (fun _ => by omega) (fun g e => absurd e (by simp)) hk1))) (pOk_pt hT0 (fun g e => absurd e (by simp))))) (pOk_ch hT0 (pOk_pt hT0 (fun g e => absurd e (by simp))))
  | succ r ih =>
    intro d dp hr hd
    obtain ⟨d, rfl⟩ : ∃ e, d = e + 6 := ⟨d - 6, by omega⟩
    have po := pOk_sm (ord := ord) (vf := vlT tp n) hT0 r
    have pp : pOk T (pPt ord (cdT tp n) (vlT tp n) (some (pSm ord (cdT tp n) (vlT tp n) r))) := pOk_pt hT0 (fun g e => by cases Option.some.inj e; exact po)
    exact w_chain (d := d + 5) hE (by simp) (w_link2 (d := d + 4) (w_chain (d := d + 3) hE (by simp) (w_link3 (d := d + 2) (w_part (d := d + 1) hE (fun k lf hk1 => w_bracket (cl := 93) (inner := some (pSm ord (cdT tp n) (vlT tp n) r)) hE (by omega) (fun e => absurd e (by simp)) (fun g e => by cases Option.some.inj e; exact ⟨by omega, po, ih d (dp + 1) (by omega) (by omega)⟩) hk1))) pp)) (pOk_ch hT0 pp)
theorem w_testS (hE : tkE tp n T) : ∀ (r d dp : Nat), r + dp = 8 → 12 + 6 * r ≤ d → ∀ k lf, cSp tp n T ord (wp_X6_readChain d 0 (dp : Int)) k lf (pTs ord (cdT tp n) (vlT tp n) r k lf) := by
  have hT0 := cf_T hE
  intro r
  induction r with
  | zero =>
    intro d dp hr hd
    obtain ⟨d, rfl⟩ : ∃ e, d = e + 6 := ⟨d - 6, by omega⟩
    have ps := pOk_sm (ord := ord) (vf := vlT tp n) hT0 0
    have pp : pOk T (pPl (cdT tp n) none (pSm ord (cdT tp n) (vlT tp n) 0)) := pOk_pl hT0 (fun g e => absurd e (by simp)) ps
    exact w_chain (d := d + 5) hE (by simp) (w_link0 (d := d + 4) (w_chain (d := d + 3) hE (by simp) (w_link1 (d := d + 2) (w_plain (d := d + 1) hE (fun g e => absurd e (by simp)) ps (fun k lf hk1 => w_bracket (cl := 41) (inner := none) hE (by omega) (fun _ => by omega) (fun g e => absurd e (by simp)) hk1) (w_comp (d := d) hE ps (w_sumS hE 0 d dp hr (by omega))))) pp)) (pOk_ch hT0 pp)
  | succ r ih =>
    intro d dp hr hd
    obtain ⟨d, rfl⟩ : ∃ e, d = e + 6 := ⟨d - 6, by omega⟩
    have ps := pOk_sm (ord := ord) (vf := vlT tp n) hT0 (r + 1)
    have po := pOk_ts (ord := ord) (vf := vlT tp n) hT0 r
    have hin : ∀ g, some (pTs ord (cdT tp n) (vlT tp n) r) = some g → pOk T g := fun g e => by cases Option.some.inj e; exact po
    have pp : pOk T (pPl (cdT tp n) (some (pTs ord (cdT tp n) (vlT tp n) r)) (pSm ord (cdT tp n) (vlT tp n) (r + 1))) := pOk_pl hT0 hin ps
    exact w_chain (d := d + 5) hE (by simp) (w_link0 (d := d + 4) (w_chain (d := d + 3) hE (by simp) (w_link1 (d := d + 2) (w_plain (d := d + 1) hE hin ps (fun k lf hk1 => w_bracket (cl := 41) (inner := some (pTs ord (cdT tp n) (vlT tp n) r)) hE (by omega) (fun e => absurd e (by simp)) (fun g e => by cases Option.some.inj e; exact ⟨by omega, po, ih d (dp + 1) (by omega) (by omega)⟩) hk1) (w_comp (d := d) hE ps (w_sumS hE (r + 1) d dp hr (by omega))))) pp)) (pOk_ch hT0 pp)
end
