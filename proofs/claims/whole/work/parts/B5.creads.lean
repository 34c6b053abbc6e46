/-! the class reads a text -/
def tkE (tp : Nat → Int) (n T : Nat) : Prop := tpB tp n ∧ n ≤ 400 ∧ T ≤ n ∧ psT tp n T = n ∧ ∀ k, k < T → psT tp n k < n
def cS (σ : st_S) (tp : Nat → Int) (n : Nat) (ord : Bool) (k lf dl : Nat) : Prop := cT σ tp n k ∧ gI σ 12 4 = (if ord = true then 1 else 0) ∧ gI σ 12 9 = (lf : Int) ∧ gI σ 14 6 = (dl : Int)
def zRd (σ τ : st_S) : Prop := τ.2 = σ.2 ∧ ∀ c j, ¬ (c = 12 ∧ (j = 3 ∨ (5 ≤ j ∧ j ≤ 9))) → ¬ (c = 14 ∧ j = 6) → c ≠ 15 → gI τ c j = gI σ c j
theorem zRd_rfl {σ : st_S} : zRd σ σ := ⟨rfl, fun _ _ _ _ _ => rfl⟩
theorem zRd_tr {σ τ υ : st_S} (h : zRd σ τ) (g : zRd τ υ) : zRd σ υ := ⟨g.1.trans h.1, fun c j a b d => (g.2 c j a b d).trans (h.2 c j a b d)⟩
theorem zRd_A {σ τ : st_S} (h : zA σ τ) : zRd σ τ := ⟨h.1, fun c j a _ _ => h.2 c j (by omega)⟩
theorem op_v {op x : Nat} (h1 : op ≤ 12) (h2 : x < 65536) : o_shr (o_or (o_shl (op : Int) 16) (x : Int)) 16 = (op : Int) ∧ o_and (o_or (o_shl (op : Int) 16) (x : Int)) 65535 = (x : Int) := by
  have e1 : o_shl (op : Int) 16 = ((op <<< 16 : Nat) : Int) := n_shl (k := 16) (by decide) (by omega)
  have l1 : op <<< 16 < 2 ^ 31 := by rw [Nat.shiftLeft_eq]; omega
  have e2 : op <<< 16 ||| x = op * 65536 + x := by
    rw [Nat.shiftLeft_eq, Nat.mul_comm]
    exact (Nat.two_pow_add_eq_or_of_lt (i := 16) h2 op).symm
  rw [e1, n_or l1 (by omega), e2]
  refine ⟨?_, ?_⟩
  · have := n_shr (a := op * 65536 + x) (k := 16) (by omega) (by decide)
    rw [show ((16 : Nat) : Int) = 16 from rfl] at this
    rw [this, Nat.shiftRight_eq_div_pow]
    omega
  · have := n_and (a := op * 65536 + x) (b := 65535) (by omega) (by decide)
    rw [show ((65535 : Nat) : Int) = 65535 from rfl] at this
    rw [this, show (65535 : Nat) = 2 ^ 16 - 1 from rfl, Nat.and_two_pow_sub_one_eq_mod]
    omega
section
variable {tp : Nat → Int} {n T : Nat} {ord : Bool} {k lf dl : Nat} {σ : st_S}
theorem cf_T (h : tkE tp n T) : cdT tp n T = 0 := (cd_0 h.2.2.2.1).1
theorem w_advS {Q : st_S → Prop} (h : cS σ tp n ord k lf dl) (hQ : ∀ τ, zRd σ τ → cS τ tp n ord (k + 1) lf dl → (∀ i, gI τ 15 i = gI σ 15 i) → Q τ) : wp_X6_advance σ Q := by
  refine w_advance (k := k + 1) h.1.1 h.1.2.2.2.1 (fun τ z a5 a6 a7 a8 => hQ τ (zRd_A z) ⟨⟨tpC_A h.1.1 z, a5, a6, a7, a8⟩, ?_, ?_, ?_⟩ (fun i => z.2 _ _ (by omega)))
  · rw [z.2 _ _ (by omega)]; exact h.2.1
  · rw [z.2 _ _ (by omega)]; exact h.2.2.1
  · rw [z.2 _ _ (by omega)]; exact h.2.2.2
theorem w_failS {Q : Int → st_S → Prop} (h : cS σ tp n ord k lf dl) (hQ : ∀ τ, zRd σ τ → gI τ 12 3 = (psT tp n k : Int) → Q 0 τ) : wp_X6_fail σ (fun r s => (r = 0 ∨ r = 1) ∧ Q r s) := by
  intro s es
  refine ⟨Or.inl rfl, hQ s ⟨by rw [es]; rfl, fun c j a _ _ => by rw [es, gI_sI, if_neg (by omega)]⟩ ?_⟩
  rw [es]
  simp only [gI_sI, Nat.reduceAdd, Nat.reduceMul, Nat.reduceEqDiff, false_and, true_and, and_false, and_true, reduceIte, Int.toNat_natCast]
  exact h.1.2.2.1
theorem cS_c {τ : st_S} {dl' : Nat} (h : cS σ tp n ord k lf dl) (h2 : ∀ c j, ¬ (c = 14 ∧ j = 6) → c ≠ 15 → gI τ c j = gI σ c j) (h6 : gI τ 14 6 = (dl' : Int)) : cS τ tp n ord k lf dl' := by
  obtain ⟨⟨⟨a1, a2, a3⟩, a4, a5, a6, a7⟩, b1, b2, b3⟩ := h
  refine ⟨⟨⟨?_, ⟨a2.1, by rw [h2 _ _ (by omega) (by decide)]; exact a2.2⟩, fun i hi => ?_⟩, ?_, ?_, ?_, ?_⟩, ?_, ?_, h6⟩
  · rw [h2 _ _ (by omega) (by decide)]; exact a1
  · rw [h2 _ _ (by omega) (by decide)]; exact a3 i hi
  · rw [h2 _ _ (by omega) (by decide)]; exact a4
  · rw [h2 _ _ (by omega) (by decide)]; exact a5
  · rw [h2 _ _ (by omega) (by decide)]; exact a6
  · rw [h2 _ _ (by omega) (by decide)]; exact a7
  · rw [h2 _ _ (by omega) (by decide)]; exact b1
  · rw [h2 _ _ (by omega) (by decide)]; exact b2
theorem w_addS {op x : Nat} {Q : st_S → Prop} (h : cS σ tp n ord k lf dl) (hd : dl < 400) (h1 : op ≤ 12) (h2 : x < 65536) (hQ : ∀ τ, zRd σ τ → cS τ tp n ord k lf (dl + 1) → (∀ i, i ≠ dl → gI τ 15 i = gI σ 15 i) → cO τ 15 dl = (op : Int) → cD τ 15 dl = (x : Int) → Q τ) : wp_X9_add (op : Int) (x : Int) σ Q := by
  have o := op_v h1 h2
  unfold wp_X9_add
  rw [h.2.2.2]
  refine ⟨fun w => absurd w (by omega), fun _ => ⟨fun w => absurd w (by omega), fun _ => ⟨ixn hd, ?_⟩⟩⟩
  intro s1 e1 x2 ex s2 e2
  rw [Int.toNat_natCast] at e1
  have v6 : gI s1 14 6 = (dl : Int) := by rw [e1]; simp only [gI_sI, Nat.reduceAdd, Nat.reduceMul, Nat.reduceEqDiff, false_and, true_and, and_false, and_true, reduceIte, Int.toNat_natCast]; exact h.2.2.2
  rw [v6, wks (by omega)] at ex
  have fr : ∀ c j, ¬ (c = 14 ∧ j = 6) → c ≠ 15 → gI s2 c j = gI σ c j := fun c j a b => by rw [e2, gI_sI, if_neg (by omega), e1, gI_sI, if_neg (by omega)]
  have v : gI s2 15 dl = o_or (o_shl (op : Int) 16) (x : Int) := by rw [e2, e1]; simp only [gI_sI, Nat.reduceAdd, Nat.reduceMul, Nat.reduceEqDiff, false_and, true_and, and_false, and_true, reduceIte, Int.toNat_natCast]
  refine hQ s2 ⟨by rw [e2, e1]; rfl, fun c j _ a b => fr c j a b⟩ (cS_c h fr (by rw [e2, ex]; simp only [gI_sI, Nat.reduceAdd, Nat.reduceMul, Nat.reduceEqDiff, false_and, true_and, and_false, and_true, reduceIte, Int.toNat_natCast])) (fun i hi => by rw [e2, gI_sI, if_neg (by omega), e1, gI_sI, if_neg (by omega)]) ?_ ?_
  · unfold cO; rw [v]; exact o.1
  · unfold cD; rw [v]; exact o.2
theorem w_repS {op x m : Nat} {Q : st_S → Prop} (h : cS σ tp n ord k lf dl) (hm : m < 400) (h1 : op ≤ 12) (h2 : x < 65536) (hQ : ∀ τ, zRd σ τ → cS τ tp n ord k lf dl → (∀ i, i ≠ m → gI τ 15 i = gI σ 15 i) → cO τ 15 m = (op : Int) → cD τ 15 m = (x : Int) → Q τ) : wp_X9_replace (m : Int) (op : Int) (x : Int) σ Q := by
  have o := op_v h1 h2
  refine ⟨fun w => absurd w (by omega), fun _ => ⟨fun w => absurd w (by omega), fun _ => ⟨ixn hm, ?_⟩⟩⟩
  intro s1 e1
  rw [Int.toNat_natCast] at e1
  have fr : ∀ c j, ¬ (c = 14 ∧ j = 6) → c ≠ 15 → gI s1 c j = gI σ c j := fun c j a b => by rw [e1, gI_sI, if_neg (by omega)]
  have v : gI s1 15 m = o_or (o_shl (op : Int) 16) (x : Int) := by rw [e1]; simp only [gI_sI, Nat.reduceAdd, Nat.reduceMul, Nat.reduceEqDiff, false_and, true_and, and_false, and_true, reduceIte, Int.toNat_natCast]
  refine hQ s1 ⟨by rw [e1]; rfl, fun c j _ a b => fr c j a b⟩ (cS_c h fr (by rw [e1]; simp only [gI_sI, Nat.reduceAdd, Nat.reduceMul, Nat.reduceEqDiff, false_and, true_and, and_false, and_true, reduceIte, Int.toNat_natCast]; exact h.2.2.2)) (fun i hi => by rw [e1, gI_sI, if_neg (by omega)]) ?_ ?_
  · unfold cO; rw [v]; exact o.1
  · unfold cD; rw [v]; exact o.2
def cdK (ord : Bool) (σ : st_S) (a b : Nat) : Prop := ∀ i, a ≤ i → i < b → cO σ 15 i ≤ 12 ∧ (ord = false → cO σ 15 i = 1 → cD σ 15 i < 10)
theorem cO_at {τ : st_S} {i : Nat} (h : gI τ 15 i = gI σ 15 i) : cO τ 15 i = cO σ 15 i ∧ cD τ 15 i = cD σ 15 i := by unfold cO cD; rw [h]; exact ⟨rfl, rfl⟩
/-- what a method that reads does, when o comes out -/
def cSp (tp : Nat → Int) (n T : Nat) (ord : Bool) (m : st_S → (Int → st_S → Prop) → Prop) (k lf : Nat) (o : zO) : Prop :=
  ∀ (σ : st_S) (dl : Nat) (Q : Int → st_S → Prop), cS σ tp n ord k lf dl → dl ≤ k → k ≤ T →
    (∀ j τ, o = .inl j → zRd σ τ → gI τ 12 3 = (psT tp n j : Int) → Q 0 τ) →
    (∀ q τ (dl1 : Nat), o = .inr q → zRd σ τ → cS τ tp n ord q.1 q.2.1 dl1 → dl ≤ dl1 → dl1 + k ≤ dl + q.1 → (∀ i, i < dl → gI τ 15 i = gI σ 15 i) → cdK ord τ dl dl1 → xDen (cO τ 15) (cD τ 15) dl dl1 (q.2.1 - lf) q.2.2 → Q 1 τ) → m σ Q
theorem cSp_or {m : st_S → (Int → st_S → Prop) → Prop} {o : zO} (h : cSp tp n T ord m k lf o) : cSp tp n T ord (fun σ Q => m σ (fun r s => (r = 0 ∨ r = 1) ∧ Q r s)) k lf o :=
  fun σ dl Q a b c hf hq => h σ dl _ a b c (fun j τ e z w => ⟨Or.inl rfl, hf j τ e z w⟩) (fun q τ dl1 e z a1 a2 a3 a4 a5 a6 => ⟨Or.inr rfl, hq q τ dl1 e z a1 a2 a3 a4 a5 a6⟩)
/-- links joined -/
theorem w_chain {d dp : Nat} {l : Int} {item : Nat → Nat → zO} (hE : tkE tp n T) (hl : l = 0 ∨ l = 1 ∨ l = 2 ∨ l = 3) (hi : ∀ k lf, cSp tp n T ord (wp_X6_readLink d l (dp : Int)) k lf (item k lf)) (ho : pOk T item) : ∀ k lf, cSp tp n T ord (wp_X6_readChain (d + 1) l (dp : Int)) k lf (pCh (cdT tp n) l item k lf) := by
  intro k lf σ dl Q hs hd hk hf hq
  have hT4 : T ≤ 400 := by have := hE.2.1; have := hE.2.2.1; omega
  have hb := hE.1
  show wp_X6_readLink d l (dp : Int) σ _
  have key : ∀ (f i k1 lf1 : Nat) (D : zDn) (τ : st_S) (dl1 : Nat), f + i = 400 → pLp (cdT tp n) l item f k1 lf1 D = pCh (cdT tp n) l item k lf → zRd σ τ → cS τ tp n ord k1 lf1 dl1 → k1 ≤ T → lf < lf1 → dl ≤ dl1 → dl1 + k ≤ dl + k1 → (∀ i, i < dl → gI τ 15 i = gI σ 15 i) → cdK ord τ dl dl1 → xDen (cO τ 15) (cD τ 15) dl dl1 (lf1 - lf) D → L_X6_readChain_13 Q (wp_X6_readBracket d) (wp_X6_readChain d) (wp_X6_readComparison d) (wp_X6_readLink d) (wp_X6_readPart d) (wp_X6_readPlain d) (f + 1) l (dp : Int) (i : Int) τ := by
    intro f
    induction f with
    | zero =>
      intro i k1 lf1 D τ dl1 hfi hp z c1 kT lfl d1 d2 un ck xd
      refine ⟨fun _ => w_failS c1 (fun υ y1 y2 => hf k1 υ hp.symm (zRd_tr z y1) y2), fun w => absurd (by omega) w⟩
    | succ f ih =>
      intro i k1 lf1 D τ dl1 hfi hp z c1 kT lfl d1 d2 un ck xd
      refine ⟨fun w => absurd w (by omega), fun _ => w_jointT hl hb c1.1 ?_⟩
      unfold pLp at hp
      refine ⟨fun nj => ?_, fun ej => ?_⟩
      · rw [if_neg nj] at hp
        have k1T : k1 + 1 ≤ T := by
          by_cases e : k1 = T
          · subst e; rw [cf_T hE, jop_0] at nj; exact absurd rfl nj
          · omega
        -- behind the link
        have nxt : ∀ (τ1 : st_S) (dl2 : Nat), zRd σ τ1 → cS τ1 tp n ord (k1 + 1) lf1 dl2 → dl2 ≤ k1 + 1 → dl1 ≤ dl2 → (∀ i, i < dl → gI τ1 15 i = gI σ 15 i) →
            ∀ (K : Int → st_S → Prop), (∀ υ, K 0 υ = Q 0 υ) → (∀ (q : Nat × Nat × zDn) (υ : st_S) (dl3 : Nat), item (k1 + 1) lf1 = .inr q → pLp (cdT tp n) l item f q.1 q.2.1 (dop (jop l (cdT tp n k1)) D q.2.2) = pCh (cdT tp n) l item k lf → q.1 ≤ T → lf1 < q.2.1 → q.2.1 ≤ 50 → zRd σ υ → cS υ tp n ord q.1 q.2.1 dl3 → dl2 ≤ dl3 → dl3 + (k1 + 1) ≤ dl2 + q.1 → (∀ i, i < dl2 → gI υ 15 i = gI τ1 15 i) → cdK ord υ dl2 dl3 → xDen (cO υ 15) (cD υ 15) dl2 dl3 (q.2.1 - lf1) q.2.2 → K 1 υ) → wp_X6_readLink d l (dp : Int) τ1 K := by
          intro τ1 dl2 z1 c2 e1 e2 un1 K hK0 hK1
          refine hi (k1 + 1) lf1 τ1 dl2 K c2 e1 k1T (fun j υ ej y1 y2 => ?_) (fun q υ dl3 eq y1 y2 y3 y4 y5 y6 y7 => ?_)
          · rw [ej] at hp
            rw [hK0]
            exact hf j υ hp.symm (zRd_tr z1 y1) y2
          · rw [eq] at hp
            have po := ho (k1 + 1) lf1 q k1T eq
            exact hK1 q υ dl3 eq hp po.2.1 po.2.2.1 po.2.2.2 (zRd_tr z1 y1) y2 y3 y4 y5 y6 y7
        intro x ex
        rw [c1.2.2.2] at ex
        subst ex
        have leap : ∀ op : Nat, jop l (cdT tp n k1) = (op : Int) → (op = 11 ∨ op = 12) → B_X6_readChain_53 Q (wp_X6_readBracket d) (wp_X6_readChain d) (wp_X6_readComparison d) (wp_X6_readLink d) (wp_X6_readPart d) (wp_X6_readPlain d) (L_X6_readChain_13 Q (wp_X6_readBracket d) (wp_X6_readChain d) (wp_X6_readComparison d) (wp_X6_readLink d) (wp_X6_readPart d) (wp_X6_readPlain d) (f + 1)) l (dp : Int) (i : Int) (op : Int) (dl1 : Int) τ := by
          intro op eop hop
          refine ⟨fun w => absurd w (by decide), fun _ => w_addS (x := 0) c1 (by omega) (by omega) (by decide) (fun τ1 z1 c2 u1 o1 _ => w_advS c2 (fun τ2 z2 c3 u2 => ?_))⟩
          refine nxt τ2 (dl1 + 1) (zRd_tr z (zRd_tr z1 z2)) c3 (by omega) (by omega) (fun i hi => by rw [u2, u1 i (by omega)]; exact un i hi) _ (fun υ => ?_) (fun q υ dl3 eq hp2 qT lq lq5 y1 y2 y3 y4 y5 y6 y7 => ?_)
          · exact propext ⟨fun w => w.2 rfl, fun w => ⟨fun q => absurd rfl q, fun _ => w⟩⟩
          · refine ⟨fun _ => ⟨fun w => absurd w (by decide), fun _ => ?_⟩, fun w => absurd w (by decide)⟩
            rw [y2.2.2.2]
            refine w_repS y2 (by omega) (by omega) (by omega) (fun υ1 w1 w2 w3 w4 w5 => ?_)
            intro x2 ex2
            rw [wks (by omega)] at ex2
            subst ex2
            have low : ∀ i, i < dl1 → gI υ1 15 i = gI τ 15 i := fun i hi => by rw [w3 i (by omega), y5 i (by omega), u2, u1 i (by omega)]
            refine ih (i + 1) q.1 q.2.1 _ υ1 dl3 (by omega) hp2 (zRd_tr y1 w1) w2 qT (by omega) (by omega) (by omega) (fun i hi => by rw [low i (by omega)]; exact un i hi) (fun i h1 h2 => ?_) ?_
            · by_cases c : i < dl1
              · have e := cO_at (low i c)
                rw [e.1, e.2]
                exact ck i h1 c
              · by_cases c' : i = dl1
                · subst c'
                  rw [w4]
                  exact ⟨by omega, fun _ w => absurd w (by omega)⟩
                · have e := cO_at (w3 i c')
                  rw [e.1, e.2]
                  exact y6 i (by omega) h2
            · rw [eop, show q.2.1 - lf = (lf1 - lf) + (q.2.1 - lf1) by omega]
              refine xDen_leap (b := dl1) (xDen_cg (fun i _ h2 => cO_at (low i h2)) xd) (xDen_cg (fun i h1 _ => cO_at (w3 i (by omega))) y7) w4 w5 (by omega)
        have arit : ∀ op : Nat, jop l (cdT tp n k1) = (op : Int) → (2 ≤ op ∧ op ≤ 9) → B_X6_readChain_58 Q (wp_X6_readBracket d) (wp_X6_readChain d) (wp_X6_readComparison d) (wp_X6_readLink d) (wp_X6_readPart d) (wp_X6_readPlain d) (L_X6_readChain_13 Q (wp_X6_readBracket d) (wp_X6_readChain d) (wp_X6_readComparison d) (wp_X6_readLink d) (wp_X6_readPart d) (wp_X6_readPlain d) (f + 1)) l (dp : Int) (i : Int) (op : Int) (dl1 : Int) 0 τ := by
          intro op eop hop
          refine ⟨fun _ => w_advS c1 (fun τ2 z2 c3 u2 => ?_), fun w => absurd rfl w⟩
          refine nxt τ2 dl1 (zRd_tr z z2) c3 (by omega) (by omega) (fun i hi => by rw [u2]; exact un i hi) _ (fun υ => ?_) (fun q υ dl3 eq hp2 qT lq lq5 y1 y2 y3 y4 y5 y6 y7 => ?_)
          · exact propext ⟨fun w => w.2 rfl, fun w => ⟨fun q => absurd rfl q, fun _ => w⟩⟩
          · refine ⟨fun _ => ⟨fun _ => ?_, fun w => absurd rfl w⟩, fun w => absurd w (by decide)⟩
            refine w_addS (x := 0) y2 (by omega) (by omega) (by decide) (fun υ1 w1 w2 w3 w4 w5 => ?_)
            intro x2 ex2
            rw [wks (by omega)] at ex2
            subst ex2
            have low : ∀ i, i < dl1 → gI υ1 15 i = gI τ 15 i := fun i hi => by rw [w3 i (by omega), y5 i (by omega), u2]
            refine ih (i + 1) q.1 q.2.1 _ υ1 (dl3 + 1) (by omega) hp2 (zRd_tr y1 w1) w2 qT (by omega) (by omega) (by omega) (fun i hi => by rw [low i (by omega)]; exact un i hi) (fun i h1 h2 => ?_) ?_
            · by_cases c : i < dl1
              · have e := cO_at (low i c)
                rw [e.1, e.2]
                exact ck i h1 c
              · by_cases c' : i = dl3
                · subst c'
                  rw [w4]
                  exact ⟨by omega, fun _ w => absurd w (by omega)⟩
                · have e := cO_at (w3 i c')
                  rw [e.1, e.2]
                  exact y6 i (by omega) (by omega)
            · rw [eop, show q.2.1 - lf = (lf1 - lf) + (q.2.1 - lf1) by omega]
              exact xDen_bin (b := dl1) (xDen_cg (fun i _ h2 => cO_at (low i h2)) xd) (xDen_cg (fun i _ h2 => cO_at (w3 i (by omega))) y7) (by omega) w4 (by omega)
        rcases hl with e | e | e | e
        · subst e
          refine ⟨fun _ => ?_, fun w => absurd rfl w⟩
          have ej : jop 0 (cdT tp n k1) = ((11 : Nat) : Int) := by unfold jop at nj ⊢; rw [if_pos rfl] at nj ⊢; split at nj; rw [if_pos (by assumption)]; rfl; exact absurd rfl nj
          have := leap 11 ej (Or.inl rfl)
          rw [← ej] at this
          exact this
        · subst e
          refine ⟨fun w => absurd w (by decide), fun _ => ⟨fun w => absurd rfl w, fun _ => ?_⟩⟩
          have ej : jop 1 (cdT tp n k1) = ((12 : Nat) : Int) := by unfold jop at nj ⊢; rw [if_neg (by decide), if_pos rfl] at nj ⊢; split at nj; rw [if_pos (by assumption)]; rfl; exact absurd rfl nj
          have := leap 12 ej (Or.inr rfl)
          rw [← ej] at this
          exact this
        · subst e
          refine ⟨fun w => absurd w (by decide), fun _ => ⟨fun _ => ?_, fun w => absurd w (by decide)⟩⟩
          obtain ⟨op, ej, hop⟩ : ∃ op : Nat, jop 2 (cdT tp n k1) = (op : Int) ∧ (2 ≤ op ∧ op ≤ 9) := by
            unfold jop at nj ⊢
            rw [if_neg (by decide), if_neg (by decide), if_pos rfl] at nj ⊢
            split at nj
            · rw [if_pos (by assumption)]; exact ⟨2, rfl, by decide⟩
            · rw [if_neg (by assumption)]
              split at nj
              · rw [if_pos (by assumption)]; exact ⟨3, rfl, by decide⟩
              · exact absurd rfl nj
          have := arit op ej hop
          rw [← ej] at this
          exact this
        · subst e
          refine ⟨fun w => absurd w (by decide), fun _ => ⟨fun _ => ?_, fun w => absurd w (by decide)⟩⟩
          obtain ⟨op, ej, hop⟩ : ∃ op : Nat, jop 3 (cdT tp n k1) = (op : Int) ∧ (2 ≤ op ∧ op ≤ 9) := by
            unfold jop at nj ⊢
            rw [if_neg (by decide), if_neg (by decide), if_neg (by decide)] at nj ⊢
            split at nj
            · rw [if_pos (by assumption)]; exact ⟨4, rfl, by decide⟩
            · rw [if_neg (by assumption)]
              split at nj
              · rw [if_pos (by assumption)]; exact ⟨5, rfl, by decide⟩
              · rw [if_neg (by assumption)]
                split at nj
                · rw [if_pos (by assumption)]; exact ⟨6, rfl, by decide⟩
                · exact absurd rfl nj
          have := arit op ej hop
          rw [← ej] at this
          exact this
      · rw [if_pos ej] at hp
        exact hq (k1, lf1, D) τ dl1 hp.symm z c1 d1 d2 un ck xd
  refine hi k lf σ dl _ hs hd hk (fun j τ e z w => ⟨fun q => absurd rfl q, fun _ => hf j τ (by unfold pCh; rw [e]) z w⟩) (fun q τ dl1 e z a1 a2 a3 a4 a5 a6 => ⟨fun _ => ?_, fun w => absurd w (by decide)⟩)
  have po := ho k lf q hk e
  exact ⟨401, key 400 0 q.1 q.2.1 q.2.2 τ dl1 rfl (by unfold pCh; rw [e]) z a1 po.2.1 po.2.2.1 a2 a3 a4 a5 a6⟩
end
