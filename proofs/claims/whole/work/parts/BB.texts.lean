/-! texts read: the class -/
def zC0 : zCl := (0, fun _ => none, none, 1)
def txM (l : List zCl) : zM := (l.length, fun j => (l.getD j zC0).1, fun j => (l.getD j zC0).2.1, fun j => (l.getD j zC0).2.2.1, fun j => (l.getD j zC0).2.2.2)
theorem gd_app {p l : List zCl} {c : zCl} : (p ++ c :: l).getD p.length zC0 = c := by
  rw [List.getD_eq_getElem?_getD, List.getElem?_append_right (Nat.le_refl _), Nat.sub_self]
  rfl
section
variable {tp : Nat → Int} {n T : Nat} {ord : Bool}
set_option maxHeartbeats 400000 in
theorem w_read {σ : st_S} {Q : Int → st_S → Prop} (hE : tkE tp n T) (h1 : gI σ 12 1 = (n : Int)) (h13 : ∀ i, i < n → gI σ 13 i = tp i)
    (hf : ∀ j τ, pTx ord (cdT tp n) (vlT tp n) T 12 0 0 = .inl j → zRt σ τ → gI τ 12 3 = (psT tp n j : Int) → Q 0 τ)
    (hq : ∀ (l : List zCl) τ (dl : Nat), pTx ord (cdT tp n) (vlT tp n) T 12 0 0 = .inr l → zRt σ τ → gI τ 12 3 = -1 → l.length ≤ 12 → 1 ≤ l.length → gI τ 14 7 = (l.length : Int) → gI τ 14 6 = (dl : Int) → dl ≤ 400 → cdK ord τ 0 dl → (∀ j, j < l.length → cCl τ ord j dl (l.getD j zC0)) → Q 1 τ) : wp_X6_read (if ord = true then 1 else 0) σ Q := by
  have hb := hE.1
  have hT0 := cf_T hE
  have n4 := hE.2.1
  have hT4 : T ≤ 400 := by have := hE.2.2.1; omega
  have key : ∀ (m i k lf dl : Nat) (τ : st_S) (pre : List zCl), m + i = 12 → pre.length = i → zRt σ τ → cS τ tp n ord k lf dl → dl ≤ k → k ≤ T → lf ≤ 50 → cdK ord τ 0 dl → (∀ j, j < i → cCl τ ord j dl (pre.getD j zC0)) → (∀ j, pTx ord (cdT tp n) (vlT tp n) T m k lf = .inl j → pTx ord (cdT tp n) (vlT tp n) T 12 0 0 = .inl j) → (∀ l, pTx ord (cdT tp n) (vlT tp n) T m k lf = .inr l → pTx ord (cdT tp n) (vlT tp n) T 12 0 0 = .inr (pre ++ l)) → L_X6_read_42 Q (m + 1) (i : Int) τ := by
    intro m
    induction m with
    | zero =>
      intro i k lf dl τ pre hm hp z cc dk kT l5 ck cl e1 e2
      exact ⟨fun _ => w_failS cc (fun υ y w => hf k υ (e1 k rfl) (zRt_tr z (zRt_d y)) w), fun w => absurd (by omega) w⟩
    | succ m ih =>
      intro i k lf dl τ pre hm hp z cc dk kT l5 ck cl e1 e2
      refine ⟨fun w => absurd w (by omega), fun _ => ?_⟩
      unfold pTx at e1 e2
      refine w_readClause hE (by omega) cc dk kT l5 ck (fun j υ e y w => ⟨fun q => absurd rfl q, fun _ => hf j υ (e1 j (by rw [e])) (zRt_tr z y) w⟩) (fun q υ dl1 e y b1 kq qT q5 dd dq un ot ck1 b7 bc => ⟨fun _ => ?_, fun w => absurd w (by decide)⟩)
      rw [e] at e1 e2
      dsimp only at e1 e2
      have old : ∀ j, j < i → cCl υ ord j dl1 (pre.getD j zC0) := fun j hj => cCl_of (cl j hj) dd (fun d a1 a2 => ot d j a1 a2 (by omega)) un
      have all : ∀ j, j < (pre ++ [q.2.2]).length → cCl υ ord j dl1 ((pre ++ [q.2.2]).getD j zC0) := by
        intro j hj
        rw [List.length_append, List.length_singleton, hp] at hj
        by_cases ej : j = i
        · subst ej
          have := gd_app (p := pre) (l := []) (c := q.2.2)
          rw [hp] at this
          rw [this]
          exact bc
        · have : (pre ++ [q.2.2]).getD j zC0 = pre.getD j zC0 := by
            rw [List.getD_eq_getElem?_getD, List.getElem?_append_left (by omega), ← List.getD_eq_getElem?_getD]
          rw [this]
          exact old j (by omega)
      rw [b1.1.2.1]
      have kz : kdT tp n q.1 = 0 ↔ q.1 = T := by
        constructor
        · intro c
          by_cases e : q.1 = T
          · exact e
          · have := hE.2.2.2.2 q.1 (by omega)
            unfold kdT at c
            rw [if_pos this] at c
            rcases kdx_v (tp (psT tp n q.1)) with w | w | w <;> omega
        · intro c; rw [c]; exact (cd_0 hE.2.2.2.1).2.1
      refine ⟨fun c => ?_, fun c => ?_⟩
      · have nT : ¬ q.1 = T := fun w => c (kz.mpr w)
        rw [if_neg nT] at e1 e2
        refine w_isSignT (x := 59) hb b1.1 ⟨fun w => ?_, fun w => ?_⟩
        · have e59 : cdT tp n q.1 = 159 := by
            by_cases c : cdT tp n q.1 = 159
            · exact c
            · rw [if_neg (show ¬ cdT tp n q.1 = 100 + ((59 : Nat) : Int) from c)] at w
              exact absurd rfl w
          rw [if_pos e59] at e1 e2
          refine w_advS b1 (fun τ2 y2 c2 w2 => ?_)
          intro x ex
          rw [wks (by omega)] at ex
          subst ex
          have low : ∀ j, gI τ2 15 j = gI υ 15 j := w2
          refine ih (i + 1) (q.1 + 1) q.2.1 dl1 τ2 (pre ++ [q.2.2]) (by omega) (by rw [List.length_append, List.length_singleton, hp]) (zRt_tr z (zRt_tr y (zRt_d y2))) c2 (by omega) (by omega) q5 (fun j a1 a2 => by rw [(cO_at (low j)).1, (cO_at (low j)).2]; exact ck1 j a1 a2) (fun j hj => cCl_of (all j (by rw [List.length_append, List.length_singleton, hp]; exact hj)) (Nat.le_refl _) (fun d a1 a2 => y2.2 d j (by omega) (by omega) (by omega)) (fun j _ => low j)) (fun j hj => e1 j (by rw [hj]; rfl)) (fun l hl => ?_)
          have := e2 (q.2.2 :: l) (by rw [hl]; rfl)
          rw [List.append_assoc]
          exact this
        · have e59 : ¬ cdT tp n q.1 = 159 := by
            intro c
            rw [if_pos (show cdT tp n q.1 = 100 + ((59 : Nat) : Int) from c)] at w
            exact absurd w (by decide)
          rw [if_neg e59] at e1
          exact w_failS b1 (fun υ2 y2 w2 => hf q.1 υ2 (e1 q.1 rfl) (zRt_tr z (zRt_tr y (zRt_d y2))) w2)
      · have eT := kz.mp c
        rw [if_pos eT] at e2
        have lq : (pre ++ [q.2.2]).length = i + 1 := by rw [List.length_append, List.length_singleton, hp]
        exact hq (pre ++ [q.2.2]) υ dl1 (e2 [q.2.2] rfl) (zRt_tr z y) b1.1.1.2.1.2 (by rw [lq]; omega) (by rw [lq]; omega) (by rw [b7, lq]) b1.2.2.2 (by omega) ck1 all
  refine ⟨by cases ord; exact Or.inl rfl; exact Or.inr rfl, ?_⟩
  intro s1 e1 s2 e2 s3 e3 s4 e4 s5 e5 s6 e6
  have fr : ∀ c j, ¬ (c = 12 ∧ (j = 3 ∨ j = 4 ∨ j = 7 ∨ j = 9)) → ¬ (c = 14 ∧ (j = 6 ∨ j = 7)) → gI s6 c j = gI σ c j := fun c j a b => by rw [e6, gI_sI, if_neg (by omega), e5, gI_sI, if_neg (by omega), e4, gI_sI, if_neg (by omega), e3, gI_sI, if_neg (by omega), e2, gI_sI, if_neg (by omega), e1, gI_sI, if_neg (by omega)]
  have t6 : tpC s6 tp n := ⟨by rw [fr _ _ (by omega) (by omega)]; exact h1, ⟨n4, by rw [e6, e5, e4, e3, e2]; simp only [gI_sI, Nat.reduceAdd, Nat.reduceMul, Nat.reduceEqDiff, false_and, true_and, and_false, and_true, reduceIte, Int.toNat_natCast]⟩, fun i hi => by rw [fr _ _ (by omega) (by omega)]; exact h13 i hi⟩
  have z6 : zRt σ s6 := ⟨by rw [e6, e5, e4, e3, e2, e1]; rfl, fun c j a b => fr c j (by omega) (by omega)⟩
  refine w_advance (k := 0) t6 (by rw [e6]; simp only [gI_sI, Nat.reduceAdd, Nat.reduceMul, Nat.reduceEqDiff, false_and, true_and, and_false, and_true, reduceIte, Int.toNat_natCast]; rfl) (fun τ z a5 a6 a7 a8 => ⟨13, key 12 0 0 0 0 τ [] rfl rfl (zRt_tr z6 (zRt_d (zRd_A z))) ⟨⟨tpC_A t6 z, a5, a6, a7, a8⟩, ?_, ?_, ?_⟩ (Nat.le_refl _) (Nat.zero_le _) (by decide) (fun j _ hj => absurd hj (by omega)) (fun j hj => absurd hj (by omega)) (fun j hj => hj) (fun l hl => hl)⟩)
  · rw [z.2 _ _ (by omega), e6, e5, e4, e3, e2, e1]; simp only [gI_sI, Nat.reduceAdd, Nat.reduceMul, Nat.reduceEqDiff, false_and, true_and, and_false, and_true, reduceIte, Int.toNat_natCast]
  · rw [z.2 _ _ (by omega), e6, e5]; simp only [gI_sI, Nat.reduceAdd, Nat.reduceMul, Nat.reduceEqDiff, false_and, true_and, and_false, and_true, reduceIte, Int.toNat_natCast]; rfl
  · rw [z.2 _ _ (by omega), e6, e5, e4, e3]; simp only [gI_sI, Nat.reduceAdd, Nat.reduceMul, Nat.reduceEqDiff, false_and, true_and, and_false, and_true, reduceIte, Int.toNat_natCast]; rfl
theorem cTx_of_read {τ : st_S} {l : List zCl} {dl : Nat} (hL : gL τ 15 = 400 ∧ ∀ d, 16 ≤ d → d ≤ 20 → gL τ d = 12) (h1 : l.length ≤ 12) (h7 : gI τ 14 7 = (l.length : Int)) (h6 : gI τ 14 6 = (dl : Int)) (hd : dl ≤ 400) (ck : cdK ord τ 0 dl) (hc : ∀ j, j < l.length → cCl τ ord j dl (l.getD j zC0)) : cTx τ 14 ord (txM l) := by
  refine ⟨h7, h1, dl, h6, hd, by rw [hL.1]; exact hd, fun i hi => (ck i (Nat.zero_le _) hi).1, fun e i hi => (ck i (Nat.zero_le _) hi).2 e, fun j hj => ?_⟩
  have hj' : j < l.length := hj
  obtain ⟨a1, a2, a3, a4, a, b, e, b1, b2, b3, b4, b5, b6, b7, b8, b9, b10⟩ := hc j hj'
  refine ⟨by rw [hL.2 _ (by decide) (by decide)]; omega, by rw [hL.2 _ (by decide) (by decide)]; omega, by rw [hL.2 _ (by decide) (by decide)]; omega, by rw [hL.2 _ (by decide) (by decide)]; omega, by rw [hL.2 _ (by decide) (by decide)]; omega, a1, ?_, a3, a4, a, b, e, b1, b2, b3, b4, b7, b8, b9, b10⟩
  exact a2
/-! texts read: the reference -/
theorem m_dead_if {τ : st_S} {Q : st_S → Prop} (h : ¬ gI τ 0 21 = -1) (hQ : Q τ) : B_X11_readClause_45 Q τ ∧ B_X11_readOrder_48 Q τ ∧ B_X11_readOrder_32 Q τ := by
  have a : B_X11_readOrder_48 Q τ := m_takes_d h ⟨fun _ => hQ, fun w => absurd rfl w⟩
  exact ⟨m_takes_d h ⟨fun _ => hQ, fun w => absurd rfl w⟩, a, m_takes_d h ⟨fun _ => a, fun w => absurd rfl w⟩⟩
theorem m_one {σ : st_S} {k lf : Nat} {Q : st_S → Prop} (hE : tkE tp n T) (hs : mS σ tp n T ord k lf) (h10 : gI σ 0 10 = (if ord = true then 1 else 0)) (hk : k ≤ T) (hl : lf ≤ 50) (hf : ∀ j τ, pCl ord (cdT tp n) (vlT tp n) k lf = .inl j → zRm σ τ → gI τ 0 21 = (psT tp n j : Int) → Q τ) (hq : ∀ q τ, pCl ord (cdT tp n) (vlT tp n) k lf = .inr q → zRm σ τ → mS τ tp n T ord q.1 q.2.1 → q.1 ≤ T → q.2.1 ≤ 50 → Q τ) : wp_X11_readOne σ Q := by
  have hT0 := cf_T hE
  have vv := vb_v ord (cdT tp n k)
  -- the test
  have tst : ∀ (q : Nat × Nat × zDn) (t : Nat × Int) (τ : st_S), ¬ vbI ord (cdT tp n k) = -1 → pHd ord (cdT tp n) (vlT tp n) (vbI ord (cdT tp n k)) (k + 1) lf = .inr q → pTm ord (cdT tp n) (vlT tp n) q.1 = .inr t → zRm σ τ → mS τ tp n T ord t.1 q.2.1 → t.1 ≤ T → q.2.1 ≤ 50 → wp_X11_takes0 6 τ (fun r17 s18 => (r17 = 0 → Q s18) ∧ (¬ r17 = 0 → wp_X11_readTest 40 0 s18 (fun s20 => Q s20))) := by
    intro q t τ nv h1 h2 z m1 tT q5
    refine m_takes hE m1 tT (fun e6 τ1 z1 m2 => ⟨fun w => absurd w (by decide), fun _ => ?_⟩) (fun e6 => ⟨fun _ => ?_, fun w => absurd rfl w⟩)
    · have t1T := cf_lt hT0 tT e6 (by decide)
      refine m_testS hE 8 40 0 (by decide) (by decide) (t.1 + 1) q.2.1 τ1 _ m2 t1T q5 (by omega) (fun j υ e y w => hf j υ (by unfold pCl; rw [if_neg nv, h1]; dsimp only; rw [h2]; dsimp only; unfold pIf; rw [if_pos e6, e]) (zRm_tr z (zRm_tr z1 y)) w) (fun g υ e y w => ?_)
      have po := pOk_ts (ord := ord) (vf := vlT tp n) hT0 8 (t.1 + 1) q.2.1 g t1T e
      exact hq (g.1, g.2.1, vbI ord (cdT tp n k), q.2.2, some g.2.2, t.2) υ (by unfold pCl; rw [if_neg nv, h1]; dsimp only; rw [h2]; dsimp only; unfold pIf; rw [if_pos e6, e]) (zRm_tr z (zRm_tr z1 y)) w po.2.1 po.2.2.2
    · exact hq (t.1, q.2.1, vbI ord (cdT tp n k), q.2.2, none, t.2) τ (by unfold pCl; rw [if_neg nv, h1]; dsimp only; rw [h2]; dsimp only; unfold pIf; rw [if_neg e6]) z m1 tT q5
  -- the sum
  have sm : ¬ vbI ord (cdT tp n k) = -1 → vbI ord (cdT tp n k) < (if ord = true then 2 else 4) → ∀ τ, zRm σ τ → mS τ tp n T ord (k + 1) lf → k + 1 ≤ T → ∀ K : st_S → Prop, (∀ τ, ¬ gI τ 0 21 = -1 → Q τ → K τ) → (∀ q τ, pHd ord (cdT tp n) (vlT tp n) (vbI ord (cdT tp n k)) (k + 1) lf = .inr q → zRm σ τ → mS τ tp n T ord q.1 q.2.1 → q.1 ≤ T → q.2.1 ≤ 50 → K τ) → wp_X11_readSum 40 0 τ K := by
    intro nv hv τ z m1 k1T K hK0 hK1
    have ep : pHd ord (cdT tp n) (vlT tp n) (vbI ord (cdT tp n k)) (k + 1) lf = pSm ord (cdT tp n) (vlT tp n) 8 (k + 1) lf := by unfold pHd; rw [if_pos hv]
    refine m_sumS hE 8 40 0 (by decide) (by decide) (k + 1) lf τ K m1 k1T hl (by omega) (fun j υ e y w => hK0 υ (by rw [w]; omega) (hf j υ (by unfold pCl; rw [if_neg nv, ep, e]) (zRm_tr z y) w)) (fun q υ e y w => ?_)
    have po := pOk_sm (ord := ord) (vf := vlT tp n) hT0 8 (k + 1) lf q k1T e
    exact hK1 q υ (by rw [ep]; exact e) (zRm_tr z y) w po.2.1 po.2.2.2
  unfold wp_X11_readOne
  rw [h10]
  cases ord with
  | false =>
    refine ⟨fun _ => ?_, fun w => absurd rfl w⟩
    have e45 : ∀ τ, ¬ gI τ 0 21 = -1 → Q τ → B_X11_readClause_45 (fun s8 => B_X11_readOne_18 Q s8) τ := fun τ d q => (m_dead_if (Q := fun s8 => B_X11_readOne_18 Q s8) d q).1
    have go : ∀ c : Int, cdT tp n k = c → (1 ≤ c ∧ c ≤ 4) → ∀ τ, zRm σ τ → mS τ tp n T false (k + 1) lf → B_X11_readClause_32 (fun s8 => B_X11_readOne_18 Q s8) τ := by
      intro c ec hc τ z m1
      have ev : vbI false (cdT tp n k) = c - 1 := by rw [ec]; unfold vbI; rw [if_neg (by decide), if_pos (by omega)]
      refine sm (by rw [ev]; omega) (by rw [ev, if_neg (by decide)]; omega) τ z m1 (cf_lt hT0 hk ec (by omega)) _ e45 (fun q υ h1 y m2 qT q5 => tst q (q.1, 1) υ (by rw [ev]; omega) h1 (by unfold pTm; rw [if_neg (by simp)]) y m2 qT q5)
    refine m_takes hE hs hk (fun e τ z m1 => ⟨fun _ => go 1 e (by decide) τ z m1, fun w => absurd w (by decide)⟩) (fun n1 => ⟨fun w => absurd rfl w, fun _ => ?_⟩)
    refine m_takes hE hs hk (fun e τ z m1 => ⟨fun _ => go 2 e (by decide) τ z m1, fun w => absurd w (by decide)⟩) (fun n2 => ⟨fun w => absurd rfl w, fun _ => ?_⟩)
    refine m_takes hE hs hk (fun e τ z m1 => ⟨fun _ => go 3 e (by decide) τ z m1, fun w => absurd w (by decide)⟩) (fun n3 => ⟨fun w => absurd rfl w, fun _ => ?_⟩)
    refine m_takes hE hs hk (fun e τ z m1 => ⟨fun w => absurd w (by decide), fun _ => go 4 e (by decide) τ z m1⟩) (fun n4 => ⟨fun _ => ?_, fun w => absurd rfl w⟩)
    refine m_must hE hs hk (fun e τ z m1 => ?_) (fun n5 τ z w => e45 τ (by rw [w]; omega) (hf k τ ?_ z w))
    · have ev : vbI false (cdT tp n k) = 4 := by rw [e]; rfl
      have k1T := cf_lt hT0 hk e (by decide)
      exact tst (k + 1, lf, fun _ => none) (k + 1, 1) τ (by rw [ev]; decide) (by unfold pHd; rw [ev, if_neg (by decide)]) (by unfold pTm; rw [if_neg (by simp)]) z m1 k1T hl
    · have ev : vbI false (cdT tp n k) = -1 := by unfold vbI; rw [if_neg (by decide), if_neg (by omega)]
      unfold pCl; rw [if_pos ev]
  | true =>
    refine ⟨fun w => absurd w (by decide), fun _ => ?_⟩
    have e32 : ∀ τ, ¬ gI τ 0 21 = -1 → Q τ → B_X11_readOrder_32 (fun s8 => B_X11_readOne_18 Q s8) τ := fun τ d q => (m_dead_if (Q := fun s8 => B_X11_readOne_18 Q s8) d q).2.2
    have tms : ∀ (q : Nat × Nat × zDn) (τ : st_S), ¬ vbI true (cdT tp n k) = -1 → pHd true (cdT tp n) (vlT tp n) (vbI true (cdT tp n k)) (k + 1) lf = .inr q → zRm σ τ → mS τ tp n T true q.1 q.2.1 → q.1 ≤ T → q.2.1 ≤ 50 → B_X11_readOrder_32 (fun s8 => B_X11_readOne_18 Q s8) τ := by
      intro q τ nv h1 z m1 qT q5
      refine m_takes hE m1 qT (fun e29 τ1 z1 m2 => ⟨fun w => absurd w (by decide), fun _ => ?_⟩) (fun e29 => ⟨fun _ => ?_, fun w => absurd rfl w⟩)
      · have q1T := cf_lt hT0 qT e29 (by decide)
        refine m_mustNumber hE m2 q1T (fun c υ y m3 => ?_) (fun c υ y w => ?_)
        · have q2T := cf_lt hT0 q1T c.1 (by decide)
          exact tst q (q.1 + 2, vlT tp n (q.1 + 1)) υ nv h1 (by unfold pTm; rw [if_pos ⟨rfl, e29⟩, if_pos c]) (zRm_tr z (zRm_tr z1 y)) m3 q2T q5
        · exact (m_dead_if (Q := fun s8 => B_X11_readOne_18 Q s8) (by rw [w]; omega) (hf (q.1 + 1) υ (by unfold pCl; rw [if_neg nv, h1]; dsimp only; unfold pTm; rw [if_pos ⟨rfl, e29⟩, if_neg c]) (zRm_tr z (zRm_tr z1 y)) w)).2.1
      · exact tst q (q.1, 1) τ nv h1 (by unfold pTm; rw [if_neg (fun w => e29 w.2)]) z m1 qT q5
    have go : ∀ c : Int, cdT tp n k = c → (26 ≤ c ∧ c ≤ 27) → ∀ τ, zRm σ τ → mS τ tp n T true (k + 1) lf → B_X11_readOrder_18 (fun s8 => B_X11_readOne_18 Q s8) τ := by
      intro c ec hc τ z m1
      have ev : vbI true (cdT tp n k) = c - 26 := by rw [ec]; unfold vbI; rw [if_pos rfl, if_pos (by omega)]
      exact sm (by rw [ev]; omega) (by rw [ev, if_pos rfl]; omega) τ z m1 (cf_lt hT0 hk ec (by omega)) _ e32 (fun q υ h1 y m2 qT q5 => tms q υ (by rw [ev]; omega) h1 y m2 qT q5)
    refine m_takes hE hs hk (fun e τ z m1 => ⟨fun _ => go 26 e (by decide) τ z m1, fun w => absurd w (by decide)⟩) (fun n1 => ⟨fun w => absurd rfl w, fun _ => ?_⟩)
    refine m_takes hE hs hk (fun e τ z m1 => ⟨fun w => absurd w (by decide), fun _ => go 27 e (by decide) τ z m1⟩) (fun n2 => ⟨fun _ => ?_, fun w => absurd rfl w⟩)
    refine m_must hE hs hk (fun e τ z m1 => ?_) (fun n5 τ z w => e32 τ (by rw [w]; omega) (hf k τ ?_ z w))
    · have ev : vbI true (cdT tp n k) = 2 := by rw [e]; rfl
      have k1T := cf_lt hT0 hk e (by decide)
      exact tms (k + 1, lf, fun _ => none) τ (by rw [ev]; decide) (by unfold pHd; rw [ev, if_neg (by decide)]) z m1 k1T hl
    · have ev : vbI true (cdT tp n k) = -1 := by unfold vbI; rw [if_pos rfl, if_neg (by omega)]
      unfold pCl; rw [if_pos ev]
/-- what reading changes in the reference -/
def zRx (σ τ : st_S) : Prop := τ.2 = σ.2 ∧ ∀ c j, ¬ (c = 0 ∧ (j = 8 ∨ j = 9 ∨ j = 10 ∨ j = 13 ∨ j = 14 ∨ (18 ≤ j ∧ j ≤ 21))) → c ≠ 9 → c ≠ 10 → c ≠ 11 → gI τ c j = gI σ c j
theorem zRx_tr {σ τ υ : st_S} (h : zRx σ τ) (g : zRx τ υ) : zRx σ υ := ⟨g.1.trans h.1, fun c j a b d e => (g.2 c j a b d e).trans (h.2 c j a b d e)⟩
theorem zRx_m {σ τ : st_S} (h : zRm σ τ) : zRx σ τ := ⟨h.1, fun c j a _ _ _ => h.2 c j (by omega)⟩
theorem zRx_T {σ τ : st_S} (h : zTk σ τ) : zRx σ τ := ⟨h.1, fun c j a b d e => h.2 c j (by omega) b d e⟩
theorem zRx_s {σ : st_S} {j : Nat} {v : Int} (hj : j = 8 ∨ j = 9 ∨ j = 10 ∨ j = 13 ∨ j = 14 ∨ (18 ≤ j ∧ j ≤ 21)) : zRx σ (sI σ 0 j v) := ⟨rfl, fun c' j' a _ _ _ => by rw [gI_sI, if_neg (by omega)]⟩
set_option maxHeartbeats 400000 in
theorem m_readsAs {σ : st_S} {Q : Int → st_S → Prop} (h : tpM σ tp n) (h13 : gI σ 0 13 = (n : Int))
    (hQ : ∀ T, tkE tp n T → (∀ j τ, pTx ord (cdT tp n) (vlT tp n) T 12 0 0 = .inl j → zRx σ τ → gI τ 0 13 = 0 → gI τ 0 14 = (psT tp n j : Int) → Q 0 τ) ∧ (∀ l τ, pTx ord (cdT tp n) (vlT tp n) T 12 0 0 = .inr l → zRx σ τ → gI τ 0 13 = 0 → gI τ 0 14 = -1 → gI τ 0 18 = (T : Int) → tkM τ tp n (T + 1) → Q 1 τ)) : wp_X11_readsAs (if ord = true then 1 else 0) σ Q := by
  have body : ∀ s : st_S, zRx σ s → gI s 0 13 = (n : Int) → gI s 0 8 = (if ord = true then 19 else 10) → gI s 0 9 = (if ord = true then 25 else 19) → gI s 0 10 = (if ord = true then 1 else 0) → wp_X11_reads s (fun r11 s12 => (r11 = 0 ∨ r11 = 1) ∧ Q r11 s12) := by
    intro s z0 g13 g8 g9 g10
    have hM : tpM s tp n := ⟨h.1, h.2.1, fun i hi => by rw [z0.2 _ _ (by omega) (by decide) (by decide) (by decide)]; exact h.2.2.1 i hi, fun i hi => by rw [z0.2 _ _ (by omega) (by decide) (by decide) (by decide)]; exact h.2.2.2 i hi⟩
    unfold wp_X11_reads
    rw [g13]
    refine m_splits hM (fun τ T z g18 Tn eT lt tk => ?_)
    have hE : tkE tp n T := ⟨h.2.1, h.1, Tn, eT, lt⟩
    have hT0 := cf_T hE
    have hT4 : T ≤ 400 := by have := h.1; omega
    obtain ⟨hf, hq⟩ := hQ T hE
    intro s1 e1 s2 e2 s3 e3 s4 e4
    have fr : ∀ c j, ¬ (c = 0 ∧ (j = 13 ∨ j = 19 ∨ j = 20 ∨ j = 21)) → gI s4 c j = gI τ c j := fun c j a => by rw [e4, gI_sI, if_neg (by omega), e3, gI_sI, if_neg (by omega), e2, gI_sI, if_neg (by omega), e1, gI_sI, if_neg (by omega)]
    have z4 : zRx σ s4 := zRx_tr z0 (zRx_tr (zRx_T z) (by rw [e4, e3, e2, e1]; exact zRx_tr (zRx_s (by omega)) (zRx_tr (zRx_s (by omega)) (zRx_tr (zRx_s (by omega)) (zRx_s (by omega))))))
    have zk : ∀ j, j ≠ 18 → gI τ 0 j = gI s 0 j := fun j hj => z.2 0 j (by omega) (by decide) (by decide) (by decide)
    have m4 : mS s4 tp n T ord 0 0 := ⟨by rw [fr _ _ (by omega)]; exact g18, fun k hk => by rw [fr _ _ (by omega), fr _ _ (by omega), fr _ _ (by omega)]; exact tk k hk, by rw [e4, e3, e2]; simp only [gI_sI, Nat.reduceAdd, Nat.reduceMul, Nat.reduceEqDiff, false_and, true_and, and_false, and_true, reduceIte, Int.toNat_natCast]; rfl, by rw [e4, e3]; simp only [gI_sI, Nat.reduceAdd, Nat.reduceMul, Nat.reduceEqDiff, false_and, true_and, and_false, and_true, reduceIte, Int.toNat_natCast]; rfl, by rw [e4]; simp only [gI_sI, Nat.reduceAdd, Nat.reduceMul, Nat.reduceEqDiff, false_and, true_and, and_false, and_true, reduceIte, Int.toNat_natCast], by rw [fr _ _ (by omega), zk _ (by decide)]; exact g8, by rw [fr _ _ (by omega), zk _ (by decide)]; exact g9⟩
    have o4 : gI s4 0 10 = (if ord = true then 1 else 0) := by rw [fr _ _ (by omega), zk _ (by decide)]; exact g10
    have t4 : gI s4 0 13 = 0 := by rw [e4, e3, e2, e1]; simp only [gI_sI, Nat.reduceAdd, Nat.reduceMul, Nat.reduceEqDiff, false_and, true_and, and_false, and_true, reduceIte, Int.toNat_natCast]
    -- the end
    have ends : ∀ υ, zRm s4 υ → ∀ r : Int, (gI υ 0 21 = -1 → r = 1) → (¬ gI υ 0 21 = -1 → r = 0) → (∀ w, zRx υ w → gI w 0 14 = gI υ 0 21 → gI w 0 13 = 0 → gI w 0 18 = (T : Int) → tkM w tp n (T + 1) → Q r w) → B_X11_reads_95 (fun r11 s12 => (r11 = 0 ∨ r11 = 1) ∧ Q r11 s12) υ := by
      intro υ y r h1 h0 hw
      intro s5 e5
      have b21 : gI s5 0 21 = gI υ 0 21 := by rw [e5]; simp only [gI_sI, Nat.reduceAdd, Nat.reduceMul, Nat.reduceEqDiff, false_and, true_and, and_false, and_true, reduceIte, Int.toNat_natCast]
      have q := hw s5 (by rw [e5]; exact zRx_s (by omega)) (by rw [e5]; simp only [gI_sI, Nat.reduceAdd, Nat.reduceMul, Nat.reduceEqDiff, false_and, true_and, and_false, and_true, reduceIte, Int.toNat_natCast]) (by rw [e5]; simp only [gI_sI, Nat.reduceAdd, Nat.reduceMul, Nat.reduceEqDiff, false_and, true_and, and_false, and_true, reduceIte, Int.toNat_natCast]; rw [y.2 _ _ (by omega)]; exact t4) (by rw [e5]; simp only [gI_sI, Nat.reduceAdd, Nat.reduceMul, Nat.reduceEqDiff, false_and, true_and, and_false, and_true, reduceIte, Int.toNat_natCast]; rw [y.2 _ _ (by omega)]; exact m4.1) (fun k hk => by rw [e5]; simp only [gI_sI, Nat.reduceAdd, Nat.reduceMul, Nat.reduceEqDiff, false_and, true_and, and_false, and_true, reduceIte, Int.toNat_natCast]; rw [y.2 _ _ (by omega), y.2 _ _ (by omega), y.2 _ _ (by omega)]; exact m4.2.1 k hk)
      by_cases c : gI υ 0 21 = -1
      · rw [h1 c] at q
        exact m_fine1 (by rw [b21]; exact c) ⟨Or.inr rfl, Or.inr rfl, q⟩
      · rw [h0 c] at q
        exact m_fine0 (by rw [b21]; exact c) ⟨Or.inl rfl, Or.inl rfl, q⟩
    have dead : ∀ (f : Nat) (i : Int) (j : Nat) υ, pTx ord (cdT tp n) (vlT tp n) T 12 0 0 = .inl j → zRm s4 υ → gI υ 0 21 = (psT tp n j : Int) → L_X11_reads_34 (fun r11 s12 => (r11 = 0 ∨ r11 = 1) ∧ Q r11 s12) (f + 1) i υ := by
      intro f i j υ ep y w
      have dd : ¬ gI υ 0 21 = -1 := by rw [w]; omega
      exact m_takes_d dd ⟨fun _ => m_fine0 dd ⟨fun _ => ends υ y 0 (fun c => absurd c dd) (fun _ => rfl) (fun x xz x14 x13 _ _ => hf j x ep (zRx_tr z4 (zRx_tr (zRx_m y) xz)) x13 (by rw [x14]; exact w)), fun w => absurd rfl w⟩, fun w => absurd rfl w⟩
    -- behind a clause
    have key : ∀ (m i k lf : Nat) (c : zCl) (υ : st_S) (pre : List zCl), m + i = 12 → zRm s4 υ → mS υ tp n T ord k lf → k ≤ T → lf ≤ 50 → (∀ j, (if k = T then (.inr [c] : Nat ⊕ List zCl) else if cdT tp n k = 159 then lnk (pTx ord (cdT tp n) (vlT tp n) T m (k + 1) lf) c else .inl k) = .inl j → pTx ord (cdT tp n) (vlT tp n) T 12 0 0 = .inl j) → (∀ l, (if k = T then (.inr [c] : Nat ⊕ List zCl) else if cdT tp n k = 159 then lnk (pTx ord (cdT tp n) (vlT tp n) T m (k + 1) lf) c else .inl k) = .inr l → pTx ord (cdT tp n) (vlT tp n) T 12 0 0 = .inr (pre ++ l)) → L_X11_reads_34 (fun r11 s12 => (r11 = 0 ∨ r11 = 1) ∧ Q r11 s12) (m + 2) (i : Int) υ := by
      intro m
      induction m with
      | zero => ?_
      | succ m ih => ?_
      all_goals
        intro i k lf c υ pre hm y m1 kT l5 e1 e2
        unfold L_X11_reads_34
        refine m_sg (c := 59) (by decide) (m_takes hE m1 kT (fun e59 υ1 y1 m2 => ⟨fun w => absurd w (by decide), fun _ => ?_⟩) (fun e59 => ⟨fun _ => ?_, fun w => absurd rfl w⟩))
      · have k1T := cf_lt hT0 kT e59 (by decide)
        rw [if_neg (by omega), if_pos (show cdT tp n k = 159 from e59)] at e1
        refine ⟨fun w => absurd (by omega) w, fun _ => m_faults hE m2 k1T (fun υ2 y2 w2 => m_fine0 (by rw [w2]; omega) ⟨fun _ => ?_, fun w => absurd rfl w⟩)⟩
        intro x ex
        exact dead 0 x (k + 1) υ2 (e1 (k + 1) rfl) (zRm_tr y (zRm_tr y1 y2)) w2
      · refine m_fine1 m1.2.2.2.2.1 ⟨fun w => absurd w (by decide), fun _ => ?_⟩
        rw [m1.1, m1.2.2.1]
        refine ⟨fun w => ?_, fun w => m_faults hE m1 kT (fun υ2 y2 w2 => ?_)⟩
        · have eT : k = T := by omega
          rw [if_pos eT] at e2
          exact ends υ y 1 (fun _ => rfl) (fun q => absurd m1.2.2.2.2.1 q) (fun x xz x14 x13 x18 xt => hq _ x (e2 [c] rfl) (zRx_tr z4 (zRx_tr (zRx_m y) xz)) x13 (by rw [x14]; exact m1.2.2.2.2.1) x18 xt)
        · rw [if_neg (by omega), if_neg (show ¬ cdT tp n k = 159 from e59)] at e1
          exact ends υ2 (zRm_tr y y2) 0 (fun q => by rw [w2] at q; omega) (fun _ => rfl) (fun x xz x14 x13 _ _ => hf k x (e1 k rfl) (zRx_tr z4 (zRx_tr (zRx_m (zRm_tr y y2)) xz)) x13 (by rw [x14]; exact w2))
      · have k1T := cf_lt hT0 kT e59 (by decide)
        rw [if_neg (by omega), if_pos (show cdT tp n k = 159 from e59)] at e1 e2
        refine ⟨fun _ => m_fine1 m2.2.2.2.2.1 ⟨fun w => absurd w (by decide), fun _ => ?_⟩, fun w => absurd w (by omega)⟩
        unfold pTx at e1 e2
        refine m_one hE m2 (by rw [y1.2 _ _ (by omega), y.2 _ _ (by omega)]; exact o4) k1T l5 (fun j υ2 e y2 w2 => ?_) (fun q υ2 e y2 m3 qT q5 => ?_)
        · intro x ex
          exact dead (m + 1) x j υ2 (e1 j (by rw [e]; rfl)) (zRm_tr y (zRm_tr y1 y2)) w2
        · intro x ex
          rw [wks (by omega)] at ex
          subst ex
          rw [e] at e1 e2
          dsimp only at e1 e2
          refine ih (i + 1) q.1 q.2.1 q.2.2 υ2 (pre ++ [c]) (by omega) (zRm_tr y (zRm_tr y1 y2)) m3 qT q5 (fun j hj => e1 j ?_) (fun l hl => ?_)
          · rw [hj]; rfl
          · rw [List.append_assoc]
            exact e2 (c :: l) (by rw [hl]; rfl)
      · refine m_fine1 m1.2.2.2.2.1 ⟨fun w => absurd w (by decide), fun _ => ?_⟩
        rw [m1.1, m1.2.2.1]
        refine ⟨fun w => ?_, fun w => m_faults hE m1 kT (fun υ2 y2 w2 => ?_)⟩
        · have eT : k = T := by omega
          rw [if_pos eT] at e2
          exact ends υ y 1 (fun _ => rfl) (fun q => absurd m1.2.2.2.2.1 q) (fun x xz x14 x13 x18 xt => hq _ x (e2 [c] rfl) (zRx_tr z4 (zRx_tr (zRx_m y) xz)) x13 (by rw [x14]; exact m1.2.2.2.2.1) x18 xt)
        · rw [if_neg (by omega), if_neg (show ¬ cdT tp n k = 159 from e59)] at e1
          exact ends υ2 (zRm_tr y y2) 0 (fun q => by rw [w2] at q; omega) (fun _ => rfl) (fun x xz x14 x13 _ _ => hf k x (e1 k rfl) (zRx_tr z4 (zRx_tr (zRx_m (zRm_tr y y2)) xz)) x13 (by rw [x14]; exact w2))
    have unf : pTx ord (cdT tp n) (vlT tp n) T 12 0 0 = match pCl ord (cdT tp n) (vlT tp n) 0 0 with | .inl j => .inl j | .inr q => if q.1 = T then .inr [q.2.2] else if cdT tp n q.1 = 159 then lnk (pTx ord (cdT tp n) (vlT tp n) T 11 (q.1 + 1) q.2.1) q.2.2 else .inl q.1 := rfl
    refine m_one hE m4 o4 (Nat.zero_le _) (by decide) (fun j υ e y w => ⟨1, dead 0 1 j υ (by rw [unf, e]) y w⟩) (fun q υ e y m1 qT q5 => ⟨13, ?_⟩)
    rw [e] at unf
    dsimp only at unf
    exact key 11 1 q.1 q.2.1 q.2.2 υ [] rfl y m1 qT q5 (fun j hj => by rw [unf]; exact hj) (fun l hl => by rw [unf]; exact hl)
  refine ⟨by cases ord; exact Or.inl rfl; exact Or.inr rfl, ?_⟩
  intro s1 e1
  cases ord with
  | false =>
    refine ⟨fun _ => ?_, fun w => absurd rfl w⟩
    intro s2 e2
    refine ⟨fun _ => ?_, fun w => absurd rfl w⟩
    intro s3 e3
    exact body s3 (by rw [e3, e2, e1]; exact zRx_tr (zRx_s (by omega)) (zRx_tr (zRx_s (by omega)) (zRx_s (by omega)))) (by rw [e3, e2, e1]; simp only [gI_sI, Nat.reduceAdd, Nat.reduceMul, Nat.reduceEqDiff, false_and, true_and, and_false, and_true, reduceIte, Int.toNat_natCast]; exact h13) (by rw [e3, e2]; simp only [gI_sI, Nat.reduceAdd, Nat.reduceMul, Nat.reduceEqDiff, false_and, true_and, and_false, and_true, reduceIte, Int.toNat_natCast]; rfl) (by rw [e3]; simp only [gI_sI, Nat.reduceAdd, Nat.reduceMul, Nat.reduceEqDiff, false_and, true_and, and_false, and_true, reduceIte, Int.toNat_natCast]; rfl) (by rw [e3, e2, e1]; simp only [gI_sI, Nat.reduceAdd, Nat.reduceMul, Nat.reduceEqDiff, false_and, true_and, and_false, and_true, reduceIte, Int.toNat_natCast])
  | true =>
    refine ⟨fun w => absurd w (by decide), fun _ => ?_⟩
    intro s2 e2
    refine ⟨fun w => absurd w (by decide), fun _ => ?_⟩
    intro s3 e3
    exact body s3 (by rw [e3, e2, e1]; exact zRx_tr (zRx_s (by omega)) (zRx_tr (zRx_s (by omega)) (zRx_s (by omega)))) (by rw [e3, e2, e1]; simp only [gI_sI, Nat.reduceAdd, Nat.reduceMul, Nat.reduceEqDiff, false_and, true_and, and_false, and_true, reduceIte, Int.toNat_natCast]; exact h13) (by rw [e3, e2]; simp only [gI_sI, Nat.reduceAdd, Nat.reduceMul, Nat.reduceEqDiff, false_and, true_and, and_false, and_true, reduceIte, Int.toNat_natCast]) (by rw [e3]; simp only [gI_sI, Nat.reduceAdd, Nat.reduceMul, Nat.reduceEqDiff, false_and, true_and, and_false, and_true, reduceIte, Int.toNat_natCast]) (by rw [e3, e2, e1]; simp only [gI_sI, Nat.reduceAdd, Nat.reduceMul, Nat.reduceEqDiff, false_and, true_and, and_false, and_true, reduceIte, Int.toNat_natCast])
end
