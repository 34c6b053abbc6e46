/-! clauses -/
/-- a clause: verb, sum, test, times -/
abbrev zCl : Type := Int × zDn × Option zDn × Int
/-- sum and times, if there are any: up to the test -/
def pHd (ord : Bool) (cf vf : Nat → Int) (v : Int) (k lf : Nat) : zO := if v < (if ord = true then 2 else 4) then pSm ord cf vf 8 k lf else .inr (k, lf, fun _ => none)
def pTm (ord : Bool) (cf vf : Nat → Int) (k : Nat) : Nat ⊕ (Nat × Int) := if ord = true ∧ cf k = 29 then (if cf (k + 1) = 50 ∧ 1 ≤ vf (k + 1) ∧ vf (k + 1) ≤ 20 then .inr (k + 2, vf (k + 1)) else .inl (k + 1)) else .inr (k, 1)
def pIf (ord : Bool) (cf vf : Nat → Int) (k lf : Nat) : Nat ⊕ (Nat × Nat × Option zDn) := if cf k = 6 then (match pTs ord cf vf 8 (k + 1) lf with | .inl j => .inl j | .inr q => .inr (q.1, q.2.1, some q.2.2)) else .inr (k, lf, none)
def pCl (ord : Bool) (cf vf : Nat → Int) (k lf : Nat) : Nat ⊕ (Nat × Nat × zCl) :=
  if vbI ord (cf k) = -1 then .inl k else match pHd ord cf vf (vbI ord (cf k)) (k + 1) lf with
  | .inl j => .inl j
  | .inr q => match pTm ord cf vf q.1 with
    | .inl j => .inl j
    | .inr t => match pIf ord cf vf t.1 q.2.1 with
      | .inl j => .inl j
      | .inr i => .inr (i.1, i.2.1, vbI ord (cf k), q.2.2, i.2.2, t.2)
def lnk (o : Nat ⊕ List zCl) (c : zCl) : Nat ⊕ List zCl := match o with
  | .inl j => .inl j
  | .inr l => .inr (c :: l)
def pTx (ord : Bool) (cf vf : Nat → Int) (T : Nat) : Nat → Nat → Nat → Nat ⊕ List zCl
  | 0, k, _ => .inl k
  | m + 1, k, lf => match pCl ord cf vf k lf with
    | .inl j => .inl j
    | .inr q => if q.1 = T then .inr [q.2.2] else if cf q.1 = 159 then lnk (pTx ord cf vf T m (q.1 + 1) q.2.1) q.2.2 else .inl q.1
theorem vb_v (ord : Bool) (c : Int) : vbI ord c = -1 ∨ (0 ≤ vbI ord c ∧ vbI ord c < (if ord = true then 3 else 5) ∧ c = vbI ord c + (if ord = true then 26 else 1)) := by
  unfold vbI
  cases ord with
  | true =>
    simp only [if_true]
    split
    · right; omega
    · exact Or.inl rfl
  | false =>
    simp only [Bool.false_eq_true, if_false]
    split
    · right; omega
    · exact Or.inl rfl
theorem xDen_lt {oc od : Nat → Int} {a b m : Nat} {D : zDn} (hm : m ≤ 64) (h : xDen oc od a b m D) : a < b := by
  have l := h.1
  rcases Nat.lt_or_ge a b with w | w
  · exact w
  · have e : a = b := by omega
    subst e
    have q := h.2 (fun _ => 0) (fun _ => by decide) [] (by simpa using hm)
    cases ed : D (fun _ => 0) with
    | some v =>
      obtain ⟨_, n, hn⟩ := q.1 v ed
      cases n with
      | zero =>
        have e2 : some (a, ([] : List Int)) = some (a, [v]) := hn
        exact absurd e2 (by simp)
      | succ n =>
        have hn2 : (xst oc od (fun _ => 0) (a, [])).bind (xn oc od (fun _ => 0) n) = some (a, [v]) := hn
        cases ex : xst oc od (fun _ => 0) (a, []) with
        | none => rw [ex] at hn2; exact absurd hn2 (by simp)
        | some q1 =>
          obtain ⟨i1, s1⟩ := q1
          rw [ex] at hn2
          have l1 := xst_lt ex
          have l2 := xn_le (show xn oc od (fun _ => 0) n (i1, s1) = some (a, [v]) from hn2)
          omega
    | none =>
      obtain ⟨n, i, s', q1, q2, _⟩ := q.2 ed
      have := xn_le q1
      omega
theorem xDen_m {oc od : Nat → Int} {a b m m' : Nat} {D : zDn} (hm : m ≤ m') (h : xDen oc od a b m D) : xDen oc od a b m' D := ⟨h.1, fun W hW s hs => h.2 W hW s (by omega)⟩
/-- clause j of the draft -/
def cCl (σ : st_S) (ord : Bool) (j len : Nat) (c : zCl) : Prop :=
  gI σ 16 j = c.1 ∧ (0 ≤ c.1 ∧ c.1 < if ord = true then 3 else 5) ∧ gI σ 20 j = c.2.2.2 ∧ (1 ≤ c.2.2.2 ∧ c.2.2.2 ≤ 20) ∧
  ∃ a b e : Nat, gI σ 17 j = (a : Int) ∧ gI σ 18 j = (b : Int) ∧ gI σ 19 j = (e : Int) ∧ e ≤ len ∧ a ≤ b ∧ b ≤ e ∧
    (hasSum ord c.1 → xDen (cO σ 15) (cD σ 15) a b 50 c.2.1) ∧ (¬ hasSum ord c.1 → a = b) ∧ (c.2.2.1 = none → b = e) ∧ ∀ D, c.2.2.1 = some D → b < e ∧ xDen (cO σ 15) (cD σ 15) b e 50 D
theorem cCl_of {σ τ : st_S} {ord : Bool} {j len len' : Nat} {c : zCl} (h : cCl σ ord j len c) (hl : len ≤ len') (h1 : ∀ d, 16 ≤ d → d ≤ 20 → gI τ d j = gI σ d j) (h2 : ∀ i, i < len → gI τ 15 i = gI σ 15 i) : cCl τ ord j len' c := by
  obtain ⟨a1, a2, a3, a4, a, b, e, b1, b2, b3, b4, b5, b6, b7, b8, b9, b10⟩ := h
  refine ⟨by rw [h1 _ (by omega) (by omega)]; exact a1, a2, by rw [h1 _ (by omega) (by omega)]; exact a3, a4, a, b, e, by rw [h1 _ (by omega) (by omega)]; exact b1, by rw [h1 _ (by omega) (by omega)]; exact b2, by rw [h1 _ (by omega) (by omega)]; exact b3, by omega, b5, b6, fun q => xDen_cg (fun i _ hi => cO_at (h2 i (by omega))) (b7 q), b8, b9, fun D hD => ⟨(b10 D hD).1, xDen_cg (fun i _ hi => cO_at (h2 i (by omega))) (b10 D hD).2⟩⟩
/-- what reading a text changes in the class -/
def zRt (σ τ : st_S) : Prop := τ.2 = σ.2 ∧ ∀ c j, ¬ (c = 12 ∧ 3 ≤ j ∧ j ≤ 9) → ¬ (14 ≤ c ∧ c ≤ 20) → gI τ c j = gI σ c j
theorem zRt_rfl {σ : st_S} : zRt σ σ := ⟨rfl, fun _ _ _ _ => rfl⟩
theorem zRt_tr {σ τ υ : st_S} (h : zRt σ τ) (g : zRt τ υ) : zRt σ υ := ⟨g.1.trans h.1, fun c j a b => (g.2 c j a b).trans (h.2 c j a b)⟩
theorem zRt_d {σ τ : st_S} (h : zRd σ τ) : zRt σ τ := ⟨h.1, fun c j a b => h.2 c j (by omega) (by omega) (by omega)⟩
theorem zRt_s {σ : st_S} {c j : Nat} {v : Int} (hc : 14 ≤ c ∧ c ≤ 20) : zRt σ (sI σ c j v) := ⟨rfl, fun c' j' a b => by rw [gI_sI, if_neg (by omega)]⟩
section
variable {tp : Nat → Int} {n T : Nat} {ord : Bool} {σ : st_S}
theorem cS_x {τ : st_S} {k lf dl : Nat} (h : cS σ tp n ord k lf dl) (h2 : ∀ c j, c ≤ 15 → gI τ c j = gI σ c j) : cS τ tp n ord k lf dl := by
  obtain ⟨⟨⟨a1, a2, a3⟩, a4, a5, a6, a7⟩, b1, b2, b3⟩ := h
  refine ⟨⟨⟨?_, ⟨a2.1, by rw [h2 _ _ (by decide)]; exact a2.2⟩, fun i hi => ?_⟩, ?_, ?_, ?_, ?_⟩, ?_, ?_, ?_⟩
  · rw [h2 _ _ (by decide)]; exact a1
  · rw [h2 _ _ (by decide)]; exact a3 i hi
  · rw [h2 _ _ (by decide)]; exact a4
  · rw [h2 _ _ (by decide)]; exact a5
  · rw [h2 _ _ (by decide)]; exact a6
  · rw [h2 _ _ (by decide)]; exact a7
  · rw [h2 _ _ (by decide)]; exact b1
  · rw [h2 _ _ (by decide)]; exact b2
  · rw [h2 _ _ (by decide)]; exact b3
set_option maxHeartbeats 1000000 in
theorem w_readClause {i k lf dl : Nat} {Q : Int → st_S → Prop} (hE : tkE tp n T) (hi : i < 12) (hs : cS σ tp n ord k lf dl) (hd : dl ≤ k) (hk : k ≤ T) (hl : lf ≤ 50) (hck : cdK ord σ 0 dl)
    (hf : ∀ j τ, pCl ord (cdT tp n) (vlT tp n) k lf = .inl j → zRt σ τ → gI τ 12 3 = (psT tp n j : Int) → Q 0 τ)
    (hq : ∀ q τ (dl1 : Nat), pCl ord (cdT tp n) (vlT tp n) k lf = .inr q → zRt σ τ → cS τ tp n ord q.1 q.2.1 dl1 → k < q.1 → q.1 ≤ T → q.2.1 ≤ 50 → dl ≤ dl1 → dl1 ≤ q.1 → (∀ j, j < dl → gI τ 15 j = gI σ 15 j) → (∀ d j, 16 ≤ d → d ≤ 20 → j ≠ i → gI τ d j = gI σ d j) → cdK ord τ 0 dl1 → gI τ 14 7 = ((i + 1 : Nat) : Int) → cCl τ ord i dl1 q.2.2 → Q 1 τ) : wp_X6_readClause (i : Int) σ Q := by
  have hb := hE.1
  have hT0 := cf_T hE
  have hT4 : T ≤ 400 := by have := hE.2.1; have := hE.2.2.1; omega
  have vv := vb_v ord (cdT tp n k)
  have body : B_X6_readClause_15 Q (i : Int) (if ord = true then 2 else 0) σ := by
    refine w_verbT ord hb hs.1 ⟨fun nv => ?_, fun ev => w_failS hs (fun τ z w => hf k τ (by unfold pCl; rw [if_pos ev]) (zRt_d z) w)⟩
    have k1T : k + 1 ≤ T := by
      by_cases e : k = T
      · subst e; rw [hT0] at nv; exact absurd (by cases ord <;> rfl) nv
      · omega
    have vv2 : 0 ≤ vbI ord (cdT tp n k) ∧ vbI ord (cdT tp n k) < (if ord = true then 3 else 5) := by rcases vv with q | q; exact absurd q nv; exact ⟨q.1, q.2.1⟩
    have v5 : vbI ord (cdT tp n k) < 5 := by have := vv2.2; split at this <;> omega
    generalize eV : vbI ord (cdT tp n k) = v at *
    refine w_advS hs (fun τ1 z1 c1 u1 => ⟨ixn hi, ?_⟩)
    intro s1 e1
    refine ⟨ixn hi, ?_⟩
    intro s2 e2
    refine ⟨ixn hi, ?_⟩
    intro s3 e3
    rw [Int.toNat_natCast] at e1 e2 e3
    have f3 : ∀ c j, c ≤ 15 → gI s3 c j = gI τ1 c j := fun c j hc => by rw [e3, gI_sI, if_neg (by omega), e2, gI_sI, if_neg (by omega), e1, gI_sI, if_neg (by omega)]
    have c3 : cS s3 tp n ord (k + 1) lf dl := cS_x c1 f3
    have z3 : zRt σ s3 := zRt_tr (zRt_d z1) (by rw [e3, e2, e1]; exact zRt_tr (zRt_s (by omega)) (zRt_tr (zRt_s (by omega)) (zRt_s (by omega))))
    have l2 : gI s2 14 6 = (dl : Int) := by rw [e2, gI_sI, if_neg (by omega), e1, gI_sI, if_neg (by omega)]; exact c1.2.2.2
    have v16 : gI s3 16 i = v := by rw [e3, e2, e1]; simp only [gI_sI, Nat.reduceAdd, Nat.reduceMul, Nat.reduceEqDiff, false_and, true_and, and_false, and_true, reduceIte, Int.toNat_natCast]
    have v20 : gI s3 20 i = 1 := by rw [e3, e2]; simp only [gI_sI, Nat.reduceAdd, Nat.reduceMul, Nat.reduceEqDiff, false_and, true_and, and_false, and_true, reduceIte, Int.toNat_natCast]
    have v17 : gI s3 17 i = (dl : Int) := by rw [e3, l2]; simp only [gI_sI, Nat.reduceAdd, Nat.reduceMul, Nat.reduceEqDiff, false_and, true_and, and_false, and_true, reduceIte, Int.toNat_natCast]
    have o3 : ∀ d j, 16 ≤ d → d ≤ 20 → j ≠ i → gI s3 d j = gI σ d j := fun d j a b q => by rw [e3, gI_sI, if_neg (by omega), e2, gI_sI, if_neg (by omega), e1, gI_sI, if_neg (by omega)]; exact z1.2 d j (by omega) (by omega) (by omega)
    have u3 : ∀ j, gI s3 15 j = gI σ 15 j := fun j => by rw [f3 15 j (by decide)]; exact u1 j
    -- the end of the clause
    have fin : ∀ (q : Nat × Nat × zDn) (t : Nat × Int) (g : Nat × Nat × Option zDn) (τ : st_S) (b dl1 : Nat), pHd ord (cdT tp n) (vlT tp n) v (k + 1) lf = .inr q → pTm ord (cdT tp n) (vlT tp n) q.1 = .inr t → pIf ord (cdT tp n) (vlT tp n) t.1 q.2.1 = .inr g → zRt σ τ → cS τ tp n ord g.1 g.2.1 dl1 → k < g.1 → g.1 ≤ T → g.2.1 ≤ 50 → dl ≤ b → b ≤ dl1 → dl1 ≤ g.1 → (∀ j, j < dl → gI τ 15 j = gI σ 15 j) → (∀ d j, 16 ≤ d → d ≤ 20 → j ≠ i → gI τ d j = gI σ d j) → cdK ord τ 0 dl1 → gI τ 16 i = v → gI τ 20 i = t.2 → (1 ≤ t.2 ∧ t.2 ≤ 20) → gI τ 17 i = (dl : Int) → gI τ 18 i = (b : Int) → (hasSum ord v → xDen (cO τ 15) (cD τ 15) dl b 50 q.2.2) → (¬ hasSum ord v → dl = b) → (g.2.2 = none → b = dl1) → (∀ D, g.2.2 = some D → xDen (cO τ 15) (cD τ 15) b dl1 50 D) → B_X6_readClause_162 Q (i : Int) τ := by
      intro q t g τ b dl1 h1 h2 h3 z cc kg gT' g5 db bd dg un ot ck a16 a20 t20 a17 a18 x1 x2 x3 x4
      refine ⟨ixn hi, ?_⟩
      intro s4 e4 x ex s5 e5
      rw [Int.toNat_natCast, cc.2.2.2] at e4
      rw [wks (by omega)] at ex
      have f5 : ∀ c j, c ≠ 19 → ¬ (c = 14 ∧ j = 7) → gI s5 c j = gI τ c j := fun c j a1 a2 => by rw [e5, gI_sI, if_neg (by omega), e4, gI_sI, if_neg (by omega)]
      have c15 : ∀ j, gI s5 15 j = gI τ 15 j := fun j => f5 15 j (by decide) (by omega)
      have c5 : cS s5 tp n ord g.1 g.2.1 dl1 := by
        obtain ⟨⟨⟨y1, y2, y3⟩, y4, y5, y6, y7⟩, w1, w2, w3⟩ := cc
        refine ⟨⟨⟨?_, ⟨y2.1, by rw [f5 _ _ (by decide) (by omega)]; exact y2.2⟩, fun i hi => ?_⟩, ?_, ?_, ?_, ?_⟩, ?_, ?_, ?_⟩
        · rw [f5 _ _ (by decide) (by omega)]; exact y1
        · rw [f5 _ _ (by decide) (by omega)]; exact y3 i hi
        · rw [f5 _ _ (by decide) (by omega)]; exact y4
        · rw [f5 _ _ (by decide) (by omega)]; exact y5
        · rw [f5 _ _ (by decide) (by omega)]; exact y6
        · rw [f5 _ _ (by decide) (by omega)]; exact y7
        · rw [f5 _ _ (by decide) (by omega)]; exact w1
        · rw [f5 _ _ (by decide) (by omega)]; exact w2
        · rw [f5 _ _ (by decide) (by omega)]; exact w3
      refine hq (g.1, g.2.1, v, q.2.2, g.2.2, t.2) s5 dl1 (by unfold pCl; rw [eV, if_neg nv, h1]; dsimp only; rw [h2]; dsimp only; rw [h3]) (zRt_tr z (by rw [e5, e4]; exact zRt_tr (zRt_s (by omega)) (zRt_s (by omega)))) c5 kg gT' g5 (by omega) dg (fun j hj => by rw [c15]; exact un j hj) (fun d j a1 a2 a3 => ?_) (fun j a1 a2 => ?_) (by rw [e5, ex]; simp only [gI_sI, Nat.reduceAdd, Nat.reduceMul, Nat.reduceEqDiff, false_and, true_and, and_false, and_true, reduceIte, Int.toNat_natCast]) ?_
      · rw [e5, gI_sI, if_neg (by omega), e4, gI_sI, if_neg (by omega)]; exact ot d j a1 a2 a3
      · rw [(cO_at (c15 j)).1, (cO_at (c15 j)).2]; exact ck j a1 a2
      · refine ⟨by rw [f5 _ _ (by decide) (by omega)]; exact a16, vv2, by rw [f5 _ _ (by decide) (by omega)]; exact a20, t20, dl, b, dl1, by rw [f5 _ _ (by decide) (by omega)]; exact a17, by rw [f5 _ _ (by decide) (by omega)]; exact a18, by rw [e5, e4]; simp only [gI_sI, Nat.reduceAdd, Nat.reduceMul, Nat.reduceEqDiff, false_and, true_and, and_false, and_true, reduceIte, Int.toNat_natCast], Nat.le_refl _, db, bd, fun w => xDen_cg (fun j _ _ => cO_at (c15 j)) (x1 w), x2, x3, fun D hD => ⟨xDen_lt (by decide) (x4 D hD), xDen_cg (fun j _ _ => cO_at (c15 j)) (x4 D hD)⟩⟩
    -- from the test on
    have tst : ∀ (q : Nat × Nat × zDn) (t : Nat × Int) (τ : st_S) (b : Nat), pHd ord (cdT tp n) (vlT tp n) v (k + 1) lf = .inr q → pTm ord (cdT tp n) (vlT tp n) q.1 = .inr t → zRt σ τ → cS τ tp n ord t.1 q.2.1 b → k < t.1 → t.1 ≤ T → q.2.1 ≤ 50 → dl ≤ b → b ≤ t.1 → (∀ j, j < dl → gI τ 15 j = gI σ 15 j) → (∀ d j, 16 ≤ d → d ≤ 20 → j ≠ i → gI τ d j = gI σ d j) → cdK ord τ 0 b → gI τ 16 i = v → gI τ 20 i = t.2 → (1 ≤ t.2 ∧ t.2 ≤ 20) → gI τ 17 i = (dl : Int) → gI τ 18 i = (b : Int) → (hasSum ord v → xDen (cO τ 15) (cD τ 15) dl b 50 q.2.2) → (¬ hasSum ord v → dl = b) → B_X6_readClause_138 Q (i : Int) τ := by
      intro q t τ b h1 h2 z cc kt tT q5 db bt un ot ck a16 a20 t20 a17 a18 x1 x2
      refine w_isWordT (c := 5) hb cc.1 (by decide) (by decide) sb_v.2.2.2.2.1 ⟨fun w => ?_, fun w => ?_⟩
      · have e6 : ¬ cdT tp n t.1 = 6 := by
          intro c
          rw [if_pos (show cdT tp n t.1 = ((5 : Nat) : Int) + 1 from c)] at w
          exact absurd w (by decide)
        exact fin q t (t.1, q.2.1, none) τ b b h1 h2 (by unfold pIf; rw [if_neg e6]) z cc kt tT q5 db (Nat.le_refl _) bt un ot ck a16 a20 t20 a17 a18 x1 x2 (fun _ => rfl) (fun D hD => absurd hD (by simp))
      · have e6 : cdT tp n t.1 = 6 := by
          by_cases c : cdT tp n t.1 = 6
          · exact c
          · rw [if_neg (show ¬ cdT tp n t.1 = ((5 : Nat) : Int) + 1 from c)] at w
            exact absurd rfl w
        have t1T := cf_lt hT0 tT e6 (by decide)
        refine w_advS cc (fun τ2 y2 c2 w2 => ?_)
        refine w_testS hE 8 80 0 (by decide) (by decide) (t.1 + 1) q.2.1 τ2 b _ c2 (by omega) t1T (fun j υ e y w => ⟨fun q => absurd rfl q, fun _ => hf j υ (by unfold pCl; rw [eV, if_neg nv, h1]; dsimp only; rw [h2]; dsimp only; unfold pIf; rw [if_pos e6, e]) (zRt_tr z (zRt_tr (zRt_d y2) (zRt_d y))) w⟩) (fun g υ dl1 e y b1 b2 b3 b4 b5 b6 => ⟨fun _ => ?_, fun w => absurd w (by decide)⟩)
        have po := pOk_ts (ord := ord) (vf := vlT tp n) hT0 8 (t.1 + 1) q.2.1 g t1T e
        have low : ∀ j, j < b → gI υ 15 j = gI τ 15 j := fun j hj => by rw [b4 j hj, w2]
        have oth : ∀ d j, 16 ≤ d → gI υ d j = gI τ d j := fun d j hd => by rw [y.2 d j (by omega) (by omega) (by omega), y2.2 d j (by omega) (by omega) (by omega)]
        refine fin q t (g.1, g.2.1, some g.2.2) υ b dl1 h1 h2 (by unfold pIf; rw [if_pos e6, e]) (zRt_tr z (zRt_tr (zRt_d y2) (zRt_d y))) b1 (by show k < g.1; omega) po.2.1 po.2.2.2 db b2 (by show dl1 ≤ g.1; omega) (fun j hj => by rw [low j (by omega)]; exact un j hj) (fun d j a1 a2 a3 => by rw [oth d j a1]; exact ot d j a1 a2 a3) (fun j a1 a2 => ?_) (by rw [oth _ _ (by decide)]; exact a16) (by rw [oth _ _ (by decide)]; exact a20) t20 (by rw [oth _ _ (by decide)]; exact a17) (by rw [oth _ _ (by decide)]; exact a18) (fun w => xDen_cg (fun j _ hj => cO_at (low j hj)) (x1 w)) x2 (fun w => absurd w (by simp)) (fun D hD => ?_)
        · by_cases c : j < b
          · rw [(cO_at (low j c)).1, (cO_at (low j c)).2]; exact ck j a1 c
          · exact b5 j (by omega) a2
        · cases Option.some.inj hD
          exact xDen_m (by omega) b6
    -- from the times on
    have tms : ∀ (q : Nat × Nat × zDn) (τ : st_S) (b : Nat), pHd ord (cdT tp n) (vlT tp n) v (k + 1) lf = .inr q → zRt σ τ → cS τ tp n ord q.1 q.2.1 b → k < q.1 → q.1 ≤ T → q.2.1 ≤ 50 → dl ≤ b → b ≤ q.1 → (∀ j, j < dl → gI τ 15 j = gI σ 15 j) → (∀ d j, 16 ≤ d → d ≤ 20 → j ≠ i → gI τ d j = gI σ d j) → cdK ord τ 0 b → gI τ 16 i = v → gI τ 20 i = 1 → gI τ 17 i = (dl : Int) → (hasSum ord v → xDen (cO τ 15) (cD τ 15) dl b 50 q.2.2) → (¬ hasSum ord v → dl = b) → B_X6_readClause_96 Q (i : Int) τ := by
      intro q τ b h1 z cc kq qT q5 db bq un ot ck a16 a20 a17 x1 x2
      refine ⟨ixn hi, ?_⟩
      intro s6 e6
      rw [Int.toNat_natCast, cc.2.2.2] at e6
      have f6 : ∀ c j, c ≠ 18 → gI s6 c j = gI τ c j := fun c j a => by rw [e6, gI_sI, if_neg (by omega)]
      have c6 : cS s6 tp n ord q.1 q.2.1 b := cS_x cc (fun c j hc => f6 c j (by omega))
      have z6 : zRt σ s6 := zRt_tr z (by rw [e6]; exact zRt_s (by omega))
      have ck6 : cdK ord s6 0 b := fun j a1 a2 => by rw [(cO_at (f6 15 j (by decide))).1, (cO_at (f6 15 j (by decide))).2]; exact ck j a1 a2
      have un6 : ∀ j, j < dl → gI s6 15 j = gI σ 15 j := fun j hj => by rw [f6 15 j (by decide)]; exact un j hj
      have ot6 : ∀ d j, 16 ≤ d → d ≤ 20 → j ≠ i → gI s6 d j = gI σ d j := fun d j a1 a2 a3 => by rw [e6, gI_sI, if_neg (by omega)]; exact ot d j a1 a2 a3
      have x16 : hasSum ord v → xDen (cO s6 15) (cD s6 15) dl b 50 q.2.2 := fun w => xDen_cg (fun j _ _ => cO_at (f6 15 j (by decide))) (x1 w)
      have a18 : gI s6 18 i = (b : Int) := by rw [e6]; simp only [gI_sI, Nat.reduceAdd, Nat.reduceMul, Nat.reduceEqDiff, false_and, true_and, and_false, and_true, reduceIte, Int.toNat_natCast]
      have none' : pTm ord (cdT tp n) (vlT tp n) q.1 = .inr (q.1, 1) → B_X6_readClause_138 Q (i : Int) s6 := fun h2 => tst q (q.1, 1) s6 b h1 h2 z6 c6 kq qT q5 db bq un6 ot6 ck6 (by rw [f6 _ _ (by decide)]; exact a16) (by rw [f6 _ _ (by decide)]; exact a20) ⟨(by decide : (1 : Int) ≤ 1), (by decide : (1 : Int) ≤ 20)⟩ (by rw [f6 _ _ (by decide)]; exact a17) a18 x16 x2
      rw [c6.2.1]
      cases ord with
      | false => exact ⟨fun _ => none' (by unfold pTm; rw [if_neg (by simp)]), fun w => absurd rfl w⟩
      | true =>
        refine ⟨fun w => absurd w (by decide), fun _ => w_isWordT (c := 28) hb c6.1 (by decide) (by decide) sb_v.2.2.2.1 ⟨fun w => ?_, fun w => ?_⟩⟩
        · have e29 : ¬ cdT tp n q.1 = 29 := by
            intro c
            rw [if_pos (show cdT tp n q.1 = ((28 : Nat) : Int) + 1 from c)] at w
            exact absurd w (by decide)
          exact none' (by unfold pTm; rw [if_neg (fun z => e29 z.2)])
        · have e29 : cdT tp n q.1 = 29 := by
            by_cases c : cdT tp n q.1 = 29
            · exact c
            · rw [if_neg (show ¬ cdT tp n q.1 = ((28 : Nat) : Int) + 1 from c)] at w
              exact absurd rfl w
          have q1T := cf_lt hT0 qT e29 (by decide)
          have kd1 := cd_n (k := q.1 + 1) hb
          have nv1 := nm_vl (tp := tp) (n := n) (k := q.1 + 1)
          refine w_advS c6 (fun τ2 y2 c2 w2 => ?_)
          have flt : ¬ (cdT tp n (q.1 + 1) = 50 ∧ 1 ≤ vlT tp n (q.1 + 1) ∧ vlT tp n (q.1 + 1) ≤ 20) → B_X6_readTimes_29 (fun r64 s65 => (¬ r64 = 0 → B_X6_readClause_138 Q (i : Int) s65) ∧ (r64 = 0 → Q 0 s65)) τ2 := by
            intro c
            exact w_failS (Q := fun r64 s65 => (¬ r64 = 0 → B_X6_readClause_138 Q (i : Int) s65) ∧ (r64 = 0 → Q 0 s65)) c2 (fun υ y w => ⟨fun q => absurd rfl q, fun _ => hf (q.1 + 1) υ (by unfold pCl; rw [eV, if_neg nv, h1]; dsimp only; unfold pTm; rw [if_pos ⟨rfl, e29⟩, if_neg c]) (zRt_tr z6 (zRt_tr (zRt_d y2) (zRt_d y))) w⟩)
          rw [c2.1.2.1, c2.1.2.2.2.2, nv1.1]
          refine ⟨fun c => flt (fun z => c (kd1.mp z.1)), fun c => ⟨fun c' => flt (fun z => by unfold o_min at c'; split at c' <;> omega), fun c' => ⟨fun c'' => ?_, fun c'' => flt (fun z => c'' (by unfold o_min; split <;> omega))⟩⟩⟩
          have cv : cdT tp n (q.1 + 1) = 50 ∧ 1 ≤ vlT tp n (q.1 + 1) ∧ vlT tp n (q.1 + 1) ≤ 20 := by
            refine ⟨kd1.mpr c, ?_, ?_⟩
            · unfold o_min at c'; split at c' <;> omega
            · unfold o_min at c''; split at c'' <;> omega
          have em : o_min (vlT tp n (q.1 + 1)) 1001 = vlT tp n (q.1 + 1) := by unfold o_min; rw [if_neg (by omega)]
          rw [em]
          have q2T := cf_lt hT0 q1T cv.1 (by decide)
          refine ⟨ixn hi, ?_⟩
          intro s7 e7
          rw [Int.toNat_natCast] at e7
          have f7 : ∀ c j, c ≠ 20 → gI s7 c j = gI τ2 c j := fun c j a => by rw [e7, gI_sI, if_neg (by omega)]
          have c7 : cS s7 tp n true (q.1 + 1) q.2.1 b := cS_x c2 (fun c j hc => f7 c j (by omega))
          refine w_advS c7 (fun τ3 y3 c3' w3 => ⟨fun _ => ?_, fun w => absurd w (by decide)⟩)
          have all15 : ∀ j, gI τ3 15 j = gI s6 15 j := fun j => by rw [w3, f7 15 j (by decide), w2]
          have oth : ∀ d j, 16 ≤ d → d ≠ 20 → gI τ3 d j = gI s6 d j := fun d j hd h20 => by rw [y3.2 d j (by omega) (by omega) (by omega), f7 d j h20, y2.2 d j (by omega) (by omega) (by omega)]
          have o20 : ∀ j, gI τ3 20 j = if j = i then vlT tp n (q.1 + 1) else gI s6 20 j := fun j => by
            rw [y3.2 20 j (by omega) (by omega) (by omega), e7, gI_sI]
            by_cases ej : j = i
            · rw [if_pos ⟨rfl, ej⟩, if_pos ej]
            · rw [if_neg (fun z => ej z.2), if_neg ej, y2.2 20 j (by omega) (by omega) (by omega)]
          refine tst q (q.1 + 2, vlT tp n (q.1 + 1)) τ3 b h1 (by unfold pTm; rw [if_pos ⟨rfl, e29⟩, if_pos cv]) (zRt_tr z6 (zRt_tr (zRt_d y2) (zRt_tr (by rw [e7]; exact zRt_s (by omega)) (zRt_d y3)))) c3' (by show k < q.1 + 2; omega) (by show q.1 + 2 ≤ T; omega) q5 db (by show b ≤ q.1 + 2; omega) (fun j hj => by rw [all15]; exact un6 j hj) (fun d j a1 a2 a3 => ?_) (fun j a1 a2 => by rw [(cO_at (all15 j)).1, (cO_at (all15 j)).2]; exact ck6 j a1 a2) (by rw [oth _ _ (by decide) (by decide), f6 _ _ (by decide)]; exact a16) (by rw [o20, if_pos rfl]) cv.2 (by rw [oth _ _ (by decide) (by decide), f6 _ _ (by decide)]; exact a17) (by rw [oth _ _ (by decide) (by decide)]; exact a18) (fun w => xDen_cg (fun j _ _ => cO_at (all15 j)) (x16 w)) x2
          by_cases e20 : d = 20
          · subst e20; rw [o20, if_neg a3]; exact ot6 20 j a1 a2 a3
          · rw [oth d j a1 e20]; exact ot6 d j a1 a2 a3
    have main : ∀ v0 : Int, v0 = (if ord = true then 2 else 4) → B_X6_readClause_82 Q (i : Int) v0 v s3 := by
      intro v0 ev0
      have ih : (v < v0 ↔ hasSum ord v) := by rw [ev0]; unfold hasSum; cases ord <;> exact Iff.rfl
      unfold B_X6_readClause_82
      rw [wr_id (by omega) (by omega)]
      refine ⟨fun w => ?_, fun w => ?_⟩
      · have nh : ¬ hasSum ord v := fun q => by have := ih.mpr q; omega
        exact tms (k + 1, lf, fun _ => none) s3 dl (by unfold pHd; rw [← ev0, if_neg (by omega)]) z3 c3 (by show k < k + 1; omega) k1T hl (Nat.le_refl _) (by show dl ≤ k + 1; omega) (fun j _ => u3 j) o3 (fun j a1 a2 => by rw [(cO_at (u3 j)).1, (cO_at (u3 j)).2]; exact hck j a1 a2) v16 v20 v17 (fun q => absurd q nh) (fun _ => rfl)
      · have hh : hasSum ord v := ih.mp (by omega)
        have ep : pHd ord (cdT tp n) (vlT tp n) v (k + 1) lf = pSm ord (cdT tp n) (vlT tp n) 8 (k + 1) lf := by unfold pHd; rw [← ev0, if_pos (by omega)]
        refine w_sumS hE 8 80 0 (by decide) (by decide) (k + 1) lf s3 dl _ c3 (by omega) k1T (fun j υ e y w => ⟨fun q => absurd rfl q, fun _ => hf j υ (by unfold pCl; rw [eV, if_neg nv, ep, e]) (zRt_tr z3 (zRt_d y)) w⟩) (fun q υ dl1 e y b1 b2 b3 b4 b5 b6 => ⟨fun _ => ?_, fun w => absurd w (by decide)⟩)
        have po := pOk_sm (ord := ord) (vf := vlT tp n) hT0 8 (k + 1) lf q k1T e
        have oth : ∀ d j, 16 ≤ d → gI υ d j = gI s3 d j := fun d j hd => y.2 d j (by omega) (by omega) (by omega)
        refine tms q υ dl1 (by rw [ep]; exact e) (zRt_tr z3 (zRt_d y)) b1 (by omega) po.2.1 po.2.2.2 b2 (by omega) (fun j hj => by rw [b4 j hj]; exact u3 j) (fun d j a1 a2 a3 => by rw [oth d j a1]; exact o3 d j a1 a2 a3) (fun j a1 a2 => ?_) (by rw [oth _ _ (by decide)]; exact v16) (by rw [oth _ _ (by decide)]; exact v20) (by rw [oth _ _ (by decide)]; exact v17) (fun _ => xDen_m (by omega) b6) (fun q => absurd hh q)
        by_cases c : j < dl
        · have e := cO_at ((b4 j c).trans (u3 j))
          rw [e.1, e.2]; exact hck j a1 c
        · exact b5 j (by omega) a2
    rw [c3.2.1]
    cases ord with
    | false => exact ⟨fun _ => main 4 rfl, fun w => absurd rfl w⟩
    | true => exact ⟨fun w => absurd w (by decide), fun _ => main 2 rfl⟩
  unfold wp_X6_readClause
  rw [hs.2.1]
  cases ord with
  | false => exact ⟨fun _ => body, fun w => absurd rfl w⟩
  | true => exact ⟨fun w => absurd w (by decide), fun _ => body⟩
end
