/-! the class's code, put together -/
section
variable {oc od : Nat → Int}
theorem xn_add {W : Nat → Int} : ∀ (m n : Nat) (q : Nat × List Int), xn oc od W (m + n) q = (xn oc od W m q).bind (xn oc od W n) := by
  intro m
  induction m with
  | zero => intro n q; rw [Nat.zero_add]; rfl
  | succ m ih =>
    intro n q
    rw [show m + 1 + n = (m + n) + 1 by omega]
    show (xst oc od W q).bind (xn oc od W (m + n)) = ((xst oc od W q).bind (xn oc od W m)).bind (xn oc od W n)
    cases xst oc od W q with
    | none => rfl
    | some q1 => exact ih n q1
theorem xn_1 {W : Nat → Int} {q q1 : Nat × List Int} (h : xst oc od W q = some q1) : xn oc od W 1 q = some q1 := by
  show (xst oc od W q).bind (xn oc od W 0) = _
  rw [h]
  rfl
theorem xst_cg {oc' od' W : Nat → Int} {i : Nat} {s : List Int} (h1 : oc' i = oc i) (h2 : od' i = od i) : xst oc' od' W (i, s) = xst oc od W (i, s) := by
  unfold xst
  rw [h1, h2]
theorem xn_cg {oc' od' W : Nat → Int} {a b : Nat} (h : ∀ i, a ≤ i → i < b → oc' i = oc i ∧ od' i = od i) : ∀ (n i j : Nat) (s s' : List Int), a ≤ i → j ≤ b → xn oc od W n (i, s) = some (j, s') → xn oc' od' W n (i, s) = some (j, s') := by
  intro n
  induction n with
  | zero => intro i j s s' _ _ hq; exact hq
  | succ n ih =>
    intro i j s s' ai jb hq
    have hq2 : (xst oc od W (i, s)).bind (xn oc od W n) = some (j, s') := hq
    cases e : xst oc od W (i, s) with
    | none => rw [e] at hq2; exact absurd hq2 (by simp)
    | some q1 =>
      obtain ⟨i1, s1⟩ := q1
      rw [e] at hq2
      have hq3 : xn oc od W n (i1, s1) = some (j, s') := hq2
      have l1 := xst_lt e
      have l2 := xn_le hq3
      show (xst oc' od' W (i, s)).bind (xn oc' od' W n) = some (j, s')
      rw [xst_cg (h i ai (by omega)).1 (h i ai (by omega)).2, e]
      exact ih i1 j s1 s' (by omega) jb hq3
theorem xDen_cg {oc' od' : Nat → Int} {a b m : Nat} {D : (Nat → Int) → Option Int} (h : ∀ i, a ≤ i → i < b → oc' i = oc i ∧ od' i = od i) (g : xDen oc od a b m D) : xDen oc' od' a b m D := by
  refine ⟨g.1, fun W hW s hs => ⟨fun v hv => ?_, fun hv => ?_⟩⟩
  · obtain ⟨q1, n, q2⟩ := (g.2 W hW s hs).1 v hv
    exact ⟨q1, n, xn_cg h n a b s _ (Nat.le_refl _) (Nat.le_refl _) q2⟩
  · obtain ⟨n, i, s', q1, q2, q3⟩ := (g.2 W hW s hs).2 hv
    have l := xn_le q1
    refine ⟨n, i, s', xn_cg h n a i s _ (Nat.le_refl _) (by omega) q1, q2, ?_⟩
    rw [xst_cg (h i l q2).1 (h i l q2).2]
    exact q3
theorem xDen_num {a : Nat} {v : Int} (h0 : oc a = 0) (h1 : od a = v) (hv : wr v = v) : xDen oc od a (a + 1) 1 (fun _ => some v) := by
  refine ⟨by omega, fun W hW s hs => ⟨fun u hu => ?_, fun hu => absurd hu (by simp)⟩⟩
  cases Option.some.inj hu
  refine ⟨hv, 1, xn_1 ?_⟩
  unfold xst
  rw [if_pos h0, if_neg (by show ¬ 64 ≤ s.length; omega)]
  show some (a + 1, od a :: s) = _
  rw [h1]
theorem xDen_word {a i : Nat} (h0 : oc a = 1) (h1 : od a = (i : Int)) (hi : i < 25) : xDen oc od a (a + 1) 1 (fun W => some (W i)) := by
  refine ⟨by omega, fun W hW s hs => ⟨fun u hu => ?_, fun hu => absurd hu (by simp)⟩⟩
  cases Option.some.inj hu
  refine ⟨hW i, 1, xn_1 ?_⟩
  unfold xst
  rw [if_neg (by show ¬ oc a = 0; omega), if_pos h0, if_neg (by show ¬ 64 ≤ s.length; omega)]
  show (if 25 ≤ od a then none else some (a + 1, W (od a).toNat :: s)) = _
  rw [h1, if_neg (by omega), Int.toNat_natCast]
abbrev zDn : Type := (Nat → Int) → Option Int
def dop (op : Int) (D1 D2 : zDn) : zDn := fun W => if op = 11 then (D1 W).bind (fun v => if v = 1 then some v else D2 W) else if op = 12 then (D1 W).bind (fun v => if v = 1 then D2 W else some v) else (D1 W).bind (fun a => (D2 W).bind (fun b => xop op a b))
def dNot (D : zDn) : zDn := fun W => (D W).map (fun v => wr (1 - v))
theorem xop_wr {op a b v : Int} (h : xop op a b = some v) : wr v = v := by
  unfold xop at h
  rw [Option.bind_eq_some_iff] at h
  obtain ⟨u, h1, h2⟩ := h
  split at h2
  · exact absurd h2 (by simp)
  · rename_i q
    cases Option.some.inj h2
    exact wr_id (by omega) (by omega)
theorem xDen_bin {a b c m1 m2 : Nat} {op : Int} {D1 D2 : zDn} (h1 : xDen oc od a b m1 D1) (h2 : xDen oc od b c m2 D2) (hm : 1 ≤ m1) (ho : oc c = op) (hop : 2 ≤ op ∧ op ≤ 9) : xDen oc od a (c + 1) (m1 + m2) (dop op D1 D2) := by
  have l1 := h1.1
  have l2 := h2.1
  refine ⟨by omega, fun W hW s hs => ?_⟩
  have dd : dop op D1 D2 W = (D1 W).bind (fun a => (D2 W).bind (fun b => xop op a b)) := by unfold dop; rw [if_neg (by omega), if_neg (by omega)]
  rw [dd]
  cases e1 : D1 W with
  | none =>
    refine ⟨fun v hv => absurd hv (by simp), fun _ => ?_⟩
    obtain ⟨n, i, s', q1, q2, q3⟩ := (h1.2 W hW s (by omega)).2 e1
    exact ⟨n, i, s', q1, by omega, q3⟩
  | some x =>
    obtain ⟨x1, n1, x2⟩ := (h1.2 W hW s (by omega)).1 x e1
    have hs2 : (x :: s).length + m2 ≤ 64 := by rw [List.length_cons]; omega
    cases e2 : D2 W with
    | none =>
      refine ⟨fun v hv => absurd hv (by simp), fun _ => ?_⟩
      obtain ⟨n, i, s', q1, q2, q3⟩ := (h2.2 W hW (x :: s) hs2).2 e2
      refine ⟨n1 + n, i, s', ?_, by omega, q3⟩
      rw [xn_add, x2]
      exact q1
    | some y =>
      obtain ⟨y1, n2, y2⟩ := (h2.2 W hW (x :: s) hs2).1 y e2
      have st : xn oc od W (n1 + n2) (a, s) = some (c, y :: x :: s) := by rw [xn_add, x2]; exact y2
      have sc : xst oc od W (c, y :: x :: s) = (xop op x y).map (fun v => (c + 1, v :: s)) := by
        unfold xst
        rw [ho, if_neg (by omega), if_neg (by omega), if_neg (by omega), if_neg (by omega)]
      refine ⟨fun v hv => ?_, fun hv => ?_⟩
      · have hv2 : xop op x y = some v := hv
        rw [hv2] at sc
        exact ⟨xop_wr hv2, n1 + n2 + 1, by rw [xn_add, st]; exact xn_1 sc⟩
      · have hv2 : xop op x y = none := hv
        rw [hv2] at sc
        exact ⟨n1 + n2, c, _, st, by omega, sc⟩
theorem xDen_not {a b m : Nat} {D : zDn} (h : xDen oc od a b m D) (ho : oc b = 10) : xDen oc od a (b + 1) m (dNot D) := by
  have l1 := h.1
  refine ⟨by omega, fun W hW s hs => ⟨fun v hv => ?_, fun hv => ?_⟩⟩
  · have hv2 : (D W).map (fun v => wr (1 - v)) = some v := hv
    rw [Option.map_eq_some_iff] at hv2
    obtain ⟨x, x0, xv⟩ := hv2
    obtain ⟨x1, n1, x2⟩ := (h.2 W hW s hs).1 x x0
    refine ⟨by rw [← xv]; exact wr_wr _, n1 + 1, ?_⟩
    rw [xn_add, x2]
    refine xn_1 ?_
    unfold xst
    rw [ho, if_neg (by omega), if_neg (by omega), if_pos rfl, ← xv]
  · have hv2 : (D W).map (fun v => wr (1 - v)) = none := hv
    rw [Option.map_eq_none_iff] at hv2
    obtain ⟨n, i, s', q1, q2, q3⟩ := (h.2 W hW s hs).2 hv2
    exact ⟨n, i, s', q1, by omega, q3⟩
theorem xDen_leap {a b c m1 m2 : Nat} {op : Int} {D1 D2 : zDn} (h1 : xDen oc od a b m1 D1) (h2 : xDen oc od (b + 1) c m2 D2) (ho : oc b = op) (hd : od b = (c : Int)) (hop : op = 11 ∨ op = 12) : xDen oc od a c (m1 + m2) (dop op D1 D2) := by
  have l1 := h1.1
  have l2 := h2.1
  refine ⟨by omega, fun W hW s hs => ?_⟩
  have dd : dop op D1 D2 W = (D1 W).bind (fun v => if (v = 1 ↔ op = 11) then some v else D2 W) := by
    unfold dop
    rcases hop with e | e
    · rw [if_pos e]
      congr 1
      funext v
      simp only [e, iff_true]
    · rw [if_neg (by omega), if_pos e]
      congr 1
      funext v
      by_cases q : v = 1
      · rw [if_pos q, if_neg (by omega)]
      · rw [if_neg q, if_pos (by omega)]
  rw [dd]
  cases e1 : D1 W with
  | none =>
    refine ⟨fun v hv => absurd hv (by simp), fun _ => ?_⟩
    obtain ⟨n, i, s', q1, q2, q3⟩ := (h1.2 W hW s (by omega)).2 e1
    exact ⟨n, i, s', q1, by omega, q3⟩
  | some x =>
    obtain ⟨x1, n1, x2⟩ := (h1.2 W hW s (by omega)).1 x e1
    have sb : xst oc od W (b, x :: s) = if (x = 1 ↔ op = 11) then some (max (b + 1) c, x :: s) else some (b + 1, s) := by
      unfold xst
      rw [ho, if_neg (by omega), if_neg (by omega), if_neg (by omega), if_pos hop]
      show (if (x = 1 ↔ op = 11) then some (max (b + 1) (od b).toNat, x :: s) else some (b + 1, s)) = _
      rw [hd, Int.toNat_natCast]
    show (∀ v, (if (x = 1 ↔ op = 11) then some x else D2 W) = some v → _) ∧ ((if (x = 1 ↔ op = 11) then some x else D2 W) = none → _)
    by_cases q : x = 1 ↔ op = 11
    · rw [if_pos q] at sb ⊢
      refine ⟨fun v hv => ?_, fun hv => absurd hv (by simp)⟩
      cases Option.some.inj hv
      refine ⟨x1, n1 + 1, ?_⟩
      rw [xn_add, x2]
      refine xn_1 ?_
      rw [sb, show max (b + 1) c = c by omega]
    · rw [if_neg q] at sb ⊢
      have st : xn oc od W (n1 + 1) (a, s) = some (b + 1, s) := by rw [xn_add, x2]; exact xn_1 sb
      refine ⟨fun v hv => ?_, fun hv => ?_⟩
      · obtain ⟨y1, n2, y2⟩ := (h2.2 W hW s (by omega)).1 v hv
        exact ⟨y1, n1 + 1 + n2, by rw [xn_add, st]; exact y2⟩
      · obtain ⟨n, i, s', q1, q2, q3⟩ := (h2.2 W hW s (by omega)).2 hv
        exact ⟨n1 + 1 + n, i, s', by rw [xn_add, st]; exact q1, q2, q3⟩
end
/-! how a text is read, by its tokens' codes and values -/
abbrev zO : Type := Nat ⊕ (Nat × Nat × zDn)
def pLp (cf : Nat → Int) (l : Int) (item : Nat → Nat → zO) : Nat → Nat → Nat → zDn → zO
  | 0, k, _, _ => .inl k
  | f + 1, k, lf, D => if jop l (cf k) = -1 then .inr (k, lf, D) else match item (k + 1) lf with
    | .inl j => .inl j
    | .inr q => pLp cf l item f q.1 q.2.1 (dop (jop l (cf k)) D q.2.2)
def pCh (cf : Nat → Int) (l : Int) (item : Nat → Nat → zO) (k lf : Nat) : zO := match item k lf with
    | .inl j => .inl j
    | .inr q => pLp cf l item 400 q.1 q.2.1 q.2.2
def pNt (cf : Nat → Int) : Nat → Nat → Bool → Nat × Bool
  | 0, k, b => (k, b)
  | f + 1, k, b => if cf k = 9 then pNt cf f (k + 1) (!b) else (k, b)
def pBr (cf : Nat → Int) (cl : Int) (inner : Option (Nat → Nat → zO)) (k lf : Nat) : zO := match inner with
  | none => .inl k
  | some g => match g (k + 1) lf with
    | .inl j => .inl j
    | .inr q => if cf q.1 = cl then .inr (q.1 + 1, q.2.1, q.2.2) else .inl q.1
def pPt (ord : Bool) (cf vf : Nat → Int) (inner : Option (Nat → Nat → zO)) (k lf : Nat) : zO :=
  if cf k = 191 then pBr cf 193 inner k lf
  else if (cf k = 50 ∧ vf k ≤ 1000) ∨ ¬ wdI ord (cf k) = -1 then
    if 50 ≤ lf then .inl k
    else if cf k = 50 then .inr (k + 1, lf + 1, fun _ => some (vf k))
    else if ord = true ∧ 5 ≤ wdI ord (cf k) then (if cf (k + 1) = 50 ∧ vf (k + 1) ≤ 9 then .inr (k + 2, lf + 1, fun W => some (W (5 + (wdI ord (cf k) - 5) * 10 + vf (k + 1)).toNat)) else .inl (k + 1))
    else .inr (k + 1, lf + 1, fun W => some (W (wdI ord (cf k)).toNat))
  else .inl k
def pCm (cf : Nat → Int) (sum : Nat → Nat → zO) (k lf : Nat) : zO := match sum k lf with
  | .inl j => .inl j
  | .inr q => if cmI (cf q.1) = -1 then .inl q.1 else match sum (q.1 + 1) q.2.1 with
    | .inl j => .inl j
    | .inr q2 => .inr (q2.1, q2.2.1, dop (7 + cmI (cf q.1)) q.2.2 q2.2.2)
def pPl (cf : Nat → Int) (inner : Option (Nat → Nat → zO)) (sum : Nat → Nat → zO) (k lf : Nat) : zO :=
  match (if cf (pNt cf 400 k false).1 = 140 then pBr cf 141 inner (pNt cf 400 k false).1 lf else pCm cf sum (pNt cf 400 k false).1 lf) with
  | .inl j => .inl j
  | .inr q => .inr (q.1, q.2.1, if (pNt cf 400 k false).2 = true then dNot q.2.2 else q.2.2)
def pSm (ord : Bool) (cf vf : Nat → Int) : Nat → Nat → Nat → zO
  | 0 => pCh cf 2 (pCh cf 3 (pPt ord cf vf none))
  | r + 1 => pCh cf 2 (pCh cf 3 (pPt ord cf vf (some (pSm ord cf vf r))))
def pTs (ord : Bool) (cf vf : Nat → Int) : Nat → Nat → Nat → zO
  | 0 => pCh cf 0 (pCh cf 1 (pPl cf none (pSm ord cf vf 0)))
  | r + 1 => pCh cf 0 (pCh cf 1 (pPl cf (some (pTs ord cf vf r)) (pSm ord cf vf (r + 1))))
/-- it goes on, and stays among the tokens -/
def pOk (T : Nat) (g : Nat → Nat → zO) : Prop := ∀ k lf q, k ≤ T → g k lf = .inr q → k < q.1 ∧ q.1 ≤ T ∧ lf < q.2.1 ∧ q.2.1 ≤ 50
section
variable {ord : Bool} {cf vf : Nat → Int} {T : Nat}
theorem cf_lt {k : Nat} {c : Int} (hT : cf T = 0) (hk : k ≤ T) (h : cf k = c) (hc : ¬ c = 0) : k + 1 ≤ T := by
  by_cases e : k = T
  · subst e; exact absurd (h.symm.trans hT) hc
  · omega
theorem jop_0 (l : Int) : jop l 0 = -1 := by
  unfold jop
  repeat' split
  all_goals first | rfl | omega
theorem pOk_lp {l : Int} {item : Nat → Nat → zO} (hT : cf T = 0) (h : pOk T item) : ∀ (f k lf : Nat) (D : zDn) (q : Nat × Nat × zDn), k ≤ T → lf ≤ 50 → pLp cf l item f k lf D = .inr q → k ≤ q.1 ∧ q.1 ≤ T ∧ lf ≤ q.2.1 ∧ q.2.1 ≤ 50 := by
  intro f
  induction f with
  | zero => intro k lf D q _ _ hq; exact absurd hq (by simp [pLp])
  | succ f ih =>
    intro k lf D q hk hl hq
    unfold pLp at hq
    split at hq
    · cases Sum.inr.inj hq
      exact ⟨Nat.le_refl _, hk, Nat.le_refl _, hl⟩
    · rename_i nj
      have k1 : k + 1 ≤ T := by
        by_cases e : k = T
        · subst e; rw [hT, jop_0] at nj; exact absurd rfl nj
        · omega
      split at hq
      · exact absurd hq (by simp)
      · rename_i q1 e1
        have a := h (k + 1) lf q1 k1 e1
        have b := ih q1.1 q1.2.1 _ q a.2.1 a.2.2.2 hq
        omega
theorem pOk_ch {l : Int} {item : Nat → Nat → zO} (hT : cf T = 0) (h : pOk T item) : pOk T (pCh cf l item) := by
  intro k lf q hk hq
  unfold pCh at hq
  split at hq
  · exact absurd hq (by simp)
  · rename_i q1 e1
    have a := h k lf q1 hk e1
    have b := pOk_lp hT h 400 q1.1 q1.2.1 _ q a.2.1 a.2.2.2 hq
    omega
theorem pNt_le (hT : cf T = 0) : ∀ (f k : Nat) (b : Bool), k ≤ T → k ≤ (pNt cf f k b).1 ∧ (pNt cf f k b).1 ≤ T := by
  intro f
  induction f with
  | zero => intro k b hk; exact ⟨Nat.le_refl _, hk⟩
  | succ f ih =>
    intro k b hk
    unfold pNt
    split
    · rename_i e
      have := ih (k + 1) (!b) (cf_lt hT hk e (by decide))
      omega
    · exact ⟨Nat.le_refl _, hk⟩
theorem pOk_br {cl : Int} {inner : Option (Nat → Nat → zO)} (hT : cf T = 0) (hc : ¬ cl = 0) (h : ∀ g, inner = some g → pOk T g) {k lf : Nat} {q : Nat × Nat × zDn} (hk : k + 1 ≤ T) (hq : pBr cf cl inner k lf = .inr q) : k < q.1 ∧ q.1 ≤ T ∧ lf < q.2.1 ∧ q.2.1 ≤ 50 := by
  cases inner with
  | none => exact absurd hq (by simp [pBr])
  | some g =>
    unfold pBr at hq
    dsimp only at hq
    split at hq
    · exact absurd hq (by simp)
    · rename_i q1 e1
      have a := h g rfl (k + 1) lf q1 hk e1
      split at hq
      · rename_i e2
        cases Sum.inr.inj hq
        have := cf_lt hT a.2.1 e2 hc
        refine ⟨?_, this, a.2.2⟩
        show k < q1.1 + 1
        omega
      · exact absurd hq (by simp)
theorem pOk_pt {inner : Option (Nat → Nat → zO)} (hT : cf T = 0) (h : ∀ g, inner = some g → pOk T g) : pOk T (pPt ord cf vf inner) := by
  intro k lf q hk hq
  have w0 : wdI ord 0 = -1 := by cases ord <;> rfl
  unfold pPt at hq
  split at hq
  · rename_i e
    exact pOk_br hT (by decide) h (cf_lt hT hk e (by decide)) hq
  · split at hq
    · rename_i e1 e2
      have k1 : k + 1 ≤ T := by
        by_cases e : k = T
        · subst e
          rw [hT] at e2
          rcases e2 with w | w
          · exact absurd w.1 (by decide)
          · exact absurd w0 w
        · omega
      split at hq
      · exact absurd hq (by simp)
      · split at hq
        · cases Sum.inr.inj hq
          refine ⟨?_, k1, ?_, ?_⟩
          · show k < k + 1; omega
          · show lf < lf + 1; omega
          · show lf + 1 ≤ 50; omega
        · split at hq
          · split at hq
            · rename_i e5
              cases Sum.inr.inj hq
              have := cf_lt hT k1 e5.1 (by decide)
              refine ⟨?_, ?_, ?_, ?_⟩
              · show k < k + 2; omega
              · show k + 2 ≤ T; omega
              · show lf < lf + 1; omega
              · show lf + 1 ≤ 50; omega
            · exact absurd hq (by simp)
          · cases Sum.inr.inj hq
            refine ⟨?_, k1, ?_, ?_⟩
            · show k < k + 1; omega
            · show lf < lf + 1; omega
            · show lf + 1 ≤ 50; omega
    · exact absurd hq (by simp)
theorem cm_0 : cmI 0 = -1 := rfl
theorem pOk_cm {sum : Nat → Nat → zO} (hT : cf T = 0) (h : pOk T sum) : pOk T (pCm cf sum) := by
  intro k lf q hk hq
  unfold pCm at hq
  split at hq
  · exact absurd hq (by simp)
  · rename_i q1 e1
    have a := h k lf q1 hk e1
    split at hq
    · exact absurd hq (by simp)
    · rename_i nc
      have k1 : q1.1 + 1 ≤ T := by
        by_cases e : q1.1 = T
        · rw [e, hT] at nc; exact absurd cm_0 nc
        · omega
      split at hq
      · exact absurd hq (by simp)
      · rename_i q2 e2
        have b := h (q1.1 + 1) q1.2.1 q2 k1 e2
        cases Sum.inr.inj hq
        refine ⟨?_, b.2.1, ?_, b.2.2.2⟩
        · show k < q2.1; omega
        · show lf < q2.2.1; omega
theorem pOk_pl {inner : Option (Nat → Nat → zO)} {sum : Nat → Nat → zO} (hT : cf T = 0) (h : ∀ g, inner = some g → pOk T g) (hs : pOk T sum) : pOk T (pPl cf inner sum) := by
  intro k lf q hk hq
  have nt := pNt_le (cf := cf) hT 400 k false hk
  unfold pPl at hq
  split at hq
  · exact absurd hq (by simp)
  · rename_i q1 e1
    have a : (pNt cf 400 k false).1 < q1.1 ∧ q1.1 ≤ T ∧ lf < q1.2.1 ∧ q1.2.1 ≤ 50 := by
      split at e1
      · rename_i e2
        exact pOk_br hT (by decide) h (cf_lt hT nt.2 e2 (by decide)) e1
      · exact pOk_cm hT hs _ lf q1 nt.2 e1
    cases Sum.inr.inj hq
    refine ⟨?_, a.2.1, a.2.2⟩
    show k < q1.1
    omega
theorem pOk_sm (hT : cf T = 0) : ∀ r, pOk T (pSm ord cf vf r) := by
  intro r
  induction r with
  | zero => exact pOk_ch hT (pOk_ch hT (pOk_pt hT (fun g e => absurd e (by simp))))
  | succ r ih => exact pOk_ch hT (pOk_ch hT (pOk_pt hT (fun g e => by cases Option.some.inj e; exact ih)))
theorem pOk_ts (hT : cf T = 0) : ∀ r, pOk T (pTs ord cf vf r) := by
  intro r
  induction r with
  | zero => exact pOk_ch hT (pOk_ch hT (pOk_pl hT (fun g e => absurd e (by simp)) (pOk_sm hT 0)))
  | succ r ih => exact pOk_ch hT (pOk_ch hT (pOk_pl hT (fun g e => by cases Option.some.inj e; exact ih) (pOk_sm hT (r + 1))))
end
