/-! hush -/
noncomputable def lnH (M : zM) (K : Nat → Int) (n X : Nat) : Nat := lnV (crL M K n 0 X) 11 0 0
theorem lnV_congr {cr cr' : Nat → Nat → List Nat} {ok : Nat → Prop} (h : ∀ night used, ok used → cr night used = cr' night used) (hs : ∀ night used c, ok used → c ∈ cr night used → ok (used ||| c)) : ∀ (f : Nat) {night used : Nat}, ok used → lnV cr f night used = lnV cr' f night used := by
  intro f
  induction f with
  | zero => intro night used _; rfl
  | succ f ih =>
    intro night used hu
    show (cr night used).foldl (fun b c => mxN b (1 + lnV cr f (night + 1) (used ||| c))) 0 = (cr' night used).foldl (fun b c => mxN b (1 + lnV cr' f (night + 1) (used ||| c))) 0
    rw [← h night used hu]
    have : ∀ (l : List Nat) (b : Nat), (∀ c, c ∈ l → c ∈ cr night used) → l.foldl (fun b c => mxN b (1 + lnV cr f (night + 1) (used ||| c))) b = l.foldl (fun b c => mxN b (1 + lnV cr' f (night + 1) (used ||| c))) b := by
      intro l
      induction l with
      | nil => intro b _; rfl
      | cons a l ihl =>
        intro b hl
        rw [List.foldl_cons, List.foldl_cons, ih (hs night used a hu (hl a (by simp)))]
        exact ihl _ (fun c hc => hl c (by simp [hc]))
    exact this _ _ (fun _ q => q)
/-- those of whom it matters -/
def mtP (M : zM) (K : Nat → Int) (n mt : Nat) : Prop := mt < 1024 ∧ ∀ p, p < n → mt.testBit p = false → ¬ K p = 3 → ∀ q, q < n → ¬ K q = 3 → ¬ 1 ≤ spV M K p q ∧ ¬ 1 ≤ spV M K q p
theorem hd_mt {M : zM} {K : Nat → Int} {n mt S p used q : Nat} (hm : mtP M K n mt) (hp : p < n) (hb : mt.testBit p = false) (hu : ∀ r, used.testBit r = true → r < n ∧ ¬ K r = 3) (hq : q < n) (hq3 : ¬ K q = 3) : ∀ k, k ≤ n → hdA M K (S ||| 2 ^ p) used q k = hdA M K S used q k := by
  intro k
  induction k with
  | zero => intro _; rfl
  | succ k ih =>
    intro hk
    show hdA M K (S ||| 2 ^ p) used q k + (if (S ||| 2 ^ p).testBit q = false ∧ used.testBit k = true ∧ (S ||| 2 ^ p).testBit k = false then spV M K k q else 0) = hdA M K S used q k + (if S.testBit q = false ∧ used.testBit k = true ∧ S.testBit k = false then spV M K k q else 0)
    rw [ih (by omega)]
    congr 1
    rw [Nat.testBit_or, Nat.testBit_or, Nat.testBit_two_pow, Nat.testBit_two_pow]
    cases hk1 : used.testBit k with
    | false => simp
    | true =>
      have hk2 := hu k hk1
      have sr := spV_r M K k q
      by_cases e1 : p = q
      · subst e1
        have := (hm.2 p hp hb hq3 k hk2.1 hk2.2).2
        have z : spV M K k p = 0 := by omega
        rw [z]
        simp
      · by_cases e2 : p = k
        · subst e2
          have := (hm.2 p hp hb hk2.2 q hq hq3).1
          have z : spV M K p q = 0 := by omega
          rw [z]
          simp
        · simp [e1, e2]
theorem ln_mt {M : zM} {K : Nat → Int} {n mt S p : Nat} (hm : mtP M K n mt) (hp : p < n) (hb : mt.testBit p = false) : lnH M K n (S ||| 2 ^ p) = lnH M K n S := by
  unfold lnH
  refine lnV_congr (ok := fun used => ∀ r, used.testBit r = true → r < n ∧ ¬ K r = 3) (fun night used hu => ?_) (fun night used c hu hc r hr => ?_) 11 (fun r hr => by rw [Nat.zero_testBit] at hr; exact absurd hr (by decide))
  · unfold crL
    have ew : wMV M K n 0 (S ||| 2 ^ p) night used = wMV M K n 0 S night used := by
      funext q
      unfold wMV
      by_cases hq : q < n
      · by_cases hq3 : K q = 3
        · rw [if_neg (fun w => w.2.2.2.1 hq3), if_neg (fun w => w.2.2.2.1 hq3)]
        · have e := hd_mt (S := S) hm hp hb hu hq hq3 n (Nat.le_refl _)
          have ev : hdV M K n (S ||| 2 ^ p) used q = hdV M K n S used q := by unfold hdV; rw [e]
          rw [ev]
      · rw [if_neg (fun w => hq w.1), if_neg (fun w => hq w.1)]
    rw [ew]
  · rw [Nat.testBit_or, Bool.or_eq_true] at hr
    rcases hr with hr | hr
    · exact hu r hr
    · have w := wMV_p ((cr_mem hc).2.2.1 r hr).2
      exact ⟨w.1, w.2.2.2.1⟩
/-- the first, and how many -/
def hsA (b : Nat → Bool) : Nat → Nat × Nat
  | 0 => (0, 0)
  | k + 1 => if b k then (if (hsA b k).2 = 0 then k else (hsA b k).1, (hsA b k).2 + 1) else hsA b k
theorem hsA_congr {b b' : Nat → Bool} {k : Nat} (h : ∀ x, x < k → b x = b' x) : hsA b k = hsA b' k := by
  induction k with
  | zero => rfl
  | succ k ih =>
    show (if b k then (if (hsA b k).2 = 0 then k else (hsA b k).1, (hsA b k).2 + 1) else hsA b k) = (if b' k then (if (hsA b' k).2 = 0 then k else (hsA b' k).1, (hsA b' k).2 + 1) else hsA b' k)
    rw [ih (fun x hx => h x (by omega)), h k (by omega)]
theorem hsA_le {b : Nat → Bool} {k : Nat} : (hsA b k).2 ≤ k := by
  induction k with
  | zero => exact Nat.le_refl 0
  | succ k ih =>
    show (if b k then (if (hsA b k).2 = 0 then k else (hsA b k).1, (hsA b k).2 + 1) else hsA b k).2 ≤ k + 1
    split
    · show (hsA b k).2 + 1 ≤ k + 1; omega
    · omega
theorem hsA_first {b : Nat → Bool} {k : Nat} (h : 0 < (hsA b k).2) : b (hsA b k).1 = true ∧ (hsA b k).1 < k := by
  induction k with
  | zero => exact absurd h (Nat.lt_irrefl 0)
  | succ k ih =>
    have e : hsA b (k + 1) = if b k then (if (hsA b k).2 = 0 then k else (hsA b k).1, (hsA b k).2 + 1) else hsA b k := rfl
    rw [e] at h ⊢
    cases hb : b k with
    | true =>
      rw [if_pos rfl]
      show b (if (hsA b k).2 = 0 then k else (hsA b k).1) = true ∧ (if (hsA b k).2 = 0 then k else (hsA b k).1) < k + 1
      by_cases q : (hsA b k).2 = 0
      · rw [if_pos q]; exact ⟨hb, by omega⟩
      · rw [if_neg q]
        have := ih (by omega)
        exact ⟨this.1, by omega⟩
    | false =>
      rw [hb, if_neg (by decide)] at h
      rw [if_neg (by decide)]
      have := ih h
      exact ⟨this.1, by omega⟩
theorem hsA_none {b : Nat → Bool} {k : Nat} (h : (hsA b k).2 = 0) : ∀ x, x < k → b x = false := by
  induction k with
  | zero => exact fun x hx => absurd hx (by omega)
  | succ k ih =>
    have e : hsA b (k + 1) = if b k then (if (hsA b k).2 = 0 then k else (hsA b k).1, (hsA b k).2 + 1) else hsA b k := rfl
    rw [e] at h
    intro x hx
    cases hb : b k with
    | true =>
      rw [hb, if_pos rfl] at h
      exact absurd h (by show ¬ (hsA b k).2 + 1 = 0; omega)
    | false =>
      rw [hb, if_neg (by decide)] at h
      by_cases q : x = k
      · subst q; exact hb
      · exact ih h x (by omega)
noncomputable def hbR (M : zM) (K : Nat → Int) (n m s X : Nat) : Bool := decide (pop X = s) && decide (m ≤ lnH M K n X)
noncomputable def hbC (M : zM) (K : Nat → Int) (n m s mt X : Nat) : Bool := decide (pop X = s) && decide (ndn X mt = 0) && decide (m ≤ lnH M K n X)
theorem pop_ad {Y p : Nat} (hp : p < 10) (h : Y.testBit p = false) : pop (Y ||| 2 ^ p) = pop Y + 1 := by
  have e1 := pop_sm (Y ||| 2 ^ p)
  have e2 := pop_sm Y
  have : ∀ k, smI (fun q => if (Y ||| 2 ^ p).testBit q then (1 : Int) else 0) k = smI (fun q => if Y.testBit q then (1 : Int) else 0) k + (if p < k then 1 else 0) := by
    intro k
    induction k with
    | zero => rfl
    | succ k ih =>
      show smI (fun q => if (Y ||| 2 ^ p).testBit q then (1 : Int) else 0) k + (if (Y ||| 2 ^ p).testBit k then (1 : Int) else 0) = smI (fun q => if Y.testBit q then (1 : Int) else 0) k + (if Y.testBit k then (1 : Int) else 0) + _
      rw [ih, Nat.testBit_or, Nat.testBit_two_pow]
      by_cases e : p = k
      · subst e
        rw [h]
        simp
      · by_cases q : p < k
        · simp [e, q, show p < k + 1 by omega]; omega
        · simp [e, q, show ¬ p < k + 1 by omega]
  have t := this 10
  rw [if_pos hp] at t
  omega
/-- at the fewest, those who can be hushed matter -/
theorem hb_eq {M : zM} {K : Nat → Int} {n m s mt : Nat} (hn : n ≤ 10) (hm : mtP M K n mt) (h0 : ∀ s', s' < s → (hsA (hbR M K n m s') (2 ^ n)).2 = 0) : hsA (hbC M K n m s mt) (2 ^ n) = hsA (hbR M K n m s) (2 ^ n) := by
  refine hsA_congr (fun X hX => ?_)
  unfold hbC hbR
  by_cases c1 : pop X = s
  · by_cases c3 : m ≤ lnH M K n X
    · by_cases c2 : ndn X mt = 0
      · simp [c1, c2, c3]
      · exfalso
        obtain ⟨p, hp⟩ := bit_ex (X := ndn X mt) (by omega)
        have X10 : X < 1024 := Nat.lt_of_lt_of_le hX (show 2 ^ n ≤ 2 ^ 10 from Nat.pow_le_pow_right (by decide) hn)
        rw [ndn_bit (by omega), Bool.and_eq_true, Bool.not_eq_true'] at hp
        have pn : p < n := by
          refine Classical.byContradiction (fun z => ?_)
          rw [Nat.testBit_lt_two_pow (Nat.lt_of_lt_of_le hX (Nat.pow_le_pow_right (by decide) (show n ≤ p by omega)))] at hp
          exact absurd hp.1 (by decide)
        have eX : ndn X (2 ^ p) ||| 2 ^ p = X := by
          apply Nat.eq_of_testBit_eq
          intro i
          rw [Nat.testBit_or, ndn_bit (by omega), Nat.testBit_two_pow]
          by_cases e : p = i
          · subst e; simp [hp.1]
          · simp [e]
        have yb : (ndn X (2 ^ p)).testBit p = false := by rw [ndn_bit (by omega), Nat.testBit_two_pow]; simp
        have pp := pop_ad (Y := ndn X (2 ^ p)) (p := p) (by omega) yb
        have ll := ln_mt (S := ndn X (2 ^ p)) hm pn hp.2
        rw [eX] at pp ll
        have nf := hsA_none (h0 (pop (ndn X (2 ^ p))) (by omega)) (ndn X (2 ^ p)) (Nat.lt_of_le_of_lt (ndn_le _ _) hX)
        unfold hbR at nf
        rw [← ll, decide_eq_true c3, decide_eq_true rfl] at nf
        exact absurd nf (by decide)
    · simp [c3]
  · simp [c1]
theorem w_matter {σ : st_S} {K : Nat → Int} {n : Nat} {M : zM} {Q : Int → st_S → Prop} (h : ppC σ K n M) (hQ : ∀ mt : Nat, mtP M K n mt → Q (mt : Int) σ) : wp_X5_thoseWhoMatter σ Q := by
  have hn := h.1.1.2.2
  have e0 : gI σ 25 0 = (n : Int) := h.1.1.1
  have e1 : gI σ 42 0 = (ppl K n : Int) := h.2.1.1
  have pl := ppl_lt (K := K) hn
  have pb : ∀ p, p < n → (ppl K n).testBit p = decide (¬ K p = 3) := fun p hp => by have := ppl_b (K := K) p hp; rw [Nat.zero_testBit] at this; simpa using this
  have key : ∀ m p : Nat, p + m = n → ∀ a : Nat, a < 1024 → (∀ r, r < p → ¬ K r = 3 → ∀ q, q < n → ¬ K q = 3 → 1 ≤ spV M K r q → a.testBit q = true ∧ a.testBit r = true) → L_X5_thoseWhoMatter_4 Q (m + 1) (a : Int) (p : Int) σ := by
    intro m
    induction m with
    | zero =>
      intro p hp a ha hi
      have ep : p = n := by omega
      subst ep
      refine ⟨fun _ => hQ a ⟨ha, fun r hr hb hr3 q hq hq3 => ⟨fun w => ?_, fun w => ?_⟩⟩, fun z => absurd (by omega) z⟩
      · have := (hi r hr hr3 q hq hq3 w).2
        rw [hb] at this
        exact absurd this (by decide)
      · have := (hi q hq hq3 r hr hr3 w).1
        rw [hb] at this
        exact absurd this (by decide)
    | succ m ih =>
      intro p hp a ha hi
      have lb := bsN_lt (spB M K p 1) n hn
      have g45 := (h.2.1.2.2 p (by omega)).2.1
      have nxt : ∀ v0 : Nat, v0 < 1024 → (∀ q, q < n → ¬ K p = 3 → ¬ K q = 3 → 1 ≤ spV M K p q → v0.testBit q = true ∧ v0.testBit p = true) → B_X5_thoseWhoMatter_56 Q (L_X5_thoseWhoMatter_4 Q (m + 1)) (p : Int) (v0 : Int) (a : Int) σ := by
        intro v0 hv hq x ex y ey
        rw [n_or (by omega) (by omega)] at ex
        rw [wks (by omega)] at ey
        subst ex
        subst ey
        refine ih (p + 1) (by omega) _ (Nat.or_lt_two_pow (n := 10) ha hv) (fun r hr hr3 q hqn hq3 w => ?_)
        rw [Nat.testBit_or, Nat.testBit_or]
        by_cases e : r = p
        · subst e
          have := hq q hqn hr3 hq3 w
          rw [this.1, this.2, Bool.or_true, Bool.or_true]
          exact ⟨rfl, rfl⟩
        · have := hi r (by omega) hr3 q hqn hq3 w
          rw [this.1, this.2]
          exact ⟨rfl, rfl⟩
      refine ⟨fun z => absurd z (by omega), fun _ => ?_⟩
      rw [e1]
      refine (fun w => ⟨w.2, w.1⟩) (w_bit pl (by omega) (fun hb => ⟨ixn (by omega), ?_⟩) (fun hb => ⟨fun z => absurd rfl z, fun _ => nxt 0 (by decide) (fun q hq hp3 _ _ => ?_)⟩))
      rotate_left
      · rw [pb p (by omega)] at hb
        exact absurd hp3 (of_decide_eq_false hb)
      · have al : bsN (spB M K p 1) n &&& ppl K n < 1024 := Nat.lt_of_le_of_lt Nat.and_le_left lb
        have pw : (2 : Nat) ^ p < 2 ^ 10 := Nat.pow_lt_pow_right (by decide) (by omega)
        rw [Int.toNat_natCast, g45, n_and (by omega) (by omega)]
        have tb : ∀ q, q < n → ¬ K q = 3 → 1 ≤ spV M K p q → (bsN (spB M K p 1) n &&& ppl K n).testBit q = true := fun q hq hq3 w => by
          rw [Nat.testBit_and, bsN_tb, pb q hq, decide_eq_true hq, decide_eq_true hq3]
          unfold spB
          rw [decide_eq_true w]
          rfl
        refine ⟨fun z => ?_, fun z => nxt 0 (by decide) (fun q hq hp3 hq3 w => ?_)⟩
        · rw [or_new al (by omega)]
          refine nxt _ (Nat.or_lt_two_pow (n := 10) al pw) (fun q hq hp3 hq3 w => ?_)
          rw [Nat.testBit_or, Nat.testBit_or, tb q hq hq3 w, Nat.testBit_two_pow]
          simp
        · have t := tb q hq hq3 w
          have z' : bsN (spB M K p 1) n &&& ppl K n = 0 := by omega
          rw [z', Nat.zero_testBit] at t
          exact absurd t (by decide)
  exact ⟨n + 1, key n 0 (by omega) 0 (by decide) (fun r hr => absurd hr (by omega))⟩
theorem w_canReach {K : Nat → Int} {n m X : Nat} {M : zM} {σ : st_S} {Q : Int → st_S → Prop} (h : ppC σ K n M) (hk : sKd σ) (hm : m ≤ 10) (hm1 : 1 ≤ m) (hX : X < 1024) (hQ : ∀ τ, zS σ τ → ppC τ K n M → gI τ 56 0 = gI σ 56 0 → Q (if m ≤ lnH M K n X then 1 else 0) τ) : wp_X8_canReach (m : Int) (X : Int) σ Q := by
  have hn := h.1.1.2.2
  unfold wp_X8_canReach
  rw [show gI σ 42 0 = (ppl K n : Int) from h.2.1.1]
  have pl := ppl_lt (K := K) hn
  refine w_set (P := ppl K n) (hsh := X) (m := m) hk hm (fun τ t1 t2 a1 a2 a3 a4 a5 a6 a7 a8 => ?_)
  intro s es
  have os : ∀ c j, ¬ (c = 56 ∧ j = 15) → gI s c j = gI τ c j := fun c j q => by rw [es, gI_sI, if_neg q]
  have s15 : gI s 56 15 = 1 := by rw [es, gI_sI, if_pos ⟨rfl, rfl⟩]
  have ts : s.2 = σ.2 := by rw [es]; exact t1
  clear es
  have pt : ppC s K n M := ppC_of h ts (fun c j q => by rw [os _ _ (by omega), t2 _ _ (by omega) (by omega)])
  have e := rR_ln (K := K) (n := n) (away := 0) (hsh := X) (T := m) (M := M) (g := gLd K) hn 10 (night := 0) (used := 0) (by omega) (Nat.zero_le _)
  rw [Nat.zero_add] at e
  refine w_reach (away := 0) (hsh := X) (pr := fun _ => 0) (g := gLd K) (T := m) pl (fun p hp => ppl_b p hp) hX gLd_lt (gLd_v h.1) hm hm1 ⟨pt, sKd_of hk ts, by rw [os _ _ (by omega)]; exact a1, by rw [os _ _ (by omega)]; exact a2, by rw [os _ _ (by omega)]; exact a3, by rw [os _ _ (by omega)]; exact a5, s15, by rw [os _ _ (by omega)]; exact a7, fun w => absurd w (by decide)⟩ (by rw [os _ _ (by omega)]; exact a4) ⟨fun j hj => by rw [os _ _ (by omega)]; exact a8 j hj, fun w => absurd w (by decide)⟩ (fun υ u1 u2 u3 => ?_)
  have q := hQ υ (zS_tr ⟨ts, fun c j q1 q2 q3 => by rw [os _ _ (by omega), t2 _ _ (by omega) (by omega)]⟩ (zS_D u1)) u2.1 (by rw [u1.2 _ _ (by omega) (by omega) (by omega) (by decide) (by decide) (by omega) (by decide), os _ _ (by omega), t2 _ _ (by omega) (by decide)])
  have e3 : (m : Int) ≤ gI υ 56 13 ↔ m ≤ lnH M K n X := u3.trans e
  refine ⟨fun w => ?_, fun w => ?_⟩
  · rw [if_neg (fun v => by have := e3.mpr v; omega)] at q
    exact ⟨Or.inl rfl, q⟩
  · rw [if_pos (e3.mp (by omega))] at q
    exact ⟨Or.inr rfl, q⟩
theorem shl_n {n : Nat} (hn : n ≤ 10) : o_shl 1 (n : Int) = ((2 ^ n : Nat) : Int) := by rw [o_shl1 (by omega), Nat.one_shiftLeft]
theorem pw_le {n : Nat} (hn : n ≤ 10) : 2 ^ n ≤ 1024 := show 2 ^ n ≤ 2 ^ 10 from Nat.pow_le_pow_right (by decide) hn
theorem w_hushings {K : Nat → Int} {n m s : Nat} {M : zM} {σ : st_S} {Q : Int → st_S → Prop} (h : ppC σ K n M) (hk : sKd σ) (hm : m ≤ 10) (hm1 : 1 ≤ m) (hQ : ∀ τ mt, mtP M K n mt → zS σ τ → ppC τ K n M → (0 < (hsA (hbC M K n m s mt) (2 ^ n)).2 → gI τ 56 0 = ((hsA (hbC M K n m s mt) (2 ^ n)).1 : Int)) → Q ((hsA (hbC M K n m s mt) (2 ^ n)).2 : Int) τ) : wp_X8_hushings (m : Int) (s : Int) σ Q := by
  have hn := h.1.1.2.2
  have pn := pw_le hn
  refine w_matter h (fun mt hmt => ?_)
  have ml := hmt.1
  have sz : ∀ τ : st_S, gI τ 25 0 = (n : Int) → o_shl 1 (o_max 0 (o_min 10 (gI τ 25 0))) = ((2 ^ n : Nat) : Int) := fun τ e0 => by rw [e0, show o_max 0 (o_min 10 (n : Int)) = (n : Int) by unfold o_max o_min; split <;> split <;> omega, shl_n hn]
  have key : ∀ k X : Nat, X + k = 2 ^ n → ∀ τ, zS σ τ → ppC τ K n M → (0 < (hsA (hbC M K n m s mt) X).2 → gI τ 56 0 = ((hsA (hbC M K n m s mt) X).1 : Int)) → L_X8_hushings_14 Q (k + 1) (m : Int) (s : Int) (mt : Int) ((hsA (hbC M K n m s mt) X).2 : Int) (X : Int) τ := by
    intro k
    induction k with
    | zero =>
      intro X hX τ a1 a2 a3
      have e0 : gI τ 25 0 = (n : Int) := a2.1.1.1
      have eX : X = 2 ^ n := by omega
      subst eX
      exact ⟨fun _ => hQ τ mt hmt a1 a2 a3, fun z => absurd (by rw [sz τ e0]; exact Int.le_refl _) z⟩
    | succ k ih =>
      intro X hX τ a1 a2 a3
      have e0 : gI τ 25 0 = (n : Int) := a2.1.1.1
      have X10 : X < 1024 := by omega
      have es : hsA (hbC M K n m s mt) (X + 1) = if hbC M K n m s mt X then (if (hsA (hbC M K n m s mt) X).2 = 0 then X else (hsA (hbC M K n m s mt) X).1, (hsA (hbC M K n m s mt) X).2 + 1) else hsA (hbC M K n m s mt) X := rfl
      have cl := hsA_le (b := hbC M K n m s mt) (k := X)
      have same : ∀ υ, zS σ υ → ppC υ K n M → (∀ j, gI υ 56 0 = gI τ 56 0 ∨ j = 1) → hbC M K n m s mt X = false → B_X8_hushings_75 Q (L_X8_hushings_14 Q (k + 1)) (m : Int) (s : Int) (mt : Int) ((hsA (hbC M K n m s mt) X).2 : Int) (X : Int) υ := by
        intro υ b1 b2 b3 b4 x ex
        rw [wks (by omega)] at ex
        subst ex
        rw [b4, if_neg (by decide)] at es
        have b3' : gI υ 56 0 = gI τ 56 0 := by
          rcases b3 0 with w | w
          · exact w
          · exact absurd w (by decide)
        have := ih (X + 1) (by omega) υ b1 b2 (by rw [es, b3']; exact a3)
        rw [es] at this
        exact this
      refine ⟨fun z => absurd z (by rw [sz τ e0]; omega), fun _ => w_bitCount X10 ⟨fun z => same τ a1 a2 (fun _ => Or.inl rfl) ?_, fun z => ?_⟩⟩
      · unfold hbC
        rw [decide_eq_false (show ¬ pop X = s by omega)]
        rfl
      · have c1 : pop X = s := by omega
        rw [n_andn (by omega) (by omega)]
        refine ⟨fun y => same τ a1 a2 (fun _ => Or.inl rfl) ?_, fun y => w_canReach a2 (sKd_of hk a1.1) hm hm1 X10 (fun υ u1 u2 u3 => ?_)⟩
        · unfold hbC
          rw [decide_eq_false (show ¬ ndn X mt = 0 by omega), Bool.and_false, Bool.false_and]
        · have c2 : ndn X mt = 0 := by omega
          by_cases c3 : m ≤ lnH M K n X
          · rw [if_pos c3]
            have hb : hbC M K n m s mt X = true := by unfold hbC; rw [decide_eq_true c1, decide_eq_true c2, decide_eq_true c3]; rfl
            rw [hb, if_pos rfl] at es
            have put : ∀ v : Int, v = (((if (hsA (hbC M K n m s mt) X).2 = 0 then X else (hsA (hbC M K n m s mt) X).1) : Nat) : Int) → B_X8_hushings_69 Q (L_X8_hushings_14 Q (k + 1)) (m : Int) (s : Int) (mt : Int) ((hsA (hbC M K n m s mt) X).2 : Int) (X : Int) v υ := by
              intro v hv s1 e1 x ex y ey
              rw [wks (by omega)] at ex
              rw [wks (by omega)] at ey
              subst ex
              subst ey
              have := ih (X + 1) (by omega) s1 (by rw [e1]; exact zS_tr (zS_tr a1 u1) ⟨rfl, fun c j q1 q2 q3 => by rw [gI_sI, if_neg (by omega)]⟩) (by rw [e1]; exact ppC_of u2 rfl (fun c j q => by rw [gI_sI, if_neg (by omega)])) (fun _ => by rw [e1, gI_sI, if_pos ⟨rfl, rfl⟩, es]; exact hv)
              rw [es] at this
              exact this
            refine ⟨fun w => absurd w (by decide), fun _ => ⟨fun w => put _ ?_, fun w => put _ ?_⟩⟩
            · rw [if_neg (by omega), u3, a3 (by omega)]
            · rw [if_pos (by omega)]
          · rw [if_neg c3]
            refine ⟨fun _ => same υ (zS_tr a1 u1) u2 (fun _ => Or.inl u3) ?_, fun w => absurd rfl w⟩
            unfold hbC
            rw [decide_eq_false c3, Bool.and_false]
  exact ⟨2 ^ n + 1, key (2 ^ n) 0 (by omega) σ zS_rfl h (fun w => absurd w (Nat.lt_irrefl 0))⟩
