/-! the class's paper, prepared -/
/-- what is heard, as bits: something; all, ten bits higher -/
def hOk (H : Nat) (f : Nat → Int) (n : Nat) : Prop := H < 1048576 ∧ ∀ p, p < 10 → H.testBit p = decide (p < n ∧ 1 ≤ f p) ∧ H.testBit (p + 10) = decide (p < n ∧ 2 ≤ f p)
theorem hOk_b {H p i : Nat} (hi : i = p ∨ i = p + 10) (hp : p < 10) (h : H < 1048576) : o_or (H : Int) (o_shl 1 (i : Int)) = ((H ||| 2 ^ i : Nat) : Int) ∧ H ||| 2 ^ i < 1048576 := by
  have hl : 2 ^ i < 2 ^ 20 := Nat.pow_lt_pow_right (by decide) (by omega)
  refine ⟨?_, Nat.or_lt_two_pow (n := 20) h hl⟩
  rw [o_shl1 (by omega), Nat.one_shiftLeft, n_or (by omega) (by omega)]
theorem hOk_0 {H p : Nat} {f : Nat → Int} (h : hOk H f p) (h0 : ¬ 1 ≤ f p) : hOk H f (p + 1) := by
  refine ⟨h.1, fun i hi => ?_⟩
  have a := h.2 i hi
  rw [a.1, a.2]
  by_cases e : i = p
  · subst e
    exact ⟨by rw [decide_eq_false (by omega), decide_eq_false (by omega)], by rw [decide_eq_false (by omega), decide_eq_false (by omega)]⟩
  · have e1 : (i < p) ↔ (i < p + 1) := by omega
    simp only [e1, and_self]
theorem hOk_1 {H p : Nat} {f : Nat → Int} (hp : p < 10) (h : hOk H f p) (h0 : 1 ≤ f p) (h1 : ¬ 2 ≤ f p) : hOk (H ||| 2 ^ p) f (p + 1) := by
  refine ⟨(hOk_b (Or.inl rfl) hp h.1).2, fun i hi => ?_⟩
  have a := h.2 i hi
  rw [Nat.testBit_or, Nat.testBit_or, a.1, a.2, Nat.testBit_two_pow, Nat.testBit_two_pow]
  by_cases e : i = p
  · subst e
    refine ⟨?_, ?_⟩
    · rw [decide_eq_true (show i = i from rfl), decide_eq_true (show i < i + 1 ∧ 1 ≤ f i from ⟨by omega, h0⟩), Bool.or_true]
    · rw [decide_eq_false (show ¬ (i < i ∧ 2 ≤ f i) by omega), decide_eq_false (show ¬ i = i + 10 by omega), decide_eq_false (show ¬ (i < i + 1 ∧ 2 ≤ f i) from fun w => h1 w.2)]; rfl
  · have e1 : (i < p) ↔ (i < p + 1) := by omega
    rw [decide_eq_false (show ¬ p = i by omega), decide_eq_false (show ¬ p = i + 10 by omega), Bool.or_false, Bool.or_false]
    simp only [e1, and_self]
theorem hOk_2 {H p : Nat} {f : Nat → Int} (hp : p < 10) (h : hOk H f p) (h1 : 2 ≤ f p) : hOk (H ||| 2 ^ p ||| 2 ^ (p + 10)) f (p + 1) := by
  refine ⟨(hOk_b (Or.inr rfl) hp (hOk_b (Or.inl rfl) hp h.1).2).2, fun i hi => ?_⟩
  have a := h.2 i hi
  rw [Nat.testBit_or, Nat.testBit_or, Nat.testBit_or, Nat.testBit_or, a.1, a.2, Nat.testBit_two_pow, Nat.testBit_two_pow, Nat.testBit_two_pow, Nat.testBit_two_pow]
  by_cases e : i = p
  · subst e
    refine ⟨?_, ?_⟩
    · rw [decide_eq_true (show i = i from rfl), decide_eq_true (show i < i + 1 ∧ 1 ≤ f i from ⟨by omega, by omega⟩), Bool.or_true, Bool.true_or]
    · rw [decide_eq_true (show i + 10 = i + 10 from rfl), decide_eq_true (show i < i + 1 ∧ 2 ≤ f i from ⟨by omega, h1⟩), Bool.or_true]
  · have e1 : (i < p) ↔ (i < p + 1) := by omega
    rw [decide_eq_false (show ¬ p = i by omega), decide_eq_false (show ¬ p = i + 10 by omega), decide_eq_false (show ¬ p + 10 = i by omega), decide_eq_false (show ¬ p + 10 = i + 10 by omega), Bool.or_false, Bool.or_false, Bool.or_false, Bool.or_false]
    simp only [e1, and_self]
def plB (K : Nat → Int) (p : Nat) : Bool := decide (¬ K p = 3)
def ppl (K : Nat → Int) (n : Nat) : Nat := bsN (plB K) n
theorem ppl_lt {K : Nat → Int} {n : Nat} (h : n ≤ 10) : ppl K n < 1024 := bsN_lt _ _ h
def bit2 (f : Nat → Bool) (p : Nat) : Bool := f p
/-- of the people, behind the first loop -/
def ppA (σ : st_S) (K : Nat → Int) (n : Nat) (M : zM) (k : Nat) : Prop := gI σ 42 0 = (bsN (plB K) k : Int) ∧ (∃ H : Nat, gI σ 42 1 = (H : Int) ∧ hOk H (fun p => K (20 + p)) k) ∧ ∀ p, p < k → gI σ 43 p = comV M K p ∧ gI σ 45 p = (bsN (spB M K p 1) n : Int) ∧ gI σ 46 p = (bsN (spB M K p 2) n : Int)
/-- free on a night: having heard nothing, having heard something -/
def fnB (M : zM) (K : Nat → Int) (night h p : Nat) : Bool := decide (¬ K p = 3) && decide (K (20 + p) ≤ (h : Int)) && decide (comV M K p ≤ (night : Int)) && decide (brV M K p night h = 0)
/-- of the nights -/
def ppN (σ : st_S) (K : Nat → Int) (n : Nat) (M : zM) (k : Nat) : Prop := ∀ i, i < k → gI σ 47 i = (ndV K i : Int) ∧ gI σ 48 i = (bsN (cmB M K i) n : Int) ∧ gI σ 49 i = (bsN (fnB M K i 0) n : Int) ∧ gI σ 50 i = (bsN (fnB M K i 1) n : Int)
def ppC (σ : st_S) (K : Nat → Int) (n : Nat) (M : zM) : Prop := cxC σ K n M ∧ ppA σ K n M n ∧ ppN σ K n M n
theorem ppA_of {σ τ : st_S} {K : Nat → Int} {n k : Nat} {M : zM} (h : ppA σ K n M k) (hI : ∀ c j, (c = 42 ∧ j ≤ 1) ∨ ((c = 43 ∨ c = 45 ∨ c = 46) ∧ j < k) → gI τ c j = gI σ c j) : ppA τ K n M k := by
  obtain ⟨h1, ⟨H, h2, h3⟩, h4⟩ := h
  refine ⟨by rw [hI _ _ (by omega)]; exact h1, ⟨H, by rw [hI _ _ (by omega)]; exact h2, h3⟩, fun p hp => ?_⟩
  rw [hI _ _ (by omega), hI _ _ (by omega), hI _ _ (by omega)]
  exact h4 p hp
theorem ppN_of {σ τ : st_S} {K : Nat → Int} {n k : Nat} {M : zM} (h : ppN σ K n M k) (hI : ∀ c j, (47 ≤ c ∧ c ≤ 50) ∧ j < k → gI τ c j = gI σ c j) : ppN τ K n M k := by
  intro i hi
  rw [hI _ _ (by omega), hI _ _ (by omega), hI _ _ (by omega), hI _ _ (by omega)]
  exact h i hi
theorem bs_congr {f g : Nat → Bool} {n : Nat} (h : ∀ p, p < n → f p = g p) : bsN f n = bsN g n := by
  induction n with
  | zero => rfl
  | succ n ih =>
    show bsN f n ||| (if f n then 2 ^ n else 0) = bsN g n ||| (if g n then 2 ^ n else 0)
    rw [ih (fun p hp => h p (by omega)), h n (by omega)]
theorem ndV_w {K : Nat → Int} {night : Nat} {σ : st_S} {Q : Int → st_S → Prop} (hQ : Q (ndV K night : Int) σ) : wp_X5_wanted (fgV K (K 33 + (night : Int))) σ Q := by
  unfold ndV at hQ
  refine ⟨fun z => ?_, fun z => ?_⟩
  · rw [if_neg z] at hQ; exact hQ
  · rw [if_pos z] at hQ; exact hQ
/-- those who have heard no more than h -/
theorem am_bits {K : Nat → Int} {n H : Nat} (hn : n ≤ 10) (hH : hOk H (fun p => K (20 + p)) n) :
    o_and (ppl K n : Int) (o_xor (H : Int) (-1)) = ((ndn (ppl K n) H : Nat) : Int) ∧ ndn (ppl K n) H < 1024 ∧ (∀ p, p < n → (ndn (ppl K n) H).testBit p = (decide (¬ K p = 3) && decide (K (20 + p) ≤ 0))) ∧
    o_and (ppl K n : Int) (o_xor (o_shr (H : Int) 10) (-1)) = ((ndn (ppl K n) (H >>> 10) : Nat) : Int) ∧ ndn (ppl K n) (H >>> 10) < 1024 ∧ (∀ p, p < n → (ndn (ppl K n) (H >>> 10)).testBit p = (decide (¬ K p = 3) && decide (K (20 + p) ≤ 1))) := by
  have pl := ppl_lt (K := K) hn
  have h1 := hH.1
  have s1 : H >>> 10 ≤ H := by rw [Nat.shiftRight_eq_div_pow]; exact Nat.div_le_self _ _
  have es : o_shr (H : Int) 10 = ((H >>> 10 : Nat) : Int) := n_shr (a := H) (k := 10) (by omega) (by decide)
  have tb : ∀ p, p < n → (ppl K n).testBit p = decide (¬ K p = 3) := fun p hp => by unfold ppl; rw [bsN_tb]; simp [hp, plB]
  refine ⟨n_andn (by omega) (by omega), Nat.lt_of_le_of_lt (ndn_le _ _) pl, fun p hp => ?_, ?_, Nat.lt_of_le_of_lt (ndn_le _ _) pl, fun p hp => ?_⟩
  · rw [ndn_bit (by omega), tb p hp, (hH.2 p (by omega)).1]
    congr 1
    by_cases e : 1 ≤ K (20 + p)
    · rw [decide_eq_true (show p < n ∧ 1 ≤ K (20 + p) from ⟨hp, e⟩), decide_eq_false (by omega)]; rfl
    · rw [decide_eq_false (show ¬ (p < n ∧ 1 ≤ K (20 + p)) from fun w => e w.2), decide_eq_true (by omega)]; rfl
  · rw [es]; exact n_andn (by omega) (by omega)
  · rw [ndn_bit (by omega), tb p hp, Nat.testBit_shiftRight, Nat.add_comm 10 p, (hH.2 p (by omega)).2]
    congr 1
    by_cases e : 2 ≤ K (20 + p)
    · rw [decide_eq_true (show p < n ∧ 2 ≤ K (20 + p) from ⟨hp, e⟩), decide_eq_false (by omega)]; rfl
    · rw [decide_eq_false (show ¬ (p < n ∧ 2 ≤ K (20 + p)) from fun w => e w.2), decide_eq_true (by omega)]; rfl
set_option maxHeartbeats 1000000 in
theorem w_prepare {σ : st_S} {K : Nat → Int} {n : Nat} {M : zM} {Q : st_S → Prop} (h : cxC σ K n M) (hQ : ∀ τ, zP σ τ → ppC τ K n M → Q τ) : wp_X5_prepare σ Q := by
  have hn := h.1.2.2
  have h9 := h.2.2.2.2.2.2.2.2.1
  unfold zC9 at h9
  have h933 := h9.1.2
  intro s0 e0 s1 e1
  have z1 : zP σ s1 := by rw [e1, e0]; exact zP_tr (zP_sI (by omega)) (zP_sI (by omega))
  have a1 : ppA s1 K n M 0 := ⟨by rw [e1, e0]; rfl, ⟨0, by rw [e1, e0]; rfl, by decide, fun p hp => by rw [Nat.zero_testBit, Nat.zero_testBit, decide_eq_false (by omega), decide_eq_false (by omega)]; exact ⟨rfl, rfl⟩⟩, fun p hp => absurd hp (by omega)⟩
  clear e1 e0
  have key2 : ∀ m k : Nat, k + m = n → ∀ τ, zP σ τ → ppA τ K n M n → ppN τ K n M k → L_X5_prepare_124 Q (m + 1) (k : Int) τ := by
    intro m
    induction m with
    | zero =>
      intro k hk τ b1 b2 b3
      have ct := cxC_P h b1
      have e0 : gI τ 25 0 = (n : Int) := ct.1.1
      have ek : k = n := by omega
      subst ek
      exact ⟨fun _ => hQ τ b1 ⟨ct, b2, b3⟩, fun z => absurd (by omega) z⟩
    | succ m ih =>
      intro k hk τ b1 b2 b3
      have ct := cxC_P h b1
      have e0 : gI τ 25 0 = (n : Int) := ct.1.1
      have ed : gI τ 33 0 = K 33 := by
        have := ct.2.2.2.2.2.2.2.2.1
        unfold zC9 at this
        exact this.1.1
      refine ⟨fun z => absurd z (by omega), fun _ => ?_⟩
      rw [ed, wr_id (by omega) (by omega)]
      refine w_fogOn ct.2.2.2.2.2.2.2.1 (ndV_w ⟨ixn (by omega), ?_⟩)
      have fr := fgV_r ct.2.2.2.2.2.2.2.1 (K 33 + (k : Int))
      intro s2 e2
      rw [Int.toNat_natCast] at e2
      have z2 : zP σ s2 := by rw [e2]; exact zP_tr b1 (zP_sI (by omega))
      have c2 := cxC_P h z2
      have A2 : ppA s2 K n M n := by rw [e2]; exact ppA_of b2 (fun c j q => by rw [gI_sI, if_neg (by omega)])
      have N2 : ppN s2 K n M k := by rw [e2]; exact ppN_of b3 (fun c j q => by rw [gI_sI, if_neg (by omega)])
      have v2 : gI s2 47 k = (ndV K k : Int) := by rw [e2, gI_sI, if_pos ⟨rfl, rfl⟩]
      clear e2
      refine w_comeBy hn c2.1.1 (fun p hp => (A2.2.2 p hp).1) ⟨ixn (by omega), ?_⟩
      intro s3 e3
      rw [Int.toNat_natCast] at e3
      have z3 : zP σ s3 := by rw [e3]; exact zP_tr z2 (zP_sI (by omega))
      have c3 := cxC_P h z3
      have A3 : ppA s3 K n M n := by rw [e3]; exact ppA_of A2 (fun c j q => by rw [gI_sI, if_neg (by omega)])
      have N3 : ppN s3 K n M k := by rw [e3]; exact ppN_of N2 (fun c j q => by rw [gI_sI, if_neg (by omega)])
      have v3 : gI s3 47 k = (ndV K k : Int) ∧ gI s3 48 k = (bsN (cmB M K k) n : Int) := by rw [e3]; exact ⟨by rw [gI_sI, if_neg (by omega)]; exact v2, by rw [gI_sI, if_pos ⟨rfl, rfl⟩]⟩
      clear e3
      obtain ⟨H, hH1, hH2⟩ := A3.2.1
      obtain ⟨m1, m2, m3, m4, m5, m6⟩ := am_bits hn hH2
      rw [A3.1, hH1, show (bsN (plB K) n : Int) = (ppl K n : Int) from rfl, m1]
      refine w_freeOn (h := 0) c3 (by omega) (by decide) fr m2 (fun p hp => (A3.2.2 p hp).1) (fun τ4 j4 => ⟨ixn (by omega), ?_⟩)
      have eb0 : bsN (frB M K k 0 (fgV K (K 33 + (k : Int))) (ndn (ppl K n) H)) n = bsN (fnB M K k 0) n := bs_congr (fun p hp => by unfold frB fnB brV; rw [m3 p hp]; rfl)
      rw [eb0]
      intro s5 e5
      rw [Int.toNat_natCast] at e5
      have z5 : zP σ s5 := by rw [e5]; exact zP_tr (zP_tr z3 (zP_J j4)) (zP_sI (by omega))
      have c5 := cxC_P h z5
      have o5 : ∀ c j, 42 ≤ c → c ≤ 51 → ¬ (c = 49 ∧ j = k) → gI s5 c j = gI s3 c j := fun c j q1 q2 q3 => by rw [e5, gI_sI, if_neg q3, j4.2 _ _ (by omega) (by omega) (by omega)]
      have A5 : ppA s5 K n M n := ppA_of A3 (fun c j q => o5 _ _ (by omega) (by omega) (by omega))
      have N5 : ppN s5 K n M k := ppN_of N3 (fun c j q => o5 _ _ (by omega) (by omega) (by omega))
      have v5 : gI s5 49 k = (bsN (fnB M K k 0) n : Int) := by rw [e5, gI_sI, if_pos ⟨rfl, rfl⟩]
      have H5 : gI s5 42 1 = (H : Int) := by rw [o5 _ _ (by omega) (by omega) (by omega)]; exact hH1
      clear e5
      rw [A5.1, H5, show (bsN (plB K) n : Int) = (ppl K n : Int) from rfl, m4]
      refine w_freeOn (h := 1) c5 (by omega) (by decide) fr m5 (fun p hp => (A5.2.2 p hp).1) (fun τ6 j6 => ⟨ixn (by omega), ?_⟩)
      have eb1 : bsN (frB M K k 1 (fgV K (K 33 + (k : Int))) (ndn (ppl K n) (H >>> 10))) n = bsN (fnB M K k 1) n := bs_congr (fun p hp => by unfold frB fnB brV; rw [m6 p hp]; rfl)
      rw [eb1]
      intro s7 e7 x ex
      rw [Int.toNat_natCast] at e7
      rw [wks (by omega)] at ex
      subst ex
      have o7 : ∀ c j, 42 ≤ c → c ≤ 51 → ¬ (c = 50 ∧ j = k) → gI s7 c j = gI s5 c j := fun c j q1 q2 q3 => by rw [e7, gI_sI, if_neg q3, j6.2 _ _ (by omega) (by omega) (by omega)]
      have z7 : zP σ s7 := by rw [e7]; exact zP_tr (zP_tr z5 (zP_J j6)) (zP_sI (by omega))
      refine ih (k + 1) (by omega) s7 z7 (ppA_of A5 (fun c j q => o7 _ _ (by omega) (by omega) (by omega))) (fun i hi => ?_)
      by_cases e : i = k
      · subst e
        rw [o7 _ _ (by omega) (by omega) (by omega), o7 _ _ (by omega) (by omega) (by omega), o7 _ _ (by omega) (by omega) (by omega), o5 _ _ (by omega) (by omega) (by omega), o5 _ _ (by omega) (by omega) (by omega)]
        exact ⟨v3.1, v3.2, v5, by rw [e7, gI_sI, if_pos ⟨rfl, rfl⟩]⟩
      · rw [o7 _ _ (by omega) (by omega) (by omega), o7 _ _ (by omega) (by omega) (by omega), o7 _ _ (by omega) (by omega) (by omega), o7 _ _ (by omega) (by omega) (by omega)]
        exact N5 i (by omega)
  have key1 : ∀ m p : Nat, p + m = n → ∀ τ, zP σ τ → ppA τ K n M p → L_X5_prepare_12 Q (m + 1) (p : Int) τ := by
    intro m
    induction m with
    | zero =>
      intro p hp τ b1 b2
      have ct := cxC_P h b1
      have e0 : gI τ 25 0 = (n : Int) := ct.1.1
      have ep : p = n := by omega
      subst ep
      exact ⟨fun _ => ⟨p + 1, key2 p 0 (by omega) τ b1 b2 (fun i hi => absurd hi (by omega))⟩, fun z => absurd (by omega) z⟩
    | succ m ih =>
      intro p hp τ b1 b2
      have ct := cxC_P h b1
      have e0 : gI τ 25 0 = (n : Int) := ct.1.1
      refine ⟨fun z => absurd z (by omega), fun _ => w_nightOf ct (by omega) (fun τ1 j1 => ⟨ixn (by omega), ?_⟩)⟩
      intro s2 e2
      rw [Int.toNat_natCast] at e2
      have z2 : zP σ s2 := by rw [e2]; exact zP_tr (zP_tr b1 (zP_J j1)) (zP_sI (by omega))
      have c2 := cxC_P h z2
      have o2 : ∀ c j, 42 ≤ c → c ≤ 51 → ¬ (c = 43 ∧ j = p) → gI s2 c j = gI τ c j := fun c j q1 q2 q3 => by rw [e2, gI_sI, if_neg q3, j1.2 _ _ (by omega) (by omega) (by omega)]
      have A2 : ppA s2 K n M p := ppA_of b2 (fun c j q => o2 _ _ (by omega) (by omega) (by omega))
      have v2 : gI s2 43 p = comV M K p := by rw [e2, gI_sI, if_pos ⟨rfl, rfl⟩]
      clear e2
      obtain ⟨H, hH1, hH2⟩ := A2.2.1
      have e29 : gI s2 29 p = K p := (c2.2.2.2.2.1 p (by omega)).1
      have o4 := (c2.2.2.2.1 p (by omega)).2
      -- behind the bits of those who have heard
      have h111 : ∀ s (H' : Nat), zP σ s → (∀ c j, 43 ≤ c → c ≤ 51 → gI s c j = gI s2 c j) → gI s 42 0 = (bsN (plB K) (p + 1) : Int) → gI s 42 1 = (H' : Int) → hOk H' (fun p => K (20 + p)) (p + 1) → B_X5_prepare_111 Q (L_X5_prepare_12 Q (m + 1)) (p : Int) s := by
        intro s H' d1 d2 d3 d4 d5
        refine w_askSpoils (cxC_P h d1) (by omega) (fun υ u1 u2 u3 => ?_)
        intro x ex
        rw [wks (by omega)] at ex
        subst ex
        refine ih (p + 1) (by omega) υ (zP_tr d1 (fA_P u1)) ⟨by rw [u1.2 _ _ (by omega) (by omega)]; exact d3, ⟨H', by rw [u1.2 _ _ (by omega) (by omega)]; exact d4, d5⟩, fun q hq => ?_⟩
        by_cases e : q = p
        · subst e
          exact ⟨by rw [u1.2 _ _ (by omega) (by omega), d2 _ _ (by omega) (by omega)]; exact v2, u2, u3⟩
        · rw [u1.2 _ _ (by omega) (by omega), u1.2 _ _ (by omega) (by omega), u1.2 _ _ (by omega) (by omega), d2 _ _ (by omega) (by omega), d2 _ _ (by omega) (by omega), d2 _ _ (by omega) (by omega)]
          exact A2.2.2 q (by omega)
      have h59 : ∀ s, zP σ s → (∀ c j, 43 ≤ c → c ≤ 51 → gI s c j = gI s2 c j) → gI s 42 0 = (bsN (plB K) (p + 1) : Int) → gI s 42 1 = (H : Int) → B_X5_prepare_59 Q (L_X5_prepare_12 Q (m + 1)) (p : Int) s := by
        intro s d1 d2 d3 d4
        have e28 : ∀ s', zP σ s' → gI s' 28 p = K (20 + p) := fun s' q => ((cxC_P h q).2.2.2.1 p (by omega)).1
        have hb := hOk_b (H := H) (p := p) (i := p) (Or.inl rfl) (by omega) hH2.1
        refine ⟨ixn (by omega), ?_⟩
        rw [Int.toNat_natCast, e28 s d1]
        refine ⟨fun z => ⟨ixn (by omega), ?_⟩, fun z => ?_⟩
        · rw [Int.toNat_natCast, e28 s d1]
          exact ⟨fun y => h111 s H d1 d2 d3 d4 (hOk_0 hH2 (by show ¬ 1 ≤ K (20 + p); omega)), fun y => absurd (by omega) y⟩
        · intro s8 e8
          rw [d4, hb.1] at e8
          have z8 : zP σ s8 := by rw [e8]; exact zP_tr d1 (zP_sI (by omega))
          refine ⟨ixn (by omega), ?_⟩
          rw [Int.toNat_natCast, e28 s8 z8]
          have d28 : ∀ c j, 43 ≤ c → c ≤ 51 → gI s8 c j = gI s2 c j := fun c j q1 q2 => by rw [e8, gI_sI, if_neg (by omega)]; exact d2 c j q1 q2
          have d38 : gI s8 42 0 = (bsN (plB K) (p + 1) : Int) := by rw [e8, gI_sI, if_neg (by omega)]; exact d3
          have d48 : gI s8 42 1 = ((H ||| 2 ^ p : Nat) : Int) := by rw [e8, gI_sI, if_pos ⟨rfl, rfl⟩]
          refine ⟨fun y => h111 s8 _ z8 d28 d38 d48 (hOk_1 (by omega) hH2 (by show 1 ≤ K (20 + p); omega) (by show ¬ 2 ≤ K (20 + p); omega)), fun y => ?_⟩
          intro s9 e9
          have hb2 := hOk_b (H := H ||| 2 ^ p) (p := p) (i := p + 10) (Or.inr rfl) (by omega) hb.2
          rw [d48, show ((p : Int) + 10) = ((p + 10 : Nat) : Int) by omega, hb2.1] at e9
          refine h111 s9 (H ||| 2 ^ p ||| 2 ^ (p + 10)) ?_ (fun c j q1 q2 => ?_) ?_ ?_ (hOk_2 (by omega) hH2 (by show 2 ≤ K (20 + p); omega))
          · rw [e9]; exact zP_tr z8 (zP_sI (by omega))
          · rw [e9, gI_sI, if_neg (by omega)]; exact d28 c j q1 q2
          · rw [e9, gI_sI, if_neg (by omega)]; exact d38
          · rw [e9, gI_sI, if_pos ⟨rfl, rfl⟩]
      refine ⟨ixn (by omega), ?_⟩
      rw [Int.toNat_natCast, e29]
      refine ⟨fun z => h59 s2 z2 (fun _ _ _ _ => rfl) ?_ hH1, fun z => ?_⟩
      · rw [bs_n (by unfold plB; exact decide_eq_false (fun w => w z))]; exact A2.1
      · intro s3 e3
        rw [A2.1, bs_y (by omega) (by unfold plB; exact decide_eq_true z)] at e3
        refine h59 s3 ?_ (fun c j q1 q2 => ?_) ?_ ?_
        · rw [e3]; exact zP_tr z2 (zP_sI (by omega))
        · rw [e3, gI_sI, if_neg (by omega)]
        · rw [e3, gI_sI, if_pos ⟨rfl, rfl⟩]
        · rw [e3, gI_sI, if_neg (by omega)]; exact hH1
  exact ⟨n + 1, key1 n 0 (by omega) s1 z1 a1⟩
