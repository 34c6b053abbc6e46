/-! count -/
def smI (f : Nat → Int) : Nat → Int
  | 0 => 0
  | n + 1 => smI f n + f n
theorem smI_congr {f g : Nat → Int} {n : Nat} (h : ∀ i, i < n → f i = g i) : smI f n = smI g n := by
  induction n with
  | zero => rfl
  | succ n ih => show smI f n + f n = smI g n + g n; rw [ih (fun i hi => h i (by omega)), h n (by omega)]
theorem smI_zero {f : Nat → Int} {n m : Nat} (hnm : n ≤ m) (h : ∀ i, n ≤ i → i < m → f i = 0) : smI f m = smI f n := by
  induction m with
  | zero => rw [show n = 0 by omega]
  | succ m ih =>
    by_cases e : n = m + 1
    · rw [e]
    · show smI f m + f m = _
      rw [ih (by omega) (fun i h1 h2 => h i h1 (by omega)), h m (by omega) (by omega), Int.add_zero]
theorem smI_add (f g : Nat → Int) (n : Nat) : smI (fun i => f i + g i) n = smI f n + smI g n := by
  induction n with
  | zero => rfl
  | succ n ih => show smI _ n + (f n + g n) = _; rw [ih]; show _ = smI f n + f n + (smI g n + g n); omega
theorem smI_b {f : Nat → Int} {n : Nat} (b : Nat) (h : ∀ i, i < n → 0 ≤ f i ∧ f i ≤ (b : Int)) : 0 ≤ smI f n ∧ smI f n ≤ (b : Int) * n := by
  induction n with
  | zero => exact ⟨by show (0 : Int) ≤ 0; omega, by show (0 : Int) ≤ _; simp⟩
  | succ n ih =>
    have := ih (fun i hi => h i (by omega))
    have k := h n (by omega)
    refine ⟨by show 0 ≤ smI f n + f n; omega, ?_⟩
    show smI f n + f n ≤ (b : Int) * ((n + 1 : Nat) : Int)
    rw [show ((n + 1 : Nat) : Int) = (n : Int) + 1 by omega, Int.mul_add, Int.mul_one]
    omega
theorem pop_sm (f : Nat) : (pop f : Int) = smI (fun q => if f.testBit q then 1 else 0) 10 := by
  have e : ∀ q, ((if f.testBit q then 1 else 0 : Nat) : Int) = if f.testBit q then 1 else 0 := fun q => by split <;> rfl
  show (((List.range 10).foldl (fun s i => s + if f.testBit i then 1 else 0) 0 : Nat) : Int) = _
  rw [show List.range 10 = [0, 1, 2, 3, 4, 5, 6, 7, 8, 9] from rfl]
  simp only [List.foldl, Int.natCast_add, e, smI]
  rfl
/-- those who talk, twice counted -/
theorem dbl {T : Nat → Nat → Int} (hs : ∀ p q, T p q = T q p) (hd : ∀ p, T p p = 0) (n : Nat) : smI (fun p => smI (T p) n) n = 2 * smI (fun p => smI (T p) p) n := by
  induction n with
  | zero => rfl
  | succ n ih =>
    show smI (fun p => smI (T p) n + T p n) n + (smI (T n) n + T n n) = 2 * (smI (fun p => smI (T p) p) n + smI (T n) n)
    rw [smI_add, ih, hd n, smI_congr (f := fun i => T i n) (g := T n) (fun i _ => hs i n)]
    omega
theorem hlf : ∀ k : Nat, k < 201 → o_div (k : Int) 2 = ((k / 2 : Nat) : Int) := by decide +kernel
theorem w_pairs {n : Nat} {F : Nat → Nat} {σ : st_S} {Q : Int → st_S → Prop} (hn : n ≤ 10) (hs : gI σ 25 0 = (n : Int)) (hF : ∀ p, p < n → gI σ 31 p = (F p : Int) ∧ F p < 1024) (hQ : Q (o_div (smI (fun p => (pop (F p) : Int)) n) 2) σ) : wp_X1_pairs σ Q := by
  have pb : ∀ f, 0 ≤ (pop f : Int) ∧ (pop f : Int) ≤ 10 := by
    intro f
    rw [pop_sm]
    have := smI_b (f := fun q => if f.testBit q then 1 else 0) (n := 10) 1 (fun i _ => by show 0 ≤ (if f.testBit i then (1 : Int) else 0) ∧ (if f.testBit i then (1 : Int) else 0) ≤ 1; split <;> omega)
    omega
  have key : ∀ m i : Nat, i + m = n → L_X1_pairs_4 Q (m + 1) (smI (fun p => (pop (F p) : Int)) i) (i : Int) σ := by
    intro m
    induction m with
    | zero =>
      intro i hi
      refine ⟨fun _ => ?_, fun q => absurd (by omega) q⟩
      rw [show i = n by omega]
      exact hQ
    | succ m ih =>
      intro i hi
      refine ⟨fun q => absurd q (by omega), fun _ => ⟨ixn (by omega), ?_⟩⟩
      rw [Int.toNat_natCast, (hF i (by omega)).1]
      refine w_bitCount (hF i (by omega)).2 ?_
      intro x ex y ey
      have b := smI_b (f := fun p => (pop (F p) : Int)) (n := i) 10 (fun p _ => pb (F p))
      have b2 := pb (F i)
      rw [wr_id (by omega) (by omega)] at ex
      rw [wks (by omega)] at ey
      subst ex
      subst ey
      exact ih (i + 1) (by omega)
  exact ⟨n + 1, key n 0 (by omega)⟩
theorem m_talks {n : Nat} {σ : st_S} {l1 : Int} {Q : Int → st_S → Prop} (hn : n ≤ 10) (hs : gI σ 2 256 = (n : Int)) (hT : ∀ i, 54 ≤ i → i < 154 → gI σ 2 i = 0 ∨ gI σ 2 i = 1)
    (hQ : L_X11_count_4 Q 1 l1 (smI (fun p => smI (fun q => gI σ 2 (54 + 10 * p + q)) p) n) (n : Int) σ) : wp_X11_count l1 σ Q := by
  have inner : ∀ (k4 : Int → Int → Int → st_S → Prop) (p : Nat) (S : Int), p < n → 0 ≤ S ∧ S ≤ 10 * p → k4 l1 (S + smI (fun q => gI σ 2 (54 + 10 * p + q)) p) ((p + 1 : Nat) : Int) σ → ∃ m, L_X11_count_15 Q k4 m l1 S (p : Int) 0 σ := by
    intro k4 p S hp hS hk
    have key : ∀ m i : Nat, i + m = p → L_X11_count_15 Q k4 (m + 1) l1 (S + smI (fun q => gI σ 2 (54 + 10 * p + q)) i) (p : Int) (i : Int) σ := by
      intro m
      induction m with
      | zero =>
        intro i hi
        refine ⟨fun _ => ?_, fun q => absurd (by omega) q⟩
        intro x ex
        rw [wks (by omega)] at ex
        subst ex
        rw [show i = p by omega]
        exact hk
      | succ m ih =>
        intro i hi
        have b := smI_b (f := fun q => gI σ 2 (54 + 10 * p + q)) (n := i) 1 (fun q hq => by have := hT (54 + 10 * p + q) (by omega) (by omega); show 0 ≤ gI σ 2 (54 + 10 * p + q) ∧ gI σ 2 (54 + 10 * p + q) ≤ 1; omega)
        have t := hT (54 + 10 * p + i) (by omega) (by omega)
        refine ⟨fun q => absurd q (by omega), fun _ => m_doTalk (by omega) (by omega) ?_⟩
        have nx := ih (i + 1) (by omega)
        rcases t with t | t
        · rw [if_neg (by omega)]
          refine ⟨fun _ => ?_, fun z => absurd rfl z⟩
          intro x ex y ey
          rw [wr_id (by omega) (by omega)] at ex
          rw [wks (by omega)] at ey
          subst ex
          subst ey
          rw [show S + smI (fun q => gI σ 2 (54 + 10 * p + q)) (i + 1) = S + smI (fun q => gI σ 2 (54 + 10 * p + q)) i + 0 from by show S + (_ + gI σ 2 (54 + 10 * p + i)) = _; omega] at nx
          exact nx
        · rw [if_pos t]
          refine ⟨fun z => absurd z (by decide), fun _ => ?_⟩
          intro x ex y ey
          rw [wr_id (by omega) (by omega)] at ex
          rw [wks (by omega)] at ey
          subst ex
          subst ey
          rw [show S + smI (fun q => gI σ 2 (54 + 10 * p + q)) (i + 1) = S + smI (fun q => gI σ 2 (54 + 10 * p + q)) i + 1 from by show S + (_ + gI σ 2 (54 + 10 * p + i)) = _; omega] at nx
          exact nx
    have := key p 0 (by omega)
    rw [show S + smI (fun q => gI σ 2 (54 + 10 * p + q)) 0 = S from by show S + 0 = S; omega] at this
    exact ⟨p + 1, this⟩
  have key : ∀ m i : Nat, i + m = n → L_X11_count_4 Q (m + 1) l1 (smI (fun p => smI (fun q => gI σ 2 (54 + 10 * p + q)) p) i) (i : Int) σ := by
    intro m
    induction m with
    | zero => intro i hi; rw [show i = n by omega]; exact hQ
    | succ m ih =>
      intro i hi
      have b := smI_b (f := fun p => smI (fun q => gI σ 2 (54 + 10 * p + q)) p) (n := i) 10 (fun p hp => by
        have := smI_b (f := fun q => gI σ 2 (54 + 10 * p + q)) (n := p) 1 (fun q hq => by have := hT (54 + 10 * p + q) (by omega) (by omega); show 0 ≤ gI σ 2 (54 + 10 * p + q) ∧ gI σ 2 (54 + 10 * p + q) ≤ 1; omega)
        show 0 ≤ smI (fun q => gI σ 2 (54 + 10 * p + q)) p ∧ smI (fun q => gI σ 2 (54 + 10 * p + q)) p ≤ 10
        omega)
      refine ⟨fun q => absurd q (by show ¬ gI σ 2 256 ≤ (i : Int); omega), fun _ => inner _ i _ (by omega) ⟨b.1, by omega⟩ (ih (i + 1) (by omega))⟩
  exact ⟨n + 1, key n 0 (by omega)⟩
set_option maxHeartbeats 400000 in
theorem st_count {B : Nat} {σc σm : st_S} (h : zInv B σc σm) (a1 : Int) : wp_X10_count a1 σc (fun r τ => wp_X11_count a1 σm (fun r2 υ => r = r2 ∧ zInv B τ υ)) := by
  have h0 := h
  obtain ⟨⟨⟨n, c1, c2, c3, c4, c5, c6, c7, c8, c9, ca, cb⟩, hlog, himg, htp, hwd, hsc⟩, hst, hrr⟩ := h
  obtain ⟨c11, c12, c13⟩ := c1
  obtain ⟨m, b1, b2, b3, b4, -⟩ := cb
  obtain ⟨len, t1, t2, -⟩ := htp
  obtain ⟨n', l1, ml, o, l2, l3, -⟩ := hlog
  have hT : ∀ i, 54 ≤ i → i < 154 → gI σm 2 i = 0 ∨ gI σm 2 i = 1 := by
    intro i i1 i2
    obtain ⟨f, f1, f2, f3⟩ := c7 ((i - 54) / 10) (by omega)
    have := (f3 ((i - 54) % 10) (by omega)).1
    rw [show 54 + 10 * ((i - 54) / 10) + (i - 54) % 10 = i by omega] at this
    rw [this]
    split
    · exact Or.inr rfl
    · exact Or.inl rfl
  have key : ∀ r : Int, ((a1 = 0 → r = gI σm 2 256) ∧ (a1 = 1 → r = smI (fun p => smI (fun q => gI σm 2 (54 + 10 * p + q)) p) n) ∧ (a1 = 2 → r = gI σm 2 30) ∧ (a1 = 3 → r = gI σm 2 31) ∧ (a1 = 4 → r = gI σm 2 32) ∧ (a1 = 5 → r = gI σm 2 257) ∧ (a1 = 6 → r = gI σm 0 28) ∧ (a1 = 7 → r = gI σm 0 13) ∧ (a1 = 8 → r = gI σm 1 1) ∧ (a1 = 9 → r = gI σm 1 2) ∧ (a1 = 10 → r = gI σm 1 3) ∧ (a1 = 11 → r = gI σm 1 5) ∧ (a1 = 12 → r = gI σm 1 6) ∧ (a1 = 13 → r = gI σm 2 258) ∧ (a1 = 14 → r = gI σm 2 33) ∧ (a1 = 15 → r = gI σm 2 254) ∧ (a1 = 16 → r = gI σm 2 255) ∧ (a1 < 0 ∨ 16 < a1 → r = (-1))) → wp_X11_count a1 σm (fun r2 υ => r = r2 ∧ zInv B σc υ) := by
    rintro r ⟨k0, k1, k2, k3, k4, k5, k6, k7, k8, k9, k10, k11, k12, k13, k14, k15, k16, k17⟩
    refine m_talks c13 c12 hT ⟨fun _ => ?_, fun z => absurd (show gI σm 2 256 ≤ (n : Int) by omega) z⟩
    refine ⟨fun e => ?_, fun e => ?_, fun e => ?_, fun e => ?_, fun e => ?_, fun e => ?_, fun e => ?_, fun e => ?_, fun e => ?_, fun e => ?_, fun e => ?_, fun e => ?_, fun e => ?_, fun e => ?_, fun e => ?_, fun e => ?_, fun e => ?_, fun e => ?_⟩
    · exact ⟨k0 e, h0⟩
    · exact ⟨k1 e, h0⟩
    · exact ⟨k2 e, h0⟩
    · exact ⟨k3 e, h0⟩
    · exact ⟨k4 e, h0⟩
    · exact ⟨k5 e, h0⟩
    · exact ⟨k6 e, h0⟩
    · exact ⟨k7 e, h0⟩
    · subst e; exact ⟨⟨by decide, by decide⟩, k8 rfl, h0⟩
    · subst e; exact ⟨⟨by decide, by decide⟩, k9 rfl, h0⟩
    · subst e; exact ⟨⟨by decide, by decide⟩, k10 rfl, h0⟩
    · exact ⟨k11 e, h0⟩
    · exact ⟨k12 e, h0⟩
    · exact ⟨k13 e, h0⟩
    · exact ⟨k14 e, h0⟩
    · subst e; exact ⟨⟨by decide, by decide⟩, k15 rfl, h0⟩
    · subst e; exact ⟨⟨by decide, by decide⟩, k16 rfl, h0⟩
    · exact ⟨k17 e, h0⟩
  have o9 := c9
  unfold zC9 at o9
  have oa := ca
  unfold zCa at oa
  have F := fun p (hp : p < 10) => c7 p hp
  refine ⟨fun e => ?_, fun e => ?_, fun e => ?_, fun e => ?_, fun e => ?_, fun e => ?_, fun e => ?_, fun e => ?_, fun e => ?_, fun e => ?_, fun e => ?_, fun e => ?_, fun e => ?_, fun e => ?_, fun e => ?_, fun e => ?_, fun e => ?_, fun e => ?_⟩
  · exact key _ ⟨fun _ => by omega, by omega, by omega, by omega, by omega, by omega, by omega, by omega, by omega, by omega, by omega, by omega, by omega, by omega, by omega, by omega, by omega, by omega⟩
  · have hex : ∃ F : Nat → Nat, ∀ p, p < 10 → F p < 1024 ∧ (p < n → gI σc (25 + 6) p = (F p : Int)) ∧ ∀ q, q < 10 → gI σm 2 (54 + 10 * p + q) = (if (F p).testBit q then 1 else 0) ∧ gI σm 2 (54 + 10 * q + p) = gI σm 2 (54 + 10 * p + q) ∧ ((F p).testBit q = true → p < n ∧ q < n ∧ p ≠ q) := by
      have := fun p : Nat => (Classical.em (p < 10)).elim (fun hp => (let ⟨f, hf⟩ := c7 p hp; ⟨f, fun _ => hf⟩ : ∃ f : Nat, p < 10 → (f < 1024 ∧ (p < n → gI σc (25 + 6) p = (f : Int)) ∧ ∀ q, q < 10 → gI σm 2 (54 + 10 * p + q) = (if f.testBit q then 1 else 0) ∧ gI σm 2 (54 + 10 * q + p) = gI σm 2 (54 + 10 * p + q) ∧ (f.testBit q = true → p < n ∧ q < n ∧ p ≠ q)))) (fun hp => ⟨0, fun z => absurd z hp⟩)
      exact ⟨fun p => (this p).choose, fun p hp => (this p).choose_spec hp⟩
    obtain ⟨G, hG⟩ := hex
    refine w_pairs (F := G) c13 c11 (fun p hp => ⟨(hG p (by omega)).2.1 hp, (hG p (by omega)).1⟩) (key _ ?_)
    have hv : o_div (smI (fun p => (pop (G p) : Int)) n) 2 = smI (fun p => smI (fun q => gI σm 2 (54 + 10 * p + q)) p) n := by
      have e1 : smI (fun p => (pop (G p) : Int)) n = smI (fun p => smI (fun q => (if p < 10 ∧ q < 10 then gI σm 2 (54 + 10 * p + q) else 0)) n) n := by
        refine smI_congr (fun p hp => ?_)
        show (pop (G p) : Int) = _
        rw [pop_sm, smI_zero (n := n) (m := 10) c13 (fun q q1 q2 => ?_)]
        · refine smI_congr (fun q hq => ?_)
          show _ = if p < 10 ∧ q < 10 then gI σm 2 (54 + 10 * p + q) else 0
          rw [if_pos (show p < 10 ∧ q < 10 by omega)]
          exact ((hG p (by omega)).2.2 q (by omega)).1.symm
        · show (if (G p).testBit q then (1 : Int) else 0) = 0
          cases hb : (G p).testBit q
          · rfl
          · have := ((hG p (by omega)).2.2 q (by omega)).2.2 hb
            omega
      have e2 := dbl (T := fun p q => if p < 10 ∧ q < 10 then gI σm 2 (54 + 10 * p + q) else 0) (fun p q => by
        show (if p < 10 ∧ q < 10 then _ else _) = (if q < 10 ∧ p < 10 then _ else _)
        by_cases hh : p < 10 ∧ q < 10
        · rw [if_pos hh, if_pos ⟨hh.2, hh.1⟩]
          exact ((hG p hh.1).2.2 q hh.2).2.1.symm
        · rw [if_neg hh, if_neg (fun z => hh ⟨z.2, z.1⟩)]) (fun p => by
        show (if p < 10 ∧ p < 10 then _ else _) = _
        by_cases hh : p < 10
        · rw [if_pos ⟨hh, hh⟩, ((hG p hh).2.2 p hh).1]
          cases hb : (G p).testBit p
          · rfl
          · exact absurd rfl (((hG p hh).2.2 p hh).2.2 hb).2.2
        · rw [if_neg (fun z => hh z.1)]) n
      have e3 : smI (fun p => smI (fun q => (if p < 10 ∧ q < 10 then gI σm 2 (54 + 10 * p + q) else 0)) p) n = smI (fun p => smI (fun q => gI σm 2 (54 + 10 * p + q)) p) n := smI_congr (fun p hp => smI_congr (fun q hq => by
        show (if p < 10 ∧ q < 10 then _ else _) = _
        rw [if_pos (by omega)]))
      rw [e1, e2, e3]
      have b := smI_b (f := fun p => smI (fun q => gI σm 2 (54 + 10 * p + q)) p) (n := n) 10 (fun p hp => by
        have := smI_b (f := fun q => gI σm 2 (54 + 10 * p + q)) (n := p) 1 (fun q hq => by have := hT (54 + 10 * p + q) (by omega) (by omega); show 0 ≤ gI σm 2 (54 + 10 * p + q) ∧ gI σm 2 (54 + 10 * p + q) ≤ 1; omega)
        show 0 ≤ smI (fun q => gI σm 2 (54 + 10 * p + q)) p ∧ smI (fun q => gI σm 2 (54 + 10 * p + q)) p ≤ 10
        omega)
      generalize smI (fun p => smI (fun q => gI σm 2 (54 + 10 * p + q)) p) n = z at b ⊢
      obtain ⟨k, rfl⟩ : ∃ k : Nat, z = (k : Int) := ⟨z.toNat, by omega⟩
      have := hlf (2 * k) (by omega)
      rw [show ((2 * k : Nat) : Int) = 2 * (k : Int) by omega] at this
      rw [this]
      omega
    clear key
    rw [hv]
    exact ⟨by omega, fun _ => rfl, by omega, by omega, by omega, by omega, by omega, by omega, by omega, by omega, by omega, by omega, by omega, by omega, by omega, by omega, by omega, by omega⟩
  · exact key _ ⟨by omega, by omega, fun _ => oa.1, by omega, by omega, by omega, by omega, by omega, by omega, by omega, by omega, by omega, by omega, by omega, by omega, by omega, by omega, by omega⟩
  · exact key _ ⟨by omega, by omega, by omega, fun _ => oa.2.1.1, by omega, by omega, by omega, by omega, by omega, by omega, by omega, by omega, by omega, by omega, by omega, by omega, by omega, by omega⟩
  · exact key _ ⟨by omega, by omega, by omega, by omega, fun _ => oa.2.2, by omega, by omega, by omega, by omega, by omega, by omega, by omega, by omega, by omega, by omega, by omega, by omega, by omega⟩
  · exact key _ ⟨by omega, by omega, by omega, by omega, by omega, fun _ => by omega, by omega, by omega, by omega, by omega, by omega, by omega, by omega, by omega, by omega, by omega, by omega, by omega⟩
  · exact key _ ⟨by omega, by omega, by omega, by omega, by omega, by omega, fun _ => by omega, by omega, by omega, by omega, by omega, by omega, by omega, by omega, by omega, by omega, by omega, by omega⟩
  · exact key _ ⟨by omega, by omega, by omega, by omega, by omega, by omega, by omega, fun _ => by omega, by omega, by omega, by omega, by omega, by omega, by omega, by omega, by omega, by omega, by omega⟩
  · have k := key (gI σc 24 1) ⟨by omega, by omega, by omega, by omega, by omega, by omega, by omega, by omega, fun _ => hst.2 1 (by decide), by omega, by omega, by omega, by omega, by omega, by omega, by omega, by omega, by omega⟩
    subst e
    exact ⟨⟨by decide, by decide⟩, k⟩
  · have k := key (gI σc 24 2) ⟨by omega, by omega, by omega, by omega, by omega, by omega, by omega, by omega, by omega, fun _ => hst.2 2 (by decide), by omega, by omega, by omega, by omega, by omega, by omega, by omega, by omega⟩
    subst e
    exact ⟨⟨by decide, by decide⟩, k⟩
  · have k := key (gI σc 24 3) ⟨by omega, by omega, by omega, by omega, by omega, by omega, by omega, by omega, by omega, by omega, fun _ => hst.2 3 (by decide), by omega, by omega, by omega, by omega, by omega, by omega, by omega⟩
    subst e
    exact ⟨⟨by decide, by decide⟩, k⟩
  · have k := key (gI σc 24 5) ⟨by omega, by omega, by omega, by omega, by omega, by omega, by omega, by omega, by omega, by omega, by omega, fun _ => hst.2 5 (by decide), by omega, by omega, by omega, by omega, by omega, by omega⟩
    subst e
    exact ⟨⟨by decide, by decide⟩, k⟩
  · have k := key (gI σc 24 6) ⟨by omega, by omega, by omega, by omega, by omega, by omega, by omega, by omega, by omega, by omega, by omega, by omega, fun _ => hst.2 6 (by decide), by omega, by omega, by omega, by omega, by omega⟩
    subst e
    exact ⟨⟨by decide, by decide⟩, k⟩
  · exact key _ ⟨by omega, by omega, by omega, by omega, by omega, by omega, by omega, by omega, by omega, by omega, by omega, by omega, by omega, fun _ => b4, by omega, by omega, by omega, by omega⟩
  · have k := key (gI σc 33 0) ⟨by omega, by omega, by omega, by omega, by omega, by omega, by omega, by omega, by omega, by omega, by omega, by omega, by omega, by omega, fun _ => o9.1.1, by omega, by omega, by omega⟩
    subst e
    exact ⟨⟨by decide, by decide⟩, k⟩
  · have k := key (gI σc 33 1) ⟨by omega, by omega, by omega, by omega, by omega, by omega, by omega, by omega, by omega, by omega, by omega, by omega, by omega, by omega, by omega, fun _ => o9.2.1.1, by omega, by omega⟩
    subst e
    exact ⟨⟨by decide, by decide⟩, k⟩
  · have k := key (gI σc 33 2) ⟨by omega, by omega, by omega, by omega, by omega, by omega, by omega, by omega, by omega, by omega, by omega, by omega, by omega, by omega, by omega, by omega, fun _ => o9.2.2.1, by omega⟩
    subst e
    exact ⟨⟨by decide, by decide⟩, k⟩
  · exact key _ ⟨by omega, by omega, by omega, by omega, by omega, by omega, by omega, by omega, by omega, by omega, by omega, by omega, by omega, by omega, by omega, by omega, by omega, fun _ => rfl⟩
