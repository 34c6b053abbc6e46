/-! orders: the abstract deeds keep what the reference wants -/
section
variable {K : Nat → Int} {n p : Nat} {M : zM}
theorem kOk_go {v : Int} (h : kOk K n M) (hp : p < n) : kOk (kup (kup K p 1) (10 + p) v) n M := ⟨⟨(_, _), dC_go h.1.choose_spec hp⟩, fMm_of h.2 (fun i hi => by have := kOk_n h; rw [kup_n (by omega), kup_n (by omega)])⟩
theorem kOk_b (h : kOk K n M) : zcn (K 32) ∧ (0 ≤ K 33 ∧ K 33 ≤ 999) ∧ 0 ≤ K 31 ∧ ∀ p, p < n → 0 ≤ K (20 + p) ∧ K (20 + p) ≤ 2 := by
  have d := h.1.choose_spec
  obtain ⟨a1, a2, a3, a4, a5, a6, a7, a8, a9, a10⟩ := d.1
  exact ⟨d.2.2.2, ⟨a9.1.2.1, a9.1.2.2⟩, d.2.1.2.1.2.1, fun p hp => (a4 p hp).2⟩
theorem kOk_sd (h : kOk K n M) (hp : p < n) : kOk (sdK M K p) n M := by
  unfold sdK
  by_cases c : takV M K p = 0
  · rw [if_pos c, if_pos c]
    exact kOk_ti (kOk_pl (kOk_32 h (wr_wr _)) hp (by decide)) hp (by rw [kup_y]; decide)
  · rw [if_neg c, if_neg c]
    exact kOk_go (kOk_32 h (wr_wr _)) hp
theorem kOk_ar {d : Int} (h : kOk K n M) : ∀ p, p ≤ n → kOk (arK d K p) n M := by
  intro p
  induction p with
  | zero => intro _; exact h
  | succ p ih =>
    intro hp
    have g := ih (by omega)
    unfold arK
    split
    · exact kOk_ti (kOk_pl g (by omega) (by decide)) (by omega) (by rw [kup_y]; decide)
    · exact g
theorem loS_c (h : zcn (K 32)) : ∀ p, zcn (loS M K p) := by
  intro p
  cases p with
  | zero => exact h
  | succ p => exact wr_wr _
theorem kOk_pn (h : kOk K n M) (hd : K 33 < 999) : kOk (pnK M K n) n M := by
  have b := kOk_b h
  exact kOk_ar (kOk_33 (kOk_32 h (loS_c b.1 n)) (by omega)) n (Nat.le_refl _)
theorem kOk_dk (h : kOk K n M) (hd : K 33 < 999) : kOk (dkK M K n) n M := by
  have b := kOk_b h
  exact kOk_pn (kOk_31 h (by omega)) (by rw [kup_n (by decide)]; exact hd)
theorem kOk_be {c : Nat} (h : kOk K n M) : ∀ p, p ≤ n → kOk (beK c K p) n M := by
  intro p
  induction p with
  | zero => intro _; exact h
  | succ p ih =>
    intro hp
    have g := ih (by omega)
    unfold beK
    split
    · exact kOk_pl g (by omega) (by decide)
    · exact g
theorem kOk_sp1 {q : Nat} (h : kOk K n M) : ∀ q, q ≤ n → kOk (sp1 M p K q) n M := by
  intro q
  induction q with
  | zero => intro _; exact h
  | succ q ih =>
    intro hq
    have g := ih (by omega)
    unfold sp1
    split
    · have b := (kOk_b g).2.2.2 q (by omega)
      have s := spo_r M (sp1 M p K q) p q
      refine kOk_he g (by omega) ?_
      unfold mn2
      split <;> omega
    · exact g
theorem kOk_spA {c : Nat} (h : kOk K n M) : ∀ p, p ≤ n → kOk (spA M c n K p) n M := by
  intro p
  induction p with
  | zero => intro _; exact h
  | succ p ih =>
    intro hp
    have g := ih (by omega)
    unfold spA
    split
    · exact kOk_sp1 (q := 0) g n (Nat.le_refl _)
    · exact g
theorem kOk_li {c : Nat} (h : kOk K n M) (hd : K 33 < 999) : kOk (liK M K n c) n M := by
  have n10 := kOk_n h
  refine kOk_pn (kOk_30 (kOk_spA (kOk_be h n (Nat.le_refl _)) n (Nat.le_refl _))) ?_
  rw [kup_n (by decide), spA_n n10 (by omega), beK_n n10 (by omega)]
  exact hd
/-- numbers that the words of orders read -/
theorem sd_v : sdK M K p 30 = K 30 ∨ 20 ≤ p := by
  by_cases c : 20 ≤ p
  · exact Or.inr c
  · left; unfold sdK; rw [kup_n (by omega), kup_n (by omega), kup_n (by omega)]
theorem sd_n {i : Nat} (hp : p < 10) (hi : i = 30 ∨ i = 31 ∨ 33 ≤ i) : sdK M K p i = K i := by unfold sdK; rw [kup_n (by omega), kup_n (by omega), kup_n (by omega)]
theorem dk_n (h : kOk K n M) : dkK M K n 30 = K 30 ∧ dkK M K n 31 = K 31 + 1 ∧ ∀ i, 34 ≤ i → dkK M K n i = K i := by
  have n10 := kOk_n h
  refine ⟨?_, ?_, fun i hi => ?_⟩
  · unfold dkK; rw [pnK_n n10 (by decide) (by decide) (by decide), kup_n (by decide)]
  · unfold dkK; rw [pnK_n n10 (by decide) (by decide) (by decide), kup_y]
  · unfold dkK; rw [pnK_n n10 (by omega) (by omega) (by omega), kup_n (by omega)]
theorem li_n {c : Nat} (h : kOk K n M) : zcn (liK M K n c 30) ∧ liK M K n c 31 = K 31 ∧ ∀ i, 34 ≤ i → liK M K n c i = K i := by
  have n10 := kOk_n h
  refine ⟨?_, ?_, fun i hi => ?_⟩
  · unfold liK; rw [pnK_n n10 (by decide) (by decide) (by decide), kup_y]; exact wr_wr _
  · unfold liK; rw [pnK_n n10 (by decide) (by decide) (by decide), kup_n (by decide), spA_n n10 (by omega), beK_n n10 (by omega)]
  · unfold liK; rw [pnK_n n10 (by omega) (by omega) (by omega), kup_n (by omega), spA_n n10 (by omega), beK_n n10 (by omega)]
/-- the words of orders -/
def oW (K : Nat → Int) (n dn : Nat) (i : Nat) : Int := if i = 0 then K 33 else if i = 1 then K 30 else if i = 2 then K 31 else if i = 3 then (dn : Int) else if i = 4 then K 32 else if i < 15 then (if i - 5 < n then woK K (i - 5) else -1) else if i < 25 then (if i - 15 < n then (if K (i - 15) = 2 then 1 else 0) else -1) else 0
theorem oW_c {dn B : Nat} (h : kOk K n M) (h30 : zcn (K 30)) (h31 : K 31 ≤ (B : Int)) (hB : B < 2000000000) (hd : dn < 1000000) : ∀ i, wr (oW K n dn i) = oW K n dn i := by
  intro i
  have b := kOk_b h
  have w := fun p hp => woK_r h.1.choose_spec.1 (p := p) hp
  unfold oW
  by_cases c0 : i = 0
  · rw [if_pos c0]; exact wr_id (by omega) (by omega)
  · rw [if_neg c0]
    by_cases c1 : i = 1
    · rw [if_pos c1]; exact h30
    · rw [if_neg c1]
      by_cases c2 : i = 2
      · rw [if_pos c2]; exact wr_id (by omega) (by omega)
      · rw [if_neg c2]
        by_cases c3 : i = 3
        · rw [if_pos c3]; exact wr_id (by omega) (by omega)
        · rw [if_neg c3]
          by_cases c4 : i = 4
          · rw [if_pos c4]; exact b.1
          · rw [if_neg c4]
            by_cases c5 : i < 15
            · rw [if_pos c5]
              split
              · rename_i q; have := w _ q; exact wr_id (by omega) (by omega)
              · decide
            · rw [if_neg c5]
              split
              · split
                · split <;> decide
                · decide
              · decide
end
/-! the class: its words, sums of nothing -/
theorem w_solve0 {t c : Nat} {a : Nat} {σ : st_S} {Q : Int → st_S → Prop} (hk : gK σ t = 16) (hQ : ∀ τ, zAb t σ τ → gI τ t 1 = 0 → Q 1 τ) : wp_X0_solve t c (a : Int) (a : Int) σ Q := by
  refine ⟨1, fun _ => ⟨fun _ => ⟨hk, ?_⟩, fun w => absurd (Int.le_refl _) w⟩, fun w => absurd (Int.le_refl _) w⟩
  intro s es
  exact hQ s ⟨by rw [es]; rfl, fun c' j' _ h2 => by rw [es, gI_sI, if_neg h2]⟩ (by rw [es, gI_sI, if_pos ⟨rfl, rfl⟩])
def zWs (σ τ : st_S) : Prop := τ.2 = σ.2 ∧ ∀ c j, c ≠ 54 → gI τ c j = gI σ c j
set_option maxHeartbeats 400000 in
theorem w_setWords {B : Nat} {σ : st_S} {K L : Nat → Int} {m : Int} {n dn : Nat} {M : zM} {Q : st_S → Prop} (h : dC B σ K L m n M) (hQ : ∀ τ, zWs σ τ → (∀ i, i < 25 → gI τ 54 i = oW K n dn i) → Q τ) : wp_X7_setWords (dn : Int) σ Q := by
  have hn := h.1.1.2.2
  have e25 : gI σ 25 0 = (n : Int) := h.1.1.1
  intro s1 e1 s2 e2 s3 e3 s4 e4 s5 e5
  have z5 : zWs σ s5 := ⟨by rw [e5, e4, e3, e2, e1]; rfl, fun c j hc => by rw [e5, gI_sI, if_neg (by omega), e4, gI_sI, if_neg (by omega), e3, gI_sI, if_neg (by omega), e2, gI_sI, if_neg (by omega), e1, gI_sI, if_neg (by omega)]⟩
  have a33 : gI σ 33 0 = K 33 := h.1.2.2.2.2.2.2.2.2.1.1.1
  have a30 : gI σ 25 12 = K 30 := h.2.1.1
  have a31 : gI σ 25 13 = K 31 := h.2.1.2.1.1
  have a32 : gI σ 25 14 = K 32 := h.2.1.2.2
  have f0 : gI s5 54 0 = K 33 := by rw [e5, e4, e3, e2, e1]; simp only [gI_sI, Nat.reduceAdd, Nat.reduceMul, Nat.reduceEqDiff, false_and, true_and, and_false, and_true, reduceIte, Int.toNat_natCast]; exact a33
  have f1 : gI s5 54 1 = K 30 := by rw [e5, e4, e3, e2, e1]; simp only [gI_sI, Nat.reduceAdd, Nat.reduceMul, Nat.reduceEqDiff, false_and, true_and, and_false, and_true, reduceIte, Int.toNat_natCast]; exact a30
  have f2 : gI s5 54 2 = K 31 := by rw [e5, e4, e3, e2, e1]; simp only [gI_sI, Nat.reduceAdd, Nat.reduceMul, Nat.reduceEqDiff, false_and, true_and, and_false, and_true, reduceIte, Int.toNat_natCast]; exact a31
  have f3 : gI s5 54 3 = (dn : Int) := by rw [e5, e4]; simp only [gI_sI, Nat.reduceAdd, Nat.reduceMul, Nat.reduceEqDiff, false_and, true_and, and_false, and_true, reduceIte, Int.toNat_natCast]
  have f4 : gI s5 54 4 = K 32 := by rw [e5, e4, e3, e2, e1]; simp only [gI_sI, Nat.reduceAdd, Nat.reduceMul, Nat.reduceEqDiff, false_and, true_and, and_false, and_true, reduceIte, Int.toNat_natCast]; exact a32
  have key : ∀ d p : Nat, p + d = 10 → ∀ τ, zWs σ τ → (∀ i, i < 5 → gI τ 54 i = oW K n dn i) → (∀ q, q < p → gI τ 54 (5 + q) = oW K n dn (5 + q) ∧ gI τ 54 (15 + q) = oW K n dn (15 + q)) → L_X7_setWords_56 Q (d + 1) (p : Int) τ := by
    intro d
    induction d with
    | zero =>
      intro p hp τ z h5 hq
      refine ⟨fun _ => hQ τ z (fun i hi => ?_), fun w => absurd (by omega) w⟩
      by_cases c5 : i < 5
      · exact h5 i c5
      · by_cases c15 : i < 15
        · have := (hq (i - 5) (by omega)).1
          rw [show 5 + (i - 5) = i by omega] at this
          exact this
        · have := (hq (i - 15) (by omega)).2
          rw [show 15 + (i - 15) = i by omega] at this
          exact this
    | succ d ih =>
      intro p hp τ z h5 hq
      refine ⟨fun w => absurd w (by omega), fun _ => ?_⟩
      have put : ∀ (is v v2 : Int), v = oW K n dn (5 + p) → v2 = oW K n dn (15 + p) → (¬ is = 0 → v2 = if K p = 2 then 1 else 0) → (¬ is = 0 → p < n) → (is = 0 → v2 = -1) → B_X7_setWords_93 Q (L_X7_setWords_56 Q (d + 1)) (p : Int) is v (5 + (p : Int)) τ := by
        intro is v v2 ev ev2 h1 hpn h0
        unfold B_X7_setWords_93
        rw [show (5 + (p : Int)) = ((5 + p : Nat) : Int) by omega, wr_n (by omega), Int.toNat_natCast]
        refine ⟨ixn (by omega), ?_⟩
        intro s es
        have end2 : ∀ w : Int, w = v2 → B_X7_setWords_126 Q (L_X7_setWords_56 Q (d + 1)) (p : Int) w (15 + (p : Int)) s := by
          intro w ew
          unfold B_X7_setWords_126
          rw [show (15 + (p : Int)) = ((15 + p : Nat) : Int) by omega, wr_n (by omega), Int.toNat_natCast]
          refine ⟨ixn (by omega), ?_⟩
          intro s' es' x ex
          rw [wks (by omega)] at ex
          subst ex
          have f : ∀ c j, ¬ (c = 54 ∧ (j = 5 + p ∨ j = 15 + p)) → gI s' c j = gI τ c j := fun c j q => by rw [es', gI_sI, if_neg (by omega), es, gI_sI, if_neg (by omega)]
          refine ih (p + 1) (by omega) s' ⟨by rw [es', es]; exact z.1, fun c j hc => by rw [f c j (by omega)]; exact z.2 c j hc⟩ (fun i hi => by rw [f 54 i (by omega)]; exact h5 i hi) (fun q hq' => ?_)
          by_cases eq : q = p
          · subst eq
            refine ⟨?_, ?_⟩
            · rw [es', gI_sI, if_neg (by omega), es, gI_sI, if_pos ⟨rfl, rfl⟩]; exact ev
            · rw [es', gI_sI, if_pos ⟨rfl, rfl⟩, ew]; exact ev2
          · rw [f 54 _ (by omega), f 54 _ (by omega)]
            exact hq q (by omega)
        refine ⟨fun w => ⟨ixn (by omega), ?_⟩, fun w => end2 _ (h0 w).symm⟩
        have e29 : gI s 29 p = K p := by rw [es, gI_sI, if_neg (by omega), z.2 _ _ (by decide)]; exact (h.1.2.2.2.2.1 p (hpn w)).1
        rw [Int.toNat_natCast, e29]
        refine ⟨fun c => end2 0 ?_, fun c => end2 1 ?_⟩
        · rw [h1 w, if_neg c]
        · rw [h1 w, if_pos c]
      have o5 : oW K n dn (5 + p) = if p < n then woK K p else -1 := by
        unfold oW
        rw [if_neg (by omega), if_neg (by omega), if_neg (by omega), if_neg (by omega), if_neg (by omega), if_pos (by omega), show 5 + p - 5 = p by omega]
      have o15 : oW K n dn (15 + p) = if p < n then (if K p = 2 then 1 else 0) else -1 := by
        unfold oW
        rw [if_neg (by omega), if_neg (by omega), if_neg (by omega), if_neg (by omega), if_neg (by omega), if_neg (by omega), if_pos (by omega), show 15 + p - 15 = p by omega]
      refine w_has hn (by rw [z.2 _ _ (by decide)]; exact e25) (fun q => ⟨fun w => absurd w (by decide), fun _ => ?_⟩) (fun q => ⟨fun _ => put 0 (-1) (-1) (by rw [o5, if_neg (by omega)]) (by rw [o15, if_neg (by omega)]) (fun w => absurd rfl w) (fun w => absurd rfl w) (fun _ => rfl), fun w => absurd rfl w⟩)
      have pn : p < n := by omega
      have hcx : cxC τ K n M := by
        obtain ⟨g1, g2, g3, g4, g5, g6, g7, g8, g9, gf, gj⟩ := h.1
        have zI : ∀ c j, c ≠ 54 → gI τ c j = gI σ c j := z.2
        refine ⟨zC1_of g1 (zI _ _ (by decide)) rfl, zC2_of g2 (fun p _ => zI _ _ (by decide)) (fun _ _ _ => rfl), zC3_of g3 (fun p _ => zI _ _ (by decide)) (fun _ _ _ => rfl), zC4_of g4 (fun p _ => zI _ _ (by decide)) (fun _ _ _ => rfl), zC5_of g5 (fun p _ => zI _ _ (by decide)) (fun _ _ => rfl), zC6_of g6 (fun p _ => zI _ _ (by decide)) (fun _ _ => rfl) (fun _ _ _ => rfl), zC7_of g7 (fun p _ => zI _ _ (by decide)) (fun _ _ _ => rfl), zC8_of g8 (fun p => zI _ _ (by decide)) (fun _ _ _ => rfl), zC9_of g9 (fun p => zI _ _ (by decide)) (fun _ _ => rfl), fMc_R gf (by rw [z.1]) (fun c j _ => by unfold gR; rw [z.1]) (fun c j hc => zI _ _ (by omega)), ?_⟩
        unfold zJk gK gL at *
        rw [z.1]
        exact gj
      exact w_kw hcx pn (put 1 _ _ (by rw [o5, if_pos pn]) rfl (fun _ => by rw [o15, if_pos pn]) (fun _ => pn) (fun w => absurd w (by decide)))
  refine ⟨11, key 10 0 (by omega) s5 z5 (fun i hi => ?_) (fun q hq => absurd hq (Nat.not_lt_zero _))⟩
  rcases (by omega : i = 0 ∨ i = 1 ∨ i = 2 ∨ i = 3 ∨ i = 4) with w | w | w | w | w <;> subst w
  · exact f0
  · exact f1
  · exact f2
  · exact f3
  · exact f4
