/-! rows written over; fog, talk, terms, undo -/
def sW (σ : st_S) (c o n : Nat) (f : Nat → Int) : st_S := sF σ c (fun j => if o ≤ j ∧ j < o + n then f (j - o) else gI σ c j)
theorem gI_sW (σ : st_S) (c o n : Nat) (f : Nat → Int) (c' j' : Nat) : gI (sW σ c o n f) c' j' = if c' = c then (if o ≤ j' ∧ j' < o + n then f (j' - o) else gI σ c j') else gI σ c' j' := rfl
theorem gI_sWn (σ : st_S) (c o n : Nat) (f : Nat → Int) {c' j' : Nat} (h : c' ≠ c ∨ j' < o ∨ o + n ≤ j') : gI (sW σ c o n f) c' j' = gI σ c' j' := by
  rw [gI_sW]
  by_cases e : c' = c
  · subst e
    rw [if_pos rfl, if_neg (by omega)]
  · rw [if_neg e]
theorem gI_sWy (σ : st_S) (c o n : Nat) (f : Nat → Int) {j : Nat} (h : j < n) : gI (sW σ c o n f) c (o + j) = f j := by
  rw [gI_sW, if_pos rfl, if_pos (by omega), Nat.add_sub_cancel_left]
theorem sW_zero (σ : st_S) (c o : Nat) (f : Nat → Int) : sW σ c o 0 f = σ := Prod.ext (funext fun c' => funext fun j' => by
  show gI (sW _ _ _ _ _) c' j' = gI σ c' j'
  exact gI_sWn _ _ _ _ _ (by omega)) rfl
theorem sW_step (σ : st_S) (c o n : Nat) (f : Nat → Int) : sI (sW σ c o n f) c (o + n) (f n) = sW σ c o (n + 1) f := Prod.ext (funext fun c' => funext fun j' => by
  show gI (sI _ _ _ _) c' j' = gI (sW _ _ _ _ _) c' j'
  rw [gI_sI, gI_sW, gI_sW]
  by_cases h1 : c' = c
  · subst h1
    rw [if_pos rfl, if_pos rfl]
    by_cases h2 : j' = o + n
    · subst h2
      rw [if_pos ⟨rfl, rfl⟩, if_pos (by omega), Nat.add_sub_cancel_left]
    · rw [if_neg (fun z => h2 z.2)]
      by_cases h3 : o ≤ j' ∧ j' < o + n
      · rw [if_pos h3, if_pos (by omega)]
      · rw [if_neg h3, if_neg (by omega)]
  · rw [if_neg (fun z => h1 z.1), if_neg h1, if_neg h1]) rfl
set_option maxHeartbeats 100000 in
theorem st_fog {B : Nat} {σc σm : st_S} (h : zInv B σc σm) (a1 a2 : Int) : wp_X10_fog a1 a2 σc (fun r τ => wp_X11_fog a1 a2 σm (fun r2 υ => r = r2 ∧ zInv B τ υ)) := by
  have h0 := h
  obtain ⟨⟨⟨n, c1, c2, c3, c4, c5, c6, c7, c8, c9, ca, cb⟩, hlog, himg, htp, hwd, hsc⟩, hst, hrr⟩ := h
  have no : ¬ ((0 ≤ a1 ∧ a1 ≤ 99) ∧ (0 ≤ a2 ∧ a2 ≤ 1)) → B_X10_fog_19 (fun r τ => wp_X11_fog a1 a2 σm (fun r2 υ => r = r2 ∧ zInv B τ υ)) σc := by
    intro hb
    refine w_refuse 1 (by decide) rfl ?_
    refine m_lies (fun q1 => ⟨fun z => absurd z (by decide), fun _ => m_lies (fun q2 => absurd ⟨q1, q2⟩ hb) (fun _ => ⟨fun z => absurd rfl z, fun _ => ?_⟩)⟩) (fun _ => ⟨fun _ => ?_, fun z => absurd rfl z⟩)
    · exact m_refuses 1 (by decide) rfl ⟨rfl, inv_no (by decide) h0⟩
    · exact m_refuses 1 (by decide) rfl ⟨rfl, inv_no (by decide) h0⟩
  refine ⟨fun q => no (by omega), fun q1 => ⟨fun q => no (by omega), fun q2 => ⟨fun q => no (by omega), fun q3 => ⟨fun q4 => ⟨⟨by omega, by omega⟩, ?_⟩, fun q => no (by omega)⟩⟩⟩⟩
  obtain ⟨d, rfl⟩ : ∃ d : Nat, a1 = (d : Int) := ⟨a1.toNat, by omega⟩
  have hd : d < 100 := by omega
  rintro x rfl
  refine ⟨⟨by omega, by omega⟩, ?_⟩
  rintro s rfl
  refine w_accept ?_
  unfold wp_X11_fog
  rw [wk154 (by omega)]
  refine m_lies (fun _ => ⟨fun z => absurd z (by decide), fun _ => m_lies (fun _ => ⟨fun _ => ⟨ixn (by omega), ?_⟩, fun z => absurd z (by decide)⟩) (fun z => absurd (by omega) z)⟩) (fun z => absurd (by omega) z)
  rintro x rfl
  refine ⟨ixn (by omega), ?_⟩
  rintro s rfl
  refine m_good ⟨(c8 d hd).1, ?_⟩
  refine inv_ok ⟨⟨n, ?_, ?_, ?_, ?_, ?_, ?_, ?_, ?_, ?_, ?_, ?_⟩, ?_, ?_, ?_, ?_, ?_⟩ hst.2 hrr
  · exact zC1_of c1 rfl (by simp only [gI_sI, Nat.reduceAdd, Nat.reduceMul, Nat.reduceEqDiff, false_and, true_and, and_false, and_true, reduceIte, Int.toNat_natCast]; omega)
  · exact zC2_of c2 (fun _ _ => rfl) (fun i h1 h2 => by have := c1.2.2; simp only [gI_sI, Nat.reduceAdd, Nat.reduceMul, Nat.reduceEqDiff, false_and, true_and, and_false, and_true, reduceIte, Int.toNat_natCast]; omega)
  · exact zC3_of c3 (fun _ _ => rfl) (fun i h1 h2 => by have := c1.2.2; simp only [gI_sI, Nat.reduceAdd, Nat.reduceMul, Nat.reduceEqDiff, false_and, true_and, and_false, and_true, reduceIte, Int.toNat_natCast]; omega)
  · exact zC4_of c4 (fun _ _ => rfl) (fun i h1 h2 => by have := c1.2.2; simp only [gI_sI, Nat.reduceAdd, Nat.reduceMul, Nat.reduceEqDiff, false_and, true_and, and_false, and_true, reduceIte, Int.toNat_natCast]; omega)
  · exact zC5_of c5 (fun _ _ => rfl) (fun i h1 => by have := c1.2.2; simp only [gI_sI, Nat.reduceAdd, Nat.reduceMul, Nat.reduceEqDiff, false_and, true_and, and_false, and_true, reduceIte, Int.toNat_natCast]; omega)
  · exact zC6_of c6 (fun _ _ => rfl) (fun i h1 => by have := c1.2.2; simp only [gI_sI, Nat.reduceAdd, Nat.reduceMul, Nat.reduceEqDiff, false_and, true_and, and_false, and_true, reduceIte, Int.toNat_natCast]; omega) (fun i h1 h2 => by have := c1.2.2; simp only [gI_sI, Nat.reduceAdd, Nat.reduceMul, Nat.reduceEqDiff, false_and, true_and, and_false, and_true, reduceIte, Int.toNat_natCast]; omega)
  · exact zC7_of c7 (fun _ _ => rfl) (fun i h1 h2 => by simp only [gI_sI, Int.toNat_natCast]; repeat rw [if_neg (by omega)])
  · intro e he
    have o := c8 e he
    simp only [gI_sI, Nat.reduceAdd, Nat.reduceMul, Nat.reduceEqDiff, false_and, true_and, and_false, and_true, reduceIte, Int.toNat_natCast] at o ⊢
    omega
  · exact zC9_of c9 (fun p => rfl) (fun i h1 => by simp only [gI_sI, Int.toNat_natCast]; repeat rw [if_neg (by omega)])
  · exact zCa_of ca (fun j => Or.inl rfl) (fun i h1 h2 => by simp only [gI_sI, Int.toNat_natCast]; repeat rw [if_neg (by omega)])
  · have hf : -1 ≤ gI σm 2 258 ∧ gI σm 2 258 < gI σm 2 257 ∧ gI σc 25 11 = gI σm 2 258 := by
      obtain ⟨m, b1, b2, b3, b4, b5, b6, -⟩ := cb
      omega
    refine zCb_of cb rfl ⟨?_, ?_, ?_⟩ (fun j => rfl) (fun d hd j => by simp only [gI_sI, Int.toNat_natCast]; repeat rw [if_neg (by omega)]) rfl (fun i hi => by simp only [gI_sI, Int.toNat_natCast]; repeat rw [if_neg (by omega)])
    · simp only [gI_sI, Nat.reduceAdd, Nat.reduceMul, Nat.reduceEqDiff, false_and, true_and, and_false, and_true, reduceIte, Int.toNat_natCast]; omega
    · simp only [gI_sI, Nat.reduceAdd, Nat.reduceMul, Nat.reduceEqDiff, false_and, true_and, and_false, and_true, reduceIte, Int.toNat_natCast]; omega
    · simp only [gI_sI, Nat.reduceAdd, Nat.reduceMul, Nat.reduceEqDiff, false_and, true_and, and_false, and_true, reduceIte, Int.toNat_natCast]; omega
  · obtain ⟨n, l1, m, o, l2⟩ := hlog
    exact ⟨n, by simp only [gI_sI, Nat.reduceAdd, Nat.reduceMul, Nat.reduceEqDiff, false_and, true_and, and_false, and_true, reduceIte, Int.toNat_natCast]; omega, m, o, l2⟩
  · exact zImg_of himg rfl (fun _ _ _ => rfl) (fun c hc j => by simp only [gI_sI, Int.toNat_natCast]; repeat rw [if_neg (by omega)]) (fun c j hc => by simp only [gI_sI, Int.toNat_natCast]; repeat rw [if_neg (by omega)])
  · exact zTp_of htp (fun c j hc => by simp only [gI_sI, Int.toNat_natCast]; repeat rw [if_neg (by omega)]) (fun c j hc => by simp only [gI_sI, Int.toNat_natCast]; repeat rw [if_neg (by omega)])
  · exact zWd_of hwd (fun j => by simp only [gI_sI, Int.toNat_natCast]; repeat rw [if_neg (by omega)])
  · exact zSc_of hsc (fun c j hc => by simp only [gI_sI, Int.toNat_natCast]; repeat rw [if_neg (by omega)]) (fun c j hc => by simp only [gI_sI, Int.toNat_natCast]; repeat rw [if_neg (by omega)])
theorem bit_1 {q i : Nat} : (1 <<< q).testBit i = decide (q = i) := by rw [Nat.one_shiftLeft, Nat.testBit_two_pow]
theorem shl1_lt {q : Nat} (h : q < 10) : 1 <<< q < 1024 := by
  rw [Nat.one_shiftLeft]
  exact Nat.pow_lt_pow_right (by decide) h
theorem o_shl1 {q : Nat} (h : q < 31) : o_shl 1 (q : Int) = ((1 <<< q : Nat) : Int) := by
  have := n_shl (a := 1) (k := q) h (by rw [Nat.one_mul]; exact Nat.pow_lt_pow_right (by decide) h)
  exact this
theorem w_talks {p q f : Nat} {σ : st_S} {Q : Int → st_S → Prop} (hp : p < 10) (hq : q < 10) (hf : f < 1024) (e : gI σ 31 p = (f : Int)) (hQ : Q (if f.testBit q then 1 else 0) σ) : wp_X1_talks (p : Int) (q : Int) σ Q := by
  have hb : o_and (o_shr (gI σ 31 p) (q : Int)) 1 = if f.testBit q then 1 else 0 := by rw [e]; exact n_bit (by omega) (by omega)
  refine ⟨ixn hp, fun z => ?_, fun z => ?_⟩
  · replace z : o_and (o_shr (gI σ 31 p) (q : Int)) 1 = 0 := z
    rw [hb] at z
    cases hx : f.testBit q
    · rw [hx] at hQ; exact ⟨Or.inl rfl, hQ⟩
    · rw [hx] at z; exact absurd z (by decide)
  · replace z : ¬ o_and (o_shr (gI σ 31 p) (q : Int)) 1 = 0 := z
    rw [hb] at z
    cases hx : f.testBit q
    · rw [hx] at z; exact absurd rfl z
    · rw [hx] at hQ; exact ⟨Or.inr rfl, hQ⟩
theorem m_doTalk {p q : Nat} {σ : st_S} {Q : Int → st_S → Prop} (hp : p < 10) (hq : q < 10) (hQ : Q (if gI σ 2 (54 + 10 * p + q) = 1 then 1 else 0) σ) : wp_X11_doTalk (p : Int) (q : Int) σ Q := by
  unfold wp_X11_doTalk
  rw [wk54 (by omega) (by omega)]
  refine ⟨ixn (by omega), fun z => ?_, fun z => ?_⟩
  · replace z : ¬ gI σ 2 (54 + 10 * p + q) = 1 := z
    rw [if_neg z] at hQ
    exact ⟨Or.inl rfl, hQ⟩
  · replace z : gI σ 2 (54 + 10 * p + q) = 1 := z
    rw [if_pos z] at hQ
    exact ⟨Or.inr rfl, hQ⟩
set_option maxHeartbeats 100000 in
theorem st_talk {B : Nat} {σc σm : st_S} (h : zInv B σc σm) (a1 a2 a3 : Int) : wp_X10_talk a1 a2 a3 σc (fun r τ => wp_X11_talk a1 a2 a3 σm (fun r2 υ => r = r2 ∧ zInv B τ υ)) := by
  have h0 := h
  obtain ⟨⟨⟨n, c1, c2, c3, c4, c5, c6, c7, c8, c9, ca, cb⟩, hlog, himg, htp, hwd, hsc⟩, hst, hrr⟩ := h
  obtain ⟨c11, c12, c13⟩ := c1
  have no1 : a1 = a2 ∨ ¬ (0 ≤ a3 ∧ a3 ≤ 1) → B_X10_talk_14 (fun r τ => wp_X11_talk a1 a2 a3 σm (fun r2 υ => r = r2 ∧ zInv B τ υ)) σc := by
    intro hb
    refine w_refuse 1 (by decide) rfl ⟨fun _ => ?_, fun e => ?_⟩
    · exact m_refuses 1 (by decide) rfl ⟨rfl, inv_no (by decide) h0⟩
    · exact m_lies (fun q => absurd hb (by omega)) (fun _ => ⟨fun z => absurd rfl z, fun _ => m_refuses 1 (by decide) rfl ⟨rfl, inv_no (by decide) h0⟩⟩)
  refine ⟨fun q => no1 (Or.inl q), fun q1 => ⟨fun q => no1 (Or.inr (by omega)), fun q2 => ⟨fun q3 => ?_, fun q => no1 (Or.inr (by omega))⟩⟩⟩
  have no2 : ¬ ((0 ≤ a1 ∧ a1 < (n : Int)) ∧ (0 ≤ a2 ∧ a2 < (n : Int))) → B_X10_talk_42 (fun r τ => wp_X11_talk a1 a2 a3 σm (fun r2 υ => r = r2 ∧ zInv B τ υ)) σc := by
    intro hb
    refine w_refuse 2 (by decide) rfl ⟨fun z => absurd z q1, fun _ => m_lies (fun _ => ⟨fun _ => ?_, fun z => absurd z (by decide)⟩) (fun z => absurd (by omega) z)⟩
    refine m_isPerson c13 c12 (fun p1 => ⟨fun z => absurd z (by decide), fun _ => m_isPerson c13 c12 (fun p2 => absurd ⟨p1, p2⟩ hb) (fun _ => ⟨fun z => absurd rfl z, fun _ => ?_⟩)⟩) (fun _ => ⟨fun _ => ?_, fun z => absurd rfl z⟩)
    · exact m_refuses 2 (by decide) rfl ⟨rfl, inv_no (by decide) h0⟩
    · exact m_refuses 2 (by decide) rfl ⟨rfl, inv_no (by decide) h0⟩
  refine w_has c13 c11 (fun hp => ⟨fun z => absurd z (by decide), fun _ => w_has c13 c11 (fun hp2 => ⟨fun _ => ⟨⟨by omega, by omega⟩, ?_⟩, fun z => absurd z (by decide)⟩) (fun hp2 => ⟨fun z => absurd rfl z, fun _ => no2 (fun z => hp2 z.2)⟩)⟩) (fun hp => ⟨fun _ => no2 (fun z => hp z.1), fun z => absurd rfl z⟩)
  obtain ⟨p, rfl⟩ : ∃ p : Nat, a1 = (p : Int) := ⟨a1.toNat, by omega⟩
  obtain ⟨q, rfl⟩ : ∃ q : Nat, a2 = (q : Int) := ⟨a2.toNat, by omega⟩
  obtain ⟨b, hb2, rfl⟩ : ∃ b : Bool, True ∧ a3 = (if b then 1 else 0) := by
    by_cases e : a3 = 0
    · exact ⟨false, trivial, e⟩
    · exact ⟨true, trivial, by show a3 = 1; omega⟩
  have hpn : p < n := by omega
  have hqn : q < n := by omega
  have hpq : p ≠ q := by omega
  obtain ⟨f, f1, f2, f3⟩ := c7 p (by omega)
  obtain ⟨g, g1, g2, g3⟩ := c7 q (by omega)
  have f2' : gI σc 31 p = (f : Int) := f2 hpn
  have g2' : gI σc 31 q = (g : Int) := g2 hqn
  have fq := f3 q (by omega)
  have gp := g3 p (by omega)
  have hfg : f.testBit q = g.testBit p := by
    have e1 := fq.1
    have e2 := gp.1
    have e3 := fq.2.1
    rw [e1, e2] at e3
    cases hx : f.testBit q <;> cases hy : g.testBit p <;> rw [hx, hy] at e3 <;> simp at e3 <;> rfl
  have hbit : o_and (o_shr (gI σc 31 p) (q : Int)) 1 = if f.testBit q then 1 else 0 := by rw [f2']; exact n_bit (by omega) (by omega)
  rintro x ex
  replace ex : x = if f.testBit q then 1 else 0 := ex.trans hbit
  -- behind both: the bits are as told
  have fin : ∀ τ : st_S, τ.2 = σc.2 → (∀ c j, c ≠ 31 → gI τ c j = gI σc c j) → (∃ f' g' : Nat, f' < 1024 ∧ g' < 1024 ∧ gI τ 31 p = (f' : Int) ∧ gI τ 31 q = (g' : Int) ∧ (∀ i, i < 10 → f'.testBit i = if i = q then b else f.testBit i) ∧ (∀ i, i < 10 → g'.testBit i = if i = p then b else g.testBit i)) → (∀ i, i ≠ p → i ≠ q → gI τ 31 i = gI σc 31 i) →
      wp_X10_accept x τ (fun r τ => wp_X11_talk (p : Int) (q : Int) (if b then 1 else 0) σm (fun r2 υ => r = r2 ∧ zInv B τ υ)) := by
    rintro τ et hI ⟨f', g', k1, k2, k3, k4, k5, k6⟩ ho
    refine w_accept ⟨fun z => absurd z q1, fun _ => ?_⟩
    refine m_lies (fun _ => ⟨fun _ => ?_, fun z => absurd z (by decide)⟩) (fun z => absurd (by omega) z)
    refine m_isPerson c13 c12 (fun _ => ⟨fun z => absurd z (by decide), fun _ => m_isPerson c13 c12 (fun _ => ⟨fun _ => ?_, fun z => absurd z (by decide)⟩) (fun z => absurd hp2 z)⟩) (fun z => absurd hp z)
    rw [wk54 (p := p) (q := q) (by omega) (by omega), wk54 (p := q) (q := p) (by omega) (by omega)]
    refine ⟨ixn (by omega), ?_⟩
    rintro y rfl
    refine ⟨ixn (by omega), ?_⟩
    rintro s rfl
    refine ⟨ixn (by omega), ?_⟩
    rintro s rfl
    refine m_good ⟨ex.trans fq.1.symm, ?_⟩
    have e22 : τ.2.2 = σc.2.2 := by rw [et]
    have eR : ∀ c j, gR τ c j = gR σc c j := fun c j => by unfold gR; rw [et]
    refine inv_ok ⟨⟨n, ?_, ?_, ?_, ?_, ?_, ?_, ?_, ?_, ?_, ?_, ?_⟩, ?_, ?_, ?_, ?_, ?_⟩ ?_ ?_
    · exact zC1_of ⟨c11, c12, c13⟩ (hI _ _ (by decide)) (by simp only [gI_sI, Nat.reduceAdd, Nat.reduceMul, Nat.reduceEqDiff, false_and, true_and, and_false, and_true, reduceIte, Int.toNat_natCast]; omega)
    · exact zC2_of c2 (fun _ _ => hI _ _ (by decide)) (fun i h1 h2 => by simp only [gI_sI, Int.toNat_natCast]; repeat rw [if_neg (by omega)])
    · exact zC3_of c3 (fun _ _ => hI _ _ (by decide)) (fun i h1 h2 => by simp only [gI_sI, Int.toNat_natCast]; repeat rw [if_neg (by omega)])
    · exact zC4_of c4 (fun _ _ => hI _ _ (by decide)) (fun i h1 h2 => by simp only [gI_sI, Int.toNat_natCast]; repeat rw [if_neg (by omega)])
    · exact zC5_of c5 (fun _ _ => hI _ _ (by decide)) (fun i h1 => by simp only [gI_sI, Int.toNat_natCast]; repeat rw [if_neg (by omega)])
    · exact zC6_of c6 (fun _ _ => hI _ _ (by decide)) (fun i h1 => by simp only [gI_sI, Int.toNat_natCast]; repeat rw [if_neg (by omega)]) (fun i h1 h2 => by simp only [gI_sI, Int.toNat_natCast]; repeat rw [if_neg (by omega)])
    · have hk1 : gI (sI (sI σm 2 (Int.toNat ((54 + 10 * p + q : Nat) : Int)) (if b then 1 else 0)) 2 (Int.toNat ((54 + 10 * q + p : Nat) : Int)) (if b then 1 else 0)) 2 (54 + 10 * p + q) = (if b then 1 else 0) := by
        rw [gI_sI, Int.toNat_natCast, Int.toNat_natCast, if_neg (by omega), gI_sI, if_pos ⟨rfl, rfl⟩]
      have hk2 : gI (sI (sI σm 2 (Int.toNat ((54 + 10 * p + q : Nat) : Int)) (if b then 1 else 0)) 2 (Int.toNat ((54 + 10 * q + p : Nat) : Int)) (if b then 1 else 0)) 2 (54 + 10 * q + p) = (if b then 1 else 0) := by
        rw [gI_sI, Int.toNat_natCast, Int.toNat_natCast, if_pos ⟨rfl, rfl⟩]
      have hk3 : ∀ i, i ≠ 54 + 10 * p + q → i ≠ 54 + 10 * q + p → gI (sI (sI σm 2 (Int.toNat ((54 + 10 * p + q : Nat) : Int)) (if b then 1 else 0)) 2 (Int.toNat ((54 + 10 * q + p : Nat) : Int)) (if b then 1 else 0)) 2 i = gI σm 2 i := by
        intro i i1 i2
        rw [gI_sI, Int.toNat_natCast, Int.toNat_natCast, if_neg (fun z => i2 z.2), gI_sI, if_neg (fun z => i1 z.2)]
      generalize gI (sI (sI σm 2 (Int.toNat ((54 + 10 * p + q : Nat) : Int)) (if b then 1 else 0)) 2 (Int.toNat ((54 + 10 * q + p : Nat) : Int)) (if b then 1 else 0)) 2 = K at hk1 hk2 hk3 ⊢
      intro u hu
      obtain ⟨fu, u1, u2, u3⟩ := c7 u hu
      by_cases eu : u = p
      · subst eu
        refine ⟨f', k1, fun _ => k3, fun v hv => ?_⟩
        have o := f3 v hv
        have k := k5 v hv
        by_cases ev : v = q
        · subst ev
          rw [if_pos rfl] at k
          rw [k, hk1, hk2]
          exact ⟨rfl, rfl, fun _ => ⟨hpn, hqn, hpq⟩⟩
        · rw [if_neg ev] at k
          rw [k, hk3 _ (by omega) (by omega), hk3 _ (by omega) (by omega)]
          exact o
      · by_cases eu2 : u = q
        · subst eu2
          refine ⟨g', k2, fun _ => k4, fun v hv => ?_⟩
          have o := g3 v hv
          have k := k6 v hv
          by_cases ev : v = p
          · subst ev
            rw [if_pos rfl] at k
            rw [k, hk1, hk2]
            exact ⟨rfl, rfl, fun _ => ⟨hqn, hpn, fun z => hpq z.symm⟩⟩
          · rw [if_neg ev] at k
            rw [k, hk3 _ (by omega) (by omega), hk3 _ (by omega) (by omega)]
            exact o
        · refine ⟨fu, u1, fun z => by show gI τ 31 u = _; rw [ho u eu eu2]; exact u2 z, fun v hv => ?_⟩
          rw [hk3 _ (by omega) (by omega), hk3 _ (by omega) (by omega)]
          exact u3 v hv
    · exact zC8_of c8 (fun p => hI _ _ (by decide)) (fun i h1 h2 => by simp only [gI_sI, Int.toNat_natCast]; repeat rw [if_neg (by omega)])
    · exact zC9_of c9 (fun p => hI _ _ (by decide)) (fun i h1 => by simp only [gI_sI, Int.toNat_natCast]; repeat rw [if_neg (by omega)])
    · exact zCa_of ca (fun j => Or.inl (hI _ _ (by decide))) (fun i h1 h2 => by simp only [gI_sI, Int.toNat_natCast]; repeat rw [if_neg (by omega)])
    · have hf : -1 ≤ gI σm 2 258 ∧ gI σm 2 258 < gI σm 2 257 ∧ gI σc 25 11 = gI σm 2 258 := by
        obtain ⟨m, b1, b2, b3, b4, b5, b6, -⟩ := cb
        omega
      refine zCb_of cb (hI _ _ (by decide)) ⟨?_, ?_, ?_⟩ (fun j => eR _ _) (fun d hd j => hI _ _ (by omega)) e22 (fun i hi => by simp only [gI_sI, Int.toNat_natCast]; repeat rw [if_neg (by omega)])
      · rw [hI _ _ (by decide)]; simp only [gI_sI, Nat.reduceAdd, Nat.reduceMul, Nat.reduceEqDiff, false_and, true_and, and_false, and_true, reduceIte, Int.toNat_natCast]; omega
      · simp only [gI_sI, Nat.reduceAdd, Nat.reduceMul, Nat.reduceEqDiff, false_and, true_and, and_false, and_true, reduceIte, Int.toNat_natCast]; omega
      · simp only [gI_sI, Nat.reduceAdd, Nat.reduceMul, Nat.reduceEqDiff, false_and, true_and, and_false, and_true, reduceIte, Int.toNat_natCast]; omega
    · obtain ⟨n, l1, m, o, l2, l3, l4, l5, l6, l7⟩ := hlog
      refine ⟨n, by simp only [gI_sI, Nat.reduceAdd, Nat.reduceMul, Nat.reduceEqDiff, false_and, true_and, and_false, and_true, reduceIte, Int.toNat_natCast]; omega, m, o, ?_, l3, l4, ?_, l6, ?_⟩
      · rw [hI _ _ (by decide)]; exact l2
      · rw [hI _ _ (by decide)]; exact l5
      · intro i hi
        have := l7 i hi
        have e : (fun j => gI τ (39 + 1) ((o + i) % 16 * 35 + j)) = (fun j => gI σc (39 + 1) ((o + i) % 16 * 35 + j)) := funext fun j => hI _ _ (by decide)
        rw [e]
        exact this
    · exact zImg_of himg e22 (fun _ _ _ => eR _ _) (fun c hc j => hI _ _ (by omega)) (fun c j hc => by simp only [gI_sI, Int.toNat_natCast]; repeat rw [if_neg (by omega)])
    · exact zTp_of htp (fun c j hc => hI _ _ (by omega)) (fun c j hc => by simp only [gI_sI, Int.toNat_natCast]; repeat rw [if_neg (by omega)])
    · exact zWd_of hwd (fun j => by simp only [gI_sI, Int.toNat_natCast]; repeat rw [if_neg (by omega)])
    · exact zSc_of hsc (fun c j hc => hI _ _ (by omega)) (fun c j hc => by simp only [gI_sI, Int.toNat_natCast]; repeat rw [if_neg (by omega)])
    · intro k hk
      rw [hI _ _ (by decide)]
      exact hst.2 k hk
    · unfold zRr
      rw [eR, eR]
      exact hrr
  refine ⟨fun e => ?_, fun e => ⟨⟨by omega, by omega⟩, ⟨by omega, by omega⟩, ?_⟩⟩
  · have eb : f.testBit q = b := by
      rw [ex] at e
      cases hx : f.testBit q <;> cases b <;> rw [hx] at e <;> simp at e <;> rfl
    refine fin σc rfl (fun _ _ _ => rfl) ⟨f, g, f1, g1, f2', g2', fun i _ => ?_, fun i _ => ?_⟩ (fun _ _ _ => rfl)
    · by_cases z : i = q
      · subst z; rw [if_pos rfl]; exact eb
      · rw [if_neg z]
    · by_cases z : i = p
      · subst z; rw [if_pos rfl, ← hfg]; exact eb
      · rw [if_neg z]
  · have eb : f.testBit q = !b := by
      rw [ex] at e
      cases hx : f.testBit q <;> cases b <;> rw [hx] at e <;> simp at e <;> rfl
    rintro s es
    have v1 : o_xor (gI σc 31 p) (o_shl 1 (q : Int)) = ((f ^^^ (1 <<< q) : Nat) : Int) := by
      rw [f2', o_shl1 (by omega)]
      exact n_xor (by omega) (by have := shl1_lt (q := q) (by omega); omega)
    replace es : s = sI σc 31 p ((f ^^^ (1 <<< q) : Nat) : Int) := by rw [← v1]; exact es
    refine ⟨⟨by omega, by omega⟩, ⟨by omega, by omega⟩, ?_⟩
    rintro s2 es2
    have g3' : gI s 31 q = (g : Int) := by
      rw [es, gI_sI, if_neg (fun z => hpq z.2.symm)]
      exact g2'
    have v2 : o_xor (gI s 31 q) (o_shl 1 (p : Int)) = ((g ^^^ (1 <<< p) : Nat) : Int) := by
      rw [g3', o_shl1 (by omega)]
      exact n_xor (by omega) (by have := shl1_lt (q := p) (by omega); omega)
    replace es2 : s2 = sI s 31 q ((g ^^^ (1 <<< p) : Nat) : Int) := by rw [← v2]; exact es2
    subst es2
    subst es
    refine fin _ rfl (fun c j hc => ?_) ⟨f ^^^ (1 <<< q), g ^^^ (1 <<< p), ?_, ?_, ?_, ?_, fun i _ => ?_, fun i _ => ?_⟩ (fun i h1 h2 => ?_)
    · rw [gI_sI, if_neg (fun z => hc z.1), gI_sI, if_neg (fun z => hc z.1)]
    · exact Nat.xor_lt_two_pow (n := 10) f1 (shl1_lt (by omega))
    · exact Nat.xor_lt_two_pow (n := 10) g1 (shl1_lt (by omega))
    · rw [gI_sI, if_neg (fun z => hpq z.2), gI_sI, if_pos ⟨rfl, rfl⟩]
    · rw [gI_sI, if_pos ⟨rfl, rfl⟩]
    · rw [Nat.testBit_xor, bit_1]
      by_cases z : i = q
      · subst z; rw [if_pos rfl, eb]; simp
      · rw [if_neg z]; simp [show ¬ q = i from fun y => z y.symm]
    · rw [Nat.testBit_xor, bit_1]
      by_cases z : i = p
      · subst z; rw [if_pos rfl, ← hfg, eb]; simp
      · rw [if_neg z]; simp [show ¬ p = i from fun y => z y.symm]
    · rw [gI_sI, if_neg (fun z => h2 z.2), gI_sI, if_neg (fun z => h1 z.2)]
