theorem tb_big {f i : Nat} (h : f < 1024) (hi : 10 ≤ i) : f.testBit i = false := Nat.testBit_lt_two_pow (Nat.lt_of_lt_of_le (show f < 2 ^ 10 from h) (Nat.pow_le_pow_right (by decide) hi))
set_option maxHeartbeats 100000 in
theorem st_person {B : Nat} {σc σm : st_S} (h : zInv B σc σm) (a1 a2 : Int) : wp_X10_person a1 a2 σc (fun r τ => wp_X11_person a1 a2 σm (fun r2 υ => r = r2 ∧ zInv B τ υ)) := by
  have h0 := h
  obtain ⟨⟨⟨n, c1, c2, c3, c4, c5, c6, c7, c8, c9, ca, cb⟩, hlog, himg, htp, hwd, hsc⟩, hst, hrr⟩ := h
  have c11 := c1.1
  have c12 := c1.2.1
  refine w_canBe (fun hb => ⟨fun _ => ⟨fun hlt => ?_, fun hge => ?_⟩, fun z => absurd z (by decide)⟩) (fun hb => ⟨fun z => absurd rfl z, fun _ => ?_⟩)
  · have hn : n < 10 := by omega
    refine w_clear (w_join hn c1.1 (w_accept ?_))
    refine m_canBe (fun _ => ⟨fun _ => ?_, fun z => absurd z (by decide)⟩) (fun q => absurd ⟨hb.1, hb.2.1⟩ q)
    refine ⟨fun _ => m_adds hn c1.2.1 ?_, fun z => absurd z (by omega)⟩
    show wp_X11_settled (wr (((n + 1 : Nat) : Int) - 1)) _ _
    rw [wr_id (by omega) (by omega), show (((n + 1 : Nat) : Int) - 1) = (n : Int) by omega]
    refine m_settled ⟨rfl, ?_⟩
    refine inv_ok ⟨⟨n + 1, ⟨rfl, rfl, by omega⟩, ?_, ?_, ?_, ?_, ?_, ?_, ?_, ?_, ?_, ?_⟩, ?_, ?_, ?_, ?_, ?_⟩ hst.2 hrr
    · intro p hp
      have o := c2 p
      simp only [gI_sI, Nat.reduceAdd, Nat.reduceMul, Nat.reduceEqDiff, false_and, true_and, and_false, and_true, reduceIte, Int.toNat_natCast] at o ⊢
      omega
    · intro p hp
      have o := c3 p
      simp only [gI_sI, Nat.reduceAdd, Nat.reduceMul, Nat.reduceEqDiff, false_and, true_and, and_false, and_true, reduceIte, Int.toNat_natCast] at o ⊢
      omega
    · intro p hp
      have o := c4 p
      simp only [gI_sI, Nat.reduceAdd, Nat.reduceMul, Nat.reduceEqDiff, false_and, true_and, and_false, and_true, reduceIte, Int.toNat_natCast] at o ⊢
      omega
    · intro p hp
      have o := c5 p
      simp only [gI_sI, Nat.reduceAdd, Nat.reduceMul, Nat.reduceEqDiff, false_and, true_and, and_false, and_true, reduceIte, Int.toNat_natCast] at o ⊢
      omega
    · intro p hp
      have o := c6 p
      simp only [gI_sI, Nat.reduceAdd, Nat.reduceMul, Nat.reduceEqDiff, false_and, true_and, and_false, and_true, reduceIte, Int.toNat_natCast] at o ⊢
      omega
    · intro p hp
      obtain ⟨f, f1, f2, f3⟩ := c7 p hp
      refine ⟨f, f1, fun hpn => ?_, fun q hq => ?_⟩
      · simp only [gI_sI, Nat.reduceAdd, Nat.reduceMul, Nat.reduceEqDiff, false_and, true_and, and_false, and_true, reduceIte, Int.toNat_natCast] at f2 ⊢
        by_cases e : p = n
        · have f0 : f = 0 := by
            apply Nat.eq_of_testBit_eq
            intro i
            rw [Nat.zero_testBit]
            by_cases hi : i < 10
            · have := (f3 i hi).2.2
              cases hb : f.testBit i
              · rfl
              · have := this hb; omega
            · exact tb_big f1 (by omega)
          omega
        · have := f2 (by omega)
          omega
      · have o := f3 q hq
        simp only [gI_sI, Nat.reduceAdd, Nat.reduceMul, Nat.reduceEqDiff, false_and, true_and, and_false, and_true, reduceIte, Int.toNat_natCast] at o ⊢
        refine ⟨?_, ?_, fun z => ?_⟩
        · omega
        · omega
        · have := o.2.2 z
          omega
    · exact zC8_of c8 (fun p => rfl) (fun i h1 h2 => by simp only [gI_sI, Int.toNat_natCast]; repeat rw [if_neg (by omega)])
    · exact zC9_of c9 (fun p => rfl) (fun i h1 => by simp only [gI_sI, Int.toNat_natCast]; repeat rw [if_neg (by omega)])
    · exact zCa_of ca (fun j => by by_cases hj : j < 12; exact Or.inr (Or.inl hj); exact Or.inl (by simp only [gI_sI, Int.toNat_natCast]; repeat rw [if_neg (by omega)])) (fun i h1 h2 => by simp only [gI_sI, Int.toNat_natCast]; repeat rw [if_neg (by omega)])
    · have hf : -1 ≤ gI σm 2 258 ∧ gI σm 2 258 < gI σm 2 257 ∧ gI σc 25 11 = gI σm 2 258 := by
        obtain ⟨m, b1, b2, b3, b4, b5, b6, -⟩ := cb
        omega
      refine zCb_of cb rfl ⟨?_, ?_, ?_⟩ (fun j => rfl) (fun d hd j => by simp only [gI_sI, Int.toNat_natCast]; repeat rw [if_neg (by omega)]) rfl (fun i hi => by simp only [gI_sI, Int.toNat_natCast]; repeat rw [if_neg (by omega)])
      · simp only [gI_sI, Nat.reduceAdd, Nat.reduceMul, Nat.reduceEqDiff, false_and, true_and, and_false, and_true, reduceIte, Int.toNat_natCast]; omega
      · simp only [gI_sI, Nat.reduceAdd, Nat.reduceMul, Nat.reduceEqDiff, false_and, true_and, and_false, and_true, reduceIte, Int.toNat_natCast]; omega
      · simp only [gI_sI, Nat.reduceAdd, Nat.reduceMul, Nat.reduceEqDiff, false_and, true_and, and_false, and_true, reduceIte, Int.toNat_natCast]; omega
    · exact zLog_nil (n := n + 1) rfl rfl rfl rfl
    · exact zImg_of himg rfl (fun _ _ _ => rfl) (fun c hc j => by simp only [gI_sI, Int.toNat_natCast]; repeat rw [if_neg (by omega)]) (fun c j hc => by simp only [gI_sI, Int.toNat_natCast]; repeat rw [if_neg (by omega)])
    · exact zTp_of htp (fun c j hc => by simp only [gI_sI, Int.toNat_natCast]; repeat rw [if_neg (by omega)]) (fun c j hc => by simp only [gI_sI, Int.toNat_natCast]; repeat rw [if_neg (by omega)])
    · exact zWd_of hwd (fun j => by simp only [gI_sI, Int.toNat_natCast]; repeat rw [if_neg (by omega)])
    · exact zSc_of hsc (fun c j hc => by simp only [gI_sI, Int.toNat_natCast]; repeat rw [if_neg (by omega)]) (fun c j hc => by simp only [gI_sI, Int.toNat_natCast]; repeat rw [if_neg (by omega)])
  · refine w_refuse 5 (by decide) rfl ?_
    refine m_canBe (fun _ => ⟨fun _ => ?_, fun z => absurd z (by decide)⟩) (fun q => absurd ⟨hb.1, hb.2.1⟩ q)
    refine ⟨fun z => absurd (show gI σm 2 256 = 10 by have := c1.2.2; omega) z, fun _ => m_refuses 5 (by decide) rfl ⟨rfl, inv_no (by decide) h0⟩⟩
  · refine w_refuse 1 (by decide) rfl ?_
    exact m_canBe (fun q => absurd ⟨q.1, q.2, by decide⟩ hb) (fun _ => ⟨fun z => absurd rfl z, fun _ => m_refuses 1 (by decide) rfl ⟨rfl, inv_no (by decide) h0⟩⟩)
set_option maxHeartbeats 100000 in
theorem st_hear {B : Nat} {σc σm : st_S} (h : zInv B σc σm) (a1 a2 : Int) : wp_X10_hear a1 a2 σc (fun r τ => wp_X11_hear a1 a2 σm (fun r2 υ => r = r2 ∧ zInv B τ υ)) := by
  have h0 := h
  obtain ⟨⟨⟨n, c1, c2, c3, c4, c5, c6, c7, c8, c9, ca, cb⟩, hlog, himg, htp, hwd, hsc⟩, hst, hrr⟩ := h
  obtain ⟨c11, c12, c13⟩ := c1
  have no1 : ¬ (0 ≤ a2 ∧ a2 ≤ 2) → B_X10_hear_9 (fun r τ => wp_X11_hear a1 a2 σm (fun r2 υ => r = r2 ∧ zInv B τ υ)) σc := fun hb =>
    w_refuse 1 (by decide) rfl (m_lies (fun q => absurd q hb) (fun _ => ⟨fun z => absurd rfl z, fun _ => m_refuses 1 (by decide) rfl ⟨rfl, inv_no (by decide) h0⟩⟩))
  refine ⟨fun q => no1 (by omega), fun q1 => ⟨fun q2 => ?_, fun q2 => no1 (by omega)⟩⟩
  have hb : 0 ≤ a2 ∧ a2 ≤ 2 := by omega
  refine w_has c13 c11 (fun hp => ⟨fun _ => ?_, fun z => absurd z (by decide)⟩) (fun hp => ⟨fun z => absurd rfl z, fun _ => ?_⟩)
  · obtain ⟨p, rfl⟩ : ∃ p : Nat, a1 = (p : Int) := ⟨a1.toNat, by omega⟩
    have hpn : p < n := by omega
    have o4 := c4 p hpn
    have o5 := c5 p hpn
    refine ⟨ixn (by omega), fun hne => ⟨ixn (by omega), ?_⟩, fun heq => ?_⟩
    · rintro x rfl
      refine ⟨ixn (by omega), ?_⟩
      rintro s rfl
      refine w_clear (w_accept ?_)
      refine m_lies (fun _ => ⟨fun _ => ?_, fun z => absurd z (by decide)⟩) (fun q => absurd hb q)
      refine m_isPerson c13 c12 (fun _ => ⟨fun _ => ?_, fun z => absurd z (by decide)⟩) (fun q => absurd hp q)
      rw [wk0 (p := p) (by omega), wk20 (p := p) (by omega)]
      refine ⟨ixn (by omega), fun _ => ⟨ixn (by omega), ?_⟩, fun z => absurd (show gI σc 29 (Int.toNat (p : Int)) = 3 from o5.1.trans z) hne⟩
      rintro x rfl
      refine ⟨ixn (by omega), ?_⟩
      rintro s rfl
      refine m_settled ⟨o4.1, ?_⟩
      refine inv_ok ⟨⟨n, ⟨c11, ?_, c13⟩, ?_, ?_, ?_, ?_, ?_, ?_, ?_, ?_, ?_, ?_⟩, ?_, ?_, ?_, ?_, ?_⟩ hst.2 hrr
      · simp only [gI_sI, Nat.reduceAdd, Nat.reduceMul, Nat.reduceEqDiff, false_and, true_and, and_false, and_true, reduceIte, Int.toNat_natCast]; omega
      · exact zC2_of c2 (fun _ _ => rfl) (fun i h1 h2 => by simp only [gI_sI, Int.toNat_natCast]; repeat rw [if_neg (by omega)])
      · exact zC3_of c3 (fun _ _ => rfl) (fun i h1 h2 => by simp only [gI_sI, Int.toNat_natCast]; repeat rw [if_neg (by omega)])
      · intro q hq
        have o := c4 q hq
        simp only [gI_sI, Nat.reduceAdd, Nat.reduceMul, Nat.reduceEqDiff, false_and, true_and, and_false, and_true, reduceIte, Int.toNat_natCast] at o ⊢
        omega
      · exact zC5_of c5 (fun _ _ => rfl) (fun i h1 => by simp only [gI_sI, Int.toNat_natCast]; repeat rw [if_neg (by omega)])
      · exact zC6_of c6 (fun _ _ => rfl) (fun i h1 => by simp only [gI_sI, Int.toNat_natCast]; repeat rw [if_neg (by omega)]) (fun i h1 h2 => by simp only [gI_sI, Int.toNat_natCast]; repeat rw [if_neg (by omega)])
      · exact zC7_of c7 (fun _ _ => rfl) (fun i h1 h2 => by simp only [gI_sI, Int.toNat_natCast]; repeat rw [if_neg (by omega)])
      · exact zC8_of c8 (fun p => rfl) (fun i h1 h2 => by simp only [gI_sI, Int.toNat_natCast]; repeat rw [if_neg (by omega)])
      · exact zC9_of c9 (fun p => rfl) (fun i h1 => by simp only [gI_sI, Int.toNat_natCast]; repeat rw [if_neg (by omega)])
      · exact zCa_of ca (fun j => Or.inl rfl) (fun i h1 h2 => by simp only [gI_sI, Int.toNat_natCast]; repeat rw [if_neg (by omega)])
      · have hf : -1 ≤ gI σm 2 258 ∧ gI σm 2 258 < gI σm 2 257 ∧ gI σc 25 11 = gI σm 2 258 := by
          obtain ⟨m, b1, b2, b3, b4, b5, b6, -⟩ := cb
          omega
        refine zCb_of cb rfl ⟨?_, ?_, ?_⟩ (fun j => rfl) (fun d hd j => by simp only [gI_sI, Int.toNat_natCast]; repeat rw [if_neg (by omega)]) rfl (fun i hi => by simp only [gI_sI, Int.toNat_natCast]; repeat rw [if_neg (by omega)])
        · simp only [gI_sI, Nat.reduceAdd, Nat.reduceMul, Nat.reduceEqDiff, false_and, true_and, and_false, and_true, reduceIte, Int.toNat_natCast]; omega
        · simp only [gI_sI, Nat.reduceAdd, Nat.reduceMul, Nat.reduceEqDiff, false_and, true_and, and_false, and_true, reduceIte, Int.toNat_natCast]; omega
        · simp only [gI_sI, Nat.reduceAdd, Nat.reduceMul, Nat.reduceEqDiff, false_and, true_and, and_false, and_true, reduceIte, Int.toNat_natCast]; omega
      · exact zLog_nil (n := n) (by simp only [gI_sI, Nat.reduceAdd, Nat.reduceMul, Nat.reduceEqDiff, false_and, true_and, and_false, and_true, reduceIte, Int.toNat_natCast]; omega) rfl rfl rfl
      · exact zImg_of himg rfl (fun _ _ _ => rfl) (fun c hc j => by simp only [gI_sI, Int.toNat_natCast]; repeat rw [if_neg (by omega)]) (fun c j hc => by simp only [gI_sI, Int.toNat_natCast]; repeat rw [if_neg (by omega)])
      · exact zTp_of htp (fun c j hc => by simp only [gI_sI, Int.toNat_natCast]; repeat rw [if_neg (by omega)]) (fun c j hc => by simp only [gI_sI, Int.toNat_natCast]; repeat rw [if_neg (by omega)])
      · exact zWd_of hwd (fun j => by simp only [gI_sI, Int.toNat_natCast]; repeat rw [if_neg (by omega)])
      · exact zSc_of hsc (fun c j hc => by simp only [gI_sI, Int.toNat_natCast]; repeat rw [if_neg (by omega)]) (fun c j hc => by simp only [gI_sI, Int.toNat_natCast]; repeat rw [if_neg (by omega)])
    · refine w_refuse 3 (by decide) rfl ?_
      refine m_lies (fun _ => ⟨fun _ => ?_, fun z => absurd z (by decide)⟩) (fun q => absurd hb q)
      refine m_isPerson c13 c12 (fun _ => ⟨fun _ => ?_, fun z => absurd z (by decide)⟩) (fun q => absurd hp q)
      rw [wk0 (p := p) (by omega), wk20 (p := p) (by omega)]
      exact ⟨ixn (by omega), fun z => absurd (o5.1.symm.trans heq) z, fun _ => m_refuses 3 (by decide) rfl ⟨rfl, inv_no (by decide) h0⟩⟩
  · refine w_refuse 2 (by decide) rfl ?_
    refine m_lies (fun _ => ⟨fun _ => ?_, fun z => absurd z (by decide)⟩) (fun q => absurd hb q)
    exact m_isPerson c13 c12 (fun q => absurd q hp) (fun _ => ⟨fun z => absurd rfl z, fun _ => m_refuses 2 (by decide) rfl ⟨rfl, inv_no (by decide) h0⟩⟩)
theorem w_worth {p : Nat} {σ : st_S} {Q : Int → st_S → Prop} (hp : p < 10) (hh : 0 ≤ gI σ 28 p ∧ gI σ 28 p ≤ 2) (hQ : Q (if gI σ 29 p = 3 then 0 else 2 - gI σ 28 p) σ) : wp_X1_worth (p : Int) σ Q := by
  refine ⟨ixn hp, fun hne => ⟨ixn hp, ?_⟩, fun heq => ?_⟩
  · rintro x rfl
    replace hne : ¬ gI σ 29 p = 3 := hne
    rw [if_neg hne] at hQ
    show Q (wr (2 - gI σ 28 p)) σ
    rw [wr_id (by omega) (by omega)]
    exact hQ
  · replace heq : gI σ 29 p = 3 := heq
    rw [if_pos heq] at hQ
    exact hQ
theorem m_worthOf {p : Nat} {σ : st_S} {Q : Int → st_S → Prop} (hp : p < 10) (hh : 0 ≤ gI σ 2 (20 + p) ∧ gI σ 2 (20 + p) ≤ 2) (hQ : Q (if gI σ 2 p = 3 then 0 else 2 - gI σ 2 (20 + p)) σ) : wp_X11_worthOf (p : Int) σ Q := by
  unfold wp_X11_worthOf
  rw [wk0 (p := p) (by omega), wk20 (p := p) (by omega)]
  refine ⟨ixn (by omega), fun hne => ⟨ixn (by omega), ?_⟩, fun heq => ?_⟩
  · rintro x rfl
    replace hne : ¬ gI σ 2 p = 3 := hne
    rw [if_neg hne] at hQ
    show Q (wr (2 - gI σ 2 (20 + p))) σ
    rw [wr_id (by omega) (by omega)]
    exact hQ
  · replace heq : gI σ 2 p = 3 := heq
    rw [if_pos heq] at hQ
    exact hQ
theorem m_roadOf {p : Nat} {σ : st_S} {Q : Int → st_S → Prop} (hp : p < 10) (hQ : Q (gI σ 2 (34 + 2 * p)) σ) : wp_X11_roadOf (p : Int) σ Q := by
  unfold wp_X11_roadOf
  rw [wk34 (by omega)]
  exact ⟨ixn (by omega), hQ⟩
theorem m_landOf {p : Nat} {σ : st_S} {Q : Int → st_S → Prop} (hp : p < 10) (hQ : Q (gI σ 2 (35 + 2 * p)) σ) : wp_X11_landOf (p : Int) σ Q := by
  unfold wp_X11_landOf
  rw [wk35 (by omega)]
  exact ⟨ixn (by omega), hQ⟩
set_option maxHeartbeats 100000 in
theorem st_of {B : Nat} {σc σm : st_S} (h : zInv B σc σm) (a1 a2 : Int) : wp_X10_of a1 a2 σc (fun r τ => wp_X11_of a1 a2 σm (fun r2 υ => r = r2 ∧ zInv B τ υ)) := by
  have h0 := h
  obtain ⟨⟨⟨n, c1, c2, c3, c4, c5, c6, c7, c8, c9, ca, cb⟩, hlog, himg, htp, hwd, hsc⟩, hst, hrr⟩ := h
  obtain ⟨c11, c12, c13⟩ := c1
  refine w_has c13 c11 (fun hp => ⟨fun _ => ?_, fun z => absurd z (by decide)⟩) (fun hp => ⟨fun z => absurd rfl z, fun _ => ?_⟩)
  · obtain ⟨p, rfl⟩ : ∃ p : Nat, a1 = (p : Int) := ⟨a1.toNat, by omega⟩
    have hpn : p < n := by omega
    have o2 := c2 p hpn
    have o3 := c3 p hpn
    have o4 := c4 p hpn
    have o5 := c5 p hpn
    have o6 := c6 p hpn
    have hI : ix (p : Int) 10 := ixn (by omega)
    have key : ∀ r : Int, ((a2 = 0 → r = gI σm 2 (34 + 2 * p)) ∧ (a2 = 1 → r = gI σm 2 (35 + 2 * p)) ∧ (a2 = 2 → r = gI σm 2 (20 + p)) ∧ (a2 = 3 → r = gI σm 2 p) ∧ (a2 = 4 → r = if gI σm 2 p = 1 then gI σm 2 (10 + p) else -1) ∧ (a2 = 5 → r = if gI σm 2 p = 3 then 0 else 2 - gI σm 2 (20 + p)) ∧ (a2 < 0 ∨ 5 < a2 → r = -1)) → wp_X11_of (p : Int) a2 σm (fun r2 υ => r = r2 ∧ zInv B σc υ) := by
      rintro r ⟨k0, k1, k2, k3, k4, k5, k6⟩
      refine m_isPerson c13 c12 (fun _ => ⟨fun _ => ?_, fun z => absurd z (by decide)⟩) (fun q => absurd hp q)
      rw [wk0 (p := p) (by omega), wk10 (p := p) (by omega), wk20 (p := p) (by omega)]
      refine ⟨fun e => m_roadOf (by omega) ⟨k0 e, h0⟩, fun e => m_landOf (by omega) ⟨k1 e, h0⟩, fun e => ⟨ixn (by omega), k2 e, h0⟩, fun e => ⟨ixn (by omega), k3 e, h0⟩, fun e => ⟨ixn (by omega), fun z => ?_, fun z => ⟨ixn (by omega), ?_⟩⟩, fun e => m_worthOf (by omega) o4.2 ⟨k5 e, h0⟩, fun e => ⟨k6 e, h0⟩⟩
      · replace z : ¬ gI σm 2 p = 1 := z
        rw [if_neg z] at k4
        exact ⟨k4 e, h0⟩
      · replace z : gI σm 2 p = 1 := z
        rw [if_pos z] at k4
        exact ⟨k4 e, h0⟩
    refine ⟨fun e => ⟨hI, key _ ?_⟩, fun e => ⟨hI, key _ ?_⟩, fun e => ⟨hI, key _ ?_⟩, fun e => ⟨hI, key _ ?_⟩, fun e => ⟨hI, fun z => key _ ?_, fun z => ⟨hI, key _ ?_⟩⟩, fun e => w_worth (by omega) (by have := o4.1; have := o4.2; exact ⟨by show 0 ≤ gI σc (25 + 3) p; omega, by show gI σc (25 + 3) p ≤ 2; omega⟩) (key _ ?_), fun e => key _ ?_⟩
    · exact ⟨fun _ => o2.1, by omega, by omega, by omega, by omega, by omega, by omega⟩
    · exact ⟨by omega, fun _ => o3.1, by omega, by omega, by omega, by omega, by omega⟩
    · exact ⟨by omega, by omega, fun _ => o4.1, by omega, by omega, by omega, by omega⟩
    · exact ⟨by omega, by omega, by omega, fun _ => o5.1, by omega, by omega, by omega⟩
    · replace z : ¬ gI σc (25 + 4) p = 1 := z
      refine ⟨by omega, by omega, by omega, by omega, fun _ => ?_, by omega, by omega⟩
      rw [if_neg (by omega)]
    · replace z : gI σc (25 + 4) p = 1 := z
      refine ⟨by omega, by omega, by omega, by omega, fun _ => ?_, by omega, by omega⟩
      rw [if_pos (by omega)]
      exact o6 (by omega)
    · refine ⟨by omega, by omega, by omega, by omega, by omega, fun _ => ?_, by omega⟩
      show (if gI σc (25 + 4) p = 3 then 0 else 2 - gI σc (25 + 3) p) = _
      rw [o5.1, o4.1]
    · exact ⟨by omega, by omega, by omega, by omega, by omega, by omega, fun _ => rfl⟩
  · exact m_isPerson c13 c12 (fun q => absurd q hp) (fun _ => ⟨fun z => absurd rfl z, fun _ => ⟨rfl, h0⟩⟩)
set_option maxHeartbeats 100000 in
theorem st_salt {B : Nat} {σc σm : st_S} (h : zInv B σc σm) : wp_X10_salt σc (fun r τ => wp_X11_salt σm (fun r2 υ => r = r2 ∧ zInv B τ υ)) := ⟨h.1.2.2.2.2.2.2.1, h⟩
set_option maxHeartbeats 100000 in
theorem st_fault {B : Nat} {σc σm : st_S} (h : zInv B σc σm) : wp_X10_fault σc (fun r τ => wp_X11_fault σm (fun r2 υ => r = r2 ∧ zInv B τ υ)) := ⟨h.1.2.2.2.2.2.2.2.1, h⟩
set_option maxHeartbeats 100000 in
theorem st_stopped {B : Nat} {σc σm : st_S} (h : zInv B σc σm) : wp_X10_stopped σc (fun r τ => wp_X11_stopped σm (fun r2 υ => r = r2 ∧ zInv B τ υ)) := ⟨h.1.2.2.2.2.2.2.2.2, h⟩
set_option maxHeartbeats 100000 in
theorem st_status {B : Nat} {σc σm : st_S} (h : zInv B σc σm) : wp_X10_status σc (fun r τ => wp_X11_status σm (fun r2 υ => r = r2 ∧ zInv B τ υ)) := ⟨h.2.1.1, h⟩
set_option maxHeartbeats 100000 in
theorem st_drawn {B : Nat} {σc σm : st_S} (h : zInv B σc σm) (a1 : Int) : wp_X10_drawn a1 σc (fun r τ => wp_X11_drawn a1 σm (fun r2 υ => r = r2 ∧ zInv B τ υ)) := by
  obtain ⟨⟨n, a2, a3, a4, a5⟩, -⟩ := h.1.2.2.2.2.2
  have no : ¬ (0 ≤ a1 ∧ a1 < (n : Int)) → wp_X11_drawn a1 σm (fun r2 υ => (-1) = r2 ∧ zInv B σc υ) := by
    intro q
    unfold wp_X11_drawn
    rw [a3, wr_id (by omega) (by omega)]
    exact m_lies (fun z => absurd z (by omega)) (fun _ => ⟨fun _ => ⟨rfl, h⟩, fun z => absurd rfl z⟩)
  unfold wp_X10_drawn
  rw [a2]
  refine ⟨fun q => no (by omega), fun q1 => ⟨fun q2 => no (by omega), fun q2 => ⟨⟨by omega, by omega⟩, ?_⟩⟩⟩
  obtain ⟨k, rfl⟩ : ∃ k : Nat, a1 = (k : Int) := ⟨a1.toNat, by omega⟩
  show wp_X11_drawn (k : Int) σm (fun r2 υ => gI σc 23 k = r2 ∧ zInv B σc υ)
  unfold wp_X11_drawn
  rw [a3, wr_id (by omega) (by omega)]
  exact m_lies (fun _ => ⟨fun z => absurd z (by decide), fun _ => ⟨⟨by omega, by omega⟩, a5 k (by omega), h⟩⟩) (fun z => absurd (by omega) z)
set_option maxHeartbeats 100000 in
theorem st_end {B : Nat} {σc σm : st_S} (h : zInv B σc σm) (a1 : Int) : wp_X10_end a1 σc (fun r τ => wp_X11_end a1 σm (fun r2 υ => r = r2 ∧ zInv B τ υ)) := by
  have h0 := h
  obtain ⟨⟨hcr, hlog, himg, ⟨n, t1, t2, t3, t4⟩, hwd, hsc⟩, hst, hrr⟩ := h
  have no : ¬ (0 ≤ a1 ∧ a1 ≤ (n : Int)) → wp_X11_end a1 σm (fun r2 υ => (-1) = r2 ∧ zInv B σc υ) := by
    intro q
    unfold wp_X11_end
    rw [t2]
    exact m_lies (fun z => absurd z q) (fun _ => ⟨fun z => absurd rfl z, fun _ => ⟨rfl, h0⟩⟩)
  unfold wp_X10_end
  rw [t1]
  refine ⟨fun q => no (by omega), fun q1 => ⟨fun q2 => ?_, fun q2 => no (by omega)⟩⟩
  rintro s rfl
  unfold wp_X11_end
  rw [t2]
  refine m_lies (fun _ => ⟨fun _ => ?_, fun z => absurd z (by decide)⟩) (fun z => absurd (by omega) z)
  rintro s rfl
  refine ⟨rfl, ⟨?_, ?_, ?_, ?_, ?_, ?_⟩, ⟨hst.1, hst.2⟩, hrr⟩
  · exact zCR_of hcr (fun d j a b => by simp only [gI_sI, Int.toNat_natCast]; repeat rw [if_neg (by omega)]) (fun _ => rfl) (fun d j a _ q b c => ⟨by simp only [gI_sI, Int.toNat_natCast]; repeat rw [if_neg (by omega)], rfl⟩) (fun c a b => b) (fun i => rfl)
  · obtain ⟨n, l1, m, o, l2⟩ := hlog
    exact ⟨n, l1, m, o, l2⟩
  · exact zImg_of himg rfl (fun _ _ _ => rfl) (fun c hc j => by simp only [gI_sI, Int.toNat_natCast]; repeat rw [if_neg (by omega)]) (fun c j hc => by simp only [gI_sI, Int.toNat_natCast]; repeat rw [if_neg (by omega)])
  · refine ⟨a1.toNat, ?_, ?_, by omega, fun i hi => ?_⟩
    · show a1 = _
      omega
    · show a1 = _
      omega
    · exact t4 i (by omega)
  · exact hwd
  · exact hsc
set_option maxHeartbeats 100000 in
theorem st_force {B : Nat} {σc σm : st_S} (h : zInv B σc σm) (a1 : Int) : wp_X10_force a1 σc (fun r τ => wp_X11_force a1 σm (fun r2 υ => r = r2 ∧ zInv B τ υ)) := by
  have h0 := h
  obtain ⟨⟨⟨n, c1, c2, c3, c4, c5, c6, c7, c8, c9, ca, cb⟩, hlog, himg, htp, hwd, hsc⟩, hst, hrr⟩ := h
  obtain ⟨c11, c12, c13⟩ := c1
  have cb0 := cb
  obtain ⟨m, b1, b2, b3, b4, b5, b6, b7⟩ := cb
  have no : ¬ (-1 ≤ a1 ∧ a1 < (m : Int)) → B_X10_force_16 (fun r τ => wp_X11_force a1 σm (fun r2 υ => r = r2 ∧ zInv B τ υ)) σc := by
    intro q
    refine w_refuse 2 (by decide) rfl ?_
    unfold wp_X11_force
    rw [b2, wr_id (by omega) (by omega)]
    exact m_lies (fun z => absurd z (by omega)) (fun _ => ⟨fun z => absurd rfl z, fun _ => m_refuses 2 (by decide) rfl ⟨rfl, inv_no (by decide) h0⟩⟩)
  unfold wp_X10_force
  rw [b1]
  refine ⟨fun q => no (by omega), fun q1 => ⟨fun q2 => ?_, fun q2 => no (by omega)⟩⟩
  rintro x rfl s rfl
  refine w_accept ?_
  unfold wp_X11_force
  rw [b2, wr_id (by omega) (by omega)]
  refine m_lies (fun _ => ⟨fun _ => ?_, fun z => absurd z (by decide)⟩) (fun z => absurd (by omega) z)
  rintro x rfl s rfl
  refine m_good ⟨b4, ?_⟩
  refine inv_ok ⟨⟨n, ⟨c11, c12, c13⟩, ?_, ?_, ?_, ?_, ?_, ?_, ?_, ?_, ?_, ?_⟩, ?_, ?_, ?_, ?_, ?_⟩ hst.2 hrr
  · exact zC2_of c2 (fun _ _ => rfl) (fun i h1 h2 => by simp only [gI_sI, Int.toNat_natCast]; repeat rw [if_neg (by omega)])
  · exact zC3_of c3 (fun _ _ => rfl) (fun i h1 h2 => by simp only [gI_sI, Int.toNat_natCast]; repeat rw [if_neg (by omega)])
  · exact zC4_of c4 (fun _ _ => rfl) (fun i h1 h2 => by simp only [gI_sI, Int.toNat_natCast]; repeat rw [if_neg (by omega)])
  · exact zC5_of c5 (fun _ _ => rfl) (fun i h1 => by simp only [gI_sI, Int.toNat_natCast]; repeat rw [if_neg (by omega)])
  · exact zC6_of c6 (fun _ _ => rfl) (fun i h1 => by simp only [gI_sI, Int.toNat_natCast]; repeat rw [if_neg (by omega)]) (fun i h1 h2 => by simp only [gI_sI, Int.toNat_natCast]; repeat rw [if_neg (by omega)])
  · exact zC7_of c7 (fun _ _ => rfl) (fun i h1 h2 => by simp only [gI_sI, Int.toNat_natCast]; repeat rw [if_neg (by omega)])
  · exact zC8_of c8 (fun p => rfl) (fun i h1 h2 => by simp only [gI_sI, Int.toNat_natCast]; repeat rw [if_neg (by omega)])
  · exact zC9_of c9 (fun p => rfl) (fun i h1 => by simp only [gI_sI, Int.toNat_natCast]; repeat rw [if_neg (by omega)])
  · exact zCa_of ca (fun j => by by_cases hj : j < 12; exact Or.inr (Or.inl hj); exact Or.inl (by simp only [gI_sI, Int.toNat_natCast]; repeat rw [if_neg (by omega)])) (fun i h1 h2 => by simp only [gI_sI, Int.toNat_natCast]; repeat rw [if_neg (by omega)])
  · refine zCb_of cb0 rfl ⟨rfl, ?_, ?_⟩ (fun j => rfl) (fun d hd j => by simp only [gI_sI, Int.toNat_natCast]; repeat rw [if_neg (by omega)]) rfl (fun i hi => by simp only [gI_sI, Int.toNat_natCast]; repeat rw [if_neg (by omega)])
    · show -1 ≤ a1
      omega
    · show a1 < _
      omega
  · obtain ⟨n, l1, m, o, l2⟩ := hlog
    exact ⟨n, l1, m, o, l2⟩
  · exact zImg_of himg rfl (fun _ _ _ => rfl) (fun c hc j => by simp only [gI_sI, Int.toNat_natCast]; repeat rw [if_neg (by omega)]) (fun c j hc => by simp only [gI_sI, Int.toNat_natCast]; repeat rw [if_neg (by omega)])
  · exact zTp_of htp (fun c j hc => by simp only [gI_sI, Int.toNat_natCast]; repeat rw [if_neg (by omega)]) (fun c j hc => by simp only [gI_sI, Int.toNat_natCast]; repeat rw [if_neg (by omega)])
  · exact zWd_of hwd (fun j => by simp only [gI_sI, Int.toNat_natCast]; repeat rw [if_neg (by omega)])
  · exact zSc_of hsc (fun c j hc => by simp only [gI_sI, Int.toNat_natCast]; repeat rw [if_neg (by omega)]) (fun c j hc => by simp only [gI_sI, Int.toNat_natCast]; repeat rw [if_neg (by omega)])
