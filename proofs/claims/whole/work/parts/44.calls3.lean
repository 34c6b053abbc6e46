/-! terms, undo -/
def zcn (x : Int) : Prop := wr x = x
theorem w_anyOnRoad {n : Nat} {σ : st_S} {Q : Int → st_S → Prop} (hn : n ≤ 10) (hs : gI σ 25 0 = (n : Int)) (h1 : (∃ p, p < n ∧ gI σ 29 p = 1) → Q 1 σ) (h0 : (∀ p, p < n → ¬ gI σ 29 p = 1) → Q 0 σ) : wp_X1_anyOnRoad σ Q := by
  have key : ∀ m i : Nat, i + m = n → (∀ p, p < i → ¬ gI σ 29 p = 1) → L_X1_anyOnRoad_2 Q (m + 1) (i : Int) σ := by
    intro m
    induction m with
    | zero =>
      intro i hi hp
      refine ⟨fun _ => h0 ?_, fun q => absurd (show gI σ 25 0 ≤ (i : Int) by omega) q⟩
      rw [← (show i = n by omega)]
      exact hp
    | succ m ih =>
      intro i hi hp
      refine ⟨fun q => absurd q (by omega), fun _ => ⟨ixn (by omega), fun hne => ?_, fun heq => h1 ⟨i, by omega, heq⟩⟩⟩
      intro x ex
      rw [wks (by omega)] at ex
      subst ex
      refine ih (i + 1) (by omega) (fun p hp2 => ?_)
      by_cases e : p = i
      · subst e; exact hne
      · exact hp p (by omega)
  exact ⟨n + 1, key n 0 (by omega) (fun p hp => absurd hp (by omega))⟩
theorem m_road0 {n : Nat} {σ : st_S} {l1 l2 : Int} {Q : Int → st_S → Prop} (hn : n ≤ 10) (hs : gI σ 2 256 = (n : Int)) (h1 : l1 = 0 → (∃ p, p < n ∧ gI σ 2 p = 1) → wp_X11_refuses (-3) σ (fun r s => Q r s)) (h0 : (l1 = 0 → ∀ p, p < n → ¬ gI σ 2 p = 1) → B_X11_terms_84 Q l1 l2 σ) : ∃ m, L_X11_terms_47 Q m l1 l2 0 σ := by
  have key : ∀ m i : Nat, i + m = n → (l1 = 0 → ∀ p, p < i → ¬ gI σ 2 p = 1) → L_X11_terms_47 Q (m + 1) l1 l2 (i : Int) σ := by
    intro m
    induction m with
    | zero =>
      intro i hi hp
      refine ⟨fun _ => h0 ?_, fun q => absurd (show gI σ 2 256 ≤ (i : Int) by omega) q⟩
      rw [← (show i = n by omega)]
      exact hp
    | succ m ih =>
      intro i hi hp
      refine ⟨fun q => absurd q (by show ¬ gI σ 2 256 ≤ (i : Int); omega), fun _ => ⟨fun q => h0 (fun z => absurd z q), fun q => ?_⟩⟩
      rw [wk0 (by omega)]
      refine ⟨ixn (by omega), fun hne => ?_, fun heq => h1 q ⟨i, by omega, heq⟩⟩
      intro x ex
      rw [wks (by omega)] at ex
      subst ex
      refine ih (i + 1) (by omega) (fun z p hp2 => ?_)
      by_cases e : p = i
      · subst e; exact hne
      · exact hp z p (by omega)
  exact ⟨n + 1, key n 0 (by omega) (fun _ p hp => absurd hp (by omega))⟩
def mtT (a : Int) : Int := if a = 0 then 999 else if a = 1 then 10 else 9
theorem w_mostOfTerm {a : Int} {σ : st_S} {Q : Int → st_S → Prop} (hQ : Q (mtT a) σ) : wp_X10_mostOfTerm a σ Q := by
  unfold mtT at hQ
  refine ⟨fun h => ⟨fun h2 => ?_, fun h2 => ?_⟩, fun h => ?_⟩
  · rw [if_neg h, if_neg h2] at hQ; exact hQ
  · rw [if_neg h, if_pos h2] at hQ; exact hQ
  · rw [if_pos h] at hQ; exact hQ
/-- a term's place in the reference -/
def tmP (w : Nat) : Nat := if w = 0 then 33 else 253 + w
set_option maxHeartbeats 60000 in
theorem m_terms {a1 a2 : Int} {n : Nat} {σ : st_S} {Q : Int → st_S → Prop} (hc : zcn a2) (hn : n ≤ 10) (hs : gI σ 2 256 = (n : Int))
    (hb : ¬ ((0 ≤ a1 ∧ a1 ≤ 2) ∧ (0 ≤ a2 ∧ a2 ≤ mtT a1)) → wp_X11_refuses (-1) σ (fun r s => Q r s))
    (h1 : a1 = 0 → (0 ≤ a2 ∧ a2 ≤ mtT a1) → (∃ p, p < n ∧ gI σ 2 p = 1) → wp_X11_refuses (-3) σ (fun r s => Q r s))
    (h0 : ∀ w : Nat, a1 = (w : Int) → w < 3 → (0 ≤ a2 ∧ a2 ≤ mtT a1) → (w = 0 → ∀ p, p < n → ¬ gI σ 2 p = 1) → wp_X11_settled (gI σ 2 (tmP w)) (sI σ 2 (tmP w) a2) (fun r s => Q r s)) : wp_X11_terms a1 a2 σ Q := by
  have key : 0 ≤ a1 ∧ a1 ≤ 2 → B_X11_terms_33 Q a1 a2 (mtT a1) 0 a2 σ := by
    intro ha
    show wp_X11_lies (wr a2) (wr 0) (mtT a1) σ _
    rw [hc, show wr 0 = 0 from by decide]
    refine m_lies (fun q => ⟨fun _ => m_road0 hn hs (fun e => h1 e q) (fun z => ?_), fun z => absurd z (by decide)⟩) (fun q => ⟨fun z => absurd rfl z, fun _ => hb (fun z => q z.2)⟩)
    obtain ⟨w, rfl⟩ : ∃ w : Nat, a1 = (w : Int) := ⟨a1.toNat, by omega⟩
    have k := h0 w rfl (by omega) q (fun e => z (by omega))
    refine ⟨fun e => ?_, fun e => ?_⟩
    · rintro x rfl
      have e2 : wr (254 + (w : Int) - 1) = ((253 + w : Nat) : Int) := by rw [wr_id (by omega) (by omega)]; omega
      rw [e2]
      clear e2
      have e3 : tmP w = 253 + w := by unfold tmP; rw [if_neg (by omega)]
      rw [e3] at k
      refine ⟨ixn (by omega), ?_⟩
      rintro x rfl
      refine ⟨ixn (by omega), ?_⟩
      rintro s rfl
      exact k
    · have e3 : tmP w = 33 := by unfold tmP; rw [if_pos (by omega)]
      rw [e3] at k
      refine ⟨⟨by omega, by omega⟩, ?_⟩
      rintro x rfl
      refine ⟨⟨by omega, by omega⟩, ?_⟩
      rintro s rfl
      exact k
  refine m_lies (fun q => ⟨fun z => absurd z (by decide), fun _ => ?_⟩) (fun q => ⟨fun _ => hb (fun z => q z.1), fun z => absurd rfl z⟩)
  have k := key q
  unfold mtT at k
  refine ⟨fun e => ⟨fun e2 => ?_, fun e2 => ?_⟩, fun e => ?_⟩
  · rw [if_neg e, if_neg e2] at k; exact k
  · rw [if_neg e, if_pos e2] at k; exact k
  · rw [if_pos e] at k; exact k
set_option maxHeartbeats 60000 in
theorem st_terms {B : Nat} {σc σm : st_S} (h : zInv B σc σm) (a1 a2 : Int) (hc2 : zcn a2) : wp_X10_terms a1 a2 σc (fun r τ => wp_X11_terms a1 a2 σm (fun r2 υ => r = r2 ∧ zInv B τ υ)) := by
  have h0 := h
  obtain ⟨⟨⟨n, c1, c2, c3, c4, c5, c6, c7, c8, c9, ca, cb⟩, hlog, himg, htp, hwd, hsc⟩, hst, hrr⟩ := h
  obtain ⟨c11, c12, c13⟩ := c1
  have no1 : ¬ ((0 ≤ a1 ∧ a1 ≤ 2) ∧ (0 ≤ a2 ∧ a2 ≤ mtT a1)) → B_X10_terms_21 (fun r τ => wp_X11_terms a1 a2 σm (fun r2 υ => r = r2 ∧ zInv B τ υ)) σc := fun hb =>
    w_refuse 1 (by decide) rfl (m_terms hc2 c13 c12 (fun _ => m_refuses 1 (by decide) rfl ⟨rfl, inv_no (by decide) h0⟩) (fun e e2 _ => absurd ⟨by omega, e2⟩ hb) (fun w e1 e2 e3 _ => absurd ⟨by omega, e3⟩ hb))
  refine ⟨fun q => no1 (by omega), fun q1 => ⟨fun q => no1 (by omega), fun q2 => ⟨fun q => no1 (by omega), fun q3 => w_mostOfTerm ⟨fun q4 => ?_, fun q => no1 (by omega)⟩⟩⟩⟩
  obtain ⟨w, rfl⟩ : ∃ w : Nat, a1 = (w : Int) := ⟨a1.toNat, by omega⟩
  have hb : 0 ≤ a2 ∧ a2 ≤ mtT (w : Int) := ⟨by omega, q4⟩
  have fin : (w = 0 → ∀ p, p < n → ¬ gI σm 2 p = 1) → B_X10_terms_48 (fun r τ => wp_X11_terms (w : Int) a2 σm (fun r2 υ => r = r2 ∧ zInv B τ υ)) (w : Int) a2 σc := by
    intro hroad
    refine ⟨⟨by omega, by omega⟩, ?_⟩
    intro x ex
    refine ⟨⟨by omega, by omega⟩, ?_⟩
    intro s es
    subst es
    refine w_clear (w_accept ?_)
    refine m_terms hc2 c13 c12 (fun z => absurd ⟨by omega, hb⟩ z) (fun e _ ⟨p, p1, p2⟩ => absurd p2 (hroad (by omega) p p1)) (fun w' e1 e2' _ _ => ?_)
    rw [show w' = w by omega]
    have e2 : w < 3 := by omega
    have o9 := c9
    unfold zC9 at o9
    have hv : x = gI σm 2 (tmP w) := by
      subst ex
      show gI σc 33 w = _
      unfold tmP
      match w, e2 with
      | 0, _ => exact o9.1.1
      | 1, _ => exact o9.2.1.1
      | 2, _ => exact o9.2.2.1
    refine m_settled ⟨hv, ?_⟩
    have hP : tmP w = 33 ∨ tmP w = 254 ∨ tmP w = 255 := by unfold tmP; split <;> omega
    refine inv_ok ⟨⟨n, ⟨c11, ?_, c13⟩, ?_, ?_, ?_, ?_, ?_, ?_, ?_, ?_, ?_, ?_⟩, ?_, ?_, ?_, ?_, ?_⟩ hst.2 hrr
    · simp only [gI_sI, Nat.reduceAdd, Nat.reduceMul, Nat.reduceEqDiff, false_and, true_and, and_false, and_true, reduceIte, Int.toNat_natCast]; rw [if_neg (by omega)]; exact c12
    · exact zC2_of c2 (fun _ _ => rfl) (fun i h1 h2 => by simp only [gI_sI, Int.toNat_natCast]; repeat rw [if_neg (by omega)])
    · exact zC3_of c3 (fun _ _ => rfl) (fun i h1 h2 => by simp only [gI_sI, Int.toNat_natCast]; repeat rw [if_neg (by omega)])
    · exact zC4_of c4 (fun _ _ => rfl) (fun i h1 h2 => by simp only [gI_sI, Int.toNat_natCast]; repeat rw [if_neg (by omega)])
    · exact zC5_of c5 (fun _ _ => rfl) (fun i h1 => by simp only [gI_sI, Int.toNat_natCast]; repeat rw [if_neg (by omega)])
    · exact zC6_of c6 (fun _ _ => rfl) (fun i h1 => by simp only [gI_sI, Int.toNat_natCast]; repeat rw [if_neg (by omega)]) (fun i h1 h2 => by simp only [gI_sI, Int.toNat_natCast]; repeat rw [if_neg (by omega)])
    · exact zC7_of c7 (fun _ _ => rfl) (fun i h1 h2 => by simp only [gI_sI, Int.toNat_natCast]; repeat rw [if_neg (by omega)])
    · exact zC8_of c8 (fun p => rfl) (fun i h1 h2 => by simp only [gI_sI, Int.toNat_natCast]; repeat rw [if_neg (by omega)])
    · unfold zC9
      unfold mtT at hb
      simp only [gI_sI, Nat.reduceAdd, Nat.reduceMul, Nat.reduceEqDiff, false_and, true_and, and_false, and_true, reduceIte, Int.toNat_natCast] at o9 ⊢
      clear no1
      unfold tmP
      match w, e2 with
      | 0, _ => simp at hb ⊢; omega
      | 1, _ => simp at hb ⊢; omega
      | 2, _ => simp at hb ⊢; omega
    · exact zCa_of ca (fun j => Or.inl (by simp only [gI_sI, Int.toNat_natCast]; repeat rw [if_neg (by omega)])) (fun i h1 h2 => by simp only [gI_sI, Int.toNat_natCast]; repeat rw [if_neg (by omega)])
    · have hf : -1 ≤ gI σm 2 258 ∧ gI σm 2 258 < gI σm 2 257 ∧ gI σc 25 11 = gI σm 2 258 := by
        obtain ⟨m, b1, b2, b3, b4, b5, b6, -⟩ := cb
        omega
      have hk : gI (sI (sI σm 2 (tmP w) a2) 0 28 0) 2 258 = gI σm 2 258 := by simp only [gI_sI, Int.toNat_natCast]; repeat rw [if_neg (by omega)]
      refine zCb_of cb rfl ⟨?_, ?_, ?_⟩ (fun j => rfl) (fun d hd j => by simp only [gI_sI, Int.toNat_natCast]; repeat rw [if_neg (by omega)]) rfl (fun i hi => by simp only [gI_sI, Int.toNat_natCast]; repeat rw [if_neg (by omega)])
      · rw [hk]; exact hf.2.2
      · rw [hk]; exact hf.1
      · rw [hk]; exact hf.2.1
    · exact zLog_nil (n := n) (by simp only [gI_sI, Nat.reduceAdd, Nat.reduceMul, Nat.reduceEqDiff, false_and, true_and, and_false, and_true, reduceIte, Int.toNat_natCast]; rw [if_neg (by omega)]; exact c12) rfl rfl rfl
    · exact zImg_of himg rfl (fun _ _ _ => rfl) (fun c hc j => by simp only [gI_sI, Int.toNat_natCast]; repeat rw [if_neg (by omega)]) (fun c j hc => by simp only [gI_sI, Int.toNat_natCast]; repeat rw [if_neg (by omega)])
    · exact zTp_of htp (fun c j hc => by simp only [gI_sI, Int.toNat_natCast]; repeat rw [if_neg (by omega)]) (fun c j hc => by simp only [gI_sI, Int.toNat_natCast]; repeat rw [if_neg (by omega)])
    · exact zWd_of hwd (fun j => by simp only [gI_sI, Int.toNat_natCast]; repeat rw [if_neg (by omega)])
    · exact zSc_of hsc (fun c j hc => by simp only [gI_sI, Int.toNat_natCast]; repeat rw [if_neg (by omega)]) (fun c j hc => by simp only [gI_sI, Int.toNat_natCast]; repeat rw [if_neg (by omega)])
  refine ⟨fun e => fin (fun z => absurd (by omega) e), fun e => w_anyOnRoad c13 c11 (fun ⟨p, p1, p2⟩ => ⟨fun z => absurd z (by decide), fun _ => ?_⟩) (fun hp => ⟨fun _ => fin (fun _ p hpn => ?_), fun z => absurd rfl z⟩)⟩
  · refine w_refuse 3 (by decide) rfl ?_
    refine m_terms hc2 c13 c12 (fun z => absurd ⟨by omega, hb⟩ z) (fun _ _ _ => m_refuses 3 (by decide) rfl ⟨rfl, inv_no (by decide) h0⟩) (fun w' e1 e2 _ hr => absurd (show gI σm 2 p = 1 from (c5 p p1).1.symm.trans p2) (hr (by omega) p p1))
  · intro z
    exact hp p hpn ((c5 p hpn).1.trans z)
