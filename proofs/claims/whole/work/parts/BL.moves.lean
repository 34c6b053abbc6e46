/-! orders: stores that differ in what doesn't count -/
/-- both have read the tape, and said that nothing has stopped yet -/
theorem zCo_ro {B : Nat} {σc σm τc τm : st_S} (h : zCo B σc σm) (hk : τc.2.2 = σc.2.2) (hR : ∀ c j, c ≠ 56 → c ≠ 10 → gR τc c j = gR σc c j) (hI : ∀ c j, lsC c j → c ≠ 12 → ¬ (c = 52 ∧ j = 0) → gI τc c j = gI σc c j) (hm : τm.2 = σm.2) (hM : ∀ c j, lsM c j → ¬ (c = 0 ∧ (j = 13 ∨ j = 14 ∨ j = 41)) → ¬ (c = 2 ∧ (j = 265 ∨ (2666 ≤ j ∧ j < 3066) ∨ 5466 ≤ j)) → gI τm c j = gI σm c j) (t0 : gI τc 12 1 = 0) (m0 : gI τm 0 13 = 0) (hf : gI τc 12 3 = gI τm 0 14) (hs : gI τc 52 0 = gI τm 0 41) : zCo B τc τm := by
  obtain ⟨h1, h2, h3, h4, h5, h6⟩ := h
  have eK : ∀ c, gK τc c = gK σc c := fun c => by unfold gK; rw [hk]
  have eL : ∀ c, gL τc c = gL σc c := fun c => by unfold gL; rw [hk]
  have big : ∀ c j, 65 ≤ c → gI τc c j = gI σc c j := fun c j q => hI c j (Or.inl q) (by omega) (by omega)
  have Kl : ∀ i, i ≠ 265 → ¬ (2666 ≤ i ∧ i < 3066) → ¬ 5466 ≤ i → gI τm 2 i = gI σm 2 i := fun i a b c => hM 2 i (by unfold lsM; omega) (by omega) (by omega)
  refine ⟨?_, ?_, ?_, ?_, ?_, ?_⟩
  · have g : zCR B τc 25 (gI σm 2) := zCR_of h1 (fun d j a b => hI d j (by unfold lsC; omega) (by omega) (by omega)) (fun j => hR _ j (by decide) (by decide)) (fun d j a _ q b c => ⟨big q j (by omega), eL q⟩) (fun c a b => by rw [eK]; exact b) (fun i => rfl)
    obtain ⟨np, q1, q2, q3, q4, q5, q6, q7, q8, q9, qa, m, b1, b2, b3, b4, b5, b6, b7, b8⟩ := g
    have np10 : np ≤ 10 := q1.2.2
    refine ⟨np, ?_, ?_, ?_, ?_, ?_, ?_, ?_, ?_, ?_, ?_, m, b1, by rw [Kl 257 (by omega) (by omega) (by omega)]; exact b2, b3, by rw [Kl 258 (by omega) (by omega) (by omega)]; exact b4, by rw [Kl 258 (by omega) (by omega) (by omega)]; exact b5, by rw [Kl 258 (by omega) (by omega) (by omega)]; exact b6, b7, fun i hi => ?_⟩
    · exact zC1_of q1 rfl (Kl _ (by omega) (by omega) (by omega))
    · exact zC2_of q2 (fun p _ => rfl) (fun i a b => Kl _ (by omega) (by omega) (by omega))
    · exact zC3_of q3 (fun p _ => rfl) (fun i a b => Kl _ (by omega) (by omega) (by omega))
    · exact zC4_of q4 (fun p _ => rfl) (fun i a b => Kl _ (by omega) (by omega) (by omega))
    · exact zC5_of q5 (fun p _ => rfl) (fun i a => Kl _ (by omega) (by omega) (by omega))
    · exact zC6_of q6 (fun p _ => rfl) (fun i a => Kl _ (by omega) (by omega) (by omega)) (fun i a b => Kl _ (by omega) (by omega) (by omega))
    · exact zC7_of q7 (fun p _ => rfl) (fun i a b => Kl _ (by omega) (by omega) (by omega))
    · exact zC8_of q8 (fun p => rfl) (fun i a b => Kl _ (by omega) (by omega) (by omega))
    · exact zC9_of q9 (fun p => rfl) (fun i a => Kl _ (by omega) (by omega) (by omega))
    · unfold zCa at qa ⊢
      rw [Kl 30 (by omega) (by omega) (by omega), Kl 31 (by omega) (by omega) (by omega), Kl 32 (by omega) (by omega) (by omega)]
      exact qa
    · obtain ⟨c, M, d1, d2, sz, d3, d4, d5⟩ := b8 i hi
      exact ⟨c, M, d1, d2, sz, by rw [Kl _ (by omega) (by omega) (by omega)]; exact d3, d4, mTx_cg (fun j hj => ⟨Kl _ (by omega) (by omega) (by omega), Kl _ (by omega) (by omega) (by omega)⟩) d5⟩
  · obtain ⟨n, a1, m, o, a2, a3, a4, a5, a6, a7⟩ := h2
    refine ⟨n, ?_, m, o, ?_, ?_, a4, ?_, a6, ?_⟩
    · rw [Kl 256 (by omega) (by omega) (by omega)]; exact a1
    · rw [hI 39 0 (by unfold lsC; omega) (by decide) (by omega)]; exact a2
    · rw [hM 0 28 (by unfold lsM; omega) (by omega) (by omega)]; exact a3
    · rw [hI 39 1 (by unfold lsC; omega) (by decide) (by omega)]; exact a5
    · intro i hi
      have e1 : (fun j => gI τc (39 + 1) ((o + i) % 16 * 35 + j)) = (fun j => gI σc (39 + 1) ((o + i) % 16 * 35 + j)) := funext fun j => hI 40 _ (by unfold lsC; omega) (by decide) (by omega)
      have e2 : (fun j => gI τm 13 (35 * i + j)) = (fun j => gI σm 13 (35 * i + j)) := funext fun j => hM 13 _ (by unfold lsM; omega) (by omega) (by omega)
      rw [e1, e2]
      exact a7 i hi
  · exact zImg_of h3 hk (fun c j q => hR c j (by omega) (by omega)) (fun c q j => big c j q) (fun c j q => hM c j (by unfold lsM; omega) (by omega) (by omega))
  · exact ⟨0, t0, m0, by decide, fun i hi => absurd hi (Nat.not_lt_zero _)⟩
  · intro i hi
    rw [hM 6 i (by unfold lsM; omega) (by omega) (by omega)]
    exact h5 i hi
  · obtain ⟨⟨n, a1, a2, a3, a4⟩, b1, b2, b3⟩ := h6
    refine ⟨⟨n, ?_, ?_, a3, ?_⟩, ?_, hf, hs⟩
    · rw [hI 0 12 (by unfold lsC; omega) (by decide) (by omega)]; exact a1
    · rw [hM 0 50 (by unfold lsM; omega) (by omega) (by omega)]; exact a2
    · intro k hk
      rw [hI 23 k (by unfold lsC; omega) (by decide) (by omega), hM 25 k (by unfold lsM; omega) (by omega) (by omega)]
      exact a4 k hk
    · rw [hI 0 13 (by unfold lsC; omega) (by decide) (by omega), hM 0 6 (by unfold lsM; omega) (by omega) (by omega)]; exact b1
/-- stores with other cells where the run of orders works -/
def mxC (σ τ : st_S) : st_S := (fun c j => if 53 ≤ c ∧ c ≤ 55 then gI τ c j else gI σ c j, σ.2)
def mxM (σ τ : st_S) : st_S := (fun c j => if c = 0 ∧ 42 ≤ j ∧ j ≤ 48 then gI τ c j else gI σ c j, σ.2)
theorem gI_mxC (σ τ : st_S) (c j : Nat) : gI (mxC σ τ) c j = if 53 ≤ c ∧ c ≤ 55 then gI τ c j else gI σ c j := rfl
theorem gI_mxM (σ τ : st_S) (c j : Nat) : gI (mxM σ τ) c j = if c = 0 ∧ 42 ≤ j ∧ j ≤ 48 then gI τ c j else gI σ c j := rfl
theorem zCo_run {B : Nat} {σc σm τ υ : st_S} {n : Nat} {M : zM} (h : zCo B σc σm) (hf : zOc σc τ) (hg : zOn σm υ) (hd : dC B τ (gI υ 2) (gI υ 13) (gI υ 0 28) n M) : zCo B τ υ := by
  have a1 : agC σc (mxC σc τ) := ⟨rfl, fun _ _ _ => rfl, fun c j q => by rw [gI_mxC, if_neg (by unfold lsC at q; omega)]⟩
  have a2 : agM σm (mxM σm υ) := ⟨rfl, fun c j q => by rw [gI_mxM, if_neg (by unfold lsM at q; omega)]⟩
  refine zCo_deed (zCo_ag h a1 a2) ⟨hf.1, fun c j b1 b2 b3 b4 => ?_⟩ ⟨hg.1, fun c j b1 b2 b3 b4 => ?_⟩ hd
  · rw [gI_mxC]
    by_cases c1 : 53 ≤ c ∧ c ≤ 55
    · rw [if_pos c1]
    · rw [if_neg c1]; exact hf.2 c j b1 b2 b3 b4 c1
  · rw [gI_mxM]
    by_cases c1 : c = 0 ∧ 42 ≤ j ∧ j ≤ 48
    · rw [if_pos c1]
    · rw [if_neg c1]; exact hg.2 c j (by omega) b2 b3 b4
