/-! frames of the parts of the core -/
theorem agC_sI {σ : st_S} {c j : Nat} {v : Int} (h : ¬ lsC c j) : agC σ (sI σ c j v) :=
  ⟨rfl, fun _ _ _ => rfl, fun c' j' q => by rw [gI_sI, if_neg]; rintro ⟨rfl, rfl⟩; exact h q⟩
theorem agM_sI {σ : st_S} {c j : Nat} {v : Int} (h : ¬ lsM c j) : agM σ (sI σ c j v) :=
  ⟨rfl, fun c' j' q => by rw [gI_sI, if_neg]; rintro ⟨rfl, rfl⟩; exact h q⟩
section FR
variable {σ τ : st_S} {t n : Nat} {K K' : Nat → Int}
theorem zC1_of (h : zC1 σ t K n) (hI : gI τ t 0 = gI σ t 0) (hK : K' 256 = K 256) : zC1 τ t K' n := by unfold zC1; rw [hI, hK]; exact h
theorem zC2_of (h : zC2 σ t K n) (hI : ∀ p, p < n → gI τ (t + 1) p = gI σ (t + 1) p) (hK : ∀ i, 34 ≤ i → i < 34 + 2 * n → K' i = K i) : zC2 τ t K' n := fun p hp => by rw [hI p hp, hK _ (by omega) (by omega)]; exact h p hp
theorem zC3_of (h : zC3 σ t K n) (hI : ∀ p, p < n → gI τ (t + 2) p = gI σ (t + 2) p) (hK : ∀ i, 34 ≤ i → i < 34 + 2 * n → K' i = K i) : zC3 τ t K' n := fun p hp => by rw [hI p hp, hK _ (by omega) (by omega)]; exact h p hp
theorem zC4_of (h : zC4 σ t K n) (hI : ∀ p, p < n → gI τ (t + 3) p = gI σ (t + 3) p) (hK : ∀ i, 20 ≤ i → i < 20 + n → K' i = K i) : zC4 τ t K' n := fun p hp => by rw [hI p hp, hK _ (by omega) (by omega)]; exact h p hp
theorem zC5_of (h : zC5 σ t K n) (hI : ∀ p, p < n → gI τ (t + 4) p = gI σ (t + 4) p) (hK : ∀ i, i < n → K' i = K i) : zC5 τ t K' n := fun p hp => by rw [hI p hp, hK _ hp]; exact h p hp
theorem zC6_of (h : zC6 σ t K n) (hI : ∀ p, p < n → gI τ (t + 5) p = gI σ (t + 5) p) (hK : ∀ i, i < n → K' i = K i) (hK2 : ∀ i, 10 ≤ i → i < 10 + n → K' i = K i) : zC6 τ t K' n := fun p hp => by rw [hI p hp, hK _ hp, hK2 _ (by omega) (by omega)]; exact h p hp
theorem zC7_of (h : zC7 σ t K n) (hI : ∀ p, p < n → gI τ (t + 6) p = gI σ (t + 6) p) (hK : ∀ i, 54 ≤ i → i < 154 → K' i = K i) : zC7 τ t K' n := by
  intro p hp
  obtain ⟨f, f1, f2, f3⟩ := h p hp
  refine ⟨f, f1, fun q => by rw [hI p q]; exact f2 q, fun q hq => ?_⟩
  rw [hK _ (by omega) (by omega), hK _ (by omega) (by omega)]
  exact f3 q hq
theorem zC8_of (h : zC8 σ t K) (hI : ∀ p, gI τ (t + 7) p = gI σ (t + 7) p) (hK : ∀ i, 154 ≤ i → i < 254 → K' i = K i) : zC8 τ t K' := fun p hp => by rw [hI, hK _ (by omega) (by omega)]; exact h p hp
theorem zC9_of (h : zC9 σ t K) (hI : ∀ p, gI τ (t + 8) p = gI σ (t + 8) p) (hK : ∀ i, i = 33 ∨ i = 254 ∨ i = 255 → K' i = K i) : zC9 τ t K' := by
  unfold zC9
  rw [hI, hI, hI, hK 33 (by omega), hK 254 (by omega), hK 255 (by omega)]
  exact h
theorem zCa_of {B : Nat} (h : zCa B σ t K) (hI : ∀ j, gI τ t j = gI σ t j ∨ j < 12 ∨ 14 < j) (hK : ∀ i, 30 ≤ i → i ≤ 32 → K' i = K i) : zCa B τ t K' := by
  unfold zCa
  rw [hK 30 (by omega) (by omega), hK 31 (by omega) (by omega), hK 32 (by omega) (by omega)]
  have a := hI 12
  have b := hI 13
  have c := hI 14
  unfold zCa at h
  omega
/-- laws stay; which is in force may change -/
theorem zCb_of (h : zCb σ t K) (hI : gI τ t 10 = gI σ t 10) (hF : gI τ t 11 = K' 258 ∧ -1 ≤ K' 258 ∧ K' 258 < K 257) (hR : ∀ j, gR τ (t + 9) j = gR σ (t + 9) j) (hT : ∀ d, 65 ≤ d → ∀ j, gI τ d j = gI σ d j) (hk : τ.2.2 = σ.2.2) (hK : ∀ i, i = 257 ∨ 259 ≤ i → K' i = K i) : zCb τ t K' := by
  obtain ⟨m, b1, b2, b3, b4, b5, b6, b7, b8⟩ := h
  have e1 : ∀ c, gK τ c = gK σ c := fun c => by unfold gK; rw [hk]
  have e2 : ∀ c, gL τ c = gL σ c := fun c => by unfold gL; rw [hk]
  refine ⟨m, by rw [hI]; exact b1, by rw [hK 257 (by omega)]; exact b2, b3, hF.1, hF.2.1, by rw [← b2]; exact hF.2.2, ?_, ?_⟩
  · intro i c hc
    rw [hR] at hc
    rw [e1]
    exact b7 i c hc
  · intro i hi
    obtain ⟨c, M, q1, q2, size, q3, q4, q5⟩ := b8 i hi
    have q6 := (b7 i c q1).1
    refine ⟨c, M, by rw [hR]; exact q1, cTx_of q2 (fun d j a _ => hT d (by omega) j) (fun d _ _ => e2 d), size, by rw [hK _ (by omega)]; exact q3, q4, ?_⟩
    have k1 : (fun j => K' (266 + 400 * i + j)) = (fun j => K (266 + 400 * i + j)) := funext fun j => hK _ (by omega)
    have k2 : (fun j => K' (3066 + 400 * i + j)) = (fun j => K (3066 + 400 * i + j)) := funext fun j => hK _ (by omega)
    rw [k1, k2]
    exact q5
end FR
section FS
variable {σc σm τc τm : st_S}
theorem zImg_of {B : Nat} (h : zImg B σc σm) (hk : τc.2.2 = σc.2.2) (hR : ∀ c j, c = 11 ∨ 65 ≤ c → gR τc c j = gR σc c j) (hI : ∀ c, 65 ≤ c → ∀ j, gI τc c j = gI σc c j) (hM : ∀ c j, c = 3 ∨ c = 4 → gI τm c j = gI σm c j) : zImg B τc τm := by
  have e1 : ∀ c, gK τc c = gK σc c := fun c => by unfold gK; rw [hk]
  have e2 : ∀ c, gL τc c = gL σc c := fun c => by unfold gL; rw [hk]
  have im : ∀ k, zIm B σc σm k → zIm B τc τm k := by
    intro k q
    rcases q with ⟨q1, q2⟩ | ⟨q1, c, q2, q3, q4, q5⟩
    · exact Or.inl ⟨by rw [hM 4 k (by omega)]; exact q1, by rw [hR 11 k (by omega)]; exact q2⟩
    · refine Or.inr ⟨by rw [hM 4 k (by omega)]; exact q1, c, by rw [hR 11 k (by omega)]; exact q2, q3, by rw [e1]; exact q4, ?_⟩
      exact zCR_of q5 (fun d j a b => hI d (by omega) j) (fun j => hR _ j (by omega)) (fun d j a _ q b c => ⟨hI q (by omega) j, e2 q⟩) (fun c a b => by rw [e1]; exact b) (fun i => hM 3 _ (by omega))
  exact ⟨im 0 h.1, im 1 h.2.1, by rw [hR 11 0 (by omega), hR 11 1 (by omega)]; exact h.2.2⟩
theorem zTp_of (h : zTp σc σm) (hC : ∀ c j, c = 13 ∨ (c = 12 ∧ j = 1) → gI τc c j = gI σc c j) (hM : ∀ c j, c = 7 ∨ (c = 0 ∧ j = 13) → gI τm c j = gI σm c j) : zTp τc τm := by
  obtain ⟨n, a1, a2, a3, a4⟩ := h
  refine ⟨n, by rw [hC 12 1 (by omega)]; exact a1, by rw [hM 0 13 (by omega)]; exact a2, a3, fun i hi => ?_⟩
  rw [hC 13 i (by omega), hM 7 i (by omega)]
  exact a4 i hi
theorem zWd_of (h : zWd σm) (hM : ∀ j, gI τm 6 j = gI σm 6 j) : zWd τm := fun i hi => by rw [hM]; exact h i hi
theorem zSc_of (h : zSc σc σm) (hC : ∀ c j, c = 23 ∨ (c = 0 ∧ (j = 12 ∨ j = 13)) ∨ (c = 12 ∧ j = 3) ∨ (c = 52 ∧ j = 0) → gI τc c j = gI σc c j) (hM : ∀ c j, c = 25 ∨ (c = 0 ∧ (j = 50 ∨ j = 6 ∨ j = 14 ∨ j = 41)) → gI τm c j = gI σm c j) : zSc τc τm := by
  obtain ⟨⟨n, a1, a2, a3, a4⟩, b1, b2, b3⟩ := h
  refine ⟨⟨n, by rw [hC 0 12 (by omega)]; exact a1, by rw [hM 0 50 (by omega)]; exact a2, a3, fun k hk => ?_⟩, ?_, ?_, ?_⟩
  · rw [hC 23 k (by omega), hM 25 k (by omega)]; exact a4 k hk
  · rw [hC 0 13 (by omega), hM 0 6 (by omega)]; exact b1
  · rw [hC 12 3 (by omega), hM 0 14 (by omega)]; exact b2
  · rw [hC 52 0 (by omega), hM 0 41 (by omega)]; exact b3
/-- nothing to undo -/
theorem zLog_nil {B : Nat} {n : Nat} (h1 : gI τm 2 256 = (n : Int)) (h2 : gI τc 39 0 = 0) (h3 : gI τc 39 1 = 0) (h4 : gI τm 0 28 = 0) : zLog B τc τm :=
  ⟨n, h1, 0, 0, h2, h4, by omega, h3, by omega, fun i hi => absurd hi (by omega)⟩
/-- a call that was good -/
theorem inv_ok {B : Nat} (h : zCo B σc σm) (hk : ∀ k, k < 7 → gI σc 24 k = gI σm 1 k) (hr : zRr σc) : zInv B (sI σc 0 14 0) (sI σm 0 0 0) :=
  ⟨zCo_ag h (agC_sI (by unfold lsC; omega)) (agM_sI (by unfold lsM; omega)), ⟨rfl, fun k q => hk k q⟩, hr⟩
/-- a call that was refused -/
theorem inv_no {B : Nat} {a : Int} {k : Nat} (hk : k < 7) (h : zInv B σc σm) : zInv B (sI (sI σc 0 14 a) 24 k (wr (gI σc 24 k + 1))) (sI (sI σm 0 0 a) 1 k (wr (gI σm 1 k + 1))) := by
  refine ⟨zCo_ag h.1 (agC_tr (agC_sI (by unfold lsC; omega)) (agC_sI (by unfold lsC; omega))) (agM_tr (agM_sI (by unfold lsM; omega)) (agM_sI (by unfold lsM; omega))), ⟨rfl, fun i hi => ?_⟩, h.2.2⟩
  have e := h.2.1.2 k hk
  have e2 := h.2.1.2 i hi
  by_cases q : i = k
  · subst q
    rw [gI_sI, if_pos ⟨rfl, rfl⟩, gI_sI, if_pos ⟨rfl, rfl⟩, e]
  · rw [gI_sI, if_neg (fun z => q z.2), gI_sI (sI σm 0 0 a), if_neg (fun z => q z.2)]
    exact e2
end FS
/-! small methods -/
theorem w_refuse {a : Int} (k : Nat) (hk : k < 7) (ha : a = -(k : Int)) {σ : st_S} {Q : Int → st_S → Prop} (hQ : Q a (sI (sI σ 0 14 a) 24 k (wr (gI σ 24 k + 1)))) : wp_X10_refuse a σ Q := by
  have e : wr (-a) = (k : Int) := by rw [ha, Int.neg_neg]; exact wr_n (by omega)
  unfold wp_X10_refuse
  rintro s8 rfl
  rw [e]
  refine ⟨fun h => absurd h (by omega), fun _ => ⟨fun h => absurd h (by omega), fun _ => ⟨⟨by omega, by omega⟩, ?_⟩⟩⟩
  rintro x rfl
  refine ⟨⟨by omega, by omega⟩, ?_⟩
  rintro s rfl
  exact hQ
theorem m_refuses {a : Int} (k : Nat) (hk : k < 7) (ha : a = -(k : Int)) {σ : st_S} {Q : Int → st_S → Prop} (hQ : Q a (sI (sI σ 0 0 a) 1 k (wr (gI σ 1 k + 1)))) : wp_X11_refuses a σ Q := by
  have e : wr (-a) = (k : Int) := by rw [ha, Int.neg_neg]; exact wr_n (by omega)
  unfold wp_X11_refuses
  rintro s8 rfl
  rw [e]
  refine ⟨⟨by omega, by omega⟩, ?_⟩
  rintro x rfl
  refine ⟨⟨by omega, by omega⟩, ?_⟩
  rintro s rfl
  exact hQ
theorem w_accept {a : Int} {σ : st_S} {Q : Int → st_S → Prop} (hQ : Q a (sI σ 0 14 0)) : wp_X10_accept a σ Q := by
  rintro s rfl
  exact hQ
theorem m_good {a : Int} {σ : st_S} {Q : Int → st_S → Prop} (hQ : Q a (sI σ 0 0 0)) : wp_X11_good a σ Q := by
  rintro s rfl
  exact hQ
theorem m_settled {a : Int} {σ : st_S} {Q : Int → st_S → Prop} (hQ : Q a (sI (sI σ 0 28 0) 0 0 0)) : wp_X11_settled a σ Q := by
  rintro s rfl
  exact m_good hQ
theorem w_clear {σ : st_S} {Q : st_S → Prop} (hQ : Q (sI (sI σ 39 0 0) 39 1 0)) : wp_X4_clear σ Q := by
  rintro s rfl s' rfl
  exact hQ
theorem m_lies {a b c : Int} {σ : st_S} {Q : Int → st_S → Prop} (h1 : b ≤ a ∧ a ≤ c → Q 1 σ) (h0 : ¬ (b ≤ a ∧ a ≤ c) → Q 0 σ) : wp_X11_lies a b c σ Q :=
  ⟨fun q => ⟨Or.inl rfl, h0 (by omega)⟩, fun _ => ⟨fun q => ⟨Or.inl rfl, h0 (by omega)⟩, fun q => ⟨Or.inr rfl, h1 (by omega)⟩⟩⟩
theorem m_isPerson {a : Int} {n : Nat} {σ : st_S} {Q : Int → st_S → Prop} (hn : n ≤ 10) (hs : gI σ 2 256 = (n : Int)) (h1 : 0 ≤ a ∧ a < (n : Int) → Q 1 σ) (h0 : ¬ (0 ≤ a ∧ a < (n : Int)) → Q 0 σ) : wp_X11_isPerson a σ Q := by
  show wp_X11_lies a 0 (wr (gI σ 2 256 - 1)) σ _
  rw [hs, wr_id (by omega) (by omega)]
  exact m_lies (fun q => ⟨Or.inr rfl, h1 (by omega)⟩) (fun q => ⟨Or.inl rfl, h0 (by omega)⟩)
theorem w_has {a : Int} {n : Nat} {σ : st_S} {Q : Int → st_S → Prop} (hn : n ≤ 10) (hs : gI σ 25 0 = (n : Int)) (h1 : 0 ≤ a ∧ a < (n : Int) → Q 1 σ) (h0 : ¬ (0 ≤ a ∧ a < (n : Int)) → Q 0 σ) : wp_X1_has a σ Q := by
  unfold wp_X1_has
  rw [hs]
  exact ⟨fun q => ⟨Or.inl rfl, h0 (by omega)⟩, fun _ => ⟨fun q => ⟨Or.inl rfl, h0 (by omega)⟩, fun _ => ⟨fun q => ⟨Or.inl rfl, h0 (by omega)⟩, fun q => ⟨Or.inr rfl, h1 (by omega)⟩⟩⟩⟩
theorem w_canBe {a b c : Int} {σ : st_S} {Q : Int → st_S → Prop} (h1 : (0 ≤ a ∧ a ≤ 30) ∧ (0 ≤ b ∧ b ≤ 3) ∧ (0 ≤ c ∧ c ≤ 2) → Q 1 σ) (h0 : ¬ ((0 ≤ a ∧ a ≤ 30) ∧ (0 ≤ b ∧ b ≤ 3) ∧ (0 ≤ c ∧ c ≤ 2)) → Q 0 σ) : wp_X10_canBe a b c σ Q :=
  ⟨fun q => ⟨Or.inl rfl, h0 (by omega)⟩, fun _ => ⟨fun q => ⟨Or.inl rfl, h0 (by omega)⟩, fun _ => ⟨fun q => ⟨Or.inl rfl, h0 (by omega)⟩, fun _ => ⟨fun q => ⟨Or.inl rfl, h0 (by omega)⟩, fun _ => ⟨fun q => ⟨Or.inl rfl, h0 (by omega)⟩, fun _ => ⟨fun q => ⟨Or.inl rfl, h0 (by omega)⟩, fun _ => ⟨Or.inr rfl, h1 (by omega)⟩⟩⟩⟩⟩⟩⟩
theorem m_canBe {a b : Int} {σ : st_S} {Q : Int → st_S → Prop} (h1 : (0 ≤ a ∧ a ≤ 30) ∧ (0 ≤ b ∧ b ≤ 3) → Q 1 σ) (h0 : ¬ ((0 ≤ a ∧ a ≤ 30) ∧ (0 ≤ b ∧ b ≤ 3)) → Q 0 σ) : wp_X11_canBe a b σ Q :=
  m_lies (fun q => ⟨fun z => absurd z (by decide), fun _ => m_lies (fun q2 => ⟨fun z => absurd z (by decide), fun _ => ⟨Or.inr rfl, h1 ⟨q, q2⟩⟩⟩) (fun q2 => ⟨fun _ => ⟨Or.inl rfl, h0 (fun z => q2 z.2)⟩, fun z => absurd rfl z⟩)⟩) (fun q => ⟨fun _ => ⟨Or.inl rfl, h0 (fun z => q z.1)⟩, fun z => absurd rfl z⟩)
theorem ixn {n m : Nat} (h : n < m) : ix (n : Int) m := ⟨by omega, by omega⟩
theorem ixi {a : Int} {m : Nat} (h : 0 ≤ a ∧ a < (m : Int)) : ix a m := h
theorem w_join {a1 a2 a3 : Int} {n : Nat} {σ : st_S} {Q : Int → st_S → Prop} (hn : n < 10) (hs : gI σ 25 0 = (n : Int)) (hQ : Q (n : Int) (sI (sI (sI (sI (sI (sI (sI σ 26 n a1) 27 n a2) 28 n a3) 29 n 0) 30 n 0) 31 n 0) 25 0 ((n + 1 : Nat) : Int))) : wp_X1_join a1 a2 a3 σ Q := by
  unfold wp_X1_join
  rw [hs]
  refine ⟨fun h => absurd h (by omega), fun _ => ⟨fun _ => ?_, fun h => absurd (show (n : Int) < 10 by omega) h⟩⟩
  refine ⟨ixn hn, ?_⟩
  rintro s35 e35
  have q35 : gI s35 25 0 = (n : Int) := by rw [e35]; exact hs
  rw [q35]
  refine ⟨ixn hn, ?_⟩
  rintro s38 e38
  have q38 : gI s38 25 0 = (n : Int) := by rw [e38]; exact q35
  rw [q38]
  refine ⟨ixn hn, ?_⟩
  rintro s41 e41
  have q41 : gI s41 25 0 = (n : Int) := by rw [e41]; exact q38
  rw [q41]
  refine ⟨ixn hn, ?_⟩
  rintro s44 e44
  have q44 : gI s44 25 0 = (n : Int) := by rw [e44]; exact q41
  rw [q44]
  refine ⟨ixn hn, ?_⟩
  rintro s47 e47
  have q47 : gI s47 25 0 = (n : Int) := by rw [e47]; exact q44
  rw [q47]
  refine ⟨ixn hn, ?_⟩
  rintro s50 e50
  have q50 : gI s50 25 0 = (n : Int) := by rw [e50]; exact q47
  rw [q50, wr_id (by omega) (by omega)]
  rintro x rfl s53 e53
  have q53 : gI s53 25 0 = (n : Int) + 1 := by rw [e53]; rfl
  rw [q53, wr_id (by omega) (by omega), show (n : Int) + 1 - 1 = (n : Int) by omega]
  rw [e53, e50, e47, e44, e41, e38, e35]
  exact hQ
theorem wk0 {p : Nat} (h : p < 100000) : wr (0 + (p : Int)) = (p : Int) := by rw [wr_id (by omega) (by omega)]; omega
theorem wk10 {p : Nat} (h : p < 100000) : wr (10 + (p : Int)) = ((10 + p : Nat) : Int) := by rw [wr_id (by omega) (by omega)]; omega
theorem wk20 {p : Nat} (h : p < 100000) : wr (20 + (p : Int)) = ((20 + p : Nat) : Int) := by rw [wr_id (by omega) (by omega)]; omega
theorem wk154 {p : Nat} (h : p < 100000) : wr (154 + (p : Int)) = ((154 + p : Nat) : Int) := by rw [wr_id (by omega) (by omega)]; omega
theorem wk266 {p : Nat} (h : p < 100000) : wr (266 + (p : Int)) = ((266 + p : Nat) : Int) := by rw [wr_id (by omega) (by omega)]; omega
theorem wk3066 {p : Nat} (h : p < 100000) : wr (3066 + (p : Int)) = ((3066 + p : Nat) : Int) := by rw [wr_id (by omega) (by omega)]; omega
theorem wk259 {p : Nat} (h : p < 100000) : wr (259 + (p : Int)) = ((259 + p : Nat) : Int) := by rw [wr_id (by omega) (by omega)]; omega
theorem wk34 {p : Nat} (h : p < 100000) : wr (34 + 2 * (p : Int)) = ((34 + 2 * p : Nat) : Int) := by rw [wr_id (by omega) (by omega)]; omega
theorem wk35 {p : Nat} (h : p < 100000) : wr (34 + 2 * (p : Int) + 1) = ((35 + 2 * p : Nat) : Int) := by rw [wr_id (by omega) (by omega)]; omega
theorem wk54 {p q : Nat} (h : p < 100000) (h2 : q < 100000) : wr (54 + 10 * (p : Int) + (q : Int)) = ((54 + 10 * p + q : Nat) : Int) := by rw [wr_id (by omega) (by omega)]; omega
theorem wks {p : Nat} (h : p < 100000) : wr ((p : Int) + 1) = ((p + 1 : Nat) : Int) := by rw [wr_id (by omega) (by omega)]; omega
theorem wkm {p : Nat} (h : p < 100000) : wr ((p : Int) - 1) = (p : Int) - 1 := wr_id (by omega) (by omega)
theorem m_adds {a1 a2 a3 : Int} {n : Nat} {σ : st_S} {Q : st_S → Prop} (hn : n < 10) (hs : gI σ 2 256 = (n : Int)) (hQ : Q (sI (sI (sI (sI (sI (sI σ 2 (34 + 2 * n) a1) 2 (35 + 2 * n) a2) 2 n 0) 2 (10 + n) (-1)) 2 (20 + n) a3) 2 256 ((n + 1 : Nat) : Int))) : wp_X11_adds a1 a2 a3 σ Q := by
  show ix _ _ ∧ _
  rw [hs]
  rw [wk34 (by omega), wk35 (by omega), wk0 (by omega), wk10 (by omega), wk20 (by omega)]
  refine ⟨ixn (by omega), ?_⟩
  rintro s1 e1
  refine ⟨ixn (by omega), ?_⟩
  rintro s2 e2
  refine ⟨ixn (by omega), ?_⟩
  rintro s3 e3
  refine ⟨ixn (by omega), ?_⟩
  rintro s4 e4
  refine ⟨ixn (by omega), ?_⟩
  rintro s5 e5
  have q5 : gI s5 2 256 = (n : Int) := by
    rw [e5, gI_sI, if_neg (by rw [Int.toNat_natCast]; omega), e4, gI_sI, if_neg (by rw [Int.toNat_natCast]; omega), e3, gI_sI, if_neg (by rw [Int.toNat_natCast]; omega), e2, gI_sI, if_neg (by rw [Int.toNat_natCast]; omega), e1, gI_sI, if_neg (by rw [Int.toNat_natCast]; omega)]
    exact hs
  rw [q5, wr_id (by omega) (by omega)]
  rintro x rfl s6 e6
  rw [e6, e5, e4, e3, e2, e1]
  exact hQ
