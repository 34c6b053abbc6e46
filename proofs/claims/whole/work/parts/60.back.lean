/-! coasts copied: back -/
theorem sC_ne {σ : st_S} {a b c j : Nat} {sp dp n : Int} (h : c ≠ b) : gI (sC σ a sp b dp n) c j = gI σ c j := by rw [gI_sC, if_neg h]
theorem sC_cp {σ : st_S} {a b j : Nat} {n : Int} (h : j < n.toNat) : gI (sC σ a 0 b 0 n) b j = gI σ a j := by
  rw [gI_sC, if_pos rfl, if_pos ⟨Nat.zero_le _, by show j < 0 + n.toNat; omega⟩]
  show gI σ a (0 + (j - 0)) = _
  rw [Nat.zero_add, Nat.sub_zero]
def cpT (σ τ : st_S) (t a : Nat) : Prop := τ.2.2 = σ.2.2 ∧ (∀ c j, c ≠ t + 9 → gR τ c j = gR σ c j) ∧ (∀ j, gR τ (t + 9) j = if j < 6 then gR σ (a + 9) j else gR σ (t + 9) j) ∧ (∀ c j, c < t ∨ t + 8 < c → gI τ c j = gI σ c j) ∧
  (gI τ t 0 = gI σ a 0 ∧ ∀ j, 10 ≤ j → j ≤ 14 → gI τ t j = gI σ a j) ∧ (∀ d p, 1 ≤ d → d ≤ 6 → p < 10 → gI τ (t + d) p = gI σ (a + d) p) ∧ (∀ p, p < 100 → gI τ (t + 7) p = gI σ (a + 7) p) ∧ ∀ p, p < 3 → gI τ (t + 8) p = gI σ (a + 8) p
set_option maxHeartbeats 1000000 in
theorem w_copyFrom {t a : Nat} {σ : st_S} {Q : st_S → Prop} (ht : gK σ t = 17) (ha : gK σ a = 17) (hsep : t + 9 < a ∨ a + 9 < t) (hl : ∀ i c, gR σ (a + 9) i = some c → gK σ c = 25) (hQ : ∀ τ, cpT σ τ t a → Q τ) : wp_X1_copyFrom t a σ Q := by
  refine ⟨ha, ht, ?_⟩
  intro s0 e0 s1 e1 s2 e2 s3 e3 s4 e4 s5 e5 s6 e6 s7 e7 s8 e8
  have g0 : ∀ c j, c ≠ t → gI s0 c j = gI σ c j := fun c j h => by rw [e0, gI_sI, if_neg (fun z => h z.1)]
  have g8 : ∀ c j, c < t ∨ t + 8 < c → gI s8 c j = gI σ c j := fun c j h => by
    rw [e8, sC_ne (by omega), e7, sC_ne (by omega), e6, sC_ne (by omega), e5, sC_ne (by omega), e4, sC_ne (by omega), e3, sC_ne (by omega), e2, sC_ne (by omega), e1, sC_ne (by omega), g0 c j (by omega)]
  have gt : ∀ j, gI s8 t j = if j = 0 then gI σ a 0 else gI σ t j := fun j => by
    rw [e8, sC_ne (by omega), e7, sC_ne (by omega), e6, sC_ne (by omega), e5, sC_ne (by omega), e4, sC_ne (by omega), e3, sC_ne (by omega), e2, sC_ne (by omega), e1, sC_ne (by omega), e0, gI_sI]
    by_cases h : j = 0
    · rw [if_pos ⟨rfl, h⟩, if_pos h]
    · rw [if_neg (fun z => h z.2), if_neg h]
  have c1 : ∀ p, p < 10 → gI s8 (t + 1) p = gI σ (a + 1) p := fun p hp => by
    rw [e8, sC_ne (by omega), e7, sC_ne (by omega), e6, sC_ne (by omega), e5, sC_ne (by omega), e4, sC_ne (by omega), e3, sC_ne (by omega), e2, sC_ne (by omega), e1, sC_cp (by show p < 10; omega), g0 _ _ (by omega)]
  have c2 : ∀ p, p < 10 → gI s8 (t + 2) p = gI σ (a + 2) p := fun p hp => by
    rw [e8, sC_ne (by omega), e7, sC_ne (by omega), e6, sC_ne (by omega), e5, sC_ne (by omega), e4, sC_ne (by omega), e3, sC_ne (by omega), e2, sC_cp (by show p < 10; omega), e1, sC_ne (by omega), g0 _ _ (by omega)]
  have c3 : ∀ p, p < 10 → gI s8 (t + 3) p = gI σ (a + 3) p := fun p hp => by
    rw [e8, sC_ne (by omega), e7, sC_ne (by omega), e6, sC_ne (by omega), e5, sC_ne (by omega), e4, sC_ne (by omega), e3, sC_cp (by show p < 10; omega), e2, sC_ne (by omega), e1, sC_ne (by omega), g0 _ _ (by omega)]
  have c4 : ∀ p, p < 10 → gI s8 (t + 4) p = gI σ (a + 4) p := fun p hp => by
    rw [e8, sC_ne (by omega), e7, sC_ne (by omega), e6, sC_ne (by omega), e5, sC_ne (by omega), e4, sC_cp (by show p < 10; omega), e3, sC_ne (by omega), e2, sC_ne (by omega), e1, sC_ne (by omega), g0 _ _ (by omega)]
  have c5 : ∀ p, p < 10 → gI s8 (t + 5) p = gI σ (a + 5) p := fun p hp => by
    rw [e8, sC_ne (by omega), e7, sC_ne (by omega), e6, sC_ne (by omega), e5, sC_cp (by show p < 10; omega), e4, sC_ne (by omega), e3, sC_ne (by omega), e2, sC_ne (by omega), e1, sC_ne (by omega), g0 _ _ (by omega)]
  have c6 : ∀ p, p < 10 → gI s8 (t + 6) p = gI σ (a + 6) p := fun p hp => by
    rw [e8, sC_ne (by omega), e7, sC_ne (by omega), e6, sC_cp (by show p < 10; omega), e5, sC_ne (by omega), e4, sC_ne (by omega), e3, sC_ne (by omega), e2, sC_ne (by omega), e1, sC_ne (by omega), g0 _ _ (by omega)]
  have c7 : ∀ p, p < 100 → gI s8 (t + 7) p = gI σ (a + 7) p := fun p hp => by
    rw [e8, sC_ne (by omega), e7, sC_cp (by show p < 100; omega), e6, sC_ne (by omega), e5, sC_ne (by omega), e4, sC_ne (by omega), e3, sC_ne (by omega), e2, sC_ne (by omega), e1, sC_ne (by omega), g0 _ _ (by omega)]
  have c8 : ∀ p, p < 3 → gI s8 (t + 8) p = gI σ (a + 8) p := fun p hp => by
    rw [e8, sC_cp (by show p < 3; omega), e7, sC_ne (by omega), e6, sC_ne (by omega), e5, sC_ne (by omega), e4, sC_ne (by omega), e3, sC_ne (by omega), e2, sC_ne (by omega), e1, sC_ne (by omega), g0 _ _ (by omega)]
  have x8 : s8.2 = σ.2 := by rw [e8, e7, e6, e5, e4, e3, e2, e1, e0]; rfl
  clear e8 e7 e6 e5 e4 e3 e2 e1 e0 g0
  have key : ∀ k i : Nat, i + k = 6 → ∀ τ, τ.1 = s8.1 → τ.2.2 = σ.2.2 → (∀ c j, c ≠ t + 9 → gR τ c j = gR σ c j) → (∀ j, gR τ (t + 9) j = if j < i then gR σ (a + 9) j else gR σ (t + 9) j) → L_X1_copyFrom_129 Q (k + 1) t a (i : Int) τ := by
    intro k
    induction k with
    | zero =>
      intro i hi τ t1 t2 t3 t4
      have eI : ∀ c j, gI τ c j = gI s8 c j := fun c j => by unfold gI; rw [t1]
      have eKt : gK τ t = 16 + 1 := by unfold gK; rw [t2]; exact ht
      have eKa : gK τ a = 16 + 1 := by unfold gK; rw [t2]; exact ha
      refine ⟨fun _ => ⟨eKa, eKt, ?_⟩, fun z => absurd (show (6 : Int) ≤ (i : Int) by omega) z⟩
      intro u0 h0 u1 h1 u2 h2 u3 h3 u4 h4
      have ga : ∀ j, gI s8 a j = gI σ a j := fun j => g8 a j (by omega)
      have a1 : gI u0 a 11 = gI σ a 11 := by rw [h0, gI_sI, if_neg (by omega), eI, ga]
      have a2 : gI u1 a 12 = gI σ a 12 := by rw [h1, gI_sI, if_neg (by omega), h0, gI_sI, if_neg (by omega), eI, ga]
      have a3 : gI u2 a 13 = gI σ a 13 := by rw [h2, gI_sI, if_neg (by omega), h1, gI_sI, if_neg (by omega), h0, gI_sI, if_neg (by omega), eI, ga]
      have a4 : gI u3 a 14 = gI σ a 14 := by rw [h3, gI_sI, if_neg (by omega), h2, gI_sI, if_neg (by omega), h1, gI_sI, if_neg (by omega), h0, gI_sI, if_neg (by omega), eI, ga]
      rw [a1] at h1
      rw [a2] at h2
      rw [a3] at h3
      rw [a4] at h4
      rw [eI, ga] at h0
      have gu : ∀ c j, ¬ (c = t ∧ 10 ≤ j ∧ j ≤ 14) → gI u4 c j = gI s8 c j := fun c j h => by
        rw [h4, gI_sI, if_neg (by omega), h3, gI_sI, if_neg (by omega), h2, gI_sI, if_neg (by omega), h1, gI_sI, if_neg (by omega), h0, gI_sI, if_neg (by omega), eI]
      refine hQ u4 ⟨?_, ?_, ?_, ?_, ⟨?_, ?_⟩, ?_, ?_, ?_⟩
      · rw [h4, h3, h2, h1, h0]; exact t2
      · intro c j hc
        rw [h4, h3, h2, h1, h0]; exact t3 c j hc
      · intro j
        rw [h4, h3, h2, h1, h0]
        have := t4 j
        rw [show i = 6 by omega] at this
        exact this
      · intro c j hc
        rw [gu c j (by omega)]; exact g8 c j hc
      · rw [gu t 0 (by omega), gt 0, if_pos rfl]
      · intro j j1 j2
        have : j = 10 ∨ j = 11 ∨ j = 12 ∨ j = 13 ∨ j = 14 := by omega
        rcases this with e | e | e | e | e <;> subst e
        · rw [h4, gI_sI, if_neg (by omega), h3, gI_sI, if_neg (by omega), h2, gI_sI, if_neg (by omega), h1, gI_sI, if_neg (by omega), h0, gI_sI, if_pos ⟨rfl, rfl⟩]
        · rw [h4, gI_sI, if_neg (by omega), h3, gI_sI, if_neg (by omega), h2, gI_sI, if_neg (by omega), h1, gI_sI, if_pos ⟨rfl, rfl⟩]
        · rw [h4, gI_sI, if_neg (by omega), h3, gI_sI, if_neg (by omega), h2, gI_sI, if_pos ⟨rfl, rfl⟩]
        · rw [h4, gI_sI, if_neg (by omega), h3, gI_sI, if_pos ⟨rfl, rfl⟩]
        · rw [h4, gI_sI, if_pos ⟨rfl, rfl⟩]
      · intro d p d1 d2 hp
        rw [gu _ _ (by omega)]
        have : d = 1 ∨ d = 2 ∨ d = 3 ∨ d = 4 ∨ d = 5 ∨ d = 6 := by omega
        rcases this with e | e | e | e | e | e <;> subst e
        · exact c1 p hp
        · exact c2 p hp
        · exact c3 p hp
        · exact c4 p hp
        · exact c5 p hp
        · exact c6 p hp
      · intro p hp; rw [gu _ _ (by omega)]; exact c7 p hp
      · intro p hp; rw [gu _ _ (by omega)]; exact c8 p hp
    | succ k ih =>
      intro i hi τ t1 t2 t3 t4
      have eKt : gK τ t = 16 + 1 := by unfold gK; rw [t2]; exact ht
      have eKa : gK τ a = 16 + 1 := by unfold gK; rw [t2]; exact ha
      have ra : ∀ j, gR τ (a + 9) j = gR σ (a + 9) j := fun j => t3 _ _ (by omega)
      refine ⟨fun z => absurd z (by omega), fun _ => ⟨eKt, eKa, ixn (by omega), ixn (by omega), fun c hc => ?_, ?_⟩⟩
      · rw [ra] at hc
        unfold gK; rw [t2]
        exact hl _ c hc
      · intro s es x ex
        rw [wks (by omega)] at ex
        subst ex
        rw [Int.toNat_natCast] at es
        refine ih (i + 1) (by omega) s ?_ ?_ ?_ ?_
        · rw [es]; exact t1
        · rw [es]; exact t2
        · intro c j hc
          rw [es, gR_sR, if_neg (fun z => hc z.1)]
          exact t3 c j hc
        · intro j
          rw [es, gR_sR]
          by_cases e : j = i
          · rw [if_pos ⟨rfl, e⟩, if_pos (by omega), ra, e]
          · rw [if_neg (fun z => e z.2), t4 j]
            by_cases y : j < i
            · rw [if_pos y, if_pos (by omega)]
            · rw [if_neg y, if_neg (by omega)]
  exact ⟨7, key 6 0 (by omega) s8 rfl (by rw [x8]) (fun c j _ => by unfold gR; rw [x8]) (fun j => by rw [if_neg (by omega)]; unfold gR; rw [x8])⟩
theorem sb1 : ∀ j, j < 10 → 1 ≤ j → ∃ q, sbf 1 j = some q ∧ (q.1 = 0 ∨ q.1 = 4) := by
  intro j h1 h2
  match j, h1, h2 with
  | 1, _, _ => exact ⟨_, rfl, Or.inl rfl⟩
  | 2, _, _ => exact ⟨_, rfl, Or.inl rfl⟩
  | 3, _, _ => exact ⟨_, rfl, Or.inl rfl⟩
  | 4, _, _ => exact ⟨_, rfl, Or.inl rfl⟩
  | 5, _, _ => exact ⟨_, rfl, Or.inl rfl⟩
  | 6, _, _ => exact ⟨_, rfl, Or.inl rfl⟩
  | 7, _, _ => exact ⟨_, rfl, Or.inl rfl⟩
  | 8, _, _ => exact ⟨_, rfl, Or.inl rfl⟩
  | 9, _, _ => exact ⟨_, rfl, Or.inr rfl⟩
theorem sb9 : ∀ j, j < 7 → 1 ≤ j → ∃ q, sbf 9 j = some q ∧ q.1 = 0 := by
  intro j h1 h2
  match j, h1, h2 with
  | 1, _, _ => exact ⟨_, rfl, rfl⟩
  | 2, _, _ => exact ⟨_, rfl, rfl⟩
  | 3, _, _ => exact ⟨_, rfl, rfl⟩
  | 4, _, _ => exact ⟨_, rfl, rfl⟩
  | 5, _, _ => exact ⟨_, rfl, rfl⟩
  | 6, _, _ => exact ⟨_, rfl, rfl⟩
/-- a text's cells are none of a coast's -/
theorem tx_dis {σ : st_S} {t d q : Nat} (hk : zK1 σ) (ht : gK σ t = 17) (hd : gK σ d = 25) (h1 : d ≤ q) (h2 : q ≤ d + 6) : q < t ∨ t + 9 < q := by
  refine Classical.byContradiction (fun hn => ?_)
  by_cases e : t ≤ d
  · by_cases e2 : d = t
    · subst e2; omega
    · obtain ⟨r, r1, r2⟩ := sb1 (d - t) (by omega) (by omega)
      have := (hk.2.2 t 1 (d - t) r (by decide) ht r1).1
      rw [show t + (d - t) = d by omega, hd] at this
      omega
  · obtain ⟨r, r1, r2⟩ := sb9 (t - d) (by omega) (by omega)
    have := (hk.2.2 d 9 (t - d) r (by decide) hd r1).1
    rw [show d + (t - d) = t by omega, ht] at this
    omega
theorem co_dis {σ : st_S} {t c : Nat} (hk : zK1 σ) (ht : gK σ t = 17) (hc : gK σ c = 17) (hne : t ≠ c) : t + 9 < c ∨ c + 9 < t := by
  refine Classical.byContradiction (fun hn => ?_)
  by_cases e : t < c
  · obtain ⟨r, r1, r2⟩ := sb1 (c - t) (by omega) (by omega)
    have := (hk.2.2 t 1 (c - t) r (by decide) ht r1).1
    rw [show t + (c - t) = c by omega, hc] at this
    omega
  · obtain ⟨r, r1, r2⟩ := sb1 (t - c) (by omega) (by omega)
    have := (hk.2.2 c 1 (t - c) r (by decide) hc r1).1
    rw [show c + (t - c) = t by omega, ht] at this
    omega
theorem mTx_congr {ord : Bool} {cf vf cf' vf' : Nat → Int} {size : Nat} {M : zM} (h : mTx ord cf vf size M) (e : ∀ j, j < size → cf' j = cf j ∧ vf' j = vf j) : mTx ord cf' vf' size M := by
  have et : ∀ i, tcf cf' size i = tcf cf size i := by
    intro i
    unfold tcf
    by_cases q : i < size
    · rw [if_pos q, if_pos q, (e i q).1]
    · rw [if_neg q, if_neg q]
  have ed : ∀ {mm : Int → st_S → (Int → st_S → Prop) → Prop} {s t : Nat} {D : (Nat → Int) → Option Int}, tDen mm ord cf vf size s t D → tDen mm ord cf' vf' size s t D := by
    intro mm s t D hd σ base W lv Q hE
    refine hd σ base W lv Q ?_
    obtain ⟨k1, k2, k3, k4⟩ := hE
    exact ⟨k1, k2, fun i hi => by rw [← (e i hi).1, ← (e i hi).2]; exact k3 i hi, k4⟩
  obtain ⟨ts, t0, tn, tj⟩ := h
  refine ⟨ts, t0, tn, fun j hj => ?_⟩
  obtain ⟨c1, c2, c2b, e1, e2, e3, c3, c4, c5, c6, c7, c8, c9⟩ := tj j hj
  refine ⟨c1, by rw [(e _ c1).1]; exact c2, c2b, e1, e2, e3, c3, c4, fun q => ed (c5 q), c6, ?_, ?_, ?_⟩
  · rw [et]
    rcases c7 with ⟨a1, a2, a3, a4, a5⟩ | a
    · exact Or.inl ⟨a1, a2, a3, by rw [(e _ a3).2]; exact a4, a5⟩
    · exact Or.inr a
  · rw [et]; exact c8
  · intro D hD
    rw [et]
    obtain ⟨b1, b2, b3⟩ := c9 D hD
    exact ⟨b1, ed b2, b3⟩
/-- only the first 5866 numbers matter -/
theorem zCR_K {B : Nat} {σ : st_S} {t : Nat} {K K' : Nat → Int} (h : zCR B σ t K) (e : ∀ i, i < 5866 → K' i = K i) : zCR B σ t K' := by
  obtain ⟨n, c1, c2, c3, c4, c5, c6, c7, c8, c9, ca, m, b1, b2, b3, b4, b5, b6, b7, b8⟩ := h
  have hn := c1.2.2
  refine ⟨n, zC1_of c1 rfl (e _ (by omega)), zC2_of c2 (fun _ _ => rfl) (fun i _ _ => e i (by omega)), zC3_of c3 (fun _ _ => rfl) (fun i _ _ => e i (by omega)), zC4_of c4 (fun _ _ => rfl) (fun i _ _ => e i (by omega)), zC5_of c5 (fun _ _ => rfl) (fun i _ => e i (by omega)), zC6_of c6 (fun _ _ => rfl) (fun i _ => e i (by omega)) (fun i _ _ => e i (by omega)), zC7_of c7 (fun _ _ => rfl) (fun i _ _ => e i (by omega)), zC8_of c8 (fun _ => rfl) (fun i _ _ => e i (by omega)), zC9_of c9 (fun _ => rfl) (fun i _ => e i (by omega)), ?_, m, b1, by rw [e _ (by omega)]; exact b2, b3, by rw [e _ (by omega)]; exact b4, by rw [e _ (by omega)]; exact b5, by rw [e _ (by omega)]; exact b6, b7, fun i hi => ?_⟩
  · unfold zCa at *
    rw [e 30 (by omega), e 31 (by omega), e 32 (by omega)]
    exact ca
  · obtain ⟨c, M, q1, q2, size, q3, q4, q5⟩ := b8 i hi
    exact ⟨c, M, q1, q2, size, by rw [e _ (by omega)]; exact q3, q4, mTx_congr q5 (fun j hj => ⟨e _ (by omega), e _ (by omega)⟩)⟩
/-- a coast copied stands for the same -/
theorem zCR_cp {B : Nat} {σ τ : st_S} {t a : Nat} {K : Nat → Int} (h : zCR B σ a K) (g : cpT σ τ t a) (hk : zK1 σ) (ht : gK σ t = 17) (hr : ∀ i c, 6 ≤ i → gR σ (t + 9) i = some c → 65 ≤ c ∧ gK σ c = 25) : zCR B τ t K := by
  obtain ⟨g1, g2, g3, g4, ⟨g5, g6⟩, g7, g8, g9⟩ := g
  obtain ⟨n, c1, c2, c3, c4, c5, c6, c7, c8, c9, ca, m, b1, b2, b3, b4, b5, b6, b7, b8⟩ := h
  have hn := c1.2.2
  have eK : ∀ c, gK τ c = gK σ c := fun c => by unfold gK; rw [g1]
  have eL : ∀ c, gL τ c = gL σ c := fun c => by unfold gL; rw [g1]
  refine ⟨n, ⟨by rw [g5]; exact c1.1, c1.2⟩, fun p hp => by rw [g7 1 p (by omega) (by omega) (by omega)]; exact c2 p hp, fun p hp => by rw [g7 2 p (by omega) (by omega) (by omega)]; exact c3 p hp, fun p hp => by rw [g7 3 p (by omega) (by omega) (by omega)]; exact c4 p hp, fun p hp => by rw [g7 4 p (by omega) (by omega) (by omega)]; exact c5 p hp, fun p hp => by rw [g7 5 p (by omega) (by omega) (by omega)]; exact c6 p hp, fun p hp => by rw [g7 6 p (by omega) (by omega) (by omega)]; exact c7 p hp, fun p hp => by rw [g8 p hp]; exact c8 p hp, ?_, ?_, m, by rw [g6 10 (by omega) (by omega)]; exact b1, b2, b3, by rw [g6 11 (by omega) (by omega)]; exact b4, b5, b6, fun i c hc => ?_, fun i hi => ?_⟩
  · unfold zC9
    rw [g9 0 (by omega), g9 1 (by omega), g9 2 (by omega)]
    exact c9
  · unfold zCa
    rw [g6 12 (by omega) (by omega), g6 13 (by omega) (by omega), g6 14 (by omega) (by omega)]
    exact ca
  · rw [g3] at hc
    rw [eK]
    by_cases e : i < 6
    · rw [if_pos e] at hc; exact b7 i c hc
    · rw [if_neg e] at hc; exact hr i c (by omega) hc
  · obtain ⟨c, M, q1, q2, q3⟩ := b8 i hi
    have q4 := b7 i c q1
    refine ⟨c, M, by rw [g3, if_pos (by omega)]; exact q1, cTx_of q2 (fun d j a1 a2 => g4 d j ?_) (fun d _ _ => eL d), q3⟩
    have := tx_dis hk ht q4.2 a1 a2
    omega
theorem m_backL {k : Nat} {σ : st_S} {Q : Int → st_S → Prop} (hk : k < 2) (hQ : wp_X11_settled 0 (sW σ 2 0 5866 (fun i => gI σ 3 (5866 * k + i))) (fun r s => Q r s)) : ∃ m, L_X11_back_33 Q m (k : Int) 0 σ := by
  have key : ∀ n i : Nat, i + n = 5866 → L_X11_back_33 Q (n + 1) (k : Int) (i : Int) (sW σ 2 0 i (fun i => gI σ 3 (5866 * k + i))) := by
    intro n
    induction n with
    | zero =>
      intro i hi
      refine ⟨fun _ => ?_, fun q => absurd (show (5866 : Int) ≤ (i : Int) by omega) q⟩
      rw [show i = 5866 by omega]
      exact hQ
    | succ n ih =>
      intro i hi
      refine ⟨fun q => absurd q (by omega), fun _ => ?_⟩
      rw [show (5866 * (k : Int) + (i : Int)) = ((5866 * k + i : Nat) : Int) by omega, wr_n (by omega)]
      refine ⟨ixn (by omega), ixn (by omega), ?_⟩
      intro s es x ex
      rw [wks (by omega)] at ex
      subst ex
      have e : s = sW σ 2 0 (i + 1) (fun i => gI σ 3 (5866 * k + i)) := by
        rw [es, ← sW_step, Nat.zero_add]
        rfl
      rw [e]
      exact ih (i + 1) (by omega)
  exact ⟨5867, by have := key 5866 0 (by omega); rw [sW_zero] at this; exact this⟩
set_option maxHeartbeats 400000 in
theorem st_back {B : Nat} {σc σm : st_S} (h : zInv B σc σm) (hk : zK1 σc) (a1 : Int) : wp_X10_back a1 σc (fun r τ => wp_X11_back a1 σm (fun r2 υ => r = r2 ∧ zInv B τ υ)) := by
  have h0 := h
  obtain ⟨⟨hcr, hlog, himg, htp, hwd, hsc⟩, hst, hrr⟩ := h
  have no1 : ¬ (0 ≤ a1 ∧ a1 ≤ 1) → B_X10_back_9 (fun r τ => wp_X11_back a1 σm (fun r2 υ => r = r2 ∧ zInv B τ υ)) σc := fun hb =>
    w_refuse 1 (by decide) rfl (m_lies (fun q => absurd q hb) (fun _ => ⟨fun z => absurd rfl z, fun _ => m_refuses 1 (by decide) rfl ⟨rfl, inv_no (by decide) h0⟩⟩))
  refine ⟨fun q => no1 (by omega), fun q1 => ⟨fun q2 => ⟨⟨by omega, by omega⟩, ?_⟩, fun q => no1 (by omega)⟩⟩
  obtain ⟨k, rfl⟩ : ∃ k : Nat, a1 = (k : Int) := ⟨a1.toNat, by omega⟩
  have hk2 : k < 2 := by omega
  have him : zIm B σc σm k := by
    have : k = 0 ∨ k = 1 := by omega
    rcases this with e | e <;> subst e
    · exact himg.1
    · exact himg.2.1
  intro o eo
  rw [Int.toNat_natCast] at eo
  rcases him with ⟨i1, i2⟩ | ⟨i1, c, i2, i3, i4, i5⟩
  · rw [i2] at eo
    subst eo
    refine ⟨fun _ => w_refuse 2 (by decide) rfl ?_, fun t z => absurd z (by simp)⟩
    refine m_lies (fun _ => ⟨fun _ => ⟨⟨by omega, by omega⟩, fun z => absurd (by rw [Int.toNat_natCast]; exact i1) z, fun _ => m_refuses 2 (by decide) rfl ⟨rfl, inv_no (by decide) h0⟩⟩, fun z => absurd z (by decide)⟩) (fun z => absurd (by omega) z)
  · rw [i2] at eo
    subst eo
    refine ⟨fun z => absurd z (by simp), fun t et => ?_⟩
    injection et with et
    subst et
    have k25 := (zK1_at hk 25 17 0 rfl).1
    have hlaw : ∀ i d, gR σc (c + 9) i = some d → gK σc d = 25 := by
      obtain ⟨n, -, -, -, -, -, -, -, -, -, -, m, -, -, -, -, -, -, b7, -⟩ := i5
      exact fun i d hd => (b7 i d hd).2
    have hlaw2 : ∀ i d, gR σc (25 + 9) i = some d → 65 ≤ d ∧ gK σc d = 25 := by
      obtain ⟨n, -, -, -, -, -, -, -, -, -, -, m, -, -, -, -, -, -, b7, -⟩ := hcr
      exact b7
    refine w_copyFrom k25 i4 (by omega) hlaw (fun τ hτ => w_clear (w_accept ?_))
    refine m_lies (fun _ => ⟨fun _ => ⟨⟨by omega, by omega⟩, fun _ => ?_, fun z => absurd z (by rw [Int.toNat_natCast, i1]; decide)⟩, fun z => absurd z (by decide)⟩) (fun z => absurd (by omega) z)
    refine m_backL hk2 (m_settled ⟨rfl, ?_⟩)
    have zc := zCR_cp i5 hτ hk k25 (fun i d _ hd => hlaw2 i d hd)
    have eK : ∀ i, i < 5866 → gI (sW σm 2 0 5866 (fun i => gI σm 3 (5866 * k + i))) 2 i = gI σm 3 (5866 * k + i) := by
      intro i hi
      have := gI_sWy σm 2 0 5866 (fun i => gI σm 3 (5866 * k + i)) (j := i) hi
      rw [Nat.zero_add] at this
      exact this
    have eo : ∀ d i, d ≠ 2 → gI (sW σm 2 0 5866 (fun i => gI σm 3 (5866 * k + i))) d i = gI σm d i := fun d i hd => gI_sWn _ _ _ _ _ (Or.inl hd)
    generalize sW σm 2 0 5866 (fun i => gI σm 3 (5866 * k + i)) = υ at eK eo ⊢
    have zc2 : zCR B τ 25 (gI υ 2) := zCR_K zc (fun i hi => eK i hi)
    obtain ⟨g1, g2, g3, g4, -⟩ := hτ
    refine inv_ok ⟨?_, ?_, ?_, ?_, ?_, ?_⟩ (fun i hi => ?_) ?_
    · refine zCR_of zc2 (fun d j a b => by simp only [gI_sI, Int.toNat_natCast]; repeat rw [if_neg (by omega)]) (fun _ => rfl) (fun d j a _ q b c => ⟨by simp only [gI_sI, Int.toNat_natCast]; repeat rw [if_neg (by omega)], rfl⟩) (fun c a b => b) (fun i => rfl)
    · obtain ⟨n, c1, -⟩ := zc2
      exact zLog_nil (n := n) c1.2.1 rfl rfl rfl
    · exact zImg_of himg g1 (fun d j hd => g2 d j (by omega)) (fun d hd j => by rw [gI_sI, if_neg (by omega), gI_sI, if_neg (by omega)]; exact g4 d j (by omega)) (fun d j hd => by rw [gI_sI, if_neg (by omega)]; exact eo d j (by omega))
    · exact zTp_of htp (fun d j hd => by rw [gI_sI, if_neg (by omega), gI_sI, if_neg (by omega)]; exact g4 d j (by omega)) (fun d j hd => by rw [gI_sI, if_neg (by omega)]; exact eo d j (by omega))
    · exact zWd_of hwd (fun j => by rw [gI_sI, if_neg (by omega)]; exact eo _ j (by omega))
    · exact zSc_of hsc (fun d j hd => by rw [gI_sI, if_neg (by omega), gI_sI, if_neg (by omega)]; exact g4 d j (by omega)) (fun d j hd => by rw [gI_sI, if_neg (by omega)]; exact eo d j (by omega))
    · rw [gI_sI, if_neg (by omega), gI_sI, if_neg (by omega), g4 _ _ (by omega), gI_sI, if_neg (by omega), eo _ _ (by omega)]
      exact hst.2 i hi
    · show (gR τ 56 8 = _ ∧ gR τ 56 9 = _) ∨ (gR τ 56 8 = _ ∧ gR τ 56 9 = _)
      rw [g2 _ _ (by omega), g2 _ _ (by omega)]
      exact hrr
