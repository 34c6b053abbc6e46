/-! orders: what is kept ahead of a run, and laid back -/
theorem m_o22 {σ : st_S} {Q : Int → st_S → Prop} (hQ : ∀ τ, τ.2 = σ.2 → (∀ c j, c ≠ 5 → gI τ c j = gI σ c j) → (∀ j, j < 34 → gI τ 5 j = gI σ 2 j) → ∃ m48 : Nat, L_X11_orders_48 Q m48 0 τ) : ∃ m22 : Nat, L_X11_orders_22 Q m22 0 σ := by
  have key : ∀ d k : Nat, k + d = 34 → ∀ τ, τ.2 = σ.2 → (∀ c j, c ≠ 5 → gI τ c j = gI σ c j) → (∀ j, j < k → gI τ 5 j = gI σ 2 j) → L_X11_orders_22 Q (d + 1) (k : Int) τ := by
    intro d
    induction d with
    | zero =>
      intro k hk τ a1 a2 a3
      exact ⟨fun _ => hQ τ a1 a2 (fun j hj => a3 j (by omega)), fun w => absurd (by omega) w⟩
    | succ d ih =>
      intro k hk τ a1 a2 a3
      refine ⟨fun w => absurd w (by omega), fun _ => ⟨ixn (by omega), ixn (by omega), ?_⟩⟩
      intro s es x ex
      rw [wks (by omega)] at ex
      subst ex
      rw [Int.toNat_natCast] at es
      refine ih (k + 1) (by omega) s (by rw [es]; exact a1) (fun c j hc => by rw [es, gI_sI, if_neg (by omega)]; exact a2 c j hc) (fun j hj => ?_)
      by_cases ej : j = k
      · subst ej; rw [es, gI_sI, if_pos ⟨rfl, rfl⟩]; exact a2 2 j (by decide)
      · rw [es, gI_sI, if_neg (by omega)]; exact a3 j (by omega)
  exact ⟨35, key 34 0 rfl σ rfl (fun _ _ _ => rfl) (fun j hj => absurd hj (Nat.not_lt_zero _))⟩
theorem m_o48 {σ : st_S} {Q : Int → st_S → Prop} (hQ : ∀ τ, τ.2 = σ.2 → (∀ c j, c ≠ 14 → gI τ c j = gI σ c j) → (∀ j, j < 560 → gI τ 14 j = gI σ 13 j) → ∀ x87 : Int, x87 = gI τ 0 28 → wp_X11_lays 6 τ (fun s89 => ∀ s90 : st_S, s90 = sI s89 0 42 0 → ∀ s91 : st_S, s91 = sI s90 0 43 2400 → ∀ x94 : Int, x94 = wr (gI s91 0 43 + gI s91 2 265) → ∃ m112 : Nat, L_X11_orders_112 Q m112 x87 x94 0 s91)) : ∃ m48 : Nat, L_X11_orders_48 Q m48 0 σ := by
  have key : ∀ d k : Nat, k + d = 560 → ∀ τ, τ.2 = σ.2 → (∀ c j, c ≠ 14 → gI τ c j = gI σ c j) → (∀ j, j < k → gI τ 14 j = gI σ 13 j) → L_X11_orders_48 Q (d + 1) (k : Int) τ := by
    intro d
    induction d with
    | zero =>
      intro k hk τ a1 a2 a3
      exact ⟨fun _ => hQ τ a1 a2 (fun j hj => a3 j (by omega)), fun w => absurd (by omega) w⟩
    | succ d ih =>
      intro k hk τ a1 a2 a3
      refine ⟨fun w => absurd w (by omega), fun _ => ⟨ixn (by omega), ixn (by omega), ?_⟩⟩
      intro s es x ex
      rw [wks (by omega)] at ex
      subst ex
      rw [Int.toNat_natCast] at es
      refine ih (k + 1) (by omega) s (by rw [es]; exact a1) (fun c j hc => by rw [es, gI_sI, if_neg (by omega)]; exact a2 c j hc) (fun j hj => ?_)
      by_cases ej : j = k
      · subst ej; rw [es, gI_sI, if_pos ⟨rfl, rfl⟩]; exact a2 13 j (by decide)
      · rw [es, gI_sI, if_neg (by omega)]; exact a3 j (by omega)
  exact ⟨561, key 560 0 rfl σ rfl (fun _ _ _ => rfl) (fun j hj => absurd hj (Nat.not_lt_zero _))⟩
theorem m_o164 {σ : st_S} {Q : Int → st_S → Prop} {l1 l3 : Int} (hQ : ∀ τ, τ.2 = σ.2 → (∀ c j, c ≠ 13 → gI τ c j = gI σ c j) → (∀ j, j < 560 → gI τ 13 j = gI σ 14 j) → ∀ s61 : st_S, s61 = sI τ 0 28 l1 → ∀ s62 : st_S, s62 = sI s61 0 41 l3 → wp_X11_refuses (-3) s62 (fun r63 s64 => Q r63 s64)) : ∃ m164 : Nat, L_X11_orders_164 Q m164 l1 l3 0 σ := by
  have key : ∀ d k : Nat, k + d = 560 → ∀ τ, τ.2 = σ.2 → (∀ c j, c ≠ 13 → gI τ c j = gI σ c j) → (∀ j, j < k → gI τ 13 j = gI σ 14 j) → L_X11_orders_164 Q (d + 1) l1 l3 (k : Int) τ := by
    intro d
    induction d with
    | zero =>
      intro k hk τ a1 a2 a3
      exact ⟨fun _ => hQ τ a1 a2 (fun j hj => a3 j (by omega)), fun w => absurd (by omega) w⟩
    | succ d ih =>
      intro k hk τ a1 a2 a3
      refine ⟨fun w => absurd w (by omega), fun _ => ⟨ixn (by omega), ixn (by omega), ?_⟩⟩
      intro s es x ex
      rw [wks (by omega)] at ex
      subst ex
      rw [Int.toNat_natCast] at es
      refine ih (k + 1) (by omega) s (by rw [es]; exact a1) (fun c j hc => by rw [es, gI_sI, if_neg (by omega)]; exact a2 c j hc) (fun j hj => ?_)
      by_cases ej : j = k
      · subst ej; rw [es, gI_sI, if_pos ⟨rfl, rfl⟩]; exact a2 14 j (by decide)
      · rw [es, gI_sI, if_neg (by omega)]; exact a3 j (by omega)
  exact ⟨561, key 560 0 rfl σ rfl (fun _ _ _ => rfl) (fun j hj => absurd hj (Nat.not_lt_zero _))⟩
theorem m_o134 {σ : st_S} {Q : Int → st_S → Prop} {l1 l3 : Int} (hQ : ∀ τ, τ.2 = σ.2 → (∀ c j, ¬ (c = 2 ∧ j < 34) → gI τ c j = gI σ c j) → (∀ j, j < 34 → gI τ 2 j = gI σ 5 j) → ∃ m164 : Nat, L_X11_orders_164 Q m164 l1 l3 0 τ) : ∃ m134 : Nat, L_X11_orders_134 Q m134 l1 l3 0 σ := by
  have key : ∀ d k : Nat, k + d = 34 → ∀ τ, τ.2 = σ.2 → (∀ c j, ¬ (c = 2 ∧ j < 34) → gI τ c j = gI σ c j) → (∀ j, j < k → gI τ 2 j = gI σ 5 j) → L_X11_orders_134 Q (d + 1) l1 l3 (k : Int) τ := by
    intro d
    induction d with
    | zero =>
      intro k hk τ a1 a2 a3
      exact ⟨fun _ => hQ τ a1 a2 (fun j hj => a3 j (by omega)), fun w => absurd (by omega) w⟩
    | succ d ih =>
      intro k hk τ a1 a2 a3
      refine ⟨fun w => absurd w (by omega), fun _ => ⟨ixn (by omega), ixn (by omega), ?_⟩⟩
      intro s es x ex
      rw [wks (by omega)] at ex
      subst ex
      rw [Int.toNat_natCast] at es
      refine ih (k + 1) (by omega) s (by rw [es]; exact a1) (fun c j hc => by rw [es, gI_sI, if_neg (by omega)]; exact a2 c j hc) (fun j hj => ?_)
      by_cases ej : j = k
      · subst ej; rw [es, gI_sI, if_pos ⟨rfl, rfl⟩]; exact a2 5 j (by omega)
      · rw [es, gI_sI, if_neg (by omega)]; exact a3 j (by omega)
  exact ⟨35, key 34 0 rfl σ rfl (fun _ _ _ => rfl) (fun j hj => absurd hj (Nat.not_lt_zero _))⟩
/-- the class's log copied -/
def cpL (σ τ : st_S) (t a : Nat) : Prop := τ.2 = σ.2 ∧ (∀ c j, c ≠ t + 1 → ¬ (c = t ∧ j ≤ 1) → gI τ c j = gI σ c j) ∧ gI τ t 0 = gI σ a 0 ∧ gI τ t 1 = gI σ a 1 ∧ ∀ j, j < 560 → gI τ (t + 1) j = gI σ (a + 1) j
theorem w_copyLog {t a : Nat} {σ : st_S} {Q : st_S → Prop} (ht : gK σ t = 20) (ha : gK σ a = 20) (hsep : t + 1 < a ∨ a + 1 < t) (hQ : ∀ τ, cpL σ τ t a → Q τ) : wp_X4_copyFrom t a σ Q := by
  refine ⟨ha, ht, ?_⟩
  intro s1 e1 s2 e2 s3 e3
  have f2 : ∀ c j, ¬ (c = t ∧ j ≤ 1) → gI s2 c j = gI σ c j := fun c j hc => by rw [e2, gI_sI, if_neg (by omega), e1, gI_sI, if_neg (by omega)]
  refine hQ s3 ⟨by rw [e3, e2, e1]; rfl, fun c j h1 h2 => by rw [e3, sC_ne h1]; exact f2 c j h2, ?_, ?_, fun j hj => ?_⟩
  · rw [e3, sC_ne (by omega), e2, gI_sI, if_neg (by omega), e1, gI_sI, if_pos ⟨rfl, rfl⟩]
  · rw [e3, sC_ne (by omega), e2, gI_sI, if_pos ⟨rfl, rfl⟩, e1, gI_sI, if_neg (by omega)]
  · rw [e3, sC_cp (by show j < 560; exact hj)]
    exact f2 _ _ (by omega)
theorem zLg_cp {B : Nat} {σ τ : st_S} {t a : Nat} {L : Nat → Int} {k : Int} {n : Nat} (hn : n ≤ 10) (h : zLg B σ a L k n) (g : cpL σ τ t a) : zLg B τ t L k n := by
  obtain ⟨m, o, h1, h2, h3, h4, h5, h6⟩ := h
  refine ⟨m, o, by rw [g.2.2.1]; exact h1, h2, h3, by rw [g.2.2.2.1]; exact h4, h5, fun i hi => ?_⟩
  have r : (o + i) % 16 < 16 := Nat.mod_lt _ (by decide)
  have e : ∀ j, j < 35 → gI τ (t + 1) ((o + i) % 16 * 35 + j) = gI σ (a + 1) ((o + i) % 16 * 35 + j) := fun j hj => g.2.2.2.2 _ (by omega)
  obtain ⟨a1, a2, a3, a4, a5, a6⟩ := h6 i hi
  refine ⟨?_, ?_, ?_, ?_, ?_, fun p hp => ⟨?_, ?_, fun w => ?_⟩⟩
  · show (0 ≤ gI τ (t + 1) ((o + i) % 16 * 35 + 0) ∧ gI τ (t + 1) ((o + i) % 16 * 35 + 0) ≤ 2 ∧ gI τ (t + 1) ((o + i) % 16 * 35 + 0) = L (35 * i + 34)); rw [e 0 (by decide)]; exact a1
  · show (gI τ (t + 1) ((o + i) % 16 * 35 + 1) = _ ∧ _); rw [e 1 (by decide)]; exact a2
  · show gI τ (t + 1) ((o + i) % 16 * 35 + 2) = _; rw [e 2 (by decide)]; exact a3
  · show (gI τ (t + 1) ((o + i) % 16 * 35 + 3) = _ ∧ _); rw [e 3 (by decide)]; exact a4
  · show gI τ (t + 1) ((o + i) % 16 * 35 + 4) = _; rw [e 4 (by decide)]; exact a5
  · show (gI τ (t + 1) ((o + i) % 16 * 35 + (5 + p)) = _ ∧ _); rw [e (5 + p) (by omega)]; exact (a6 p hp).1
  · show (gI τ (t + 1) ((o + i) % 16 * 35 + (15 + p)) = _ ∧ _); rw [e (15 + p) (by omega)]; exact (a6 p hp).2.1
  · show gI τ (t + 1) ((o + i) % 16 * 35 + (25 + p)) = _; rw [e (25 + p) (by omega)]; exact (a6 p hp).2.2 w
