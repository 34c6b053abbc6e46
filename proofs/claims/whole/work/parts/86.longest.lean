/-! the class's search by nights: longest, turns, canReach -/
def sNi (T : Nat) (night _used : Nat) : Prop := T ≤ night
theorem rR_pth {cr : Nat → Nat → List Nat} {nl : Nat → Nat} {T : Nat} : ∀ (f : Nat) {night used ld : Nat}, rR cr nl (sNi T) f night used ld → pth cr (T - night) night used := by
  intro f
  induction f with
  | zero => intro night used ld h; have h' : T ≤ night := h; rw [show T - night = 0 by omega]; exact True.intro
  | succ f ih =>
    intro night used ld h
    by_cases q : T ≤ night
    · rw [show T - night = 0 by omega]; exact True.intro
    · rcases h with h | ⟨c, h1, h2, h3⟩
      · exact absurd h q
      · rw [show T - night = (T - (night + 1)) + 1 by omega]
        exact ⟨c, h1, ih h3⟩
theorem w_noteN {σ : st_S} {T night used : Nat} {Q : st_S → Prop} (hT : night ≤ T) (hp : gI σ 56 14 = 0) (hb : 0 ≤ gI σ 56 13 ∧ gI σ 56 13 ≤ (T : Int)) (hQ : ∀ τ, zNt σ τ → (0 ≤ gI τ 56 13 ∧ gI τ 56 13 ≤ (T : Int)) → (sNi T night used → (T : Int) ≤ gI τ 56 13) → ((T : Int) ≤ gI σ 56 13 → gI τ 56 13 = gI σ 56 13 ∧ ∀ j, gI τ 61 j = gI σ 61 j) → (¬ (T : Int) ≤ gI σ 56 13 → (T : Int) ≤ gI τ 56 13 → sNi T night used ∧ ∀ j, j < 10 → gI τ 61 j = gI σ 60 j) → Q τ) : wp_X8_note (night : Int) (used : Int) σ Q := by
  refine ⟨fun _ => ⟨fun _ => ⟨fun z => ?_, fun z => ⟨fun _ => ?_, fun y => absurd hp y⟩⟩, fun y => absurd hp y⟩, fun y => absurd hp y⟩
  · exact hQ σ ⟨rfl, fun _ _ _ _ => rfl⟩ hb (fun q => by have q' : T ≤ night := q; omega) (fun _ => ⟨rfl, fun _ => rfl⟩) (fun a b => absurd b a)
  · intro s1 e1 s2 e2
    have b2 : gI s2 56 13 = (night : Int) := by rw [e2, sC_ne (by decide), e1, gI_sI, if_pos ⟨rfl, rfl⟩]
    refine hQ s2 ⟨by rw [e2, e1]; rfl, fun c j q1 q2 => by rw [e2, sC_ne q2, e1, gI_sI, if_neg q1]⟩ (by rw [b2]; omega) (fun q => by have q' : T ≤ night := q; rw [b2]; omega) (fun q => by omega) (fun _ q => ⟨by rw [b2] at q; show T ≤ night; omega, fun j hj => ?_⟩)
    rw [e2, sC_cp (by show j < 10; exact hj), e1, gI_sI, if_neg (by omega)]
theorem w_vainN {σ : st_S} {K : Nat → Int} {n away hsh P lm T night used H ld : Nat} {M : zM} {aim trn : Bool} {pr g : Nat → Nat} {Q : Int → st_S → Prop} (hP1 : P < 1024) (hP : ∀ p, p < n → P.testBit p = (decide (¬ K p = 3) && !away.testBit p)) (hl10 : lm ≤ 10) (hTl : T ≤ lm) (hTa : aim = true → T = lm) (hN : night ≤ 9) (hu : used < 1024) (hct : night ≤ ctN used n) (hH : hOk H (hdV M K n hsh used) n) (hs : sCx σ K n M hsh P lm false aim trn pr) (hsu : sNi T night used → (T : Int) ≤ gI σ 56 13)
    (h1 : (rR (crL M K n away hsh) (nlF trn g n) (sNi T) (10 - night) night used ld → (T : Int) ≤ gI σ 56 13) → Q 1 σ) (h0 : night < lm → Q 0 σ) : wp_X8_isVain (night : Int) (used : Int) (H : Int) σ Q := by
  obtain ⟨s1, s2, s3, s4, s5, s6, s7, s8, s9⟩ := hs
  have hn := s1.1.1.2.2
  rw [if_neg (by decide)] at s6
  refine ⟨fun z => ?_, fun z => h1 (fun q => hsu ?_)⟩
  · rw [s3, n_andn (by omega) (by omega)]
    rw [s5] at z
    refine w_nightsFrom s1 hH (rs_P (away := away) (used := used) hP1 hP) (by omega) hct (fun r hr hpt => ?_)
    intro x ex
    rw [wkn (by omega)] at ex
    subst ex
    have hope : rR (crL M K n away hsh) (nlF trn g n) (sNi T) (10 - night) night used ld → T ≤ night + r := fun q => by have := hpt _ (rR_pth _ q); omega
    have b49 : B_X8_isVain_49 Q (used : Int) ((night + r : Nat) : Int) σ := by
      refine ⟨fun _ => ⟨fun y => ⟨Or.inr rfl, h1 (fun _ => by omega)⟩, fun y => ⟨fun w => ⟨Or.inl rfl, h0 (by omega)⟩, fun w => ⟨Or.inr rfl, h1 (fun q => by have := hope q; omega)⟩⟩⟩, fun y => absurd s6 y⟩
    refine ⟨fun _ => b49, fun y => ⟨fun _ => b49, fun w => h1 (fun q => ?_)⟩⟩
    have ha : aim = true := by
      cases haim : aim with
      | true => rfl
      | false => rw [haim, if_neg (by decide)] at s7; exact absurd s7 y
    have := hope q
    have := hTa ha
    rw [s5] at w
    omega
  · rw [s5] at z
    show T ≤ night
    omega
