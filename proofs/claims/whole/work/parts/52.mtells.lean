/-! what the law in force tells: the reference -/
theorem zE_rfl {σ : st_S} : zE σ σ := ⟨rfl, fun _ _ _ => rfl⟩
theorem zE_tr {σ τ υ : st_S} (h : zE σ τ) (g : zE τ υ) : zE σ υ := ⟨g.1.trans h.1, fun c j q => (g.2 c j q).trans (h.2 c j q)⟩
theorem zE_22 {σ : st_S} {v : Int} : zE σ (sI σ 0 22 v) := ⟨rfl, fun c j q => by rw [gI_sI, if_neg (by omega)]⟩
theorem zE_24 {σ : st_S} {v : Int} : zE σ (sI σ 0 24 v) := ⟨rfl, fun c j q => by rw [gI_sI, if_neg (by omega)]⟩
theorem mEn_of {ord : Bool} {σ τ : st_S} {base size : Nat} {cf vf W : Nat → Int} (h : mEn ord σ base size cf vf W) (g : zE σ τ) : mEn ord τ base size cf vf W := by
  obtain ⟨h1, h2, h3, h4, h5, h6⟩ := h
  have e : ∀ c j, c ≠ 0 → gI τ c j = gI σ c j := fun c j hc => g.2 c j (fun z => hc z.1)
  refine ⟨by rw [g.2 _ _ (by omega)]; exact h1, h2, fun i hi => by rw [e _ _ (by decide), e _ _ (by decide)]; exact h3 i hi, h4, fun ho => ?_, fun ho => ?_⟩
  · rw [g.2 0 8 (by omega)]
    exact ⟨(h5 ho).1, fun i hi => by rw [e _ _ (by decide)]; exact (h5 ho).2 i hi⟩
  · rw [g.2 0 8 (by omega)]
    obtain ⟨k1, k2, n, k3, k4, k5⟩ := h6 ho
    refine ⟨k1, fun i hi => by rw [e _ _ (by decide)]; exact k2 i hi, n, k3, by rw [e _ _ (by decide)]; exact k4, fun p hp => ?_⟩
    rw [e 2 p (by decide), e 2 (20 + p) (by decide)]
    exact k5 p hp
theorem m_codeAt {ord : Bool} {σ : st_S} {base size i : Nat} {cf vf W : Nat → Int} {Q : Int → st_S → Prop} (hE : mEn ord σ base size cf vf W) (hi : i < 10000) {x : Int} (hx : x = ((base + i : Nat) : Int)) (hQ : Q (tcf cf size i) σ) : wp_X11_codeAt x σ Q := by
  obtain ⟨h1, h2, h3, -⟩ := hE
  subst hx
  unfold tcf at hQ
  unfold wp_X11_codeAt
  rw [wk266 (by omega), h1]
  refine ⟨fun q => ?_, fun q => ⟨ixn (by omega), ?_⟩⟩
  · rw [if_neg (by omega)] at hQ; exact hQ
  · rw [if_pos (by omega)] at hQ
    rw [Int.toNat_natCast, ← Nat.add_assoc, (h3 i (by omega)).1]
    exact hQ
theorem m_passes {ord : Bool} {σ : st_S} {base size i : Nat} {cf vf W : Nat → Int} {c : Int} {Q : Int → st_S → Prop} (hE : mEn ord σ base size cf vf W) (hi : i < 10000) (hg : gI σ 0 22 = ((base + i : Nat) : Int)) (h1 : tcf cf size i = c → Q 1 (sI σ 0 22 ((base + (i + 1) : Nat) : Int))) (h0 : ¬ tcf cf size i = c → Q 0 σ) : wp_X11_passes0 c σ Q := by
  refine m_codeAt hE hi hg ⟨fun q => ⟨fun _ => ⟨Or.inl rfl, h0 q⟩, fun z => absurd rfl z⟩, fun q => ⟨fun z => absurd z (by decide), fun _ => ?_⟩⟩
  intro x ex
  rw [hg, wks (by have := hE.2.1; omega)] at ex
  subst ex
  intro s es
  subst es
  exact ⟨Or.inr rfl, h1 q⟩
/-- what tells may change in the reference -/
def zT (σ τ : st_S) : Prop := τ.2 = σ.2 ∧ ∀ c j, ¬ (c = 0 ∧ (j = 8 ∨ j = 22 ∨ j = 23 ∨ j = 24)) → gI τ c j = gI σ c j
theorem zT_rfl {σ : st_S} : zT σ σ := ⟨rfl, fun _ _ _ => rfl⟩
theorem zT_tr {σ τ υ : st_S} (h : zT σ τ) (g : zT τ υ) : zT σ υ := ⟨g.1.trans h.1, fun c j q => (g.2 c j q).trans (h.2 c j q)⟩
theorem zT_E {σ τ : st_S} (h : zE σ τ) : zT σ τ := ⟨h.1, fun c j q => h.2 c j (by omega)⟩
/-- the meaning of the law in force, as the reference has it -/
def fMm (K : Nat → Int) (M : zM) : Prop := (K 258 = -1 ∧ M.1 = 0) ∨ ∃ i : Nat, K 258 = (i : Int) ∧ i < 6 ∧ kTx K i M
theorem clv_p {most v : Int} (hm : 1 ≤ most ∧ most ≤ 999) (hv : i32 v) {P : Int → Prop} (h : P (clv most v)) : (0 ≤ p_cmp v 0 → (p_cmp v most ≤ 0 → P v) ∧ (¬ p_cmp v most ≤ 0 → P most)) ∧ (¬ 0 ≤ p_cmp v 0 → P 0) := by
  rw [p_ge (i32_wl hv) (by decide), p_le (i32_wl hv) (i32_wl (by unfold i32; omega))]
  unfold clv at h
  refine ⟨fun z => ⟨fun y => ?_, fun y => ?_⟩, fun z => ?_⟩
  · rw [if_neg (by omega), if_neg (by omega)] at h; exact h
  · rw [if_neg (by omega), if_pos (by omega)] at h; exact h
  · rw [if_pos (by omega)] at h; exact h
theorem tlA_s {M : zM} {verb most dflt : Int} {W : Nat → Int} {j : Nat} : tlA M verb most W dflt (j + 1) = if M.2.1 j = verb ∧ tsB M W j = true then (if verb = 4 then 1 else match M.2.2.1 j W with | some v => clv most v | none => tlA M verb most W dflt j) else tlA M verb most W dflt j := rfl
set_option maxHeartbeats 400000 in
theorem m_tells {verb dflt most : Int} {M : zM} {W : Nat → Int} {σ : st_S} {Q : Int → st_S → Prop} (hv : 0 ≤ verb ∧ verb ≤ 4) (hm : 1 ≤ most ∧ most ≤ 999) (hd : i32 dflt) (hf : fMm (gI σ 2) M) (hW : ∀ i, i < 10 → gI σ 12 i = W (wpm i)) (hW2 : ∀ i, i32 (W i)) (hDi : ∀ j v, j < M.1 → M.2.1 j < 4 → M.2.2.1 j W = some v → i32 v) (h4 : verb = 4 → most = 1) (hQ : ∀ τ, zT σ τ → Q (tlA M verb most W dflt M.1) τ) {hd' : Int} (ehd : hd' = verb + 1) : wp_X11_tells hd' most dflt σ Q := by
  subst ehd
  rcases hf with ⟨h1, h2⟩ | ⟨fi, h1, h2, size, h3, h5, h6⟩
  · rw [h2] at hQ
    exact ⟨fun z => absurd h1 z, fun _ => hQ σ zT_rfl⟩
  · refine ⟨fun _ => ?_, fun z => absurd z (by omega)⟩
    intro s80 e80 x82 e82
    have g258 : gI s80 2 258 = (fi : Int) := by rw [e80]; exact h1
    rw [g258, show (400 * (fi : Int)) = ((400 * fi : Nat) : Int) by omega, wr_n (by omega)] at e82
    subst e82
    intro s83 e83
    have g258' : gI s83 2 258 = (fi : Int) := by rw [e83]; exact g258
    rw [g258', wk259 (by omega)]
    refine ⟨ixn (by omega), ?_⟩
    have g22 : gI s83 0 22 = ((400 * fi : Nat) : Int) := by rw [e83]; rfl
    have gsz : gI s83 2 (259 + fi) = (size : Int) := by rw [e83, e80]; exact h3
    intro x88 e88
    rw [g22, Int.toNat_natCast, gsz, wkn (by omega)] at e88
    subst e88
    intro s89 e89
    have hzT : zT σ s89 := by
      rw [e89, e83, e80]
      refine ⟨rfl, fun c j q => ?_⟩
      rw [gI_sI, if_neg (by omega), gI_sI, if_neg (by omega), gI_sI, if_neg (by omega)]
    have hE : mEn false s89 (400 * fi) size (fun j => gI σ 2 (266 + 400 * fi + j)) (fun j => gI σ 2 (3066 + 400 * fi + j)) W := by
      refine ⟨by rw [e89]; rfl, by omega, fun i hi => ⟨hzT.2 _ _ (by omega), hzT.2 _ _ (by omega)⟩, fun i => i32_iff.mpr (hW2 i), fun _ => ⟨by rw [e89, e83, e80]; rfl, fun i hi => by rw [hzT.2 _ _ (by omega)]; exact hW i hi⟩, fun z => absurd z (by decide)⟩
    have g89 : gI s89 0 22 = ((400 * fi + 0 : Nat) : Int) := by rw [e89, e83]; rfl
    generalize (fun j => gI σ 2 (266 + 400 * fi + j)) = cf at h6 hE
    generalize (fun j => gI σ 2 (3066 + 400 * fi + j)) = vf at h6 hE
    generalize hb : 400 * fi = base at hE g89
    have hb2 : base ≤ 2000 := by omega
    clear e89 e83 e80 g22 gsz g258 g258' h1 h3
    obtain ⟨ts, t0, tn, tj⟩ := h6
    have key : ∀ n j : Nat, j + n = M.1 → ∀ τ, zE s89 τ → gI τ 0 22 = ((base + ts j : Nat) : Int) → L_X11_tells_66 Q (n + 1) (verb + 1) most (tlA M verb most W dflt j) τ := by
      intro n
      induction n with
      | zero =>
        intro j hj τ hτ hg
        have e23 := (mEn_of hE hτ).1
        have ej : j = M.1 := by omega
        refine ⟨fun _ => ?_, fun z => absurd (by rw [ej] at hg; omega) z⟩
        rw [l2i_v (tlA_i hm hd j), ej]
        exact hQ τ (zT_tr hzT (zT_E hτ))
      | succ n ih =>
        intro j hj τ hτ hg
        obtain ⟨c1, c2, c2b, e1, e2, e3, c3, c4, c5, c6, c7, c8, c9⟩ := tj j (by omega)
        replace c2b : 0 ≤ M.2.1 j ∧ M.2.1 j < 5 := c2b
        have e23 := (mEn_of hE hτ).1
        refine ⟨fun z => absurd z (by omega), fun _ => m_codeAt (mEn_of hE hτ) (by omega) hg ?_⟩
        have ecf : tcf cf size (ts j) = M.2.1 j + 1 := by unfold tcf; rw [if_pos c1, c2]; rfl
        rw [ecf]
        intro s71 e71 x73 e73
        have g71 : gI s71 0 22 = ((base + ts j : Nat) : Int) := by rw [e71]; exact hg
        rw [g71, wks (by omega)] at e73
        subst e73
        intro s74 e74
        have z74 : zE s89 s74 := by rw [e74, e71]; exact zE_tr hτ (zE_tr zE_24 zE_22)
        have g74 : gI s74 0 22 = ((base + (ts j + 1) : Nat) : Int) := by rw [e74]; rfl
        have b74 : gI s74 0 24 = 0 := by rw [e74, e71]; rfl
        clear e74 e71 g71
        -- behind the sum
        have aft : ∀ (sv : Int) υ, zE s89 υ → gI υ 0 22 = ((base + e1 : Nat) : Int) → (gI υ 0 24 = 0 ∨ gI υ 0 24 = 1) → (gI υ 0 24 = 0 → i32 sv ∧ (M.2.1 j = verb → tsB M W j = true → clv most sv = tlA M verb most W dflt (j + 1))) → (gI υ 0 24 = 1 → M.2.1 j = verb → tlA M verb most W dflt j = tlA M verb most W dflt (j + 1)) → B_X11_tells_117 Q (L_X11_tells_66 Q (n + 1)) (verb + 1) most (tlA M verb most W dflt j) (M.2.1 j + 1) sv υ := by
          intro sv υ hυ hgu hbu hs1 hs2
          intro x58 e58 s59 e59
          have z59 : zE s89 s59 := by rw [e59]; exact zE_tr hυ zE_24
          have g59 : gI s59 0 22 = ((base + e2 : Nat) : Int) := by
            rw [e59]
            rcases c7 with ⟨-, k, -⟩ | ⟨-, k, -⟩
            · exact absurd k (by decide)
            · rw [k]; exact hgu
          have b59 : gI s59 0 24 = 0 := by rw [e59]; rfl
          clear e59
          have nxt : ∀ (acc : Int) ω, zE s89 ω → gI ω 0 22 = ((base + e3 : Nat) : Int) → acc = tlA M verb most W dflt (j + 1) → B_X11_tells_205 Q (L_X11_tells_66 Q (n + 1)) (verb + 1) most acc ω := by
            intro acc ω hω hgo ha
            intro x48 e48
            rw [hgo, wks (by omega)] at e48
            subst e48
            intro s49 e49
            subst e49
            rw [ha]
            refine ih (j + 1) (by omega) _ (zE_tr hω zE_22) ?_
            rw [c4]
            rfl
          have h152 : ∀ (v0 : Int) ω, zE s89 ω → gI ω 0 22 = ((base + e3 : Nat) : Int) → ((tsB M W j = true ∧ v0 = 1 ∧ gI ω 0 24 = 0) ∨ (tsB M W j = false ∧ (v0 = 0 ∨ ¬ gI ω 0 24 = 0))) → B_X11_tells_152 Q (L_X11_tells_66 Q (n + 1)) (verb + 1) most (tlA M verb most W dflt j) (M.2.1 j + 1) sv x58 v0 ω := by
            intro v0 ω hω hgo hcase
            have same : (¬ M.2.1 j = verb ∨ tsB M W j = false) → B_X11_tells_205 Q (L_X11_tells_66 Q (n + 1)) (verb + 1) most (tlA M verb most W dflt j) ω := by
              intro hh
              refine nxt _ ω hω hgo ?_
              rw [tlA_s, if_neg (fun z => by rcases hh with hh | hh; exact hh z.1; rw [hh] at z; exact absurd z.2 (by decide))]
            refine ⟨fun z => same (Or.inl (fun y => z (by omega))), fun z => ⟨fun y => ?_, fun y => ⟨fun x => ?_, fun x => ⟨fun w => ?_, fun w => ?_⟩⟩⟩⟩
            · rcases hcase with h | h
              · exact absurd y (by omega)
              · exact same (Or.inr h.1)
            · rcases hcase with h | h
              · exact absurd h.2.2 x
              · exact same (Or.inr h.1)
            · rcases hcase with h | h
              · refine nxt _ ω hω hgo (hs2 ?_ (by omega))
                rcases hbu with hbu | hbu
                · exact absurd (e58.trans hbu) w
                · exact hbu
              · exact same (Or.inr h.1)
            · rcases hcase with h | h
              · obtain ⟨k1, k2⟩ := hs1 (e58.symm.trans w)
                exact clv_p hm k1 (P := fun a => B_X11_tells_203 Q (L_X11_tells_66 Q (n + 1)) (verb + 1) most a ω) (nxt _ ω hω hgo (k2 (by omega) h.1))
              · rcases h.2 with e | e
                · exact absurd e y
                · exact absurd x e
          refine m_passes (mEn_of hE z59) (by omega) g59 (fun q => ⟨fun z => absurd z (by decide), fun _ => ?_⟩) (fun q => ⟨fun _ => ?_, fun z => absurd rfl z⟩)
          · cases hdt : M.2.2.2.1 j with
            | none => exact absurd q (c8 hdt).1
            | some D =>
              obtain ⟨-, d2, d3⟩ := c9 D hdt
              refine d2 (sI s59 0 22 ((base + (e2 + 1) : Nat) : Int)) base W 1 _ (mEn_of hE (zE_tr z59 zE_22)) rfl (Or.inl b59) (Or.inr rfl) (fun r ω hz => ?_)
              obtain ⟨r1, r2, r3, -⟩ := hz
              have r3' := r3 (by decide) b59
              have zω : zE s89 ω := zE_tr (zE_tr z59 zE_22) r1
              have tse : tsB M W j = decide (D W = some 1) := by unfold tsB; rw [hdt]
              cases hDW : D W with
              | none =>
                have hbr := r3'.2 hDW
                rw [hDW] at tse
                refine ⟨fun _ => h152 0 ω zω r2 (Or.inr ⟨tse, Or.inl rfl⟩), fun _ => h152 1 ω zω r2 (Or.inr ⟨tse, Or.inr (by omega)⟩)⟩
              | some v =>
                have hv2 := r3'.1 v hDW
                rw [hDW] at tse
                rcases d3 W v hDW with e | e
                · subst e
                  exact ⟨fun _ => h152 0 ω zω r2 (Or.inr ⟨tse, Or.inl rfl⟩), fun z => absurd hv2.1 z⟩
                · subst e
                  exact ⟨fun z => absurd (hv2.1.symm.trans z) (by decide), fun _ => h152 1 ω zω r2 (Or.inl ⟨tse, rfl, hv2.2⟩)⟩
          · cases hdt : M.2.2.2.1 j with
            | none =>
              refine h152 1 s59 z59 ?_ (Or.inl ⟨by unfold tsB; rw [hdt], rfl, b59⟩)
              rw [g59, (c8 hdt).2]
            | some D => exact absurd (c9 D hdt).1 q
        refine ⟨fun z => ?_, fun z => ?_⟩
        · have hs : hasSum false (M.2.1 j) := by
            show M.2.1 j < 4
            omega
          refine c5 hs s74 base W 1 _ (mEn_of hE z74) g74 (Or.inl b74) (Or.inr rfl) (fun r ω hz => ?_)
          obtain ⟨r1, r2, r3, -⟩ := hz
          have r3' := r3 (by decide) b74
          refine aft r ω (zE_tr z74 r1) r2 ?_ ?_ ?_
          · cases hDW : M.2.2.1 j W with
            | none => exact Or.inr (r3'.2 hDW)
            | some v => exact Or.inl (r3'.1 v hDW).2
          · intro hz0
            cases hDW : M.2.2.1 j W with
            | none => exact absurd (r3'.2 hDW) (by omega)
            | some v =>
              have := r3'.1 v hDW
              rw [this.1]
              refine ⟨hDi j v (by omega) hs hDW, fun h1 h2 => ?_⟩
              rw [tlA_s, if_pos ⟨h1, h2⟩, if_neg (by omega), hDW]
          · intro hz1 h1
            cases hDW : M.2.2.1 j W with
            | none =>
              rw [tlA_s]
              split
              · rw [if_neg (by omega), hDW]
              · rfl
            | some v => exact absurd (r3'.1 v hDW).2 (by omega)
        · have e4 : M.2.1 j = 4 := by omega
          have hns : e1 = ts j + 1 := c6 (by show ¬ M.2.1 j < 4; omega)
          refine aft 1 s74 z74 (by rw [g74, hns]) (Or.inl b74) (fun _ => ⟨by unfold i32; omega, fun h1 h2 => ?_⟩) (fun z => absurd z (by omega))
          rw [tlA_s, if_pos ⟨h1, h2⟩, if_pos (by omega), h4 (by omega)]
          rfl
    exact ⟨M.1 + 1, key M.1 0 (by omega) s89 zE_rfl (by rw [t0]; exact g89)⟩
