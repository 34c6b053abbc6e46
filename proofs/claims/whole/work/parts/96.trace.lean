/-! late: the class -/
/-- who may have lit it when -/
def rch (cr : Nat → Nat → List Nat) : Nat → Nat → Prop
  | 0, u => u = 0
  | k + 1, u => ∃ u' c, rch cr k u' ∧ c ∈ cr k u' ∧ u = u' ||| c
/-- a row of T nights can go through it -/
def rdR (cr : Nat → Nat → List Nat) (T k u : Nat) : Prop := T ≤ k + lnV cr (11 - k) k u
theorem rdR_up {cr : Nat → Nat → List Nat} {T k u c : Nat} (hk : k ≤ 9) (hc : c ∈ cr k u) (h : rdR cr T (k + 1) (u ||| c)) : rdR cr T k u := by
  unfold rdR at *
  have e : lnV cr (11 - k) k u = (cr k u).foldl (fun b c => mxN b (1 + lnV cr (11 - (k + 1)) (k + 1) (u ||| c))) 0 := by
    rw [show 11 - k = (11 - (k + 1)) + 1 by omega]; rfl
  have m := mx_fold (h := fun c => 1 + lnV cr (11 - (k + 1)) (k + 1) (u ||| c)) (x := 1 + lnV cr (11 - (k + 1)) (k + 1) (u ||| c)) (l := cr k u) (b := 0)
  rw [← e] at m
  have := m.mpr (Or.inr ⟨c, hc, Nat.le_refl _⟩)
  omega
theorem rdR_dn {cr : Nat → Nat → List Nat} {T k u : Nat} (hk : k ≤ 9) (hT : k < T) (h : rdR cr T k u) : ∃ c, c ∈ cr k u ∧ rdR cr T (k + 1) (u ||| c) := by
  unfold rdR at *
  have e : lnV cr (11 - k) k u = (cr k u).foldl (fun b c => mxN b (1 + lnV cr (11 - (k + 1)) (k + 1) (u ||| c))) 0 := by
    rw [show 11 - k = (11 - (k + 1)) + 1 by omega]; rfl
  have m := mx_fold (h := fun c => 1 + lnV cr (11 - (k + 1)) (k + 1) (u ||| c)) (x := T - k) (l := cr k u) (b := 0)
  rw [← e] at m
  rcases m.mp (by omega) with w | ⟨c, w1, w2⟩
  · omega
  · have w2' : T - k ≤ 1 + lnV cr (11 - (k + 1)) (k + 1) (u ||| c) := w2
    exact ⟨c, w1, by omega⟩
/-- p lights it on night k in such a row -/
def gdR (cr : Nat → Nat → List Nat) (T p k : Nat) : Prop := ∃ u c, rch cr k u ∧ c ∈ cr k u ∧ rdR cr T (k + 1) (u ||| c) ∧ c.testBit p = true
def seB (σ : st_S) (k u : Nat) : Bool := sbt (gI σ 57 u) k
def fiB (σ : st_S) (k u : Nat) : Bool := sbt (gI σ 58 u) k
theorem sb_put {σ : st_S} {c k u k' u' : Nat} (hk : k < 10) : sbt (gI (sI σ c u (o_or (gI σ c u) (o_shl 1 (k : Int)))) c u') k' = true ↔ sbt (gI σ c u') k' = true ∨ (k' = k ∧ u' = u) := by
  rw [gI_sI]
  by_cases e : u' = u
  · subst e
    rw [if_pos ⟨rfl, rfl⟩, sbt_or (by omega), Bool.or_eq_true, decide_eq_true_eq]
    constructor
    · rintro (h | h)
      · exact Or.inl h
      · exact Or.inr ⟨h.symm, rfl⟩
    · rintro (h | h)
      · exact Or.inl h
      · exact Or.inr h.1.symm
  · rw [if_neg (fun z => e z.2)]
    exact ⟨Or.inl, fun h => h.elim id (fun z => absurd z.2 e)⟩
def trC (σ : st_S) (K : Nat → Int) (n : Nat) (M : zM) (T : Nat) : Prop := ppC σ K n M ∧ sKd σ ∧ gI σ 56 10 = (ppl K n : Int) ∧ gI σ 56 12 = (T : Int)
def trZ (night : Nat) (σ τ : st_S) : Prop := τ.2 = σ.2 ∧ ∀ c j, ¬ (c = 42 ∧ 13 ≤ j ∧ j ≤ 16) → ¬ (c = 51 ∧ 210 * night ≤ j) → c ≠ 57 → c ≠ 58 → c ≠ 62 → gI τ c j = gI σ c j
theorem trZ_tr {night : Nat} {σ τ υ : st_S} (h : trZ night σ τ) (g : trZ night τ υ) : trZ night σ υ := ⟨g.1.trans h.1, fun c j a b d e f => (g.2 c j a b d e f).trans (h.2 c j a b d e f)⟩
theorem trZ_rfl {night : Nat} {σ : st_S} : trZ night σ σ := ⟨rfl, fun _ _ _ _ _ _ _ => rfl⟩
theorem trZ_up {night : Nat} {σ τ : st_S} (h : trZ (night + 1) σ τ) : trZ night σ τ := ⟨h.1, fun c j a b d e f => h.2 c j a (by omega) d e f⟩
theorem trZ_Q {night : Nat} {σ τ : st_S} (h : zQ night σ τ) : trZ night σ τ := ⟨h.1, fun c j a b d e f => h.2 c j a b⟩
theorem trC_of {night : Nat} {σ τ : st_S} {K : Nat → Int} {n T : Nat} {M : zM} (h : trC σ K n M T) (g : trZ night σ τ) : trC τ K n M T := by
  obtain ⟨h1, h2, h3, h4⟩ := h
  refine ⟨ppC_of h1 g.1 (fun c j q => g.2 c j (by omega) (by omega) (by omega) (by omega) (by omega)), sKd_of h2 g.1, ?_, ?_⟩
  · rw [g.2 _ _ (by omega) (by omega) (by decide) (by decide) (by decide)]; exact h3
  · rw [g.2 _ _ (by omega) (by omega) (by decide) (by decide) (by decide)]; exact h4
/-- it only grows -/
def trM (σ τ : st_S) : Prop := (∀ k u, k < 10 → u < 1024 → seB σ k u = true → seB τ k u = true ∧ fiB τ k u = fiB σ k u) ∧ ∀ p, p < 10 → gI σ 62 p ≤ gI τ 62 p
theorem trM_rfl {σ : st_S} : trM σ σ := ⟨fun _ _ _ _ q => ⟨q, rfl⟩, fun _ _ => Int.le_refl _⟩
theorem trM_tr {σ τ υ : st_S} (h : trM σ τ) (g : trM τ υ) : trM σ υ := ⟨fun k u a b q => ⟨(g.1 k u a b (h.1 k u a b q).1).1, ((g.1 k u a b (h.1 k u a b q).1).2).trans (h.1 k u a b q).2⟩, fun p hp => Int.le_trans (h.2 p hp) (g.2 p hp)⟩
/-- a state that is gone through -/
def cpS (σ : st_S) (cr : Nat → Nat → List Nat) (T k u : Nat) : Prop := (fiB σ k u = true ↔ rdR cr T k u) ∧ ∀ c, c ∈ cr k u → (k + 1 < T → seB σ (k + 1) (u ||| c) = true) ∧ (rdR cr T (k + 1) (u ||| c) → ∀ p, p < 10 → c.testBit p = true → (k : Int) ≤ gI σ 62 p)
def clo (σ : st_S) (cr : Nat → Nat → List Nat) (T night : Nat) : Prop := ∀ k u, night ≤ k → k < T → u < 1024 → seB σ k u = true → cpS σ cr T k u
def snd1 (σ : st_S) (cr : Nat → Nat → List Nat) (T : Nat) : Prop := (∀ p, p < 10 → gI σ 62 p = -1 ∨ ∃ k : Nat, k < 10 ∧ gI σ 62 p = (k : Int) ∧ gdR cr T p k) ∧ ∀ k u, k < 10 → u < 1024 → fiB σ k u = true → seB σ k u = true
theorem w_tellLate {σ : st_S} {c night : Nat} {Q : st_S → Prop} (hc : c < 1024) (hQ : ∀ τ, τ.2 = σ.2 → (∀ d j, d ≠ 62 → gI τ d j = gI σ d j) → (∀ p, p < 10 → gI τ 62 p = if c.testBit p then o_max (gI σ 62 p) (night : Int) else gI σ 62 p) → Q τ) : wp_X8_tellLate (c : Int) (night : Int) σ Q := by
  have key : ∀ m p : Nat, p + m = 10 → ∀ τ, τ.2 = σ.2 → (∀ d j, d ≠ 62 → gI τ d j = gI σ d j) → (∀ q, q < p → gI τ 62 q = if c.testBit q then o_max (gI σ 62 q) (night : Int) else gI σ 62 q) → (∀ q, p ≤ q → gI τ 62 q = gI σ 62 q) → L_X8_tellLate_2 Q (m + 1) (c : Int) (night : Int) (p : Int) τ := by
    intro m
    induction m with
    | zero =>
      intro p hp τ a1 a2 a3 a4
      exact ⟨fun _ => hQ τ a1 a2 (fun q hq => a3 q (by omega)), fun z => absurd (by omega) z⟩
    | succ m ih =>
      intro p hp τ a1 a2 a3 a4
      have nxt : ∀ υ, υ.2 = σ.2 → (∀ d j, d ≠ 62 → gI υ d j = gI σ d j) → (∀ q, q < p + 1 → gI υ 62 q = if c.testBit q then o_max (gI σ 62 q) (night : Int) else gI σ 62 q) → (∀ q, p + 1 ≤ q → gI υ 62 q = gI σ 62 q) → B_X8_tellLate_32 Q (L_X8_tellLate_2 Q (m + 1)) (c : Int) (night : Int) (p : Int) υ := by
        intro υ b1 b2 b3 b4 x ex
        rw [wks (by omega)] at ex
        subst ex
        exact ih (p + 1) (by omega) υ b1 b2 b3 b4
      refine ⟨fun z => absurd z (by omega), fun _ => ?_⟩
      refine (fun w => ⟨w.2, w.1⟩) (w_bit hc (by omega) (fun hb => ⟨ixn (by omega), ixn (by omega), ?_⟩) (fun hb => nxt τ a1 a2 (fun q hq => ?_) (fun q hq => a4 q (by omega))))
      · by_cases e : q = p
        · subst e; rw [hb, if_neg (by decide)]; exact a4 q (Nat.le_refl _)
        · exact a3 q (by omega)
      · intro s es
        rw [Int.toNat_natCast, a4 p (Nat.le_refl _)] at es
        refine nxt s (by rw [es]; exact a1) (fun d j hd => by rw [es, gI_sI, if_neg (by omega)]; exact a2 d j hd) (fun q hq => ?_) (fun q hq => by rw [es, gI_sI, if_neg (by omega)]; exact a4 q (by omega))
        by_cases e : q = p
        · subst e; rw [es, gI_sI, if_pos ⟨rfl, rfl⟩, hb, if_pos rfl]
        · rw [es, gI_sI, if_neg (by omega)]; exact a3 q (by omega)
  exact ⟨11, key 10 0 (by omega) σ rfl (fun _ _ _ => rfl) (fun q hq => absurd hq (by omega)) (fun _ _ => rfl)⟩
theorem omx {a b : Int} : a ≤ o_max a b ∧ b ≤ o_max a b ∧ (o_max a b = a ∨ o_max a b = b) := by
  unfold o_max
  split
  · refine ⟨?_, ?_, ?_⟩ <;> omega
  · refine ⟨?_, ?_, ?_⟩ <;> omega
theorem cpS_m {σ τ : st_S} {cr : Nat → Nat → List Nat} {T k u : Nat} (h : cpS σ cr T k u) (hf : fiB τ k u = fiB σ k u) (hse : ∀ u', u' < 1024 → k + 1 < T → seB σ (k + 1) u' = true → seB τ (k + 1) u' = true) (hl : ∀ p, p < 10 → gI σ 62 p ≤ gI τ 62 p) (hu : u < 1024) (hc : ∀ c, c ∈ cr k u → c < 1024) : cpS τ cr T k u := by
  refine ⟨by rw [hf]; exact h.1, fun c hcm => ⟨fun w => ?_, fun w p hp hb => ?_⟩⟩
  · exact hse _ (Nat.or_lt_two_pow (n := 10) hu (hc c hcm)) w ((h.2 c hcm).1 w)
  · exact Int.le_trans ((h.2 c hcm).2 w p hp hb) (hl p hp)
set_option maxHeartbeats 4000000 in
theorem w_trace {K : Nat → Int} {n T : Nat} {M : zM} (hn : n ≤ 10) (hT : T ≤ 10) : ∀ (d night used H : Nat) {σ : st_S} {Q : Int → st_S → Prop}, 10 - night < d → night ≤ T → used < 1024 → rch (crL M K n 0 0) night used → night ≤ ctN used n → hOk H (hdV M K n 0 used) n → trC σ K n M T → clo σ (crL M K n 0 0) T night → snd1 σ (crL M K n 0 0) T →
    (∀ τ r, (r = 0 ∨ r = 1) → trZ night σ τ → clo τ (crL M K n 0 0) T night → snd1 τ (crL M K n 0 0) T → trM σ τ → (∀ k u, k < night → u < 1024 → seB τ k u = true → seB σ k u = true) → (night < T → seB τ night used = true) → (r = 1 ↔ rdR (crL M K n 0 0) T night used) → Q r τ) → wp_X8_trace d (night : Int) (used : Int) (H : Int) σ Q := by
  intro d
  induction d with
  | zero => intro night used H σ Q hd; exact absurd hd (by omega)
  | succ d ihd =>
    intro night used H σ Q hd hN hu hrc hct hH hs hclo hsn hQ
    show e_X8_trace (G_X8_trace d) (night : Int) (used : Int) (H : Int) σ Q
    have s12 := hs.2.2.2
    have pl := ppl_lt (K := K) hn
    refine ⟨fun z => ?_, fun z => ⟨fun y => ?_, fun y => absurd (by omega) y⟩⟩
    · rw [s12] at z
      exact hQ σ 1 (Or.inr rfl) trZ_rfl hclo hsn trM_rfl (fun _ _ _ _ q => q) (fun w => by omega) ⟨fun _ => by unfold rdR; omega, fun _ => rfl⟩
    rw [s12] at z
    have hlt : night < T := by omega
    have hN9 : night ≤ 9 := by omega
    intro x ex
    subst ex
    refine ⟨ixn (by omega), ?_⟩
    rw [Int.toNat_natCast]
    refine ⟨fun w => ⟨ixn (by omega), ixn (by omega), ?_⟩, fun w => ⟨ixn (by omega), ?_⟩⟩
    rotate_left
    · -- seen before
      rw [sbt_and (by omega)] at w
      have w' : seB σ night used = true := by
        unfold seB
        cases hb : sbt (gI σ 57 used) night with
        | true => rfl
        | false => exact absurd hb w
      have cp := (hclo night used (Nat.le_refl _) hlt hu w').1
      refine ⟨fun v => ⟨Or.inl rfl, hQ σ 0 (Or.inl rfl) trZ_rfl hclo hsn trM_rfl (fun _ _ _ _ q => q) (fun _ => w') ⟨fun q => absurd q (by decide), fun q => ?_⟩⟩, fun v => ⟨Or.inr rfl, hQ σ 1 (Or.inr rfl) trZ_rfl hclo hsn trM_rfl (fun _ _ _ _ q => q) (fun _ => w') ⟨fun _ => ?_, fun _ => rfl⟩⟩⟩
      · rw [sbt_and (by omega)] at v
        have := cp.mpr q
        unfold fiB at this
        rw [v] at this
        exact absurd this (by decide)
      · refine cp.mp ?_
        unfold fiB
        rw [sbt_and (by omega)] at v
        cases hb : sbt (gI σ 58 used) night with
        | true => rfl
        | false => exact absurd hb v
    · rw [sbt_and (by omega)] at w
      intro s1 e1
      have ns : seB σ night used = false := w
      have nf : fiB σ night used = false := by
        cases hb : fiB σ night used with
        | false => rfl
        | true =>
          have := hsn.2 night used (by omega) hu hb
          rw [ns] at this
          exact absurd this (by decide)
      have se1 : ∀ k u, seB s1 k u = true ↔ seB σ k u = true ∨ (k = night ∧ u = used) := fun k u => by unfold seB; rw [e1]; exact sb_put (by omega)
      have o1 : ∀ c j, c ≠ 57 → gI s1 c j = gI σ c j := fun c j q => by rw [e1, gI_sI, if_neg (by omega)]
      have z1 : trZ night σ s1 := ⟨by rw [e1]; rfl, fun c j a b d' e f => o1 c j d'⟩
      clear e1
      have t1 := trC_of hs z1
      rw [t1.2.2.1, n_andn (by omega) (by omega)]
      generalize hel : crL M K n 0 0 night used = l
      have nd := ndV_v K night
      have l210 : l.length ≤ 210 := by rw [← hel]; exact pk_210 (fun p => wMV_2 hs.1.1 p) (by omega) (by omega) (by omega)
      refine w_list t1.1 hH (rs_P (away := 0) (used := used) pl (fun p hp => ppl_b p hp)) (fun q => cr_nil q hct) (fun τ2 z2 g2 => ?_)
      rw [hel] at g2 ⊢
      have zz2 : trZ night σ τ2 := trZ_tr z1 (trZ_Q z2)
      have se2 : ∀ k u, seB τ2 k u = true ↔ seB σ k u = true ∨ (k = night ∧ u = used) := fun k u => by rw [← se1]; unfold seB; rw [z2.2 _ _ (by omega) (by omega)]
      have fi2 : ∀ k u, fiB τ2 k u = fiB σ k u := fun k u => by unfold fiB; rw [z2.2 _ _ (by omega) (by omega), o1 _ _ (by decide)]
      have la2 : ∀ p, gI τ2 62 p = gI σ 62 p := fun p => by rw [z2.2 _ _ (by omega) (by omega), o1 _ _ (by decide)]
      have sn2 : snd1 τ2 (crL M K n 0 0) T := ⟨fun p hp => by rw [la2]; exact hsn.1 p hp, fun k u a b q => (se2 k u).mpr (Or.inl (hsn.2 k u a b (by rw [← fi2]; exact q)))⟩
      have crb : ∀ k u c, c ∈ crL M K n 0 0 k u → c < 1024 := fun k u c q => (cr_mem q).1
      have key : ∀ k i : Nat, i + k = l.length → ∀ τ, trZ night σ τ → (∀ k u, k < 10 → u < 1024 → seB τ2 k u = true → seB τ k u = true) → (∀ k u, k < 10 → u < 1024 → ¬ (k = night ∧ u = used) → seB τ2 k u = true → fiB τ k u = fiB τ2 k u) → (∀ p, p < 10 → gI τ2 62 p ≤ gI τ 62 p) → snd1 τ (crL M K n 0 0) T → (∀ k u, k ≤ night → u < 1024 → seB τ k u = true → seB τ2 k u = true) → clo τ (crL M K n 0 0) T (night + 1) →
          (fiB τ night used = true ↔ ∃ j, ∃ hj : j < l.length, j < i ∧ rdR (crL M K n 0 0) T (night + 1) (used ||| l[j])) →
          (∀ j (hj : j < l.length), j < i → (night + 1 < T → seB τ (night + 1) (used ||| l[j]) = true) ∧ (rdR (crL M K n 0 0) T (night + 1) (used ||| l[j]) → ∀ p, p < 10 → (l[j]).testBit p = true → (night : Int) ≤ gI τ 62 p)) →
          (∀ i, i < l.length → gI τ 51 (210 * night + i) = ((l.getD i 0 : Nat) : Int)) →
          L_X8_trace_84 Q (G_X8_trace d) (k + 1) (night : Int) (used : Int) (H : Int) (o_shl 1 (night : Int)) (l.length : Int) (i : Int) τ := by
        intro k
        induction k with
        | zero =>
          intro i hi τ a1 a2 a2f a2l a3 a4 a5 a6 a7 a10
          refine ⟨fun _ => ⟨ixn (by omega), ?_⟩, fun q => absurd (by omega) q⟩
          rw [Int.toNat_natCast]
          have mono : trM σ τ := by
            refine ⟨fun k u b1 b2 q => ⟨a2 k u b1 b2 ((se2 k u).mpr (Or.inl q)), ?_⟩, fun p hp => by rw [← la2]; exact a2l p hp⟩
            by_cases e2 : k = night ∧ u = used
            · rw [e2.1, e2.2, ns] at q; exact absurd q (by decide)
            · rw [a2f k u b1 b2 e2 ((se2 k u).mpr (Or.inl q)), fi2]
          have rd : fiB τ night used = true ↔ rdR (crL M K n 0 0) T night used := by
            rw [a6]
            constructor
            · rintro ⟨j, hj, _, q⟩
              exact rdR_up hN9 (by rw [hel]; exact List.getElem_mem hj) q
            · intro q
              obtain ⟨c, c1, c2⟩ := rdR_dn hN9 hlt q
              rw [hel] at c1
              obtain ⟨j, hj, ej⟩ := List.mem_iff_getElem.mp c1
              subst ej
              exact ⟨j, hj, by omega, c2⟩
          have cu : seB τ night used = true := a2 night used (by omega) hu ((se2 night used).mpr (Or.inr ⟨rfl, rfl⟩))
          have cl : clo τ (crL M K n 0 0) T night := by
            intro k u b1 b2 b3 q
            by_cases e2 : k = night
            · subst e2
              by_cases e3 : u = used
              · subst e3
                refine ⟨rd, fun c hc => ?_⟩
                rw [hel] at hc
                obtain ⟨j, hj, ej⟩ := List.mem_iff_getElem.mp hc
                subst ej
                exact a7 j hj (by omega)
              · have q2 := a4 k u (Nat.le_refl _) b3 q
                rcases (se2 k u).mp q2 with w1 | w1
                · exact cpS_m (hclo k u (Nat.le_refl _) b2 b3 w1) (mono.1 k u (by omega) b3 w1).2 (fun u' c1 c2 c3 => (mono.1 (k + 1) u' (by omega) c1 c3).1) mono.2 b3 (fun c hc => crb _ _ c hc)
                · exact absurd w1.2 e3
            · exact a5 k u (by omega) b2 b3 q
          have seo : ∀ k u, k < night → u < 1024 → seB τ k u = true → seB σ k u = true := fun k u b1 b2 q => by
            rcases (se2 k u).mp (a4 k u (by omega) b2 q) with w1 | w1
            · exact w1
            · omega
          refine ⟨fun v => ⟨Or.inl rfl, hQ τ 0 (Or.inl rfl) a1 cl a3 mono seo (fun _ => cu) ⟨fun q => absurd q (by decide), fun q => ?_⟩⟩, fun v => ⟨Or.inr rfl, hQ τ 1 (Or.inr rfl) a1 cl a3 mono seo (fun _ => cu) ⟨fun _ => ?_, fun _ => rfl⟩⟩⟩
          · rw [sbt_and (by omega)] at v
            have := rd.mpr q
            unfold fiB at this
            rw [v] at this
            exact absurd this (by decide)
          · refine rd.mp ?_
            unfold fiB
            rw [sbt_and (by omega)] at v
            cases hb : sbt (gI τ 58 used) night with
            | true => rfl
            | false => exact absurd hb v
        | succ k ih =>
          intro i hi τ a1 a2 a2f a2l a3 a4 a5 a6 a7 a10
          have hil : i < l.length := by omega
          have st := trC_of hs a1
          have hmem : l[i] ∈ crL M K n 0 0 night used := by rw [hel]; exact List.getElem_mem hil
          have c10 : l[i] < 1024 := (cr_mem hmem).1
          have uc : used ||| l[i] < 1024 := Nat.or_lt_two_pow (n := 10) hu c10
          refine ⟨fun q => absurd q (by omega), fun _ => w_crewAt hN9 (by omega) ?_⟩
          have ec : gI τ 51 (210 * night + i) = (l[i] : Int) := by
            rw [a10 i hil, List.getD_eq_getElem?_getD, List.getElem?_eq_getElem hil]
            rfl
          rw [ec]
          refine w_spoiled (hsh := 0) st.1 hH c10 (by decide) (fun p _ hp => cr_dis hmem hp) (fun H' hH' => ?_)
          show wp_X8_trace d (wr ((night : Int) + 1)) _ _ _ _
          rw [wks (by omega), n_or (by omega) (by omega)]
          refine ihd (night + 1) (used ||| l[i]) H' (by omega) (by omega) uc ⟨used, l[i], hrc, hmem, rfl⟩ (by have := cr_ct hmem; omega) hH' st a5 a3 (fun υ r hr u1 u2 u3 u4 u5 u6 u7 => ?_)
          have su : seB τ night used = true := a2 night used (by omega) hu ((se2 night used).mpr (Or.inr ⟨rfl, rfl⟩))
          have seu : ∀ k u, k ≤ night → u < 1024 → seB υ k u = true → seB τ2 k u = true := fun k u b1 b2 q => a4 k u b1 b2 (u5 k u (by omega) b2 q)
          have lists : ∀ ω : st_S, (∀ j, j < 210 * (night + 1) → gI ω 51 j = gI τ 51 j) → ∀ i, i < l.length → gI ω 51 (210 * night + i) = ((l.getD i 0 : Nat) : Int) := fun ω q i hi => by rw [q _ (by omega)]; exact a10 i hi
          have u51 : ∀ j, j < 210 * (night + 1) → gI υ 51 j = gI τ 51 j := fun j hj => u1.2 _ _ (by omega) (by omega) (by decide) (by decide) (by decide)
          have v2 : ∀ k u, k < 10 → u < 1024 → seB τ2 k u = true → seB υ k u = true := fun k u b1 b2 q => (u4.1 k u b1 b2 (a2 k u b1 b2 q)).1
          have v2f : ∀ k u, k < 10 → u < 1024 → ¬ (k = night ∧ u = used) → seB τ2 k u = true → fiB υ k u = fiB τ2 k u := fun k u b1 b2 b3 q => by rw [(u4.1 k u b1 b2 (a2 k u b1 b2 q)).2]; exact a2f k u b1 b2 b3 q
          have v2l : ∀ p, p < 10 → gI τ2 62 p ≤ gI υ 62 p := fun p hp => Int.le_trans (a2l p hp) (u4.2 p hp)
          have lj : ∀ j (hj : j < l.length), used ||| l[j] < 1024 := fun j hj => Nat.or_lt_two_pow (n := 10) hu (crb _ _ _ (by rw [hel]; exact List.getElem_mem hj))
          have fiu : fiB υ night used = true ↔ ∃ j, ∃ hj : j < l.length, j < i ∧ rdR (crL M K n 0 0) T (night + 1) (used ||| l[j]) := by rw [(u4.1 night used (by omega) hu su).2]; exact a6
          have v7 : ∀ j (hj : j < l.length), j < i → (night + 1 < T → seB υ (night + 1) (used ||| l[j]) = true) ∧ (rdR (crL M K n 0 0) T (night + 1) (used ||| l[j]) → ∀ p, p < 10 → (l[j]).testBit p = true → (night : Int) ≤ gI υ 62 p) := fun j hj hj2 => ⟨fun q => (u4.1 (night + 1) _ (by omega) (lj j hj) ((a7 j hj hj2).1 q)).1, fun q p hp hb => Int.le_trans ((a7 j hj hj2).2 q p hp hb) (u4.2 p hp)⟩
          refine ⟨fun r0 => ?_, fun r0 => ⟨ixn (by omega), ixn (by omega), ?_⟩⟩
          · intro x ex
            rw [wks (by omega)] at ex
            subst ex
            have nr : ¬ rdR (crL M K n 0 0) T (night + 1) (used ||| l[i]) := fun q => by have := u7.mpr q; omega
            refine ih (i + 1) (by omega) υ (trZ_tr a1 (trZ_up u1)) v2 v2f v2l u3 seu u2 ?_ (fun j hj hj2 => ?_) (lists υ u51)
            · rw [fiu]
              constructor
              · rintro ⟨j, hj, q1, q2⟩
                exact ⟨j, hj, by omega, q2⟩
              · rintro ⟨j, hj, q1, q2⟩
                by_cases e : j = i
                · subst e; exact absurd q2 nr
                · exact ⟨j, hj, by omega, q2⟩
            · by_cases e : j = i
              · subst e
                exact ⟨fun q => u6 q, fun q => absurd q nr⟩
              · exact v7 j hj (by omega)
          · have r1 : r = 1 := by
              rcases hr with q | q
              · exact absurd q r0
              · exact q
            have yr := u7.mp r1
            intro s5 e5
            rw [Int.toNat_natCast] at e5
            have fi5 : ∀ k u, fiB s5 k u = true ↔ fiB υ k u = true ∨ (k = night ∧ u = used) := fun k u => by unfold fiB; rw [e5]; exact sb_put (by omega)
            have o5 : ∀ c j, c ≠ 58 → gI s5 c j = gI υ c j := fun c j q => by rw [e5, gI_sI, if_neg (by omega)]
            have k5 : s5.2 = υ.2 := by rw [e5]; rfl
            clear e5
            refine w_tellLate c10 (fun ω w1 w2 w3 => ?_)
            have seo : ∀ k u, seB ω k u = seB υ k u := fun k u => by unfold seB; rw [w2 _ _ (by decide), o5 _ _ (by decide)]
            have fio : ∀ k u, fiB ω k u = true ↔ fiB υ k u = true ∨ (k = night ∧ u = used) := fun k u => by rw [← fi5]; unfold fiB; rw [w2 _ _ (by decide)]
            have fine_o : ∀ k u, ¬ (k = night ∧ u = used) → fiB ω k u = fiB υ k u := fun k u q => by
              rw [Bool.eq_iff_iff, fio]
              exact ⟨fun w => w.elim id (fun v => absurd v q), Or.inl⟩
            have lao : ∀ p, p < 10 → gI υ 62 p ≤ gI ω 62 p := fun p hp => by
              rw [w3 p hp, o5 _ _ (by decide)]
              split
              · exact omx.1
              · exact Int.le_refl _
            have latc : ∀ p, p < 10 → (l[i]).testBit p = true → (night : Int) ≤ gI ω 62 p := fun p hp hb => by
              rw [w3 p hp, hb, if_pos rfl]
              exact omx.2.1
            have zo : trZ night σ ω := trZ_tr a1 (trZ_tr (trZ_up u1) ⟨w1.trans k5, fun c j b1 b2 b3 b4 b5 => by rw [w2 _ _ b5, o5 _ _ b4]⟩)
            intro x ex
            rw [wks (by omega)] at ex
            subst ex
            have suo : seB υ night used = true := (u4.1 night used (by omega) hu su).1
            refine ih (i + 1) (by omega) ω zo (fun k' u' b1 b2 q => by rw [seo]; exact v2 k' u' b1 b2 q) (fun k' u' b1 b2 b3 q => by rw [fine_o k' u' b3]; exact v2f k' u' b1 b2 b3 q) (fun p hp => Int.le_trans (v2l p hp) (lao p hp)) ⟨fun p hp => ?_, fun k' u' b1 b2 q => ?_⟩ (fun k u b1 b2 q => seu k u b1 b2 (by rw [← seo]; exact q)) (fun k' u' b1 b2 b3 q => ?_) ?_ (fun j hj hj2 => ?_) (lists ω (fun j hj => by rw [w2 _ _ (by decide), o5 _ _ (by decide)]; exact u51 j hj))
            · rw [w3 p hp, o5 _ _ (by decide)]
              cases hb : (l[i]).testBit p with
              | false => rw [if_neg (by decide)]; exact u3.1 p hp
              | true =>
                rw [if_pos rfl]
                rcases (omx (a := gI υ 62 p) (b := (night : Int))).2.2 with e | e
                · rw [e]; exact u3.1 p hp
                · rw [e]
                  exact Or.inr ⟨night, by omega, rfl, used, l[i], hrc, hmem, yr, hb⟩
            · rw [seo]
              rcases (fio k' u').mp q with v | v
              · exact u3.2 k' u' b1 b2 v
              · rw [v.1, v.2]; exact suo
            · rw [seo] at q
              exact cpS_m (u2 k' u' b1 b2 b3 q) (fine_o k' u' (by omega)) (fun u'' c1 c2 c3 => by rw [seo]; exact c3) lao b3 (fun c hc => crb _ _ c hc)
            · rw [fio]
              constructor
              · intro _
                exact ⟨i, hil, by omega, yr⟩
              · intro _
                exact Or.inr ⟨rfl, rfl⟩
            · by_cases e : j = i
              · subst e
                exact ⟨fun q => by rw [seo]; exact u6 q, fun _ p hp hb => latc p hp hb⟩
              · have a := v7 j hj (by omega)
                exact ⟨fun q => by rw [seo]; exact a.1 q, fun q p hp hb => Int.le_trans (a.2 q p hp hb) (lao p hp)⟩
      refine ⟨l.length + 1, key l.length 0 (by omega) τ2 zz2 (fun _ _ _ _ q => q) (fun _ _ _ _ _ _ => rfl) (fun _ _ => Int.le_refl _) sn2 (fun _ _ _ _ q => q) (fun k u b1 b2 b3 q => ?_) ?_ (fun j hj h0 => absurd h0 (by omega)) g2⟩
      · rcases (se2 k u).mp q with w1 | w1
        · exact cpS_m (hclo k u (by omega) b2 b3 w1) (fi2 k u) (fun u' c1 c2 c3 => (se2 (k + 1) u').mpr (Or.inl c3)) (fun p _ => by rw [la2]; exact Int.le_refl _) b3 (fun c hc => crb _ _ c hc)
        · omega
      · rw [fi2, nf]
        exact ⟨fun q => absurd q (by decide), fun ⟨j, hj, q, _⟩ => absurd q (by omega)⟩
/-- how it comes out -/
def ltR (cr : Nat → Nat → List Nat) (T p : Nat) (r : Int) : Prop := (r = -1 ∨ ∃ k : Nat, k < 10 ∧ r = (k : Int) ∧ gdR cr T p k) ∧ ∀ k, k < 10 → gdR cr T p k → (k : Int) ≤ r
theorem ltR_u {cr : Nat → Nat → List Nat} {T p : Nat} {r r' : Int} (h : ltR cr T p r) (h' : ltR cr T p r') : r = r' := by
  rcases h.1 with e | ⟨k, k1, k2, k3⟩
  · rcases h'.1 with e' | ⟨k', k1', k2', k3'⟩
    · rw [e, e']
    · have := h.2 k' k1' k3'
      omega
  · rcases h'.1 with e' | ⟨k', k1', k2', k3'⟩
    · have := h'.2 k k1 k3
      omega
    · have := h.2 k' k1' k3'
      have := h'.2 k k1 k3
      omega
theorem rch_lt {K : Nat → Int} {n : Nat} {M : zM} : ∀ (k : Nat) {u : Nat}, rch (crL M K n 0 0) k u → u < 1024 := by
  intro k
  induction k with
  | zero => intro u h; rw [show u = 0 from h]; decide
  | succ k ih =>
    intro u h
    obtain ⟨u', c, h1, h2, h3⟩ := h
    rw [h3]
    exact Nat.or_lt_two_pow (n := 10) (ih h1) (cr_mem h2).1
theorem clo_rch {σ : st_S} {K : Nat → Int} {n T : Nat} {M : zM} (hc : clo σ (crL M K n 0 0) T 0) (hT : T ≤ 10) (h0 : 0 < T → seB σ 0 0 = true) : ∀ (k : Nat) {u : Nat}, k < T → rch (crL M K n 0 0) k u → seB σ k u = true := by
  intro k
  induction k with
  | zero => intro u hk h; rw [show u = 0 from h]; exact h0 hk
  | succ k ih =>
    intro u hk h
    obtain ⟨u', c, h1, h2, h3⟩ := h
    rw [h3]
    exact ((hc k u' (by omega) (by omega) (rch_lt k h1) (ih (by omega) h1)).2 c h2).1 (by omega)
theorem w_latestOf {K : Nat → Int} {n p : Nat} {M : zM} {σ : st_S} {Q : Int → st_S → Prop} (h : ppC σ K n M) (hk : sKd σ) (hp : p < n) (hQ : ∀ τ r, zS σ τ → ltR (crL M K n 0 0) (lnV (crL M K n 0 0) 11 0 0) p r → Q r τ) : wp_X8_latestOf (p : Int) σ Q := by
  have hn := h.1.1.2.2
  have pl := ppl_lt (K := K) hn
  unfold wp_X8_latestOf
  rw [show gI σ 42 0 = (ppl K n : Int) from h.2.1.1]
  refine w_longest (away := 0) h hk pl (fun p hp => ppl_b p hp) (fun τ1 z1 p1 e1 _ => ?_)
  have hT10 : lnV (crL M K n 0 0) 11 0 0 ≤ 10 := by
    have q := rR_ln (K := K) (n := n) (away := 0) (hsh := 0) (T := lnV (crL M K n 0 0) 11 0 0) (M := M) (g := gLd K) hn 10 (night := 0) (used := 0) (by omega) (Nat.zero_le _)
    have r := rR_pth _ (q.mpr (by show lnV (crL M K n 0 0) 11 0 0 ≤ 0 + lnV (crL M K n 0 0) 11 0 0; omega))
    rcases pth_n _ r (Nat.zero_le _) with w | w <;> omega
  generalize hT : lnV (crL M K n 0 0) 11 0 0 = T at hT10 hQ
  rw [e1, show gI σ 42 0 = (ppl K n : Int) from h.2.1.1]
  have k1 := sKd_of hk z1.1
  refine w_set (P := ppl K n) (hsh := 0) (m := T) k1 hT10 (fun τ t1 t2 a1 a2 a3 a4 a5 a6 a7 a8 => ?_)
  have kt := sKd_of k1 t1
  refine w_fill kt.2.1.1 (by rw [kt.2.1.2]; decide) ?_
  generalize hf : sF τ 58 (fun j => if j < gL τ 58 then 0 else gI τ 58 j) = f
  have of : ∀ c j, c ≠ 58 → gI f c j = gI τ c j := fun c j q => by rw [← hf, gI_sF, if_neg q]
  have f8 : ∀ j, j < 1024 → gI f 58 j = 0 := fun j hj => by rw [← hf, gI_sF, if_pos rfl, kt.2.1.2, if_pos hj]
  have tf : f.2 = τ.2 := by rw [← hf]; rfl
  clear hf
  have kf := sKd_of kt tf
  refine w_fill kf.2.2.2.1 (by rw [kf.2.2.2.2]; decide) ?_
  generalize hg : sF f 62 (fun j => if j < gL f 62 then (-1) else gI f 62 j) = g
  have og : ∀ c j, c ≠ 62 → gI g c j = gI f c j := fun c j q => by rw [← hg, gI_sF, if_neg q]
  have g6 : ∀ j, j < 10 → gI g 62 j = -1 := fun j hj => by rw [← hg, gI_sF, if_pos rfl, kf.2.2.2.2, if_pos hj]
  have tg : g.2 = τ1.2 := by rw [← hg]; exact tf.trans t1
  clear hg
  have o1 : ∀ c j, ¬ (c = 56 ∧ 10 ≤ j ∧ j ≤ 16) → c ≠ 57 → c ≠ 58 → c ≠ 62 → gI g c j = gI τ1 c j := fun c j q1 q2 q3 q4 => by rw [og c j q4, of c j q3, t2 c j q1 q2]
  have pg : ppC g K n M := ppC_of p1 tg (fun c j q => o1 c j (by omega) (by omega) (by omega) (by omega))
  have se0 : ∀ k u, u < 1024 → seB g k u = false := fun k u hu => by unfold seB; rw [og _ _ (by decide), of _ _ (by decide), a8 u hu]; exact sbt_0
  have fi0 : ∀ k u, u < 1024 → fiB g k u = false := fun k u hu => by unfold fiB; rw [og _ _ (by decide), f8 u hu]; exact sbt_0
  obtain ⟨H, eH, hH⟩ := pg.2.1.2.1
  rw [eH]
  have zg : zS σ g := zS_tr z1 ⟨tg, fun c j q1 q2 q3 => o1 c j (by omega) (by omega) (by omega) (by omega)⟩
  refine w_trace hn hT10 12 0 0 H (by omega) (by omega) (by decide) rfl (Nat.zero_le _) (hOk_root hH) ⟨pg, sKd_of k1 tg, by rw [og _ _ (by decide), of _ _ (by decide)]; exact a1, by rw [og _ _ (by decide), of _ _ (by decide)]; exact a3⟩ (fun k u _ _ b q => by rw [se0 k u b] at q; exact absurd q (by decide)) ⟨fun p hp => Or.inl (g6 p hp), fun k u _ b q => by rw [fi0 k u b] at q; exact absurd q (by decide)⟩ (fun υ r _ u1 u2 u3 u4 u5 u6 u7 => ?_)
  have zt : zS σ υ := zS_tr zg ⟨u1.1, fun c j q1 q2 q3 => u1.2 c j (by omega) (by omega) (by omega) (by omega) (by omega)⟩
  refine ⟨fun z => absurd z (by omega), fun _ => ⟨fun z => absurd z (by omega), fun _ => ⟨ixn (by omega), ?_⟩⟩⟩
  rw [Int.toNat_natCast]
  refine hQ υ _ zt ⟨u3.1 p (by omega), fun k hk10 hgd => ?_⟩
  obtain ⟨u, c, b1, b2, b3, b4⟩ := hgd
  have hkT : k < T := by
    refine Classical.byContradiction (fun z => ?_)
    have up := rdR_up (cr := crL M K n 0 0) (T := k + 1) (k := k) (u := u) (c := c) (by omega) b2 (by unfold rdR; omega)
    have all : ∀ (k : Nat) {u : Nat}, k ≤ 10 → rch (crL M K n 0 0) k u → ∀ T', rdR (crL M K n 0 0) T' k u → T' ≤ lnV (crL M K n 0 0) 11 0 0 := by
      intro k
      induction k with
      | zero =>
        intro u _ hu T' hr
        rw [show u = 0 from hu] at hr
        unfold rdR at hr
        rw [Nat.zero_add] at hr
        exact hr
      | succ k ih =>
        intro u hk hu T' hr
        obtain ⟨u', c', d1, d2, d3⟩ := hu
        rw [d3] at hr
        exact ih (by omega) d1 T' (rdR_up (by omega) d2 hr)
    have := all k (by omega) b1 (k + 1) up
    omega
  have sk := clo_rch u2 hT10 (fun q => u6 q) k hkT b1
  exact ((u2 k u (Nat.zero_le _) hkT (rch_lt k b1) sk).2 c b2).2 b3 p (by omega) b4
