/-! late: the reference, both -/
def rg (cr : Nat → Nat → List Nat) (T : Nat) : Nat → Nat → Prop
  | 0, u => u = 0
  | k + 1, u => ∃ u' c, rg cr T k u' ∧ c ∈ cr k u' ∧ rdR cr T (k + 1) (u' ||| c) ∧ u = u' ||| c
theorem rg_rch {cr : Nat → Nat → List Nat} {T : Nat} : ∀ (k : Nat) {u : Nat}, rg cr T k u → rch cr k u := by
  intro k
  induction k with
  | zero => intro u h; exact h
  | succ k ih =>
    intro u h
    obtain ⟨u', c, h1, h2, _, h4⟩ := h
    exact ⟨u', c, ih h1, h2, h4⟩
theorem rch_rg {cr : Nat → Nat → List Nat} {T : Nat} : ∀ (k : Nat) {u : Nat}, k ≤ 10 → rch cr k u → rdR cr T k u → rg cr T k u := by
  intro k
  induction k with
  | zero => intro u _ h _; exact h
  | succ k ih =>
    intro u hk h hr
    obtain ⟨u', c, h1, h2, h3⟩ := h
    rw [h3] at hr
    exact ⟨u', c, ih (by omega) h1 (rdR_up (by omega) h2 hr), h2, hr, h3⟩
/-- a step in a row of T nights -/
def gG (cr : Nat → Nat → List Nat) (T k u c : Nat) : Prop := rg cr T k u ∧ c ∈ cr k u ∧ rdR cr T (k + 1) (u ||| c)
def ltI (σ : st_S) (cr : Nat → Nat → List Nat) (T p : Nat) (Pr : Nat → Nat → Nat → Prop) (r : Int) : Prop :=
  (∀ k u, k ≤ 10 → u < 1024 → (¬ gI σ 23 (1024 * k + u) = 0 ↔ (k = 0 ∧ u = 0) ∨ ∃ k' u' c, k = k' + 1 ∧ Pr k' u' c ∧ gG cr T k' u' c ∧ u = u' ||| c)) ∧
  (r = -1 ∨ ∃ k : Nat, k < 10 ∧ r = (k : Int) ∧ ∃ u c, gG cr T k u c ∧ c.testBit p = true) ∧
  ∀ k u c, Pr k u c → gG cr T k u c → c.testBit p = true → (k : Int) ≤ r
theorem ltI_of {σ τ : st_S} {cr : Nat → Nat → List Nat} {T p : Nat} {Pr Pr' : Nat → Nat → Nat → Prop} {r : Int} (h : ltI σ cr T p Pr r) (h23 : ∀ j, gI τ 23 j = gI σ 23 j) (hp : ∀ k u c, gG cr T k u c → (Pr' k u c ↔ Pr k u c)) : ltI τ cr T p Pr' r := by
  refine ⟨fun k u a b => ?_, h.2.1, fun k u c q g => h.2.2 k u c ((hp k u c g).mp q) g⟩
  rw [h23, h.1 k u a b]
  constructor
  · rintro (w | ⟨k', u', c, w1, w2, w3, w4⟩)
    · exact Or.inl w
    · exact Or.inr ⟨k', u', c, w1, (hp _ _ _ w3).mpr w2, w3, w4⟩
  · rintro (w | ⟨k', u', c, w1, w2, w3, w4⟩)
    · exact Or.inl w
    · exact Or.inr ⟨k', u', c, w1, (hp _ _ _ w3).mp w2, w3, w4⟩
theorem sxM_23 {σ : st_S} {n away hsh j : Nat} {M : zM} {v : Int} (h : sxM σ n M away hsh) : sxM (sI σ 23 j v) n M away hsh := by
  obtain ⟨hx, hl, hb, ga, gh, ha, hh⟩ := h
  exact ⟨cxM_of hx rfl, ⟨hl.1, hl.2⟩, bcM_of hb (fun j => rfl) rfl, ga, gh, ha, hh⟩
theorem mmL_23 {σ : st_S} {cr : Nat → Nat → List Nat} {j : Nat} {v : Int} (h : mmL σ cr) : mmL (sI σ 23 j v) cr := fun a b c d => by rw [gI_sI, if_neg (by omega)]; exact h a b c d
theorem wkNU {a b : Nat} (h : a < 100000) (h2 : b < 100000) : wr (1024 * (a : Int) + (b : Int)) = ((1024 * a + b : Nat) : Int) := by rw [show (1024 * (a : Int) + (b : Int)) = ((1024 * a + b : Nat) : Int) by omega, wr_n (by omega)]
/-- what was gone through: nights before, sets before, the first i crews -/
def prP (cr : Nat → Nat → List Nat) (night U i : Nat) (k u c : Nat) : Prop := k < night ∨ (k = night ∧ (u < U ∨ (u = U ∧ ∃ j, ∃ hj : j < (cr night U).length, j < i ∧ c = (cr night U)[j])))
set_option maxHeartbeats 2000000 in
theorem m_lateL {σ : st_S} {K : Nat → Int} {n p T : Nat} {M : zM} {Q : Int → st_S → Prop} (hn : n ≤ 10) (hp : p < 10) (hK : gI σ 2 = K) (hs : sxM σ n M 0 0) (hm : mmL σ (crL M K n 0 0)) (hT : T = lnV (crL M K n 0 0) 11 0 0) (hT10 : T ≤ 10) (hQ : ∀ τ r, zL σ τ → ltR (crL M K n 0 0) T p r → Q r τ) : ∃ m, L_X11_late_23 Q m (p : Int) (T : Int) 0 σ := by
  have ltT : ∀ k u c, k < 10 → gG (crL M K n 0 0) T k u c → k < T := by
    intro k u c hk hg
    refine Classical.byContradiction (fun z => ?_)
    have up := rdR_up (cr := crL M K n 0 0) (T := k + 1) (k := k) (u := u) (c := c) (by omega) hg.2.1 (by unfold rdR; omega)
    have all : ∀ (k : Nat) {u : Nat}, k ≤ 10 → rch (crL M K n 0 0) k u → ∀ T', rdR (crL M K n 0 0) T' k u → T' ≤ lnV (crL M K n 0 0) 11 0 0 := by
      intro k
      induction k with
      | zero =>
        intro u _ hu T' hr
        rw [show u = 0 from hu] at hr
        unfold rdR at hr
        rw [Nat.zero_add] at hr
        exact hr
      | succ k ih =>
        intro u hk hu T' hr
        obtain ⟨u', c', d1, d2, d3⟩ := hu
        rw [d3] at hr
        exact ih (by omega) d1 T' (rdR_up (by omega) d2 hr)
    have := all k (by omega) (rg_rch k hg.1) (k + 1) up
    omega
  have ug : ∀ k u, rg (crL M K n 0 0) T k u → u < 1024 := fun k u q => rch_lt k (rg_rch k q)
  -- the nights
  have keyN : ∀ m night : Nat, night + m = T → ∀ τ r, zL σ τ → sxM τ n M 0 0 → mmL τ (crL M K n 0 0) → ltI τ (crL M K n 0 0) T p (prP (crL M K n 0 0) night 0 0) r → L_X11_late_55 Q (m + 1) (p : Int) (T : Int) r (night : Int) τ := by
    intro m
    induction m with
    | zero =>
      intro night hN τ r a1 a2 a3 a4
      refine ⟨fun _ => hQ τ r a1 ⟨?_, fun k hk hgd => ?_⟩, fun z => absurd (by omega) z⟩
      · rcases a4.2.1 with w | ⟨k, k1, k2, u, c, k3, k4⟩
        · exact Or.inl w
        · exact Or.inr ⟨k, k1, k2, u, c, rg_rch k k3.1, k3.2.1, k3.2.2, k4⟩
      · obtain ⟨u, c, b1, b2, b3, b4⟩ := hgd
        have g : gG (crL M K n 0 0) T k u c := ⟨rch_rg k (by omega) b1 (rdR_up (by omega) b2 b3), b2, b3⟩
        have := ltT k u c hk g
        exact a4.2.2 k u c (Or.inl (by omega)) g b4
    | succ m ihm =>
      intro night hN τ r a1 a2 a3 a4
      refine ⟨fun z => absurd z (by omega), fun _ => ?_⟩
      have hN9 : night ≤ 9 := by omega
      -- the sets
      have keyU : ∀ mu U : Nat, U + mu = 1024 → ∀ τ r, zL σ τ → sxM τ n M 0 0 → mmL τ (crL M K n 0 0) → ltI τ (crL M K n 0 0) T p (prP (crL M K n 0 0) night U 0) r → L_X11_late_64 Q (L_X11_late_55 Q (m + 1)) (mu + 1) (p : Int) (T : Int) r (night : Int) (U : Int) τ := by
        intro mu
        induction mu with
        | zero =>
          intro U hU τ r a1 a2 a3 a4
          refine ⟨fun _ => ?_, fun z => absurd (by omega) z⟩
          intro x ex
          rw [wks (by omega)] at ex
          subst ex
          refine ihm (night + 1) (by omega) τ r a1 a2 a3 (ltI_of a4 (fun _ => rfl) (fun k u c g => ?_))
          have := ug k u g.1
          unfold prP
          constructor
          · rintro (w | ⟨w1, w2⟩)
            · by_cases e : k = night
              · exact Or.inr ⟨e, Or.inl (by omega)⟩
              · exact Or.inl (by omega)
            · rcases w2 with w2 | ⟨w2, j, hj, w3, _⟩
              · omega
              · omega
          · rintro (w | ⟨w1, w2⟩)
            · exact Or.inl (by omega)
            · exact Or.inl (by omega)
        | succ mu ihu =>
          intro U hU τ r a1 a2 a3 a4
          have Kt : gI τ 2 = K := by rw [zL_K a1]; exact hK
          have come : ¬ gI τ 23 (1024 * night + U) = 0 ↔ rg (crL M K n 0 0) T night U := by
            rw [a4.1 night U (by omega) (by omega)]
            cases night with
            | zero =>
              constructor
              · rintro (w | ⟨k', u', c, w1, _⟩)
                · exact w.2
                · omega
              · intro w; exact Or.inl ⟨rfl, w⟩
            | succ night =>
              constructor
              · rintro (w | ⟨k', u', c, w1, w2, w3, w4⟩)
                · omega
                · have e : k' = night := by omega
                  subst e
                  exact ⟨u', c, w3.1, w3.2.1, w3.2.2, w4⟩
              · rintro ⟨u', c, w1, w2, w3, w4⟩
                exact Or.inr ⟨night, u', c, rfl, Or.inl (by omega), ⟨w1, w2, w3⟩, w4⟩
          have nxt : ∀ (v : Int) υ, zL σ υ → sxM υ n M 0 0 → mmL υ (crL M K n 0 0) → ltI υ (crL M K n 0 0) T p (prP (crL M K n 0 0) night (U + 1) 0) v → B_X11_late_185 Q (L_X11_late_55 Q (m + 1)) (L_X11_late_64 Q (L_X11_late_55 Q (m + 1)) (mu + 1)) (p : Int) (T : Int) v (night : Int) (U : Int) υ := by
            intro v υ b1 b2 b3 b4 x ex
            rw [wks (by omega)] at ex
            subst ex
            exact ihu (U + 1) (by omega) υ v b1 b2 b3 b4
          refine ⟨fun z => absurd z (by omega), fun _ => ?_⟩
          rw [wkNU (by omega) (by omega)]
          refine ⟨ixn (by omega), ?_⟩
          rw [Int.toNat_natCast]
          refine ⟨fun z => ?_, fun z => nxt r τ a1 a2 a3 (ltI_of a4 (fun _ => rfl) (fun k u c g => ?_))⟩
          · have hrg := come.mp z
            generalize hl : crL M K n 0 0 night U = l
            have nd := ndV_v K night
            have srt : List.Pairwise (· < ·) l := by rw [← hl]; exact pk_sort (by omega)
            have mem : ∀ Y, Y ∈ l → Y ∈ crL M K n 0 0 night U := fun Y hY => by rw [hl]; exact hY
            have pos : ∀ Y, Y ∈ l → 1 ≤ Y := fun Y hY => (cr_mem (mem Y hY)).2.1
            have lt10 : ∀ Y, Y ∈ l → Y < 1024 := fun Y hY => (cr_mem (mem Y hY)).1
            have keyC : ∀ mc i : Nat, i + mc = l.length → ∀ τ v (c : Int), zL σ τ → sxM τ n M 0 0 → mmL τ (crL M K n 0 0) → ltI τ (crL M K n 0 0) T p (prP (crL M K n 0 0) night U i) v → ((∃ hi : i < l.length, c = (l[i] : Int)) ∨ (c = -1 ∧ i = l.length)) → L_X11_late_103 Q (L_X11_late_55 Q (m + 1)) (L_X11_late_64 Q (L_X11_late_55 Q (m + 1)) (mu + 1)) (mc + 1) (p : Int) (T : Int) v (night : Int) (U : Int) c τ := by
              intro mc
              induction mc with
              | zero =>
                intro i hi τ v c b1 b2 b3 b4 hc
                rcases hc with ⟨hi', _⟩ | ⟨ec, ei⟩
                · omega
                · subst ec
                  refine ⟨fun _ => nxt v τ b1 b2 b3 (ltI_of b4 (fun _ => rfl) (fun k u c g => ?_)), fun w => absurd rfl w⟩
                  unfold prP
                  constructor
                  · rintro (w | ⟨w1, w2⟩)
                    · exact Or.inl w
                    · subst w1
                      right
                      refine ⟨rfl, ?_⟩
                      rcases w2 with w2 | ⟨w2, j, hj, w3, _⟩
                      · by_cases e : u = U
                        · subst e
                          right
                          refine ⟨rfl, ?_⟩
                          obtain ⟨j, hj, ej⟩ := List.mem_iff_getElem.mp g.2.1
                          refine ⟨j, hj, ?_, ej.symm⟩
                          rw [hl] at hj
                          omega
                        · exact Or.inl (by omega)
                      · omega
                  · rintro (w | ⟨w1, w2⟩)
                    · exact Or.inl w
                    · refine Or.inr ⟨w1, Or.inl ?_⟩
                      rcases w2 with w2 | ⟨w2, _⟩ <;> omega
              | succ mc ihc =>
                intro i hi τ v c b1 b2 b3 b4 hc
                rcases hc with ⟨hi', ec⟩ | ⟨ec, ei⟩
                rotate_left
                · omega
                have cm : l[i] ∈ l := List.getElem_mem hi'
                have c10 := lt10 _ cm
                have uc : U ||| l[i] < 1024 := Nat.or_lt_two_pow (n := 10) (show U < 1024 by omega) c10
                have Kt : gI τ 2 = K := by rw [zL_K b1]; exact hK
                subst ec
                -- on to the next crew
                have go : ∀ (v' : Int) υ, zL σ υ → sxM υ n M 0 0 → mmL υ (crL M K n 0 0) → ltI υ (crL M K n 0 0) T p (prP (crL M K n 0 0) night U (i + 1)) v' → B_X11_late_170 Q (L_X11_late_55 Q (m + 1)) (L_X11_late_64 Q (L_X11_late_55 Q (m + 1)) (mu + 1)) (L_X11_late_103 Q (L_X11_late_55 Q (m + 1)) (L_X11_late_64 Q (L_X11_late_55 Q (m + 1)) (mu + 1)) (mc + 1)) (p : Int) (T : Int) v' (night : Int) (U : Int) (l[i] : Int) υ := by
                  intro v' υ d1 d2 d3 d4
                  have Ku : gI υ 2 = K := by rw [zL_K d1]; exact hK
                  refine m_crewIn d2 (by omega) (by omega) c10 (fun X ω f1 f2 f3 f4 f5 => ?_) (fun ω f1 f2 f3 => ?_)
                  · rw [Ku, hl] at f3 f5
                    obtain ⟨hx, ex⟩ := nx_sort srt (i := i + 1) f3 (Or.inr ⟨by omega, by omega, rfl⟩) f4 f5
                    exact ihc (i + 1) (by omega) ω v' _ (zL_tr d1 (zL_Y (zY_X f1))) f2 (fun n' u' a b => by rw [f1.2 19 _ (by omega) (by decide) (by decide) (by decide)]; exact d3 n' u' a b) (ltI_of d4 (fun j => f1.2 23 j (by omega) (by decide) (by decide) (by decide)) (fun _ _ _ _ => Iff.rfl)) (Or.inl ⟨hx, by rw [ex]⟩)
                  · rw [Ku, hl] at f3
                    have := nx_end (i := i + 1) srt (Or.inr ⟨by omega, by omega, rfl⟩) f3
                    exact ihc (i + 1) (by omega) ω v' _ (zL_tr d1 (zL_Y (zY_X f1))) f2 (fun n' u' a b => by rw [f1.2 19 _ (by omega) (by decide) (by decide) (by decide)]; exact d3 n' u' a b) (ltI_of d4 (fun j => f1.2 23 j (by omega) (by decide) (by decide) (by decide)) (fun _ _ _ _ => Iff.rfl)) (Or.inr ⟨rfl, by omega⟩)
                have prS : ∀ k u c, prP (crL M K n 0 0) night U (i + 1) k u c ↔ prP (crL M K n 0 0) night U i k u c ∨ (k = night ∧ u = U ∧ c = l[i]) := by
                  intro k u c
                  unfold prP
                  simp only [hl]
                  constructor
                  · rintro (w | ⟨w1, w2 | ⟨w2, j, hj, w3, w4⟩⟩)
                    · exact Or.inl (Or.inl w)
                    · exact Or.inl (Or.inr ⟨w1, Or.inl w2⟩)
                    · by_cases e : j = i
                      · subst e; exact Or.inr ⟨w1, w2, w4⟩
                      · exact Or.inl (Or.inr ⟨w1, Or.inr ⟨w2, j, hj, by omega, w4⟩⟩)
                  · rintro ((w | ⟨w1, w2 | ⟨w2, j, hj, w3, w4⟩⟩) | ⟨w1, w2, w3⟩)
                    · exact Or.inl w
                    · exact Or.inr ⟨w1, Or.inl w2⟩
                    · exact Or.inr ⟨w1, Or.inr ⟨w2, j, hj, by omega, w4⟩⟩
                    · exact Or.inr ⟨w1, Or.inr ⟨w2, i, hi', by omega, w3⟩⟩
                refine ⟨fun w => absurd w (by omega), fun _ => ?_⟩
                rw [wks (by omega), n_or (by omega) (by omega)]
                refine m_longestFrom (n := n) (M := M) (K := K) (away := 0) (hsh := 0) 13 (night + 1) (U ||| l[i]) (by omega) (by omega) uc Kt b2 b3 (fun υ y1 y2 y3 => ?_)
                have zu : zL σ υ := zL_tr b1 (zL_Y y1)
                have b4u : ltI υ (crL M K n 0 0) T p (prP (crL M K n 0 0) night U i) v := ltI_of b4 (fun j => y1.2 23 j (by omega) (by decide) (by decide) (by decide) (by decide)) (fun _ _ _ _ => Iff.rfl)
                rw [show ((T : Int) - (night : Int) - 1) = ((T - night - 1 : Nat) : Int) by omega, wr_n (by omega)]
                refine ⟨fun w => ?_, fun w => go v υ zu y2 y3 (ltI_of b4u (fun _ => rfl) (fun k u c g => ?_))⟩
                · have yr : rdR (crL M K n 0 0) T (night + 1) (U ||| l[i]) := by unfold rdR; omega
                  have gg : gG (crL M K n 0 0) T night U l[i] := ⟨hrg, mem _ cm, yr⟩
                  rw [show (1024 * ((night : Int) + 1) + ((U ||| l[i] : Nat) : Int)) = ((1024 * (night + 1) + (U ||| l[i]) : Nat) : Int) by omega, wr_n (by omega)]
                  refine ⟨ixn (by omega), ?_⟩
                  intro s es
                  rw [Int.toNat_natCast] at es
                  have nz1 : ¬ o_nz 1 = 0 := by decide
                  have o23 : ∀ k u, k ≤ 10 → u < 1024 → (¬ gI s 23 (1024 * k + u) = 0 ↔ ¬ gI υ 23 (1024 * k + u) = 0 ∨ (k = night + 1 ∧ u = U ||| l[i])) := fun k u q1 q2 => by
                    rw [es, gI_sI]
                    by_cases e : 1024 * k + u = 1024 * (night + 1) + (U ||| l[i])
                    · rw [if_pos ⟨rfl, e⟩]
                      exact ⟨fun _ => Or.inr ⟨by omega, by omega⟩, fun _ => nz1⟩
                    · rw [if_neg (fun q => e q.2)]
                      exact ⟨Or.inl, fun q => q.elim id (fun q' => absurd (by rw [q'.1, q'.2]) e)⟩
                  have zs : zL σ s := by rw [es]; exact zL_tr zu (zL_sI (by omega))
                  have xs : sxM s n M 0 0 := by rw [es]; exact sxM_23 y2
                  have ms : mmL s (crL M K n 0 0) := by rw [es]; exact mmL_23 y3
                  clear es
                  have I1 : ∀ k u, k ≤ 10 → u < 1024 → (¬ gI s 23 (1024 * k + u) = 0 ↔ (k = 0 ∧ u = 0) ∨ ∃ k' u' c, k = k' + 1 ∧ prP (crL M K n 0 0) night U (i + 1) k' u' c ∧ gG (crL M K n 0 0) T k' u' c ∧ u = u' ||| c) := by
                    intro k u q1 q2
                    rw [o23 k u q1 q2, b4u.1 k u q1 q2]
                    constructor
                    · rintro ((v1 | ⟨k', u', c, v1, v2, v3, v4⟩) | ⟨v1, v2⟩)
                      · exact Or.inl v1
                      · exact Or.inr ⟨k', u', c, v1, (prS _ _ _).mpr (Or.inl v2), v3, v4⟩
                      · exact Or.inr ⟨night, U, l[i], v1, (prS _ _ _).mpr (Or.inr ⟨rfl, rfl, rfl⟩), gg, v2⟩
                    · rintro (v1 | ⟨k', u', c, v1, v2, v3, v4⟩)
                      · exact Or.inl (Or.inl v1)
                      · rcases (prS _ _ _).mp v2 with v5 | ⟨v5, v6, v7⟩
                        · exact Or.inl (Or.inr ⟨k', u', c, v1, v5, v3, v4⟩)
                        · exact Or.inr ⟨by omega, by rw [v4, v6, v7]⟩
                  refine m_isIn c10 hp (fun hb => ⟨fun q => absurd q (by decide), fun _ => go (night : Int) s zs xs ms ⟨I1, Or.inr ⟨night, by omega, rfl, U, l[i], gg, hb⟩, fun k u c q1 q2 q3 => ?_⟩⟩) (fun hb => ⟨fun _ => go v s zs xs ms ⟨I1, b4u.2.1, fun k u c q1 q2 q3 => ?_⟩, fun q => absurd rfl q⟩)
                  · rcases q1 with q | ⟨q, _⟩ <;> omega
                  · rcases (prS _ _ _).mp q1 with q | ⟨q4, q5, q6⟩
                    · exact b4u.2.2 k u c q q2 q3
                    · rw [q6, hb] at q3
                      exact absurd q3 (by decide)
                · rw [prS]
                  constructor
                  · rintro (q | ⟨q1, q2, q3⟩)
                    · exact q
                    · exfalso
                      have := g.2.2
                      rw [q1, q2, q3] at this
                      unfold rdR at this
                      omega
                  · exact Or.inl
            have z0 : ltI τ (crL M K n 0 0) T p (prP (crL M K n 0 0) night U 0) r := a4
            refine m_crewIn a2 (by omega) (show U < 1024 by omega) (by decide) (fun X ω f1 f2 f3 f4 f5 => ?_) (fun ω f1 f2 f3 => ?_)
            · rw [Kt, hl] at f3 f5
              obtain ⟨hx, ex⟩ := nx_sort srt (i := 0) f3 (Or.inl ⟨rfl, rfl, pos⟩) f4 f5
              exact ⟨l.length + 1, keyC l.length 0 (by omega) ω r _ (zL_tr a1 (zL_Y (zY_X f1))) f2 (fun n' u' a b => by rw [f1.2 19 _ (by omega) (by decide) (by decide) (by decide)]; exact a3 n' u' a b) (ltI_of z0 (fun j => f1.2 23 j (by omega) (by decide) (by decide) (by decide)) (fun _ _ _ _ => Iff.rfl)) (Or.inl ⟨hx, by rw [ex]⟩)⟩
            · rw [Kt, hl] at f3
              have := nx_end (i := 0) srt (Or.inl ⟨rfl, rfl, pos⟩) f3
              exact ⟨l.length + 1, keyC l.length 0 (by omega) ω r _ (zL_tr a1 (zL_Y (zY_X f1))) f2 (fun n' u' a b => by rw [f1.2 19 _ (by omega) (by decide) (by decide) (by decide)]; exact a3 n' u' a b) (ltI_of z0 (fun j => f1.2 23 j (by omega) (by decide) (by decide) (by decide)) (fun _ _ _ _ => Iff.rfl)) (Or.inr ⟨rfl, by omega⟩)⟩
          · have nr : ¬ rg (crL M K n 0 0) T night U := fun w => absurd z (come.mpr w)
            unfold prP
            constructor
            · rintro (w | ⟨w1, w2⟩)
              · exact Or.inl w
              · subst w1
                right
                refine ⟨rfl, Or.inl ?_⟩
                rcases w2 with w2 | ⟨w2, j, hj, w3, _⟩
                · by_cases e : u = U
                  · subst e; exact absurd g.1 nr
                  · omega
                · omega
            · rintro (w | ⟨w1, w2⟩)
              · exact Or.inl w
              · refine Or.inr ⟨w1, Or.inl ?_⟩
                rcases w2 with w2 | ⟨w2, j, hj, w3, _⟩ <;> omega
      exact ⟨1025, keyU 1024 0 (by omega) τ r a1 a2 a3 a4⟩
  have keyF : ∀ m j : Nat, j + m = 11264 → ∀ τ, zL σ τ → sxM τ n M 0 0 → mmL τ (crL M K n 0 0) → (∀ q, q < j → gI τ 23 q = 0) → L_X11_late_23 Q (m + 1) (p : Int) (T : Int) (j : Int) τ := by
    intro m
    induction m with
    | zero =>
      intro j hj τ a1 a2 a3 a4
      refine ⟨fun _ => ?_, fun z => absurd (by omega) z⟩
      intro s es
      refine ⟨T + 1, keyN T 0 (by omega) s (-1) (by rw [es]; exact zL_tr a1 (zL_sI (by omega))) (by rw [es]; exact sxM_23 a2) (by rw [es]; exact mmL_23 a3) ⟨fun k u q1 q2 => ?_, Or.inl rfl, fun k u c q => ?_⟩⟩
      · have no : ¬ ∃ k' u' c, k = k' + 1 ∧ prP (crL M K n 0 0) 0 0 0 k' u' c ∧ gG (crL M K n 0 0) T k' u' c ∧ u = u' ||| c := by
          rintro ⟨k', u', c, _, w, _⟩
          rcases w with w | ⟨_, w | ⟨_, j, _, w, _⟩⟩ <;> omega
        rw [es, gI_sI]
        by_cases e : 1024 * k + u = 0
        · rw [if_pos ⟨rfl, e⟩]
          exact ⟨fun _ => Or.inl ⟨by omega, by omega⟩, fun _ => by decide⟩
        · rw [if_neg (fun q => e q.2), a4 _ (by omega)]
          exact ⟨fun w => absurd rfl w, fun w => w.elim (fun v => absurd (by rw [v.1, v.2]) e) (fun v => absurd v no)⟩
      · rcases q with w | ⟨_, w | ⟨_, j, _, w, _⟩⟩ <;> omega
    | succ m ih =>
      intro j hj τ a1 a2 a3 a4
      refine ⟨fun z => absurd z (by omega), fun _ => ⟨ixn (by omega), ?_⟩⟩
      intro s es x ex
      rw [wks (by omega)] at ex
      rw [Int.toNat_natCast, show o_nz 0 = 0 from by decide] at es
      subst ex
      subst es
      refine ih (j + 1) (by omega) _ (zL_tr a1 (zL_sI (by omega))) (sxM_23 a2) (mmL_23 a3) (fun q hq => ?_)
      by_cases e : q = j
      · subst e; rw [gI_sI, if_pos ⟨rfl, rfl⟩]
      · rw [gI_sI, if_neg (by omega)]; exact a4 q (by omega)
  exact ⟨11265, keyF 11264 0 (by omega) σ zL_rfl hs hm (fun q hq => absurd hq (by omega))⟩
theorem st_late {B : Nat} {σc σm : st_S} (h : zInv B σc σm) (hk : zK1 σc) (a1 : Int) : wp_X10_late a1 σc (fun r τ => wp_X11_late a1 σm (fun r2 υ => r = r2 ∧ zInv B τ υ)) := by
  obtain ⟨n, M, hx, hm, hsk, hr⟩ := inv_open h hk
  have hn := hx.1.2.2
  have h256 := hx.1.2.1
  refine w_has hn hx.1.1 (fun hp => ⟨fun _ => ?_, fun z => absurd z (by decide)⟩) (fun hp => ⟨fun z => absurd rfl z, fun _ => m_isPerson hn h256 (fun q => absurd q hp) (fun _ => ⟨fun z => absurd rfl z, fun _ => ⟨rfl, h⟩⟩)⟩)
  obtain ⟨p, ep⟩ : ∃ p : Nat, a1 = (p : Int) := ⟨a1.toNat, by omega⟩
  subst ep
  refine w_prepare hx (fun τ1 z1 p1 => w_latestOf p1 (sKd_of hsk z1.1) (by omega) (fun τ2 r z2 hl => ?_))
  have zc : agQ σc τ2 := zS_agQ (zS_tr (zS_P z1) z2) hr
  refine m_isPerson hn h256 (fun _ => ⟨fun _ => m_looks hm (fun υ1 y1 y2 y3 => ?_), fun z => absurd z (by decide)⟩) (fun q => absurd hp q)
  refine m_longestFrom (n := n) (M := M) (K := gI σm 2) (away := 0) (hsh := 0) 13 0 0 (by omega) (by omega) (by decide) (zL_K y1) y2 (mmL_0 y3) (fun υ2 y4 y5 y6 => ?_)
  have zm : zL σm υ2 := zL_tr y1 (zL_Y y4)
  have hT10 : lnV (crL M (gI σm 2) n 0 0) 11 0 0 ≤ 10 := by
    have q := rR_ln (K := gI σm 2) (n := n) (away := 0) (hsh := 0) (T := lnV (crL M (gI σm 2) n 0 0) 11 0 0) (M := M) (g := gLd (gI σm 2)) hn 10 (night := 0) (used := 0) (by omega) (Nat.zero_le _)
    have r := rR_pth _ (q.mpr (by show lnV (crL M (gI σm 2) n 0 0) 11 0 0 ≤ 0 + lnV (crL M (gI σm 2) n 0 0) 11 0 0; omega))
    rcases pth_n _ r (Nat.zero_le _) with w | w <;> omega
  exact m_lateL (n := n) (M := M) (K := gI σm 2) hn (by omega) (zL_K zm) y5 y6 rfl hT10 (fun υ r' w1 w2 => ⟨ltR_u hl w2, zInv_q h zc (zL_agN (zL_tr zm w1))⟩)
