/-! looks, forgets -/
/-- scratch of all searching -/
def zL (σ τ : st_S) : Prop := τ.2 = σ.2 ∧ ∀ c j, ¬ (c = 0 ∧ (j = 8 ∨ j = 22 ∨ j = 23 ∨ j = 24 ∨ j = 34 ∨ j = 35)) → c ≠ 12 → ¬ (15 ≤ c ∧ c ≤ 24) → gI τ c j = gI σ c j
theorem zL_rfl {σ : st_S} : zL σ σ := ⟨rfl, fun _ _ _ _ _ => rfl⟩
theorem zL_tr {σ τ υ : st_S} (h : zL σ τ) (g : zL τ υ) : zL σ υ := ⟨g.1.trans h.1, fun c j a b d => (g.2 c j a b d).trans (h.2 c j a b d)⟩
theorem zL_N {σ τ : st_S} (h : zN σ τ) : zL σ τ := ⟨h.1, fun c j a b _ => h.2 c j (by omega) b⟩
theorem zL_Y {σ τ : st_S} (h : zY σ τ) : zL σ τ := ⟨h.1, fun c j a b d => h.2 c j (by omega) b (by omega) (by omega) (by omega)⟩
theorem zL_sI {σ : st_S} {c j : Nat} {v : Int} (h : 15 ≤ c ∧ c ≤ 24 ∨ (c = 0 ∧ (j = 34 ∨ j = 35))) : zL σ (sI σ c j v) := ⟨rfl, fun c' j' a b d => by rw [gI_sI, if_neg (by omega)]⟩
theorem zL_K {σ τ : st_S} (h : zL σ τ) : gI τ 2 = gI σ 2 := funext fun j => h.2 2 j (by omega) (by decide) (by omega)
theorem zL_agN {σ τ : st_S} (h : zL σ τ) : agN σ τ := ⟨⟨h.1, fun c j q => h.2 c j (by unfold lsM at q; omega) (by unfold lsM at q; omega) (by unfold lsM at q; omega)⟩, h.2 _ _ (by omega) (by decide) (by omega), fun k => h.2 _ _ (by omega) (by decide) (by omega)⟩
theorem m_forgets {σ : st_S} {Q : st_S → Prop} (hQ : ∀ τ, τ.2 = σ.2 → (∀ c j, c ≠ 19 → gI τ c j = gI σ c j) → (∀ j, j < 11264 → gI τ 19 j = -1) → Q τ) : wp_X11_forgets σ Q := by
  have key : ∀ m i : Nat, i + m = 11264 → L_X11_forgets_2 Q (m + 1) (i : Int) (sW σ 19 0 i (fun _ => -1)) := by
    intro m
    induction m with
    | zero =>
      intro i hi
      refine ⟨fun _ => hQ _ rfl (fun c j hc => gI_sWn _ _ _ _ _ (Or.inl hc)) (fun j hj => ?_), fun z => absurd (show (11264 : Int) ≤ (i : Int) by omega) z⟩
      have := gI_sWy σ 19 0 i (fun _ => -1) (j := j) (by omega)
      rw [Nat.zero_add] at this
      exact this
    | succ m ih =>
      intro i hi
      refine ⟨fun z => absurd z (by omega), fun _ => ⟨ixn (by omega), ?_⟩⟩
      intro s es x ex
      rw [wks (by omega)] at ex
      subst ex
      have e : s = sW σ 19 0 (i + 1) (fun _ => -1) := by
        rw [es, ← sW_step, Nat.zero_add, show o_nb (-1) = -1 from by decide, Int.toNat_natCast]
      rw [e]
      exact ih (i + 1) (by omega)
  exact ⟨11265, by have := key 11264 0 (by omega); rw [sW_zero] at this; exact this⟩
theorem wkpq {p q : Nat} (h : p < 1000) (h2 : q < 1000) : wr (10 * (p : Int) + (q : Int)) = ((10 * p + q : Nat) : Int) := by rw [show (10 * (p : Int) + (q : Int)) = ((10 * p + q : Nat) : Int) by omega, wr_n (by omega)]
set_option maxHeartbeats 200000 in
theorem m_looks {σ : st_S} {n : Nat} {M : zM} {Q : st_S → Prop} (hx : cxM σ n M) (hQ : ∀ τ, zL σ τ → sxM τ n M 0 0 → (∀ j, j < 11264 → gI τ 19 j = -1) → Q τ) : wp_X11_looks σ Q := by
  have hxc := hx.1.choose_spec
  have hn := hxc.1.2.2
  have h256 := hxc.1.2.1
  have f7 := hxc.2.2.2.2.2.2.1
  intro s77 e77 s78 e78
  have z78 : zL σ s78 := by rw [e78, e77]; exact zL_tr (zL_sI (by omega)) (zL_sI (by omega))
  have a78 : gI s78 0 34 = 0 ∧ gI s78 0 35 = 0 := by rw [e78, e77]; exact ⟨rfl, rfl⟩
  clear e78 e77
  -- spoils of one
  have inner : ∀ (k34 : Int → st_S → Prop) (p : Nat) τ, p < n → zL σ τ → (gI τ 0 34 = 0 ∧ gI τ 0 35 = 0) → (∀ j, j < 330 → gI τ 17 j = 0) → (∀ υ, zL σ υ → (gI υ 0 34 = 0 ∧ gI υ 0 35 = 0) → (∀ j, j < 330 → gI υ 17 j = 0) → (∀ j, gI υ 15 j = gI τ 15 j) → (∀ j, j < 10 * p ∨ 10 * p + 10 ≤ j → gI υ 16 j = gI τ 16 j) → (∀ q, q < n → gI υ 16 (10 * p + q) = spV M (gI σ 2) p q) → k34 ((p + 1 : Nat) : Int) υ) → ∃ m, L_X11_looks_107 Q k34 m (p : Int) 0 τ := by
    intro k34 p τ hp hz ha hb hk
    have key : ∀ m q : Nat, q + m = n → ∀ υ, zL σ υ → (gI υ 0 34 = 0 ∧ gI υ 0 35 = 0) → (∀ j, j < 330 → gI υ 17 j = 0) → (∀ j, gI υ 15 j = gI τ 15 j) → (∀ j, j < 10 * p ∨ 10 * p + 10 ≤ j → gI υ 16 j = gI τ 16 j) → (∀ r, r < q → gI υ 16 (10 * p + r) = spV M (gI σ 2) p r) → L_X11_looks_107 Q k34 (m + 1) (p : Int) (q : Int) υ := by
      intro m
      induction m with
      | zero =>
        intro q hq υ b1 b2 b3 b4 b5 b6
        have e0 : gI υ 2 256 = (n : Int) := by rw [zL_K b1]; exact h256
        refine ⟨fun _ => ?_, fun z => absurd (show gI υ 2 256 ≤ (q : Int) by omega) z⟩
        intro x ex
        rw [wks (by omega)] at ex
        subst ex
        exact hk υ b1 b2 b3 b4 b5 (fun r hr => b6 r (by omega))
      | succ m ih =>
        intro q hq υ b1 b2 b3 b4 b5 b6
        have Ku := zL_K b1
        have e0 : gI υ 2 256 = (n : Int) := by rw [Ku]; exact h256
        have put : ∀ (v v1 : Int) ω, zN υ ω → v = spV M (gI σ 2) p q → wr v1 = ((10 * p + q : Nat) : Int) → B_X11_looks_149 Q k34 (L_X11_looks_107 Q k34 (m + 1)) (p : Int) (q : Int) v v1 ω := by
          intro v v1 ω hω hv hv1
          unfold B_X11_looks_149
          rw [hv1]
          clear hv1
          refine ⟨ixn (by omega), ?_⟩
          intro s es x ex
          rw [wks (by omega)] at ex
          subst ex
          rw [Int.toNat_natCast] at es
          subst es
          have zω : zL σ (sI ω 16 (10 * p + q) v) := zL_tr b1 (zL_tr (zL_N hω) (zL_sI (by omega)))
          refine ih (q + 1) (by omega) _ zω ?_ (fun j hj => ?_) (fun j => ?_) (fun j hj => ?_) (fun r hr => ?_)
          · show gI ω 0 34 = 0 ∧ gI ω 0 35 = 0
            rw [hω.2 _ _ (by omega) (by decide), hω.2 _ _ (by omega) (by decide)]
            exact b2
          · rw [gI_sI, if_neg (by omega), hω.2 _ _ (by omega) (by decide)]; exact b3 j hj
          · rw [gI_sI, if_neg (by omega), hω.2 _ _ (by omega) (by decide)]; exact b4 j
          · rw [gI_sI, if_neg (by omega), hω.2 _ _ (by omega) (by decide)]; exact b5 j hj
          · by_cases e : r = q
            · subst e; rw [gI_sI, if_pos ⟨rfl, rfl⟩]; exact hv
            · rw [gI_sI, if_neg (by omega), hω.2 _ _ (by omega) (by decide)]; exact b6 r (by omega)
        obtain ⟨f, f1, f2, f3⟩ := f7 p (by omega)
        have f3q := f3 q (by omega)
        have zero : ¬ gI σ 2 (54 + 10 * p + q) = 1 → ∀ x : Int, x = wr (10 * (p : Int) + (q : Int)) → B_X11_looks_148 Q k34 (L_X11_looks_107 Q k34 (m + 1)) (p : Int) (q : Int) x υ := by
          intro hno x ex
          rw [wkpq (by omega) (by omega)] at ex
          subst ex
          exact put 0 _ υ zN_rfl (by unfold spV; rw [if_neg hno]) (wr_n (by omega))
        refine ⟨fun z => absurd z (by show ¬ gI υ 2 256 ≤ (q : Int); omega), fun _ => ⟨fun z => zero ?_, fun z => m_doTalk (by omega) (by omega) ?_⟩⟩
        · have epq : p = q := by omega
          rw [f3q.1]
          cases hbit : f.testBit q with
          | true => exact absurd epq (f3q.2.2 hbit).2.2
          | false => decide
        · rw [Ku]
          by_cases ht : gI σ 2 (54 + 10 * p + q) = 1
          · rw [if_pos ht]
            refine ⟨fun y => absurd y (by decide), fun _ => m_spoilsBy (cxM_of hx Ku) hp (by omega) (fun ω hω => ?_)⟩
            rw [Ku]
            exact put _ _ ω hω (by unfold spV; rw [if_pos ht]) (wkpq (by omega) (by omega))
          · rw [if_neg ht]
            exact ⟨fun _ => zero ht, fun y => absurd rfl y⟩
    exact ⟨n + 1, key n 0 (by omega) τ hz ha hb (fun _ => rfl) (fun _ _ => rfl) (fun r hr => absurd hr (by omega))⟩
  have key2 : ∀ m p : Nat, p + m = n → ∀ τ, zL σ τ → (gI τ 0 34 = 0 ∧ gI τ 0 35 = 0) → (∀ j, j < 330 → gI τ 17 j = 0) → (∀ r, r < p → gI τ 15 r = comV M (gI σ 2) r) → (∀ r q, r < p → q < n → gI τ 16 (10 * r + q) = spV M (gI σ 2) r q) → L_X11_looks_34 Q (m + 1) (p : Int) τ := by
    intro m
    induction m with
    | zero =>
      intro p hp τ b1 b2 b3 b4 b5
      have Kt := zL_K b1
      have e0 : gI τ 2 256 = (n : Int) := by rw [Kt]; exact h256
      refine ⟨fun _ => m_forgets (fun υ c1 c2 c3 => ?_), fun z => absurd (show gI τ 2 256 ≤ (p : Int) by omega) z⟩
      have zu : zL τ υ := ⟨c1, fun c j _ _ d => c2 c j (by omega)⟩
      have Ku : gI υ 2 = gI σ 2 := by rw [zL_K zu, Kt]
      refine hQ υ (zL_tr b1 zu) ⟨cxM_of hx Ku, ⟨fun r hr => ?_, fun r q hr hq => ?_⟩, fun r night h a b c => ?_, ?_, ?_, by decide, by decide⟩ c3
      · rw [c2 _ _ (by decide), Ku]; exact b4 r (by omega)
      · rw [c2 _ _ (by decide), Ku]; exact b5 r q (by omega) hq
      · rw [c2 _ _ (by decide)]; exact Or.inl (b3 _ (by omega))
      · rw [c2 _ _ (by decide)]; exact b2.1
      · rw [c2 _ _ (by decide)]; exact b2.2
    | succ m ih =>
      intro p hp τ b1 b2 b3 b4 b5
      have Kt := zL_K b1
      have e0 : gI τ 2 256 = (n : Int) := by rw [Kt]; exact h256
      have put : ∀ (v : Int) ω, zN τ ω → v = comV M (gI σ 2) p → B_X11_looks_104 Q (L_X11_looks_34 Q (m + 1)) (p : Int) v (p : Int) ω := by
        intro v ω hω hv
        unfold B_X11_looks_104
        rw [wr_n (by omega)]
        refine ⟨ixn (by omega), ?_⟩
        intro s es
        rw [Int.toNat_natCast] at es
        subst es
        have zω : zL σ (sI ω 15 p v) := zL_tr b1 (zL_tr (zL_N hω) (zL_sI (by omega)))
        refine inner _ p _ (by omega) zω ?_ (fun j hj => ?_) (fun υ c1 c2 c3 c4 c5 c6 => ?_)
        · show gI ω 0 34 = 0 ∧ gI ω 0 35 = 0
          rw [hω.2 _ _ (by omega) (by decide), hω.2 _ _ (by omega) (by decide)]
          exact b2
        · rw [gI_sI, if_neg (by omega), hω.2 _ _ (by omega) (by decide)]; exact b3 j hj
        · refine ih (p + 1) (by omega) υ c1 c2 c3 (fun r hr => ?_) (fun r q hr hq => ?_)
          · rw [c4]
            by_cases e : r = p
            · subst e; rw [gI_sI, if_pos ⟨rfl, rfl⟩]; exact hv
            · rw [gI_sI, if_neg (by omega), hω.2 _ _ (by omega) (by decide)]; exact b4 r (by omega)
          · by_cases e : r = p
            · subst e; exact c6 q hq
            · rw [c5 _ (by omega), gI_sI, if_neg (by omega), hω.2 _ _ (by omega) (by decide)]; exact b5 r q (by omega) hq
      refine ⟨fun z => absurd z (by show ¬ gI τ 2 256 ≤ (p : Int); omega), fun _ => ?_⟩
      rw [wk0 (by omega), wk10 (by omega)]
      refine ⟨ixn (by omega), ?_⟩
      intro x ex
      rw [Int.toNat_natCast, Kt] at ex
      subst ex
      refine ⟨fun y2 => ⟨fun y1 => ⟨fun y0 => put _ τ zN_rfl ?_, fun y0 => m_takesNow (cxM_of hx Kt) (by omega) (fun ω hω => put _ ω hω ?_)⟩, fun y1 => ⟨ixn (by omega), ?_⟩⟩, fun y2 => put _ τ zN_rfl ?_⟩
      · unfold comV; rw [if_neg y2, if_neg y1, if_neg y0]
      · unfold comV; rw [if_neg y2, if_neg y1, if_pos y0, Kt]
      · intro u eu
        rw [Int.toNat_natCast, Kt] at eu
        refine put u τ zN_rfl ?_
        unfold comV; rw [if_neg y2, if_pos y1, eu]
      · unfold comV; rw [if_pos y2]
  have key1 : ∀ m i : Nat, i + m = 330 → ∀ τ, zL σ τ → (gI τ 0 34 = 0 ∧ gI τ 0 35 = 0) → (∀ j, j < i → gI τ 17 j = 0) → L_X11_looks_12 Q (m + 1) (i : Int) τ := by
    intro m
    induction m with
    | zero =>
      intro i hi τ b1 b2 b3
      exact ⟨fun _ => ⟨n + 1, key2 n 0 (by omega) τ b1 b2 (fun j hj => b3 j (by omega)) (fun r hr => absurd hr (by omega)) (fun r q hr => absurd hr (by omega))⟩, fun z => absurd (show (330 : Int) ≤ (i : Int) by omega) z⟩
    | succ m ih =>
      intro i hi τ b1 b2 b3
      refine ⟨fun z => absurd z (by omega), fun _ => ⟨ixn (by omega), ?_⟩⟩
      intro s es x ex
      rw [wks (by omega)] at ex
      subst ex
      rw [Int.toNat_natCast, show o_nb 0 = 0 from by decide] at es
      subst es
      refine ih (i + 1) (by omega) _ (zL_tr b1 (zL_sI (by omega))) b2 (fun j hj => ?_)
      by_cases e : j = i
      · subst e; rw [gI_sI, if_pos ⟨rfl, rfl⟩]
      · rw [gI_sI, if_neg (by omega)]; exact b3 j (by omega)
  exact ⟨331, key1 330 0 (by omega) s78 z78 a78 (fun j hj => absurd hj (by omega))⟩
