/-! orders: a deed of both -/
theorem m_small {x : Int} {σ : st_S} {Q : Int → st_S → Prop} (hx : wr x = x) (hQ : Q (if 0 ≤ x ∧ x ≤ 1000000 then x else -1) σ) : wp_X11_small x σ Q := by
  have wx : wl x = x := cn_wl hx
  unfold wp_X11_small
  rw [p_lt wx (by decide), p_le wx (by decide)]
  refine ⟨fun c => ?_, fun c => ⟨fun c2 => ?_, fun c2 => ?_⟩⟩
  · rw [if_neg (by omega)] at hQ; exact hQ
  · rw [if_pos (by omega)] at hQ
    show Q (o_l2i x) σ
    rw [l2i_v (by unfold i32; omega)]
    exact hQ
  · rw [if_neg (by omega)] at hQ; exact hQ
abbrev zAs : Type := (Nat → Int) × (Nat → Int) × Nat
set_option maxHeartbeats 1000000 in
theorem o_deed {K L : Nat → Int} {n m B : Nat} {M : zM} {v x : Int} (hK : kOk K n M) (h30 : zcn (K 30)) (h31 : K 31 ≤ (B : Int)) (hm : m ≤ 16) (hB : B < 2000000000) (hv : 0 ≤ v ∧ v < 3) (hx : wr x = x) :
    ∃ o : Option zAs, (∀ q, o = some q → kOk q.1 n M ∧ zcn (q.1 30) ∧ q.1 31 ≤ ((B + 1 : Nat) : Int) ∧ q.2.2 ≤ 16 ∧ ∀ i, 34 ≤ i → q.1 i = K i) ∧
    (∀ (σ : st_S) (Q : Int → st_S → Prop), dC B σ K L (m : Int) n M → (o = none → ∀ r τ, r < 0 → dF σ τ → Q r τ) → (∀ q, o = some q → ∀ r τ, 0 ≤ r → dF σ τ → dC (B + 1) τ q.1 q.2.1 (q.2.2 : Int) n M → Q r τ) → (v = 0 → wp_X2_summon x σ Q) ∧ (v = 1 → wp_X2_kindle x σ Q) ∧ (v = 2 → wp_X2_idle σ Q)) ∧
    (∀ (σ : st_S) (Q : Int → st_S → Prop), gI σ 2 = K → gI σ 13 = L → gI σ 0 28 = (m : Int) → (o = none → ∀ r υ, r < 0 → dM σ υ → Q r υ) → (∀ q, o = some q → ∀ r υ, 0 ≤ r → dM σ υ → gI υ 2 = q.1 → gI υ 13 = q.2.1 → gI υ 0 28 = (q.2.2 : Int) → Q r υ) → (v = 0 → wp_X11_small x σ (fun r s => wp_X11_sendsKept r s Q)) ∧ (v = 1 → wp_X11_small x σ (fun r s => wp_X11_lightsKept r s Q)) ∧ (v = 2 → wp_X11_darkKept σ Q)) := by
  have kb := kOk_b hK
  have n10 := kOk_n hK
  have hcx := hK.1.choose_spec.1
  have km : kpm m + 1 ≤ 16 := by unfold kpm; split <;> omega
  rcases (by omega : v = 0 ∨ v = 1 ∨ v = 2) with e | e | e
  · subst e
    by_cases c : ∃ p : Nat, x = (p : Int) ∧ p < n ∧ K p = 0
    · obtain ⟨p, e1, e2, e3⟩ := c
      have cr := cos_r hcx e2
      refine ⟨some (sdK M K p, kpF K L m 0, kpm m + 1), fun q eq => ?_, fun σ Q h h0 h1 => ⟨fun _ => ?_, fun w => absurd w (by decide), fun w => absurd w (by decide)⟩, fun σ Q g2 g13 g28 h0 h1 => ⟨fun _ => ?_, fun w => absurd w (by decide), fun w => absurd w (by decide)⟩⟩
      · cases Option.some.inj eq
        exact ⟨kOk_sd hK e2, by show zcn (sdK M K p 30); rw [sd_n (by omega) (by omega)]; exact h30, by show sdK M K p 31 ≤ _; rw [sd_n (by omega) (by omega)]; omega, km, fun i hi => sd_n (by omega) (by omega)⟩
      · refine w_summon h (fun w => absurd (by omega) w) (fun p' a b c' => ?_) (fun p' a b c' τ z d => ?_)
        · have : p' = p := by omega
          subst this; exact absurd e3 c'
        · have : p' = p := by omega
          subst this
          exact h1 _ rfl _ τ cr.1 z (dC_mono d (Nat.le_add_right _ _))
      · refine m_small hx ?_
        rw [if_pos (by omega)]
        refine m_sendsKept (by rw [g2]; exact hK) g28 hm (fun w => absurd (by omega) w) (fun p' a b c' => ?_) (fun p' a b c' υ d => ?_)
        · have : p' = p := by omega
          subst this; rw [g2] at c'; exact absurd e3 c'
        · have : p' = p := by omega
          subst this
          rw [g2] at d ⊢
          exact h1 _ rfl _ υ cr.1 d.1 d.2.1 (by rw [d.2.2.1, g2, g13]) d.2.2.2
    · refine ⟨none, fun q eq => absurd eq (by simp), fun σ Q h h0 h1 => ⟨fun _ => ?_, fun w => absurd w (by decide), fun w => absurd w (by decide)⟩, fun σ Q g2 g13 g28 h0 h1 => ⟨fun _ => ?_, fun w => absurd w (by decide), fun w => absurd w (by decide)⟩⟩
      · exact w_summon h (fun w => h0 rfl _ σ (by decide) dF_rfl) (fun p' a b c' => h0 rfl _ σ (by decide) dF_rfl) (fun p' a b c' τ z d => absurd ⟨p', a, b, c'⟩ c)
      · refine m_small hx ?_
        refine m_sendsKept (by rw [g2]; exact hK) g28 hm (fun w => h0 rfl _ σ (by decide) dM_rfl) (fun p' a b c' => h0 rfl _ σ (by decide) dM_rfl) (fun p' a b c' υ d => ?_)
        rw [g2] at c'
        by_cases c1 : 0 ≤ x ∧ x ≤ 1000000
        · rw [if_pos c1] at a; exact absurd ⟨p', a, b, c'⟩ c
        · rw [if_neg c1] at a; omega
  · subst e
    by_cases c : ∃ k : Nat, x = (k : Int) ∧ k < 1024 ∧ 1 ≤ k ∧ (∀ p, n ≤ p → p < 10 → k.testBit p = false) ∧ lgt M K n k
    · obtain ⟨k, e1, e2, e3, e4, e5⟩ := c
      have wr0 := (woS_r hcx (c := k) (Nat.le_refl n)).1
      have d9 := e5.1
      refine ⟨some (liK M K n k, kpF K L m 1, kpm m + 1), fun q eq => ?_, fun σ Q h h0 h1 => ⟨fun w => absurd w (by decide), fun _ => ?_, fun w => absurd w (by decide)⟩, fun σ Q g2 g13 g28 h0 h1 => ⟨fun w => absurd w (by decide), fun _ => ?_, fun w => absurd w (by decide)⟩⟩
      · cases Option.some.inj eq
        have ln := li_n (c := k) hK
        exact ⟨kOk_li hK d9, ln.1, by show liK M K n k 31 ≤ _; rw [ln.2.1]; omega, km, ln.2.2⟩
      · refine w_kindle h (fun w => absurd (by omega) w) (fun k' a b c' w => ?_) (fun k' a b c' w w2 => ?_) (fun k' a b c' w w2 τ z d => ?_)
        · have : k' = k := by omega
          subst this; exact absurd e4 w
        · have : k' = k := by omega
          subst this; exact absurd e5 w2
        · have : k' = k := by omega
          subst this
          exact h1 _ rfl _ τ wr0 z (dC_mono d (Nat.le_add_right _ _))
      · refine m_small hx ?_
        rw [if_pos (by omega)]
        refine m_lightsKept (by rw [g2]; exact hK) g28 hm (fun w => absurd (by omega) w) (fun k' a b c' w => ?_) (fun k' a b c' w w2 => ?_) (fun k' a b c' w w2 υ d => ?_)
        · have : k' = k := by omega
          subst this; exact absurd e4 w
        · have : k' = k := by omega
          subst this; rw [g2] at w2; exact absurd e5 w2
        · have : k' = k := by omega
          subst this
          rw [g2] at d ⊢
          exact h1 _ rfl _ υ wr0 d.1 d.2.1 (by rw [d.2.2.1, g2, g13]) d.2.2.2
    · refine ⟨none, fun q eq => absurd eq (by simp), fun σ Q h h0 h1 => ⟨fun w => absurd w (by decide), fun _ => ?_, fun w => absurd w (by decide)⟩, fun σ Q g2 g13 g28 h0 h1 => ⟨fun w => absurd w (by decide), fun _ => ?_, fun w => absurd w (by decide)⟩⟩
      · exact w_kindle h (fun w => h0 rfl _ σ (by decide) dF_rfl) (fun k' a b c' w => h0 rfl _ σ (by decide) dF_rfl) (fun k' a b c' w w2 τ z => h0 rfl _ τ (by decide) (dF_J z)) (fun k' a b c' w w2 τ z d => absurd ⟨k', a, b, c', w, w2⟩ c)
      · refine m_small hx ?_
        refine m_lightsKept (by rw [g2]; exact hK) g28 hm (fun w => h0 rfl _ σ (by decide) dM_rfl) (fun k' a b c' w => h0 rfl _ σ (by decide) dM_rfl) (fun k' a b c' w w2 υ z => h0 rfl _ υ (by decide) (dM_N z)) (fun k' a b c' w w2 υ d => ?_)
        rw [g2] at w2
        by_cases c1 : 0 ≤ x ∧ x ≤ 1000000
        · rw [if_pos c1] at a; exact absurd ⟨k', a, b, c', w, w2⟩ c
        · rw [if_neg c1] at a; omega
  · subst e
    by_cases c : K 33 < 999
    · refine ⟨some (dkK M K n, kpF K L m 2, kpm m + 1), fun q eq => ?_, fun σ Q h h0 h1 => ⟨fun w => absurd w (by decide), fun w => absurd w (by decide), fun _ => ?_⟩, fun σ Q g2 g13 g28 h0 h1 => ⟨fun w => absurd w (by decide), fun w => absurd w (by decide), fun _ => ?_⟩⟩
      · cases Option.some.inj eq
        have ln := dk_n hK
        exact ⟨kOk_dk hK c, by show zcn (dkK M K n 30); rw [ln.1]; exact h30, by show dkK M K n 31 ≤ _; rw [ln.2.1]; omega, km, ln.2.2⟩
      · exact w_idle h hB (fun w => absurd c (by omega)) (fun _ τ z d => h1 _ rfl _ τ (by omega) z d)
      · refine m_darkKept (by rw [g2]; exact hK) (by rw [g2]; omega) g28 hm (fun w => absurd c (by rw [g2] at w; omega)) (fun _ υ d => ?_)
        rw [g2] at d ⊢
        exact h1 _ rfl _ υ (by omega) d.1 d.2.1 (by rw [d.2.2.1, g2, g13]) d.2.2.2
    · refine ⟨none, fun q eq => absurd eq (by simp), fun σ Q h h0 h1 => ⟨fun w => absurd w (by decide), fun w => absurd w (by decide), fun _ => ?_⟩, fun σ Q g2 g13 g28 h0 h1 => ⟨fun w => absurd w (by decide), fun w => absurd w (by decide), fun _ => ?_⟩⟩
      · exact w_idle h hB (fun w => h0 rfl _ σ (by decide) dF_rfl) (fun w => absurd w c)
      · exact m_darkKept (by rw [g2]; exact hK) (by rw [g2]; omega) g28 hm (fun w => h0 rfl _ σ (by decide) dM_rfl) (fun w => absurd (by rw [g2] at w; exact w) c)
