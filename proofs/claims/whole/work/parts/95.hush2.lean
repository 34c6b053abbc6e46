/-! hush: both -/
theorem m_ones {X : Nat} {σ : st_S} {Q : Int → st_S → Prop} (hX : X < 1024) (hQ : Q (pop X : Int) σ) : wp_X11_ones (X : Int) σ Q := by
  have sb := fun k => smI_b (f := fun q => if X.testBit q then (1 : Int) else 0) (n := k) 1 (fun i _ => by show 0 ≤ (if X.testBit i then (1 : Int) else 0) ∧ (if X.testBit i then (1 : Int) else 0) ≤ _; split <;> omega)
  rw [pop_sm] at hQ
  have key : ∀ m p : Nat, p + m = 10 → L_X11_ones_4 Q (m + 1) (X : Int) (smI (fun q => if X.testBit q then (1 : Int) else 0) p) (p : Int) σ := by
    intro m
    induction m with
    | zero =>
      intro p hp
      have ep : p = 10 := by omega
      subst ep
      exact ⟨fun _ => hQ, fun z => absurd (by decide) z⟩
    | succ m ih =>
      intro p hp
      refine ⟨fun z => absurd z (by omega), fun _ => ?_⟩
      intro x ex y ey
      have s1 := sb p
      have s2 := sb (p + 1)
      have es : smI (fun q => if X.testBit q then (1 : Int) else 0) (p + 1) = smI (fun q => if X.testBit q then (1 : Int) else 0) p + (if X.testBit p then (1 : Int) else 0) := rfl
      rw [bitI hX (by omega), ← es, wr_id (by omega) (by omega)] at ex
      rw [wks (by omega)] at ey
      subst ex
      subst ey
      exact ih (p + 1) (by omega)
  exact ⟨11, key 10 0 (by omega)⟩
/-- what hush answers from s on -/
noncomputable def hAns (M : zM) (K : Nat → Int) (n m : Nat) (w : Int) : Nat → Nat → Int
  | 0, _ => -1
  | f + 1, s => if 0 < (hsA (hbR M K n m s) (2 ^ n)).2 then (if w = 0 then (s : Int) else if w = 1 then ((hsA (hbR M K n m s) (2 ^ n)).1 : Int) else ((hsA (hbR M K n m s) (2 ^ n)).2 : Int)) else hAns M K n m w f (s + 1)
set_option maxHeartbeats 1000000 in
theorem st_hush {B : Nat} {σc σm : st_S} (h : zInv B σc σm) (hk : zK1 σc) (a1 a2 : Int) : wp_X10_hush a1 a2 σc (fun r τ => wp_X11_hush a1 a2 σm (fun r2 υ => r = r2 ∧ zInv B τ υ)) := by
  obtain ⟨n, M, hx, hm, hsk, hr⟩ := inv_open h hk
  have hn := hx.1.2.2
  have h256 := hx.1.2.1
  have pn := pw_le hn
  have no1 : ¬ (1 ≤ a1 ∧ a1 ≤ 10) → B_X10_hush_20 (fun r τ => wp_X11_hush a1 a2 σm (fun r2 υ => r = r2 ∧ zInv B τ υ)) σc := fun q => m_lies (fun w => absurd w q) (fun _ => ⟨fun _ => ⟨rfl, h⟩, fun w => absurd rfl w⟩)
  have no2 : (1 ≤ a1 ∧ a1 ≤ 10) → ¬ (0 ≤ a2 ∧ a2 ≤ 2) → B_X10_hush_20 (fun r τ => wp_X11_hush a1 a2 σm (fun r2 υ => r = r2 ∧ zInv B τ υ)) σc := fun q1 q => m_lies (fun _ => ⟨fun w => absurd w (by decide), fun _ => m_lies (fun w => absurd w q) (fun _ => ⟨fun w => absurd rfl w, fun _ => ⟨rfl, h⟩⟩)⟩) (fun w => absurd q1 w)
  refine ⟨fun z => no1 (by omega), fun z1 => ⟨fun z => no1 (by omega), fun z2 => ⟨fun z => no2 ⟨by omega, by omega⟩ (by omega), fun z3 => ⟨fun z4 => ?_, fun z => no2 ⟨by omega, by omega⟩ (by omega)⟩⟩⟩⟩
  obtain ⟨m, em⟩ : ∃ m : Nat, a1 = (m : Int) := ⟨a1.toNat, by omega⟩
  subst em
  refine w_prepare hx (fun τ1 z1' p1 => ?_)
  have ref : ∀ τ, zS σc τ → wp_X11_hush (m : Int) a2 σm (fun r2 υ => hAns M (gI σm 2) n m a2 3 0 = r2 ∧ zInv B τ υ) := by
    intro τ zt
    have zc : agQ σc τ := zS_agQ zt hr
    refine m_lies (fun _ => ⟨fun w => absurd w (by decide), fun _ => m_lies (fun _ => ⟨fun _ => m_looks hm (fun υ1 y1 y2 y3 => ?_), fun w => absurd w (by decide)⟩) (fun w => absurd ⟨by omega, by omega⟩ w)⟩) (fun w => absurd ⟨by omega, by omega⟩ w)
    have b121 : ∀ (s X c : Nat) υ, zL σm υ → X < 1024 → pop X = s → hAns M (gI σm 2) n m a2 3 0 = (if a2 = 0 then (s : Int) else if a2 = 1 then (X : Int) else (c : Int)) → B_X11_hush_121 (fun r2 υ => hAns M (gI σm 2) n m a2 3 0 = r2 ∧ zInv B τ υ) a2 (X : Int) (c : Int) υ := by
      intro s X c υ w1 w2 w3 w4
      have zi : zInv B τ υ := zInv_q h zc (zL_agN w1)
      refine ⟨fun _ => ⟨fun q0 => ⟨fun q1 => ?_, fun q1 => ?_⟩, fun q0 => m_ones w2 ?_⟩, fun q => absurd q (by omega)⟩
      · rw [if_neg q0, if_neg q1] at w4
        exact ⟨w4, zi⟩
      · rw [if_neg q0, if_pos q1] at w4
        exact ⟨w4, zi⟩
      · rw [if_pos q0, ← w3] at w4
        exact ⟨w4, zi⟩
    have key : ∀ f s : Nat, f + s = 3 → ∀ υ A, zL σm υ → sxM υ n M 0 A → hAns M (gI σm 2) n m a2 3 0 = hAns M (gI σm 2) n m a2 f s → L_X11_hush_33 (fun r2 υ => hAns M (gI σm 2) n m a2 3 0 = r2 ∧ zInv B τ υ) (f + 2) (m : Int) a2 (-1) 0 (s : Int) υ := by
      intro f
      induction f with
      | zero =>
        intro s hs υ A w1 w2 w3
        have zi : zInv B τ υ := zInv_q h zc (zL_agN w1)
        exact ⟨fun _ => ⟨fun q => absurd rfl q, fun _ => ⟨w3, zi⟩⟩, fun q => absurd (by omega) q⟩
      | succ f ihf =>
        intro s hs υ A w1 w2 w3
        have es3 : hAns M (gI σm 2) n m a2 (f + 1) s = if 0 < (hsA (hbR M (gI σm 2) n m s) (2 ^ n)).2 then (if a2 = 0 then (s : Int) else if a2 = 1 then ((hsA (hbR M (gI σm 2) n m s) (2 ^ n)).1 : Int) else ((hsA (hbR M (gI σm 2) n m s) (2 ^ n)).2 : Int)) else hAns M (gI σm 2) n m a2 f (s + 1) := rfl
        rw [es3] at w3
        refine ⟨fun q => absurd q (by omega), fun _ => ⟨fun q => absurd rfl q, fun _ => ?_⟩⟩
        have bst : ∀ X : Nat, ((if (hsA (hbR M (gI σm 2) n m s) X).2 = 0 then (-1 : Int) else ((hsA (hbR M (gI σm 2) n m s) X).1 : Int)) = -1 ↔ (hsA (hbR M (gI σm 2) n m s) X).2 = 0) := fun X => by
          split
          · rename_i q; exact ⟨fun _ => q, fun _ => rfl⟩
          · rename_i q; exact ⟨fun w => absurd w (by omega), fun w => absurd w q⟩
        have keyX : ∀ k X : Nat, X + k = 2 ^ n → ∀ ω A', zL σm ω → sxM ω n M 0 A' → L_X11_hush_47 (fun r2 υ => hAns M (gI σm 2) n m a2 3 0 = r2 ∧ zInv B τ υ) (L_X11_hush_33 (fun r2 υ => hAns M (gI σm 2) n m a2 3 0 = r2 ∧ zInv B τ υ) (f + 2)) (k + 1) (m : Int) a2 (if (hsA (hbR M (gI σm 2) n m s) X).2 = 0 then (-1 : Int) else ((hsA (hbR M (gI σm 2) n m s) X).1 : Int)) ((hsA (hbR M (gI σm 2) n m s) X).2 : Int) (s : Int) (X : Int) ω := by
          intro k
          induction k with
          | zero =>
            intro X hX ω A' o1 o2
            have eX : X = 2 ^ n := by omega
            subst eX
            have e0 : gI ω 2 256 = (n : Int) := by rw [zL_K o1]; exact h256
            have sz : o_shl 1 (gI ω 2 256) = ((2 ^ n : Nat) : Int) := by rw [e0]; exact shl_n hn
            refine ⟨fun _ => ?_, fun q => absurd (by show o_shl 1 (gI ω 2 256) ≤ _; rw [sz]; exact Int.le_refl _) q⟩
            intro x ex
            rw [wks (by omega)] at ex
            subst ex
            by_cases c0 : (hsA (hbR M (gI σm 2) n m s) (2 ^ n)).2 = 0
            · rw [if_pos c0, c0]
              rw [if_neg (by omega)] at w3
              exact ihf (s + 1) (by omega) ω A' o1 o2 w3
            · rw [if_neg c0]
              rw [if_pos (by omega)] at w3
              have ff := hsA_first (b := hbR M (gI σm 2) n m s) (k := 2 ^ n) (by omega)
              have fp : pop (hsA (hbR M (gI σm 2) n m s) (2 ^ n)).1 = s := by
                have := ff.1
                unfold hbR at this
                rw [Bool.and_eq_true, decide_eq_true_eq] at this
                exact this.1
              have bb := b121 s _ (hsA (hbR M (gI σm 2) n m s) (2 ^ n)).2 ω o1 (by have := ff.2; omega) fp w3
              exact ⟨fun _ => bb, fun _ => ⟨fun _ => bb, fun q => absurd q (by omega)⟩⟩
          | succ k ih =>
            intro X hX ω A' o1 o2
            have e0 : gI ω 2 256 = (n : Int) := by rw [zL_K o1]; exact h256
            have sz : o_shl 1 (gI ω 2 256) = ((2 ^ n : Nat) : Int) := by rw [e0]; exact shl_n hn
            have X10 : X < 1024 := by omega
            have cl := hsA_le (b := hbR M (gI σm 2) n m s) (k := X)
            have es : hsA (hbR M (gI σm 2) n m s) (X + 1) = if hbR M (gI σm 2) n m s X then (if (hsA (hbR M (gI σm 2) n m s) X).2 = 0 then X else (hsA (hbR M (gI σm 2) n m s) X).1, (hsA (hbR M (gI σm 2) n m s) X).2 + 1) else hsA (hbR M (gI σm 2) n m s) X := rfl
            have same : ∀ ρ A'', zL σm ρ → sxM ρ n M 0 A'' → hbR M (gI σm 2) n m s X = false → B_X11_hush_109 (fun r2 υ => hAns M (gI σm 2) n m a2 3 0 = r2 ∧ zInv B τ υ) (L_X11_hush_33 (fun r2 υ => hAns M (gI σm 2) n m a2 3 0 = r2 ∧ zInv B τ υ) (f + 2)) (L_X11_hush_47 (fun r2 υ => hAns M (gI σm 2) n m a2 3 0 = r2 ∧ zInv B τ υ) (L_X11_hush_33 (fun r2 υ => hAns M (gI σm 2) n m a2 3 0 = r2 ∧ zInv B τ υ) (f + 2)) (k + 1)) (m : Int) a2 (if (hsA (hbR M (gI σm 2) n m s) X).2 = 0 then (-1 : Int) else ((hsA (hbR M (gI σm 2) n m s) X).1 : Int)) ((hsA (hbR M (gI σm 2) n m s) X).2 : Int) (s : Int) (X : Int) ρ := by
              intro ρ A'' r1 r2 r3 x ex
              rw [wks (by omega)] at ex
              subst ex
              rw [r3, if_neg (by decide)] at es
              have := ih (X + 1) (by omega) ρ A'' r1 r2
              rw [es] at this
              exact this
            refine ⟨fun q => absurd q (by show ¬ o_shl 1 (gI ω 2 256) ≤ _; rw [sz]; omega), fun _ => m_ones X10 ⟨fun q => ?_, fun q => same ω A' o1 o2 ?_⟩⟩
            · have c1 : pop X = s := by omega
              intro s4 e4
              have z4 : zL σm s4 := by rw [e4]; exact zL_tr o1 (zL_sI (by omega))
              have x4 : sxM s4 n M 0 X := by rw [e4]; exact sxM_35 o2 X10
              refine m_fl (K := gI σm 2) (zL_K z4) x4 (fun ρ r1 r2 => ⟨fun u => ?_, fun u => same ρ X (zL_tr z4 r1) r2 ?_⟩)
              · have c3 : m ≤ lnH M (gI σm 2) n X := by unfold lnH; omega
                have hb : hbR M (gI σm 2) n m s X = true := by unfold hbR; rw [decide_eq_true c1, decide_eq_true c3]; rfl
                rw [hb, if_pos rfl] at es
                have put : ∀ v : Int, v = (((if (hsA (hbR M (gI σm 2) n m s) X).2 = 0 then X else (hsA (hbR M (gI σm 2) n m s) X).1) : Nat) : Int) → B_X11_hush_105 (fun r2 υ => hAns M (gI σm 2) n m a2 3 0 = r2 ∧ zInv B τ υ) (L_X11_hush_33 (fun r2 υ => hAns M (gI σm 2) n m a2 3 0 = r2 ∧ zInv B τ υ) (f + 2)) (L_X11_hush_47 (fun r2 υ => hAns M (gI σm 2) n m a2 3 0 = r2 ∧ zInv B τ υ) (L_X11_hush_33 (fun r2 υ => hAns M (gI σm 2) n m a2 3 0 = r2 ∧ zInv B τ υ) (f + 2)) (k + 1)) (m : Int) a2 ((hsA (hbR M (gI σm 2) n m s) X).2 : Int) (s : Int) (X : Int) v ρ := by
                  intro v hv x ex y ey
                  rw [wks (by omega)] at ex
                  rw [wks (by omega)] at ey
                  subst ex
                  subst ey
                  have := ih (X + 1) (by omega) ρ X (zL_tr z4 r1) r2
                  rw [es] at this
                  simp only [] at this
                  rw [if_neg (by omega)] at this
                  rw [hv]
                  exact this
                refine ⟨fun v => put _ ?_, fun v => put _ ?_⟩
                · rw [bst] at v
                  rw [if_neg v, if_neg v]
                · rw [bst] at v
                  rw [if_pos v]
              · unfold hbR
                rw [decide_eq_false (show ¬ m ≤ lnH M (gI σm 2) n X by unfold lnH; omega), Bool.and_false]
            · unfold hbR
              rw [decide_eq_false (show ¬ pop X = s by omega)]
              rfl
        exact ⟨2 ^ n + 1, keyX (2 ^ n) 0 (by omega) υ A w1 w2⟩
    exact ⟨5, key 3 0 (by omega) υ1 0 y1 y2 rfl⟩
  have keyC : ∀ f s : Nat, f + s = 3 → (∀ s', s' < s → (hsA (hbR M (gI σm 2) n m s') (2 ^ n)).2 = 0) → ∀ τ, zS σc τ → ppC τ (gI σm 2) n M → hAns M (gI σm 2) n m a2 3 0 = hAns M (gI σm 2) n m a2 f s → L_X10_hush_31 (fun r τ => wp_X11_hush (m : Int) a2 σm (fun r2 υ => r = r2 ∧ zInv B τ υ)) (f + 1) (m : Int) a2 (s : Int) τ := by
    intro f
    induction f with
    | zero =>
      intro s hs h0 τ w1 w2 w3
      refine ⟨fun _ => ?_, fun q => absurd (by omega) q⟩
      have := ref τ w1
      rw [w3] at this
      exact this
    | succ f ihf =>
      intro s hs h0 τ w1 w2 w3
      have es3 : hAns M (gI σm 2) n m a2 (f + 1) s = if 0 < (hsA (hbR M (gI σm 2) n m s) (2 ^ n)).2 then (if a2 = 0 then (s : Int) else if a2 = 1 then ((hsA (hbR M (gI σm 2) n m s) (2 ^ n)).1 : Int) else ((hsA (hbR M (gI σm 2) n m s) (2 ^ n)).2 : Int)) else hAns M (gI σm 2) n m a2 f (s + 1) := rfl
      rw [es3] at w3
      refine ⟨fun q => absurd q (by omega), fun _ => w_hushings w2 (sKd_of hsk w1.1) (by omega) (by omega) (fun υ mt hmt u1 u2 u3 => ?_)⟩
      rw [hb_eq hn hmt h0] at u3 ⊢
      have rf := ref υ (zS_tr w1 u1)
      refine ⟨fun q => ?_, fun q => ?_⟩
      · intro x ex
        rw [wks (by omega)] at ex
        subst ex
        rw [if_neg (by omega)] at w3
        refine ihf (s + 1) (by omega) (fun s' hs' => ?_) υ (zS_tr w1 u1) u2 w3
        by_cases e : s' = s
        · subst e; omega
        · exact h0 s' (by omega)
      · rw [if_pos (by omega)] at w3
        rw [w3] at rf
        refine ⟨fun q0 => ⟨fun q1 => ?_, fun q1 => ?_⟩, fun q0 => ?_⟩
        · rw [if_neg q0, if_neg q1] at rf
          exact rf
        · rw [if_neg q0, if_pos q1] at rf
          rw [u3 (by omega)]
          exact rf
        · rw [if_pos q0] at rf
          exact rf
  exact ⟨4, keyC 3 0 (by omega) (fun s' hs' => absurd hs' (by omega)) τ1 (zS_P z1') p1 rfl⟩
