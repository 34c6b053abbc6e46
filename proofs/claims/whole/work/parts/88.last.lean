/-! last -/
theorem inv_open {B : Nat} {σc σm : st_S} (h : zInv B σc σm) (hk : zK1 σc) : ∃ n M, cxC σc (gI σm 2) n M ∧ cxM σm n M ∧ sKd σc ∧ zRr σc := by
  obtain ⟨n, M, h1, h2⟩ := zCR_M h.1.1 hk
  exact ⟨n, M, h1, h2, ⟨zK1_at hk 57 0 1024 (by rfl), zK1_at hk 58 0 1024 (by rfl), zK1_at hk 59 0 5120 (by rfl), zK1_at hk 62 0 10 (by rfl)⟩, h.2.2⟩
theorem ppl_b {K : Nat → Int} {n : Nat} (p : Nat) (hp : p < n) : (ppl K n).testBit p = (decide (¬ K p = 3) && !(0 : Nat).testBit p) := by
  unfold ppl
  rw [bsN_tb, Nat.zero_testBit]
  simp [hp, plB]
theorem mmL_0 {σ : st_S} {cr : Nat → Nat → List Nat} (h : ∀ j, j < 11264 → gI σ 19 j = -1) : mmL σ cr := fun night used a b => Or.inl (h _ (by omega))
set_option maxHeartbeats 1000000 in
theorem m_lastL {K : Nat → Int} {n away hsh T i : Nat} {M : zM} {g : Nat → Nat} {F : Nat → Int} {Q : Int → st_S → Prop} (hn : n ≤ 10) (hT : T ≤ 10) (hi : i < T) : ∀ (d k used : Nat) {σ : st_S}, k + d = i → used < 1024 → k ≤ ctN used n → gI σ 2 = K → sxM σ n M away hsh → mmL σ (crL M K n away hsh) → gRw (crL M K n away hsh) (nlF false g n) (sNi T) (10 - k) k used 0 F → (∀ τ, zY σ τ → Q (F i) τ) → L_X11_last_36 Q (d + 1) (i : Int) (T : Int) (used : Int) (k : Int) σ := by
  intro d
  induction d with
  | zero => ?_
  | succ d ihd => ?_
  all_goals
    intro k used σ hk hu hc hK hs hm hG hQ
    rw [show 10 - k = (9 - k) + 1 by omega] at hG
    rcases hG with hG | ⟨hns, l1, c, l2, g1, g2, g3, g4, g5, g6⟩
    · exact absurd hG (by show ¬ T ≤ k; omega)
    generalize hl : crL M K n away hsh k used = l at g1
    have nd := ndV_v K k
    have srt : List.Pairwise (· < ·) l := by rw [← hl]; exact pk_sort (by omega)
    have pos : ∀ Y, Y ∈ l → 1 ≤ Y := fun Y hY => by rw [← hl] at hY; exact pk_pos (by omega) hY
    have lt10 : ∀ Y, Y ∈ l → Y < 1024 := fun Y hY => by rw [← hl] at hY; exact pk_lts (by omega) hY
    have mem : ∀ Y, Y ∈ l → Y ∈ crL M K n away hsh k used := fun Y hY => by rw [hl]; exact hY
    have ll : l.length = l1.length + 1 + l2.length := by rw [g1, List.length_append, List.length_cons]; omega
    have lc : ∀ h : l1.length < l.length, l[l1.length] = c := fun h => by simp only [g1]; rw [List.getElem_append_right (Nat.le_refl _)]; simp
    have le1 : ∀ j (h : j < l.length), j < l1.length → l[j] ∈ l1 := fun j h hj => by simp only [g1]; rw [List.getElem_append_left hj]; exact List.getElem_mem hj
    have rl : ∀ Y, Y ∈ l → (rR (crL M K n away hsh) (nlF false g n) (sNi T) (9 - k) (k + 1) (used ||| Y) (nlF false g n Y) ↔ T ≤ k + 1 + lnV (crL M K n away hsh) (11 - (k + 1)) (k + 1) (used ||| Y)) := fun Y hY => by
      have q := rR_ln (K := K) (n := n) (away := away) (hsh := hsh) (T := T) (M := M) (g := g) hn (9 - k) (night := k + 1) (used := used ||| Y) (by omega) (by have := cr_ct (mem Y hY); omega)
      rw [show 9 - k + 1 = 11 - (k + 1) by omega] at q
      exact q
    have key : ∀ m j : Nat, j + m = l1.length → ∀ τ (hj : j < l.length), zY σ τ → sxM τ n M away hsh → mmL τ (crL M K n away hsh) → ∀ k36, (∀ υ, zY σ υ → sxM υ n M away hsh → mmL υ (crL M K n away hsh) → (¬ k = i → k36 (i : Int) (T : Int) ((used ||| c : Nat) : Int) ((k + 1 : Nat) : Int) υ)) → L_X11_last_46 Q k36 (m + 1) (i : Int) (T : Int) (used : Int) (k : Int) (l[j] : Int) τ := by
      intro m
      induction m with
      | zero =>
        intro j hj0 τ hj z1 z2 z3 k36 hk36
        have ej : j = l1.length := by omega
        subst ej
        have ec := lc hj
        have c10 := lt10 _ (List.getElem_mem hj)
        show wp_X11_longestFrom 13 _ _ _ _
        rw [ec] at c10 ⊢
        rw [wks (by omega), n_or (by omega) (by omega)]
        refine m_longestFrom 13 (k + 1) (used ||| c) (by omega) (by omega) (Nat.or_lt_two_pow (n := 10) hu c10) (by rw [zY_K z1]; exact hK) z2 z3 (fun υ y1 y2 y3 => ?_)
        have cm : c ∈ l := by rw [g1]; simp
        have r := (rl c cm).mp g3
        rw [show ((T : Int) - (k : Int) - 1) = ((T - k - 1 : Nat) : Int) by omega, wr_n (by omega)]
        refine ⟨fun _ => ⟨fun q => ?_, fun q => ?_⟩, fun w => absurd (by omega) w⟩
        · intro x ex y ey
          subst ex
          subst ey
          exact hk36 υ (zY_tr z1 y1) y2 y3 (by omega)
        · have ek : k = i := by omega
          rw [← g5, ek]
          exact hQ υ (zY_tr z1 y1)
      | succ m ih =>
        intro j hj0 τ hj z1 z2 z3 k36 hk36
        have cm : l[j] ∈ l := List.getElem_mem hj
        have c10 := lt10 _ cm
        show wp_X11_longestFrom 13 _ _ _ _
        rw [wks (by omega), n_or (by omega) (by omega)]
        refine m_longestFrom 13 (k + 1) (used ||| l[j]) (by omega) (by omega) (Nat.or_lt_two_pow (n := 10) hu c10) (by rw [zY_K z1]; exact hK) z2 z3 (fun υ y1 y2 y3 => ?_)
        have nr := g4 l[j] (le1 j hj (by omega)) (Nat.and_zero _)
        rw [rl _ cm] at nr
        rw [show ((T : Int) - (k : Int) - 1) = ((T - k - 1 : Nat) : Int) by omega, wr_n (by omega)]
        refine ⟨fun w => absurd w (by omega), fun _ => ?_⟩
        have Ku : gI υ 2 = K := by rw [zY_K y1, zY_K z1]; exact hK
        refine m_crewIn y2 (by omega) hu c10 (fun X ω a1 a2 a3 a4 a5 => ?_) (fun ω a1 a2 a3 => ?_)
        · rw [Ku, hl] at a3 a5
          obtain ⟨hx, ex⟩ := nx_sort srt (i := j + 1) a3 (Or.inr ⟨by omega, by omega, rfl⟩) a4 a5
          subst ex
          exact ih (j + 1) (by omega) ω hx (zY_tr z1 (zY_tr y1 (zY_X a1))) a2 (fun n' u' a b => by rw [a1.2 19 _ (by omega) (by decide) (by decide) (by decide)]; exact y3 n' u' a b) k36 hk36
        · rw [Ku, hl] at a3
          have := nx_end (i := j + 1) srt (Or.inr ⟨by omega, by omega, rfl⟩) a3
          omega
    show wp_X11_crewIn _ _ _ _ _
    refine m_crewIn hs (by omega) hu (by decide) (fun X τ a1 a2 a3 a4 a5 => ?_) (fun τ a1 a2 a3 => ?_)
    · rw [hK, hl] at a3 a5
      obtain ⟨hx, ex⟩ := nx_sort srt (i := 0) a3 (Or.inl ⟨rfl, rfl, pos⟩) a4 a5
      subst ex
      refine ⟨l1.length + 1, key l1.length 0 (by omega) τ hx (zY_X a1) a2 (fun n' u' a b => by rw [a1.2 19 _ (by omega) (by decide) (by decide) (by decide)]; exact hm n' u' a b) _ (fun υ y1 y2 y3 q => ?_)⟩
      first
        | exact absurd (by omega) q
        | exact ihd (k + 1) (used ||| c) (by omega) (Nat.or_lt_two_pow (n := 10) hu (lt10 c (by rw [g1]; simp))) (by have := cr_ct (mem c (by rw [g1]; simp)); omega) (by rw [zY_K y1]; exact hK) y2 y3 (by rw [show 10 - (k + 1) = 9 - k by omega]; exact g6) (fun ω w => hQ ω (zY_tr y1 w))
    · rw [hK, hl] at a3
      have := nx_end (i := 0) srt (Or.inl ⟨rfl, rfl, pos⟩) a3
      omega
set_option maxHeartbeats 400000 in
theorem st_last {B : Nat} {σc σm : st_S} (h : zInv B σc σm) (hk : zK1 σc) (a1 : Int) : wp_X10_last a1 σc (fun r τ => wp_X11_last a1 σm (fun r2 υ => r = r2 ∧ zInv B τ υ)) := by
  obtain ⟨n, M, hx, hm, hsk, hr⟩ := inv_open h hk
  have hn := hx.1.2.2
  refine w_prepare hx (fun τ1 z1 p1 => ?_)
  rw [show gI τ1 42 0 = (ppl (gI σm 2) n : Int) from p1.2.1.1]
  refine w_longest (away := 0) p1 (sKd_of hsk z1.1) (ppl_lt hn) (fun p hp => ppl_b p hp) (fun τ2 z2 p2 e2 g2 => ?_)
  have zc : agQ σc τ2 := zS_agQ (zS_tr (zS_P z1) z2) hr
  have le := lnV_le (cr := crL M (gI σm 2) n 0 0) (f := 11) (night := 0) (used := 0)
  generalize hT : lnV (crL M (gI σm 2) n 0 0) 11 0 0 = T at g2 le
  have hT10 : T ≤ 10 := by
    have q := rR_ln (K := gI σm 2) (n := n) (away := 0) (hsh := 0) (T := T) (M := M) (g := gLd (gI σm 2)) hn 10 (night := 0) (used := 0) (by omega) (Nat.zero_le _)
    have r := rR_pth _ (q.mpr (by show T ≤ 0 + lnV (crL M (gI σm 2) n 0 0) 11 0 0; omega))
    rcases pth_n _ r (Nat.zero_le _) with w | w <;> omega
  have ref : ∀ r : Int, (a1 < -1 ∨ (T : Int) ≤ a1 → r = -1) → (a1 = -1 → r = (T : Int)) → (∀ i : Nat, a1 = (i : Int) → i < T → r = gI τ2 61 i) → wp_X11_last a1 σm (fun r2 υ => r = r2 ∧ zInv B τ2 υ) := by
    intro r r1 r2 r3
    refine m_looks hm (fun υ1 y1 y2 y3 => ?_)
    refine m_longestFrom (n := n) (M := M) (K := gI σm 2) (away := 0) (hsh := 0) 13 0 0 (by omega) (by omega) (by decide) (zL_K y1) y2 (mmL_0 y3) (fun υ2 y4 y5 y6 => ?_)
    rw [show lnV (crL M (gI σm 2) n 0 0) (11 - 0) 0 0 = T from hT]
    have zm : zL σm υ2 := zL_tr y1 (zL_Y y4)
    rw [wr_id (by omega) (by omega)]
    refine m_lies (fun q => ⟨fun _ => ⟨fun w => ?_, fun w => ⟨r2 w, zInv_q h zc (zL_agN zm)⟩⟩, fun w => absurd w (by decide)⟩) (fun q => ⟨fun w => absurd rfl w, fun _ => ⟨r1 (by omega), zInv_q h zc (zL_agN zm)⟩⟩)
    obtain ⟨i, ei⟩ : ∃ i : Nat, a1 = (i : Int) := ⟨a1.toNat, by omega⟩
    subst ei
    refine ⟨i + 1, m_lastL (n := n) (M := M) (K := gI σm 2) (away := 0) (hsh := 0) (g := gLd (gI σm 2)) (F := gI τ2 61) hn hT10 (by omega) i 0 0 (by omega) (by decide) (Nat.zero_le _) (zL_K zm) y5 y6 g2 (fun υ w => ⟨r3 i rfl (by omega), zInv_q h zc (zL_agN (zL_tr zm (zL_Y w)))⟩)⟩
  refine ⟨fun w => ⟨fun q => ref _ (fun _ => rfl) (fun q' => absurd q' w) (fun i ei => by omega), fun q => ⟨fun q' => ref _ (fun _ => rfl) (fun q' => absurd q' w) (fun i ei => by omega), fun q' => ⟨fun q'' => absurd q'' (by omega), fun q'' => ⟨⟨by omega, by omega⟩, ref _ (fun y => by omega) (fun y => absurd y w) (fun i ei hi => by subst ei; rfl)⟩⟩⟩⟩, fun w => ref _ (fun q => by omega) (fun _ => rfl) (fun i ei => by omega)⟩
