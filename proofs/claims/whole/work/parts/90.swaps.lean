/-! swaps -/
theorem wkb {p : Nat} (h : p < 1000000000) : wr ((p : Int) + 1) = ((p + 1 : Nat) : Int) := by rw [wr_id (by omega) (by omega)]; omega
theorem zL_W {σ τ : st_S} (h : zW σ τ) : zL σ τ := ⟨h.1, fun c j a b d => h.2 c j (by omega) (by omega)⟩
theorem w_turns {K : Nat → Int} {n : Nat} {M : zM} {σ : st_S} {Q : Int → st_S → Prop} (h : ppC σ K n M) (hk : sKd σ)
    (hQ : ∀ τ, zS σ τ → ppC τ K n M → gRw (crL M K n 0 0) (nlF true (gLd K) n) (sNi (tnV (crL M K n 0 0) (gLd K) n 11 0 0 0)) 10 0 0 0 (gI τ 61) → Q (tnV (crL M K n 0 0) (gLd K) n 11 0 0 0 : Int) τ) : wp_X8_turns σ Q := by
  have hn := h.1.1.2.2
  unfold wp_X8_turns
  rw [show gI σ 42 0 = (ppl K n : Int) from h.2.1.1]
  have pl := ppl_lt (K := K) hn
  refine w_set (P := ppl K n) (hsh := 0) (m := 10) hk (Nat.le_refl _) (fun τ t1 t2 a1 a2 a3 a4 a5 a6 a7 a8 => ?_)
  intro s es
  have ts : s.2 = σ.2 := by rw [es]; exact t1
  have ks : sKd s := sKd_of hk ts
  have os : ∀ c j, ¬ (c = 56 ∧ j = 16) → gI s c j = gI τ c j := fun c j q => by rw [es, gI_sI, if_neg q]
  have s16 : gI s 56 16 = 1 := by rw [es, gI_sI, if_pos ⟨rfl, rfl⟩]
  clear es
  refine w_fill ks.2.2.1.1 (by rw [ks.2.2.1.2]; decide) ?_
  generalize hf : sF s 59 (fun j => if j < gL s 59 then 0 else gI s 59 j) = f
  have of : ∀ c j, c ≠ 59 → gI f c j = gI s c j := fun c j q => by rw [← hf, gI_sF, if_neg q]
  have f9 : ∀ j, j < 5120 → gI f 59 j = 0 := fun j hj => by rw [← hf, gI_sF, if_pos rfl, ks.2.2.1.2, if_pos hj]
  have tf : f.2 = σ.2 := by rw [← hf]; exact ts
  clear hf
  have pt : ppC f K n M := ppC_of h tf (fun c j q => by rw [of _ _ (by omega), os _ _ (by omega), t2 _ _ (by omega) (by omega)])
  have e : ∀ T, rR (crL M K n 0 0) (nlF true (gLd K) n) (sNi T) 10 0 0 0 ↔ T ≤ tnV (crL M K n 0 0) (gLd K) n 11 0 0 0 := fun T => by
    have q := rR_tn (K := K) (n := n) (away := 0) (hsh := 0) (T := T) (M := M) (g := gLd K) hn 10 (night := 0) (used := 0) (ld := 0) (by omega) (Nat.zero_le _)
    rw [Nat.zero_add] at q
    exact q
  have le10 : tnV (crL M K n 0 0) (gLd K) n 11 0 0 0 ≤ 10 := by
    have r := rR_pth _ ((e (tnV (crL M K n 0 0) (gLd K) n 11 0 0 0)).mpr (Nat.le_refl _))
    rcases pth_n _ r (Nat.zero_le _) with w | w <;> omega
  have o56 : ∀ j, j ≠ 16 → gI f 56 j = gI τ 56 j := fun j hj => by rw [of _ _ (by decide), os _ _ (by omega)]
  refine w_root (pr := fun _ => 0) (trn := true) (g := gLd K) (away := 0) (T := tnV (crL M K n 0 0) (gLd K) n 11 0 0 0) pl (fun p hp => ppl_b p hp) (by decide) gLd_lt (gLd_v h.1) le10 ⟨pt, sKd_of hk tf, by rw [o56 _ (by decide)]; exact a1, by rw [o56 _ (by decide)]; exact a2, by rw [o56 _ (by decide)]; exact a3, by rw [o56 _ (by decide)]; exact a5, by rw [o56 _ (by decide)]; exact a6, by rw [of _ _ (by decide)]; exact s16, fun w => absurd w (by decide)⟩ (by rw [o56 _ (by decide)]; exact a4) ⟨fun j hj => by rw [of _ _ (by decide), os _ _ (by omega)]; exact a8 j hj, fun _ => f9⟩ ((e _).mpr (by omega)) (fun w => by have := (e _).mp w; omega) (fun υ u1 u2 u3 u4 => ?_)
  rw [u3]
  exact hQ υ (zS_tr ⟨tf, fun c j q1 q2 q3 => by rw [of _ _ (by omega), os _ _ (by omega), t2 _ _ (by omega) (by omega)]⟩ (zS_D u1)) u2.1 u4
set_option maxHeartbeats 1000000 in
theorem m_swapsL {K : Nat → Int} {n away hsh T i : Nat} {M : zM} {g : Nat → Nat} {F : Nat → Int} {Q : Int → st_S → Prop} (hg : ∀ p, g p < 4) (hn : n ≤ 10) (k0 : K 256 = (n : Int)) (kl : ∀ p, p < n → K (35 + 2 * p) = (g p : Int)) (hT : T ≤ 10) (hi : i < T) : ∀ (d k used ld : Nat) {σ : st_S}, k + d = i → used < 1024 → ld < 16 → k ≤ ctN used n → gI σ 2 = K → sxM σ n M away hsh → mmT σ (crL M K n away hsh) g n → gRw (crL M K n away hsh) (nlF true g n) (sNi T) (10 - k) k used ld F → (∀ τ, zW σ τ → Q (F i) τ) → L_X11_swaps_61 Q (d + 1) (i : Int) (T : Int) (used : Int) (ld : Int) (k : Int) σ := by
  intro d
  induction d with
  | zero => ?_
  | succ d ihd => ?_
  all_goals
    intro k used ld σ hk hu hld hc hK hs hm hG hQ
    rw [show 10 - k = (9 - k) + 1 by omega] at hG
    rcases hG with hG | ⟨hns, l1', c, l2', g1', g2, g3, g4', g5, g6⟩
    · exact absurd hG (by show ¬ T ≤ k; omega)
    have g2' : ldS g c n &&& ld = 0 := g2
    generalize hl : tuL g n ld (crL M K n away hsh k used) = l
    have g1 : l = tuL g n ld l1' ++ c :: tuL g n ld l2' := by
      rw [← hl, g1']
      unfold tuL
      rw [List.filter_append, List.filter_cons, if_pos (by rw [g2']; rfl)]
    generalize hl1 : tuL g n ld l1' = l1 at g1
    generalize hl2 : tuL g n ld l2' = l2 at g1
    have g4 : ∀ c', c' ∈ l1 → ¬ rR (crL M K n away hsh) (nlF true g n) (sNi T) (9 - k) (k + 1) (used ||| c') (nlF true g n c') := fun c' hc' => by
      rw [← hl1] at hc'
      have := tu_mem.mp hc'
      exact g4' c' this.1 this.2
    have nd := ndV_v K k
    have srt : List.Pairwise (· < ·) l := by rw [← hl]; exact tu_sort (pk_sort (by omega))
    have mem : ∀ Y, Y ∈ l → Y ∈ crL M K n away hsh k used := fun Y hY => by rw [← hl] at hY; exact (tu_mem.mp hY).1
    have pos : ∀ Y, Y ∈ l → 1 ≤ Y := fun Y hY => (cr_mem (mem Y hY)).2.1
    have lt10 : ∀ Y, Y ∈ l → Y < 1024 := fun Y hY => (cr_mem (mem Y hY)).1
    have ll : l.length = l1.length + 1 + l2.length := by rw [g1, List.length_append, List.length_cons]; omega
    have lc : ∀ h : l1.length < l.length, l[l1.length] = c := fun h => by simp only [g1]; rw [List.getElem_append_right (Nat.le_refl _)]; simp
    have le1 : ∀ j (h : j < l.length), j < l1.length → l[j] ∈ l1 := fun j h hj => by simp only [g1]; rw [List.getElem_append_left hj]; exact List.getElem_mem hj
    have rl : ∀ Y, Y ∈ l → (rR (crL M K n away hsh) (nlF true g n) (sNi T) (9 - k) (k + 1) (used ||| Y) (nlF true g n Y) ↔ T ≤ k + 1 + tnV (crL M K n away hsh) g n (11 - (k + 1)) (k + 1) (used ||| Y) (ldS g Y n)) := fun Y hY => by
      have q := rR_tn (K := K) (n := n) (away := away) (hsh := hsh) (T := T) (M := M) (g := g) hn (9 - k) (night := k + 1) (used := used ||| Y) (ld := ldS g Y n) (by omega) (by have := cr_ct (mem Y hY); omega)
      rw [show 9 - k + 1 = 11 - (k + 1) by omega] at q
      exact q
    have key : ∀ m j : Nat, j + m = l1.length → ∀ τ (hj : j < l.length), zW σ τ → sxM τ n M away hsh → mmT τ (crL M K n away hsh) g n → ∀ k61, (∀ υ, zW σ υ → sxM υ n M away hsh → mmT υ (crL M K n away hsh) g n → (¬ k = i → k61 (i : Int) (T : Int) ((used ||| c : Nat) : Int) ((ldS g c n : Nat) : Int) ((k + 1 : Nat) : Int) υ)) → L_X11_swaps_73 Q k61 (m + 1) (i : Int) (T : Int) (used : Int) (ld : Int) (k : Int) (l[j] : Int) τ := by
      intro m
      induction m with
      | zero =>
        intro j hj0 τ hj z1 z2 z3 k61 hk61
        have ej : j = l1.length := by omega
        subst ej
        have ec := lc hj
        have c10 := lt10 _ (List.getElem_mem hj)
        have Kt : gI τ 2 = K := by rw [zW_K z1]; exact hK
        show wp_X11_landsOf _ _ _
        rw [ec] at c10 ⊢
        refine m_landsOf hg c10 hn (by rw [Kt]; exact k0) (fun p hp => by rw [Kt]; exact kl p hp) ?_
        rw [wks (by omega), n_or (by omega) (by omega)]
        refine m_turnsFrom hg hn k0 kl 13 (k + 1) (used ||| c) (ldS g c n) (by omega) (by omega) (Nat.or_lt_two_pow (n := 10) hu c10) (ldS_lt hg n) Kt z2 z3 (fun υ y1 y2 y3 => ?_)
        have cm : c ∈ l := by rw [g1]; simp
        have r := (rl c cm).mp g3
        have Ku : gI υ 2 = K := by rw [zW_K y1]; exact Kt
        rw [show ((T : Int) - (k : Int) - 1) = ((T - k - 1 : Nat) : Int) by omega, wr_n (by omega)]
        refine ⟨fun _ => ⟨fun q => ?_, fun q => ?_⟩, fun w => absurd (by omega) w⟩
        · intro x ex
          refine m_landsOf hg c10 hn (by rw [Ku]; exact k0) (fun p hp => by rw [Ku]; exact kl p hp) ?_
          intro y ey
          subst ex
          subst ey
          exact hk61 υ (zW_tr z1 y1) y2 y3 (by omega)
        · have ek : k = i := by omega
          rw [← g5, ek]
          exact hQ υ (zW_tr z1 y1)
      | succ m ih =>
        intro j hj0 τ hj z1 z2 z3 k61 hk61
        have cm : l[j] ∈ l := List.getElem_mem hj
        have c10 := lt10 _ cm
        have Kt : gI τ 2 = K := by rw [zW_K z1]; exact hK
        show wp_X11_landsOf _ _ _
        refine m_landsOf hg c10 hn (by rw [Kt]; exact k0) (fun p hp => by rw [Kt]; exact kl p hp) ?_
        rw [wks (by omega), n_or (by omega) (by omega)]
        refine m_turnsFrom hg hn k0 kl 13 (k + 1) (used ||| l[j]) (ldS g l[j] n) (by omega) (by omega) (Nat.or_lt_two_pow (n := 10) hu c10) (ldS_lt hg n) Kt z2 z3 (fun υ y1 y2 y3 => ?_)
        have nr := g4 l[j] (le1 j hj (by omega))
        rw [rl _ cm] at nr
        rw [show ((T : Int) - (k : Int) - 1) = ((T - k - 1 : Nat) : Int) by omega, wr_n (by omega)]
        refine ⟨fun w => absurd w (by omega), fun _ => ?_⟩
        have Ku : gI υ 2 = K := by rw [zW_K y1]; exact Kt
        refine m_turnBehind hg y2 hn Ku k0 kl (by omega) hu c10 hld (fun X ω a1 a2 a3 a4 a5 => ?_) (fun ω a1 a2 a3 => ?_)
        · rw [hl] at a3 a5
          obtain ⟨hx, ex⟩ := nx_sort srt (i := j + 1) a3 (Or.inr ⟨by omega, by omega, rfl⟩) a4 a5
          subst ex
          exact ih (j + 1) (by omega) ω hx (zW_tr z1 (zW_tr y1 (zW_X a1))) a2 (fun n' u' d' a b e' => by rw [a1.2 24 _ (by omega) (by decide) (by decide) (by decide)]; exact y3 n' u' d' a b e') k61 hk61
        · rw [hl] at a3
          have := nx_end (i := j + 1) srt (Or.inr ⟨by omega, by omega, rfl⟩) a3
          omega
    show wp_X11_turnBehind _ _ _ _ _ _
    refine m_turnBehind (c0 := 0) hg hs hn hK k0 kl (by omega) hu (by decide) hld (fun X τ a1 a2 a3 a4 a5 => ?_) (fun τ a1 a2 a3 => ?_)
    · rw [hl] at a3 a5
      obtain ⟨hx, ex⟩ := nx_sort srt (i := 0) a3 (Or.inl ⟨rfl, rfl, pos⟩) a4 a5
      subst ex
      refine ⟨l1.length + 1, key l1.length 0 (by omega) τ hx (zW_X a1) a2 (fun n' u' d' a b e' => by rw [a1.2 24 _ (by omega) (by decide) (by decide) (by decide)]; exact hm n' u' d' a b e') _ (fun υ y1 y2 y3 q => ?_)⟩
      first
        | exact absurd (by omega) q
        | exact ihd (k + 1) (used ||| c) (ldS g c n) (by omega) (Nat.or_lt_two_pow (n := 10) hu (lt10 c (by rw [g1]; simp))) (ldS_lt hg n) (by have := cr_ct (mem c (by rw [g1]; simp)); omega) (by rw [zW_K y1]; exact hK) y2 y3 (by rw [show 10 - (k + 1) = 9 - k by omega]; exact g6) (fun ω w => hQ ω (zW_tr y1 w))
    · rw [hl] at a3
      have := nx_end (i := 0) srt (Or.inl ⟨rfl, rfl, pos⟩) a3
      omega
set_option maxHeartbeats 400000 in
theorem st_swaps {B : Nat} {σc σm : st_S} (h : zInv B σc σm) (hk : zK1 σc) (a1 : Int) : wp_X10_swaps a1 σc (fun r τ => wp_X11_swaps a1 σm (fun r2 υ => r = r2 ∧ zInv B τ υ)) := by
  obtain ⟨n, M, hx, hm, hsk, hr⟩ := inv_open h hk
  have hn := hx.1.2.2
  have h256 := hx.1.2.1
  refine w_prepare hx (fun τ1 z1 p1 => ?_)
  refine w_turns p1 (sKd_of hsk z1.1) (fun τ2 z2 p2 g2 => ?_)
  have zc : agQ σc τ2 := zS_agQ (zS_tr (zS_P z1) z2) hr
  generalize hT : tnV (crL M (gI σm 2) n 0 0) (gLd (gI σm 2)) n 11 0 0 0 = T at g2
  have hT10 : T ≤ 10 := by
    have q := rR_tn (K := gI σm 2) (n := n) (away := 0) (hsh := 0) (T := T) (M := M) (g := gLd (gI σm 2)) hn 10 (night := 0) (used := 0) (ld := 0) (by omega) (Nat.zero_le _)
    have r := rR_pth _ (q.mpr (by show T ≤ 0 + tnV (crL M (gI σm 2) n 0 0) (gLd (gI σm 2)) n 11 0 0 0; omega))
    rcases pth_n _ r (Nat.zero_le _) with w | w <;> omega
  have ref : ∀ r : Int, (a1 < -1 ∨ (T : Int) ≤ a1 → r = -1) → (a1 = -1 → r = (T : Int)) → (∀ i : Nat, a1 = (i : Int) → i < T → r = gI τ2 61 i) → wp_X11_swaps a1 σm (fun r2 υ => r = r2 ∧ zInv B τ2 υ) := by
    intro r r1 r2 r3
    refine m_looks hm (fun υ1 y1 y2 y3 => ?_)
    have key : ∀ k j : Nat, j + k = 180224 → ∀ τ, zL σm τ → sxM τ n M 0 0 → (∀ q, q < j → gI τ 24 q = -1) → L_X11_swaps_6 (fun r2 υ => r = r2 ∧ zInv B τ2 υ) (k + 1) a1 (j : Int) τ := by
      intro k
      induction k with
      | zero =>
        intro j hj τ w1 w2 w3
        refine ⟨fun _ => ?_, fun w => absurd (by omega) w⟩
        refine m_turnsFrom (n := n) (M := M) (K := gI σm 2) (away := 0) (hsh := 0) gLd_lt hn h256 (gLd_v hx) 13 0 0 0 (by omega) (by omega) (by decide) (by decide) (zL_K w1) w2 (fun n' u' d' a b e' => Or.inl (w3 _ (by omega))) (fun υ2 y4 y5 y6 => ?_)
        rw [show tnV (crL M (gI σm 2) n 0 0) (gLd (gI σm 2)) n (11 - 0) 0 0 0 = T from hT]
        have zm : zL σm υ2 := zL_tr w1 (zL_W y4)
        rw [wr_id (by omega) (by omega)]
        refine m_lies (fun q => ⟨fun _ => ⟨fun w => ?_, fun w => ⟨r2 w, zInv_q h zc (zL_agN zm)⟩⟩, fun w => absurd w (by decide)⟩) (fun q => ⟨fun w => absurd rfl w, fun _ => ⟨r1 (by omega), zInv_q h zc (zL_agN zm)⟩⟩)
        obtain ⟨i, ei⟩ : ∃ i : Nat, a1 = (i : Int) := ⟨a1.toNat, by omega⟩
        subst ei
        exact ⟨i + 1, m_swapsL (n := n) (M := M) (K := gI σm 2) (away := 0) (hsh := 0) (g := gLd (gI σm 2)) (F := gI τ2 61) gLd_lt hn h256 (gLd_v hx) hT10 (by omega) i 0 0 0 (by omega) (by decide) (by decide) (Nat.zero_le _) (zL_K zm) y5 y6 g2 (fun υ w => ⟨r3 i rfl (by omega), zInv_q h zc (zL_agN (zL_tr zm (zL_W w)))⟩)⟩
      | succ k ih =>
        intro j hj τ w1 w2 w3
        refine ⟨fun w => absurd w (by omega), fun _ => ⟨ixn (by omega), ?_⟩⟩
        intro s es x ex
        rw [wkb (by omega)] at ex
        rw [Int.toNat_natCast, show o_nb (-1) = -1 from by decide] at es
        subst ex
        subst es
        refine ih (j + 1) (by omega) _ (zL_tr w1 (zL_sI (by omega))) (sxM_24 w2) (fun q hq => ?_)
        rw [gI_sI]
        by_cases e : q = j
        · rw [if_pos ⟨rfl, e⟩]
        · rw [if_neg (fun w => e w.2)]
          exact w3 q (by omega)
    exact ⟨180225, key 180224 0 (by omega) υ1 y1 y2 (fun q hq => absurd hq (by omega))⟩
  refine ⟨fun w => ⟨fun q => ref _ (fun _ => rfl) (fun q' => absurd q' w) (fun i ei => by omega), fun q => ⟨fun q' => ref _ (fun _ => rfl) (fun q' => absurd q' w) (fun i ei => by omega), fun q' => ⟨fun q'' => absurd q'' (by omega), fun q'' => ⟨⟨by omega, by omega⟩, ref _ (fun y => by omega) (fun y => absurd y w) (fun i ei hi => by subst ei; rfl)⟩⟩⟩⟩, fun w => ref _ (fun q => by omega) (fun _ => rfl) (fun i ei => by omega)⟩
