/-! image, both -/
theorem sr1 {t j c : Nat} (h : srf 1 t j = some c) : 1 ≤ j ∧ j ≤ 9 ∧ c = t + j := by
  match j, h with
  | 0, h => exact absurd (show none = some c from h) (by simp)
  | 1, h => injection h with h; exact ⟨by omega, by omega, h.symm⟩
  | 2, h => injection h with h; exact ⟨by omega, by omega, h.symm⟩
  | 3, h => injection h with h; exact ⟨by omega, by omega, h.symm⟩
  | 4, h => injection h with h; exact ⟨by omega, by omega, h.symm⟩
  | 5, h => injection h with h; exact ⟨by omega, by omega, h.symm⟩
  | 6, h => injection h with h; exact ⟨by omega, by omega, h.symm⟩
  | 7, h => injection h with h; exact ⟨by omega, by omega, h.symm⟩
  | 8, h => injection h with h; exact ⟨by omega, by omega, h.symm⟩
  | 9, h => injection h with h; exact ⟨by omega, by omega, h.symm⟩
  | 10, h => exact absurd (show none = some c from h) (by simp)
  | 11, h => exact absurd (show none = some c from h) (by simp)
  | 12, h => exact absurd (show none = some c from h) (by simp)
  | 13, h => exact absurd (show none = some c from h) (by simp)
  | 14, h => exact absurd (show none = some c from h) (by simp)
  | j + 15, h => exact absurd (show none = some c from h) (by simp)
/-- kinds behind a coast -/
theorem sb1v {j : Nat} {q : Nat × Option Nat} (hj : 0 < j) (h : sbf 1 j = some q) : (1 ≤ j ∧ j ≤ 6 ∧ q = (0, some 10)) ∨ (j = 7 ∧ q = (0, some 100)) ∨ (j = 8 ∧ q = (0, some 3)) ∨ (j = 9 ∧ q = (4, some 6)) := by
  match j, hj, h with
  | 1, _, h => injection h with h; exact Or.inl ⟨by omega, by omega, h.symm⟩
  | 2, _, h => injection h with h; exact Or.inl ⟨by omega, by omega, h.symm⟩
  | 3, _, h => injection h with h; exact Or.inl ⟨by omega, by omega, h.symm⟩
  | 4, _, h => injection h with h; exact Or.inl ⟨by omega, by omega, h.symm⟩
  | 5, _, h => injection h with h; exact Or.inl ⟨by omega, by omega, h.symm⟩
  | 6, _, h => injection h with h; exact Or.inl ⟨by omega, by omega, h.symm⟩
  | 7, _, h => injection h with h; exact Or.inr (Or.inl ⟨rfl, h.symm⟩)
  | 8, _, h => injection h with h; exact Or.inr (Or.inr (Or.inl ⟨rfl, h.symm⟩))
  | 9, _, h => injection h with h; exact Or.inr (Or.inr (Or.inr ⟨rfl, h.symm⟩))
  | j + 10, _, h => exact absurd (show none = some q from h) (by simp)
theorem lt_gN {σ : st_S} (hk : zK1 σ) {c : Nat} (h : gK σ c ≠ 99) : c < gN σ := by
  refine Classical.byContradiction (fun z => h (hk.2.1 c (by omega)))
theorem gN_65 {σ : st_S} (hk : zK1 σ) : 65 ≤ gN σ := by
  have := lt_gN hk (c := 64) (by rw [(zK1_at hk 64 1 1024 rfl).1]; decide)
  omega
theorem sb_small {k j : Nat} {q : Nat × Option Nat} (hk : k < 12) (h : sbf k j = some q) : q.1 < 99 := by
  match k, hk, h with
  | 0, _, h => match j, h with
    | 0, h => injection h with h; rw [← h]; decide
    | 1, h => injection h with h; rw [← h]; decide
    | 2, h => injection h with h; rw [← h]; decide
    | j + 3, h => exact absurd (show none = some q from h) (by simp)
  | 1, _, h => match j, h with
    | 0, h => injection h with h; rw [← h]; decide
    | j + 1, h =>
      rcases sb1v (Nat.succ_pos j) h with ⟨-, -, e⟩ | ⟨-, e⟩ | ⟨-, e⟩ | ⟨-, e⟩ <;> rw [e] <;> decide
  | 2, _, h => exact absurd (show none = some q from h) (by simp)
  | 3, _, h => exact absurd (show none = some q from h) (by simp)
  | 4, _, h => match j, h with
    | 0, h => injection h with h; rw [← h]; decide
    | 1, h => injection h with h; rw [← h]; decide
    | j + 2, h => exact absurd (show none = some q from h) (by simp)
  | 5, _, h => exact absurd (show none = some q from h) (by simp)
  | 6, _, h => exact absurd (show none = some q from h) (by simp)
  | 7, _, h => exact absurd (show none = some q from h) (by simp)
  | 8, _, h => exact absurd (show none = some q from h) (by simp)
  | 9, _, h => match j, h with
    | 0, h => injection h with h; rw [← h]; decide
    | 1, h => injection h with h; rw [← h]; decide
    | 2, h => injection h with h; rw [← h]; decide
    | 3, h => injection h with h; rw [← h]; decide
    | 4, h => injection h with h; rw [← h]; decide
    | 5, h => injection h with h; rw [← h]; decide
    | 6, h => injection h with h; rw [← h]; decide
    | j + 7, h => exact absurd (show none = some q from h) (by simp)
  | 10, _, h => exact absurd (show none = some q from h) (by simp)
  | 11, _, h => exact absurd (show none = some q from h) (by simp)
/-- the store ahead of the copying: the old one, or one with a coast more -/
def imP (σ s : st_S) (t k : Nat) : Prop := (∀ c j, c < gN σ → gI s c j = gI σ c j) ∧ (∀ c j, c < gN σ → ¬ (c = 11 ∧ j = k) → gR s c j = gR σ c j) ∧ (∀ c, c < gN σ → gK s c = gK σ c ∧ gL s c = gL σ c) ∧ zK1 s ∧ gR s 11 k = some t ∧ gK s t = 17 ∧ 65 ≤ t ∧ ∀ i c, 6 ≤ i → gR s (t + 9) i = some c → 65 ≤ c ∧ gK s c = 25
theorem zCR_old {B : Nat} {σ s : st_S} {t k c : Nat} {K : Nat → Int} (hk : zK1 σ) (h : zCR B σ c K) (hc : c = 25 ∨ 65 ≤ c) (hcK : gK σ c = 17) (hp : imP σ s t k) : zCR B s c K := by
  obtain ⟨p1, p2, p3, -⟩ := hp
  have lt9 : c + 9 < gN σ := by
    have := (hk.2.2 c 1 9 (4, some 6) (by decide) hcK rfl).1
    exact lt_gN hk (by rw [this]; decide)
  refine zCR_of h (fun d j a b => p1 d j (by omega)) (fun j => p2 _ _ lt9 (by omega)) (fun d j a b q q1 q2 => ?_) (fun d a b => ?_) (fun i => rfl)
  · have := (hk.2.2 d 9 6 (0, none) (by decide) b rfl).1
    have l6 : d + 6 < gN σ := lt_gN hk (by rw [this]; decide)
    exact ⟨p1 q j (by omega), (p3 q (by omega)).2⟩
  · rw [(p3 d (lt_gN hk (by rw [b]; decide))).1]; exact b
set_option maxHeartbeats 400000 in
theorem w_imgFin {B : Nat} {σc σm s : st_S} {t k : Nat} (h : zInv B σc σm) (hk : zK1 σc) (hk2 : k < 2) (hp : imP σc s t k) (hother : ∀ k' c, k' < 2 → k' ≠ k → gR σc 11 k' = some c → c ≠ t) : B_X10_image_37 (fun r τ => wp_X11_image (k : Int) σm (fun r2 υ => r = r2 ∧ zInv B τ υ)) (k : Int) s := by
  obtain ⟨⟨hcr, hlog, himg, htp, hwd, hsc⟩, hst, hrr⟩ := h
  have h25 : zCR B s 25 (gI σm 2) := zCR_old hk hcr (Or.inl rfl) (zK1_at hk 25 17 0 rfl).1 hp
  have hp' := hp
  obtain ⟨p1, p2, p3, pk, p4, p5, p6, p7⟩ := hp
  have g65 := gN_65 hk
  have k25 : gK s 25 = 17 := (zK1_at pk 25 17 0 rfl).1
  have hlaw : ∀ i d, gR s (25 + 9) i = some d → gK s d = 25 := by
    obtain ⟨n, -, -, -, -, -, -, -, -, -, -, m, -, -, -, -, -, -, b7, -⟩ := h25
    exact fun i d hd => (b7 i d hd).2
  refine ⟨ixn hk2, t, by rw [Int.toNat_natCast]; exact p4, p5, w_copyFrom p5 k25 (by omega) hlaw (fun τ hτ => w_accept ?_)⟩
  have hnew : zCR B τ t (gI σm 2) := zCR_cp h25 hτ pk p5 p7
  obtain ⟨g1, g2, g3, g4, -⟩ := hτ
  have eK : ∀ c, gK τ c = gK s c := fun c => by unfold gK; rw [g1]
  have eL : ∀ c, gL τ c = gL s c := fun c => by unfold gL; rw [g1]
  have keep : ∀ c K, zCR B s c K → (c = 25 ∨ 65 ≤ c) → gK s c = 17 → c ≠ t → zCR B τ c K := by
    intro c K hz hc hcK hne
    have dis := co_dis pk p5 hcK (fun e => hne e.symm)
    exact zCR_of hz (fun d j a b => g4 d j (by omega)) (fun j => g2 _ _ (by omega)) (fun d j a b q q1 q2 => ⟨g4 q j (by have := tx_dis pk p5 b q1 q2; omega), eL q⟩) (fun d a b => by rw [eK]; exact b) (fun i => rfl)
  -- the reference
  have mloop : ∀ Q : Int → st_S → Prop, wp_X11_good 0 (sI (sW σm 3 (5866 * k) 5866 (gI σm 2)) 4 k (o_nz 1)) (fun r s => Q r s) → ∃ m, L_X11_image_17 Q m (k : Int) 0 σm := by
    intro Q hQ
    have key : ∀ n i : Nat, i + n = 5866 → L_X11_image_17 Q (n + 1) (k : Int) (i : Int) (sW σm 3 (5866 * k) i (gI σm 2)) := by
      intro n
      induction n with
      | zero =>
        intro i hi
        refine ⟨fun _ => ⟨ixn hk2, ?_⟩, fun q => absurd (show (5866 : Int) ≤ (i : Int) by omega) q⟩
        intro u eu
        rw [eu, Int.toNat_natCast, show i = 5866 by omega]
        exact hQ
      | succ n ih =>
        intro i hi
        refine ⟨fun q => absurd q (by omega), fun _ => ⟨ixn (by omega), ?_⟩⟩
        rw [show (5866 * (k : Int) + (i : Int)) = ((5866 * k + i : Nat) : Int) by omega, wr_n (by omega)]
        refine ⟨ixn (by omega), ?_⟩
        intro u eu x ex
        rw [wks (by omega)] at ex
        subst ex
        have e : u = sW σm 3 (5866 * k) (i + 1) (gI σm 2) := by
          rw [eu, ← sW_step]
          rfl
        rw [e]
        exact ih (i + 1) (by omega)
    exact ⟨5867, by have := key 5866 0 (by omega); rw [sW_zero] at this; exact this⟩
  refine m_lies (fun _ => ⟨fun _ => mloop _ (m_good ⟨rfl, ?_⟩), fun z => absurd z (by decide)⟩) (fun z => absurd (by omega) z)
  have m3 : ∀ i, i < 5866 → gI (sI (sW σm 3 (5866 * k) 5866 (gI σm 2)) 4 k (o_nz 1)) 3 (5866 * k + i) = gI σm 2 i := fun i hi => by rw [gI_sI, if_neg (by omega), gI_sWy _ _ _ _ _ hi]
  have m3' : ∀ k' i, k' < 2 → k' ≠ k → i < 5866 → gI (sI (sW σm 3 (5866 * k) 5866 (gI σm 2)) 4 k (o_nz 1)) 3 (5866 * k' + i) = gI σm 3 (5866 * k' + i) := fun k' i h1 h2 h3 => by rw [gI_sI, if_neg (by omega), gI_sWn _ _ _ _ _ (by omega)]
  have m4 : gI (sI (sW σm 3 (5866 * k) 5866 (gI σm 2)) 4 k (o_nz 1)) 4 k = 1 := by rw [gI_sI, if_pos ⟨rfl, rfl⟩]; decide
  have m4' : ∀ k', k' ≠ k → gI (sI (sW σm 3 (5866 * k) 5866 (gI σm 2)) 4 k (o_nz 1)) 4 k' = gI σm 4 k' := fun k' h1 => by rw [gI_sI, if_neg (fun z => h1 z.2), gI_sWn _ _ _ _ _ (by omega)]
  have mo : ∀ d i, d ≠ 3 → d ≠ 4 → gI (sI (sW σm 3 (5866 * k) 5866 (gI σm 2)) 4 k (o_nz 1)) d i = gI σm d i := fun d i h1 h2 => by rw [gI_sI, if_neg (fun z => h2 z.1), gI_sWn _ _ _ _ _ (by omega)]
  generalize sI (sW σm 3 (5866 * k) 5866 (gI σm 2)) 4 k (o_nz 1) = υ at m3 m3' m4 m4' mo ⊢
  have cC : ∀ d j, d < 65 → gI τ d j = gI σc d j := fun d j hd => by rw [g4 d j (by omega), p1 d j (by omega)]
  have imK : zIm B τ υ k := by
    refine Or.inr ⟨m4, t, by rw [g2 _ _ (by omega)]; exact p4, p6, by rw [eK]; exact p5, zCR_K hnew (fun i hi => m3 i hi)⟩
  have imO : ∀ k', k' < 2 → k' ≠ k → zIm B σc σm k' → zIm B τ υ k' := by
    intro k' h1 h2 hi
    have er : gR τ 11 k' = gR σc 11 k' := by rw [g2 _ _ (by omega), p2 _ _ (by omega) (fun z => h2 z.2)]
    rcases hi with ⟨i1, i2⟩ | ⟨i1, c, i2, i3, i4, i5⟩
    · exact Or.inl ⟨by rw [m4' k' h2]; exact i1, by rw [er]; exact i2⟩
    · have hne := hother k' c h1 h2 i2
      have hcK : gK s c = 17 := by rw [(p3 c (lt_gN hk (by rw [i4]; decide))).1]; exact i4
      refine Or.inr ⟨by rw [m4' k' h2]; exact i1, c, by rw [er]; exact i2, i3, by rw [eK]; exact hcK, ?_⟩
      exact zCR_K (keep c _ (zCR_old hk i5 (Or.inr i3) i4 hp') (Or.inr i3) hcK hne) (fun i hi => m3' k' i h1 h2 hi)
  refine inv_ok ⟨?_, ?_, ?_, ?_, ?_, ?_⟩ (fun i hi => ?_) ?_
  · exact zCR_K (keep 25 _ h25 (Or.inl rfl) k25 (by omega)) (fun i _ => mo 2 i (by decide) (by decide))
  · obtain ⟨n, l1, l⟩ := hlog
    refine ⟨n, by rw [mo _ _ (by decide) (by decide)]; exact l1, ?_⟩
    have e13 : gI υ 13 = gI σm 13 := funext fun j => mo 13 j (by decide) (by decide)
    rw [e13, mo 0 28 (by decide) (by decide)]
    exact zLg_of l (fun c j hc => cC c j (by omega))
  · refine ⟨?_, ?_, ?_⟩
    · by_cases e : k = 0
      · rw [e] at imK; exact imK
      · exact imO 0 (by omega) (fun z => e z.symm) himg.1
    · by_cases e : k = 1
      · rw [e] at imK; exact imK
      · exact imO 1 (by omega) (fun z => e z.symm) himg.2.1
    · intro c hc hc2
      rw [g2 _ _ (by omega)] at hc hc2
      by_cases e : k = 0
      · rw [← e, p4] at hc
        injection hc with hc
        rw [p2 _ _ (by omega) (by omega)] at hc2
        exact hother 1 c (by omega) (by omega) hc2 hc.symm
      · have e1 : k = 1 := by omega
        rw [← e1, p4] at hc2
        injection hc2 with hc2
        rw [p2 _ _ (by omega) (by omega)] at hc
        exact hother 0 c (by omega) (by omega) hc hc2.symm
  · exact zTp_of htp (fun d j hd => cC d j (by omega)) (fun d j hd => mo d j (by omega) (by omega))
  · exact zWd_of hwd (fun j => mo _ j (by decide) (by decide))
  · exact zSc_of hsc (fun d j hd => cC d j (by omega)) (fun d j hd => mo d j (by omega) (by omega))
  · rw [cC _ _ (by omega), mo _ _ (by decide) (by decide)]
    exact hst.2 i hi
  · unfold zRr
    rw [g2 _ _ (by omega), g2 _ _ (by omega), p2 _ _ (by omega) (by omega), p2 _ _ (by omega) (by omega)]
    exact hrr
set_option maxHeartbeats 400000 in
theorem st_image {B : Nat} {σc σm : st_S} (h : zInv B σc σm) (hk : zK1 σc) (a1 : Int) : wp_X10_image a1 σc (fun r τ => wp_X11_image a1 σm (fun r2 υ => r = r2 ∧ zInv B τ υ)) := by
  have no1 : ¬ (0 ≤ a1 ∧ a1 ≤ 1) → B_X10_image_9 (fun r τ => wp_X11_image a1 σm (fun r2 υ => r = r2 ∧ zInv B τ υ)) σc := fun hb =>
    w_refuse 1 (by decide) rfl (m_lies (fun q => absurd q hb) (fun _ => ⟨fun z => absurd rfl z, fun _ => m_refuses 1 (by decide) rfl ⟨rfl, inv_no (by decide) h⟩⟩))
  refine ⟨fun q => no1 (by omega), fun q1 => ⟨fun q2 => ⟨⟨by omega, by omega⟩, fun hnone => ?_, fun t ht => ?_⟩, fun q => no1 (by omega)⟩⟩
  · obtain ⟨k, rfl⟩ : ∃ k : Nat, a1 = (k : Int) := ⟨a1.toNat, by omega⟩
    rw [Int.toNat_natCast] at hnone
    have g65 := gN_65 hk
    intro t s32 et e32
    refine w_newC et e32 (fun s hs => ?_)
    obtain ⟨⟨n1, n2, n3, n4⟩, n5, n6, n7, n8, n9, n10⟩ := hs
    refine ⟨⟨n4, fun j c hj => ?_, fun j q hj hq => ?_⟩, ?_, ?_⟩
    · obtain ⟨j1, j2, j3⟩ := sr1 hj
      rw [j3]; exact n9 j j1 j2
    · rcases sb1v hj hq with ⟨j1, j2, e⟩ | ⟨e1, e⟩ | ⟨e1, e⟩ | ⟨e1, e⟩
      · subst e; exact ⟨(n5 j j1 j2).1, fun L hL => by injection hL with hL; rw [← hL]; exact (n5 j j1 j2).2⟩
      · subst e; subst e1; exact ⟨n6.1, fun L hL => by injection hL with hL; rw [← hL]; exact n6.2⟩
      · subst e; subst e1; exact ⟨n7.1, fun L hL => by injection hL with hL; rw [← hL]; exact n7.2⟩
      · subst e; subst e1; exact ⟨n8.1, fun L hL => by injection hL with hL; rw [← hL]; exact n8.2⟩
    · show (skT 1)[t]? = none
      exact List.getElem?_eq_none (by show 65 ≤ t; omega)
    · intro s34 e34
      have kk : ∀ c, gK s34 c = if c = t then 17 else gK s c := fun c => by rw [e34]; exact gK_sK s t 17 c
      refine ⟨⟨by omega, by omega⟩, by rw [kk, if_pos rfl], ?_⟩
      intro s37 e37
      rw [Int.toNat_natCast] at e37
      have kk7 : ∀ c, gK s37 c = if c = t then 17 else gK s c := fun c => by rw [e37]; exact kk c
      have kl7 : ∀ c, gL s37 c = gL s c := fun c => by rw [e37, e34]; rfl
      have ki7 : ∀ c j, gI s37 c j = gI s c j := fun c j => by rw [e37, e34]; rfl
      have kr7 : ∀ c j, gR s37 c j = if c = 11 ∧ j = k then some t else gR s c j := fun c j => by rw [e37, gR_sR, e34]; rfl
      have kn7 : gN s37 = gN σc + 10 := by rw [e37, e34]; show gN s = _; rw [n1, et]
      refine w_imgFin (t := t) h hk (by omega) ⟨fun c j hc => ?_, fun c j hc hcj => ?_, fun c hc => ?_, ⟨fun c q hq => ?_, fun c hc => ?_, fun c kd j q hkd hc hq => ?_⟩, ?_, ?_, by omega, fun i c hi hc => ?_⟩ (fun k' c h1 h2 hc => ?_)
      · rw [ki7]; exact (n2 c j (by omega)).1
      · rw [kr7, if_neg hcj]; exact (n2 c j (by omega)).2
      · rw [kk7, if_neg (by omega), kl7]; exact n3 c (Or.inl (by omega))
      · have hc65 : c < 65 := (List.getElem?_eq_some_iff.mp hq).1
        rw [kk7, if_neg (by omega), kl7, (n3 c (Or.inl (by omega))).1, (n3 c (Or.inl (by omega))).2]
        exact hk.1 c q hq
      · rw [kk7, if_neg (by omega), (n3 c (Or.inr (by omega))).1]
        exact hk.2.1 c (by omega)
      · by_cases ec : c = t
        · subst ec
          rw [kk7, if_pos rfl] at hc
          have : kd = 1 := by omega
          subst this
          by_cases ej : j = 0
          · subst ej
            injection hq with hq
            subst hq
            exact ⟨by rw [Nat.add_zero, kk7, if_pos rfl], fun L hL => absurd hL (by simp)⟩
          · rw [kk7, if_neg (by omega), kl7]
            rcases sb1v (by omega) hq with ⟨j1, j2, e⟩ | ⟨e1, e⟩ | ⟨e1, e⟩ | ⟨e1, e⟩
            · subst e; exact ⟨(n5 j j1 j2).1, fun L hL => by injection hL with hL; rw [← hL]; exact (n5 j j1 j2).2⟩
            · subst e; subst e1; exact ⟨n6.1, fun L hL => by injection hL with hL; rw [← hL]; exact n6.2⟩
            · subst e; subst e1; exact ⟨n7.1, fun L hL => by injection hL with hL; rw [← hL]; exact n7.2⟩
            · subst e; subst e1; exact ⟨n8.1, fun L hL => by injection hL with hL; rw [← hL]; exact n8.2⟩
        · rw [kk7, if_neg ec] at hc
          by_cases cl : c < t
          · rw [(n3 c (Or.inl cl)).1] at hc
            have old := hk.2.2 c kd j q hkd hc hq
            have hlt : c + j < gN σc := lt_gN hk (by rw [old.1]; have := sb_small hkd hq; omega)
            rw [kk7, if_neg (by omega), kl7, (n3 (c + j) (Or.inl (by omega))).1, (n3 (c + j) (Or.inl (by omega))).2]
            exact old
          · by_cases ch : t + 10 ≤ c
            · rw [(n3 c (Or.inr ch)).1, hk.2.1 c (by omega)] at hc
              omega
            · exfalso
              have hd : ∃ d, c = t + d ∧ 1 ≤ d ∧ d ≤ 9 := ⟨c - t, by omega, by omega, by omega⟩
              obtain ⟨d, ed, d1, d2⟩ := hd
              subst ed
              by_cases d6 : d ≤ 6
              · rw [(n5 d d1 d6).1] at hc; omega
              · have : d = 7 ∨ d = 8 ∨ d = 9 := by omega
                rcases this with e | e | e <;> subst e
                · rw [n6.1] at hc; omega
                · rw [n7.1] at hc; omega
                · rw [n8.1] at hc; omega
      · rw [kr7, if_pos ⟨rfl, rfl⟩]
      · rw [kk7, if_pos rfl]
      · rw [kr7, if_neg (by omega), n10] at hc
        exact absurd hc (by simp)
      · have him : zIm B σc σm k' := by
          have : k' = 0 ∨ k' = 1 := by omega
          rcases this with e | e <;> subst e
          · exact h.1.2.2.1.1
          · exact h.1.2.2.1.2.1
        rcases him with ⟨i1, i2⟩ | ⟨i1, c', i2, i3, i4, -⟩
        · rw [i2] at hc; exact absurd hc (by simp)
        · rw [i2] at hc
          injection hc with hc
          subst hc
          have := lt_gN hk (c := c') (by rw [i4]; decide)
          omega
  · obtain ⟨k, rfl⟩ : ∃ k : Nat, a1 = (k : Int) := ⟨a1.toNat, by omega⟩
    rw [Int.toNat_natCast] at ht
    have him : zIm B σc σm k := by
      have : k = 0 ∨ k = 1 := by omega
      rcases this with e | e <;> subst e
      · exact h.1.2.2.1.1
      · exact h.1.2.2.1.2.1
    rcases him with ⟨i1, i2⟩ | ⟨i1, c', i2, i3, i4, i5⟩
    · rw [i2] at ht; exact absurd ht (by simp)
    · rw [i2] at ht
      injection ht with ht
      subst ht
      refine w_imgFin h hk (by omega) ⟨fun _ _ _ => rfl, fun _ _ _ _ => rfl, fun _ _ => ⟨rfl, rfl⟩, hk, i2, i4, i3, fun i c _ hc => ?_⟩ (fun k' c h1 h2 hc e => ?_)
      · obtain ⟨n, -, -, -, -, -, -, -, -, -, -, m, -, -, -, -, -, -, b7, -⟩ := i5
        exact b7 i c hc
      · subst e
        have hd := h.1.2.2.1.2.2 c
        have : k = 0 ∨ k = 1 := by omega
        rcases this with e | e <;> subst e
        · have e1 : k' = 1 := by omega
          subst e1
          exact hd i2 hc
        · have e1 : k' = 0 := by omega
          subst e1
          exact hd hc i2
