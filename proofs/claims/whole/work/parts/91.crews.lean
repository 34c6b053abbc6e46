/-! crews -/
def hrB (K : Nat → Int) (p : Nat) : Bool := decide (K p = 2)
def nhB (K : Nat → Int) (p : Nat) : Bool := decide (¬ K p = 2)
theorem w_here {σ : st_S} {K : Nat → Int} {n : Nat} {M : zM} {Q : Int → st_S → Prop} (h : cxC σ K n M) (hQ : Q (bsN (hrB K) n : Int) σ) : wp_X1_here σ Q := by
  have hn := h.1.2.2
  have e0 : gI σ 25 0 = (n : Int) := h.1.1
  have key : ∀ m p : Nat, p + m = n → L_X1_here_4 Q (m + 1) (bsN (hrB K) p : Int) (p : Int) σ := by
    intro m
    induction m with
    | zero =>
      intro p hp
      have ep : p = n := by omega
      subst ep
      exact ⟨fun _ => hQ, fun z => absurd (by omega) z⟩
    | succ m ih =>
      intro p hp
      have nxt : ∀ v : Int, v = ((bsN (hrB K) (p + 1) : Nat) : Int) → B_X1_here_28 Q (L_X1_here_4 Q (m + 1)) v (p : Int) σ := by
        intro v hv y ey
        rw [wks (by omega)] at ey
        subst ey
        subst hv
        exact ih (p + 1) (by omega)
      refine ⟨fun z => absurd z (by omega), fun _ => ⟨ixn (by omega), ?_⟩⟩
      rw [Int.toNat_natCast, show gI σ 29 p = K p from (h.2.2.2.2.1 p (by omega)).1]
      refine ⟨fun z => nxt _ ?_, fun z => ?_⟩
      · rw [bs_n (by unfold hrB; exact decide_eq_false z)]
      · intro v ev
        refine nxt v ?_
        rw [ev]
        exact bs_y (by omega) (by unfold hrB; exact decide_eq_true z)
  exact ⟨n + 1, key n 0 (by omega)⟩
theorem rs_here {K : Nat → Int} {n : Nat} (hn : n ≤ 10) : rsOk (bsN (hrB K) n) K n (bsN (nhB K) n) 0 := by
  refine ⟨bsN_lt _ _ hn, fun p hp => ?_⟩
  rw [Nat.zero_or, bsN_tb, bsN_tb, decide_eq_true hp, Bool.true_and, Bool.true_and]
  unfold hrB nhB
  by_cases e : K p = 2
  · simp [e]
  · simp [e]
theorem hdV_z {σ : st_S} {M : zM} {K : Nat → Int} {n hsh p : Nat} (h : cxC σ K n M) (hp : p < n) : hdV M K n hsh 0 p = K (20 + p) := by
  have o4 := (h.2.2.2.1 p hp).2
  unfold hdV
  rw [hdA_z]
  split <;> omega
/-- worth of those who may light now -/
theorem wMV_now {σ : st_S} {M : zM} {K : Nat → Int} {n p : Nat} (h : cxC σ K n M) (hp : p < n) : (mayL M K p → (wMV M K n (bsN (nhB K) n) 0 0 0 p : Int) = woK K p) ∧ (¬ mayL M K p → wMV M K n (bsN (nhB K) n) 0 0 0 p = 0) := by
  have o4 := (h.2.2.2.1 p hp).2
  have tb : (0 ||| bsN (nhB K) n).testBit p = decide (¬ K p = 2) := by rw [Nat.zero_or, bsN_tb, decide_eq_true hp]; rfl
  have eb : ∀ x : Int, barV M K p x (K 33 + ((0 : Nat) : Int)) (fgV K (K 33 + ((0 : Nat) : Int))) = barV M K p x (K 33) (fgV K (K 33)) := fun x => by rw [show K 33 + ((0 : Nat) : Int) = K 33 by omega]
  unfold wMV mayL woK
  rw [hdV_z h hp, tb]
  refine ⟨fun q => ?_, fun q => ?_⟩
  · rw [if_neg (show ¬ K p = 3 by omega)] at q ⊢
    rw [if_pos ⟨hp, decide_eq_false (fun w => w q.1), by unfold comV; rw [if_pos q.1]; decide, by omega, by omega, by
      show barV M K p (((K (20 + p)).toNat : Nat) : Int) (K 33 + ((0 : Nat) : Int)) (fgV K (K 33 + ((0 : Nat) : Int))) = 0
      rw [eb, show (((K (20 + p)).toNat : Nat) : Int) = K (20 + p) by omega]
      exact q.2.2⟩]
    omega
  · rw [if_neg]
    intro w
    have w1 : K p = 2 := by
      have := w.2.1
      rw [decide_eq_false_iff_not] at this
      exact Classical.not_not.mp this
    refine q ⟨w1, ?_, ?_⟩
    · rw [if_neg (by omega)]
      have := w.2.2.2.2.1
      omega
    · have w6 : barV M K p (((K (20 + p)).toNat : Nat) : Int) (K 33 + ((0 : Nat) : Int)) (fgV K (K 33 + ((0 : Nat) : Int))) = 0 := w.2.2.2.2.2
      rw [eb, show (((K (20 + p)).toNat : Nat) : Int) = K (20 + p) by omega] at w6
      exact w6
theorem m_mayLight {σ : st_S} {n p : Nat} {M : zM} {Q : Int → st_S → Prop} (hx : cxM σ n M) (hp : p < n) (h1 : mayL M (gI σ 2) p → ∀ τ, zN σ τ → Q 1 τ) (h0 : ¬ mayL M (gI σ 2) p → ∀ τ, zN σ τ → Q 0 τ) : wp_X11_mayLight (p : Int) σ Q := by
  have hxc := hx.1.choose_spec
  have hn := hxc.1.2.2
  have o4 := (hxc.2.2.2.1 p hp).2
  have h9 := hxc.2.2.2.2.2.2.2.2.1
  unfold zC9 at h9
  have h933 := h9.1.2
  have of := fgV_r hxc.2.2.2.2.2.2.2.1 (gI σ 2 33)
  unfold wp_X11_mayLight
  rw [wk0 (by omega), wk20 (by omega)]
  refine ⟨ixn (by omega), ?_⟩
  rw [Int.toNat_natCast, Int.toNat_natCast]
  refine ⟨fun z => ⟨Or.inl rfl, h0 (fun w => z w.1) σ zN_rfl⟩, fun z => m_worthOf (by omega) o4 ?_⟩
  rw [show (if gI σ 2 p = 3 then (0 : Int) else 2 - gI σ 2 (20 + p)) = woK (gI σ 2) p from rfl]
  refine ⟨fun y => ⟨Or.inl rfl, h0 (fun w => by have := w.2.1; omega) σ zN_rfl⟩, fun y => ⟨ixn (by omega), m_fogOn (by omega) (m_isBarred hx hp (by unfold i32; omega) (by unfold i32; omega) (by unfold i32; omega) (fun τ hτ => ⟨fun w => ⟨Or.inl rfl, h0 (fun u => w u.2.2) τ hτ⟩, fun w => ⟨Or.inr rfl, h1 ⟨z, by omega, w⟩ τ hτ⟩⟩))⟩⟩
theorem zL_18 {σ : st_S} {j : Nat} {v : Int} : zL σ (sI σ 18 j v) := zL_sI (by omega)
set_option maxHeartbeats 400000 in
theorem st_crews {B : Nat} {σc σm : st_S} (h : zInv B σc σm) (hk : zK1 σc) (a1 : Int) : wp_X10_crews a1 σc (fun r τ => wp_X11_crews a1 σm (fun r2 υ => r = r2 ∧ zInv B τ υ)) := by
  obtain ⟨n, M, hx, hm, hsk, hr⟩ := inv_open h hk
  have hn := hx.1.2.2
  have h256 := hx.1.2.1
  have h9 := hx.2.2.2.2.2.2.2.2.1
  unfold zC9 at h9
  have h933 := h9.1.2
  refine w_prepare hx (fun τ1 z1 p1 => w_here p1.1 ?_)
  obtain ⟨H, eH, hH⟩ := p1.2.1.2.1
  rw [eH]
  generalize hA : bsN (nhB (gI σm 2)) n = A
  have A10 : A < 1024 := by rw [← hA]; exact bsN_lt _ _ hn
  generalize hl : crL M (gI σm 2) n A 0 0 0 = l
  have nd := ndV_v (gI σm 2) 0
  have lt10 : ∀ Y, Y ∈ l → Y < 1024 := fun Y hY => by rw [← hl] at hY; exact (cr_mem hY).1
  have pos : ∀ Y, Y ∈ l → 1 ≤ Y := fun Y hY => by rw [← hl] at hY; exact (cr_mem hY).2.1
  have srt : List.Pairwise (· < ·) l := by rw [← hl]; exact pk_sort (by omega)
  have l210 : l.length ≤ 210 := by rw [← hl]; exact pk_210 (fun p => wMV_2 hx p) (by omega) (by omega) (by omega)
  have ref : ∀ (r : Int) τ, zS σc τ → (a1 < -1 ∨ (l.length : Int) ≤ a1 → r = -1) → (a1 = -1 → r = (l.length : Int)) → (∀ (i : Nat) (hi : i < l.length), a1 = (i : Int) → r = (l[i] : Int)) → wp_X11_crews a1 σm (fun r2 υ => r = r2 ∧ zInv B τ υ) := by
    intro r τ zt r1 r2 r3
    have zc : agQ σc τ := zS_agQ zt hr
    refine ⟨fun z => m_fogOn (by omega) ?_, fun z => ⟨r1 (by omega), zInv_q h zc (zL_agN zL_rfl)⟩⟩
    have main : ∃ m24 : Nat, L_X11_crews_24 (fun r2 υ => r = r2 ∧ zInv B τ υ) m24 a1 ((ndV (gI σm 2) 0 : Nat) : Int) 0 σm := by
      have fin : ∀ υ, zL σm υ → (∀ p, p < 10 → gI υ 18 p = (wMV M (gI σm 2) n A 0 0 0 p : Int)) → wp_X11_crewBehind 0 ((ndV (gI σm 2) 0 : Nat) : Int) υ (fun r36 s37 => ∃ m77 : Nat, L_X11_crews_77 (fun r2 υ => r = r2 ∧ zInv B τ υ) m77 a1 ((ndV (gI σm 2) 0 : Nat) : Int) 0 r36 s37) := by
        intro υ w1 w2
        have zi : zInv B τ υ := zInv_q h zc (zL_agN w1)
        have key : ∀ k j : Nat, j + k = l.length → (a1 = -1 ∨ (j : Int) ≤ a1) → ∀ c : Int, ((∃ hj : j < l.length, c = (l[j] : Int)) ∨ (c = -1 ∧ j = l.length)) → L_X11_crews_77 (fun r2 υ => r = r2 ∧ zInv B τ υ) (k + 1) a1 ((ndV (gI σm 2) 0 : Nat) : Int) (j : Int) c υ := by
          intro k
          induction k with
          | zero =>
            intro j hj ha c hc
            rcases hc with ⟨hj', _⟩ | ⟨ec, ej⟩
            · omega
            · subst ec
              subst ej
              exact ⟨fun _ => ⟨fun q => ⟨r1 (by omega), zi⟩, fun q => ⟨r2 q, zi⟩⟩, fun q => absurd rfl q⟩
          | succ k ih =>
            intro j hj ha c hc
            rcases hc with ⟨hj', ec⟩ | ⟨ec, ej⟩
            · have cm : l[j] ∈ l := List.getElem_mem hj'
              have c10 := lt10 _ cm
              subst ec
              refine ⟨fun q => absurd q (by omega), fun _ => ⟨fun q => ?_, fun q => ⟨r3 j hj' q.symm, zi⟩⟩⟩
              intro x ex
              rw [wks (by omega)] at ex
              subst ex
              refine m_crewBehind (w := wMV M (gI σm 2) n A 0 0 0) (fun p => wMV_2 hx p) c10 nd w2 (fun X a b c => ?_) (fun a => ?_)
              · have a' : X ∈ l := by rw [← hl]; exact a
                have c' : ∀ Y, Y ∈ l → l[j] < Y → X ≤ Y := fun Y hY => c Y (by rw [← hl] at hY; exact hY)
                obtain ⟨hx2, ex⟩ := nx_sort srt (i := j + 1) a' (Or.inr ⟨by omega, by omega, rfl⟩) b c'
                exact ih (j + 1) (by omega) (by omega) _ (Or.inl ⟨hx2, by rw [ex]⟩)
              · have a' : ∀ Y, Y ∈ l → ¬ l[j] < Y := fun Y hY => a Y (by rw [← hl] at hY; exact hY)
                have := nx_end (i := j + 1) srt (Or.inr ⟨by omega, by omega, rfl⟩) a'
                exact ih (j + 1) (by omega) (by omega) _ (Or.inr ⟨rfl, by omega⟩)
            · omega
        refine m_crewBehind (S := 0) (w := wMV M (gI σm 2) n A 0 0 0) (fun p => wMV_2 hx p) (by decide) nd w2 (fun X a b c => ?_) (fun a => ?_)
        · have a' : X ∈ l := by rw [← hl]; exact a
          have c' : ∀ Y, Y ∈ l → 0 < Y → X ≤ Y := fun Y hY => c Y (by rw [← hl] at hY; exact hY)
          obtain ⟨hx2, ex⟩ := nx_sort srt (i := 0) a' (Or.inl ⟨rfl, rfl, pos⟩) b c'
          exact ⟨l.length + 1, key l.length 0 (by omega) (by omega) _ (Or.inl ⟨hx2, by rw [ex]⟩)⟩
        · have a' : ∀ Y, Y ∈ l → ¬ 0 < Y := fun Y hY => a Y (by rw [← hl] at hY; exact hY)
          have := nx_end (i := 0) srt (Or.inl ⟨rfl, rfl, pos⟩) a'
          exact ⟨l.length + 1, key l.length 0 (by omega) (by omega) _ (Or.inr ⟨rfl, by omega⟩)⟩
      have key : ∀ m p : Nat, p + m = 10 → ∀ υ, zL σm υ → (∀ q, q < p → gI υ 18 q = (wMV M (gI σm 2) n A 0 0 0 q : Int)) → L_X11_crews_24 (fun r2 υ => r = r2 ∧ zInv B τ υ) (m + 1) a1 ((ndV (gI σm 2) 0 : Nat) : Int) (p : Int) υ := by
        intro m
        induction m with
        | zero =>
          intro p hp υ w1 w2
          exact ⟨fun _ => fin υ w1 (fun q hq => w2 q (by omega)), fun q => absurd (by omega) q⟩
        | succ m ih =>
          intro p hp υ w1 w2
          have Ku := zL_K w1
          have put : ∀ (v : Int) ω, zN υ ω → v = (wMV M (gI σm 2) n A 0 0 0 p : Int) → B_X11_crews_60 (fun r2 υ => r = r2 ∧ zInv B τ υ) (L_X11_crews_24 (fun r2 υ => r = r2 ∧ zInv B τ υ) (m + 1)) a1 ((ndV (gI σm 2) 0 : Nat) : Int) (p : Int) v (p : Int) ω := by
            intro v ω ho hv
            unfold B_X11_crews_60
            rw [wr_n (by omega)]
            refine ⟨ixn (by omega), ?_⟩
            intro s es x ex
            rw [wks (by omega)] at ex
            rw [Int.toNat_natCast] at es
            subst ex
            subst es
            refine ih (p + 1) (by omega) _ (zL_tr w1 (zL_tr (zL_N ho) zL_18)) (fun q hq => ?_)
            by_cases e : q = p
            · subst e; rw [gI_sI, if_pos ⟨rfl, rfl⟩]; exact hv
            · rw [gI_sI, if_neg (by omega), ho.2 _ _ (by omega) (by decide)]; exact w2 q (by omega)
          refine ⟨fun q => absurd q (by omega), fun _ => m_isPerson hn (by rw [Ku]; exact h256) (fun q => ⟨fun w => absurd w (by decide), fun _ => ?_⟩) (fun q => ⟨fun _ => put 0 υ zN_rfl ?_, fun w => absurd rfl w⟩)⟩
          · have hpn : p < n := by omega
            have wn := wMV_now (M := M) hx hpn
            rw [hA] at wn
            refine m_mayLight (cxM_of hm Ku) hpn (fun u ω ho => ⟨fun w => absurd w (by decide), fun _ => ?_⟩) (fun u ω ho => ⟨fun _ => put 0 ω ho ?_, fun w => absurd rfl w⟩)
            · rw [Ku] at u
              have Ko : gI ω 2 = gI σm 2 := by rw [zN_K ho, Ku]
              have o4 := (hx.2.2.2.1 p hpn).2
              refine m_worthOf (by omega) (by rw [Ko]; exact o4) (put _ ω ho ?_)
              rw [wn.1 u, Ko]
              rfl
            · rw [Ku] at u
              rw [wn.2 u]
              rfl
          · unfold wMV
            rw [if_neg (fun w => q ⟨by omega, by have := w.1; omega⟩)]
            rfl
      exact ⟨11, key 10 0 (by omega) σm zL_rfl (fun q hq => absurd hq (by omega))⟩
    have ef : fgV (gI σm 2) (gI σm 2 33 + ((0 : Nat) : Int)) = fgV (gI σm 2) (gI σm 2 33) := by rw [show gI σm 2 33 + ((0 : Nat) : Int) = gI σm 2 33 by omega]
    unfold ndV at main
    rw [ef] at main
    refine ⟨fun z => ?_, fun z => ?_⟩
    · rw [if_neg z] at main; exact main
    · rw [if_pos z] at main; exact main
  refine w_list (night := 0) (used := 0) (away := A) (hsh := 0) p1 (hOk_root hH) (by rw [← hA]; exact rs_here hn) (fun q => cr_nil q (Nat.zero_le _)) (fun τ2 z2 g2 => ?_)
  rw [hl] at g2 ⊢
  have zt : zS σc τ2 := zS_tr (zS_P z1) (zS_P (zQ_P z2))
  refine ⟨fun w => ⟨fun q => ref _ τ2 zt (fun _ => rfl) (fun y => absurd y w) (fun i hi ei => by omega), fun q => ⟨fun q' => ref _ τ2 zt (fun _ => rfl) (fun y => absurd y w) (fun i hi ei => by omega), fun q' => ?_⟩⟩, fun w => ref _ τ2 zt (fun y => by omega) (fun _ => rfl) (fun i hi ei => by omega)⟩
  obtain ⟨i, ei⟩ : ∃ i : Nat, a1 = (i : Int) := ⟨a1.toNat, by omega⟩
  subst ei
  have hil : i < l.length := by omega
  refine w_crewAt (night := 0) (by decide) (by omega) ?_
  have e2 := g2 i hil
  refine ref _ τ2 zt (fun y => by omega) (fun y => absurd y w) (fun i' hi' ei => ?_)
  have ee : i' = i := by omega
  subst ee
  rw [e2, List.getD_eq_getElem?_getD, List.getElem?_eq_getElem hil]
  rfl
