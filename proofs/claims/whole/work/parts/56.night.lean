/-! a night goes by -/
theorem kup_kup {K : Nat → Int} {i : Nat} {a b : Int} : kup (kup K i a) i b = kup K i b := by
  funext j
  unfold kup
  by_cases e : j = i
  · rw [if_pos e, if_pos e]
  · rw [if_neg e, if_neg e, if_neg e]
theorem kup_id {K : Nat → Int} {i : Nat} : kup K i (K i) = K := by
  funext j
  unfold kup
  by_cases e : j = i
  · rw [if_pos e, e]
  · rw [if_neg e]
def loS (M : zM) (K : Nat → Int) : Nat → Int
  | 0 => K 32
  | p + 1 => wr (loS M K p + (if K p = 2 then lodV M K p else 0))
def arK (d : Int) (K : Nat → Int) : Nat → Nat → Int
  | 0 => K
  | p + 1 => if arK d K p p = 1 ∧ arK d K p (10 + p) ≤ d then kup (kup (arK d K p) p 2) (10 + p) (-1) else arK d K p
def pnK (M : zM) (K : Nat → Int) (n : Nat) : Nat → Int := arK (K 33 + 1) (kup (kup K 32 (loS M K n)) 33 (K 33 + 1)) n
theorem arK_n {d : Int} {K : Nat → Int} {p i : Nat} (hp : p ≤ 10) (hi : 20 ≤ i) : arK d K p i = K i := by
  induction p with
  | zero => rfl
  | succ p ih =>
    have := ih (by omega)
    unfold arK
    split
    · rw [kup_n (by omega), kup_n (by omega)]; exact this
    · exact this
theorem pnK_n {M : zM} {K : Nat → Int} {n i : Nat} (hn : n ≤ 10) (hi : 20 ≤ i) (h2 : i ≠ 32) (h3 : i ≠ 33) : pnK M K n i = K i := by
  unfold pnK
  rw [arK_n hn hi, kup_n h3, kup_n h2]
set_option maxHeartbeats 400000 in
theorem w_pass {B : Nat} {σ : st_S} {K L : Nat → Int} {m : Int} {n : Nat} {M : zM} {Q : st_S → Prop} (h : dC B σ K L m n M) (hd : K 33 < 999) (hQ : ∀ τ, dF σ τ → dC B τ (pnK M K n) L m n M → Q τ) : wp_X2_passNight σ Q := by
  have hx := h.1
  obtain ⟨c11, c12, c13⟩ := hx.1
  have h9 := hx.2.2.2.2.2.2.2.2.1
  unfold zC9 at h9
  have h933 := h9.1.2
  have key2 : ∀ k p : Nat, p + k = n → ∀ τ, dF σ τ → dC B τ (arK (K 33 + 1) (kup (kup K 32 (loS M K n)) 33 (K 33 + 1)) p) L m n M → L_X2_passNight_67 Q (k + 1) (p : Int) τ := by
    intro k
    induction k with
    | zero =>
      intro p hp τ hf ht
      have e0 := ht.1.1.1
      refine ⟨fun _ => hQ τ hf ?_, fun z => absurd (by omega) z⟩
      rw [show p = n by omega] at ht
      exact ht
    | succ k ih =>
      intro p hp τ hf ht
      have e0 := ht.1.1.1
      have o5 := (ht.1.2.2.2.2.1 p (by omega)).1
      have o6 := ht.1.2.2.2.2.2.1 p (by omega)
      have o9 := ht.1.2.2.2.2.2.2.2.2.1
      unfold zC9 at o9
      have o33 : gI τ 33 0 = K 33 + 1 := by rw [o9.1.1, arK_n (by omega) (by omega), kup_y]
      have nxt : ∀ υ, dF σ υ → dC B υ (arK (K 33 + 1) (kup (kup K 32 (loS M K n)) 33 (K 33 + 1)) (p + 1)) L m n M → B_X2_passNight_122 Q (L_X2_passNight_67 Q (k + 1)) (p : Int) υ := by
        intro υ hu hd
        intro x ex
        rw [wks (by omega)] at ex
        subst ex
        exact ih (p + 1) (by omega) υ hu hd
      generalize hA : arK (K 33 + 1) (kup (kup K 32 (loS M K n)) 33 (K 33 + 1)) p = A at ht o5 o6
      have eA : arK (K 33 + 1) (kup (kup K 32 (loS M K n)) 33 (K 33 + 1)) (p + 1) = if A p = 1 ∧ A (10 + p) ≤ K 33 + 1 then kup (kup A p 2) (10 + p) (-1) else A := by
        rw [← hA]; rfl
      rw [eA] at nxt
      refine ⟨fun z => absurd z (by omega), fun _ => ⟨ixn (by omega), fun z => nxt τ hf ?_, fun z => ⟨ixn (by omega), fun y => nxt τ hf ?_, fun y => ⟨ixn (by omega), ?_⟩⟩⟩⟩
      · rw [if_neg (fun w => z (o5.trans w.1))]
        exact ht
      · have e1 : A p = 1 := o5.symm.trans z
        have e2 : gI τ 30 p = A (10 + p) := o6 e1
        rw [Int.toNat_natCast, e2] at y
        rw [if_neg (by omega)]
        exact ht
      · have e1 : A p = 1 := o5.symm.trans z
        have e2 : gI τ 30 p = A (10 + p) := o6 e1
        rw [Int.toNat_natCast, e2] at y
        intro s es
        subst es
        refine nxt _ (dF_tr hf (dF_sI (by omega))) ?_
        rw [if_pos ⟨e1, by omega⟩]
        exact dC_ti (dC_pl ht (by omega) (by decide)) (by omega) (by rw [kup_y]; decide)
  have key1 : ∀ k p : Nat, p + k = n → ∀ τ, dF σ τ → dC B τ (kup K 32 (loS M K p)) L m n M → L_X2_passNight_2 Q (k + 1) (p : Int) τ := by
    intro k
    induction k with
    | zero =>
      intro p hp τ hf ht
      have e0 := ht.1.1.1
      have o9 := ht.1.2.2.2.2.2.2.2.2.1
      unfold zC9 at o9
      refine ⟨fun _ => ?_, fun z => absurd (by omega) z⟩
      intro x ex
      rw [o9.1.1, kup_n (by omega), wr_id (by omega) (by omega)] at ex
      subst ex
      intro s es
      subst es
      rw [show p = n by omega] at ht
      exact ⟨n + 1, key2 n 0 (by omega) _ (dF_tr hf (dF_sI (by omega))) (dC_33 ht (by omega))⟩
    | succ k ih =>
      intro p hp τ hf ht
      have e0 := ht.1.1.1
      have o5 := (ht.1.2.2.2.2.1 p (by omega)).1
      rw [kup_n (by omega)] at o5
      have nxt : ∀ υ, dF σ υ → dC B υ (kup K 32 (loS M K (p + 1))) L m n M → B_X2_passNight_46 Q (L_X2_passNight_2 Q (k + 1)) (p : Int) υ := by
        intro υ hu hd
        intro x ex
        rw [wks (by omega)] at ex
        subst ex
        exact ih (p + 1) (by omega) υ hu hd
      have e1 : loS M K (p + 1) = wr (loS M K p + (if K p = 2 then lodV M K p else 0)) := rfl
      refine ⟨fun z => absurd z (by omega), fun _ => ⟨ixn (by omega), fun z => nxt τ hf ?_, fun z => w_lodges ht.1 (by omega) (fun υ hu => ?_)⟩⟩
      · have zc := ht.2.2.2
        rw [kup_y] at zc
        rw [e1, if_neg (fun w => z (o5.trans w)), Int.add_zero, zc]
        exact ht
      · rw [lod_congr (K := K) (fun i hi => kup_n (by omega)) (kup_n (by omega))]
        intro x ex
        have e14 : gI τ 25 14 = loS M K p := by have := ht.2.1; unfold zCa at this; rw [this.2.2, kup_y]
        rw [e14] at ex
        intro s es
        subst es
        refine nxt _ (dF_tr hf (dF_tr (dF_J hu) (dF_sI (by omega)))) ?_
        have := dC_32 (dC_J ht hu) (v := x) (by rw [ex]; exact wr_wr _)
        rw [kup_kup] at this
        rw [e1, if_pos (o5.symm.trans z), ← ex]
        exact this
  exact ⟨n + 1, key1 n 0 (by omega) σ dF_rfl (by rw [show loS M K 0 = K 32 from rfl, kup_id]; exact h)⟩
/-- the reference's kept numbers are sound -/
def kOk (K : Nat → Int) (n : Nat) (M : zM) : Prop := (∃ q : Nat × st_S, dC q.1 q.2 K (fun _ => 0) 0 n M) ∧ fMm K M
theorem kOk_x {σ : st_S} {n : Nat} {M : zM} (h : kOk (gI σ 2) n M) : cxM σ n M := ⟨⟨h.1.choose.2, h.1.choose_spec.1⟩, h.2⟩
theorem fMm_of {K K' : Nat → Int} {M : zM} (h : fMm K M) (hK : ∀ i, 257 ≤ i → K' i = K i) : fMm K' M := by
  rcases h with ⟨h1, h2⟩ | ⟨i, h1, h2, size, h3, h4, h5⟩
  · exact Or.inl ⟨by rw [hK _ (by omega)]; exact h1, h2⟩
  · refine Or.inr ⟨i, by rw [hK _ (by omega)]; exact h1, h2, size, by rw [hK _ (by omega)]; exact h3, h4, ?_⟩
    have k1 : (fun j => K' (266 + 400 * i + j)) = (fun j => K (266 + 400 * i + j)) := funext fun j => hK _ (by omega)
    have k2 : (fun j => K' (3066 + 400 * i + j)) = (fun j => K (3066 + 400 * i + j)) := funext fun j => hK _ (by omega)
    rw [k1, k2]
    exact h5
theorem kOk_of {B : Nat} {σ : st_S} {K L : Nat → Int} {m : Int} {n : Nat} {M : zM} (h : dC B σ K L m n M) (hf : fMm K M) : kOk K n M := by
  obtain ⟨⟨d1, d2, d3, d4, d5, d6, d7, d8, d9, df, dj⟩, da, dl, dz⟩ := h
  refine ⟨⟨(B, sI (sI σ 39 0 0) 39 1 0), ⟨d1, d2, d3, d4, d5, d6, d7, d8, d9, fMc_ab df rfl (fun c j hc => by rw [gI_sI, if_neg (by omega), gI_sI, if_neg (by omega)]), dj⟩, da, ⟨0, 0, rfl, rfl, by omega, rfl, by omega, fun i hi => absurd hi (by omega)⟩, dz⟩, hf⟩
section KK
variable {K : Nat → Int} {n p : Nat} {M : zM} {v : Int}
theorem kOk_32 (h : kOk K n M) (hv : zcn v) : kOk (kup K 32 v) n M := ⟨⟨(_, _), dC_32 h.1.choose_spec hv⟩, fMm_of h.2 (fun i hi => kup_n (by omega))⟩
theorem kOk_30 (h : kOk K n M) : kOk (kup K 30 v) n M := ⟨⟨(_, _), dC_30 h.1.choose_spec⟩, fMm_of h.2 (fun i hi => kup_n (by omega))⟩
theorem kOk_31 (h : kOk K n M) (hv : 0 ≤ v) : kOk (kup K 31 v) n M := ⟨⟨(h.1.choose.1 + v.toNat, _), dC_31 (dC_mono h.1.choose_spec (Nat.le_add_right _ _)) ⟨hv, by omega⟩⟩, fMm_of h.2 (fun i hi => kup_n (by omega))⟩
theorem kOk_33 (h : kOk K n M) (hv : 0 ≤ v ∧ v ≤ 999) : kOk (kup K 33 v) n M := ⟨⟨(_, _), dC_33 h.1.choose_spec hv⟩, fMm_of h.2 (fun i hi => kup_n (by omega))⟩
theorem kOk_n (h : kOk K n M) : n ≤ 10 := h.1.choose_spec.1.1.2.2
theorem kOk_he (h : kOk K n M) (hp : p < n) (hv : 0 ≤ v ∧ v ≤ 2) : kOk (kup K (20 + p) v) n M := ⟨⟨(_, _), dC_he h.1.choose_spec hp hv⟩, fMm_of h.2 (fun i hi => kup_n (by have := kOk_n h; omega))⟩
theorem kOk_pl (h : kOk K n M) (hp : p < n) (hv : 0 ≤ v ∧ v ≤ 3 ∧ v ≠ 1) : kOk (kup K p v) n M := ⟨⟨(_, _), dC_pl h.1.choose_spec hp hv⟩, fMm_of h.2 (fun i hi => kup_n (by have := kOk_n h; omega))⟩
theorem kOk_ti (h : kOk K n M) (hp : p < n) (hK : ¬ K p = 1) : kOk (kup K (10 + p) v) n M := ⟨⟨(_, _), dC_ti h.1.choose_spec hp hK⟩, fMm_of h.2 (fun i hi => kup_n (by have := kOk_n h; omega))⟩
end KK
/-- what a deed may change of the reference's store -/
def dM (σ υ : st_S) : Prop := υ.2 = σ.2 ∧ ∀ c j, ¬ (c = 0 ∧ (j = 8 ∨ j = 22 ∨ j = 23 ∨ j = 24 ∨ j = 28)) → c ≠ 12 → c ≠ 13 → ¬ (c = 2 ∧ j < 34) → gI υ c j = gI σ c j
theorem dM_rfl {σ : st_S} : dM σ σ := ⟨rfl, fun _ _ _ _ _ _ => rfl⟩
theorem dM_tr {σ τ υ : st_S} (h : dM σ τ) (g : dM τ υ) : dM σ υ := ⟨g.1.trans h.1, fun c j a b d e => (g.2 c j a b d e).trans (h.2 c j a b d e)⟩
theorem dM_N {σ τ : st_S} (h : zN σ τ) : dM σ τ := ⟨h.1, fun c j a b _ _ => h.2 c j (by omega) b⟩
theorem dM_sI {σ : st_S} {j : Nat} {v : Int} (h : j < 34) : dM σ (sI σ 2 j v) := ⟨rfl, fun c' j' a b d e => by rw [gI_sI, if_neg (by omega)]⟩
/-- the log stays -/
def sLg (σ υ : st_S) : Prop := gI υ 0 28 = gI σ 0 28 ∧ gI υ 13 = gI σ 13
theorem sLg_rfl {σ : st_S} : sLg σ σ := ⟨rfl, rfl⟩
theorem sLg_tr {σ τ υ : st_S} (h : sLg σ τ) (g : sLg τ υ) : sLg σ υ := ⟨g.1.trans h.1, g.2.trans h.2⟩
theorem sLg_N {σ τ : st_S} (h : zN σ τ) : sLg σ τ := ⟨h.2 _ _ (by omega) (by decide), funext fun j => h.2 _ _ (by omega) (by decide)⟩
theorem sLg_2 {σ : st_S} {j : Nat} {v : Int} : sLg σ (sI σ 2 j v) := ⟨rfl, rfl⟩
set_option maxHeartbeats 400000 in
theorem m_pass {σ : st_S} {n : Nat} {M : zM} {Q : st_S → Prop} (h : kOk (gI σ 2) n M) (hd : gI σ 2 33 < 999) (hQ : ∀ υ, dM σ υ → sLg σ υ → gI υ 2 = pnK M (gI σ 2) n → Q υ) : wp_X11_passesNight σ Q := by
  have hn := kOk_n h
  have h9 := h.1.choose_spec.1.2.2.2.2.2.2.2.2.1
  unfold zC9 at h9
  have h933 := h9.1.2
  have h256 := h.1.choose_spec.1.1.2.1
  have key2 : ∀ k p : Nat, p + k = n → ∀ τ, dM σ τ → sLg σ τ → gI τ 2 = arK (gI σ 2 33 + 1) (kup (kup (gI σ 2) 32 (loS M (gI σ 2) n)) 33 (gI σ 2 33 + 1)) p → L_X11_passesNight_60 Q (k + 1) (p : Int) τ := by
    intro k
    induction k with
    | zero =>
      intro p hp τ hf hl ht
      have e0 : gI τ 2 256 = (n : Int) := by rw [ht, arK_n (by omega) (by omega), kup_n (by omega), kup_n (by omega)]; exact h256
      refine ⟨fun _ => hQ τ hf hl ?_, fun z => absurd (show gI τ 2 256 ≤ (p : Int) by omega) z⟩
      rw [ht, show p = n by omega]
      rfl
    | succ k ih =>
      intro p hp τ hf hl ht
      have e0 : gI τ 2 256 = (n : Int) := by rw [ht, arK_n (by omega) (by omega), kup_n (by omega), kup_n (by omega)]; exact h256
      have o33 : gI τ 2 33 = gI σ 2 33 + 1 := by rw [ht, arK_n (by omega) (by omega), kup_y]
      have nxt : ∀ υ, dM σ υ → sLg σ υ → gI υ 2 = arK (gI σ 2 33 + 1) (kup (kup (gI σ 2) 32 (loS M (gI σ 2) n)) 33 (gI σ 2 33 + 1)) (p + 1) → B_X11_passesNight_121 Q (L_X11_passesNight_60 Q (k + 1)) (p : Int) υ := by
        intro υ hu hl2 he
        intro x ex
        rw [wks (by omega)] at ex
        subst ex
        exact ih (p + 1) (by omega) υ hu hl2 he
      have eA : arK (gI σ 2 33 + 1) (kup (kup (gI σ 2) 32 (loS M (gI σ 2) n)) 33 (gI σ 2 33 + 1)) (p + 1) = if gI τ 2 p = 1 ∧ gI τ 2 (10 + p) ≤ gI σ 2 33 + 1 then kup (kup (gI τ 2) p 2) (10 + p) (-1) else gI τ 2 := by
        rw [ht]; rfl
      rw [eA] at nxt
      refine ⟨fun z => absurd z (by show ¬ gI τ 2 256 ≤ (p : Int); omega), fun _ => ?_⟩
      rw [wk0 (by omega), wk10 (by omega)]
      refine ⟨ixn (by omega), fun z => nxt τ hf hl ?_, fun z => ⟨ixn (by omega), fun y => ⟨ixn (by omega), ?_⟩, fun y => nxt τ hf hl ?_⟩⟩
      · rw [if_neg (fun w => z w.1)]
      · intro s es
        refine ⟨ixn (by omega), ?_⟩
        intro s' es'
        rw [Int.toNat_natCast] at es es'
        subst es
        subst es'
        refine nxt _ (dM_tr hf (dM_tr (dM_sI (by omega)) (dM_sI (by omega)))) (sLg_tr hl (sLg_tr sLg_2 sLg_2)) ?_
        have y' : gI τ 2 (10 + p) ≤ gI τ 2 33 := y
        rw [if_pos ⟨z, by omega⟩, kup_sI, kup_sI]
      · have y' : ¬ gI τ 2 (10 + p) ≤ gI τ 2 33 := y
        rw [if_neg (by omega)]
  have key1 : ∀ k p : Nat, p + k = n → ∀ τ, dM σ τ → sLg σ τ → gI τ 2 = kup (gI σ 2) 32 (loS M (gI σ 2) p) → zcn (loS M (gI σ 2) p) → L_X11_passesNight_2 Q (k + 1) (p : Int) τ := by
    intro k
    induction k with
    | zero =>
      intro p hp τ hf hl ht hz
      have e0 : gI τ 2 256 = (n : Int) := by rw [ht, kup_n (by omega)]; exact h256
      have o33 : gI τ 2 33 = gI σ 2 33 := by rw [ht, kup_n (by omega)]
      refine ⟨fun _ => ?_, fun z => absurd (show gI τ 2 256 ≤ (p : Int) by omega) z⟩
      intro x ex
      rw [o33, wr_id (by omega) (by omega)] at ex
      subst ex
      intro s es
      subst es
      refine ⟨n + 1, key2 n 0 (by omega) _ (dM_tr hf (dM_sI (by omega))) (sLg_tr hl sLg_2) ?_⟩
      rw [kup_sI, ht, show p = n by omega]
      rfl
    | succ k ih =>
      intro p hp τ hf hl ht hz
      have e0 : gI τ 2 256 = (n : Int) := by rw [ht, kup_n (by omega)]; exact h256
      have ep : gI τ 2 p = gI σ 2 p := by rw [ht, kup_n (by omega)]
      have e32 : gI τ 2 32 = loS M (gI σ 2) p := by rw [ht, kup_y]
      have e1 : loS M (gI σ 2) (p + 1) = wr (loS M (gI σ 2) p + (if gI σ 2 p = 2 then lodV M (gI σ 2) p else 0)) := rfl
      have kt : kOk (gI τ 2) n M := by rw [ht]; exact kOk_32 h hz
      have nxt : ∀ (v : Int) υ, dM σ υ → sLg σ υ → gI υ 2 = gI τ 2 → v = (if gI σ 2 p = 2 then lodV M (gI σ 2) p else 0) → B_X11_passesNight_39 Q (L_X11_passesNight_2 Q (k + 1)) (p : Int) v (loS M (gI σ 2) p) 32 υ := by
        intro v υ hu hl2 he hv
        intro x ex
        refine ⟨⟨by decide, by decide⟩, ?_⟩
        intro s es y ey
        rw [wks (by omega)] at ey
        subst ey
        rw [hv, ← e1] at ex
        have es' : s = sI υ 2 32 x := es
        subst es'
        refine ih (p + 1) (by omega) _ (dM_tr hu (dM_sI (by omega))) (sLg_tr hl2 sLg_2) ?_ (by rw [e1]; exact wr_wr _)
        rw [kup_sI, he, ht, kup_kup, ex]
      refine ⟨fun z => absurd z (by show ¬ gI τ 2 256 ≤ (p : Int); omega), fun _ => ?_⟩
      rw [wk0 (by omega), e32]
      refine ⟨ixn (by omega), fun z => nxt 0 τ hf hl rfl ?_, fun z => m_lodgesNow (kOk_x kt) (by omega) (fun υ hu => ?_)⟩
      · rw [if_neg (fun w => z (ep.trans w))]
      · refine nxt _ υ (dM_tr hf (dM_N hu)) (sLg_tr hl (sLg_N hu)) (zN_K hu) ?_
        have z' : gI σ 2 p = 2 := ep.symm.trans z
        rw [if_pos z', ht, lod_congr (K := gI σ 2) (fun i hi => kup_n (by omega)) (kup_n (by omega))]
  exact ⟨n + 1, key1 n 0 (by omega) σ dM_rfl sLg_rfl (by rw [show loS M (gI σ 2) 0 = gI σ 2 32 from rfl, kup_id]) h.1.choose_spec.2.2.2⟩
