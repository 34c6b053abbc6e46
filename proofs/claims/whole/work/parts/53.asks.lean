/-! takes, costs, lodges, bars, spoils; asks, harm -/
def fgV (K : Nat → Int) (d : Int) : Int := if 0 ≤ d ∧ d < 100 then K (154 + d.toNat) else 0
def evW (K : Nat → Int) (p : Nat) (heard other theirs far day fog : Int) (i : Nat) : Int := if i = 0 then (p : Int) else if i = 1 then K (34 + 2 * p) else if i = 2 then K (35 + 2 * p) else if i = 3 then heard else if i = 4 then other else if i = 5 then theirs else if i = 6 then far else if i = 7 then day else if i = 8 then fog else if i = 9 then K 255 else 0
def evN (K : Nat → Int) (p : Nat) : Nat → Int := evW K p (K (20 + p)) (-1) (-1) (-1) (K 33) (fgV K (K 33))
def takV (M : zM) (K : Nat → Int) (p : Nat) : Int := tlA M 0 60 (evN K p) (K (34 + 2 * p)) M.1
def cosV (M : zM) (K : Nat → Int) (p : Nat) : Int := tlA M 1 999 (evN K p) (K (34 + 2 * p)) M.1
def lodV (M : zM) (K : Nat → Int) (p : Nat) : Int := tlA M 2 99 (evN K p) 1 M.1
def barV (M : zM) (K : Nat → Int) (p : Nat) (heard day fog : Int) : Int := tlA M 4 1 (evW K p heard (-1) (-1) (-1) day fog) 0 M.1
def spoV (M : zM) (K : Nat → Int) (p q : Nat) : Int := tlA M 3 2 (evW K p (-1) (q : Int) (K (35 + 2 * q)) (K (34 + 2 * q)) (-1) (-1)) 1 M.1
theorem tlA_r {M : zM} {verb most dflt : Int} {W : Nat → Int} (hm : 1 ≤ most) (hd : 0 ≤ dflt ∧ dflt ≤ most) (j : Nat) : 0 ≤ tlA M verb most W dflt j ∧ tlA M verb most W dflt j ≤ most := by
  induction j with
  | zero => exact hd
  | succ j ih =>
    rw [tlA_s]
    split
    · split
      · omega
      · split
        · unfold clv
          split <;> (try split) <;> omega
        · exact ih
    · exact ih
/-- what stands fixed of the class while the law is asked; K: the abstract state, n people, M the law in force -/
def cxC (σ : st_S) (K : Nat → Int) (n : Nat) (M : zM) : Prop := zC1 σ 25 K n ∧ zC2 σ 25 K n ∧ zC3 σ 25 K n ∧ zC4 σ 25 K n ∧ zC5 σ 25 K n ∧ zC6 σ 25 K n ∧ zC7 σ 25 K n ∧ zC8 σ 25 K ∧ zC9 σ 25 K ∧ fMc σ M ∧ zJk σ
/-- the judge's scratch -/
def zJ (σ τ : st_S) : Prop := τ.2 = σ.2 ∧ ∀ c j, c ≠ 36 → c ≠ 37 → c ≠ 38 → gI τ c j = gI σ c j
theorem zJ_rfl {σ : st_S} : zJ σ σ := ⟨rfl, fun _ _ _ _ _ => rfl⟩
theorem zJ_tr {σ τ υ : st_S} (h : zJ σ τ) (g : zJ τ υ) : zJ σ υ := ⟨g.1.trans h.1, fun c j a b d => (g.2 c j a b d).trans (h.2 c j a b d)⟩
theorem zJ_ab {σ τ : st_S} (h : zAb 36 σ τ) : zJ σ τ := ⟨h.1, fun c j a b d => h.2 c j (by omega) (by omega)⟩
theorem zJ_37 {σ : st_S} {j : Nat} {v : Int} : zJ σ (sI σ 37 j v) := ⟨rfl, fun c' j' a b d => by rw [gI_sI, if_neg (by omega)]⟩
theorem cxC_of {σ τ : st_S} {K : Nat → Int} {n : Nat} {M : zM} (h : cxC σ K n M) (g : zJ σ τ) : cxC τ K n M := by
  obtain ⟨h1, h2, h3, h4, h5, h6, h7, h8, h9, hf, hj⟩ := h
  refine ⟨zC1_of h1 (g.2 _ _ (by decide) (by decide) (by decide)) rfl, zC2_of h2 (fun p _ => g.2 _ _ (by decide) (by decide) (by decide)) (fun _ _ _ => rfl), zC3_of h3 (fun p _ => g.2 _ _ (by decide) (by decide) (by decide)) (fun _ _ _ => rfl), zC4_of h4 (fun p _ => g.2 _ _ (by decide) (by decide) (by decide)) (fun _ _ _ => rfl), zC5_of h5 (fun p _ => g.2 _ _ (by decide) (by decide) (by decide)) (fun _ _ => rfl), zC6_of h6 (fun p _ => g.2 _ _ (by decide) (by decide) (by decide)) (fun _ _ => rfl) (fun _ _ _ => rfl), zC7_of h7 (fun p _ => g.2 _ _ (by decide) (by decide) (by decide)) (fun _ _ _ => rfl), zC8_of h8 (fun p => g.2 _ _ (by decide) (by decide) (by decide)) (fun _ _ _ => rfl), zC9_of h9 (fun p => g.2 _ _ (by decide) (by decide) (by decide)) (fun _ _ => rfl), fMc_ab hf g.1 (fun c j hc => g.2 _ _ (by omega) (by omega) (by omega)), zJk_of hj g.1⟩
theorem evW_i {K : Nat → Int} {n p : Nat} {σ : st_S} {M : zM} (h : cxC σ K n M) (hp : p < n) {heard other theirs far day fog : Int} (a : i32 heard) (b : i32 other) (c : i32 theirs) (d : i32 far) (e : i32 day) (f : i32 fog) (i : Nat) : i32 (evW K p heard other theirs far day fog i) := by
  obtain ⟨h1, h2, h3, h4, h5, h6, h7, h8, h9, hf, hj⟩ := h
  have o1 := h1.2.2
  have o2 := (h2 p hp).2
  have o3 := (h3 p hp).2
  unfold zC9 at h9
  have o9 := h9.2.2.2
  unfold evW
  split
  · unfold i32; omega
  · split
    · unfold i32; omega
    · split
      · unfold i32; omega
      · split
        · exact a
        · split
          · exact b
          · split
            · exact c
            · split
              · exact d
              · split
                · exact e
                · split
                  · exact f
                  · split
                    · unfold i32; omega
                    · unfold i32; omega
theorem w_fogOn {σ : st_S} {K : Nat → Int} {d : Int} {Q : Int → st_S → Prop} (h : zC8 σ 25 K) (hQ : Q (fgV K d) σ) : wp_X1_fogOn d σ Q := by
  unfold fgV at hQ
  refine ⟨fun q => ?_, fun q => ⟨fun q2 => ?_, fun q2 => ⟨⟨by omega, by omega⟩, ?_⟩⟩⟩
  · rw [if_neg (by omega)] at hQ; exact hQ
  · rw [if_neg (by omega)] at hQ; exact hQ
  · rw [if_pos (by omega), ← (h d.toNat (by omega)).1] at hQ
    exact hQ
theorem fgV_r {σ : st_S} {K : Nat → Int} (h : zC8 σ 25 K) (d : Int) : fgV K d = 0 ∨ fgV K d = 1 := by
  unfold fgV
  split
  · exact (h d.toNat (by omega)).2
  · exact Or.inl rfl
theorem w_setPerson {σ : st_S} {K : Nat → Int} {n p : Nat} {M : zM} {a2 a3 a4 : Int} {Q : st_S → Prop} (h : cxC σ K n M) (hp : p < n) (hQ : ∀ τ, zJ σ τ → (∀ i, i < 10 → gI τ 37 i = evW K p a2 (-1) (-1) (-1) a3 a4 i) → Q τ) : wp_X3_setPerson (p : Int) a2 a3 a4 σ Q := by
  obtain ⟨h1, h2, h3, h4, h5, h6, h7, h8, h9, hf, hj⟩ := h
  have o1 := h1.2.2
  intro s0 e0
  refine ⟨ixn (by omega), ?_⟩
  intro s1 e1
  refine ⟨ixn (by omega), ?_⟩
  intro s2 e2 s3 e3 s4 e4 s5 e5 s6 e6 s7 e7 s8 e8 s9 e9
  have v1 : gI s0 26 (Int.toNat (p : Int)) = K (34 + 2 * p) := by rw [e0]; exact (h2 p hp).1
  have v2 : gI s1 27 (Int.toNat (p : Int)) = K (35 + 2 * p) := by rw [e1, e0]; exact (h3 p hp).1
  have v9 : gI s8 33 2 = K 255 := by rw [e8, e7, e6, e5, e4, e3, e2, e1, e0]; unfold zC9 at h9; exact h9.2.2.1
  refine hQ s9 ?_ ?_
  · rw [e9, e8, e7, e6, e5, e4, e3, e2, e1, e0]
    exact zJ_tr (zJ_tr (zJ_tr (zJ_tr (zJ_tr (zJ_tr (zJ_tr (zJ_tr (zJ_tr zJ_37 zJ_37) zJ_37) zJ_37) zJ_37) zJ_37) zJ_37) zJ_37) zJ_37) zJ_37
  · intro i hi
    rw [v1] at e1
    rw [v2] at e2
    rw [v9] at e9
    match i, hi with
    | 0, _ => rw [e9, e8, e7, e6, e5, e4, e3, e2, e1, e0]; rfl
    | 1, _ => rw [e9, e8, e7, e6, e5, e4, e3, e2, e1]; rfl
    | 2, _ => rw [e9, e8, e7, e6, e5, e4, e3, e2]; rfl
    | 3, _ => rw [e9, e8, e7, e6, e5, e4, e3]; rfl
    | 4, _ => rw [e9, e8, e7, e6, e5, e4]; rfl
    | 5, _ => rw [e9, e8, e7, e6, e5]; rfl
    | 6, _ => rw [e9, e8, e7, e6]; rfl
    | 7, _ => rw [e9, e8, e7]; rfl
    | 8, _ => rw [e9, e8]; rfl
    | 9, _ => rw [e9]; rfl
theorem w_setNow {σ : st_S} {K : Nat → Int} {n p : Nat} {M : zM} {Q : st_S → Prop} (h : cxC σ K n M) (hp : p < n) (hQ : ∀ τ, zJ σ τ → (∀ i, i < 10 → gI τ 37 i = evN K p i) → Q τ) : wp_X3_setNow (p : Int) σ Q := by
  have h' := h
  obtain ⟨h1, h2, h3, h4, h5, h6, h7, h8, h9, hf, hj⟩ := h
  have o1 := h1.2.2
  intro x ex
  have ex' : x = K 33 := by rw [ex]; unfold zC9 at h9; exact h9.1.1
  subst ex'
  clear ex
  refine ⟨ixn (by omega), w_fogOn h8 ?_⟩
  rw [Int.toNat_natCast, show gI σ 28 p = K (20 + p) from (h4 p hp).1]
  exact w_setPerson h' hp hQ
theorem i32_m1 : i32 (-1) := by unfold i32; omega
theorem evN_i {K : Nat → Int} {n p : Nat} {σ : st_S} {M : zM} (h : cxC σ K n M) (hp : p < n) (i : Nat) : i32 (evN K p i) := by
  have h' := h
  obtain ⟨h1, h2, h3, h4, h5, h6, h7, h8, h9, hf, hj⟩ := h
  have o4 := (h4 p hp).2
  unfold zC9 at h9
  have o9 := h9.1.2
  have of := fgV_r h8 (K 33)
  exact evW_i h' hp (by unfold i32; omega) i32_m1 i32_m1 i32_m1 (by unfold i32; omega) (by unfold i32; omega) i
theorem w_takes {σ : st_S} {K : Nat → Int} {n p : Nat} {M : zM} {Q : Int → st_S → Prop} (h : cxC σ K n M) (hp : p < n) (hQ : ∀ τ, zJ σ τ → Q (takV M K p) τ) : wp_X3_takes (p : Int) σ Q := by
  have hn := h.1.2.2
  refine w_setNow h hp (fun τ hτ hw => ⟨ixn (by omega), ?_⟩)
  have hc := cxC_of h hτ
  rw [Int.toNat_natCast, show gI τ 26 p = K (34 + 2 * p) from (hc.2.1 p hp).1]
  exact w_tells (by decide) (by decide) hc.2.2.2.2.2.2.2.2.2.1 hc.2.2.2.2.2.2.2.2.2.2 hw (evN_i h hp) (fun υ hυ => hQ υ (zJ_tr hτ (zJ_ab hυ)))
theorem w_costs {σ : st_S} {K : Nat → Int} {n p : Nat} {M : zM} {Q : Int → st_S → Prop} (h : cxC σ K n M) (hp : p < n) (hQ : ∀ τ, zJ σ τ → Q (cosV M K p) τ) : wp_X3_costs (p : Int) σ Q := by
  have hn := h.1.2.2
  refine w_setNow h hp (fun τ hτ hw => ⟨ixn (by omega), ?_⟩)
  have hc := cxC_of h hτ
  rw [Int.toNat_natCast, show gI τ 26 p = K (34 + 2 * p) from (hc.2.1 p hp).1]
  exact w_tells (by decide) (by decide) hc.2.2.2.2.2.2.2.2.2.1 hc.2.2.2.2.2.2.2.2.2.2 hw (evN_i h hp) (fun υ hυ => hQ υ (zJ_tr hτ (zJ_ab hυ)))
theorem w_lodges {σ : st_S} {K : Nat → Int} {n p : Nat} {M : zM} {Q : Int → st_S → Prop} (h : cxC σ K n M) (hp : p < n) (hQ : ∀ τ, zJ σ τ → Q (lodV M K p) τ) : wp_X3_lodges (p : Int) σ Q := by
  refine w_setNow h hp (fun τ hτ hw => ?_)
  have hc := cxC_of h hτ
  exact w_tells (by decide) (by decide) hc.2.2.2.2.2.2.2.2.2.1 hc.2.2.2.2.2.2.2.2.2.2 hw (evN_i h hp) (fun υ hυ => hQ υ (zJ_tr hτ (zJ_ab hυ)))
theorem bar_r (M : zM) (K : Nat → Int) (p : Nat) (a b c : Int) : barV M K p a b c = 0 ∨ barV M K p a b c = 1 := by
  have := tlA_r (M := M) (verb := 4) (most := 1) (dflt := 0) (W := evW K p a (-1) (-1) (-1) b c) (by decide) (by decide) M.1
  unfold barV
  omega
theorem w_bars {σ : st_S} {K : Nat → Int} {n p : Nat} {M : zM} {a b c : Int} {Q : Int → st_S → Prop} (h : cxC σ K n M) (hp : p < n) (ia : i32 a) (ib : i32 b) (ic : i32 c) (hQ : ∀ τ, zJ σ τ → Q (barV M K p a b c) τ) : wp_X3_bars (p : Int) a b c σ Q := by
  refine w_setPerson h hp (fun τ hτ hw => ?_)
  have hc := cxC_of h hτ
  refine w_tells (by decide) (by decide) hc.2.2.2.2.2.2.2.2.2.1 hc.2.2.2.2.2.2.2.2.2.2 hw (evW_i h hp ia i32_m1 i32_m1 i32_m1 ib ic) (fun υ hυ => ?_)
  have k := hQ υ (zJ_tr hτ (zJ_ab hυ))
  have r := bar_r M K p a b c
  change (¬ barV M K p a b c = 1 → _) ∧ (barV M K p a b c = 1 → _)
  rcases r with r | r
  · rw [r] at k ⊢; exact ⟨fun _ => ⟨Or.inl rfl, k⟩, fun z => absurd z (by decide)⟩
  · rw [r] at k ⊢; exact ⟨fun z => absurd rfl z, fun _ => ⟨Or.inr rfl, k⟩⟩
theorem w_barsNow {σ : st_S} {K : Nat → Int} {n p : Nat} {M : zM} {Q : Int → st_S → Prop} (h : cxC σ K n M) (hp : p < n) (hQ : ∀ τ, zJ σ τ → Q (barV M K p (K (20 + p)) (K 33) (fgV K (K 33))) τ) : wp_X3_barsNow (p : Int) σ Q := by
  refine w_setNow h hp (fun τ hτ hw => ?_)
  have hc := cxC_of h hτ
  refine w_tells (by decide) (by decide) hc.2.2.2.2.2.2.2.2.2.1 hc.2.2.2.2.2.2.2.2.2.2 hw (evN_i h hp) (fun υ hυ => ?_)
  have k := hQ υ (zJ_tr hτ (zJ_ab hυ))
  have r := bar_r M K p (K (20 + p)) (K 33) (fgV K (K 33))
  change (¬ barV M K p (K (20 + p)) (K 33) (fgV K (K 33)) = 1 → _) ∧ (barV M K p (K (20 + p)) (K 33) (fgV K (K 33)) = 1 → _)
  rcases r with r | r
  · rw [r] at k ⊢; exact ⟨fun _ => ⟨Or.inl rfl, k⟩, fun z => absurd z (by decide)⟩
  · rw [r] at k ⊢; exact ⟨fun z => absurd rfl z, fun _ => ⟨Or.inr rfl, k⟩⟩
theorem w_spoils {σ : st_S} {K : Nat → Int} {n p q : Nat} {M : zM} {Q : Int → st_S → Prop} (h : cxC σ K n M) (hp : p < n) (hq : q < n) (hQ : ∀ τ, zJ σ τ → Q (spoV M K p q) τ) : wp_X3_spoils (p : Int) (q : Int) σ Q := by
  have hn := h.1.2.2
  refine w_setPerson h hp (fun τ hτ hw => ?_)
  have hc := cxC_of h hτ
  intro s0 e0
  refine ⟨ixn (by omega), ?_⟩
  intro s1 e1
  refine ⟨ixn (by omega), ?_⟩
  intro s2 e2
  have v1 : gI s0 27 (Int.toNat (q : Int)) = K (35 + 2 * q) := by rw [e0]; exact (hc.2.2.1 q hq).1
  have v2 : gI s1 26 (Int.toNat (q : Int)) = K (34 + 2 * q) := by rw [e1, e0]; exact (hc.2.1 q hq).1
  rw [v1] at e1
  rw [v2] at e2
  have z2 : zJ τ s2 := by rw [e2, e1, e0]; exact zJ_tr (zJ_tr zJ_37 zJ_37) zJ_37
  have hc2 := cxC_of hc z2
  have o2 := (h.2.1 q hq).2
  have o3 := (h.2.2.1 q hq).2
  refine w_tells (by decide) (by decide) hc2.2.2.2.2.2.2.2.2.2.1 hc2.2.2.2.2.2.2.2.2.2.2 (fun i hi => ?_) (evW_i h hp i32_m1 (by unfold i32; omega) (by unfold i32; omega) (by unfold i32; omega) i32_m1 i32_m1) (fun υ hυ => hQ υ (zJ_tr (zJ_tr hτ z2) (zJ_ab hυ)))
  rw [e2, e1, e0, gI_sI, gI_sI, gI_sI]
  by_cases i6 : i = 6
  · subst i6; rfl
  · by_cases i5 : i = 5
    · subst i5; rfl
    · by_cases i4 : i = 4
      · subst i4; rfl
      · rw [if_neg (by omega), if_neg (by omega), if_neg (by omega), hw i hi]
        unfold evW
        split
        · rfl
        · split
          · rfl
          · split
            · rfl
            · split
              · rfl
              · rfl
