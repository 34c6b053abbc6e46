/-! deeds on the abstract state -/
def kup (K : Nat → Int) (i : Nat) (v : Int) (j : Nat) : Int := if j = i then v else K j
theorem kup_sI (σ : st_S) (i : Nat) (v : Int) : gI (sI σ 2 i v) 2 = kup (gI σ 2) i v := funext fun j => by
  rw [gI_sI]
  unfold kup
  by_cases e : j = i
  · rw [if_pos ⟨rfl, e⟩, if_pos e]
  · rw [if_neg (fun z => e z.2), if_neg e]
theorem kup_n {K : Nat → Int} {i j : Nat} {v : Int} (h : j ≠ i) : kup K i v j = K j := if_neg h
theorem kup_y {K : Nat → Int} {i : Nat} {v : Int} : kup K i v i = v := if_pos rfl
theorem ev_congr {K K' : Nat → Int} {p : Nat} (h1 : ∀ i, 33 ≤ i → K' i = K i) (h2 : K' (20 + p) = K (20 + p)) : evN K' p = evN K p := by
  have ef : fgV K' (K 33) = fgV K (K 33) := by unfold fgV; rw [h1 (154 + _) (by omega)]
  unfold evN
  rw [h1 33 (by omega), h2, ef]
  funext i
  unfold evW
  rw [h1 (34 + 2 * p) (by omega), h1 (35 + 2 * p) (by omega), h1 255 (by omega)]
theorem lod_congr {M : zM} {K K' : Nat → Int} {p : Nat} (h1 : ∀ i, 33 ≤ i → K' i = K i) (h2 : K' (20 + p) = K (20 + p)) : lodV M K' p = lodV M K p := by unfold lodV; rw [ev_congr h1 h2]
theorem spo_congr {M : zM} {K K' : Nat → Int} {p q : Nat} (h1 : ∀ i, 34 ≤ i → K' i = K i) : spoV M K' p q = spoV M K p q := by
  unfold spoV
  rw [h1 (35 + 2 * q) (by omega), h1 (34 + 2 * q) (by omega)]
  have : evW K' p (-1) (q : Int) (K (35 + 2 * q)) (K (34 + 2 * q)) (-1) (-1) = evW K p (-1) (q : Int) (K (35 + 2 * q)) (K (34 + 2 * q)) (-1) (-1) := by
    funext i
    unfold evW
    rw [h1 (34 + 2 * p) (by omega), h1 (35 + 2 * p) (by omega), h1 255 (by omega)]
  rw [this]
/-- the class's store stands for (K, L, m), with n people, the law M -/
def dC (B : Nat) (σ : st_S) (K L : Nat → Int) (m : Int) (n : Nat) (M : zM) : Prop := cxC σ K n M ∧ zCa B σ 25 K ∧ zLg B σ 39 L m n ∧ zcn (K 32)
/-- what a deed may change of the class's store -/
def dF (σ τ : st_S) : Prop := τ.2 = σ.2 ∧ ∀ c j, ¬ (28 ≤ c ∧ c ≤ 30) → ¬ (c = 33 ∧ j = 0) → ¬ (36 ≤ c ∧ c ≤ 40 ) → ¬ (c = 25 ∧ 12 ≤ j ∧ j ≤ 14) → gI τ c j = gI σ c j
theorem dF_rfl {σ : st_S} : dF σ σ := ⟨rfl, fun _ _ _ _ _ _ => rfl⟩
theorem dF_tr {σ τ υ : st_S} (h : dF σ τ) (g : dF τ υ) : dF σ υ := ⟨g.1.trans h.1, fun c j a b d e => (g.2 c j a b d e).trans (h.2 c j a b d e)⟩
theorem dF_J {σ τ : st_S} (h : zJ σ τ) : dF σ τ := ⟨h.1, fun c j a b d e => h.2 c j (by omega) (by omega) (by omega)⟩
theorem dF_sI {σ : st_S} {c j : Nat} {v : Int} (h : (28 ≤ c ∧ c ≤ 30) ∨ (c = 33 ∧ j = 0) ∨ (36 ≤ c ∧ c ≤ 40) ∨ (c = 25 ∧ 12 ≤ j ∧ j ≤ 14)) : dF σ (sI σ c j v) := ⟨rfl, fun c' j' a b d e => by rw [gI_sI, if_neg (by omega)]⟩
theorem zLg_of {B : Nat} {σ τ : st_S} {L : Nat → Int} {m : Int} {n : Nat} (h : zLg B σ 39 L m n) (hI : ∀ c j, c = 39 ∨ c = 40 → gI τ c j = gI σ c j) : zLg B τ 39 L m n := by
  obtain ⟨k, o, l2, l3, l4, l5, l6, l7⟩ := h
  refine ⟨k, o, by rw [hI _ _ (by omega)]; exact l2, l3, l4, by rw [hI _ _ (by omega)]; exact l5, l6, fun i hi => ?_⟩
  have e1 : (fun j => gI τ (39 + 1) ((o + i) % 16 * 35 + j)) = (fun j => gI σ (39 + 1) ((o + i) % 16 * 35 + j)) := funext fun j => hI _ _ (by omega)
  rw [e1]
  exact l7 i hi
theorem zLg_mono {B B' : Nat} {σ : st_S} {c : Nat} {L : Nat → Int} {m : Int} {n : Nat} (h : zLg B σ c L m n) (hb : B ≤ B') : zLg B' σ c L m n := by
  obtain ⟨k, o, l2, l3, l4, l5, l6, l7⟩ := h
  refine ⟨k, o, l2, l3, l4, l5, l6, fun i hi => ?_⟩
  obtain ⟨q1, q2, q3, q4, q5, q6⟩ := l7 i hi
  exact ⟨q1, q2, q3, ⟨q4.1, q4.2.1, Int.le_trans q4.2.2 (by omega)⟩, q5, q6⟩
theorem zCa_mono {B B' : Nat} {σ : st_S} {t : Nat} {K : Nat → Int} (h : zCa B σ t K) (hb : B ≤ B') : zCa B' σ t K := ⟨h.1, ⟨h.2.1.1, h.2.1.2.1, Int.le_trans h.2.1.2.2 (by omega)⟩, h.2.2⟩
theorem dC_mono {B B' : Nat} {σ : st_S} {K L : Nat → Int} {m : Int} {n : Nat} {M : zM} (h : dC B σ K L m n M) (hb : B ≤ B') : dC B' σ K L m n M := ⟨h.1, zCa_mono h.2.1 hb, zLg_mono h.2.2.1 hb, h.2.2.2⟩
theorem zCR_mono {B B' : Nat} {σ : st_S} {t : Nat} {K : Nat → Int} (h : zCR B σ t K) (hb : B ≤ B') : zCR B' σ t K := by
  obtain ⟨n, c1, c2, c3, c4, c5, c6, c7, c8, c9, ca, cb⟩ := h
  exact ⟨n, c1, c2, c3, c4, c5, c6, c7, c8, c9, zCa_mono ca hb, cb⟩
theorem zIm_mono {B B' : Nat} {σc σm : st_S} {k : Nat} (h : zIm B σc σm k) (hb : B ≤ B') : zIm B' σc σm k := by
  rcases h with h | ⟨q1, c, q2, q3, q4, q5⟩
  · exact Or.inl h
  · exact Or.inr ⟨q1, c, q2, q3, q4, zCR_mono q5 hb⟩
theorem zImg_mono {B B' : Nat} {σc σm : st_S} (h : zImg B σc σm) (hb : B ≤ B') : zImg B' σc σm := ⟨zIm_mono h.1 hb, zIm_mono h.2.1 hb, h.2.2⟩
theorem zInv_mono {B B' : Nat} {σc σm : st_S} (h : zInv B σc σm) (hb : B ≤ B') : zInv B' σc σm := by
  obtain ⟨⟨h1, ⟨n, h2, h2'⟩, h3, h4⟩, h5⟩ := h
  exact ⟨⟨zCR_mono h1 hb, ⟨n, h2, zLg_mono h2' hb⟩, zImg_mono h3 hb, h4⟩, h5⟩
theorem dC_J {B : Nat} {σ τ : st_S} {K L : Nat → Int} {m : Int} {n : Nat} {M : zM} (h : dC B σ K L m n M) (g : zJ σ τ) : dC B τ K L m n M := by
  refine ⟨cxC_of h.1 g, ?_, zLg_of h.2.2.1 (fun c j hc => g.2 _ _ (by omega) (by omega) (by omega)), h.2.2.2⟩
  have ha := h.2.1
  unfold zCa at *
  rw [g.2 _ _ (by decide) (by decide) (by decide), g.2 _ _ (by decide) (by decide) (by decide), g.2 _ _ (by decide) (by decide) (by decide)]
  exact ha
/-- a change of places, tills, what was heard, the day, the numbers -/
theorem dC_gen {B : Nat} {σ τ : st_S} {K K' L : Nat → Int} {m : Int} {n : Nat} {M : zM} (h : dC B σ K L m n M) (hg : τ.2 = σ.2) (hI : ∀ c j, ¬ (28 ≤ c ∧ c ≤ 30) → ¬ (c = 33 ∧ j = 0) → ¬ (c = 25 ∧ 12 ≤ j ∧ j ≤ 14) → gI τ c j = gI σ c j) (hK : ∀ i, 34 ≤ i → K' i = K i)
    (h4 : zC4 τ 25 K' n) (h5 : zC5 τ 25 K' n) (h6 : zC6 τ 25 K' n) (h9 : gI τ 33 0 = K' 33 ∧ 0 ≤ K' 33 ∧ K' 33 ≤ 999) (ha : zCa B τ 25 K') (hc : zcn (K' 32)) : dC B τ K' L m n M := by
  obtain ⟨⟨d1, d2, d3, d4, d5, d6, d7, d8, d9, df, dj⟩, da, dl, dz⟩ := h
  refine ⟨⟨zC1_of d1 (hI _ _ (by omega) (by omega) (by omega)) (hK _ (by omega)), zC2_of d2 (fun p _ => hI _ _ (by omega) (by omega) (by omega)) (fun i h1 _ => hK i (by omega)), zC3_of d3 (fun p _ => hI _ _ (by omega) (by omega) (by omega)) (fun i h1 _ => hK i (by omega)), h4, h5, h6, zC7_of d7 (fun p _ => hI _ _ (by omega) (by omega) (by omega)) (fun i h1 _ => hK i (by omega)), zC8_of d8 (fun p => hI _ _ (by omega) (by omega) (by omega)) (fun i h1 _ => hK i (by omega)), ?_, fMc_ab df hg (fun c j hc => hI _ _ (by omega) (by omega) (by omega)), zJk_of dj hg⟩, ha, zLg_of dl (fun c j hc => hI _ _ (by omega) (by omega) (by omega)), hc⟩
  · unfold zC9 at d9 ⊢
    refine ⟨h9, ?_, ?_⟩
    · rw [hI _ _ (by omega) (by omega) (by omega), hK 254 (by omega)]; exact d9.2.1
    · rw [hI _ _ (by omega) (by omega) (by omega), hK 255 (by omega)]; exact d9.2.2
section DD
variable {σ : st_S} {K L : Nat → Int} {m : Int} {n p : Nat} {M : zM} {v : Int}
theorem dC_32 {B : Nat} (h : dC B σ K L m n M) (hv : zcn v) : dC B (sI σ 25 14 v) (kup K 32 v) L m n M := by
  obtain ⟨⟨d1, d2, d3, d4, d5, d6, d7, d8, d9, df, dj⟩, da, dl, dz⟩ := id h
  have hn := d1.2.2
  unfold zC9 at d9
  unfold zCa at da
  refine dC_gen h rfl (fun c j a b e => by rw [gI_sI, if_neg (by omega)]) (fun i hi => kup_n (by omega)) (zC4_of d4 (fun _ _ => rfl) (fun i h1 h2 => kup_n (by omega))) (zC5_of d5 (fun _ _ => rfl) (fun i h1 => kup_n (by omega))) (zC6_of d6 (fun _ _ => rfl) (fun i h1 => kup_n (by omega)) (fun i h1 h2 => kup_n (by omega))) ?_ ?_ (by rw [kup_y]; exact hv)
  · rw [kup_n (by omega)]; exact d9.1
  · unfold zCa
    rw [kup_n (by omega), kup_n (by omega), kup_y]
    exact ⟨da.1, da.2.1, rfl⟩
theorem dC_30 {B : Nat} (h : dC B σ K L m n M) : dC B (sI σ 25 12 v) (kup K 30 v) L m n M := by
  obtain ⟨⟨d1, d2, d3, d4, d5, d6, d7, d8, d9, df, dj⟩, da, dl, dz⟩ := id h
  have hn := d1.2.2
  unfold zC9 at d9
  unfold zCa at da
  refine dC_gen h rfl (fun c j a b e => by rw [gI_sI, if_neg (by omega)]) (fun i hi => kup_n (by omega)) (zC4_of d4 (fun _ _ => rfl) (fun i h1 h2 => kup_n (by omega))) (zC5_of d5 (fun _ _ => rfl) (fun i h1 => kup_n (by omega))) (zC6_of d6 (fun _ _ => rfl) (fun i h1 => kup_n (by omega)) (fun i h1 h2 => kup_n (by omega))) ?_ ?_ (by rw [kup_n (by omega)]; exact dz)
  · rw [kup_n (by omega)]; exact d9.1
  · unfold zCa
    rw [kup_y, kup_n (by omega), kup_n (by omega)]
    exact ⟨rfl, da.2.1, da.2.2⟩
theorem dC_31 {B : Nat} (h : dC B σ K L m n M) (hv : 0 ≤ v ∧ v ≤ (B : Int)) : dC B (sI σ 25 13 v) (kup K 31 v) L m n M := by
  obtain ⟨⟨d1, d2, d3, d4, d5, d6, d7, d8, d9, df, dj⟩, da, dl, dz⟩ := id h
  have hn := d1.2.2
  unfold zC9 at d9
  unfold zCa at da
  refine dC_gen h rfl (fun c j a b e => by rw [gI_sI, if_neg (by omega)]) (fun i hi => kup_n (by omega)) (zC4_of d4 (fun _ _ => rfl) (fun i h1 h2 => kup_n (by omega))) (zC5_of d5 (fun _ _ => rfl) (fun i h1 => kup_n (by omega))) (zC6_of d6 (fun _ _ => rfl) (fun i h1 => kup_n (by omega)) (fun i h1 h2 => kup_n (by omega))) ?_ ?_ (by rw [kup_n (by omega)]; exact dz)
  · rw [kup_n (by omega)]; exact d9.1
  · unfold zCa
    rw [kup_n (by omega), kup_y, kup_n (by omega)]
    exact ⟨da.1, ⟨rfl, hv.1, hv.2⟩, da.2.2⟩
theorem dC_33 {B : Nat} (h : dC B σ K L m n M) (hv : 0 ≤ v ∧ v ≤ 999) : dC B (sI σ 33 0 v) (kup K 33 v) L m n M := by
  obtain ⟨⟨d1, d2, d3, d4, d5, d6, d7, d8, d9, df, dj⟩, da, dl, dz⟩ := id h
  have hn := d1.2.2
  unfold zCa at da
  refine dC_gen h rfl (fun c j a b e => by rw [gI_sI, if_neg (by omega)]) (fun i hi => kup_n (by omega)) (zC4_of d4 (fun _ _ => rfl) (fun i h1 h2 => kup_n (by omega))) (zC5_of d5 (fun _ _ => rfl) (fun i h1 => kup_n (by omega))) (zC6_of d6 (fun _ _ => rfl) (fun i h1 => kup_n (by omega)) (fun i h1 h2 => kup_n (by omega))) ?_ ?_ (by rw [kup_n (by omega)]; exact dz)
  · rw [kup_y]; exact ⟨rfl, hv.1, hv.2⟩
  · unfold zCa
    rw [kup_n (by omega), kup_n (by omega), kup_n (by omega)]
    exact da
theorem dC_he {B : Nat} (h : dC B σ K L m n M) (hp : p < n) (hv : 0 ≤ v ∧ v ≤ 2) : dC B (sI σ 28 p v) (kup K (20 + p) v) L m n M := by
  obtain ⟨⟨d1, d2, d3, d4, d5, d6, d7, d8, d9, df, dj⟩, da, dl, dz⟩ := id h
  have hn := d1.2.2
  unfold zC9 at d9
  unfold zCa at da
  refine dC_gen h rfl (fun c j a b e => by rw [gI_sI, if_neg (by omega)]) (fun i hi => kup_n (by omega)) (fun q hq => ?_) (zC5_of d5 (fun _ _ => rfl) (fun i h1 => kup_n (by omega))) (zC6_of d6 (fun _ _ => rfl) (fun i h1 => kup_n (by omega)) (fun i h1 h2 => kup_n (by omega))) ?_ ?_ (by rw [kup_n (by omega)]; exact dz)
  · have o := d4 q hq
    by_cases e : q = p
    · subst e
      rw [kup_y]
      refine ⟨?_, hv⟩
      rw [gI_sI, if_pos ⟨rfl, rfl⟩]
    · rw [kup_n (by omega), gI_sI, if_neg (fun z => e z.2)]
      exact o
  · rw [kup_n (by omega)]; exact d9.1
  · unfold zCa
    rw [kup_n (by omega), kup_n (by omega), kup_n (by omega)]
    exact da
/-- a place that is not the road -/
theorem dC_pl {B : Nat} (h : dC B σ K L m n M) (hp : p < n) (hv : 0 ≤ v ∧ v ≤ 3 ∧ v ≠ 1) : dC B (sI σ 29 p v) (kup K p v) L m n M := by
  obtain ⟨⟨d1, d2, d3, d4, d5, d6, d7, d8, d9, df, dj⟩, da, dl, dz⟩ := id h
  have hn := d1.2.2
  unfold zC9 at d9
  unfold zCa at da
  refine dC_gen h rfl (fun c j a b e => by rw [gI_sI, if_neg (by omega)]) (fun i hi => kup_n (by omega)) (zC4_of d4 (fun _ _ => rfl) (fun i h1 h2 => kup_n (by omega))) (fun q hq => ?_) (fun q hq => ?_) ?_ ?_ (by rw [kup_n (by omega)]; exact dz)
  · have o := d5 q hq
    by_cases e : q = p
    · subst e
      rw [kup_y]
      refine ⟨?_, hv.1, hv.2.1⟩
      rw [gI_sI, if_pos ⟨rfl, rfl⟩]
    · rw [kup_n (by omega), gI_sI, if_neg (fun z => e z.2)]
      exact o
  · have o := d6 q hq
    by_cases e : q = p
    · subst e
      rw [kup_y]
      exact fun z => absurd z hv.2.2
    · rw [kup_n (by omega), kup_n (by omega)]
      exact o
  · rw [kup_n (by omega)]; exact d9.1
  · unfold zCa
    rw [kup_n (by omega), kup_n (by omega), kup_n (by omega)]
    exact da
/-- a till of one who is not on the road: the class's row may hold anything -/
theorem dC_ti {B : Nat} (h : dC B σ K L m n M) (hp : p < n) (hK : ¬ K p = 1) : dC B σ (kup K (10 + p) v) L m n M := by
  obtain ⟨⟨d1, d2, d3, d4, d5, d6, d7, d8, d9, df, dj⟩, da, dl, dz⟩ := id h
  have hn := d1.2.2
  unfold zC9 at d9
  unfold zCa at da
  refine dC_gen h rfl (fun c j a b e => rfl) (fun i hi => kup_n (by omega)) (zC4_of d4 (fun _ _ => rfl) (fun i h1 h2 => kup_n (by omega))) (zC5_of d5 (fun _ _ => rfl) (fun i h1 => kup_n (by omega))) (fun q hq => ?_) ?_ ?_ (by rw [kup_n (by omega)]; exact dz)
  · have o := d6 q hq
    rw [kup_n (by omega)]
    by_cases e : q = p
    · subst e
      exact fun z => absurd z hK
    · rw [kup_n (by omega)]
      exact o
  · rw [kup_n (by omega)]; exact d9.1
  · unfold zCa
    rw [kup_n (by omega), kup_n (by omega), kup_n (by omega)]
    exact da
theorem dC_30t {B : Nat} (h : dC B σ K L m n M) (hp : p < n) (hK : ¬ K p = 1) : dC B (sI σ 30 p v) K L m n M := by
  obtain ⟨⟨d1, d2, d3, d4, d5, d6, d7, d8, d9, df, dj⟩, da, dl, dz⟩ := id h
  unfold zC9 at d9
  refine dC_gen h rfl (fun c j a b e => by rw [gI_sI, if_neg (by omega)]) (fun i hi => rfl) (zC4_of d4 (fun _ _ => rfl) (fun _ _ _ => rfl)) (zC5_of d5 (fun _ _ => rfl) (fun _ _ => rfl)) (fun q hq => ?_) d9.1 da dz
  have o := d6 q hq
  by_cases e : q = p
  · subst e
    exact fun z => absurd z hK
  · rw [gI_sI, if_neg (fun z => e z.2)]
    exact o
/-- on the road till v -/
theorem dC_go {B : Nat} (h : dC B σ K L m n M) (hp : p < n) : dC B (sI (sI σ 29 p 1) 30 p v) (kup (kup K p 1) (10 + p) v) L m n M := by
  obtain ⟨⟨d1, d2, d3, d4, d5, d6, d7, d8, d9, df, dj⟩, da, dl, dz⟩ := id h
  have hn := d1.2.2
  unfold zC9 at d9
  unfold zCa at da
  refine dC_gen h rfl (fun c j a b e => by rw [gI_sI, if_neg (by omega), gI_sI, if_neg (by omega)]) (fun i hi => by rw [kup_n (by omega), kup_n (by omega)]) (zC4_of d4 (fun _ _ => rfl) (fun i h1 h2 => by rw [kup_n (by omega), kup_n (by omega)])) (fun q hq => ?_) (fun q hq => ?_) ?_ ?_ (by rw [kup_n (by omega), kup_n (by omega)]; exact dz)
  · have o := d5 q hq
    rw [kup_n (by omega)]
    by_cases e : q = p
    · subst e
      rw [kup_y]
      exact ⟨by rw [gI_sI, if_neg (by omega), gI_sI, if_pos ⟨rfl, rfl⟩], by decide, by decide⟩
    · rw [kup_n (by omega), gI_sI, if_neg (by omega), gI_sI, if_neg (fun z => e z.2)]
      exact o
  · have o := d6 q hq
    rw [kup_n (j := q) (by omega)]
    by_cases e : q = p
    · subst e
      rw [kup_y, kup_y]
      intro _
      rw [gI_sI, if_pos ⟨rfl, rfl⟩]
    · rw [kup_n (by omega), kup_n (by omega), kup_n (by omega), gI_sI, if_neg (fun z => e z.2)]
      exact o
  · rw [kup_n (by omega), kup_n (by omega)]; exact d9.1
  · unfold zCa
    rw [kup_n (by omega), kup_n (by omega), kup_n (by omega), kup_n (by omega), kup_n (by omega), kup_n (by omega)]
    exact da
end DD
/-- keep, of the class -/
theorem w_dkeep {B : Nat} {σ : st_S} {K L : Nat → Int} {m n : Nat} {M : zM} {k : Int} {Q : st_S → Prop} (h : dC B σ K L (m : Int) n M) (hk : 0 ≤ k ∧ k ≤ 2) (hQ : ∀ τ, dF σ τ → dC B τ K (kpF K L m k) ((kpm m + 1 : Nat) : Int) n M → Q τ) : wp_X4_keep k σ Q := by
  obtain ⟨⟨d1, d2, d3, d4, d5, d6, d7, d8, d9, df, dj⟩, da, ⟨m', o, l2, l3, l4, l5, l6, l7⟩, dz⟩ := h
  have em : m' = m := by omega
  subst em
  refine w_keep l2 l4 l6 l5 (fun τ hτ => hQ τ ⟨hτ.1, fun c j a b d e => hτ.2.1 c j (by omega) (by omega)⟩ ⟨?_, ?_, zLg_keep d1.2.2 hk l4 l6 l7 d4 d5 d6 d9 da hτ (kpF_K K L m' k), dz⟩)
  · have g := hτ.2.1
    exact ⟨zC1_of d1 (g _ _ (by decide) (by decide)) rfl, zC2_of d2 (fun p _ => g _ _ (by decide) (by decide)) (fun _ _ _ => rfl), zC3_of d3 (fun p _ => g _ _ (by decide) (by decide)) (fun _ _ _ => rfl), zC4_of d4 (fun p _ => g _ _ (by decide) (by decide)) (fun _ _ _ => rfl), zC5_of d5 (fun p _ => g _ _ (by decide) (by decide)) (fun _ _ => rfl), zC6_of d6 (fun p _ => g _ _ (by decide) (by decide)) (fun _ _ => rfl) (fun _ _ _ => rfl), zC7_of d7 (fun p _ => g _ _ (by decide) (by decide)) (fun _ _ _ => rfl), zC8_of d8 (fun p => g _ _ (by decide) (by decide)) (fun _ _ _ => rfl), zC9_of d9 (fun p => g _ _ (by decide) (by decide)) (fun _ _ => rfl), fMc_ab df hτ.1 (fun c j hc => g _ _ (by omega) (by omega)), zJk_of dj hτ.1⟩
  · unfold zCa at *
    rw [hτ.2.1 _ _ (by decide) (by decide), hτ.2.1 _ _ (by decide) (by decide), hτ.2.1 _ _ (by decide) (by decide)]
    exact da
/-- one is sent for -/
def sdK (M : zM) (K : Nat → Int) (p : Nat) : Nat → Int := kup (kup (kup K 32 (wr (K 32 + cosV M K p))) p (if takV M K p = 0 then 2 else 1)) (10 + p) (if takV M K p = 0 then -1 else K 33 + takV M K p)
theorem tak_r {σ : st_S} {K : Nat → Int} {n p : Nat} {M : zM} (h : cxC σ K n M) (hp : p < n) : 0 ≤ takV M K p ∧ takV M K p ≤ 60 := tlA_r (by decide) (by have := (h.2.1 p hp).2; omega) M.1
theorem cos_r {σ : st_S} {K : Nat → Int} {n p : Nat} {M : zM} (h : cxC σ K n M) (hp : p < n) : 0 ≤ cosV M K p ∧ cosV M K p ≤ 999 := tlA_r (by decide) (by have := (h.2.1 p hp).2; omega) M.1
theorem w_summon {B : Nat} {σ : st_S} {K L : Nat → Int} {m n : Nat} {M : zM} {a : Int} {Q : Int → st_S → Prop} (h : dC B σ K L (m : Int) n M) (h2 : ¬ (0 ≤ a ∧ a < (n : Int)) → Q (-2) σ) (h3 : ∀ p : Nat, a = (p : Int) → p < n → ¬ K p = 0 → Q (-3) σ)
    (h1 : ∀ p : Nat, a = (p : Int) → p < n → K p = 0 → ∀ τ, dF σ τ → dC B τ (sdK M K p) (kpF K L m 0) ((kpm m + 1 : Nat) : Int) n M → Q (cosV M K p) τ) : wp_X2_summon a σ Q := by
  have hx := h.1
  obtain ⟨c11, c12, c13⟩ := hx.1
  refine w_has c13 c11 (fun hp => ⟨fun _ => ?_, fun z => absurd z (by decide)⟩) (fun hp => ⟨fun z => absurd rfl z, fun _ => h2 hp⟩)
  obtain ⟨p, rfl⟩ : ∃ p : Nat, a = (p : Int) := ⟨a.toNat, by omega⟩
  have hpn : p < n := by omega
  have o5 := hx.2.2.2.2.1 p hpn
  refine ⟨ixn (by omega), fun z => ?_, fun z => h3 p rfl hpn (fun y => z (o5.1.trans y))⟩
  replace z : K p = 0 := o5.1.symm.trans z
  refine w_costs hx hpn (fun τ1 j1 => w_takes (cxC_of hx j1) hpn (fun τ2 j2 => ?_))
  have hd2 := dC_J (dC_J h j1) j2
  refine w_dkeep hd2 (by decide) (fun τ3 f3 hd3 => ?_)
  have tr := tak_r hx hpn
  intro x ex
  have e14 : gI τ3 25 14 = K 32 := by have := hd3.2.1; unfold zCa at this; exact this.2.2
  rw [e14] at ex
  intro s es
  subst es
  have hd4 := dC_32 hd3 (v := x) (by rw [ex]; exact wr_wr _)
  have f4 : dF σ (sI τ3 25 14 x) := dF_tr (dF_tr (dF_tr (dF_J j1) (dF_J j2)) f3) (dF_sI (by omega))
  have e33 : gI (sI τ3 25 14 x) 33 0 = K 33 := by
    have := hd4.1.2.2.2.2.2.2.2.2.1
    unfold zC9 at this
    rw [this.1.1, kup_n (by omega)]
  have h9 := hx.2.2.2.2.2.2.2.2.1
  unfold zC9 at h9
  have fin : ∀ v : Int, (v = 2 ∧ takV M K p = 0) ∨ (v = 1 ∧ ¬ takV M K p = 0) → B_X2_summon_89 Q (p : Int) (cosV M K p) (takV M K p) v (p : Int) (sI τ3 25 14 x) := by
    intro v hv
    unfold B_X2_summon_89
    rw [wr_n (by omega)]
    refine ⟨ixn (by omega), ?_⟩
    intro s1 e1 y ey
    rw [Int.toNat_natCast] at e1
    have e33' : gI s1 33 0 = K 33 := by rw [e1]; exact e33
    rw [e33', wr_id (by omega) (by omega)] at ey
    refine ⟨ixn (by omega), ?_⟩
    intro s2 e2
    rw [Int.toNat_natCast] at e2
    subst e1
    subst e2
    refine h1 p rfl hpn z _ (dF_tr f4 (dF_tr (dF_sI (by omega)) (dF_sI (by omega)))) ?_
    unfold sdK
    rcases hv with ⟨rfl, hv⟩ | ⟨rfl, hv⟩
    · rw [if_pos hv, if_pos hv, ← ex]
      have k1 := dC_pl hd4 hpn (v := 2) (by decide)
      have k2 := dC_30t k1 hpn (v := y) (by rw [kup_y]; decide)
      exact dC_ti k2 hpn (by rw [kup_y]; decide)
    · rw [if_neg hv, if_neg hv, ← ex, ← ey]
      exact dC_go hd4 hpn
  exact ⟨fun q => fin 1 (Or.inr ⟨rfl, q⟩), fun q => fin 2 (Or.inl ⟨rfl, q⟩)⟩
