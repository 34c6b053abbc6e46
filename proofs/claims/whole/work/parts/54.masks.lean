/-! the reference's asking; asks -/
theorem fMc_i {σ : st_S} {M : zM} {W : Nat → Int} (h : fMc σ M) (hW : ∀ i, i32 (W i)) (j : Nat) (v : Int) (hj : j < M.1) (h4 : M.2.1 j < 4) (hv : M.2.2.1 j W = some v) : i32 v := by
  rcases h with ⟨-, h2⟩ | ⟨i, c, -, -, -, -, -, h6⟩
  · omega
  · obtain ⟨t1, t2, len, t3, t4, t5, t6, t6b, t7⟩ := h6
    obtain ⟨q1, q2, q3, q4, q5, q6, q7, q8, q9, a, b, e, qa, qb, qe, qel, qs, -⟩ := t7 j hj
    have := ((qs h4).2 W (fun i => i32_iff.mpr (hW i)) [] (by decide)).1 v hv
    exact i32_iff.mp this.1
/-- the reference's scratch while the law is asked -/
def zN (σ τ : st_S) : Prop := τ.2 = σ.2 ∧ ∀ c j, ¬ (c = 0 ∧ (j = 8 ∨ j = 22 ∨ j = 23 ∨ j = 24)) → c ≠ 12 → gI τ c j = gI σ c j
theorem zN_rfl {σ : st_S} : zN σ σ := ⟨rfl, fun _ _ _ _ => rfl⟩
theorem zN_tr {σ τ υ : st_S} (h : zN σ τ) (g : zN τ υ) : zN σ υ := ⟨g.1.trans h.1, fun c j a b => (g.2 c j a b).trans (h.2 c j a b)⟩
theorem zN_T {σ τ : st_S} (h : zT σ τ) : zN σ τ := ⟨h.1, fun c j a _ => h.2 c j a⟩
theorem zN_12 {σ : st_S} {j : Nat} {v : Int} : zN σ (sI σ 12 j v) := ⟨rfl, fun c' j' _ b => by rw [gI_sI, if_neg (by omega)]⟩
theorem zN_K {σ τ : st_S} (h : zN σ τ) : gI τ 2 = gI σ 2 := funext fun j => h.2 2 j (by omega) (by decide)
theorem m_fogOn {σ : st_S} {d : Int} {Q : Int → st_S → Prop} (hd : 0 ≤ d) (hQ : Q (fgV (gI σ 2) d) σ) : wp_X11_fogOn d σ Q := by
  unfold fgV at hQ
  refine ⟨fun q => ?_, fun q => ?_⟩
  · rw [if_neg (by omega)] at hQ; exact hQ
  · obtain ⟨k, rfl⟩ : ∃ k : Nat, d = (k : Int) := ⟨d.toNat, by omega⟩
    rw [wk154 (by omega)]
    rw [if_pos (by omega), Int.toNat_natCast] at hQ
    exact ⟨ixn (by omega), hQ⟩
theorem m_sets {σ : st_S} {p n : Nat} {o : Int} {a2 a4 a5 : Int} {Q : st_S → Prop} (hp : p < n) (hn : n ≤ 10) (ho : o = -1 ∨ (0 ≤ o ∧ o < (n : Int))) (hQ : ∀ τ, zN σ τ → (∀ i, i < 10 → gI τ 12 i = evW (gI σ 2) p a2 o (if o = -1 then -1 else gI σ 2 (35 + 2 * o.toNat)) (if o = -1 then -1 else gI σ 2 (34 + 2 * o.toNat)) a4 a5 (wpm i)) → Q τ) : wp_X11_sets (p : Int) a2 o a4 a5 σ Q := by
  intro s0 e0
  refine m_roadOf (by omega) ?_
  intro s1 e1
  refine m_landOf (by omega) ?_
  intro s2 e2 s3 e3 s4 e4
  have v1 : gI s0 2 (34 + 2 * p) = gI σ 2 (34 + 2 * p) := by rw [e0]; rfl
  have v2 : gI s1 2 (35 + 2 * p) = gI σ 2 (35 + 2 * p) := by rw [e1, e0]; rfl
  rw [v1] at e1
  rw [v2] at e2
  have K4 : gI s4 2 = gI σ 2 := by rw [e4, e3, e2, e1, e0]; rfl
  have z4 : zN σ s4 := by rw [e4, e3, e2, e1, e0]; exact zN_tr (zN_tr (zN_tr (zN_tr zN_12 zN_12) zN_12) zN_12) zN_12
  have g4 : ∀ i, i < 5 → gI s4 12 i = evW (gI σ 2) p a2 o 0 0 0 0 i := by
    intro i hi
    match i, hi with
    | 0, _ => rw [e4, e3, e2, e1, e0]; rfl
    | 1, _ => rw [e4, e3, e2, e1]; rfl
    | 2, _ => rw [e4, e3, e2]; rfl
    | 3, _ => rw [e4, e3]; rfl
    | 4, _ => rw [e4]; rfl
  have w6 : wr 6 = 6 := by decide
  have w5 : wr 5 = 5 := by decide
  have h83 : ∀ (th fa : Int) υ, zN σ υ → (∀ i, i < 5 → gI υ 12 i = gI s4 12 i) → gI υ 12 5 = th → th = (if o = -1 then -1 else gI σ 2 (35 + 2 * o.toNat)) → fa = (if o = -1 then -1 else gI σ 2 (34 + 2 * o.toNat)) → B_X11_sets_83 Q a4 a5 fa 6 υ := by
    intro th fa υ hυ hi hth et ef
    unfold B_X11_sets_83
    rw [w6]
    refine ⟨⟨by decide, by decide⟩, ?_⟩
    intro s5 e5 s6 e6 s7 e7 s8 e8
    have v7 : gI s6 2 255 = gI σ 2 255 := by rw [e6, e5]; exact hυ.2 2 255 (by omega) (by decide)
    rw [v7] at e7
    refine hQ s8 ?_ ?_
    · rw [e8, e7, e6, e5]; exact zN_tr (zN_tr (zN_tr (zN_tr hυ zN_12) zN_12) zN_12) zN_12
    · intro i hi2
      match i, hi2 with
      | 0, _ => rw [e8, e7, e6, e5]; exact (hi 0 (by decide)).trans (g4 0 (by decide))
      | 1, _ => rw [e8, e7, e6, e5]; exact (hi 1 (by decide)).trans (g4 1 (by decide))
      | 2, _ => rw [e8, e7, e6, e5]; exact (hi 2 (by decide)).trans (g4 2 (by decide))
      | 3, _ => rw [e8, e7, e6, e5]; exact (hi 3 (by decide)).trans (g4 3 (by decide))
      | 4, _ => rw [e8, e7, e6, e5]; exact (hi 4 (by decide)).trans (g4 4 (by decide))
      | 5, _ => rw [e8, e7, e6, e5]; exact hth.trans et
      | 6, _ => rw [e8, e7, e6, e5]; exact ef
      | 7, _ => rw [e8, e7, e6]; rfl
      | 8, _ => rw [e8, e7]; rfl
      | 9, _ => rw [e8]; rfl
  have h62 : ∀ th : Int, th = (if o = -1 then -1 else gI σ 2 (35 + 2 * o.toNat)) → B_X11_sets_62 Q o a4 a5 th 5 s4 := by
    intro th et
    unfold B_X11_sets_62
    rw [w5]
    refine ⟨⟨by decide, by decide⟩, ?_⟩
    intro s5 e5
    have z5 : zN σ s5 := by rw [e5]; exact zN_tr z4 zN_12
    have i5 : ∀ i, i < 5 → gI s5 12 i = gI s4 12 i := fun i hi => by
      rw [e5, gI_sI, if_neg (fun z => by have : i = 5 := z.2; omega)]
    have t5 : gI s5 12 5 = th := by rw [e5]; rfl
    refine ⟨fun z => ?_, fun z => h83 th (-1) s5 z5 i5 t5 et (by rw [if_pos z])⟩
    obtain ⟨q, rfl⟩ : ∃ q : Nat, o = (q : Int) := ⟨o.toNat, by omega⟩
    refine m_roadOf (by omega) (h83 th _ s5 z5 i5 t5 et ?_)
    rw [if_neg z, Int.toNat_natCast, zN_K z5]
  refine ⟨fun z => ?_, fun z => h62 (-1) (by rw [if_pos z])⟩
  obtain ⟨q, rfl⟩ : ∃ q : Nat, o = (q : Int) := ⟨o.toNat, by omega⟩
  refine m_landOf (by omega) (h62 _ ?_)
  rw [if_neg z, Int.toNat_natCast, K4]
/-- what the reference needs to ask -/
def cxM (σ : st_S) (n : Nat) (M : zM) : Prop := (∃ σc, cxC σc (gI σ 2) n M) ∧ fMm (gI σ 2) M
theorem cxM_of {σ τ : st_S} {n : Nat} {M : zM} (h : cxM σ n M) (g : gI τ 2 = gI σ 2) : cxM τ n M := by
  unfold cxM at *
  rw [g]
  exact h
theorem evW_c {K : Nat → Int} {p : Nat} {a b c d e f : Int} {i : Nat} : evW K p a b c d e f i = evW K p a b c d e f i := rfl
theorem m_setsNow {σ : st_S} {p n : Nat} {M : zM} {Q : st_S → Prop} (h : cxM σ n M) (hp : p < n) (hQ : ∀ τ, zN σ τ → (∀ i, i < 10 → gI τ 12 i = evN (gI σ 2) p (wpm i)) → Q τ) : wp_X11_setsNow (p : Int) σ Q := by
  obtain ⟨⟨σc, hx⟩, hf⟩ := h
  have hn := hx.1.2.2
  have h9 := hx.2.2.2.2.2.2.2.2.1
  unfold zC9 at h9
  unfold wp_X11_setsNow
  rw [wk20 (by omega)]
  refine ⟨ixn (by omega), m_fogOn h9.1.2.1 ?_⟩
  rw [Int.toNat_natCast]
  exact m_sets hp hn (Or.inl rfl) (fun τ hτ hw => hQ τ hτ hw)
theorem m_takesNow {σ : st_S} {p n : Nat} {M : zM} {Q : Int → st_S → Prop} (h : cxM σ n M) (hp : p < n) (hQ : ∀ τ, zN σ τ → Q (takV M (gI σ 2) p) τ) : wp_X11_takesNow (p : Int) σ Q := by
  have h' := h
  obtain ⟨⟨σc, hx⟩, hf⟩ := h
  have hn := hx.1.2.2
  have o2 := (hx.2.1 p hp).2
  refine m_setsNow h' hp (fun τ hτ hw => m_roadOf (by omega) ?_)
  rw [zN_K hτ]
  exact m_tells (verb := 0) (by decide) (by decide) (by unfold i32; omega) (by rw [zN_K hτ]; exact hf) hw (evN_i hx hp) (fMc_i hx.2.2.2.2.2.2.2.2.2.1 (evN_i hx hp)) (fun z => absurd z (by decide)) (fun υ hυ => hQ υ (zN_tr hτ (zN_T hυ))) rfl
theorem m_costsNow {σ : st_S} {p n : Nat} {M : zM} {Q : Int → st_S → Prop} (h : cxM σ n M) (hp : p < n) (hQ : ∀ τ, zN σ τ → Q (cosV M (gI σ 2) p) τ) : wp_X11_costsNow (p : Int) σ Q := by
  have h' := h
  obtain ⟨⟨σc, hx⟩, hf⟩ := h
  have hn := hx.1.2.2
  have o2 := (hx.2.1 p hp).2
  refine m_setsNow h' hp (fun τ hτ hw => m_roadOf (by omega) ?_)
  rw [zN_K hτ]
  exact m_tells (verb := 1) (by decide) (by decide) (by unfold i32; omega) (by rw [zN_K hτ]; exact hf) hw (evN_i hx hp) (fMc_i hx.2.2.2.2.2.2.2.2.2.1 (evN_i hx hp)) (fun z => absurd z (by decide)) (fun υ hυ => hQ υ (zN_tr hτ (zN_T hυ))) rfl
theorem m_lodgesNow {σ : st_S} {p n : Nat} {M : zM} {Q : Int → st_S → Prop} (h : cxM σ n M) (hp : p < n) (hQ : ∀ τ, zN σ τ → Q (lodV M (gI σ 2) p) τ) : wp_X11_lodgesNow (p : Int) σ Q := by
  have h' := h
  obtain ⟨⟨σc, hx⟩, hf⟩ := h
  refine m_setsNow h' hp (fun τ hτ hw => ?_)
  exact m_tells (verb := 2) (by decide) (by decide) (by unfold i32; omega) (by rw [zN_K hτ]; exact hf) hw (evN_i hx hp) (fMc_i hx.2.2.2.2.2.2.2.2.2.1 (evN_i hx hp)) (fun z => absurd z (by decide)) (fun υ hυ => hQ υ (zN_tr hτ (zN_T hυ))) rfl
theorem m_isBarred {σ : st_S} {p n : Nat} {M : zM} {a b c : Int} {Q : Int → st_S → Prop} (h : cxM σ n M) (hp : p < n) (ia : i32 a) (ib : i32 b) (ic : i32 c) (hQ : ∀ τ, zN σ τ → Q (barV M (gI σ 2) p a b c) τ) : wp_X11_isBarred (p : Int) a b c σ Q := by
  obtain ⟨⟨σc, hx⟩, hf⟩ := h
  have hn := hx.1.2.2
  refine m_sets hp hn (Or.inl rfl) (fun τ hτ hw => ?_)
  have ei := evW_i hx hp ia i32_m1 i32_m1 i32_m1 ib ic
  refine m_tells (verb := 4) (W := evW (gI σ 2) p a (-1) (-1) (-1) b c) (by decide) (by decide) (by unfold i32; omega) (by rw [zN_K hτ]; exact hf) hw ei (fMc_i hx.2.2.2.2.2.2.2.2.2.1 ei) (fun _ => rfl) (fun υ hυ => ?_) rfl
  have k := hQ υ (zN_tr hτ (zN_T hυ))
  have r := bar_r M (gI σ 2) p a b c
  change (¬ barV M (gI σ 2) p a b c = 1 → _) ∧ (barV M (gI σ 2) p a b c = 1 → _)
  rcases r with r | r
  · rw [r] at k ⊢; exact ⟨fun _ => ⟨Or.inl rfl, k⟩, fun z => absurd z (by decide)⟩
  · rw [r] at k ⊢; exact ⟨fun z => absurd rfl z, fun _ => ⟨Or.inr rfl, k⟩⟩
theorem m_spoilsBy {σ : st_S} {p q n : Nat} {M : zM} {Q : Int → st_S → Prop} (h : cxM σ n M) (hp : p < n) (hq : q < n) (hQ : ∀ τ, zN σ τ → Q (spoV M (gI σ 2) p q) τ) : wp_X11_spoilsBy (p : Int) (q : Int) σ Q := by
  obtain ⟨⟨σc, hx⟩, hf⟩ := h
  have hn := hx.1.2.2
  have o2 := (hx.2.1 q hq).2
  have o3 := (hx.2.2.1 q hq).2
  have ei := evW_i hx hp i32_m1 (show i32 (q : Int) by unfold i32; omega) (show i32 (gI σ 2 (35 + 2 * q)) by unfold i32; omega) (show i32 (gI σ 2 (34 + 2 * q)) by unfold i32; omega) i32_m1 i32_m1
  refine m_sets hp hn (Or.inr ⟨by omega, by omega⟩) (fun τ hτ hw => ?_)
  rw [if_neg (by omega), if_neg (by omega), Int.toNat_natCast] at hw
  exact m_tells (verb := 3) (by decide) (by decide) (by unfold i32; omega) (by rw [zN_K hτ]; exact hf) hw ei (fMc_i hx.2.2.2.2.2.2.2.2.2.1 ei) (fun z => absurd z (by decide)) (fun υ hυ => hQ υ (zN_tr hτ (zN_T hυ))) rfl
/-- the law in force of both -/
theorem zCR_M {B : Nat} {σc σm : st_S} (h : zCR B σc 25 (gI σm 2)) (hk : zK1 σc) : ∃ n M, cxC σc (gI σm 2) n M ∧ cxM σm n M := by
  obtain ⟨n, c1, c2, c3, c4, c5, c6, c7, c8, c9, ca, m, b1, b2, b3, b4, b5, b6, b7, b8⟩ := h
  have hj : zJk σc := ⟨(zK1_at hk 36 16 0 rfl).1, (zK1_at hk 38 0 64 rfl).1, (zK1_at hk 38 0 64 rfl).2⟩
  have main : ∃ M, fMc σc M ∧ fMm (gI σm 2) M := by
    by_cases e : gI σm 2 258 = -1
    · exact ⟨(0, fun _ => 0, fun _ _ => none, fun _ => none, fun _ => 0), Or.inl ⟨b4.trans e, rfl⟩, Or.inl ⟨e, rfl⟩⟩
    · obtain ⟨i, ei⟩ : ∃ i : Nat, gI σm 2 258 = (i : Int) := ⟨(gI σm 2 258).toNat, by omega⟩
      obtain ⟨c, M, q1, q2, q3⟩ := b8 i (by omega)
      have q4 := b7 i c q1
      exact ⟨M, Or.inr ⟨i, c, b4.trans ei, by omega, q1, q4.1, q4.2, q2⟩, Or.inr ⟨i, ei, by omega, q3⟩⟩
  obtain ⟨M, hM1, hM2⟩ := main
  have hx : cxC σc (gI σm 2) n M := ⟨c1, c2, c3, c4, c5, c6, c7, c8, c9, hM1, hj⟩
  exact ⟨n, M, hx, ⟨σc, hx⟩, hM2⟩
theorem zJ_agQ {σ τ : st_S} (h : zJ σ τ) (hr : zRr σ) : agQ σ τ := by
  have eR : ∀ c j, gR τ c j = gR σ c j := fun c j => by unfold gR; rw [h.1]
  refine ⟨⟨by rw [h.1], fun c j _ => eR c j, fun c j q => h.2 c j (by unfold lsC at q; omega) (by unfold lsC at q; omega) (by unfold lsC at q; omega)⟩, h.2 _ _ (by decide) (by decide) (by decide), fun k => h.2 _ _ (by decide) (by decide) (by decide), ?_⟩
  unfold zRr
  rw [eR, eR]
  exact hr
theorem zN_agN {σ τ : st_S} (h : zN σ τ) : agN σ τ := ⟨⟨h.1, fun c j q => h.2 c j (by unfold lsM at q; omega) (by unfold lsM at q; omega)⟩, h.2 _ _ (by omega) (by decide), fun k => h.2 _ _ (by omega) (by decide)⟩
set_option maxHeartbeats 400000 in
theorem st_asks {B : Nat} {σc σm : st_S} (h : zInv B σc σm) (hk : zK1 σc) (a1 a2 a3 : Int) : wp_X10_asks a1 a2 a3 σc (fun r τ => wp_X11_asks a1 a2 a3 σm (fun r2 υ => r = r2 ∧ zInv B τ υ)) := by
  obtain ⟨n, M, hx, hm⟩ := zCR_M h.1.1 hk
  obtain ⟨c11, c12, c13⟩ := hx.1
  have h9 := hx.2.2.2.2.2.2.2.2.1
  unfold zC9 at h9
  have inv : ∀ τ υ, zJ σc τ → zN σm υ → zInv B τ υ := fun τ υ h1 h2 => zInv_q h (zJ_agQ h1 h.2.2) (zN_agN h2)
  refine w_has c13 c11 (fun hp => ⟨fun _ => ?_, fun z => absurd z (by decide)⟩) (fun hp => ⟨fun z => absurd rfl z, fun _ => m_isPerson c13 c12 (fun q => absurd q hp) (fun _ => ⟨fun z => absurd rfl z, fun _ => ⟨rfl, h⟩⟩)⟩)
  obtain ⟨p, rfl⟩ : ∃ p : Nat, a1 = (p : Int) := ⟨a1.toNat, by omega⟩
  have hpn : p < n := by omega
  have o4 := (hx.2.2.2.1 p hpn).2
  have of := fgV_r hx.2.2.2.2.2.2.2.1 (gI σm 2 33)
  have br := bar_r M (gI σm 2) p (gI σm 2 (20 + p)) (gI σm 2 33) (fgV (gI σm 2) (gI σm 2 33))
  have key : ∀ (r : Int) τ, zJ σc τ → (a3 = 0 → r = takV M (gI σm 2) p) → (a3 = 1 → r = cosV M (gI σm 2) p) → (a3 = 2 → r = lodV M (gI σm 2) p) → (a3 = 3 → r = barV M (gI σm 2) p (gI σm 2 (20 + p)) (gI σm 2 33) (fgV (gI σm 2) (gI σm 2 33))) → (a3 = 4 → (∀ q : Nat, a2 = (q : Int) → q < n → q ≠ p → r = spoV M (gI σm 2) p q) ∧ (¬ ((0 ≤ a2 ∧ a2 < (n : Int)) ∧ ¬ a2 = (p : Int)) → r = -1)) → (a3 < 0 ∨ 4 < a3 → r = -1) → wp_X11_asks (p : Int) a2 a3 σm (fun r2 υ => r = r2 ∧ zInv B τ υ) := by
    intro r τ hτ k0 k1 k2 k3 k4 k5
    refine m_isPerson c13 c12 (fun _ => ⟨fun _ => ?_, fun z => absurd z (by decide)⟩) (fun q => absurd hp q)
    refine ⟨fun e => m_takesNow hm hpn (fun υ hυ => ⟨k0 e, inv τ υ hτ hυ⟩), fun e => m_costsNow hm hpn (fun υ hυ => ⟨k1 e, inv τ υ hτ hυ⟩), fun e => m_lodgesNow hm hpn (fun υ hυ => ⟨k2 e, inv τ υ hτ hυ⟩), fun e => ?_, fun e => ?_, fun e => ⟨k5 e, inv τ σm hτ zN_rfl⟩⟩
    · rw [wk20 (by omega)]
      refine ⟨ixn (by omega), m_fogOn h9.1.2.1 ?_⟩
      rw [Int.toNat_natCast]
      refine m_isBarred hm hpn (by unfold i32; omega) (by unfold i32; omega) (by unfold i32; omega) (fun υ hυ => ?_)
      have k := k3 e
      rcases br with b | b
      · rw [b] at k ⊢; exact ⟨fun _ => ⟨k, inv τ υ hτ hυ⟩, fun z => absurd rfl z⟩
      · rw [b] at k ⊢; exact ⟨fun z => absurd z (by decide), fun _ => ⟨k, inv τ υ hτ hυ⟩⟩
    · obtain ⟨k6, k7⟩ := k4 e
      refine m_isPerson c13 c12 (fun q => ⟨fun z => absurd z (by decide), fun _ => ⟨fun z => ⟨k7 (fun y => y.2 z), inv τ σm hτ zN_rfl⟩, fun z => ?_⟩⟩) (fun q => ⟨fun _ => ⟨k7 (fun y => q y.1), inv τ σm hτ zN_rfl⟩, fun z => absurd rfl z⟩)
      obtain ⟨b, rfl⟩ : ∃ b : Nat, a2 = (b : Int) := ⟨a2.toNat, by omega⟩
      exact m_spoilsBy hm hpn (by omega) (fun υ hυ => ⟨k6 b rfl (by omega) (by omega), inv τ υ hτ hυ⟩)
  refine ⟨fun e => w_takes hx hpn (fun τ hτ => key _ τ hτ (fun _ => rfl) (by omega) (by omega) (by omega) (fun z => absurd z (by omega)) (by omega)), fun e => w_costs hx hpn (fun τ hτ => key _ τ hτ (by omega) (fun _ => rfl) (by omega) (by omega) (fun z => absurd z (by omega)) (by omega)), fun e => w_lodges hx hpn (fun τ hτ => key _ τ hτ (by omega) (by omega) (fun _ => rfl) (by omega) (fun z => absurd z (by omega)) (by omega)), fun e => w_barsNow hx hpn (fun τ hτ => ?_), fun e => ?_, fun e => key _ σc zJ_rfl (by omega) (by omega) (by omega) (by omega) (fun z => absurd z (by omega)) (fun _ => rfl)⟩
  · have k := fun r hr => key r τ hτ (by omega) (by omega) (by omega) hr (fun z => absurd z (by omega)) (by omega)
    rcases br with b | b
    · rw [b] at k ⊢; exact ⟨fun _ => k 0 (fun _ => rfl), fun z => absurd rfl z⟩
    · rw [b] at k ⊢; exact ⟨fun z => absurd z (by decide), fun _ => k 1 (fun _ => rfl)⟩
  · refine w_has c13 c11 (fun q => ⟨fun z => absurd z (by decide), fun _ => ⟨fun z => ?_, fun z => ?_⟩⟩) (fun q => ⟨fun _ => ?_, fun z => absurd rfl z⟩)
    · exact key _ σc zJ_rfl (by omega) (by omega) (by omega) (by omega) (fun _ => ⟨fun b e1 e2 e3 => absurd z (by omega), fun _ => rfl⟩) (by omega)
    · obtain ⟨b, rfl⟩ : ∃ b : Nat, a2 = (b : Int) := ⟨a2.toNat, by omega⟩
      refine w_spoils hx hpn (by omega) (fun τ hτ => key _ τ hτ (by omega) (by omega) (by omega) (by omega) (fun _ => ⟨fun b' e1 e2 e3 => by rw [show b' = b by omega], fun y => absurd ⟨q, z⟩ y⟩) (by omega))
    · exact key _ σc zJ_rfl (by omega) (by omega) (by omega) (by omega) (fun _ => ⟨fun b e1 e2 e3 => absurd (by omega) q, fun _ => rfl⟩) (by omega)
