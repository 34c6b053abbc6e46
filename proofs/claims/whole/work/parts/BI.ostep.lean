/-! orders: a clause done once, by both -/
def zOc (σ τ : st_S) : Prop := τ.2 = σ.2 ∧ ∀ c j, ¬ (28 ≤ c ∧ c ≤ 30) → ¬ (c = 33 ∧ j = 0) → ¬ (36 ≤ c ∧ c ≤ 40) → ¬ (c = 25 ∧ 12 ≤ j ∧ j ≤ 14) → ¬ (53 ≤ c ∧ c ≤ 55) → gI τ c j = gI σ c j
theorem zOc_rfl {σ : st_S} : zOc σ σ := ⟨rfl, fun _ _ _ _ _ _ _ => rfl⟩
theorem zOc_tr {σ τ υ : st_S} (h : zOc σ τ) (g : zOc τ υ) : zOc σ υ := ⟨g.1.trans h.1, fun c j a b d e f => (g.2 c j a b d e f).trans (h.2 c j a b d e f)⟩
theorem zOc_F {σ τ : st_S} (h : dF σ τ) : zOc σ τ := ⟨h.1, fun c j a b d e _ => h.2 c j a b d e⟩
theorem zOc_W {σ τ : st_S} (h : zWs σ τ) : zOc σ τ := ⟨h.1, fun c j _ _ _ _ f => h.2 c j (by omega)⟩
theorem zOc_A {σ τ : st_S} (h : zAb 53 σ τ) : zOc σ τ := ⟨h.1, fun c j _ _ _ _ f => h.2 c j (by omega) (by omega)⟩
def zOm (σ τ : st_S) : Prop := τ.2 = σ.2 ∧ ∀ c j, ¬ (c = 0 ∧ (j = 8 ∨ (22 ≤ j ∧ j ≤ 24) ∨ j = 28 ∨ j = 42 ∨ (44 ≤ j ∧ j ≤ 48))) → c ≠ 12 → c ≠ 13 → ¬ (c = 2 ∧ j < 34) → gI τ c j = gI σ c j
theorem zOm_rfl {σ : st_S} : zOm σ σ := ⟨rfl, fun _ _ _ _ _ _ => rfl⟩
theorem zOm_tr {σ τ υ : st_S} (h : zOm σ τ) (g : zOm τ υ) : zOm σ υ := ⟨g.1.trans h.1, fun c j a b d e => (g.2 c j a b d e).trans (h.2 c j a b d e)⟩
theorem zOm_G {σ τ : st_S} (h : zGa σ τ) : zOm σ τ := ⟨h.1, fun c j a b _ _ => h.2 c j (by omega) b⟩
theorem zOm_D {σ τ : st_S} (h : dM σ τ) : zOm σ τ := ⟨h.1, fun c j a b d e => h.2 c j (by omega) b d e⟩
/-- cells of the draft and of the abacus -/
def zDr (σ : st_S) (len : Nat) : Prop := (gK σ 53 = 16 ∧ gK σ 14 = 25 ∧ gK σ 55 = 0 ∧ gL σ 55 = 64) ∧ gI σ 14 6 = (len : Int) ∧ len ≤ gL σ 15 ∧ len ≤ 400 ∧ ∀ i, i < len → cO σ 15 i ≤ 12
theorem zDr_of {σ τ : st_S} {len : Nat} (h : zDr σ len) (g : zOc σ τ) : zDr τ len := by
  obtain ⟨⟨a1, a2, a3, a4⟩, b1, b2, b3, b4⟩ := h
  have eK : ∀ c, gK τ c = gK σ c := fun c => by unfold gK; rw [g.1]
  have eL : ∀ c, gL τ c = gL σ c := fun c => by unfold gL; rw [g.1]
  refine ⟨⟨by rw [eK]; exact a1, by rw [eK]; exact a2, by rw [eK]; exact a3, by rw [eL]; exact a4⟩, by rw [g.2 _ _ (by omega) (by omega) (by omega) (by omega) (by omega)]; exact b1, by rw [eL]; exact b2, b3, fun i hi => ?_⟩
  have e : gI τ 15 i = gI σ 15 i := g.2 _ _ (by omega) (by omega) (by omega) (by omega) (by omega)
  rw [(cO_at e).1]
  exact b4 i hi
/-- clause i of the draft -/
def zCi (σ : st_S) (i len : Nat) (c : zCl) (b : Nat) : Prop := i < 12 ∧ gI σ 16 i = c.1 ∧ gI σ 20 i = c.2.2.2 ∧ gI σ 18 i = (b : Int) ∧ ∃ a e : Nat, gI σ 17 i = (a : Int) ∧ gI σ 19 i = (e : Int) ∧ e ≤ len ∧ b ≤ e ∧ (c.1 < 2 → xDen (cO σ 15) (cD σ 15) a b 50 c.2.1) ∧ (¬ c.1 < 2 → a = b) ∧ (c.2.2.1 = none → b = e) ∧ ∀ D, c.2.2.1 = some D → b < e ∧ xDen (cO σ 15) (cD σ 15) b e 50 D
theorem zCi_of {σ τ : st_S} {i len b : Nat} {c : zCl} (h : zCi σ i len c b) (g : zOc σ τ) : zCi τ i len c b := by
  obtain ⟨h1, h2, h3, h4, a, e, b1, b2, b3, b4, b5, b6, b7, b8⟩ := h
  have f : ∀ d j, 14 ≤ d → d ≤ 20 → gI τ d j = gI σ d j := fun d j x y => g.2 d j (by omega) (by omega) (by omega) (by omega) (by omega)
  exact ⟨h1, by rw [f _ _ (by decide) (by decide)]; exact h2, by rw [f _ _ (by decide) (by decide)]; exact h3, by rw [f _ _ (by decide) (by decide)]; exact h4, a, e, by rw [f _ _ (by decide) (by decide)]; exact b1, by rw [f _ _ (by decide) (by decide)]; exact b2, b3, b4, fun w => xDen_cg (fun i _ _ => cO_at (f 15 i (by decide) (by decide))) (b5 w), b6, b7, fun D hD => ⟨(b8 D hD).1, xDen_cg (fun i _ _ => cO_at (f 15 i (by decide) (by decide))) (b8 D hD).2⟩⟩
/-- clause at token s of the laid text -/
def zTi (cf vf : Nat → Int) (T s e3 : Nat) (c : zCl) : Prop := s < T ∧ cf s = c.1 + 26 ∧ ∃ e1 e2 : Nat, (e1 ≤ T ∧ e2 ≤ T ∧ e3 ≤ T) ∧ (c.1 < 2 → tDen (wp_X11_sumOf 60) true cf vf T (s + 1) e1 c.2.1) ∧ (¬ c.1 < 2 → e1 = s + 1) ∧
      ((tcf cf T e1 = 29 ∧ true = true ∧ e1 + 1 < T ∧ vf (e1 + 1) = c.2.2.2 ∧ e2 = e1 + 2) ∨ (¬ tcf cf T e1 = 29 ∧ e2 = e1 ∧ c.2.2.2 = 1)) ∧
      (c.2.2.1 = none → ¬ tcf cf T e2 = 6 ∧ e3 = e2) ∧ ∀ D, c.2.2.1 = some D → tcf cf T e2 = 6 ∧ tDen (wp_X11_testOf 60) true cf vf T (e2 + 1) e3 D ∧ ∀ W v, D W = some v → v = 0 ∨ v = 1
/-- the abstract state of a run -/
def aOk (q : zAs) (n B : Nat) (M : zM) (K0 : Nat → Int) : Prop := kOk q.1 n M ∧ zcn (q.1 30) ∧ q.1 31 ≤ (B : Int) ∧ q.2.2 ≤ 16 ∧ ∀ i, 34 ≤ i → q.1 i = K0 i
/-- the class's store, and the reference's -/
def sC' (σ : st_S) (q : zAs) (n B : Nat) (M : zM) : Prop := dC B σ q.1 q.2.1 (q.2.2 : Int) n M
def sM' (σ : st_S) (q : zAs) (dn : Nat) : Prop := gI σ 2 = q.1 ∧ gI σ 13 = q.2.1 ∧ gI σ 0 28 = (q.2.2 : Int) ∧ gI σ 0 42 = (dn : Int)
def b2 (b : Bool) : Nat := if b = true then 1 else 0
theorem dC_W {B : Nat} {σ τ : st_S} {K L : Nat → Int} {m : Int} {n : Nat} {M : zM} (h : dC B σ K L m n M) (g : τ.2 = σ.2) (hI : ∀ c j, ¬ (53 ≤ c ∧ c ≤ 55) → gI τ c j = gI σ c j) : dC B τ K L m n M := by
  obtain ⟨⟨g1, g2, g3, g4, g5, g6, g7, g8, g9, gf, gj⟩, ha, hl, hz⟩ := h
  have zI : ∀ c j, ¬ (53 ≤ c ∧ c ≤ 55) → gI τ c j = gI σ c j := hI
  refine ⟨⟨zC1_of g1 (zI _ _ (by omega)) rfl, zC2_of g2 (fun p _ => zI _ _ (by omega)) (fun _ _ _ => rfl), zC3_of g3 (fun p _ => zI _ _ (by omega)) (fun _ _ _ => rfl), zC4_of g4 (fun p _ => zI _ _ (by omega)) (fun _ _ _ => rfl), zC5_of g5 (fun p _ => zI _ _ (by omega)) (fun _ _ => rfl), zC6_of g6 (fun p _ => zI _ _ (by omega)) (fun _ _ => rfl) (fun _ _ _ => rfl), zC7_of g7 (fun p _ => zI _ _ (by omega)) (fun _ _ _ => rfl), zC8_of g8 (fun p => zI _ _ (by omega)) (fun _ _ _ => rfl), zC9_of g9 (fun p => zI _ _ (by omega)) (fun _ _ => rfl), fMc_R gf (by rw [g]) (fun c j _ => by unfold gR; rw [g]) (fun c j hc => zI _ _ (by omega)), ?_⟩, ?_, zLg_of hl (fun c j hc => zI _ _ (by omega)), hz⟩
  · unfold zJk gK gL at *
    rw [g]
    exact gj
  · unfold zCa at ha ⊢
    rw [zI _ _ (by omega), zI _ _ (by omega), zI _ _ (by omega)]
    exact ha
set_option maxHeartbeats 1000000 in
theorem o_step {q : zAs} {n dn B T s e3 len : Nat} {M : zM} {c : zCl} {cf vf K0 : Nat → Int} (hA : aOk q n B M K0) (hB : B < 2000000000) (hd : dn < 50000) (hv : 0 ≤ c.1 ∧ c.1 < 3) (hT4 : T ≤ 400) (hcell : ∀ i, i < T → K0 (2666 + i) = cf i ∧ K0 (5466 + i) = vf i) (hti : zTi cf vf T s e3 c)
    (hWr : c.1 < 2 → ∀ x, c.2.1 (oW q.1 n dn) = some x → wr x = x) :
    ∃ o : Option (Bool × zAs), (∀ w, o = some w → aOk w.2 n (B + b2 w.1) M K0) ∧
    (∀ (σ : st_S) (Q : Int → st_S → Prop) (k9 : Int → Int → st_S → Prop) (i b time f : Nat), sC' σ q n B M → zDr σ len → zCi σ i len c b → (time : Int) < c.2.2.2 → time < 1000 → (o = none → ∀ τ, zOc σ τ → Q (dn : Int) (sI τ 52 0 (i : Int))) → (∀ w, o = some w → ∀ τ, zOc σ τ → sC' τ w.2 n (B + b2 w.1) M → L_X7_run_28 Q k9 f ((dn + b2 w.1 : Nat) : Int) (i : Int) (b : Int) ((time + 1 : Nat) : Int) τ) → L_X7_run_28 Q k9 (f + 1) (dn : Int) (i : Int) (b : Int) (time : Int) σ) ∧
    (∀ (σ : st_S) (Q : Int → st_S → Prop) (l3 : Int) (time f : Nat), sM' σ q dn → gI σ 0 43 = ((2400 + s : Nat) : Int) → (time : Int) < c.2.2.2 → time < 1000 → (o = none → ∀ υ, zOm σ υ → Q 0 υ) → (∀ w, o = some w → ∀ υ, zOm σ υ → sM' υ w.2 (dn + b2 w.1) → L_X11_runs_19 Q f ((2400 + T : Nat) : Int) c.2.2.2 l3 ((time + 1 : Nat) : Int) υ) → L_X11_runs_19 Q (f + 1) ((2400 + T : Nat) : Int) c.2.2.2 l3 (time : Int) σ) := by
  obtain ⟨hK, h30, h31, hm, h34⟩ := hA
  have hW := oW_c (dn := dn) hK h30 h31 hB (by omega)
  have hW2 : ∀ i, i32 (oW q.1 n dn i) := fun i => wr_i32 (hW i)
  generalize eW : oW q.1 n dn = W at hW hW2 hWr
  obtain ⟨ts1, ts2, e1, e2, te1, te2, te3, te4, te5, te6⟩ := hti
  -- the value of the sum
  have ex : ∃ ox : Option Int, (c.1 < 2 → c.2.1 W = ox) ∧ (¬ c.1 < 2 → ox = some 0) ∧ ∀ x, ox = some x → wr x = x := by
    by_cases c2 : c.1 < 2
    · exact ⟨c.2.1 W, fun _ => rfl, fun w => absurd c2 w, fun x hx => hWr c2 x hx⟩
    · exact ⟨some 0, fun w => absurd w c2, fun _ => rfl, fun x hx => by cases Option.some.inj hx; decide⟩
  obtain ⟨ox, ox1, ox2, ox3⟩ := ex
  -- the class, up to the test
  have clsTest : ∀ (σ : st_S) (Q : Int → st_S → Prop) (k9 : Int → Int → st_S → Prop) (i b time f : Nat), sC' σ q n B M → zDr σ len → zCi σ i len c b → (time : Int) < c.2.2.2 → ((c.2.2.1 = none ∨ ∃ D, c.2.2.1 = some D ∧ D W = some 1) → ∀ τ, zOc σ τ → sC' τ q n B M → zDr τ len → zCi τ i len c b → (∀ j, j < 25 → gI τ 54 j = W j) → B_X7_run_88 Q k9 (L_X7_run_28 Q k9 f) (dn : Int) (i : Int) (b : Int) (time : Int) τ) → (¬ (c.2.2.1 = none ∨ ∃ D, c.2.2.1 = some D ∧ D W = some 1) → ∀ τ, zOc σ τ → sC' τ q n B M → B_X7_run_193 Q k9 (L_X7_run_28 Q k9 f) (dn : Int) (i : Int) (b : Int) (time : Int) τ) → L_X7_run_28 Q k9 (f + 1) (dn : Int) (i : Int) (b : Int) (time : Int) σ := by
    intro σ Q k9 i b time f hs hD hC ht hy hn
    refine ⟨ixn hC.1, fun w => absurd w (by rw [Int.toNat_natCast, hC.2.2.1]; omega), fun _ => w_setWords (dn := dn) hs (fun τ z hw => ⟨ixn hC.1, ?_⟩)⟩
    rw [eW] at hw
    have zc := zOc_W z
    have D1 := zDr_of hD zc
    have C1 := zCi_of hC zc
    have S1 : sC' τ q n B M := dC_W hs z.1 (fun c j hcj => z.2 c j (by omega))
    obtain ⟨c1, c2, c3, c4, a, e, x1, x2, x3, x4, x5, x6, x7, x8⟩ := C1
    have C1' : zCi τ i len c b := ⟨c1, c2, c3, c4, a, e, x1, x2, x3, x4, x5, x6, x7, x8⟩
    rw [Int.toNat_natCast, x2]
    refine ⟨fun w => ?_, fun w => ⟨ixn c1, ?_⟩⟩
    · refine hy ?_ τ zc S1 D1 C1' hw
      cases et : c.2.2.1 with
      | none => exact Or.inl rfl
      | some D => have := (x8 D et).1; omega
    · cases et : c.2.2.1 with
      | none => have := x7 et; exact absurd (by omega) w
      | some D =>
        have xd := (x8 D et).2
        have zac : zAc τ 53 14 len W := ⟨D1.1.1, D1.1.2.1, D1.1.2.2.1, D1.1.2.2.2, D1.2.1, D1.2.2.1, D1.2.2.2.1, D1.2.2.2.2, fun j hj _ h25 => hw _ (by omega), hW2, by decide, by decide, by decide, by decide⟩
        refine w_solve (m := 50) zac x3 (by decide) xd (fun x υ hx zu ux => ?_) (fun hx υ zu => ?_)
        · have zu2 := zOc_tr zc (zOc_A zu)
          have Su : sC' υ q n B M := dC_W S1 zu.1 (fun c j hcj => zu.2 c j (by omega) (by omega))
          refine ⟨fun w => absurd w (by decide), fun _ => ⟨fun u1 => ?_, fun u1 => ?_⟩⟩
          · refine hy (Or.inr ⟨D, et, ?_⟩) υ zu2 Su (zDr_of hD zu2) (zCi_of hC zu2) (fun j hj => by rw [zu.2 _ _ (by decide) (by omega)]; exact hw j hj)
            rw [hx, ← ux, u1]
          · refine hn ?_ υ zu2 Su
            rintro (w | ⟨D', w1, w2⟩)
            · rw [et] at w; exact absurd w (by simp)
            · cases Option.some.inj (et.symm.trans w1)
              rw [hx] at w2
              exact u1 (ux.trans (Option.some.inj w2))
        · refine ⟨fun _ => hn ?_ υ (zOc_tr zc (zOc_A zu)) (dC_W S1 zu.1 (fun c j hcj => zu.2 c j (by omega) (by omega))), fun w => absurd rfl w⟩
          rintro (w | ⟨D', w1, w2⟩)
          · rw [et] at w; exact absurd w (by simp)
          · cases Option.some.inj (et.symm.trans w1)
            rw [hx] at w2; exact absurd w2 (by simp)
  -- the reference, up to the test
  have refTest : ∀ (σ : st_S) (Q : Int → st_S → Prop) (l3 : Int) (time f : Nat), sM' σ q dn → gI σ 0 43 = ((2400 + s : Nat) : Int) → (time : Int) < c.2.2.2 → ((c.2.2.1 = none ∨ ∃ D, c.2.2.1 = some D ∧ D W = some 1) → ∀ s40, zOm σ s40 → sM' s40 q dn → gI s40 0 45 = c.1 + 26 → (c.1 < 2 → (ox = none → gI s40 0 46 = 0) ∧ ∀ x, ox = some x → gI s40 0 46 = 1 ∧ gI s40 0 48 = x) → (¬ c.1 < 2 → gI s40 0 46 = 1) → (¬ gI s40 0 46 = 0 → (¬ gI s40 0 45 = 26 → (¬ gI s40 0 45 = 27 → wp_X11_darkKept s40 (fun r45 s46 => B_X11_runs_103 Q (L_X11_runs_19 Q f) ((2400 + T : Nat) : Int) c.2.2.2 l3 (time : Int) r45 s46)) ∧ (gI s40 0 45 = 27 → wp_X11_small (gI s40 0 48) s40 (fun r48 s49 => wp_X11_lightsKept r48 s49 (fun r50 s51 => B_X11_runs_103 Q (L_X11_runs_19 Q f) ((2400 + T : Nat) : Int) c.2.2.2 l3 (time : Int) r50 s51)))) ∧ (gI s40 0 45 = 26 → wp_X11_small (gI s40 0 48) s40 (fun r54 s55 => wp_X11_sendsKept r54 s55 (fun r56 s57 => B_X11_runs_103 Q (L_X11_runs_19 Q f) ((2400 + T : Nat) : Int) c.2.2.2 l3 (time : Int) r56 s57)))) ∧ (gI s40 0 46 = 0 → B_X11_runs_103 Q (L_X11_runs_19 Q f) ((2400 + T : Nat) : Int) c.2.2.2 l3 (time : Int) (-3) s40)) → (¬ (c.2.2.1 = none ∨ ∃ D, c.2.2.1 = some D ∧ D W = some 1) → ∀ s40, zOm σ s40 → sM' s40 q dn → B_X11_runs_122 Q (L_X11_runs_19 Q f) ((2400 + T : Nat) : Int) c.2.2.2 l3 (time : Int) s40) → L_X11_runs_19 Q (f + 1) ((2400 + T : Nat) : Int) c.2.2.2 l3 (time : Int) σ := by
    intro σ Q l3 time f hs h43 ht hy hn
    refine ⟨fun w => absurd w (by omega), fun _ => ?_⟩
    refine m_along (K := q.1) (dn := dn) (W := W) (v := c.1) (tm := c.2.2.2) (D := c.2.1) (te := c.2.2.1) (e1 := e1) (e2 := e2) (e3 := e3) hK hs.1 hT4 (fun j hj => ?_) eW.symm hW (Or.inr rfl) hs.2.2.2 h43 ts1 ts2 hv te1 te2 te3 te4 te5 te6 (fun τ z g45 g44 g22 gl => ?_)
    · have := hcell j hj
      rw [hs.1, h34 _ (by omega), h34 _ (by omega)]
      exact this
    · have g := gl rfl
      have zm := zOm_G z
      have sm : sM' τ q dn := ⟨by rw [← hs.1]; exact funext fun j => z.2 2 j (by omega) (by decide), by rw [← hs.2.1]; exact funext fun j => z.2 13 j (by omega) (by decide), by rw [z.2 _ _ (by omega) (by decide)]; exact hs.2.2.1, by rw [z.2 _ _ (by omega) (by decide)]; exact hs.2.2.2⟩
      have su : c.1 < 2 → (ox = none → gI τ 0 46 = 0) ∧ ∀ x, ox = some x → gI τ 0 46 = 1 ∧ gI τ 0 48 = x := fun c2 => by rw [← ox1 c2]; exact g.1.1 c2
      by_cases ct : c.2.2.1 = none ∨ ∃ D, c.2.2.1 = some D ∧ D W = some 1
      · have g47 : gI τ 0 47 = 1 := by
          rcases ct with w | ⟨D, w1, w2⟩
          · exact g.2.1 w
          · exact (g.2.2 D w1).1 w2
        rw [g47]
        exact ⟨fun _ => hy ct τ zm sm g45 su g.1.2, fun w => absurd w (by decide)⟩
      · have g47 : gI τ 0 47 = 0 := by
          cases et : c.2.2.1 with
          | none => exact absurd (Or.inl et) ct
          | some D => exact (g.2.2 D et).2 (fun w => ct (Or.inr ⟨D, et, w⟩))
        rw [g47]
        exact ⟨fun w => absurd rfl w, fun _ => hn ct τ zm sm⟩
  by_cases ct : c.2.2.1 = none ∨ ∃ D, c.2.2.1 = some D ∧ D W = some 1
  · cases eo : ox with
    | none =>
      have c2 : c.1 < 2 := by
        by_cases c2 : c.1 < 2
        · exact c2
        · have := ox2 c2; rw [eo] at this; exact absurd this (by simp)
      refine ⟨none, fun w e => absurd e (by simp), fun σ Q k9 i b time f hs hD hC ht ht2 h0 h1 => clsTest σ Q k9 i b time f hs hD hC ht (fun _ τ z S1 D1 C1 hw => ?_) (fun w => absurd ct w), fun σ Q l3 time f hs h43 ht ht2 h0 h1 => refTest σ Q l3 time f hs h43 ht (fun _ s40 z sm g45 su sn => ?_) (fun w => absurd ct w)⟩
      · obtain ⟨c1, c2', c3, c4, a, e, x1, x2, x3, x4, x5, x6, x7, x8⟩ := C1
        have zac : zAc τ 53 14 len W := ⟨D1.1.1, D1.1.2.1, D1.1.2.2.1, D1.1.2.2.2, D1.2.1, D1.2.2.1, D1.2.2.2.1, D1.2.2.2.2, fun j hj _ h25 => hw _ (by omega), hW2, by decide, by decide, by decide, by decide⟩
        refine ⟨ixn c1, ?_⟩
        rw [Int.toNat_natCast, x1]
        refine w_solve (m := 50) zac (by omega) (by decide) (x5 c2) (fun x υ hx => ?_) (fun hx υ zu => ⟨fun w => absurd rfl w, fun _ => ⟨fun w => absurd w (by decide), fun _ => ?_⟩⟩)
        · rw [ox1 c2, eo] at hx; exact absurd hx (by simp)
        · intro s46 e46
          subst e46
          exact h0 rfl υ (zOc_tr z (zOc_A zu))
      · have g46 := (su c2).1 eo
        rw [g46]
        refine ⟨fun w => absurd rfl w, fun _ => ⟨fun w => absurd w (by decide), fun _ => h0 rfl s40 z⟩⟩
    | some x =>
      obtain ⟨o, oA, oC, oM⟩ := o_deed (L := q.2.1) (v := c.1) (x := x) hK h30 h31 hm hB hv (ox3 x eo)
      refine ⟨o.map (fun w => (true, w)), fun w e => ?_, fun σ Q k9 i b time f hs hD hC ht ht2 h0 h1 => clsTest σ Q k9 i b time f hs hD hC ht (fun _ τ z S1 D1 C1 hw => ?_) (fun w => absurd ct w), fun σ Q l3 time f hs h43 ht ht2 h0 h1 => refTest σ Q l3 time f hs h43 ht (fun _ s40 z sm g45 su sn => ?_) (fun w => absurd ct w)⟩
      · rw [Option.map_eq_some_iff] at e
        obtain ⟨w', e1', e2'⟩ := e
        subst e2'
        obtain ⟨y1, y2, y3, y4, y5⟩ := oA w' e1'
        exact ⟨y1, y2, y3, y4, fun j hj => by rw [y5 j hj]; exact h34 j hj⟩
      · have C1' := C1
        obtain ⟨c1, c2', c3, c4, a, e, x1, x2, x3, x4, x5, x6, x7, x8⟩ := C1
        have zac : zAc τ 53 14 len W := ⟨D1.1.1, D1.1.2.1, D1.1.2.2.1, D1.1.2.2.2, D1.2.1, D1.2.2.1, D1.2.2.2.1, D1.2.2.2.2, fun j hj _ h25 => hw _ (by omega), hW2, by decide, by decide, by decide, by decide⟩
        refine ⟨ixn c1, ?_⟩
        rw [Int.toNat_natCast, x1]
        -- behind the sum
        have go : ∀ υ, zAb 53 τ υ → (c.1 < 2 → gI υ 53 1 = x) → (1 : Int) = 0 ∨ (ix (i : Int) 12 ∧ (¬ gI υ 16 i = 0 → ix (i : Int) 12 ∧ (¬ gI υ 16 i = 1 → wp_X2_idle υ (fun r56 s57 => B_X7_run_176 Q k9 (L_X7_run_28 Q k9 f) (dn : Int) (i : Int) (b : Int) (time : Int) r56 s57)) ∧ (gI υ 16 i = 1 → wp_X2_kindle (gI υ 53 1) υ (fun r59 s60 => B_X7_run_176 Q k9 (L_X7_run_28 Q k9 f) (dn : Int) (i : Int) (b : Int) (time : Int) r59 s60))) ∧ (gI υ 16 i = 0 → wp_X2_summon (gI υ 53 1) υ (fun r63 s64 => B_X7_run_176 Q k9 (L_X7_run_28 Q k9 f) (dn : Int) (i : Int) (b : Int) (time : Int) r63 s64))) := by
          intro υ zu ux
          right
          have Su : sC' υ q n B M := dC_W S1 zu.1 (fun c j hcj => zu.2 c j (by omega) (by omega))
          have e16 : gI υ 16 i = c.1 := by rw [zu.2 _ _ (by decide) (by omega)]; exact c2'
          have dd := oC υ (fun r s => B_X7_run_176 Q k9 (L_X7_run_28 Q k9 f) (dn : Int) (i : Int) (b : Int) (time : Int) r s) Su (fun en r χ hr zf => ⟨fun w => absurd w (by omega), fun _ => ?_⟩) (fun w ew r χ hr zf dχ => ⟨fun _ => ?_, fun w => absurd hr w⟩)
          · rw [e16]
            refine ⟨ixn c1, fun n0 => ⟨ixn c1, fun n1 => dd.2.2 (by omega), fun e1' => ?_⟩, fun e0 => ?_⟩
            · rw [ux (by omega)]; exact dd.2.1 e1'
            · rw [ux (by omega)]; exact dd.1 e0
          · intro s46 e46
            subst e46
            exact h0 (by rw [en]; rfl) χ (zOc_tr z (zOc_tr (zOc_A zu) (zOc_F zf)))
          · intro y ey y2 ey2
            rw [wks (by omega)] at ey
            rw [wks (by omega)] at ey2
            subst ey
            subst ey2
            exact h1 (true, w) (by rw [ew]; rfl) χ (zOc_tr z (zOc_tr (zOc_A zu) (zOc_F zf))) dχ
        by_cases c2 : c.1 < 2
        · refine w_solve (m := 50) zac (by omega) (by decide) (x5 c2) (fun y υ hy zu uy => ⟨fun _ => ?_, fun w => absurd w (by decide)⟩) (fun hx => ?_)
          · have : y = x := by rw [ox1 c2, eo] at hy; exact (Option.some.inj hy).symm
            rcases go υ zu (fun _ => uy.trans this) with w | w
            · exact absurd w (by decide)
            · exact w
          · rw [ox1 c2, eo] at hx; exact absurd hx (by simp)
        · rw [x6 c2]
          refine w_solve0 D1.1.1 (fun υ zu uy => ⟨fun _ => ?_, fun w => absurd w (by decide)⟩)
          rcases go υ zu (fun w => absurd w c2) with w | w
          · exact absurd w (by decide)
          · exact w
      · have g46 : gI s40 0 46 = 1 := by
          by_cases c2 : c.1 < 2
          · exact ((su c2).2 x eo).1
          · exact sn c2
        have dd := oM s40 (fun r s => B_X11_runs_103 Q (L_X11_runs_19 Q f) ((2400 + T : Nat) : Int) c.2.2.2 l3 (time : Int) r s) sm.1 sm.2.1 sm.2.2.1 (fun en r υ hr zd => ⟨fun w => absurd w (by omega), fun _ => h0 (by rw [en]; rfl) υ (zOm_tr z (zOm_D zd))⟩) (fun w ew r υ hr zd u2 u13 u28 => ⟨fun _ => ?_, fun w => absurd hr w⟩)
        · rw [g46, g45]
          refine ⟨fun _ => ⟨fun n26 => ⟨fun n27 => dd.2.2 (by omega), fun e27 => ?_⟩, fun e26 => ?_⟩, fun w => absurd w (by decide)⟩
          · rw [((su (by omega)).2 x eo).2]; exact dd.2.1 (by omega)
          · rw [((su (by omega)).2 x eo).2]; exact dd.1 (by omega)
        · intro y ey s36 e36 y2 ey2
          have u42 : gI υ 0 42 = (dn : Int) := by rw [zd.2 _ _ (by omega) (by decide) (by decide) (by omega)]; exact sm.2.2.2
          rw [u42, wks (by omega)] at ey
          rw [wks (by omega)] at ey2
          subst ey2
          refine h1 (true, w) (by rw [ew]; rfl) s36 (zOm_tr z (zOm_tr (zOm_D zd) ?_)) ⟨?_, ?_, ?_, ?_⟩
          · rw [e36]; exact ⟨rfl, fun c' j' a1 _ _ _ => by rw [gI_sI, if_neg (by omega)]⟩
          · rw [e36]; exact u2
          · rw [e36]; exact u13
          · rw [e36, gI_sI, if_neg (by omega)]; exact u28
          · rw [e36, ey]; simp only [gI_sI, Nat.reduceAdd, Nat.reduceMul, Nat.reduceEqDiff, false_and, true_and, and_false, and_true, reduceIte, Int.toNat_natCast]; rfl
  · refine ⟨some (false, q), fun w e => by cases Option.some.inj e; exact ⟨hK, h30, h31, hm, h34⟩, fun σ Q k9 i b time f hs hD hC ht ht2 h0 h1 => clsTest σ Q k9 i b time f hs hD hC ht (fun w => absurd w ct) (fun _ τ z S1 => ?_), fun σ Q l3 time f hs h43 ht ht2 h0 h1 => refTest σ Q l3 time f hs h43 ht (fun w => absurd w ct) (fun _ s40 z sm => ?_)⟩
    · intro y ey
      rw [wks (by omega)] at ey
      subst ey
      exact h1 (false, q) rfl τ z S1
    · intro y ey
      rw [wks (by omega)] at ey
      subst ey
      exact h1 (false, q) rfl s40 z sm
