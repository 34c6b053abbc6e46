/-! from the root: the class's longest, turns, canReach -/
def zS (σ τ : st_S) : Prop := τ.2 = σ.2 ∧ ∀ c j, ¬ (36 ≤ c ∧ c ≤ 38) → ¬ (42 ≤ c ∧ c ≤ 51) → ¬ (56 ≤ c ∧ c ≤ 64) → gI τ c j = gI σ c j
theorem zS_rfl {σ : st_S} : zS σ σ := ⟨rfl, fun _ _ _ _ _ => rfl⟩
theorem zS_tr {σ τ υ : st_S} (h : zS σ τ) (g : zS τ υ) : zS σ υ := ⟨g.1.trans h.1, fun c j a b d => (g.2 c j a b d).trans (h.2 c j a b d)⟩
theorem zS_P {σ τ : st_S} (h : zP σ τ) : zS σ τ := ⟨h.1, fun c j a b _ => h.2 c j a b⟩
theorem zS_D {night : Nat} {σ τ : st_S} (h : zD night σ τ) : zS σ τ := ⟨h.1, fun c j a b d => h.2 c j (by omega) (by omega) (by omega) (by omega) (by omega) (by omega) (by omega)⟩
theorem zS_agQ {σ τ : st_S} (h : zS σ τ) (hr : zRr σ) : agQ σ τ := by
  have eR : ∀ c j, gR τ c j = gR σ c j := fun c j => by unfold gR; rw [h.1]
  refine ⟨⟨by rw [h.1], fun c j _ => eR c j, fun c j q => h.2 c j (by unfold lsC at q; omega) (by unfold lsC at q; omega) (by unfold lsC at q; omega)⟩, h.2 _ _ (by omega) (by omega) (by omega), fun k => h.2 _ _ (by omega) (by omega) (by omega), ?_⟩
  unfold zRr
  rw [eR, eR]
  exact hr
theorem w_set {σ : st_S} {P hsh m : Nat} {Q : st_S → Prop} (hk : sKd σ) (hm : m ≤ 10) (hQ : ∀ τ, τ.2 = σ.2 → (∀ c j, ¬ (c = 56 ∧ 10 ≤ j ∧ j ≤ 16) → c ≠ 57 → gI τ c j = gI σ c j) → gI τ 56 10 = (P : Int) → gI τ 56 11 = (hsh : Int) → gI τ 56 12 = (m : Int) → gI τ 56 13 = 0 → gI τ 56 14 = 0 → gI τ 56 15 = 0 → gI τ 56 16 = 0 → (∀ j, j < 1024 → gI τ 57 j = 0) → Q τ) : wp_X8_set (P : Int) (hsh : Int) (m : Int) σ Q := by
  intro s1 e1 s2 e2 s3 e3 s4 e4 s5 e5 s6 e6 s7 e7
  have em : o_min 10 (m : Int) = (m : Int) := by unfold o_min; split <;> omega
  rw [em] at e3
  have t7 : s7.2 = σ.2 := by rw [e7, e6, e5, e4, e3, e2, e1]; rfl
  have k7 : sKd s7 := sKd_of hk t7
  refine w_fill k7.1.1 (by rw [k7.1.2]; decide) ?_
  have o7 : ∀ c j, ¬ (c = 56 ∧ 10 ≤ j ∧ j ≤ 16) → gI s7 c j = gI σ c j := fun c j q => by
    rw [e7, gI_sI, if_neg (by omega), e6, gI_sI, if_neg (by omega), e5, gI_sI, if_neg (by omega), e4, gI_sI, if_neg (by omega), e3, gI_sI, if_neg (by omega), e2, gI_sI, if_neg (by omega), e1, gI_sI, if_neg (by omega)]
  have f : ∀ c j, c ≠ 57 → gI (sF s7 57 (fun j => if j < gL s7 57 then 0 else gI s7 57 j)) c j = gI s7 c j := fun c j q => by rw [gI_sF, if_neg q]
  refine hQ _ t7 (fun c j q1 q2 => by rw [f c j q2]; exact o7 c j q1) ?_ ?_ ?_ ?_ ?_ ?_ ?_ (fun j hj => ?_)
  · rw [f _ _ (by decide), e7, e6, e5, e4, e3, e2, e1]; rfl
  · rw [f _ _ (by decide), e7, e6, e5, e4, e3, e2]; rfl
  · rw [f _ _ (by decide), e7, e6, e5, e4, e3]; rfl
  · rw [f _ _ (by decide), e7, e6, e5, e4]; rfl
  · rw [f _ _ (by decide), e7, e6, e5]; rfl
  · rw [f _ _ (by decide), e7, e6]; rfl
  · rw [f _ _ (by decide), e7]; rfl
  · rw [gI_sF, if_pos rfl, k7.1.2, if_pos hj]
theorem hdA_z {M : zM} {K : Nat → Int} {hsh p k : Nat} : hdA M K hsh 0 p k = K (20 + p) := by
  induction k with
  | zero => rfl
  | succ k ih =>
    show hdA M K hsh 0 p k + (if hsh.testBit p = false ∧ (0 : Nat).testBit k = true ∧ hsh.testBit k = false then spV M K k p else 0) = _
    rw [ih, if_neg (fun w => by rw [Nat.zero_testBit] at w; exact absurd w.2.1 (by decide)), Int.add_zero]
theorem hOk_root {M : zM} {K : Nat → Int} {n hsh H : Nat} (h : hOk H (fun p => K (20 + p)) n) : hOk H (hdV M K n hsh 0) n := by
  refine ⟨h.1, fun p hp => ?_⟩
  have e1 := (hdV_1 (M := M) (K := K) (n := n) (hsh := hsh) (used := 0) (p := p))
  rw [hdA_z] at e1
  have a := h.2 p hp
  rw [a.1, a.2]
  simp only [e1.1, e1.2, and_self]
/-- no marks yet -/
def nMk (σ : st_S) (trn : Bool) : Prop := (∀ j, j < 1024 → gI σ 57 j = 0) ∧ (trn = true → ∀ j, j < 5120 → gI σ 59 j = 0)
theorem nMk_v {σ : st_S} {trn : Bool} (h : nMk σ trn) {k u l : Nat} (hk : k < 10) (hu : u < 1024) : mkd σ trn k u l = false := by
  unfold mkd
  cases htr : trn with
  | false =>
    rw [if_neg (by decide), h.1 u hu]
    exact sbt_0
  | true =>
    rw [if_pos rfl, h.2 htr _ (by omega)]
    exact sbt_0
theorem w_root {K : Nat → Int} {n away hsh P T : Nat} {M : zM} {trn : Bool} {pr g : Nat → Nat} {σ : st_S} {Q : st_S → Prop} (hP1 : P < 1024) (hP : ∀ p, p < n → P.testBit p = (decide (¬ K p = 3) && !away.testBit p)) (hh : hsh < 1024) (hg : ∀ p, g p < 4) (kl : ∀ p, p < n → K (35 + 2 * p) = (g p : Int)) (hT : T ≤ 10) (hs : sCx σ K n M hsh P 10 false false trn pr) (hb : gI σ 56 13 = 0) (hm : nMk σ trn)
    (h1 : rR (crL M K n away hsh) (nlF trn g n) (sNi T) 10 0 0 0) (h2 : ¬ rR (crL M K n away hsh) (nlF trn g n) (sNi (T + 1)) 10 0 0 0)
    (hQ : ∀ τ, zD 0 σ τ → sCx τ K n M hsh P 10 false false trn pr → gI τ 56 13 = (T : Int) → gRw (crL M K n away hsh) (nlF trn g n) (sNi T) 10 0 0 0 (gI τ 61) → Q τ) : wp_X8_climb 12 0 0 (gI σ 42 1) 0 σ Q := by
  obtain ⟨H, eH, hH⟩ := hs.1.2.1.2.1
  rw [eH]
  have main := w_climb (bo := fun b => 0 ≤ b ∧ b ≤ (T : Int)) (dn := fun b => (T : Int) ≤ b) (suc := sNi T) (inv := fun night used ld => night ≤ T ∧ ¬ rR (crL M K n away hsh) (nlF trn g n) (sNi (T + 1)) (10 - night) night used ld) (pay := false) (aim := false) (trn := trn) (pr := pr) (g := g) (lm := 10) (M := M) (hsh := hsh) (away := away) hP1 hP hh (Nat.le_refl _) hg kl
    (fun night used ld c hlt hi hc hok => by
      have nr : ¬ rR (crL M K n away hsh) (nlF trn g n) (sNi (T + 1)) (10 - (night + 1)) (night + 1) (used ||| c) (nlF trn g n c) := fun w => hi.2 (by
        rw [show 10 - night = (10 - (night + 1)) + 1 by omega]
        exact Or.inr ⟨c, hc, hok, w⟩)
      refine ⟨?_, nr⟩
      refine Classical.byContradiction (fun w => nr (rR_suc ?_))
      show T + 1 ≤ night + 1
      omega)
    (fun σ' night used ld Q' hl hu hi hs' hb' k => w_noteN hi.1 (by have := hs'.2.2.2.2.2.1; rw [if_neg (by decide)] at this; exact this) hb' k)
    (fun σ' night used H' ld Q' hN hu hct hH' hi hs' hb' hsu k1 k0 => w_vainN hP1 hP (Nat.le_refl _) hT (fun w => absurd w (by decide)) hN hu hct hH' hs' hsu k1 k0)
    12 0 0 H 0 (σ := σ) (Q := Q) (by omega) (by omega) (by omega) (by omega) (by omega) (Nat.zero_le _) (hOk_root hH) ⟨Nat.zero_le _, h2⟩ hs (by show 0 ≤ gI σ 56 13 ∧ gI σ 56 13 ≤ (T : Int); rw [hb]; omega) (fun k u l _ a b _ _ c _ => by rw [nMk_v hm a b] at c; exact absurd c (by decide))
    (fun τ z1 z2 z3 z4 z5 z6 z7 z8 => by
      have d1 : (T : Int) ≤ gI τ 56 13 := z6 h1
      have z3' : 0 ≤ gI τ 56 13 ∧ gI τ 56 13 ≤ (T : Int) := z3
      refine hQ τ z1 z2 (by omega) ?_
      by_cases q : T = 0
      · exact gR_suc (by show T ≤ 0; omega)
      · exact (z8 (by show ¬ (T : Int) ≤ gI σ 56 13; rw [hb]; omega) d1).2.1)
  exact main
theorem w_reach {K : Nat → Int} {n away hsh P T : Nat} {M : zM} {pr g : Nat → Nat} {σ : st_S} {Q : st_S → Prop} (hP1 : P < 1024) (hP : ∀ p, p < n → P.testBit p = (decide (¬ K p = 3) && !away.testBit p)) (hh : hsh < 1024) (hg : ∀ p, g p < 4) (kl : ∀ p, p < n → K (35 + 2 * p) = (g p : Int)) (hT : T ≤ 10) (hT1 : 1 ≤ T) (hs : sCx σ K n M hsh P T false true false pr) (hb : gI σ 56 13 = 0) (hm : nMk σ false)
    (hQ : ∀ τ, zD 0 σ τ → sCx τ K n M hsh P T false true false pr → ((T : Int) ≤ gI τ 56 13 ↔ rR (crL M K n away hsh) (nlF false g n) (sNi T) 10 0 0 0) → Q τ) : wp_X8_climb 12 0 0 (gI σ 42 1) 0 σ Q := by
  obtain ⟨H, eH, hH⟩ := hs.1.2.1.2.1
  rw [eH]
  exact w_climb (bo := fun b => 0 ≤ b ∧ b ≤ (T : Int)) (dn := fun b => (T : Int) ≤ b) (suc := sNi T) (inv := fun night used ld => night ≤ T) (pay := false) (aim := true) (trn := false) (pr := pr) (g := g) (lm := T) (M := M) (hsh := hsh) (away := away) hP1 hP hh hT hg kl
    (fun night used ld c hlt hi hc hok => by omega)
    (fun σ' night used ld Q' hl hu hi hs' hb' k => w_noteN hi (by have := hs'.2.2.2.2.2.1; rw [if_neg (by decide)] at this; exact this) hb' k)
    (fun σ' night used H' ld Q' hN hu hct hH' hi hs' hb' hsu k1 k0 => w_vainN hP1 hP hT (Nat.le_refl _) (fun _ => rfl) hN hu hct hH' hs' hsu k1 k0)
    12 0 0 H 0 (σ := σ) (Q := Q) (by omega) (by omega) (by omega) (by omega) (by omega) (Nat.zero_le _) (hOk_root hH) (Nat.zero_le _) hs (by show 0 ≤ gI σ 56 13 ∧ gI σ 56 13 ≤ (T : Int); rw [hb]; omega) (fun k u l _ a b _ _ c _ => by rw [nMk_v hm a b] at c; exact absurd c (by decide))
    (fun τ z1 z2 z3 z4 z5 z6 z7 z8 => hQ τ z1 z2 ⟨fun q => (z8 (by show ¬ (T : Int) ≤ gI σ 56 13; rw [hb]; omega) q).1, fun q => z6 q⟩)
/-! by numbers -/
theorem mx_fold {h : Nat → Nat} {x : Nat} : ∀ {l : List Nat} {b : Nat}, (x ≤ l.foldl (fun b c => mxN b (h c)) b ↔ x ≤ b ∨ ∃ c, c ∈ l ∧ x ≤ h c) := by
  intro l
  induction l with
  | nil => intro b; exact ⟨Or.inl, fun q => q.elim id (fun ⟨c, w, _⟩ => absurd w (by simp))⟩
  | cons a l ih =>
    intro b
    rw [List.foldl_cons, ih]
    constructor
    · rintro (q | ⟨c, q1, q2⟩)
      · unfold mxN at q
        split at q
        · exact Or.inl q
        · exact Or.inr ⟨a, by simp, q⟩
      · exact Or.inr ⟨c, List.mem_cons_of_mem _ q1, q2⟩
    · rintro (q | ⟨c, q1, q2⟩)
      · left; unfold mxN; split <;> omega
      · rcases List.mem_cons.mp q1 with e | e
        · subst e; left; unfold mxN; split <;> omega
        · exact Or.inr ⟨c, e, q2⟩
theorem rR_ln {K : Nat → Int} {n away hsh T : Nat} {M : zM} {g : Nat → Nat} (hn : n ≤ 10) : ∀ (f : Nat) {night used : Nat}, f + night = 10 → night ≤ ctN used n → (rR (crL M K n away hsh) (nlF false g n) (sNi T) f night used 0 ↔ T ≤ night + lnV (crL M K n away hsh) (f + 1) night used) := by
  intro f
  induction f with
  | zero =>
    intro night used hf hc
    have e : lnV (crL M K n away hsh) 1 night used = 0 := by
      show (crL M K n away hsh night used).foldl _ 0 = 0
      rw [cr_nil (by omega) hc]
      rfl
    rw [e]
    exact Iff.rfl
  | succ f ih =>
    intro night used hf hc
    have e : lnV (crL M K n away hsh) (f + 1 + 1) night used = (crL M K n away hsh night used).foldl (fun b c => mxN b (1 + lnV (crL M K n away hsh) (f + 1) (night + 1) (used ||| c))) 0 := rfl
    have m := mx_fold (h := fun c => 1 + lnV (crL M K n away hsh) (f + 1) (night + 1) (used ||| c)) (x := T - night) (l := crL M K n away hsh night used) (b := 0)
    rw [← e] at m
    constructor
    · rintro (q | ⟨c, q1, q2, q3⟩)
      · have q' : T ≤ night := q
        omega
      · have r := (ih (night := night + 1) (used := used ||| c) (by omega) (by have := cr_ct q1; omega)).mp q3
        have := m.mpr (Or.inr ⟨c, q1, by show T - night ≤ 1 + lnV (crL M K n away hsh) (f + 1) (night + 1) (used ||| c); omega⟩)
        omega
    · intro q
      by_cases q0 : T ≤ night
      · exact Or.inl q0
      · rcases m.mp (by omega) with w | ⟨c, w1, w2⟩
        · omega
        · have w2' : T - night ≤ 1 + lnV (crL M K n away hsh) (f + 1) (night + 1) (used ||| c) := w2
          exact Or.inr ⟨c, w1, Nat.zero_and _, (ih (by omega) (by have := cr_ct w1; omega)).mpr (by omega)⟩
theorem rR_tn {K : Nat → Int} {n away hsh T : Nat} {M : zM} {g : Nat → Nat} (hn : n ≤ 10) : ∀ (f : Nat) {night used ld : Nat}, f + night = 10 → night ≤ ctN used n → (rR (crL M K n away hsh) (nlF true g n) (sNi T) f night used ld ↔ T ≤ night + tnV (crL M K n away hsh) g n (f + 1) night used ld) := by
  intro f
  induction f with
  | zero =>
    intro night used ld hf hc
    have e : tnV (crL M K n away hsh) g n 1 night used ld = 0 := by
      show (tuL g n ld (crL M K n away hsh night used)).foldl _ 0 = 0
      rw [cr_nil (by omega) hc]
      rfl
    rw [e]
    exact Iff.rfl
  | succ f ih =>
    intro night used ld hf hc
    have e : tnV (crL M K n away hsh) g n (f + 1 + 1) night used ld = (tuL g n ld (crL M K n away hsh night used)).foldl (fun b c => mxN b (1 + tnV (crL M K n away hsh) g n (f + 1) (night + 1) (used ||| c) (ldS g c n))) 0 := rfl
    have m := mx_fold (h := fun c => 1 + tnV (crL M K n away hsh) g n (f + 1) (night + 1) (used ||| c) (ldS g c n)) (x := T - night) (l := tuL g n ld (crL M K n away hsh night used)) (b := 0)
    rw [← e] at m
    constructor
    · rintro (q | ⟨c, q1, q2, q3⟩)
      · have q' : T ≤ night := q
        omega
      · have r := (ih (night := night + 1) (used := used ||| c) (by omega) (by have := cr_ct q1; omega)).mp q3
        have := m.mpr (Or.inr ⟨c, tu_mem.mpr ⟨q1, q2⟩, by show T - night ≤ 1 + tnV (crL M K n away hsh) g n (f + 1) (night + 1) (used ||| c) (ldS g c n); have r' : T ≤ night + 1 + tnV (crL M K n away hsh) g n (f + 1) (night + 1) (used ||| c) (ldS g c n) := r; omega⟩)
        omega
    · intro q
      by_cases q0 : T ≤ night
      · exact Or.inl q0
      · rcases m.mp (by omega) with w | ⟨c, w1, w2⟩
        · omega
        · have w2' : T - night ≤ 1 + tnV (crL M K n away hsh) g n (f + 1) (night + 1) (used ||| c) (ldS g c n) := w2
          have w3 := tu_mem.mp w1
          exact Or.inr ⟨c, w3.1, w3.2, (ih (by omega) (by have := cr_ct w3.1; omega)).mpr (by show T ≤ night + 1 + tnV (crL M K n away hsh) g n (f + 1) (night + 1) (used ||| c) (ldS g c n); omega)⟩
/-- lands as numbers -/
def gLd (K : Nat → Int) (p : Nat) : Nat := (K (35 + 2 * p)).toNat % 4
theorem gLd_lt {K : Nat → Int} (p : Nat) : gLd K p < 4 := Nat.mod_lt _ (by decide)
theorem gLd_v {σ : st_S} {K : Nat → Int} {n : Nat} {M : zM} (h : cxC σ K n M) (p : Nat) (hp : p < n) : K (35 + 2 * p) = (gLd K p : Int) := by
  have := (h.2.2.1 p hp).2
  unfold gLd
  omega
/-- the class's longest -/
theorem w_longest {K : Nat → Int} {n away P : Nat} {M : zM} {σ : st_S} {Q : Int → st_S → Prop} (h : ppC σ K n M) (hk : sKd σ) (hP1 : P < 1024) (hP : ∀ p, p < n → P.testBit p = (decide (¬ K p = 3) && !away.testBit p))
    (hQ : ∀ τ, zS σ τ → ppC τ K n M → gI τ 42 0 = gI σ 42 0 → gRw (crL M K n away 0) (nlF false (gLd K) n) (sNi (lnV (crL M K n away 0) 11 0 0)) 10 0 0 0 (gI τ 61) → Q (lnV (crL M K n away 0) 11 0 0 : Int) τ) : wp_X8_longest (P : Int) σ Q := by
  have hn := h.1.1.2.2
  refine w_set (P := P) (hsh := 0) (m := 10) hk (Nat.le_refl _) (fun τ t1 t2 a1 a2 a3 a4 a5 a6 a7 a8 => ?_)
  have pt : ppC τ K n M := ppC_of h t1 (fun c j q => t2 c j (by omega) (by omega))
  have e : ∀ T, rR (crL M K n away 0) (nlF false (gLd K) n) (sNi T) 10 0 0 0 ↔ T ≤ lnV (crL M K n away 0) 11 0 0 := fun T => by
    have q := rR_ln (K := K) (n := n) (away := away) (hsh := 0) (T := T) (M := M) (g := gLd K) hn 10 (night := 0) (used := 0) (by omega) (Nat.zero_le _)
    rw [Nat.zero_add] at q
    exact q
  have le := lnV_le (cr := crL M K n away 0) (f := 11) (night := 0) (used := 0)
  have le10 : lnV (crL M K n away 0) 11 0 0 ≤ 10 := by
    have r := rR_pth _ ((e (lnV (crL M K n away 0) 11 0 0)).mpr (Nat.le_refl _))
    rcases pth_n _ r (Nat.zero_le _) with w | w <;> omega
  refine w_root (pr := fun _ => 0) (trn := false) (g := gLd K) (T := lnV (crL M K n away 0) 11 0 0) hP1 hP (by decide) gLd_lt (gLd_v h.1) le10 ⟨pt, sKd_of hk t1, a1, a2, a3, a5, a6, a7, fun w => absurd w (by decide)⟩ a4 ⟨a8, fun w => absurd w (by decide)⟩ ((e _).mpr (by omega)) (fun w => by have := (e _).mp w; omega) (fun υ u1 u2 u3 u4 => ?_)
  rw [u3]
  refine hQ υ (zS_tr ⟨t1, fun c j q1 q2 q3 => t2 c j (by omega) (by omega)⟩ (zS_D u1)) u2.1 ?_ u4
  rw [u1.2 _ _ (by omega) (by omega) (by omega) (by decide) (by decide) (by omega) (by decide), t2 _ _ (by omega) (by decide)]
