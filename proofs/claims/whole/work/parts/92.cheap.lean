/-! the cheapest: the class -/
theorem prS_s {c : Nat → Nat} {S p : Nat} : prS c S (p + 1) = prS c S p + (if S.testBit p then c p else 0) := by
  cases hb : S.testBit p with
  | true => rw [prS_t hb, if_pos rfl]
  | false => rw [prS_f hb, if_neg (by decide), Nat.add_zero]
theorem prS_mono {c : Nat → Nat} {S X n : Nat} : prS c S n ≤ prS c (S ||| X) n := by
  induction n with
  | zero => exact Nat.le_refl _
  | succ n ih =>
    rw [prS_s, prS_s, Nat.testBit_or]
    cases S.testBit n <;> cases X.testBit n <;> simp <;> omega
theorem prS_or {c : Nat → Nat} {S X n : Nat} (h : ∀ p, p < n → S.testBit p = true → X.testBit p = false) : prS c (S ||| X) n = prS c S n + prS c X n := by
  induction n with
  | zero => rfl
  | succ n ih =>
    rw [prS_s, prS_s, prS_s, Nat.testBit_or, ih (fun p hp => h p (by omega))]
    have := h n (by omega)
    cases hs : S.testBit n with
    | true => rw [this hs]; simp; omega
    | false => simp; omega
theorem prS_top {c : Nat → Nat} {S n m : Nat} (hnm : n ≤ m) (h : ∀ p, n ≤ p → c p = 0) : prS c S m = prS c S n := by
  induction m with
  | zero => rw [show n = 0 by omega]
  | succ m ih =>
    by_cases e : n = m + 1
    · rw [e]
    · rw [prS_s, h m (by omega), ih (by omega)]
      simp
theorem prS_z {c : Nat → Nat} {n : Nat} : prS c 0 n = 0 := by
  induction n with
  | zero => rfl
  | succ n ih => rw [prS_f (Nat.zero_testBit n)]; exact ih
/-- so many nights, at most so dear (less e) -/
def sPr (lm n e T : Nat) (pr : Nat → Nat) (night used : Nat) : Prop := night = lm ∧ prS pr used n + e ≤ T
theorem rP_gt {cr : Nat → Nat → List Nat} {nl pr : Nat → Nat} {lm n e T : Nat} : ∀ (f : Nat) {night used ld : Nat}, lm < night → ¬ rR cr nl (sPr lm n e T pr) f night used ld := by
  intro f
  induction f with
  | zero => intro night used ld h w; have w' : night = lm := w.1; omega
  | succ f ih =>
    intro night used ld h w
    rcases w with w | ⟨c, _, _, w⟩
    · have w' : night = lm := w.1
      omega
    · exact ih (by omega) w
theorem rP_pth {cr : Nat → Nat → List Nat} {nl pr : Nat → Nat} {lm n e T : Nat} : ∀ (f : Nat) {night used ld : Nat}, night ≤ lm → rR cr nl (sPr lm n e T pr) f night used ld → pth cr (lm - night) night used := by
  intro f
  induction f with
  | zero => intro night used ld h w; have w' : night = lm := w.1; rw [show lm - night = 0 by omega]; exact True.intro
  | succ f ih =>
    intro night used ld h w
    by_cases q : night = lm
    · rw [show lm - night = 0 by omega]; exact True.intro
    · rcases w with w | ⟨c, h1, _, w⟩
      · exact absurd w.1 q
      · rw [show lm - night = (lm - (night + 1)) + 1 by omega]
        exact ⟨c, h1, ih (by omega) w⟩
theorem rP_pr {cr : Nat → Nat → List Nat} {nl pr : Nat → Nat} {lm n e T : Nat} : ∀ (f : Nat) {night used ld : Nat}, rR cr nl (sPr lm n e T pr) f night used ld → prS pr used n + e ≤ T := by
  intro f
  induction f with
  | zero => intro night used ld w; exact w.2
  | succ f ih =>
    intro night used ld w
    rcases w with w | ⟨c, _, _, w⟩
    · exact w.2
    · have := ih w
      have := prS_mono (c := pr) (S := used) (X := c) (n := n)
      omega
theorem ls_fold {h : Nat → Nat} {x : Nat} : ∀ {l : List Nat} {b : Nat}, (l.foldl (fun b c => lsN b (h c)) b ≤ x ↔ b ≤ x ∨ ∃ c, c ∈ l ∧ h c ≤ x) := by
  intro l
  induction l with
  | nil => intro b; exact ⟨Or.inl, fun q => q.elim id (fun ⟨c, w, _⟩ => absurd w (by simp))⟩
  | cons a l ih =>
    intro b
    rw [List.foldl_cons, ih]
    constructor
    · rintro (q | ⟨c, q1, q2⟩)
      · unfold lsN at q
        split at q
        · exact Or.inr ⟨a, by simp, q⟩
        · exact Or.inl q
      · exact Or.inr ⟨c, List.mem_cons_of_mem _ q1, q2⟩
    · rintro (q | ⟨c, q1, q2⟩)
      · left; unfold lsN; split <;> omega
      · rcases List.mem_cons.mp q1 with e | e
        · subst e; left; unfold lsN; split <;> omega
        · exact Or.inr ⟨c, e, q2⟩
theorem rP_ch {K : Nat → Int} {n away hsh lm e T : Nat} {M : zM} {pr g : Nat → Nat} (hn : n ≤ 10) (hlm : lm ≤ 10) (hpr : ∀ p, n ≤ p → pr p = 0) (hT : T < 1000000 + e) : ∀ (f d : Nat) {night used ld : Nat}, f + night = 10 → d + night = lm → (rR (crL M K n away hsh) (nlF false g n) (sPr lm n e T pr) f night used ld ↔ prS pr used n + chV (crL M K n away hsh) pr d night used + e ≤ T) := by
  intro f
  induction f with
  | zero =>
    intro d night used ld h1 h2
    have hd : d = 0 := by omega
    subst hd
    show (night = lm ∧ prS pr used n + e ≤ T) ↔ prS pr used n + 0 + e ≤ T
    rw [Nat.add_zero]
    exact ⟨fun q => q.2, fun q => ⟨by omega, q⟩⟩
  | succ f ih =>
    intro d night used ld h1 h2
    cases d with
    | zero =>
      constructor
      · rintro (q | ⟨c, _, _, q⟩)
        · exact q.2
        · exact absurd q (rP_gt f (by omega))
      · intro q
        exact Or.inl ⟨by omega, q⟩
    | succ d =>
      have m := fun x => ls_fold (h := fun c => chV (crL M K n away hsh) pr d (night + 1) (used ||| c) + prS pr c 10) (x := x) (l := crL M K n away hsh night used) (b := 1000000)
      have ec : chV (crL M K n away hsh) pr (d + 1) night used = (crL M K n away hsh night used).foldl (fun b c => lsN b (chV (crL M K n away hsh) pr d (night + 1) (used ||| c) + prS pr c 10)) 1000000 := rfl
      rw [← ec] at m
      constructor
      · rintro (q | ⟨c, q1, q2, q3⟩)
        · have q' : night = lm := q.1
          omega
        · have r := (ih d (night := night + 1) (used := used ||| c) (ld := nlF false g n c) (by omega) (by omega)).mp q3
          rw [prS_or (fun p _ hp => cr_dis q1 hp)] at r
          have e10 := prS_top (c := pr) (S := c) hn hpr
          have := (m (T - prS pr used n - e)).mpr (Or.inr ⟨c, q1, by show chV (crL M K n away hsh) pr d (night + 1) (used ||| c) + prS pr c 10 ≤ _; omega⟩)
          omega
      · intro q
        rcases (m (T - prS pr used n - e)).mp (by omega) with w | ⟨c, w1, w2⟩
        · omega
        · have w2' : chV (crL M K n away hsh) pr d (night + 1) (used ||| c) + prS pr c 10 ≤ T - prS pr used n - e := w2
          have e10 := prS_top (c := pr) (S := c) hn hpr
          refine Or.inr ⟨c, w1, Nat.zero_and _, (ih d (by omega) (by omega)).mpr ?_⟩
          rw [prS_or (fun p _ hp => cr_dis w1 hp)]
          omega
theorem w_noteP {σ : st_S} {K : Nat → Int} {n hsh P lm T night used ld : Nat} {M : zM} {pr : Nat → Nat} {away : Nat} {g : Nat → Nat} {Q : st_S → Prop} (hc : ∀ p, pr p ≤ 9999) (hu : used < 1024) (hs : sCx σ K n M hsh P lm true true false pr) (hi : night ≤ lm ∧ ¬ rR (crL M K n away hsh) (nlF false g n) (sPr lm n 1 T pr) (10 - night) night used ld) (hb : (T : Int) ≤ gI σ 56 13 ∧ gI σ 56 13 ≤ 1000000)
    (hQ : ∀ τ, zNt σ τ → ((T : Int) ≤ gI τ 56 13 ∧ gI τ 56 13 ≤ 1000000) → (sPr lm n 0 T pr night used → gI τ 56 13 ≤ (T : Int)) → (gI σ 56 13 ≤ (T : Int) → gI τ 56 13 = gI σ 56 13 ∧ ∀ j, gI τ 61 j = gI σ 61 j) → (¬ gI σ 56 13 ≤ (T : Int) → gI τ 56 13 ≤ (T : Int) → sPr lm n 0 T pr night used ∧ ∀ j, j < 10 → gI τ 61 j = gI σ 60 j) → Q τ) : wp_X8_note (night : Int) (used : Int) σ Q := by
  obtain ⟨s1, s2, s3, s4, s5, s6, s7, s8, s9⟩ := hs
  have hn := s1.1.1.2.2
  rw [if_pos rfl] at s6
  have nz : ¬ gI σ 56 14 = 0 := by rw [s6]; decide
  refine ⟨fun z => absurd z nz, fun _ => ⟨fun z => ⟨fun y => absurd y nz, fun _ => ⟨fun y => ?_, fun y => absurd hb.2 y⟩⟩, fun z => ?_⟩⟩
  · rw [s5] at z
    exact hQ σ ⟨rfl, fun _ _ _ _ => rfl⟩ hb (fun q => absurd q.1 (by omega)) (fun _ => ⟨rfl, fun _ => rfl⟩) (fun a b => absurd b a)
  · rw [s5] at z
    have el : night = lm := by omega
    refine w_priceOf hc hu hn s1.1.1.1 (fun p hp _ => s9 rfl p hp) ?_
    have ni : ¬ (prS pr used n + 1 ≤ T) := fun w => hi.2 (rR_suc ⟨el, w⟩)
    refine ⟨fun y => absurd y nz, fun _ => ⟨fun y => ?_, fun y => ⟨fun w => absurd w nz, fun _ => ?_⟩⟩⟩
    · refine hQ σ ⟨rfl, fun _ _ _ _ => rfl⟩ hb (fun q => ?_) (fun _ => ⟨rfl, fun _ => rfl⟩) (fun a b => absurd b a)
      have q2 : prS pr used n + 0 ≤ T := q.2
      omega
    · intro s1' e1 s2' e2
      have b2 : gI s2' 56 13 = (prS pr used n : Int) := by rw [e2, sC_ne (by decide), e1, gI_sI, if_pos ⟨rfl, rfl⟩]
      refine hQ s2' ⟨by rw [e2, e1]; rfl, fun c j q1 q2 => by rw [e2, sC_ne q2, e1, gI_sI, if_neg q1]⟩ (by rw [b2]; omega) (fun q => by have q2 : prS pr used n + 0 ≤ T := q.2; rw [b2]; omega) (fun q => by omega) (fun _ q => ⟨⟨el, by rw [b2] at q; omega⟩, fun j hj => ?_⟩)
      rw [e2, sC_cp (by show j < 10; exact hj), e1, gI_sI, if_neg (by omega)]
theorem w_vainP {σ : st_S} {K : Nat → Int} {n away hsh P lm T night used H ld : Nat} {M : zM} {pr g : Nat → Nat} {Q : Int → st_S → Prop} (hc : ∀ p, pr p ≤ 9999) (hP1 : P < 1024) (hP : ∀ p, p < n → P.testBit p = (decide (¬ K p = 3) && !away.testBit p)) (hl10 : lm ≤ 10) (hN : night ≤ 9) (hu : used < 1024) (hct : night ≤ ctN used n) (hH : hOk H (hdV M K n hsh used) n) (hnl : night ≤ lm) (hs : sCx σ K n M hsh P lm true true false pr) (hsu : sPr lm n 0 T pr night used → gI σ 56 13 ≤ (T : Int))
    (h1 : (rR (crL M K n away hsh) (nlF false g n) (sPr lm n 0 T pr) (10 - night) night used ld → gI σ 56 13 ≤ (T : Int)) → Q 1 σ) (h0 : night < lm → Q 0 σ) : wp_X8_isVain (night : Int) (used : Int) (H : Int) σ Q := by
  obtain ⟨s1, s2, s3, s4, s5, s6, s7, s8, s9⟩ := hs
  have hn := s1.1.1.2.2
  rw [if_pos rfl] at s6 s7
  have nz : ¬ gI σ 56 14 = 0 := by rw [s6]; decide
  refine ⟨fun z => ?_, fun z => h1 (fun q => hsu ?_)⟩
  · rw [s3, n_andn (by omega) (by omega)]
    rw [s5] at z
    refine w_nightsFrom s1 hH (rs_P (away := away) (used := used) hP1 hP) (by omega) hct (fun r hr hpt => ?_)
    intro x ex
    rw [wkn (by omega)] at ex
    subst ex
    refine ⟨fun y => absurd y (by rw [s7]; decide), fun y => ⟨fun _ => ⟨fun w => absurd w nz, fun _ => ?_⟩, fun w => h1 (fun q => ?_)⟩⟩
    · refine w_priceOf hc hu hn s1.1.1.1 (fun p hp _ => s9 rfl p hp) ⟨fun w => ⟨Or.inl rfl, h0 (by omega)⟩, fun w => ⟨Or.inr rfl, h1 (fun q => ?_)⟩⟩
      have := rP_pr _ q
      omega
    · have := hpt _ (rP_pth _ hnl q)
      rw [s5] at w
      omega
  · rw [s5] at z
    have el : night = lm := by omega
    exact ⟨el, rP_pr _ q⟩
theorem w_cheapest {K : Nat → Int} {n m : Nat} {M : zM} {pr : Nat → Nat} {σ : st_S} {Q : Int → st_S → Prop} (h : ppC σ K n M) (hk : sKd σ) (hm : m ≤ 10) (hc : ∀ p, pr p ≤ 9999) (hpr : ∀ p, n ≤ p → pr p = 0) (hg44 : ∀ p, p < n → gI σ 44 p = (pr p : Int))
    (h1 : ∀ τ, zS σ τ → chV (crL M K n 0 0) pr m 0 0 < 1000000 → gRw (crL M K n 0 0) (nlF false (gLd K) n) (sPr m n 0 (chV (crL M K n 0 0) pr m 0 0) pr) 10 0 0 0 (gI τ 61) → Q (chV (crL M K n 0 0) pr m 0 0 : Int) τ)
    (h0 : ∀ τ, zS σ τ → ¬ chV (crL M K n 0 0) pr m 0 0 < 1000000 → Q (-1) τ) : wp_X8_cheapest (m : Int) σ Q := by
  have hn := h.1.1.2.2
  unfold wp_X8_cheapest
  rw [show gI σ 42 0 = (ppl K n : Int) from h.2.1.1]
  have pl := ppl_lt (K := K) hn
  refine w_set (P := ppl K n) (hsh := 0) (m := m) hk hm (fun τ t1 t2 a1 a2 a3 a4 a5 a6 a7 a8 => ?_)
  intro s1 e1 s2 e2 s3 e3
  have o3 : ∀ c j, ¬ (c = 56 ∧ (j = 13 ∨ j = 14 ∨ j = 15)) → gI s3 c j = gI τ c j := fun c j q => by rw [e3, gI_sI, if_neg (by omega), e2, gI_sI, if_neg (by omega), e1, gI_sI, if_neg (by omega)]
  have v13 : gI s3 56 13 = 1000000 := by rw [e3]; rfl
  have v14 : gI s3 56 14 = 1 := by rw [e3, e2, e1]; rfl
  have v15 : gI s3 56 15 = 1 := by rw [e3, e2]; rfl
  have t3 : s3.2 = σ.2 := by rw [e3, e2, e1]; exact t1
  clear e3 e2 e1
  have pt : ppC s3 K n M := ppC_of h t3 (fun c j q => by rw [o3 _ _ (by omega), t2 _ _ (by omega) (by omega)])
  have le := chV_le (cr := crL M K n 0 0) (pr := pr) (f := m) (night := 0) (used := 0)
  have eq0 := fun (hT : chV (crL M K n 0 0) pr m 0 0 < 1000000) => rP_ch (K := K) (n := n) (away := 0) (hsh := 0) (lm := m) (e := 0) (T := chV (crL M K n 0 0) pr m 0 0) (M := M) (pr := pr) (g := gLd K) hn hm hpr (by omega) 10 m (night := 0) (used := 0) (ld := 0) (by omega) (by omega)
  have eq1 := rP_ch (K := K) (n := n) (away := 0) (hsh := 0) (lm := m) (e := 1) (T := chV (crL M K n 0 0) pr m 0 0) (M := M) (pr := pr) (g := gLd K) hn hm hpr (by omega) 10 m (night := 0) (used := 0) (ld := 0) (by omega) (by omega)
  rw [prS_z] at eq1
  generalize hT : chV (crL M K n 0 0) pr m 0 0 = T at le eq0 eq1 h1 h0
  obtain ⟨H, eH, hH⟩ := pt.2.1.2.1
  rw [eH]
  have sx : sCx s3 K n M 0 (ppl K n) m true true false pr := ⟨pt, sKd_of hk t3, by rw [o3 _ _ (by omega)]; exact a1, by rw [o3 _ _ (by omega)]; exact a2, by rw [o3 _ _ (by omega)]; exact a3, v14, v15, by rw [o3 _ _ (by omega)]; exact a7, fun _ p hp => by rw [o3 _ _ (by omega), t2 _ _ (by omega) (by decide)]; exact hg44 p hp⟩
  exact w_climb (bo := fun b => (T : Int) ≤ b ∧ b ≤ 1000000) (dn := fun b => b ≤ (T : Int)) (suc := sPr m n 0 T pr) (inv := fun night used ld => night ≤ m ∧ ¬ rR (crL M K n 0 0) (nlF false (gLd K) n) (sPr m n 1 T pr) (10 - night) night used ld) (pay := true) (aim := true) (trn := false) (pr := pr) (g := gLd K) (lm := m) (M := M) (hsh := 0) (away := 0) pl (fun p hp => ppl_b p hp) (by decide) hm gLd_lt (gLd_v h.1)
    (fun night used ld c hlt hi hcm hok => ⟨by omega, fun w => hi.2 (by
      rw [show 10 - night = (10 - (night + 1)) + 1 by omega]
      exact Or.inr ⟨c, hcm, hok, w⟩)⟩)
    (fun σ' night used ld Q' hl hu hi hs' hb' k => w_noteP (away := 0) (g := gLd K) hc hu hs' hi hb' k)
    (fun σ' night used H' ld Q' hN hu hct hH' hi hs' hb' hsu k1 k0 => w_vainP hc pl (fun p hp => ppl_b p hp) hm hN hu hct hH' hi.1 hs' hsu k1 k0)
    12 0 0 H 0 (σ := s3) (by omega) (by omega) (by omega) (by omega) (by omega) (Nat.zero_le _) (hOk_root hH) ⟨Nat.zero_le _, fun w => by have := eq1.mp w; omega⟩ sx (by show (T : Int) ≤ gI s3 56 13 ∧ gI s3 56 13 ≤ 1000000; rw [v13]; omega) (fun k u l _ a b _ _ c _ => by rw [nMk_v (trn := false) ⟨fun j hj => by rw [o3 _ _ (by omega)]; exact a8 j hj, fun w => absurd w (by decide)⟩ a b] at c; exact absurd c (by decide))
    (fun υ z1 z2 z3 z4 z5 z6 z7 z8 => by
      have z3' : (T : Int) ≤ gI υ 56 13 ∧ gI υ 56 13 ≤ 1000000 := z3
      have zt : zS σ υ := zS_tr ⟨t3, fun c j q1 q2 q3 => by rw [o3 _ _ (by omega), t2 _ _ (by omega) (by omega)]⟩ (zS_D z1)
      by_cases hT0 : T < 1000000
      · have d1 : gI υ 56 13 ≤ (T : Int) := z6 ((eq0 hT0).mpr (by rw [prS_z]; omega))
        have ev : gI υ 56 13 = (T : Int) := by omega
        have g8 := (z8 (by show ¬ gI s3 56 13 ≤ (T : Int); rw [v13]; omega) d1).2.1
        refine ⟨fun _ => ?_, fun w => absurd w (by omega)⟩
        rw [ev]
        exact h1 υ zt hT0 g8
      · exact ⟨fun w => absurd (by omega) w, fun _ => h0 υ zt hT0⟩)
