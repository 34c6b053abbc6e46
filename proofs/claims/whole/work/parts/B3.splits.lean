/-! the reference splits the tape -/
theorem sb_and : ∀ x : Nat, x < 256 → o_and (sby (x : Int)) 255 = (x : Int) := by decide +kernel
theorem sb_k {x : Int} (h : 0 ≤ x ∧ x < 256) : ((97 ≤ sby x ∧ sby x ≤ 122) ↔ kdx x = 1) ∧ ((48 ≤ sby x ∧ sby x ≤ 57) ↔ kdx x = 2) ∧ (sby x = 32 ↔ x = 32) ∧ (¬ kdx x = 3 → sby x = x) := by
  unfold sby kdx
  repeat' split
  all_goals omega
theorem m_isSmall {a : Int} {σ : st_S} {Q : Int → st_S → Prop} (h1 : 97 ≤ a ∧ a ≤ 122 → Q 1 σ) (h0 : ¬ (97 ≤ a ∧ a ≤ 122) → Q 0 σ) : wp_X11_isSmall a σ Q :=
  ⟨fun w => ⟨Or.inl rfl, h0 (by omega)⟩, fun w => ⟨fun w2 => ⟨Or.inl rfl, h0 (by omega)⟩, fun w2 => ⟨Or.inr rfl, h1 (by omega)⟩⟩⟩
theorem m_isDigit {a : Int} {σ : st_S} {Q : Int → st_S → Prop} (h1 : 48 ≤ a ∧ a ≤ 57 → Q 1 σ) (h0 : ¬ (48 ≤ a ∧ a ≤ 57) → Q 0 σ) : wp_X11_isDigit a σ Q :=
  ⟨fun w => ⟨Or.inl rfl, h0 (by omega)⟩, fun w => ⟨fun w2 => ⟨Or.inl rfl, h0 (by omega)⟩, fun w2 => ⟨Or.inr rfl, h1 (by omega)⟩⟩⟩
theorem wd_list {tp : Nat → Int} {s e : Nat} {x : List Int} : wdT tp s e = x ↔ (e - s = x.length ∧ ∀ i, i < x.length → tp (s + i) = x.getD i 0) := by
  unfold wdT
  constructor
  · intro h
    subst h
    refine ⟨by simp, fun i hi => ?_⟩
    rw [List.length_map, List.length_range] at hi
    rw [List.getD_eq_getElem?_getD, List.getElem?_map, List.getElem?_range hi]
    rfl
  · rintro ⟨h1, h2⟩
    refine List.ext_getElem (by simp [h1]) (fun i hi hj => ?_)
    rw [List.getElem_map, List.getElem_range, h2 i hj, List.getD_eq_getElem?_getD, List.getElem?_eq_getElem hj]
    rfl
theorem m_wordOf {σ : st_S} {tp : Nat → Int} {s e : Nat} {Q : Int → st_S → Prop} (hw : zWd σ) (se : s ≤ e) (e4 : e ≤ 400) (ht : ∀ i, s ≤ i → i < e → gI σ 7 i = tp i) (hQ : Q (codeOf (wdT tp s e)) σ) : wp_X11_wordOf (s : Int) (e : Int) σ Q := by
  have key : ∀ m j : Nat, j + m = 29 → Q (cdF (wdT tp s e) (WL.drop j) ((j : Int) + 1)) σ → L_X11_wordOf_5 Q (m + 1) (s : Int) (e : Int) ((j + 1 : Nat) : Int) (wPos j : Int) σ := by
    intro m
    induction m with
    | zero =>
      intro j hj hq
      have ej : j = 29 := by omega
      subst ej
      rw [List.drop_of_length_le (by rw [WL_len]; exact Nat.le_refl _)] at hq
      refine ⟨fun _ => hq, fun w => absurd (by rw [wPos_29]; decide) w⟩
    | succ m ih =>
      intro j hj hq
      have j29 : j < 29 := by omega
      obtain ⟨a1, a6, a2, a3⟩ := WL_at j j29
      have hd : WL.drop j = WL.getD j [] :: WL.drop (j + 1) := by
        rw [List.drop_eq_getElem_cons (by rw [WL_len]; exact j29), List.getD_eq_getElem?_getD, List.getElem?_eq_getElem (by rw [WL_len]; exact j29)]
        rfl
      rw [hd] at hq
      have hq2 : Q (if wdT tp s e = WL.getD j [] then (j : Int) + 1 else cdF (wdT tp s e) (WL.drop (j + 1)) ((j : Int) + 1 + 1)) σ := hq
      have ep : wPos (j + 1) = wPos j + (WL.getD j []).length + 1 := rfl
      generalize hx : WL.getD j [] = x at *
      refine ⟨fun w => absurd w (by omega), fun _ => ?_⟩
      have no : ¬ wdT tp s e = x → ∀ σ', σ' = σ → B_X11_wordOf_104 Q (L_X11_wordOf_5 Q (m + 1)) (s : Int) (e : Int) ((j + 1 : Nat) : Int) (wPos j : Int) (x.length : Int) 0 σ' := by
        intro c σ' es
        subst es
        rw [if_neg c] at hq2
        refine ⟨fun _ => ?_, fun w => absurd rfl w⟩
        intro y ey z ez
        rw [show ((wPos j : Int) + ((x.length : Int) + 1)) = ((wPos (j + 1) : Nat) : Int) by omega, wr_n (by omega)] at ey
        rw [wks (by omega)] at ez
        subst ey
        subst ez
        exact ih (j + 1) (by omega) (by rw [show ((j + 1 : Nat) : Int) + 1 = (j : Int) + 1 + 1 by omega]; exact hq2)
      have cmp : e - s = x.length → ∀ f i : Nat, i + f = x.length → (∀ q, q < i → tp (s + q) = x.getD q 0) → L_X11_wordOf_57 Q (L_X11_wordOf_5 Q (m + 1)) (f + 1 + 1) (s : Int) (e : Int) ((j + 1 : Nat) : Int) (wPos j : Int) (x.length : Int) 1 (i : Int) σ := by
        intro el f
        induction f with
        | zero =>
          intro i hi hp
          refine ⟨fun _ => ⟨fun w => absurd w (by decide), fun _ => ?_⟩, fun w => absurd (by omega) w⟩
          rw [if_pos (wd_list.mpr ⟨el, fun q hq => hp q (by omega)⟩)] at hq2
          exact hq2
        | succ f ihf =>
          intro i hi hp
          refine ⟨fun w => absurd w (by omega), fun _ => ⟨fun w => absurd w (by decide), fun _ => ?_⟩⟩
          rw [show ((wPos j : Int) + (i : Int)) = ((wPos j + i : Nat) : Int) by omega, wr_n (by omega), show ((s : Int) + (i : Int)) = ((s + i : Nat) : Int) by omega, wr_n (by omega), Int.toNat_natCast, Int.toNat_natCast]
          refine ⟨ixn (by omega), ixn (by omega), ?_⟩
          rw [hw (wPos j + i) (by omega), (a3 i (by omega)).1, ht (s + i) (by omega) (by omega)]
          refine ⟨fun w => ?_, fun w => ?_⟩
          · intro y ey
            rw [wks (by omega)] at ey
            subst ey
            have c : ¬ wdT tp s e = x := fun q => w ((wd_list.mp q).2 i (by omega)).symm
            exact ⟨fun _ => no c σ rfl, fun _ => ⟨fun _ => no c σ rfl, fun w2 => absurd rfl w2⟩⟩
          · intro y ey
            rw [wks (by omega)] at ey
            subst ey
            refine ihf (i + 1) (by omega) (fun q hq => ?_)
            by_cases eq : q = i
            · subst eq; exact w.symm
            · exact hp q (by omega)
      have len : ∀ f i : Nat, i + f = x.length → L_X11_wordOf_18 Q (L_X11_wordOf_5 Q (m + 1)) (f + 1) (s : Int) (e : Int) ((j + 1 : Nat) : Int) (wPos j : Int) (i : Int) σ := by
        intro f
        induction f with
        | zero =>
          intro i hi
          have ei : i = x.length := by omega
          subst ei
          show _ ∧ _
          rw [show ((wPos j : Int) + (x.length : Int)) = ((wPos j + x.length : Nat) : Int) by omega, wr_n (by omega), Int.toNat_natCast, hw _ (by omega), a2, show ((e : Int) - (s : Int)) = ((e - s : Nat) : Int) by omega, wr_n (by omega)]
          refine ⟨ixn (by omega), fun _ => ⟨fun w => ?_, fun w => ?_⟩, fun w => absurd rfl w⟩
          · have c : ¬ wdT tp s e = x := fun q => w (by have := (wd_list.mp q).1; omega)
            exact ⟨1, fun _ => no c σ rfl, fun _ => ⟨fun _ => no c σ rfl, fun w2 => absurd rfl w2⟩⟩
          · exact ⟨_, cmp (by omega) x.length 0 (by omega) (fun q hq => absurd hq (by omega))⟩
        | succ f ihf =>
          intro i hi
          show _ ∧ _
          rw [show ((wPos j : Int) + (i : Int)) = ((wPos j + i : Nat) : Int) by omega, wr_n (by omega), Int.toNat_natCast, hw _ (by omega)]
          refine ⟨ixn (by omega), fun w => absurd w (a3 i (by omega)).2, fun _ => ?_⟩
          intro y ey
          rw [wks (by omega)] at ey
          subst ey
          exact ihf (i + 1) (by omega)
      exact ⟨x.length + 1, len x.length 0 (by omega)⟩
  exact ⟨30, key 29 0 (by omega) hQ⟩
/-- the reference's tape -/
def tpM (σ : st_S) (tp : Nat → Int) (n : Nat) : Prop := n ≤ 400 ∧ tpB tp n ∧ (∀ i, i < n → gI σ 7 i = sby (tp i)) ∧ zWd σ
def zTk (σ τ : st_S) : Prop := τ.2 = σ.2 ∧ ∀ c j, ¬ (c = 0 ∧ j = 18) → c ≠ 9 → c ≠ 10 → c ≠ 11 → gI τ c j = gI σ c j
theorem zTk_rfl {σ : st_S} : zTk σ σ := ⟨rfl, fun _ _ _ _ _ _ => rfl⟩
theorem zTk_tr {σ τ υ : st_S} (h : zTk σ τ) (g : zTk τ υ) : zTk σ υ := ⟨g.1.trans h.1, fun c j a b d e => (g.2 c j a b d e).trans (h.2 c j a b d e)⟩
theorem zTk_s {σ τ : st_S} {c j : Nat} {v : Int} (h : zTk σ τ) (hc : (c = 0 ∧ j = 18) ∨ c = 9 ∨ c = 10 ∨ c = 11) : zTk σ (sI τ c j v) := ⟨h.1, fun c' j' a b d e => by rw [gI_sI, if_neg (by omega)]; exact h.2 c' j' a b d e⟩
theorem tpM_T {σ τ : st_S} {tp : Nat → Int} {n : Nat} (h : tpM σ tp n) (g : zTk σ τ) : tpM τ tp n := ⟨h.1, h.2.1, fun i hi => by rw [g.2 _ _ (by omega) (by decide) (by decide) (by decide)]; exact h.2.2.1 i hi, fun i hi => by rw [g.2 _ _ (by omega) (by decide) (by decide) (by decide)]; exact h.2.2.2 i hi⟩
/-- tokens below t are laid -/
def tkM (σ : st_S) (tp : Nat → Int) (n t : Nat) : Prop := ∀ k, k < t → gI σ 9 k = cdT tp n k ∧ gI σ 10 k = vlT tp n k ∧ gI σ 11 k = (psT tp n k : Int)
/-- a token is laid -/
theorem m_token {σ : st_S} {tp : Nat → Int} {n t p : Nat} {Q : st_S → Prop} {k7 : Int → Int → st_S → Prop} (h : tpM σ tp n) (h18 : gI σ 0 18 = (t : Int)) (hp : p = psT tp n t) (pn : p < n) (tp4 : t ≤ p) (hk : tkM σ tp n t) (hQ : ∀ τ, zTk σ τ → gI τ 0 18 = ((t + 1 : Nat) : Int) → tkM τ tp n (t + 1) → k7 (n : Int) (gT tp n (t + 1) : Int) τ) : B_X11_splits_100 Q k7 (n : Int) (p : Int) (sby (tp p)) (gT tp n (t + 1) : Int) σ := by
  have n4 := h.1
  have bp := h.2.1 p pn
  have sk := sb_k bp
  have ge := gT_le (tp := tp) (n := n) (t + 1)
  have gs := gT_s (tp := tp) (n := n) t
  have kin := kd_in (tp := tp) (n := n) (k := t) (by rw [← hp]; exact pn)
  rw [← hp] at gs kin
  have ekd : kdT tp n t = kdx (tp p) := kin.1
  generalize ee : gT tp n (t + 1) = e at *
  unfold B_X11_splits_100
  rw [h18, Int.toNat_natCast]
  refine ⟨ixn (by omega), ?_⟩
  intro s1 e1
  have v1 : gI s1 0 18 = (t : Int) := by rw [e1]; simp only [gI_sI, Nat.reduceAdd, Nat.reduceMul, Nat.reduceEqDiff, false_and, true_and, and_false, and_true, reduceIte, Int.toNat_natCast]; exact h18
  rw [v1, Int.toNat_natCast]
  refine ⟨ixn (by omega), ?_⟩
  intro s2 e2
  have z2 : zTk σ s2 := by rw [e2, e1]; exact zTk_s (zTk_s zTk_rfl (by omega)) (by omega)
  have v2 : gI s2 0 18 = (t : Int) := by rw [e2]; simp only [gI_sI, Nat.reduceAdd, Nat.reduceMul, Nat.reduceEqDiff, false_and, true_and, and_false, and_true, reduceIte, Int.toNat_natCast]; exact v1
  rw [v2]
  -- the value's loop
  have lay : ∀ cd : Int, cd = cdT tp n t → B_X11_splits_165 Q k7 (n : Int) (p : Int) (sby (tp p)) (e : Int) cd (t : Int) s2 := by
    intro cd ecd
    unfold B_X11_splits_165
    rw [wr_n (by omega), Int.toNat_natCast]
    refine ⟨ixn (by omega), ?_⟩
    intro s3 e3
    have z3 : zTk σ s3 := by rw [e3]; exact zTk_s z2 (by omega)
    have v3 : gI s3 0 18 = (t : Int) := by rw [e3]; simp only [gI_sI, Nat.reduceAdd, Nat.reduceMul, Nat.reduceEqDiff, false_and, true_and, and_false, and_true, reduceIte, Int.toNat_natCast]; exact v2
    have c3 : gI s3 9 t = cdT tp n t := by rw [e3, ecd]; simp only [gI_sI, Nat.reduceAdd, Nat.reduceMul, Nat.reduceEqDiff, false_and, true_and, and_false, and_true, reduceIte, Int.toNat_natCast]
    have p3 : gI s3 11 t = (p : Int) := by rw [e3, e2, e1]; simp only [gI_sI, Nat.reduceAdd, Nat.reduceMul, Nat.reduceEqDiff, false_and, true_and, and_false, and_true, reduceIte, Int.toNat_natCast]
    have l3 : gI s3 10 t = 0 := by rw [e3, e2]; simp only [gI_sI, Nat.reduceAdd, Nat.reduceMul, Nat.reduceEqDiff, false_and, true_and, and_false, and_true, reduceIte, Int.toNat_natCast]
    have k3 : tkM s3 tp n t := fun k hk' => by
      have := hk k hk'
      rw [e3, e2, e1]
      simp only [gI_sI]
      repeat rw [if_neg (by omega)]
      exact this
    have fin : ∀ τ, zTk σ τ → gI τ 0 18 = (t : Int) → tkM τ tp n t → gI τ 9 t = cdT tp n t → gI τ 11 t = (p : Int) → gI τ 10 t = vlT tp n t → B_X11_splits_247 Q k7 (n : Int) (e : Int) τ := by
      intro τ a1 a2 a3 a4 a5 a6
      intro x ex s es
      rw [a2, wks (by omega)] at ex
      refine hQ s (by rw [es]; exact zTk_s a1 (by omega)) (by rw [es, ex]; simp only [gI_sI, Nat.reduceAdd, Nat.reduceMul, Nat.reduceEqDiff, false_and, true_and, and_false, and_true, reduceIte, Int.toNat_natCast]) (fun k hk' => ?_)
      rw [es]
      simp only [gI_sI, Nat.reduceAdd, Nat.reduceMul, Nat.reduceEqDiff, false_and, true_and, and_false, and_true, reduceIte, Int.toNat_natCast]
      by_cases ek : k = t
      · subst ek; exact ⟨a4, a6, by rw [a5, hp]⟩
      · exact a3 k (by omega)
    by_cases k2 : kdx (tp p) = 2
    · have key : ∀ f i : Nat, i + f = e → p ≤ i → ∀ τ, zTk σ τ → gI τ 0 18 = (t : Int) → tkM τ tp n t → gI τ 9 t = cdT tp n t → gI τ 11 t = (p : Int) → gI τ 10 t = nmM tp p (i - p) → L_X11_splits_169 Q k7 (f + 1) (n : Int) (sby (tp p)) (e : Int) (i : Int) τ := by
        intro f
        induction f with
        | zero =>
          intro i hi pi τ a1 a2 a3 a4 a5 a6
          refine ⟨fun _ => fin τ a1 a2 a3 a4 a5 ?_, fun w => absurd (by omega) w⟩
          rw [a6]
          unfold vlT
          rw [ekd, if_pos k2, ← hp, ee, show i = e by omega]
        | succ f ih =>
          intro i hi pi τ a1 a2 a3 a4 a5 a6
          refine ⟨fun w => absurd w (by omega), fun _ => m_isDigit (fun _ => ⟨fun w => absurd w (by decide), fun _ => ?_⟩) (fun w => absurd (sk.2.1.mpr k2) w)⟩
          have dg : ∀ q, p ≤ q → q < e → 48 ≤ tp q ∧ tp q ≤ 57 := fun q b1 b2 => kdx_2 (((kin.2 q b1 b2).2).trans k2)
          have nb := nmM_b (tp := tp) (s := p) (i - p) (fun q hq => dg (p + q) (by omega) (by omega))
          have di := dg i pi (by omega)
          have ti : gI τ 7 i = tp i := by rw [(tpM_T h a1).2.2.1 i (by omega)]; exact (sb_k (h.2.1 i (by omega))).2.2.2 (by rw [(kin.2 i pi (by omega)).2, k2]; decide)
          have nx : nmM tp p (i + 1 - p) = if 1000000 < nmM tp p (i - p) then nmM tp p (i - p) else 10 * nmM tp p (i - p) + tp i - 48 := by
            rw [show i + 1 - p = (i - p) + 1 by omega]
            show (if _ then _ else 10 * nmM tp p (i - p) + tp (p + (i - p)) - 48) = _
            rw [show p + (i - p) = i by omega]
          have put : ∀ v : Int, v = nmM tp p (i + 1 - p) → B_X11_splits_240 Q k7 (L_X11_splits_169 Q k7 (f + 1)) (n : Int) (sby (tp p)) (e : Int) (i : Int) v (t : Int) τ := by
            intro v ev
            unfold B_X11_splits_240
            rw [wr_n (by omega), Int.toNat_natCast]
            refine ⟨ixn (by omega), ?_⟩
            intro s es x ex
            rw [wks (by omega)] at ex
            subst ex
            refine ih (i + 1) (by omega) (by omega) s (by rw [es]; exact zTk_s a1 (by omega)) (by rw [es]; simp only [gI_sI, Nat.reduceAdd, Nat.reduceMul, Nat.reduceEqDiff, false_and, true_and, and_false, and_true, reduceIte, Int.toNat_natCast]; exact a2) (fun k hk' => ?_) (by rw [es]; simp only [gI_sI, Nat.reduceAdd, Nat.reduceMul, Nat.reduceEqDiff, false_and, true_and, and_false, and_true, reduceIte, Int.toNat_natCast]; exact a4) (by rw [es]; simp only [gI_sI, Nat.reduceAdd, Nat.reduceMul, Nat.reduceEqDiff, false_and, true_and, and_false, and_true, reduceIte, Int.toNat_natCast]; exact a5) (by rw [es, ev]; simp only [gI_sI, Nat.reduceAdd, Nat.reduceMul, Nat.reduceEqDiff, false_and, true_and, and_false, and_true, reduceIte, Int.toNat_natCast])
            rw [es]
            simp only [gI_sI]
            repeat rw [if_neg (by omega)]
            exact a3 k hk'
          rw [a2, Int.toNat_natCast, a6]
          refine ⟨ixn (by omega), fun w => ⟨ixn (by omega), ixn (by omega), ?_⟩, fun w => ⟨ixn (by omega), put _ (by rw [nx, if_pos (by omega)])⟩⟩
          intro x ex
          rw [Int.toNat_natCast, ti, wr_id (by omega) (by omega)] at ex
          exact put x (by rw [nx, if_neg (by omega)]; exact ex)
      exact ⟨e - p + 1, key (e - p) p (by omega) (Nat.le_refl _) s3 z3 v3 k3 c3 p3 (by rw [l3, show p - p = 0 by omega]; rfl)⟩
    · have ev : vlT tp n t = 0 := by unfold vlT; rw [ekd, if_neg k2]
      refine ⟨1, fun _ => fin s3 z3 v3 k3 c3 p3 (by rw [l3, ev]), fun _ => m_isDigit (fun w => absurd (sk.2.1.mp w) k2) (fun _ => ⟨fun _ => fin s3 z3 v3 k3 c3 p3 (by rw [l3, ev]), fun w => absurd rfl w⟩)⟩
  have cdv : cdT tp n t = (if kdx (tp p) = 1 then codeOf (wdT tp p e) else if kdx (tp p) = 2 then 50 else 100 + tp p) := by
    unfold cdT wdK
    rw [← hp, if_pos pn, ee]
  refine m_isSmall (fun w => ⟨fun z => absurd z (by decide), fun _ => ?_⟩) (fun w => ⟨fun _ => m_isDigit (fun w2 => ⟨fun z => absurd z (by decide), fun _ => ?_⟩) (fun w2 => ⟨fun _ => ?_, fun z => absurd rfl z⟩), fun z => absurd rfl z⟩)
  · have k1 := sk.1.mp w
    refine m_wordOf (tpM_T h z2).2.2.2 gs.1 (by omega) (fun i b1 b2 => ?_) (lay _ (by rw [cdv, if_pos k1]))
    rw [(tpM_T h z2).2.2.1 i (by omega)]
    exact (sb_k (h.2.1 i (by omega))).2.2.2 (by rw [(kin.2 i b1 b2).2, k1]; decide)
  · have k1 := sk.2.1.mp w2
    exact lay _ (by rw [cdv, k1, if_neg (by decide), if_pos rfl])
  · intro x ex
    obtain ⟨y, ey⟩ : ∃ y : Nat, tp p = (y : Int) := ⟨(tp p).toNat, by omega⟩
    rw [ey, sb_and y (by omega), wr_id (by omega) (by omega)] at ex
    refine lay _ ?_
    rw [cdv, if_neg (fun q => w (sk.1.mpr q)), if_neg (fun q => w2 (sk.2.1.mpr q)), ey]
    exact ex
theorem m_splits {σ : st_S} {tp : Nat → Int} {n : Nat} {Q : st_S → Prop} (h : tpM σ tp n) (hQ : ∀ (τ : st_S) (T : Nat), zTk σ τ → gI τ 0 18 = (T : Int) → T ≤ n → psT tp n T = n → (∀ k, k < T → psT tp n k < n) → tkM τ tp n (T + 1) → Q τ) : wp_X11_splits (n : Int) σ Q := by
  have n4 := h.1
  have key : ∀ (f p t : Nat) (τ : st_S), n - p ≤ f → p ≤ n → stT tp n p = psT tp n t → t ≤ p → (∀ k, k < t → psT tp n k < n) → zTk σ τ → gI τ 0 18 = (t : Int) → tkM τ tp n t → L_X11_splits_7 Q (f + 1) (n : Int) (p : Int) τ := by
    intro f
    induction f with
    | zero => ?_
    | succ f ih => ?_
    all_goals
      intro p t τ hf pn hst tp' hlt z h18 hk
      have dn : p = n → ix (gI τ 0 18) 401 ∧ ∀ s137 : st_S, s137 = sI τ 11 (Int.toNat (gI τ 0 18)) (n : Int) → ix (gI s137 0 18) 401 ∧ ∀ s140 : st_S, s140 = sI s137 9 (Int.toNat (gI s137 0 18)) 0 → ix (gI s140 0 18) 401 ∧ ∀ s143 : st_S, s143 = sI s140 10 (Int.toNat (gI s140 0 18)) 0 → Q s143 := by
        intro epn
        have eT : psT tp n t = n := by rw [← hst]; have := stT_is (tp := tp) (n := n) (i := p) pn; have a := this.1; have b := this.2.1; omega
        rw [h18, Int.toNat_natCast]
        refine ⟨ixn (by omega), ?_⟩
        intro s1 e1
        have v1 : gI s1 0 18 = (t : Int) := by rw [e1]; simp only [gI_sI, Nat.reduceAdd, Nat.reduceMul, Nat.reduceEqDiff, false_and, true_and, and_false, and_true, reduceIte, Int.toNat_natCast]; exact h18
        rw [v1, Int.toNat_natCast]
        refine ⟨ixn (by omega), ?_⟩
        intro s2 e2
        have v2 : gI s2 0 18 = (t : Int) := by rw [e2]; simp only [gI_sI, Nat.reduceAdd, Nat.reduceMul, Nat.reduceEqDiff, false_and, true_and, and_false, and_true, reduceIte, Int.toNat_natCast]; exact v1
        rw [v2, Int.toNat_natCast]
        refine ⟨ixn (by omega), ?_⟩
        intro s3 e3
        refine hQ s3 t (by rw [e3, e2, e1]; exact zTk_s (zTk_s (zTk_s z (by omega)) (by omega)) (by omega)) (by rw [e3]; simp only [gI_sI, Nat.reduceAdd, Nat.reduceMul, Nat.reduceEqDiff, false_and, true_and, and_false, and_true, reduceIte, Int.toNat_natCast]; exact v2) (by omega) eT hlt (fun k hk' => ?_)
        rw [e3, e2, e1]
        by_cases ek : k = t
        · subst ek
          have c0 := cd_0 eT
          simp only [gI_sI, Nat.reduceAdd, Nat.reduceMul, Nat.reduceEqDiff, false_and, true_and, and_false, and_true, reduceIte, Int.toNat_natCast]
          rw [c0.1, c0.2.2, eT]
          exact ⟨rfl, rfl, rfl⟩
        · simp only [gI_sI]
          repeat rw [if_neg (by omega)]
          exact hk k (by omega)
    · exact ⟨fun _ => dn (by omega), fun w => absurd (by omega) w⟩
    · refine ⟨fun w => dn (by omega), fun w => ⟨ixn (by omega), ?_⟩⟩
      have pn' : p < n := by omega
      intro b eb
      rw [Int.toNat_natCast, (tpM_T h z).2.2.1 p pn'] at eb
      have bp := h.2.1 p pn'
      have sk := sb_k bp
      subst eb
      refine ⟨fun w2 => ?_, fun w2 => ?_⟩
      · have n32 : ¬ tp p = 32 := fun q => w2 (sk.2.2.1.mpr q)
        have ep : p = psT tp n t := by
          rw [← hst]
          refine isRn_uniq (p := fun x => decide (x = 32)) (tp := tp) (n := n) (i := p) ⟨Nat.le_refl _, pn, fun j a b => absurd b (by omega), fun q => n32 (of_decide_eq_true q.2)⟩ (stT_is pn)
        have gs := gT_s (tp := tp) (n := n) t
        have ge := gT_le (tp := tp) (n := n) (t + 1)
        rw [← ep] at gs
        have gs2 := gs.2 pn'
        have eg : gT tp n (t + 1) = enT tp n p := by show enT tp n (psT tp n t) = _; rw [← ep]
        have tok : ∀ τ', τ' = τ → B_X11_splits_100 Q (L_X11_splits_7 Q (f + 1)) (n : Int) (p : Int) (sby (tp p)) (gT tp n (t + 1) : Int) τ' := by
          intro τ' e'
          subst e'
          refine m_token (tpM_T h z) h18 ep pn' tp' hk (fun υ a1 a2 a3 => ?_)
          refine ih (gT tp n (t + 1)) (t + 1) υ (by omega) ge rfl (by omega) (fun k hk' => ?_) (zTk_tr z a1) a2 a3
          by_cases ek : k = t
          · subst ek; rw [← ep]; exact pn'
          · exact hlt k (by omega)
        intro x ex
        rw [wks (by omega)] at ex
        subst ex
        -- the run's loops
        refine m_isSmall (fun q => ⟨fun z' => absurd z' (by decide), fun _ => ?_⟩) (fun q => ⟨fun _ => ?_, fun z' => absurd rfl z'⟩)
        · have k1 := sk.1.mp q
          have k3 : ¬ kdx (tp p) = 3 := by rw [k1]; decide
          have eg2 : gT tp n (t + 1) = rnE (fun x => decide (kdx x = kdx (tp p))) tp n n (p + 1) := by rw [eg]; unfold enT; rw [if_pos pn', if_neg k3]
          have lp : ∀ (g i : Nat), n - i ≤ g → i ≤ n → rnE (fun x => decide (kdx x = kdx (tp p))) tp n g i = gT tp n (t + 1) → L_X11_splits_43 Q (L_X11_splits_7 Q (f + 1)) (g + 1) (n : Int) (p : Int) (sby (tp p)) (i : Int) τ := by
            intro g
            induction g with
            | zero =>
              intro i hg hi hr
              have er : i = gT tp n (t + 1) := hr
              refine ⟨fun _ => m_isDigit (fun w => absurd ((sk.2.1.mp w).symm.trans k1) (by decide)) (fun _ => ⟨fun _ => by rw [er]; exact tok τ rfl, fun w => absurd rfl w⟩), fun w => absurd (by omega) w⟩
            | succ g ihg =>
              intro i hg hi hr
              have nx : ∀ er : i = gT tp n (t + 1), B_X11_splits_68 Q (L_X11_splits_7 Q (f + 1)) (n : Int) (p : Int) (sby (tp p)) (i : Int) τ := fun er => m_isDigit (fun w => absurd ((sk.2.1.mp w).symm.trans k1) (by decide)) (fun _ => ⟨fun _ => by rw [er]; exact tok τ rfl, fun w => absurd rfl w⟩)
              unfold rnE at hr
              refine ⟨fun w => nx (by rw [if_neg (by omega)] at hr; exact hr), fun w => ⟨ixn (by omega), ?_⟩⟩
              have si := sb_k (h.2.1 i (by omega))
              rw [Int.toNat_natCast, (tpM_T h z).2.2.1 i (by omega)]
              refine m_isSmall (fun q2 => ⟨fun z' => absurd z' (by decide), fun _ => ?_⟩) (fun q2 => ⟨fun _ => nx (by rw [if_neg (fun y => q2 (si.1.mpr ((of_decide_eq_true y.2).trans k1)))] at hr; exact hr), fun z' => absurd rfl z'⟩)
              intro x ex
              rw [wks (by omega)] at ex
              subst ex
              rw [if_pos ⟨by omega, decide_eq_true ((si.1.mp q2).trans k1.symm)⟩] at hr
              exact ihg (i + 1) (by omega) (by omega) hr
          exact ⟨n + 1, lp n (p + 1) (by omega) (by omega) eg2.symm⟩
        · refine m_isDigit (fun q2 => ⟨fun z' => absurd z' (by decide), fun _ => ?_⟩) (fun q2 => ⟨fun _ => ?_, fun z' => absurd rfl z'⟩)
          · have k1 := sk.2.1.mp q2
            have k3 : ¬ kdx (tp p) = 3 := by rw [k1]; decide
            have eg2 : gT tp n (t + 1) = rnE (fun x => decide (kdx x = kdx (tp p))) tp n n (p + 1) := by rw [eg]; unfold enT; rw [if_pos pn', if_neg k3]
            have lp : ∀ (g i : Nat), n - i ≤ g → i ≤ n → rnE (fun x => decide (kdx x = kdx (tp p))) tp n g i = gT tp n (t + 1) → L_X11_splits_75 Q (L_X11_splits_7 Q (f + 1)) (g + 1) (n : Int) (p : Int) (sby (tp p)) (i : Int) τ := by
              intro g
              induction g with
              | zero =>
                intro i hg hi hr
                have er : i = gT tp n (t + 1) := hr
                exact ⟨fun _ => by rw [er]; exact tok τ rfl, fun w => absurd (by omega) w⟩
              | succ g ihg =>
                intro i hg hi hr
                unfold rnE at hr
                refine ⟨fun w => by rw [if_neg (by omega)] at hr; rw [hr]; exact tok τ rfl, fun w => ⟨ixn (by omega), ?_⟩⟩
                have si := sb_k (h.2.1 i (by omega))
                rw [Int.toNat_natCast, (tpM_T h z).2.2.1 i (by omega)]
                refine m_isDigit (fun q2 => ⟨fun z' => absurd z' (by decide), fun _ => ?_⟩) (fun q2 => ⟨fun _ => by rw [if_neg (fun y => q2 (si.2.1.mpr ((of_decide_eq_true y.2).trans k1)))] at hr; rw [hr]; exact tok τ rfl, fun z' => absurd rfl z'⟩)
                intro x ex
                rw [wks (by omega)] at ex
                subst ex
                rw [if_pos ⟨by omega, decide_eq_true ((si.2.1.mp q2).trans k1.symm)⟩] at hr
                exact ihg (i + 1) (by omega) (by omega) hr
            exact ⟨n + 1, lp n (p + 1) (by omega) (by omega) eg2.symm⟩
          · have k3 : kdx (tp p) = 3 := by
              rcases kdx_v (tp p) with c | c | c
              · exact absurd (sk.1.mpr c) q
              · exact absurd (sk.2.1.mpr c) q2
              · exact c
            have eg2 : gT tp n (t + 1) = p + 1 := by rw [eg]; unfold enT; rw [if_pos pn', if_pos k3]
            rw [← eg2]
            exact tok τ rfl
      · have e32 : tp p = 32 := sk.2.2.1.mp w2
        intro x ex
        rw [wks (by omega)] at ex
        subst ex
        refine ih (p + 1) t τ (by omega) (by omega) ?_ (by omega) hlt z h18 hk
        rw [← hst]
        have a := stT_is (tp := tp) (n := n) (i := p + 1) (by omega)
        refine isRn_uniq (p := fun x => decide (x = 32)) (tp := tp) (n := n) (i := p) ⟨by have := a.1; omega, a.2.1, fun j b1 b2 => ?_, a.2.2.2⟩ (stT_is pn)
        by_cases e : j = p
        · subst e; exact decide_eq_true e32
        · exact a.2.2.1 j (by omega) b2
  intro s1 e1
  refine ⟨n + 1, key n 0 0 s1 (by omega) (Nat.zero_le _) rfl (Nat.zero_le _) (fun k hk => absurd hk (Nat.not_lt_zero _)) (by rw [e1]; exact zTk_s zTk_rfl (by omega)) (by rw [e1]; simp only [gI_sI, Nat.reduceAdd, Nat.reduceMul, Nat.reduceEqDiff, false_and, true_and, and_false, and_true, reduceIte, Int.toNat_natCast]; rfl) (fun k hk => absurd hk (Nat.not_lt_zero _))⟩
