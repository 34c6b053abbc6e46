/-! words: the class's texts, the reference's list -/
theorem s_len : ∀ t, t < 12 → o_shr (sLn t) 0 = ((sLen.getD t 0 : Nat) : Int) := by decide +kernel
theorem s_byt : ∀ t, t < 12 → ∀ i, i < sLen.getD t 0 → o_i2c (o_and (sBy t i) 255) = sBy t i ∧ 0 ≤ sBy t i ∧ sBy t i < 128 := by decide +kernel
theorem s_ln : ∀ t, t < 12 → sLn t = ((sLen.getD t 0 : Nat) : Int) ∧ sLen.getD t 0 ≤ 52 := by decide +kernel
theorem c_i2c : ∀ c : Nat, c < 256 → o_i2c (c : Int) = (c : Int) := by decide +kernel
theorem c_i2b : ∀ c : Nat, c < 256 → o_i2b (c : Int) = if c < 128 then (c : Int) else (c : Int) - 256 := by decide +kernel
theorem w_length {t : Nat} {σ : st_S} {Q : Int → st_S → Prop} (ht : t < 12) (h : Q ((sLen.getD t 0 : Nat) : Int) σ) : wp_J0_length_8abf5 t σ Q := by
  refine ⟨ht, ht, ht, fun w => absurd w (by decide), fun _ => ⟨ht, Or.inl rfl, ?_⟩⟩
  show Q (o_shr (sLn t) 0) σ
  rw [s_len t ht]
  exact h
theorem w_charAt {t i : Nat} {σ : st_S} {Q : Int → st_S → Prop} (ht : t < 12) (hi : i < sLen.getD t 0) (h : Q (sBy t i) σ) : wp_J0_charAt_5068e t (i : Int) σ Q := by
  have b := s_byt t ht i hi
  have l := s_ln t ht
  refine ⟨ht, fun w => absurd w (by decide), fun _ => ⟨ht, fun w => absurd rfl w, fun _ => ⟨Or.inr rfl, fun w => absurd w (by decide), fun _ => ⟨ht, ht, fun f => ?_⟩⟩⟩⟩
  refine ⟨fun w => absurd w (by omega), fun _ => ⟨fun _ => ⟨⟨ht, ixn hi⟩, ?_⟩, fun w => absurd (by rw [l.1]; omega) w⟩⟩
  rw [Int.toNat_natCast, b.1]
  exact ⟨⟨b.2.1, by omega⟩, h⟩
def ixF (c : Int) : List Int → Int → Int
  | [], _ => -1
  | b :: l, i => if b = c then i else ixF c l (i + 1)
def sbs (t : Nat) : List Int := (List.range (sLen.getD t 0)).map (sBy t)
theorem sbs_len (t : Nat) : (sbs t).length = sLen.getD t 0 := by simp [sbs]
theorem sbs_at {t i : Nat} {b : Int} {l : List Int} (h : (sbs t).drop i = b :: l) : i < sLen.getD t 0 ∧ sBy t i = b ∧ (sbs t).drop (i + 1) = l := by
  have hl : i < (sbs t).length := by
    have := congrArg List.length h
    rw [List.length_drop, List.length_cons] at this
    omega
  have e := List.drop_eq_getElem_cons hl
  rw [h] at e
  have e1 := (List.cons.inj e).1
  have e2 := (List.cons.inj e).2
  refine ⟨by rw [sbs_len] at hl; exact hl, ?_, e2.symm⟩
  rw [e1]
  simp [sbs]
theorem sbs_end {t i : Nat} (h : (sbs t).drop i = []) (hi : i ≤ sLen.getD t 0) : i = sLen.getD t 0 := by
  have := congrArg List.length h
  rw [List.length_drop, sbs_len, List.length_nil] at this
  omega
theorem w_indexOf {t c : Nat} {σ : st_S} {Q : Int → st_S → Prop} (ht : t < 12) (hc : c < 256) (h : Q (ixF (c : Int) (sbs t) 0) σ) : wp_J0_indexOf_0f7a4 t (o_i2c (c : Int)) σ Q := by
  rw [c_i2c c hc]
  have l := s_ln t ht
  have key : ∀ (m : List Int) (i : Nat) (hd : (sbs t).drop i = m) (hi : i ≤ sLen.getD t 0), Q (ixF (c : Int) m (i : Int)) σ → L_J1_indexOfChar_4cfef_7 (fun r19 s20 => B_J0_indexOf_7cf53_36 (fun r3 s4 => Q r3 s4) r19 s20) (m.length + 1) t ((sLen.getD t 0 : Nat) : Int) (o_i2b (c : Int)) (i : Int) σ := by
    intro m
    induction m with
    | nil =>
      intro i hd hi hq
      exact ⟨fun _ => hq, fun w => absurd (by rw [sbs_end hd hi]; omega) w⟩
    | cons b m ih =>
      intro i hd hi hq
      obtain ⟨a1, a2, a3⟩ := sbs_at hd
      have bb := s_byt t ht i a1
      refine ⟨fun w => absurd w (by omega), fun _ => ⟨⟨ht, ixn a1⟩, ?_⟩⟩
      rw [Int.toNat_natCast]
      have cc : sBy t i = o_i2b (c : Int) ↔ b = (c : Int) := by
        rw [c_i2b c hc, ← a2]
        split <;> omega
      have hq2 : Q (if b = (c : Int) then (i : Int) else ixF (c : Int) m ((i : Int) + 1)) σ := hq
      refine ⟨fun w => ?_, fun w => ?_⟩
      · rw [if_neg (fun q => w (cc.mpr q))] at hq2
        intro x ex
        rw [wks (by omega)] at ex
        subst ex
        exact ih (i + 1) a3 (by omega) (by rw [show ((i + 1 : Nat) : Int) = (i : Int) + 1 by omega]; exact hq2)
      · rw [if_pos (cc.mp w)] at hq2
        exact hq2
  refine ⟨ht, ht, fun w => absurd w (by decide), fun _ => ⟨ht, fun w => absurd rfl w, fun _ => ⟨Or.inr rfl, fun w => absurd w (by decide), fun _ => ⟨ht, ht, w_length ht ?_⟩⟩⟩⟩
  refine ⟨fun w => absurd w (by omega), fun _ => ⟨fun w => absurd w (by omega), fun _ => ⟨Or.inr rfl, fun _ => ?_, fun w => absurd w (by decide)⟩⟩⟩
  intro x ex
  refine ⟨ht, ?_⟩
  intro y ey
  have ex0 : x = 0 := by rw [ex]; rfl
  have eyl : y = ((sLen.getD t 0 : Nat) : Int) := by rw [ey, l.1]; unfold o_min; split <;> rfl
  subst ex0
  subst eyl
  refine ⟨fun w => ?_, fun w => ?_⟩
  · intro z ez
    subst ez
    exact ⟨_, key (sbs t) 0 rfl (Nat.zero_le _) h⟩
  · have e0 : sbs t = [] := List.eq_nil_of_length_eq_zero (by rw [sbs_len]; omega)
    rw [e0] at h
    exact h
/-! a token's letters -/
def wdT (tp : Nat → Int) (s e : Nat) : List Int := (List.range (e - s)).map (fun i => tp (s + i))
def slc (t a b : Nat) : List Int := (List.range (b - a)).map (fun i => sBy t (a + i))
theorem wd_slc {tp : Nat → Int} {s e t a b : Nat} : wdT tp s e = slc t a b ↔ (e - s = b - a ∧ ∀ i, i < b - a → tp (s + i) = sBy t (a + i)) := by
  unfold wdT slc
  constructor
  · intro h
    have hl := congrArg List.length h
    simp only [List.length_map, List.length_range] at hl
    refine ⟨hl, fun i hi => ?_⟩
    have := congrArg (fun l : List Int => l[i]?) h
    simp only [List.getElem?_map, List.getElem?_range hi, List.getElem?_range (show i < e - s by omega), Option.map_some, Option.some.injEq] at this
    exact this
  · rintro ⟨h1, h2⟩
    rw [h1]
    exact List.map_congr_left (fun i hi => h2 i (List.mem_range.mp hi))
theorem slc_self (t a : Nat) : slc t a a = [] := by simp [slc]
theorem slc_s {t a b : Nat} (h : a ≤ b) : slc t a (b + 1) = slc t a b ++ [sBy t b] := by
  unfold slc
  rw [show b + 1 - a = (b - a) + 1 by omega, List.range_succ, List.map_append]
  simp only [List.map_cons, List.map_nil]
  rw [show a + (b - a) = b by omega]
theorem slc_all (t : Nat) : slc t 0 (sLen.getD t 0) = sbs t := by simp [slc, sbs]
theorem w_isWithin {σ : st_S} {tp : Nat → Int} {n s e t a b : Nat} {kd : Int} {Q : Int → st_S → Prop} (h : tpC σ tp n) (h5 : gI σ 12 5 = kd) (h6 : gI σ 12 6 = (s : Int)) (h7 : gI σ 12 7 = (e : Int)) (se : s ≤ e) (en : e ≤ n) (ht : t < 12) (ab : a ≤ b) (bl : b ≤ sLen.getD t 0) (hQ : Q (if kd = 1 ∧ wdT tp s e = slc t a b then 1 else 0) σ) : wp_X6_isWithin t (a : Int) (b : Int) σ Q := by
  have n400 := h.2.1.1
  have l52 := (s_ln t ht).2
  unfold wp_X6_isWithin
  rw [h5, h6, h7, wr_id (by omega) (by omega), wr_id (by omega) (by omega)]
  refine ⟨fun w => ?_, fun w => ⟨fun w2 => ?_, fun w2 => ?_⟩⟩
  · rw [if_neg (fun q => w q.1)] at hQ; exact hQ
  · have el : e - s = b - a := by omega
    have key : ∀ m i : Nat, i + m = b → a ≤ i → (∀ j, a ≤ j → j < i → tp (s + (j - a)) = sBy t j) → L_X6_isWithin_28 Q (m + 1) t (a : Int) (b : Int) (i : Int) σ := by
      intro m
      induction m with
      | zero =>
        intro i hi ai hj
        refine ⟨fun _ => ?_, fun q => absurd (by omega) q⟩
        rw [if_pos ⟨w, wd_slc.mpr ⟨el, fun j hj2 => by
          have := hj (a + j) (by omega) (by omega)
          rw [show a + j - a = j by omega] at this
          exact this⟩⟩] at hQ
        exact hQ
      | succ m ih =>
        intro i hi ai hj
        refine ⟨fun q => absurd q (by omega), fun _ => ⟨ht, w_charAt ht (by omega) ?_⟩⟩
        rw [h6, show ((s : Int) + (i : Int) - (a : Int)) = ((s + (i - a) : Nat) : Int) by omega, wr_n (by omega), Int.toNat_natCast, h.2.2 _ (by omega)]
        refine ⟨ixn (by omega), fun q => ?_, fun q => ?_⟩
        · intro x ex
          rw [wks (by omega)] at ex
          subst ex
          refine ih (i + 1) (by omega) (by omega) (fun j a1 a2 => ?_)
          by_cases ej : j = i
          · subst ej; exact q.symm
          · exact hj j a1 (by omega)
        · rw [if_neg (fun z => ?_)] at hQ
          · exact hQ
          · have := (wd_slc.mp z.2).2 (i - a) (by omega)
            rw [show a + (i - a) = i by omega] at this
            exact q this.symm
    exact ⟨b - a + 1, key (b - a) a (by omega) (Nat.le_refl _) (fun j a1 a2 => absurd a2 (by omega))⟩
  · rw [if_neg (fun z => w2 (by have := (wd_slc.mp z.2).1; omega))] at hQ; exact hQ
theorem w_isWord {σ : st_S} {tp : Nat → Int} {n s e t : Nat} {kd : Int} {Q : Int → st_S → Prop} (h : tpC σ tp n) (h5 : gI σ 12 5 = kd) (h6 : gI σ 12 6 = (s : Int)) (h7 : gI σ 12 7 = (e : Int)) (se : s ≤ e) (en : e ≤ n) (ht : t < 12) (hQ : Q (if kd = 1 ∧ wdT tp s e = sbs t then 1 else 0) σ) : wp_X6_isWord t σ Q := by
  refine ⟨ht, w_length ht (w_isWithin (a := 0) h h5 h6 h7 se en ht (Nat.zero_le _) (Nat.le_refl _) ?_)⟩
  rw [slc_all]
  refine ⟨?_, hQ⟩
  split
  · exact Or.inr rfl
  · exact Or.inl rfl
def spl : List Int → List Int → List (List Int)
  | acc, [] => [acc]
  | acc, b :: l => if b = 32 then acc :: spl [] l else spl (acc ++ [b]) l
def ixQ (q : List Int → Bool) : List (List Int) → Int → Int
  | [], _ => -1
  | x :: l, i => if q x = true then i else ixQ q l (i + 1)
theorem w_place {σ : st_S} {tp : Nat → Int} {n s e t : Nat} {kd : Int} {Q : Int → st_S → Prop} (h : tpC σ tp n) (h5 : gI σ 12 5 = kd) (h6 : gI σ 12 6 = (s : Int)) (h7 : gI σ 12 7 = (e : Int)) (se : s ≤ e) (en : e ≤ n) (ht : t < 12) (hQ : Q (ixQ (fun x => decide (kd = 1 ∧ wdT tp s e = x)) (spl [] (sbs t)) 0) σ) : wp_X6_place t σ Q := by
  have l52 := (s_ln t ht).2
  have key : ∀ (l : List Int) (i first index : Nat), (sbs t).drop i = l → first ≤ i → i ≤ sLen.getD t 0 → index ≤ i → Q (ixQ (fun x => decide (kd = 1 ∧ wdT tp s e = x)) (spl (slc t first i) l) (index : Int)) σ → L_X6_place_7 Q (l.length + 2) t (index : Int) (first : Int) (i : Int) σ := by
    intro l
    induction l with
    | nil =>
      intro i first index hd fi il ii hq
      have ei := sbs_end hd il
      refine ⟨ht, w_length ht ⟨fun w => absurd w (by omega), fun _ => ⟨ht, w_length ht ⟨fun _ => ?_, fun w => absurd (by rw [ei]) w⟩⟩⟩⟩
      refine w_isWithin h h5 h6 h7 se en ht fi il ?_
      have hq2 : Q (if decide (kd = 1 ∧ wdT tp s e = slc t first i) = true then (index : Int) else -1) σ := hq
      by_cases c : kd = 1 ∧ wdT tp s e = slc t first i
      · rw [if_pos c]
        rw [if_pos (decide_eq_true c)] at hq2
        exact ⟨fun w => absurd w (by decide), fun _ => hq2⟩
      · rw [if_neg c]
        rw [if_neg (fun z => c (of_decide_eq_true z))] at hq2
        refine ⟨fun _ => ?_, fun w => absurd rfl w⟩
        intro x ex y ey z ez
        rw [wks (by omega)] at ez
        subst ez
        refine ⟨ht, w_length ht ⟨fun _ => hq2, fun w => absurd (by omega) w⟩⟩
    | cons b l ih =>
      intro i first index hd fi il ii hq
      obtain ⟨a1, a2, a3⟩ := sbs_at hd
      refine ⟨ht, w_length ht ⟨fun w => absurd w (by omega), fun _ => ⟨ht, w_length ht ⟨fun w => absurd w (by omega), fun _ => ⟨ht, w_charAt ht a1 ?_⟩⟩⟩⟩⟩
      rw [a2]
      have hq2 : Q (ixQ (fun x => decide (kd = 1 ∧ wdT tp s e = x)) (if b = 32 then slc t first i :: spl [] l else spl (slc t first i ++ [b]) l) (index : Int)) σ := hq
      refine ⟨fun w => ?_, fun w => ?_⟩
      · rw [if_neg w, ← a2, ← slc_s fi] at hq2
        intro x ex
        rw [wks (by omega)] at ex
        subst ex
        exact ih (i + 1) first index a3 (by omega) (by omega) (by omega) hq2
      · rw [if_pos w] at hq2
        have hq3 : Q (if decide (kd = 1 ∧ wdT tp s e = slc t first i) = true then (index : Int) else ixQ (fun x => decide (kd = 1 ∧ wdT tp s e = x)) (spl [] l) ((index : Int) + 1)) σ := hq2
        refine w_isWithin h h5 h6 h7 se en ht fi il ?_
        by_cases c : kd = 1 ∧ wdT tp s e = slc t first i
        · rw [if_pos c]
          rw [if_pos (decide_eq_true c)] at hq3
          exact ⟨fun w => absurd w (by decide), fun _ => hq3⟩
        · rw [if_neg c]
          rw [if_neg (fun z => c (of_decide_eq_true z))] at hq3
          refine ⟨fun _ => ?_, fun w => absurd rfl w⟩
          intro x ex y ey z ez
          rw [wks (by omega)] at ex ey ez
          subst ex
          subst ey
          subst ez
          refine ih (i + 1) (i + 1) (index + 1) a3 (Nat.le_refl _) (by omega) (by omega) ?_
          rw [slc_self, show ((index + 1 : Nat) : Int) = (index : Int) + 1 by omega]
          exact hq3
  refine ⟨_, key (sbs t) 0 0 0 rfl (Nat.le_refl _) (Nat.zero_le _) (Nat.le_refl _) ?_⟩
  rw [slc_self]
  exact hQ
/-! the reference's words -/
def WL : List (List Int) := (spl [] wTab).take 29
def wPos : Nat → Nat
  | 0 => 0
  | j + 1 => wPos j + (WL.getD j []).length + 1
def cdF (w : List Int) : List (List Int) → Int → Int
  | [], _ => 0
  | x :: l, i => if w = x then i else cdF w l (i + 1)
def codeOf (w : List Int) : Int := cdF w WL 1
theorem WL_len : WL.length = 29 := by decide +kernel
theorem WL_nd : WL.Nodup := by decide +kernel
theorem wPos_29 : wPos 29 = 153 := by decide +kernel
theorem WL_at : ∀ j, j < 29 → wPos j + (WL.getD j []).length < 153 ∧ (WL.getD j []).length ≤ 6 ∧ wTab.getD (wPos j + (WL.getD j []).length) 0 = 32 ∧ ∀ i, i < (WL.getD j []).length → wTab.getD (wPos j + i) 0 = (WL.getD j []).getD i 0 ∧ ¬ wTab.getD (wPos j + i) 0 = 32 := by decide +kernel
theorem cdF_b {w : List Int} : ∀ (l : List (List Int)) (i : Int), 0 < i → cdF w l i = 0 ∨ (i ≤ cdF w l i ∧ cdF w l i < i + l.length) := by
  intro l
  induction l with
  | nil => intro i _; exact Or.inl rfl
  | cons x l ih =>
    intro i hi
    show (if w = x then i else cdF w l (i + 1)) = 0 ∨ (i ≤ (if w = x then i else cdF w l (i + 1)) ∧ (if w = x then i else cdF w l (i + 1)) < i + (x :: l).length)
    rw [List.length_cons]
    split
    · right; omega
    · rcases ih (i + 1) (by omega) with a | a
      · exact Or.inl a
      · right; omega
theorem cdF_i {w : List Int} : ∀ (l : List (List Int)) (i : Int) (c : Nat), 0 < i → l.Nodup → c < l.length → (cdF w l i = i + (c : Int) ↔ w = l.getD c []) := by
  intro l
  induction l with
  | nil => intro i c _ _ h; exact absurd h (Nat.not_lt_zero _)
  | cons x l ih =>
    intro i c hi nd hc
    show (if w = x then i else cdF w l (i + 1)) = i + (c : Int) ↔ _
    rw [List.nodup_cons] at nd
    rw [List.length_cons] at hc
    cases c with
    | zero =>
      rw [List.getD_cons_zero]
      split
      · rename_i e; exact ⟨fun _ => e, fun _ => by omega⟩
      · rename_i e
        refine ⟨fun q => ?_, fun q => absurd q e⟩
        rcases cdF_b (w := w) l (i + 1) (by omega) with a | a <;> omega
    | succ c =>
      rw [List.getD_cons_succ]
      split
      · rename_i e
        refine ⟨fun q => absurd q (by omega), fun q => ?_⟩
        exfalso
        apply nd.1
        rw [← e, q, List.getD_eq_getElem?_getD, List.getElem?_eq_getElem (by omega : c < l.length)]
        exact List.getElem_mem _
      · rw [show i + ((c + 1 : Nat) : Int) = (i + 1) + (c : Int) by omega]
        exact ih (i + 1) c (by omega) nd.2 (by omega)
theorem code_i {w : List Int} {c : Nat} (hc : c < 29) : codeOf w = (c : Int) + 1 ↔ w = WL.getD c [] := by
  have := cdF_i (w := w) WL 1 c (by decide) WL_nd (by rw [WL_len]; exact hc)
  rw [show (1 : Int) + (c : Int) = (c : Int) + 1 by omega] at this
  exact this
theorem code_b (w : List Int) : 0 ≤ codeOf w ∧ codeOf w ≤ 29 := by
  have := cdF_b (w := w) WL 1 (by decide)
  rw [WL_len] at this
  have e : codeOf w = cdF w WL 1 := rfl
  omega
