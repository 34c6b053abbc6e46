/-! the tape in words, numbers and signs -/
def rnE (p : Int → Bool) (tp : Nat → Int) (n : Nat) : Nat → Nat → Nat
  | 0, i => i
  | f + 1, i => if i < n ∧ p (tp i) = true then rnE p tp n f (i + 1) else i
def isRn (p : Int → Bool) (tp : Nat → Int) (n i e : Nat) : Prop := i ≤ e ∧ e ≤ n ∧ (∀ j, i ≤ j → j < e → p (tp j) = true) ∧ ¬ (e < n ∧ p (tp e) = true)
theorem rnE_is {p : Int → Bool} {tp : Nat → Int} {n : Nat} : ∀ (f i : Nat), i ≤ n → n - i ≤ f → isRn p tp n i (rnE p tp n f i) := by
  intro f
  induction f with
  | zero =>
    intro i h1 h2
    exact ⟨Nat.le_refl _, h1, fun j a b => absurd b (by show ¬ j < i; omega), fun q => absurd q.1 (by show ¬ i < n; omega)⟩
  | succ f ih =>
    intro i h1 h2
    unfold rnE
    by_cases h : i < n ∧ p (tp i) = true
    · rw [if_pos h]
      obtain ⟨a, b, c, d⟩ := ih (i + 1) (by omega) (by omega)
      refine ⟨by omega, b, fun j x y => ?_, d⟩
      by_cases e : j = i
      · subst e; exact h.2
      · exact c j (by omega) y
    · rw [if_neg h]
      exact ⟨Nat.le_refl _, h1, fun j a b => absurd b (by omega), h⟩
theorem isRn_uniq {p : Int → Bool} {tp : Nat → Int} {n i a b : Nat} (h : isRn p tp n i a) (g : isRn p tp n i b) : a = b := by
  rcases Nat.lt_trichotomy a b with w | w | w
  · exact absurd ⟨by have := g.2.1; omega, g.2.2.1 a h.1 w⟩ h.2.2.2
  · exact w
  · exact absurd ⟨by have := h.2.1; omega, h.2.2.1 b g.1 w⟩ g.2.2.2
def kdx (x : Int) : Int := if 97 ≤ x ∧ x ≤ 122 then 1 else if 48 ≤ x ∧ x ≤ 57 then 2 else 3
def stT (tp : Nat → Int) (n i : Nat) : Nat := rnE (fun x => decide (x = 32)) tp n n i
def enT (tp : Nat → Int) (n s : Nat) : Nat := if s < n then (if kdx (tp s) = 3 then s + 1 else rnE (fun x => decide (kdx x = kdx (tp s))) tp n n (s + 1)) else s
def gT (tp : Nat → Int) (n : Nat) : Nat → Nat
  | 0 => 0
  | k + 1 => enT tp n (stT tp n (gT tp n k))
def psT (tp : Nat → Int) (n k : Nat) : Nat := stT tp n (gT tp n k)
def kdT (tp : Nat → Int) (n k : Nat) : Int := if psT tp n k < n then kdx (tp (psT tp n k)) else 0
def nmf (tp : Nat → Int) (s : Nat) : Nat → Int
  | 0 => 0
  | j + 1 => o_min (nmf tp s j * 10 + tp (s + j) - 48) 1001
def nmT (tp : Nat → Int) (n k : Nat) : Int := if kdT tp n k = 2 then nmf tp (psT tp n k) (gT tp n (k + 1) - psT tp n k) else 0
theorem kdx_v (x : Int) : kdx x = 1 ∨ kdx x = 2 ∨ kdx x = 3 := by unfold kdx; split; omega; split <;> omega
theorem kdx_2 {x : Int} (h : kdx x = 2) : 48 ≤ x ∧ x ≤ 57 := by
  unfold kdx at h
  split at h
  · omega
  · split at h
    · omega
    · omega
theorem stT_is {tp : Nat → Int} {n i : Nat} (h : i ≤ n) : isRn (fun x => decide (x = 32)) tp n i (stT tp n i) := rnE_is n i h (by omega)
theorem enT_le {tp : Nat → Int} {n s : Nat} (h : s ≤ n) : s ≤ enT tp n s ∧ enT tp n s ≤ n ∧ (s < n → s < enT tp n s) := by
  unfold enT
  split
  · split
    · omega
    · have := rnE_is (p := fun x => decide (kdx x = kdx (tp s))) (tp := tp) (n := n) n (s + 1) (by omega) (by omega)
      have a := this.1
      have b := this.2.1
      omega
  · omega
theorem gT_le {tp : Nat → Int} {n : Nat} : ∀ k, gT tp n k ≤ n := by
  intro k
  induction k with
  | zero => exact Nat.zero_le _
  | succ k ih => exact (enT_le (stT_is ih).2.1).2.1
theorem psT_le {tp : Nat → Int} {n : Nat} (k : Nat) : gT tp n k ≤ psT tp n k ∧ psT tp n k ≤ n := ⟨(stT_is (gT_le k)).1, (stT_is (gT_le k)).2.1⟩
theorem gT_s {tp : Nat → Int} {n : Nat} (k : Nat) : psT tp n k ≤ gT tp n (k + 1) ∧ (psT tp n k < n → psT tp n k < gT tp n (k + 1)) := ⟨(enT_le (psT_le k).2).1, (enT_le (psT_le k).2).2.2⟩
theorem psT_mono {tp : Nat → Int} {n : Nat} (k : Nat) : psT tp n k ≤ psT tp n (k + 1) ∧ (psT tp n k < n → psT tp n k < psT tp n (k + 1)) := by
  have a := gT_s (tp := tp) (n := n) k
  have b := psT_le (tp := tp) (n := n) (k + 1)
  exact ⟨by omega, fun h => by have := a.2 h; omega⟩
theorem psT_k {tp : Nat → Int} {n : Nat} : ∀ k, k ≤ psT tp n k ∨ psT tp n k = n := by
  intro k
  induction k with
  | zero => exact Or.inl (Nat.zero_le _)
  | succ k ih =>
    have a := psT_mono (tp := tp) (n := n) k
    have b := (psT_le (tp := tp) (n := n) k).2
    have c := (psT_le (tp := tp) (n := n) (k + 1)).2
    by_cases h : psT tp n k < n
    · have := a.2 h; omega
    · omega
theorem nmf_b {tp : Nat → Int} {s : Nat} : ∀ j, (∀ i, i < j → 48 ≤ tp (s + i) ∧ tp (s + i) ≤ 57) → 0 ≤ nmf tp s j ∧ nmf tp s j ≤ 1001 := by
  intro j
  induction j with
  | zero => intro _; exact ⟨Int.le_refl _, (by decide : (0 : Int) ≤ 1001)⟩
  | succ j ih =>
    intro h
    have a := ih (fun i hi => h i (by omega))
    have b := h j (by omega)
    show 0 ≤ o_min (nmf tp s j * 10 + tp (s + j) - 48) 1001 ∧ o_min (nmf tp s j * 10 + tp (s + j) - 48) 1001 ≤ 1001
    unfold o_min
    split <;> omega
/-! the class: advance -/
theorem w_kindOf {a : Int} {σ : st_S} {Q : Int → st_S → Prop} (h : Q (kdx a) σ) : wp_X6_kindOf a σ Q := by
  unfold kdx at h
  have low : ¬ (97 ≤ a ∧ a ≤ 122) → B_X6_kindOf_14 Q a σ := by
    intro q
    rw [if_neg q] at h
    refine ⟨fun w => ?_, fun w => ⟨fun w2 => ?_, fun w2 => ?_⟩⟩
    · rw [if_neg (by omega)] at h; exact h
    · rw [if_neg (by omega)] at h; exact h
    · rw [if_pos (by omega)] at h; exact h
  refine ⟨fun w => low (by omega), fun w => ⟨fun w2 => low (by omega), fun w2 => ?_⟩⟩
  rw [if_pos (by omega)] at h
  exact h
def zA (σ τ : st_S) : Prop := τ.2 = σ.2 ∧ ∀ c j, ¬ (c = 12 ∧ 5 ≤ j ∧ j ≤ 8) → gI τ c j = gI σ c j
theorem zA_tr {σ τ υ : st_S} (h : zA σ τ) (g : zA τ υ) : zA σ υ := ⟨g.1.trans h.1, fun c j a => (g.2 c j a).trans (h.2 c j a)⟩
theorem zA_s {σ τ : st_S} {j : Nat} {v : Int} (h : zA σ τ) (hj : 5 ≤ j ∧ j ≤ 8) : zA σ (sI τ 12 j v) := ⟨h.1, fun c' j' a => by rw [gI_sI, if_neg (by omega)]; exact h.2 c' j' a⟩
/-- the tape as the class has it -/
def tpC (σ : st_S) (tp : Nat → Int) (n : Nat) : Prop := gI σ 12 1 = (n : Int) ∧ (n ≤ 400 ∧ gI σ 12 3 = -1) ∧ ∀ i, i < n → gI σ 13 i = tp i
theorem tpC_A {σ τ : st_S} {tp : Nat → Int} {n : Nat} (h : tpC σ tp n) (g : zA σ τ) : tpC τ tp n := ⟨by rw [g.2 _ _ (by omega)]; exact h.1, ⟨h.2.1.1, by rw [g.2 _ _ (by omega)]; exact h.2.1.2⟩, fun i hi => by rw [g.2 _ _ (by omega)]; exact h.2.2 i hi⟩
theorem w_advance {σ : st_S} {tp : Nat → Int} {n k : Nat} {Q : st_S → Prop} (h : tpC σ tp n) (h7 : gI σ 12 7 = (gT tp n k : Int)) (hQ : ∀ τ, zA σ τ → gI τ 12 5 = kdT tp n k → gI τ 12 6 = (psT tp n k : Int) → gI τ 12 7 = (gT tp n (k + 1) : Int) → gI τ 12 8 = nmT tp n k → Q τ) : wp_X6_advance σ Q := by
  have n400 := h.2.1.1
  have gk := gT_le (tp := tp) (n := n) k
  have ps := psT_le (tp := tp) (n := n) k
  -- the run of the token
  have run : ∀ (τ : st_S), zA σ τ → gI τ 12 6 = (psT tp n k : Int) → B_X6_advance_46 Q τ := by
    intro τ z e6
    generalize es : psT tp n k = s at *
    intro s1 e1 s2 e2
    have z2 : zA σ s2 := by rw [e2, e1]; exact zA_s (zA_s z (by omega)) (by omega)
    have t2 := tpC_A h z2
    have v6 : gI s2 12 6 = (s : Int) := by rw [e2, e1]; simp only [gI_sI, Nat.reduceAdd, Nat.reduceMul, Nat.reduceEqDiff, false_and, true_and, and_false, and_true, reduceIte, Int.toNat_natCast]; exact e6
    have v7 : gI s2 12 7 = (s : Int) := by rw [e2, e1]; simp only [gI_sI, Nat.reduceAdd, Nat.reduceMul, Nat.reduceEqDiff, false_and, true_and, and_false, and_true, reduceIte, Int.toNat_natCast]; exact e6
    have v8 : gI s2 12 8 = 0 := by rw [e2]; simp only [gI_sI, Nat.reduceAdd, Nat.reduceMul, Nat.reduceEqDiff, false_and, true_and, and_false, and_true, reduceIte, Int.toNat_natCast]
    rw [t2.1, v6]
    refine ⟨fun q => ?_, fun q => ⟨ixn (by omega), ?_⟩⟩
    · intro s3 e3
      have z3 : zA σ s3 := by rw [e3]; exact zA_s z2 (by omega)
      have w1 : gI s3 12 1 = (n : Int) := (tpC_A h z3).1
      have w7 : gI s3 12 7 = (s : Int) := by rw [e3]; simp only [gI_sI, Nat.reduceAdd, Nat.reduceMul, Nat.reduceEqDiff, false_and, true_and, and_false, and_true, reduceIte, Int.toNat_natCast]; exact v7
      refine ⟨1, ?_⟩
      show (_ → _) ∧ (_ → _)
      rw [w1, w7]
      refine ⟨fun _ => ?_, fun w => absurd q w⟩
      have ek : kdT tp n k = 0 := by unfold kdT; rw [es, if_neg (by omega)]
      have eg : gT tp n (k + 1) = s := by show enT tp n (stT tp n (gT tp n k)) = s; rw [show stT tp n (gT tp n k) = s from es]; unfold enT; rw [if_neg (by omega)]
      refine hQ s3 z3 ?_ ?_ ?_ ?_
      · rw [ek, e3]; simp only [gI_sI, Nat.reduceAdd, Nat.reduceMul, Nat.reduceEqDiff, false_and, true_and, and_false, and_true, reduceIte, Int.toNat_natCast]
      · rw [e3]; simp only [gI_sI, Nat.reduceAdd, Nat.reduceMul, Nat.reduceEqDiff, false_and, true_and, and_false, and_true, reduceIte, Int.toNat_natCast]; exact v6
      · rw [eg]; exact w7
      · unfold nmT; rw [ek, if_neg (by decide), e3]; simp only [gI_sI, Nat.reduceAdd, Nat.reduceMul, Nat.reduceEqDiff, false_and, true_and, and_false, and_true, reduceIte, Int.toNat_natCast]; exact v8
    · have sn : s < n := by omega
      rw [Int.toNat_natCast, t2.2.2 s sn]
      refine w_kindOf ?_
      intro s3 e3
      have z3 : zA σ s3 := by rw [e3]; exact zA_s z2 (by omega)
      have ek : kdT tp n k = kdx (tp s) := by unfold kdT; rw [es, if_pos sn]
      have u5 : gI s3 12 5 = kdx (tp s) := by rw [e3]; simp only [gI_sI, Nat.reduceAdd, Nat.reduceMul, Nat.reduceEqDiff, false_and, true_and, and_false, and_true, reduceIte, Int.toNat_natCast]
      have u6 : gI s3 12 6 = (s : Int) := by rw [e3]; simp only [gI_sI, Nat.reduceAdd, Nat.reduceMul, Nat.reduceEqDiff, false_and, true_and, and_false, and_true, reduceIte, Int.toNat_natCast]; exact v6
      have u7 : gI s3 12 7 = (s : Int) := by rw [e3]; simp only [gI_sI, Nat.reduceAdd, Nat.reduceMul, Nat.reduceEqDiff, false_and, true_and, and_false, and_true, reduceIte, Int.toNat_natCast]; exact v7
      have u8 : gI s3 12 8 = 0 := by rw [e3]; simp only [gI_sI, Nat.reduceAdd, Nat.reduceMul, Nat.reduceEqDiff, false_and, true_and, and_false, and_true, reduceIte, Int.toNat_natCast]; exact v8
      have eg : gT tp n (k + 1) = enT tp n s := by show enT tp n (stT tp n (gT tp n k)) = _; rw [show stT tp n (gT tp n k) = s from es]
      have fin : ∀ υ, zA σ υ → gI υ 12 5 = kdx (tp s) → gI υ 12 6 = (s : Int) → gI υ 12 7 = (enT tp n s : Int) → gI υ 12 8 = (if kdx (tp s) = 2 then nmf tp s (enT tp n s - s) else 0) → Q υ := by
        intro υ a b c d e
        refine hQ υ a (by rw [ek]; exact b) c (by rw [eg]; exact d) ?_
        unfold nmT
        rw [ek, es, eg]
        exact e
      by_cases k3 : kdx (tp s) = 3
      · have een : enT tp n s = s + 1 := by unfold enT; rw [if_pos sn, if_pos k3]
        refine ⟨2, ?_⟩
        show (_ → _) ∧ (_ → _)
        rw [(tpC_A h z3).1, u7]
        refine ⟨fun w => absurd w q, fun _ => ⟨ixn (by omega), ?_⟩⟩
        rw [Int.toNat_natCast, (tpC_A h z3).2.2 s sn]
        refine w_kindOf ⟨fun w => absurd u5.symm w, fun _ => ⟨fun w => absurd (by rw [u5]; exact k3) w, fun _ => ⟨fun w => absurd (by rw [u7, u6]) w, fun _ => ⟨fun _ => ?_, fun w => absurd (u5.symm.trans w) (by rw [k3]; decide)⟩⟩⟩⟩
        intro x ex s4 e4
        rw [u7, wks (by omega)] at ex
        have z4 : zA σ s4 := by rw [e4]; exact zA_s z3 (by omega)
        have y5 : gI s4 12 5 = kdx (tp s) := by rw [e4]; simp only [gI_sI, Nat.reduceAdd, Nat.reduceMul, Nat.reduceEqDiff, false_and, true_and, and_false, and_true, reduceIte, Int.toNat_natCast]; exact u5
        have y6 : gI s4 12 6 = (s : Int) := by rw [e4]; simp only [gI_sI, Nat.reduceAdd, Nat.reduceMul, Nat.reduceEqDiff, false_and, true_and, and_false, and_true, reduceIte, Int.toNat_natCast]; exact u6
        have y7 : gI s4 12 7 = ((s + 1 : Nat) : Int) := by rw [e4, ex]; simp only [gI_sI, Nat.reduceAdd, Nat.reduceMul, Nat.reduceEqDiff, false_and, true_and, and_false, and_true, reduceIte, Int.toNat_natCast]
        have y8 : gI s4 12 8 = 0 := by rw [e4]; simp only [gI_sI, Nat.reduceAdd, Nat.reduceMul, Nat.reduceEqDiff, false_and, true_and, and_false, and_true, reduceIte, Int.toNat_natCast]; exact u8
        have dn : Q s4 := fin s4 z4 y5 y6 (by rw [een]; exact y7) (by rw [k3, if_neg (by decide)]; exact y8)
        show (_ → _) ∧ (_ → _)
        rw [(tpC_A h z4).1, y7]
        refine ⟨fun _ => dn, fun w => ⟨ixn (by omega), w_kindOf ⟨fun _ => dn, fun _ => ⟨fun w2 => absurd (by rw [y5]; exact k3) w2, fun _ => ⟨fun _ => dn, fun w3 => absurd w3 (by rw [y7, y6]; omega)⟩⟩⟩⟩⟩
      · have een : enT tp n s = rnE (fun x => decide (kdx x = kdx (tp s))) tp n n (s + 1) := by unfold enT; rw [if_pos sn, if_neg k3]
        have key : ∀ (f t : Nat) (υ : st_S), zA σ υ → s ≤ t → t ≤ n → n - t ≤ f → (∀ i, s ≤ i → i < t → kdx (tp i) = kdx (tp s)) → gI υ 12 5 = kdx (tp s) → gI υ 12 6 = (s : Int) → gI υ 12 7 = (t : Int) → gI υ 12 8 = (if kdx (tp s) = 2 then nmf tp s (t - s) else 0) → rnE (fun x => decide (kdx x = kdx (tp s))) tp n f t = enT tp n s → L_X6_advance_90 Q (f + 1) υ := by
          intro f
          induction f with
          | zero =>
            intro t υ zu st tn hf hin a5 a6 a7 a8 hr
            have : t = enT tp n s := hr
            show (_ → _) ∧ (_ → _)
            rw [(tpC_A h zu).1, a7]
            exact ⟨fun _ => fin υ zu a5 a6 (by rw [← this]; exact a7) (by rw [← this]; exact a8), fun w => absurd (by omega) w⟩
          | succ f ih =>
            intro t υ zu st tn hf hin a5 a6 a7 a8 hr
            show (_ → _) ∧ (_ → _)
            rw [(tpC_A h zu).1, a7]
            unfold rnE at hr
            refine ⟨fun w => ?_, fun w => ⟨ixn (by omega), ?_⟩⟩
            · rw [if_neg (by omega)] at hr
              exact fin υ zu a5 a6 (by rw [← hr]; exact a7) (by rw [← hr]; exact a8)
            · have tn' : t < n := by omega
              rw [Int.toNat_natCast, (tpC_A h zu).2.2 t tn']
              refine w_kindOf ⟨fun w2 => ?_, fun w2 => ⟨fun _ => ?_, fun w3 => absurd (a5.symm.trans w3) k3⟩⟩
              · rw [a5] at w2
                rw [if_neg (fun q => w2 (of_decide_eq_true q.2))] at hr
                exact fin υ zu a5 a6 (by rw [← hr]; exact a7) (by rw [← hr]; exact a8)
              · rw [a5] at w2
                rw [if_pos ⟨tn', decide_eq_true w2⟩] at hr
                have hin' : ∀ i, s ≤ i → i < t + 1 → kdx (tp i) = kdx (tp s) := fun i b1 b2 => by
                  by_cases e : i = t
                  · subst e; exact w2
                  · exact hin i b1 (by omega)
                refine ⟨fun w3 => ?_, fun w3 => ⟨by rw [a7]; exact ixn (by omega), ?_⟩⟩
                · rw [a5] at w3
                  intro x ex s5 e5
                  rw [a7, wks (by omega)] at ex
                  refine ih (t + 1) s5 (by rw [e5]; exact zA_s zu (by omega)) (by omega) (by omega) (by omega) hin' (by rw [e5]; simp only [gI_sI, Nat.reduceAdd, Nat.reduceMul, Nat.reduceEqDiff, false_and, true_and, and_false, and_true, reduceIte, Int.toNat_natCast]; exact a5) (by rw [e5]; simp only [gI_sI, Nat.reduceAdd, Nat.reduceMul, Nat.reduceEqDiff, false_and, true_and, and_false, and_true, reduceIte, Int.toNat_natCast]; exact a6) (by rw [e5, ex]; simp only [gI_sI, Nat.reduceAdd, Nat.reduceMul, Nat.reduceEqDiff, false_and, true_and, and_false, and_true, reduceIte, Int.toNat_natCast]) ?_ hr
                  rw [if_neg w3] at a8 ⊢
                  rw [e5]; simp only [gI_sI, Nat.reduceAdd, Nat.reduceMul, Nat.reduceEqDiff, false_and, true_and, and_false, and_true, reduceIte, Int.toNat_natCast]; exact a8
                · rw [a5] at w3
                  intro s5 e5 x ex s6 e6
                  rw [if_pos w3] at a8
                  have dg := fun i (b1 : s ≤ i) (b2 : i < t + 1) => kdx_2 ((hin' i b1 b2).trans w3)
                  have nb := nmf_b (tp := tp) (s := s) (t - s) (fun i hi => dg (s + i) (by omega) (by omega))
                  have dt := dg t st (by omega)
                  rw [a7, Int.toNat_natCast, (tpC_A h zu).2.2 t tn', a8, wr_id (by omega) (by omega)] at e5
                  have z5 : zA σ s5 := by rw [e5]; exact zA_s zu (by omega)
                  have b7 : gI s5 12 7 = (t : Int) := by rw [e5]; simp only [gI_sI, Nat.reduceAdd, Nat.reduceMul, Nat.reduceEqDiff, false_and, true_and, and_false, and_true, reduceIte, Int.toNat_natCast]; exact a7
                  rw [b7, wks (by omega)] at ex
                  refine ih (t + 1) s6 (by rw [e6]; exact zA_s z5 (by omega)) (by omega) (by omega) (by omega) hin' (by rw [e6, e5]; simp only [gI_sI, Nat.reduceAdd, Nat.reduceMul, Nat.reduceEqDiff, false_and, true_and, and_false, and_true, reduceIte, Int.toNat_natCast]; exact a5) (by rw [e6, e5]; simp only [gI_sI, Nat.reduceAdd, Nat.reduceMul, Nat.reduceEqDiff, false_and, true_and, and_false, and_true, reduceIte, Int.toNat_natCast]; exact a6) (by rw [e6, ex]; simp only [gI_sI, Nat.reduceAdd, Nat.reduceMul, Nat.reduceEqDiff, false_and, true_and, and_false, and_true, reduceIte, Int.toNat_natCast]) ?_ hr
                  rw [if_pos w3, e6, e5]
                  simp only [gI_sI, Nat.reduceAdd, Nat.reduceMul, Nat.reduceEqDiff, false_and, true_and, and_false, and_true, reduceIte, Int.toNat_natCast]
                  rw [show t + 1 - s = (t - s) + 1 by omega]
                  show _ = o_min (nmf tp s (t - s) * 10 + tp (s + (t - s)) - 48) 1001
                  rw [show s + (t - s) = t by omega]
        refine ⟨n + 2, key (n + 1) s s3 z3 (Nat.le_refl _) (by omega) (by omega) (fun i a b => absurd b (by omega)) u5 u6 u7 ?_ ?_⟩
        · rw [u8, show s - s = 0 by omega]
          split <;> rfl
        · rw [een]
          show (if s < n ∧ decide (kdx (tp s) = kdx (tp s)) = true then _ else _) = _
          rw [if_pos ⟨sn, by simp⟩]
  intro s1 e1
  have key : ∀ (f i : Nat) (τ : st_S), zA σ τ → i ≤ n → n - i ≤ f → gI τ 12 6 = (i : Int) → rnE (fun x => decide (x = 32)) tp n f i = psT tp n k → L_X6_advance_8 Q (f + 1) τ := by
    intro f
    induction f with
    | zero =>
      intro i τ z hi hf e6 hr
      show (_ → _) ∧ (_ → _)
      rw [(tpC_A h z).1, e6]
      exact ⟨fun _ => run τ z (by rw [← hr]; exact e6), fun w => absurd (by omega) w⟩
    | succ f ih =>
      intro i τ z hi hf e6 hr
      show (_ → _) ∧ (_ → _)
      rw [(tpC_A h z).1, e6]
      unfold rnE at hr
      refine ⟨fun w => ?_, fun w => ⟨ixn (by omega), ?_⟩⟩
      · rw [if_neg (by omega)] at hr
        exact run τ z (by rw [← hr]; exact e6)
      · rw [Int.toNat_natCast, (tpC_A h z).2.2 i (by omega)]
        refine ⟨fun w2 => ?_, fun w2 => ?_⟩
        · rw [if_neg (fun q => w2 (of_decide_eq_true q.2))] at hr
          exact run τ z (by rw [← hr]; exact e6)
        · rw [if_pos ⟨by omega, decide_eq_true w2⟩] at hr
          intro x ex s2 e2
          rw [wks (by omega)] at ex
          exact ih (i + 1) s2 (by rw [e2]; exact zA_s z (by omega)) (by omega) (by omega) (by rw [e2, ex]; simp only [gI_sI, Nat.reduceAdd, Nat.reduceMul, Nat.reduceEqDiff, false_and, true_and, and_false, and_true, reduceIte, Int.toNat_natCast]) hr
  refine ⟨n + 1, key n (gT tp n k) s1 (by rw [e1]; exact zA_s ⟨rfl, fun _ _ _ => rfl⟩ (by omega)) gk (by omega) (by rw [e1, h7]; simp only [gI_sI, Nat.reduceAdd, Nat.reduceMul, Nat.reduceEqDiff, false_and, true_and, and_false, and_true, reduceIte, Int.toNat_natCast]) rfl⟩
