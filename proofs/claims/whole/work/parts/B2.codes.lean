/-! a token's code, and what the class sees of it -/
def tpB (tp : Nat → Int) (n : Nat) : Prop := ∀ i, i < n → 0 ≤ tp i ∧ tp i < 256
def wdK (tp : Nat → Int) (n k : Nat) : List Int := wdT tp (psT tp n k) (gT tp n (k + 1))
def cdT (tp : Nat → Int) (n k : Nat) : Int := if psT tp n k < n then (if kdx (tp (psT tp n k)) = 1 then codeOf (wdK tp n k) else if kdx (tp (psT tp n k)) = 2 then 50 else 100 + tp (psT tp n k)) else 0
def nmM (tp : Nat → Int) (s : Nat) : Nat → Int
  | 0 => 0
  | j + 1 => if 1000000 < nmM tp s j then nmM tp s j else 10 * nmM tp s j + tp (s + j) - 48
def vlT (tp : Nat → Int) (n k : Nat) : Int := if kdT tp n k = 2 then nmM tp (psT tp n k) (gT tp n (k + 1) - psT tp n k) else 0
theorem nmM_b {tp : Nat → Int} {s : Nat} : ∀ j, (∀ i, i < j → 48 ≤ tp (s + i) ∧ tp (s + i) ≤ 57) → 0 ≤ nmM tp s j ∧ nmM tp s j ≤ 10000009 ∧ nmf tp s j = o_min (nmM tp s j) 1001 := by
  intro j
  induction j with
  | zero => intro _; exact ⟨Int.le_refl _, (by decide : (0 : Int) ≤ 10000009), rfl⟩
  | succ j ih =>
    intro h
    have a := ih (fun i hi => h i (by omega))
    have b := h j (by omega)
    show 0 ≤ (if 1000000 < nmM tp s j then nmM tp s j else 10 * nmM tp s j + tp (s + j) - 48) ∧ (if 1000000 < nmM tp s j then nmM tp s j else 10 * nmM tp s j + tp (s + j) - 48) ≤ 10000009 ∧ o_min (nmf tp s j * 10 + tp (s + j) - 48) 1001 = o_min (if 1000000 < nmM tp s j then nmM tp s j else 10 * nmM tp s j + tp (s + j) - 48) 1001
    obtain ⟨a1, a2, a3⟩ := a
    rw [a3]
    generalize nmM tp s j = v at *
    generalize tp (s + j) = d at *
    unfold o_min
    by_cases c1 : 1000000 < v
    · rw [if_pos c1, if_pos (show (1001 : Int) < v by omega), if_pos (by omega)]
      exact ⟨a1, a2, rfl⟩
    · rw [if_neg c1]
      refine ⟨by omega, by omega, ?_⟩
      by_cases c2 : 1001 < v
      · rw [if_pos c2, if_pos (by omega), if_pos (by omega)]
      · rw [if_neg c2, Int.mul_comm v 10]
theorem kd_in {tp : Nat → Int} {n k : Nat} (h : psT tp n k < n) : kdT tp n k = kdx (tp (psT tp n k)) ∧ ∀ i, psT tp n k ≤ i → i < gT tp n (k + 1) → i < n ∧ kdx (tp i) = kdx (tp (psT tp n k)) := by
  refine ⟨by unfold kdT; rw [if_pos h], fun i h1 h2 => ?_⟩
  have h3 := gT_le (tp := tp) (n := n) (k + 1)
  refine ⟨by omega, ?_⟩
  have h2' : i < enT tp n (psT tp n k) := h2
  unfold enT at h2'
  rw [if_pos h] at h2'
  by_cases c : kdx (tp (psT tp n k)) = 3
  · rw [if_pos c] at h2'
    rw [show i = psT tp n k by omega]
  · rw [if_neg c] at h2'
    by_cases e : i = psT tp n k
    · rw [e]
    · exact of_decide_eq_true ((rnE_is (p := fun x => decide (kdx x = kdx (tp (psT tp n k)))) (tp := tp) (n := n) n (psT tp n k + 1) (by omega) (by omega)).2.2.1 i (by omega) h2')
theorem nm_vl {tp : Nat → Int} {n k : Nat} : nmT tp n k = o_min (vlT tp n k) 1001 ∧ 0 ≤ vlT tp n k ∧ vlT tp n k ≤ 10000009 := by
  unfold nmT vlT
  by_cases h : kdT tp n k = 2
  · rw [if_pos h, if_pos h]
    have hp : psT tp n k < n := by
      unfold kdT at h
      split at h
      · assumption
      · omega
    have q := kd_in hp
    have := nmM_b (tp := tp) (s := psT tp n k) (gT tp n (k + 1) - psT tp n k) (fun i hi => kdx_2 (by rw [(q.2 _ (by omega) (by omega)).2, ← q.1]; exact h))
    exact ⟨this.2.2, this.1, this.2.1⟩
  · rw [if_neg h, if_neg h]
    exact ⟨rfl, by omega, by omega⟩
section
variable {tp : Nat → Int} {n k : Nat}
theorem kd_n (h : ¬ kdT tp n k = 0) : psT tp n k < n := by
  unfold kdT at h
  split at h
  · assumption
  · exact absurd rfl h
theorem cd_w {c : Nat} (hb : tpB tp n) (hc : c < 29) : cdT tp n k = (c : Int) + 1 ↔ (kdT tp n k = 1 ∧ wdK tp n k = WL.getD c []) := by
  unfold cdT
  by_cases h : psT tp n k < n
  · have := hb _ h
    rw [if_pos h, (kd_in h).1]
    by_cases c1 : kdx (tp (psT tp n k)) = 1
    · rw [if_pos c1, code_i hc]
      exact ⟨fun q => ⟨c1, q⟩, fun q => q.2⟩
    · rw [if_neg c1]
      refine ⟨fun q => ?_, fun q => absurd q.1 c1⟩
      split at q <;> omega
  · rw [if_neg h]
    refine ⟨fun q => absurd q (by omega), fun q => ?_⟩
    exact absurd (kd_n (by rw [q.1]; decide)) h
theorem cd_s {x : Nat} (hb : tpB tp n) : cdT tp n k = 100 + (x : Int) ↔ (kdT tp n k = 3 ∧ tp (psT tp n k) = (x : Int)) := by
  unfold cdT
  by_cases h : psT tp n k < n
  · have := hb _ h
    rw [if_pos h, (kd_in h).1]
    have cb := code_b (wdK tp n k)
    rcases kdx_v (tp (psT tp n k)) with c1 | c1 | c1
    · rw [c1, if_pos rfl]
      exact ⟨fun q => absurd q (by omega), fun q => absurd q.1 (by decide)⟩
    · rw [c1, if_neg (by decide), if_pos rfl]
      exact ⟨fun q => absurd q (by omega), fun q => absurd q.1 (by decide)⟩
    · rw [c1, if_neg (by decide), if_neg (by decide)]
      exact ⟨fun q => ⟨rfl, by omega⟩, fun q => by omega⟩
  · rw [if_neg h]
    refine ⟨fun q => absurd q (by omega), fun q => ?_⟩
    exact absurd (kd_n (by rw [q.1]; decide)) h
theorem cd_n (hb : tpB tp n) : cdT tp n k = 50 ↔ kdT tp n k = 2 := by
  unfold cdT
  by_cases h : psT tp n k < n
  · have := hb _ h
    rw [if_pos h, (kd_in h).1]
    have cb := code_b (wdK tp n k)
    rcases kdx_v (tp (psT tp n k)) with c1 | c1 | c1
    · rw [c1, if_pos rfl]
      exact ⟨fun q => absurd q (by omega), fun q => absurd q (by decide)⟩
    · rw [c1, if_neg (by decide), if_pos rfl]
      exact ⟨fun _ => rfl, fun _ => rfl⟩
    · rw [c1, if_neg (by decide), if_neg (by decide)]
      exact ⟨fun q => absurd q (by omega), fun q => absurd q (by decide)⟩
  · rw [if_neg h]
    refine ⟨fun q => absurd q (by omega), fun q => ?_⟩
    exact absurd (kd_n (by rw [q]; decide)) h
theorem cd_0 (h : psT tp n k = n) : cdT tp n k = 0 ∧ kdT tp n k = 0 ∧ vlT tp n k = 0 := by
  have e : kdT tp n k = 0 := by unfold kdT; rw [if_neg (by omega)]
  refine ⟨by unfold cdT; rw [if_neg (by omega)], e, by unfold vlT; rw [e, if_neg (by decide)]⟩
/-- the class stands at token k -/
def cT (σ : st_S) (tp : Nat → Int) (n k : Nat) : Prop := tpC σ tp n ∧ gI σ 12 5 = kdT tp n k ∧ gI σ 12 6 = (psT tp n k : Int) ∧ gI σ 12 7 = (gT tp n (k + 1) : Int) ∧ gI σ 12 8 = nmT tp n k
variable {σ : st_S}
theorem w_signT {Q : Int → st_S → Prop} (h : cT σ tp n k) (hk : ¬ kdT tp n k = 0) (hQ : Q (tp (psT tp n k)) σ) : wp_X6_sign σ Q := by
  have := kd_n hk
  have n4 := h.1.2.1.1
  unfold wp_X6_sign
  rw [h.2.2.1, h.1.1]
  refine ⟨fun w => absurd w (by omega), fun _ => ⟨fun w => absurd w (by omega), fun _ => ⟨ixn (by omega), ?_⟩⟩⟩
  rw [Int.toNat_natCast, h.1.2.2 _ this]
  exact hQ
theorem w_isSignT {x : Nat} {Q : Int → st_S → Prop} (hb : tpB tp n) (h : cT σ tp n k) (hQ : Q (if cdT tp n k = 100 + (x : Int) then 1 else 0) σ) : wp_X6_isSign (x : Int) σ Q := by
  unfold wp_X6_isSign
  rw [h.2.1]
  have c := cd_s (k := k) (x := x) hb
  refine ⟨fun w => ⟨Or.inl rfl, ?_⟩, fun w => w_signT h (by rw [w]; decide) ⟨fun w2 => ⟨Or.inl rfl, ?_⟩, fun w2 => ⟨Or.inr rfl, ?_⟩⟩⟩
  · rw [if_neg (fun q => w (c.mp q).1)] at hQ; exact hQ
  · rw [if_neg (fun q => w2 (c.mp q).2)] at hQ; exact hQ
  · rw [if_pos (c.mpr ⟨w, w2⟩)] at hQ; exact hQ
theorem w_isWordT {t c : Nat} {Q : Int → st_S → Prop} (hb : tpB tp n) (h : cT σ tp n k) (ht : t < 12) (hc : c < 29) (e : sbs t = WL.getD c []) (hQ : Q (if cdT tp n k = (c : Int) + 1 then 1 else 0) σ) : wp_X6_isWord t σ Q := by
  refine w_isWord h.1 h.2.1 h.2.2.1 h.2.2.2.1 (gT_s k).1 (gT_le _) ht ?_
  have cc := cd_w (k := k) hb hc
  unfold wdK at cc
  by_cases q : cdT tp n k = (c : Int) + 1
  · rw [if_pos q] at hQ
    rw [if_pos ⟨(cc.mp q).1, by rw [e]; exact (cc.mp q).2⟩]
    exact hQ
  · rw [if_neg q] at hQ
    rw [if_neg (fun z => q (cc.mpr ⟨z.1, by rw [← e]; exact z.2⟩))]
    exact hQ
def ixC (cd : Int) : List Nat → Int → Int
  | [], _ => -1
  | c :: l, i => if cd = (c : Int) + 1 then i else ixC cd l (i + 1)
theorem w_placeT {t : Nat} {is : List Nat} {Q : Int → st_S → Prop} (hb : tpB tp n) (h : cT σ tp n k) (ht : t < 12) (hi : ∀ c, c ∈ is → c < 29) (e : spl [] (sbs t) = is.map (fun c => WL.getD c [])) (hQ : Q (ixC (cdT tp n k) is 0) σ) : wp_X6_place t σ Q := by
  refine w_place h.1 h.2.1 h.2.2.1 h.2.2.2.1 (gT_s k).1 (gT_le _) ht ?_
  rw [e]
  have key : ∀ (l : List Nat) (i : Int), (∀ c, c ∈ l → c < 29) → ixQ (fun x => decide (kdT tp n k = 1 ∧ wdT tp (psT tp n k) (gT tp n (k + 1)) = x)) (l.map (fun c => WL.getD c [])) i = ixC (cdT tp n k) l i := by
    intro l
    induction l with
    | nil => intro i _; rfl
    | cons c l ih =>
      intro i hl
      have cc := cd_w (tp := tp) (n := n) (k := k) hb (hl c (List.mem_cons_self))
      unfold wdK at cc
      show (if decide (kdT tp n k = 1 ∧ wdT tp (psT tp n k) (gT tp n (k + 1)) = WL.getD c []) = true then i else ixQ _ (l.map _) (i + 1)) = if cdT tp n k = (c : Int) + 1 then i else ixC (cdT tp n k) l (i + 1)
      rw [ih (i + 1) (fun c hc => hl c (List.mem_cons_of_mem _ hc))]
      by_cases q : cdT tp n k = (c : Int) + 1
      · rw [if_pos q, if_pos (decide_eq_true (cc.mp q))]
      · rw [if_neg q, if_neg (fun z => q (cc.mpr (of_decide_eq_true z)))]
  rw [key is 0 hi]
  exact hQ
def vbI (ord : Bool) (cd : Int) : Int := if ord then (if 26 ≤ cd ∧ cd ≤ 28 then cd - 26 else -1) else (if 1 ≤ cd ∧ cd ≤ 5 then cd - 1 else -1)
def wdI (ord : Bool) (cd : Int) : Int := if ord then (if 19 ≤ cd ∧ cd ≤ 25 then cd - 19 else -1) else (if 10 ≤ cd ∧ cd ≤ 19 then ((wpm (cd - 10).toNat : Nat) : Int) else -1)
theorem w_verbT {Q : Int → st_S → Prop} (ord : Bool) (hb : tpB tp n) (h : cT σ tp n k) (hQ : Q (vbI ord (cdT tp n k)) σ) : wp_X6_place (if ord then 2 else 0) σ Q := by
  cases ord with
  | false =>
    refine w_placeT (t := 0) (is := [0, 1, 2, 3, 4]) hb h (by decide) (by decide) (by decide +kernel) ?_
    have e : ixC (cdT tp n k) [0, 1, 2, 3, 4] 0 = vbI false (cdT tp n k) := by
      generalize cdT tp n k = c
      show (if c = 1 then (0 : Int) else if c = 2 then 1 else if c = 3 then 2 else if c = 4 then 3 else if c = 5 then 4 else -1) = if 1 ≤ c ∧ c ≤ 5 then c - 1 else -1
      repeat' split
      all_goals omega
    rw [e]
    exact hQ
  | true =>
    refine w_placeT (t := 2) (is := [25, 26, 27]) hb h (by decide) (by decide) (by decide +kernel) ?_
    have e : ixC (cdT tp n k) [25, 26, 27] 0 = vbI true (cdT tp n k) := by
      generalize cdT tp n k = c
      show (if c = 26 then (0 : Int) else if c = 27 then 1 else if c = 28 then 2 else -1) = if 26 ≤ c ∧ c ≤ 28 then c - 26 else -1
      repeat' split
      all_goals omega
    rw [e]
    exact hQ
theorem w_wordT {Q : Int → st_S → Prop} (ord : Bool) (hb : tpB tp n) (h : cT σ tp n k) (hQ : Q (wdI ord (cdT tp n k)) σ) : wp_X6_place (if ord then 3 else 1) σ Q := by
  cases ord with
  | false =>
    refine w_placeT (t := 1) (is := [9, 10, 11, 12, 13, 14, 15, 18, 16, 17]) hb h (by decide) (by decide) (by decide +kernel) ?_
    have e : ixC (cdT tp n k) [9, 10, 11, 12, 13, 14, 15, 18, 16, 17] 0 = wdI false (cdT tp n k) := by
      generalize cdT tp n k = c
      show (if c = 10 then (0 : Int) else if c = 11 then 1 else if c = 12 then 2 else if c = 13 then 3 else if c = 14 then 4 else if c = 15 then 5 else if c = 16 then 6 else if c = 19 then 7 else if c = 17 then 8 else if c = 18 then 9 else -1) = if 10 ≤ c ∧ c ≤ 19 then ((wpm (c - 10).toNat : Nat) : Int) else -1
      unfold wpm
      repeat' split
      all_goals omega
    rw [e]
    exact hQ
  | true =>
    refine w_placeT (t := 3) (is := [18, 19, 20, 21, 22, 23, 24]) hb h (by decide) (by decide) (by decide +kernel) ?_
    have e : ixC (cdT tp n k) [18, 19, 20, 21, 22, 23, 24] 0 = wdI true (cdT tp n k) := by
      generalize cdT tp n k = c
      show (if c = 19 then (0 : Int) else if c = 20 then 1 else if c = 21 then 2 else if c = 22 then 3 else if c = 23 then 4 else if c = 24 then 5 else if c = 25 then 6 else -1) = if 19 ≤ c ∧ c ≤ 25 then c - 19 else -1
      repeat' split
      all_goals omega
    rw [e]
    exact hQ
def jop (l : Int) (cd : Int) : Int := if l = 0 then (if cd = 7 then 11 else -1) else if l = 1 then (if cd = 8 then 12 else -1) else if l = 2 then (if cd = 143 then 2 else if cd = 145 then 3 else -1) else (if cd = 142 then 4 else if cd = 147 then 5 else if cd = 137 then 6 else -1)
def cmI (cd : Int) : Int := if cd = 160 then 0 else if cd = 162 then 1 else if cd = 161 then 2 else -1
theorem sb_v : sbs 9 = [60, 62, 61] ∧ sbs 10 = [43, 45] ∧ sbs 11 = [42, 47, 37] ∧ sbs 4 = WL.getD 28 [] ∧ sbs 5 = WL.getD 5 [] ∧ sbs 6 = WL.getD 8 [] ∧ sbs 7 = WL.getD 6 [] ∧ sbs 8 = WL.getD 7 [] := by decide +kernel
theorem cd_3 (hb : tpB tp n) (h : kdT tp n k = 3) : ∃ x : Nat, x < 256 ∧ tp (psT tp n k) = (x : Int) ∧ cdT tp n k = 100 + (x : Int) := by
  have hp := kd_n (by rw [h]; decide : ¬ kdT tp n k = 0)
  have := hb _ hp
  refine ⟨(tp (psT tp n k)).toNat, by omega, by omega, (cd_s hb).mpr ⟨h, by omega⟩⟩
theorem cd_n3 (hb : tpB tp n) (h : ¬ kdT tp n k = 3) : cdT tp n k < 100 := by
  unfold cdT
  have cb := code_b (wdK tp n k)
  split
  · rename_i hp
    rw [(kd_in hp).1] at h
    rcases kdx_v (tp (psT tp n k)) with c1 | c1 | c1
    · rw [c1, if_pos rfl]; omega
    · rw [c1, if_neg (by decide), if_pos rfl]; omega
    · exact absurd c1 h
  · omega
theorem w_cmpT {Q : Int → st_S → Prop} (hb : tpB tp n) (h : cT σ tp n k) (hQ : Q (cmI (cdT tp n k)) σ) : (¬ gI σ 12 5 = 3 → Q (-1) σ) ∧ (gI σ 12 5 = 3 → wp_X6_sign σ (fun r s => wp_J0_indexOf_0f7a4 9 (o_i2c r) s (fun r32 s33 => Q r32 s33))) := by
  rw [h.2.1]
  refine ⟨fun w => ?_, fun w => w_signT h (by rw [w]; decide) ?_⟩
  · have := cd_n3 hb w
    unfold cmI at hQ
    rw [if_neg (by omega), if_neg (by omega), if_neg (by omega)] at hQ
    exact hQ
  · obtain ⟨x, hx, e1, e2⟩ := cd_3 hb w
    rw [e1]
    refine w_indexOf (by decide) hx ?_
    rw [e2] at hQ
    rw [sb_v.1]
    have e : ixF (x : Int) [60, 62, 61] 0 = cmI (100 + (x : Int)) := by
      show (if (60 : Int) = (x : Int) then (0 : Int) else if (62 : Int) = (x : Int) then 1 else if (61 : Int) = (x : Int) then 2 else -1) = if 100 + (x : Int) = 160 then 0 else if 100 + (x : Int) = 162 then 1 else if 100 + (x : Int) = 161 then 2 else -1
      repeat' split
      all_goals omega
    rw [e]
    exact hQ
theorem w_jointT {l : Int} {Q : Int → st_S → Prop} (hl : l = 0 ∨ l = 1 ∨ l = 2 ∨ l = 3) (hb : tpB tp n) (h : cT σ tp n k) (hQ : Q (jop l (cdT tp n k)) σ) : wp_X6_joint l σ Q := by
  rcases hl with e | e | e | e
  · subst e
    refine ⟨fun w => absurd rfl w, fun _ => w_isWordT (c := 6) hb h (by decide) (by decide) sb_v.2.2.2.2.2.2.1 ?_⟩
    show (_ → _) ∧ (_ → _)
    unfold jop at hQ
    rw [if_pos rfl] at hQ
    by_cases c : cdT tp n k = 7
    · rw [if_pos c] at hQ
      rw [if_pos (show cdT tp n k = ((6 : Nat) : Int) + 1 from c)]
      exact ⟨fun w => absurd w (by decide), fun _ => hQ⟩
    · rw [if_neg c] at hQ
      rw [if_neg (show ¬ cdT tp n k = ((6 : Nat) : Int) + 1 from c)]
      exact ⟨fun _ => hQ, fun w => absurd rfl w⟩
  · subst e
    refine ⟨fun _ => ⟨fun w => absurd rfl w, fun _ => w_isWordT (c := 7) hb h (by decide) (by decide) sb_v.2.2.2.2.2.2.2 ?_⟩, fun w => absurd w (by decide)⟩
    show (_ → _) ∧ (_ → _)
    unfold jop at hQ
    rw [if_neg (by decide), if_pos rfl] at hQ
    by_cases c : cdT tp n k = 8
    · rw [if_pos c] at hQ
      rw [if_pos (show cdT tp n k = ((7 : Nat) : Int) + 1 from c)]
      exact ⟨fun w => absurd w (by decide), fun _ => hQ⟩
    · rw [if_neg c] at hQ
      rw [if_neg (show ¬ cdT tp n k = ((7 : Nat) : Int) + 1 from c)]
      exact ⟨fun _ => hQ, fun w => absurd rfl w⟩
  · subst e
    refine ⟨fun _ => ⟨fun _ => ?_, fun w => absurd w (by decide)⟩, fun w => absurd w (by decide)⟩
    rw [h.2.1]
    refine ⟨fun w => ⟨fun w2 => absurd rfl w2, fun _ => w_signT h (by rw [w]; decide) ⟨by decide, ?_⟩⟩, fun w => ?_⟩
    · obtain ⟨x, hx, e1, e2⟩ := cd_3 hb w
      rw [e1]
      refine w_indexOf (by decide) hx ?_
      rw [e2] at hQ
      rw [sb_v.2.1]
      have q : Q (if 100 + (x : Int) = 143 then 2 else if 100 + (x : Int) = 145 then 3 else -1) σ := hQ
      show (0 ≤ (if (43 : Int) = (x : Int) then (0 : Int) else if (45 : Int) = (x : Int) then 1 else -1) → _) ∧ (_ → _)
      by_cases c1 : x = 43
      · subst c1
        exact ⟨fun _ => ⟨fun w => absurd rfl w, fun _ y ey => by rw [ey]; exact q⟩, fun w => absurd (by decide) w⟩
      · by_cases c2 : x = 45
        · subst c2
          exact ⟨fun _ => ⟨fun w => absurd rfl w, fun _ y ey => by rw [ey]; exact q⟩, fun w => absurd (by decide) w⟩
        · rw [if_neg (by omega), if_neg (by omega)] at q
          rw [if_neg (by omega), if_neg (by omega)]
          exact ⟨fun w => absurd w (by decide), fun _ => q⟩
    · have := cd_n3 hb w
      have q : Q (if cdT tp n k = 143 then 2 else if cdT tp n k = 145 then 3 else -1) σ := hQ
      rw [if_neg (by omega), if_neg (by omega)] at q
      exact q
  · subst e
    refine ⟨fun _ => ⟨fun _ => ?_, fun w => absurd w (by decide)⟩, fun w => absurd w (by decide)⟩
    rw [h.2.1]
    refine ⟨fun w => ⟨fun _ => w_signT h (by rw [w]; decide) ⟨by decide, ?_⟩, fun w2 => absurd w2 (by decide)⟩, fun w => ?_⟩
    · obtain ⟨x, hx, e1, e2⟩ := cd_3 hb w
      rw [e1]
      refine w_indexOf (by decide) hx ?_
      rw [e2] at hQ
      rw [sb_v.2.2.1]
      have q : Q (if 100 + (x : Int) = 142 then 4 else if 100 + (x : Int) = 147 then 5 else if 100 + (x : Int) = 137 then 6 else -1) σ := hQ
      show (0 ≤ (if (42 : Int) = (x : Int) then (0 : Int) else if (47 : Int) = (x : Int) then 1 else if (37 : Int) = (x : Int) then 2 else -1) → _) ∧ (_ → _)
      by_cases c1 : x = 42
      · subst c1
        exact ⟨fun _ => ⟨fun _ y ey => by rw [ey]; exact q, fun w => absurd w (by decide)⟩, fun w => absurd (by decide) w⟩
      · by_cases c2 : x = 47
        · subst c2
          exact ⟨fun _ => ⟨fun _ y ey => by rw [ey]; exact q, fun w => absurd w (by decide)⟩, fun w => absurd (by decide) w⟩
        · by_cases c3 : x = 37
          · subst c3
            exact ⟨fun _ => ⟨fun _ y ey => by rw [ey]; exact q, fun w => absurd w (by decide)⟩, fun w => absurd (by decide) w⟩
          · rw [if_neg (by omega), if_neg (by omega), if_neg (by omega)] at q
            rw [if_neg (by omega), if_neg (by omega), if_neg (by omega)]
            exact ⟨fun w => absurd w (by decide), fun _ => q⟩
    · have := cd_n3 hb w
      have q : Q (if cdT tp n k = 142 then 4 else if cdT tp n k = 147 then 5 else if cdT tp n k = 137 then 6 else -1) σ := hQ
      rw [if_neg (by omega), if_neg (by omega), if_neg (by omega)] at q
      exact q
end
