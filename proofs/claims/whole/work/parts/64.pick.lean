/-! the class lists crews -/
/-- worth by bits: twos, ones -/
def wTO (A O : Nat) (p : Nat) : Nat := if A.testBit p then 2 else if O.testBit p then 1 else 0
theorem wTO_2 (A O p : Nat) : wTO A O p ≤ 2 := by unfold wTO; split <;> (try split) <;> omega
/-- behind a listing: l from place s on -/
def pkS (σ τ : st_S) (s : Nat) (l : List Nat) : Prop := τ.2 = σ.2 ∧ (∀ c j, ¬ (c = 42 ∧ j = 14) → ¬ (c = 51 ∧ s ≤ j ∧ j < s + l.length) → gI τ c j = gI σ c j) ∧ ∀ i, i < l.length → gI τ 51 (s + i) = ((l.getD i 0 : Nat) : Int)
theorem pkS_nil {σ : st_S} {s : Nat} : pkS σ σ s [] := ⟨rfl, fun _ _ _ _ => rfl, fun i hi => absurd hi (by simp)⟩
theorem pkS_app {σ τ υ : st_S} {s : Nat} {l l' : List Nat} (h : pkS σ τ s l) (g : pkS τ υ (s + l.length) l') : pkS σ υ s (l ++ l') := by
  refine ⟨g.1.trans h.1, fun c j a b => ?_, fun i hi => ?_⟩
  · rw [List.length_append] at b
    rw [g.2.1 c j a (by omega), h.2.1 c j a (by omega)]
  · rw [List.length_append] at hi
    by_cases e : i < l.length
    · rw [g.2.1 51 (s + i) (by omega) (by omega), h.2.2 i e, List.getD_eq_getElem?_getD, List.getD_eq_getElem?_getD, List.getElem?_append_left e]
    · have := g.2.2 (i - l.length) (by omega)
      rw [show s + l.length + (i - l.length) = s + i by omega] at this
      rw [this, List.getD_eq_getElem?_getD, List.getD_eq_getElem?_getD, List.getElem?_append_right (by omega)]
theorem and_bit {A p : Nat} (hA : A < 1024) (hp : p < 10) : o_and (A : Int) (o_shl 1 (p : Int)) = 0 ↔ A.testBit p = false := by
  rw [o_shl1 (by omega), n_and (by omega) (by have := shl1_lt (q := p) hp; omega)]
  constructor
  · intro h
    have h0 : A &&& 1 <<< p = 0 := by omega
    have : (A &&& 1 <<< p).testBit p = false := by rw [h0]; exact Nat.zero_testBit _
    rw [Nat.testBit_and, bit_1] at this
    simpa using this
  · intro h
    have : A &&& 1 <<< p = 0 := by
      apply Nat.eq_of_testBit_eq
      intro i
      rw [Nat.testBit_and, bit_1, Nat.zero_testBit]
      by_cases e : p = i
      · subst e; rw [h]; rfl
      · simp [e]
    omega
theorem or_new {C p : Nat} (hC : C < 1024) (hp : p < 10) : o_or (C : Int) (o_shl 1 (p : Int)) = ((C ||| 2 ^ p : Nat) : Int) := by
  rw [o_shl1 (by omega), n_or (by omega) (by have := shl1_lt (q := p) hp; omega), Nat.one_shiftLeft]
set_option maxHeartbeats 1000000 in
theorem w_pick {A O : Nat} (hA : A < 1024) (hO : O < 1024) : ∀ (d b x C : Nat) {σ : st_S} {s k : Nat} {Q : st_S → Prop}, x < d → b ≤ 10 → 1 ≤ x → x ≤ 4 → C < 1024 → (∀ p, p < b → C.testBit p = false) → gI σ 42 15 = (A : Int) → gI σ 42 16 = (O : Int) → gI σ 42 13 = (s : Int) → gI σ 42 14 = (k : Int) → k + (pkL (wTO A O) b x).length ≤ 210 → s ≤ 1890 →
    (∀ τ, pkS σ τ (s + k) ((pkL (wTO A O) b x).map (fun X => C ||| X)) → gI τ 42 14 = ((k + (pkL (wTO A O) b x).length : Nat) : Int) → Q τ) → wp_X5_pick d (b : Int) (x : Int) (C : Int) σ Q := by
  intro d
  induction d with
  | zero => intro b x C σ s k Q hd; exact absurd hd (by omega)
  | succ d ihd =>
    intro b x C σ s k Q hd hb hx hx4 hC hCb gA gO gs gk hlen hs hQ
    have key : ∀ m p : Nat, p + m = b → ∀ τ, pkS σ τ (s + k) ((pkL (wTO A O) p x).map (fun X => C ||| X)) → gI τ 42 14 = ((k + (pkL (wTO A O) p x).length : Nat) : Int) → L_X5_pick_3 Q (G_X5_pick d) (m + 1) (b : Int) (x : Int) (C : Int) (p : Int) τ := by
      intro m
      induction m with
      | zero =>
        intro p hp τ hτ hk
        have e : p = b := by omega
        subst e
        exact ⟨fun _ => hQ τ hτ hk, fun z => absurd (Int.le_refl _) z⟩
      | succ m ih =>
        intro p hp τ hτ hk
        have mono : k + (pkL (wTO A O) (p + 1) x).length ≤ 210 := by
          have : ∀ q r, (pkL (wTO A O) q x).length ≤ (pkL (wTO A O) (q + r) x).length := by
            intro q r
            induction r with
            | zero => exact Nat.le_refl _
            | succ r ihr => rw [← Nat.add_assoc, pk_s, List.length_append]; omega
          have := this (p + 1) m
          rw [show p + 1 + m = b by omega] at this
          omega
        have tA : gI τ 42 15 = (A : Int) := by rw [hτ.2.1 _ _ (by omega) (by omega)]; exact gA
        have tO : gI τ 42 16 = (O : Int) := by rw [hτ.2.1 _ _ (by omega) (by omega)]; exact gO
        have ts : gI τ 42 13 = (s : Int) := by rw [hτ.2.1 _ _ (by omega) (by omega)]; exact gs
        have nxt : ∀ υ, pkS σ υ (s + k) ((pkL (wTO A O) (p + 1) x).map (fun X => C ||| X)) → gI υ 42 14 = ((k + (pkL (wTO A O) (p + 1) x).length : Nat) : Int) → B_X5_pick_138 Q (G_X5_pick d) (L_X5_pick_3 Q (G_X5_pick d) (m + 1)) (b : Int) (x : Int) (C : Int) (p : Int) υ := by
          intro υ hu hku
          intro y ey
          rw [wks (by omega)] at ey
          subst ey
          exact ih (p + 1) (by omega) υ hu hku
        rw [pk_s] at nxt mono
        have same : (wTO A O p = 0 ∨ x < wTO A O p) → B_X5_pick_138 Q (G_X5_pick d) (L_X5_pick_3 Q (G_X5_pick d) (m + 1)) (b : Int) (x : Int) (C : Int) (p : Int) τ := by
          intro hh
          rw [if_pos hh, List.append_nil] at nxt
          exact nxt τ hτ hk
        have h44 : ∀ v : Nat, wTO A O p = v → B_X5_pick_44 Q (G_X5_pick d) (L_X5_pick_3 Q (G_X5_pick d) (m + 1)) (b : Int) (x : Int) (C : Int) (p : Int) (o_shl 1 (p : Int)) (v : Int) τ := by
          intro v hv
          refine ⟨fun z => same (Or.inl (by omega)), fun z => ⟨fun y => ⟨fun w => ?_, fun w => ?_⟩, fun y => same (Or.inr (by omega))⟩⟩
          · have ev : wTO A O p = x := by omega
            rw [if_neg (show ¬ (wTO A O p = 0 ∨ x < wTO A O p) by omega), if_pos ev, List.length_append] at mono
            rw [if_neg (show ¬ (wTO A O p = 0 ∨ x < wTO A O p) by omega), if_pos ev] at nxt
            have l1 : ([2 ^ p] : List Nat).length = 1 := rfl
            rw [ts, hk, wkn (by omega)]
            refine ⟨fun u => absurd u (by omega), fun _ => ⟨fun u => absurd u (by omega), fun _ => ⟨ixn (by omega), ?_⟩⟩⟩
            intro s27 e27 x29 e29
            have g27 : gI s27 42 14 = ((k + (pkL (wTO A O) p x).length : Nat) : Int) := by rw [e27]; exact hk
            rw [g27, wks (by omega)] at e29
            subst e29
            intro s30 e30
            rw [Int.toNat_natCast, or_new hC (by omega)] at e27
            refine nxt s30 ?_ ?_
            · rw [List.map_append]
              refine pkS_app hτ ⟨by rw [e30, e27]; rfl, fun c j a1 a2 => ?_, fun i hi => ?_⟩
              · rw [List.length_map] at a2
                have l2 : (([2 ^ p] : List Nat).map (fun X => C ||| X)).length = 1 := rfl
                rw [l2] at a2
                rw [e30, gI_sI, if_neg (by omega), e27, gI_sI, if_neg (by omega)]
              · have hi0 : i = 0 := by
                  have l2 : (([2 ^ p] : List Nat).map (fun X => C ||| X)).length = 1 := rfl
                  omega
                subst hi0
                rw [List.length_map, e30, gI_sI, if_neg (by omega), e27, gI_sI, if_pos ⟨rfl, by omega⟩]
                rfl
            · rw [e30, gI_sI, if_pos ⟨rfl, rfl⟩, List.length_append, l1]
              omega
          · have ev : ¬ wTO A O p = x := by omega
            rw [if_neg (show ¬ (wTO A O p = 0 ∨ x < wTO A O p) by omega), if_neg ev, List.length_append, List.length_map] at mono
            rw [if_neg (show ¬ (wTO A O p = 0 ∨ x < wTO A O p) by omega), if_neg ev] at nxt
            rw [show ((x : Int) - (v : Int)) = ((x - v : Nat) : Int) by omega, wr_n (by omega), or_new hC (by omega)]
            rw [hv] at mono nxt
            have c2 : C ||| 2 ^ p < 1024 := Nat.or_lt_two_pow (n := 10) hC (Nat.pow_lt_pow_right (by decide) (show p < 10 by omega))
            have cb : ∀ q, q < p → (C ||| 2 ^ p).testBit q = false := fun q hq => by
              rw [Nat.testBit_or, hCb q (by omega), Nat.testBit_two_pow]; simp; omega
            refine ihd p (x - v) (C ||| 2 ^ p) (by omega) (by omega) (by omega) (by omega) c2 cb tA tO ts hk (by omega) hs (fun υ hu hku => ?_)
            refine nxt υ ?_ ?_
            · rw [List.map_append]
              refine pkS_app hτ ?_
              rw [List.length_map, List.map_map]
              have em : (pkL (wTO A O) p (x - v)).map ((fun X => C ||| X) ∘ fun X => X + 2 ^ p) = (pkL (wTO A O) p (x - v)).map (fun X => C ||| 2 ^ p ||| X) := by
                refine List.map_congr_left (fun X hX => ?_)
                show C ||| (X + 2 ^ p) = _
                rw [← Nat.or_two_pow_eq_add_of_lt (pk_lts (by omega) hX), Nat.or_comm X, Nat.or_assoc]
              rw [em, Nat.add_assoc]
              exact hu
            · rw [hku, List.length_append, List.length_map]
              omega
        refine ⟨fun z => absurd z (by omega), fun _ => ?_⟩
        intro y ey
        subst ey
        rw [tA, tO]
        refine ⟨fun z => ⟨fun w => ?_, fun w => ?_⟩, fun z => ?_⟩
        · rw [and_bit hA (by omega)] at z
          rw [and_bit hO (by omega)] at w
          exact h44 0 (by unfold wTO; rw [z, w]; rfl)
        · rw [and_bit hA (by omega)] at z
          rw [and_bit hO (by omega)] at w
          have w' : O.testBit p = true := by cases hh : O.testBit p; exact absurd hh w; rfl
          exact h44 1 (by unfold wTO; rw [z, w']; rfl)
        · rw [and_bit hA (by omega)] at z
          have z' : A.testBit p = true := by cases hh : A.testBit p; exact absurd hh z; rfl
          exact h44 2 (by unfold wTO; rw [z']; rfl)
    exact ⟨b + 1, key b 0 (by omega) σ pkS_nil gk⟩
