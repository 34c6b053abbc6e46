/-! what the law in force tells: the class -/
def clv (most v : Int) : Int := if v < 0 then 0 else if most < v then most else v
theorem clv_o {most v : Int} (h : 0 ≤ most) : o_max 0 (o_min most v) = clv most v := by
  unfold o_max o_min clv
  split <;> split <;> (try split) <;> (try split) <;> omega
/-- whether clause j's test is so -/
def tsB (M : zM) (W : Nat → Int) (j : Nat) : Bool := match M.2.2.2.1 j with
  | none => true
  | some D => decide (D W = some 1)
/-- what the first clauses tell of a verb -/
def tlA (M : zM) (verb most : Int) (W : Nat → Int) (dflt : Int) : Nat → Int
  | 0 => dflt
  | j + 1 => if M.2.1 j = verb ∧ tsB M W j = true then (if verb = 4 then 1 else match M.2.2.1 j W with
    | some v => clv most v
    | none => tlA M verb most W dflt j) else tlA M verb most W dflt j
theorem tlA_i {M : zM} {verb most dflt : Int} {W : Nat → Int} (hm : 1 ≤ most ∧ most ≤ 999) (hd : i32 dflt) (j : Nat) : i32 (tlA M verb most W dflt j) := by
  induction j with
  | zero => exact hd
  | succ j ih =>
    unfold tlA
    split
    · split
      · unfold i32; omega
      · split
        · unfold i32 clv
          split <;> (try split) <;> omega
        · exact ih
    · exact ih
/-- the meaning of the law in force, as the class has it -/
def fMc (σ : st_S) (M : zM) : Prop := (gI σ 25 11 = -1 ∧ M.1 = 0) ∨ ∃ i c : Nat, gI σ 25 11 = (i : Int) ∧ i < 6 ∧ gR σ 34 i = some c ∧ 65 ≤ c ∧ gK σ c = 25 ∧ cTx σ c false M
theorem fMc_ab {σ τ : st_S} {M : zM} (h : fMc σ M) (g : τ.2 = σ.2) (hI : ∀ c j, (c = 25 ∧ j = 11) ∨ 65 ≤ c → gI τ c j = gI σ c j) : fMc τ M := by
  have eL : ∀ c, gL τ c = gL σ c := fun c => by unfold gL; rw [g]
  rcases h with ⟨h1, h2⟩ | ⟨i, c, h1, h2, h3, h4, h5, h6⟩
  · exact Or.inl ⟨by rw [hI _ _ (by omega)]; exact h1, h2⟩
  · exact Or.inr ⟨i, c, by rw [hI _ _ (by omega)]; exact h1, h2, by unfold gR; rw [g]; exact h3, h4, by unfold gK; rw [g]; exact h5, cTx_of h6 (fun d j a _ => hI _ _ (by omega)) (fun d _ _ => eL d)⟩
/-- the judge's abacus -/
def zJk (σ : st_S) : Prop := gK σ 36 = 16 ∧ gK σ 38 = 0 ∧ gL σ 38 = 64
theorem zJk_of {σ τ : st_S} (h : zJk σ) (g : τ.2 = σ.2) : zJk τ := by
  unfold zJk gK gL at *
  rw [g]
  exact h
set_option maxHeartbeats 400000 in
theorem w_tells {verb dflt most : Int} {M : zM} {W : Nat → Int} {σ : st_S} {Q : Int → st_S → Prop} (hv : 0 ≤ verb ∧ verb ≤ 4) (hm : 1 ≤ most) (hf : fMc σ M) (hk : zJk σ) (hW : ∀ i, i < 10 → gI σ 37 i = W i) (hW2 : ∀ i, i32 (W i)) (hQ : ∀ τ, zAb 36 σ τ → Q (tlA M verb most W dflt M.1) τ) : wp_X3_tells verb dflt most σ Q := by
  intro x ex
  rcases hf with ⟨h1, h2⟩ | ⟨fi, c, h1, h2, h3, h4, h5, h6⟩
  · rw [h1] at ex
    subst ex
    rw [h2] at hQ
    exact ⟨fun _ => ⟨fun _ => hQ σ zAb_rfl, fun t z => absurd z (by simp)⟩, fun z => absurd (by decide) z⟩
  · rw [h1] at ex
    subst ex
    refine ⟨fun z => absurd z (by omega), fun _ => ⟨fun z => absurd z (by omega), fun _ => ⟨⟨by omega, by omega⟩, ?_⟩⟩⟩
    rw [Int.toNat_natCast, h3]
    refine ⟨fun z => absurd z (by simp), fun t et => ?_⟩
    injection et with et
    subst et
    obtain ⟨t1, t2, len, t3, t4, t5, t6, t6b, t7⟩ := h6
    have Ac : ∀ τ, zAb 36 σ τ → zAc τ 36 c len W ∧ cO τ (c + 1) = cO σ (c + 1) ∧ cD τ (c + 1) = cD σ (c + 1) := by
      intro τ hτ
      have hA : zAc σ 36 c len W := ⟨hk.1, h5, hk.2.1, hk.2.2, t3, t5, t4, t6, fun i hi e1 e2 => hW _ (by have := t6b rfl i hi e1; obtain ⟨k, k1, -⟩ := cD_r σ (c + 1) i; rw [k1] at this ⊢; rw [Int.toNat_natCast]; omega), hW2, by omega, by omega, by omega, by omega⟩
      exact ⟨zAc_ag hA hτ, cO_eq (fun j => hτ.2 _ _ (by omega) (by omega)), cD_eq (fun j => hτ.2 _ _ (by omega) (by omega))⟩
    have key : ∀ n j : Nat, j + n = M.1 → ∀ τ, zAb 36 σ τ → L_X3_tells_51 Q (n + 1) verb most c (tlA M verb most W dflt j) (j : Int) τ := by
      intro n
      induction n with
      | zero =>
        intro j hj τ hτ
        have e7 : gI τ c 7 = (M.1 : Int) := by rw [hτ.2 _ _ (by omega) (by omega)]; exact t1
        have eK : gK τ c = 16 + 9 := by unfold gK; rw [hτ.1]; exact h5
        refine ⟨eK, fun _ => ?_, fun z => absurd (by omega) z⟩
        rw [show j = M.1 by omega]
        exact hQ τ hτ
      | succ n ih =>
        intro j hj τ hτ
        have e7 : gI τ c 7 = (M.1 : Int) := by rw [hτ.2 _ _ (by omega) (by omega)]; exact t1
        have eK : gK τ c = 16 + 9 := by unfold gK; rw [hτ.1]; exact h5
        have eL : ∀ d, gL τ d = gL σ d := fun d => by unfold gL; rw [hτ.1]
        have eI : ∀ d i, 65 ≤ d → gI τ d i = gI σ d i := fun d i hd => hτ.2 _ _ (by omega) (by omega)
        obtain ⟨q1, q2, q3, q4, q5, q6, q7, q8, q9, a, b, e, qa, qb, qe, qel, qs, qns, qt, qtt⟩ := t7 j (by omega)
        have hbl : b ≤ len := by
          cases hh : M.2.2.2.1 j with
          | none => have := qt hh; omega
          | some D => have := (qtt D hh).1; omega
        have nxt : ∀ (acc : Int) υ, zAb 36 σ υ → acc = tlA M verb most W dflt (j + 1) → B_X3_tells_185 Q (L_X3_tells_51 Q (n + 1)) verb most c acc (j : Int) υ := by
          intro acc υ hυ ha
          intro y ey
          rw [wks (by omega)] at ey
          subst ey
          rw [ha]
          exact ih (j + 1) (by omega) υ hυ
        refine ⟨eK, fun z => absurd z (by omega), fun _ => ⟨⟨by omega, by rw [eL]; omega⟩, fun hvb => ⟨⟨by omega, by rw [eL]; omega⟩, ?_⟩, fun hvb => ?_⟩⟩
        · rw [Int.toNat_natCast, eI _ _ (by omega), q6] at hvb
          intro x59 e59
          rw [Int.toNat_natCast, eI _ _ (by omega), qb] at e59
          subst e59
          have sum : ∀ υ, zAb 36 σ υ → tsB M W j = true → B_X3_tells_135 Q (L_X3_tells_51 Q (n + 1)) verb most c (tlA M verb most W dflt j) (j : Int) (b : Int) υ := by
            intro υ hυ hts
            refine ⟨fun ne4 => ⟨by unfold gK; rw [hυ.1]; exact h5, ⟨by omega, by unfold gL; rw [hυ.1]; show (j : Int) < (gL σ (c + 3) : Int); omega⟩, ?_⟩, fun e4 => nxt 1 υ hυ ?_⟩
            · rw [Int.toNat_natCast, show gI υ (c + 3) j = gI σ (c + 3) j from hυ.2 _ _ (by omega) (by omega), qa]
              obtain ⟨hA, hO, hD⟩ := Ac υ hυ
              have hs := qs (by show M.2.1 j < 4; omega)
              refine w_solve hA (b := b) hbl (m := 50) (by decide) (by rw [hO, hD]; exact hs) (fun v τ' hv2 ht' hr => ⟨fun z => absurd z (by decide), fun _ => ?_⟩) (fun hv2 τ' ht' => ⟨fun _ => nxt _ τ' (zAb_tr hυ ht') ?_, fun z => absurd rfl z⟩)
              · intro x50 e50
                rw [hr, clv_o (by omega)] at e50
                subst e50
                refine nxt _ τ' (zAb_tr hυ ht') ?_
                show _ = tlA M verb most W dflt (j + 1)
                unfold tlA
                rw [if_pos ⟨hvb, hts⟩, if_neg ne4, hv2]
              · show _ = tlA M verb most W dflt (j + 1)
                rw [show tlA M verb most W dflt (j + 1) = if M.2.1 j = verb ∧ tsB M W j = true then (if verb = 4 then 1 else match M.2.2.1 j W with | some v => clv most v | none => tlA M verb most W dflt j) else tlA M verb most W dflt j from rfl]
                rw [if_pos ⟨hvb, hts⟩, if_neg ne4, hv2]
            · rw [show tlA M verb most W dflt (j + 1) = if M.2.1 j = verb ∧ tsB M W j = true then (if verb = 4 then 1 else match M.2.2.1 j W with | some v => clv most v | none => tlA M verb most W dflt j) else tlA M verb most W dflt j from rfl]
              rw [if_pos ⟨hvb, hts⟩, if_pos e4]
          have notso : ∀ υ, zAb 36 σ υ → tsB M W j = false → B_X3_tells_185 Q (L_X3_tells_51 Q (n + 1)) verb most c (tlA M verb most W dflt j) (j : Int) υ := by
            intro υ hυ hts
            refine nxt _ υ hυ ?_
            rw [show tlA M verb most W dflt (j + 1) = if M.2.1 j = verb ∧ tsB M W j = true then (if verb = 4 then 1 else match M.2.2.1 j W with | some v => clv most v | none => tlA M verb most W dflt j) else tlA M verb most W dflt j from rfl]
            rw [if_neg (fun z => by rw [hts] at z; exact absurd z.2 (by decide))]
          refine ⟨⟨by omega, by rw [eL]; omega⟩, ?_⟩
          rw [Int.toNat_natCast, eI _ _ (by omega), qe]
          cases hd : M.2.2.2.1 j with
          | none =>
            have eb := qt hd
            subst eb
            exact ⟨fun _ => sum τ hτ (by unfold tsB; rw [hd]), fun z => absurd (Int.le_refl _) z⟩
          | some D =>
            obtain ⟨lbe, den⟩ := qtt D hd
            refine ⟨fun z => absurd z (by omega), fun _ => ⟨⟨by omega, by rw [eL]; omega⟩, ?_⟩⟩
            obtain ⟨hA, hO, hD⟩ := Ac τ hτ
            refine w_solve hA qel (m := 50) (by decide) (by rw [hO, hD]; exact den) (fun v τ' hv2 ht' hr => ⟨fun z => absurd z (by decide), fun _ => ⟨fun z => sum τ' (zAb_tr hτ ht') ?_, fun z => notso τ' (zAb_tr hτ ht') ?_⟩⟩) (fun hv2 τ' ht' => ⟨fun _ => notso τ' (zAb_tr hτ ht') ?_, fun z => absurd rfl z⟩)
            · unfold tsB
              rw [hd]
              show decide (D W = some 1) = true
              rw [hv2, ← hr, z]
              rfl
            · unfold tsB
              rw [hd]
              show decide (D W = some 1) = false
              rw [hv2, ← hr]
              exact decide_eq_false (fun y => z (by injection y))
            · unfold tsB
              rw [hd]
              show decide (D W = some 1) = false
              rw [hv2]
              rfl
        · rw [Int.toNat_natCast, eI _ _ (by omega), q6] at hvb
          refine nxt _ τ hτ ?_
          rw [show tlA M verb most W dflt (j + 1) = if M.2.1 j = verb ∧ tsB M W j = true then (if verb = 4 then 1 else match M.2.2.1 j W with | some v => clv most v | none => tlA M verb most W dflt j) else tlA M verb most W dflt j from rfl]
          rw [if_neg (fun z => hvb z.1)]
    exact ⟨M.1 + 1, key M.1 0 (by omega) σ zAb_rfl⟩
