/-! ways: the class spreads a night -/
theorem w_fillL {c : Nat} {v : Int} {σ : st_S} {Q : st_S → Prop} (hk : gK σ c = 1) (hL : gL σ c < 2 ^ 31) (hQ : Q (sF σ c (fun j => if j < gL σ c then v else gI σ c j))) : wp_J7_fill_d0a16 c v σ Q := by
  refine ⟨hk, fun x ex => ?_⟩
  rw [wr_id (by omega) (by omega)] at ex
  rw [ex]
  refine ⟨gL σ c + 1, ?_⟩
  have key : ∀ n i : Nat, i + n = gL σ c → L_J7_fill_d0a16_6 Q (n + 1) c v (i : Int) ((gL σ c : Nat) : Int) (sF σ c (fun j => if j < i then v else gI σ c j)) := by
    intro n
    induction n with
    | zero =>
      intro i hi
      refine ⟨fun _ => ?_, fun q => absurd (by omega) q⟩
      rw [show i = gL σ c by omega]
      exact hQ
    | succ n ih =>
      intro i hi
      refine ⟨fun q => absurd q (by omega), fun _ => ⟨hk, ⟨by omega, by rw [gL_sF]; omega⟩, ?_⟩⟩
      intro s es x ex
      rw [wr_id (by omega) (by omega)] at ex
      rw [es, ex]
      have e : sI (sF σ c (fun j => if j < i then v else gI σ c j)) c (Int.toNat (i : Int)) v = sF σ c (fun j => if j < i + 1 then v else gI σ c j) := by
        refine Prod.ext (funext fun c' => funext fun j' => ?_) rfl
        show gI (sI _ _ _ _) c' j' = gI (sF _ _ _) c' j'
        rw [gI_sI, gI_sF, gI_sF]
        by_cases h1 : c' = c
        · subst h1
          rw [Int.toNat_natCast]
          by_cases h2 : j' = i
          · subst h2; simp
          · by_cases h3 : j' < i
            · simp [h2, h3, show j' < i + 1 by omega]
            · simp [h2, h3, show ¬ j' < i + 1 by omega]
        · simp [h1]
      rw [e]
      have := ih (i + 1) (by omega)
      rw [show ((i + 1 : Nat) : Int) = (i : Int) + 1 by omega] at this
      exact this
  have := key (gL σ c) 0 (by omega)
  rw [show sF σ c (fun j => if j < 0 then v else gI σ c j) = σ from Prod.ext (funext fun c' => funext fun j' => by
    show gI (sF _ _ _) c' j' = gI σ c' j'
    rw [gI_sF]
    split
    · rename_i e; subst e; simp
    · rfl) rfl] at this
  exact this
theorem cr_lt {K : Nat → Int} {n away hsh night used X : Nat} {M : zM} (h : X ∈ crL M K n away hsh night used) : X < 2 ^ n := by
  refine Nat.lt_pow_two_of_testBit _ (fun i hi => ?_)
  cases hb : X.testBit i with
  | false => rfl
  | true =>
    have := (wMV_p ((cr_mem h).2.2.1 i hb).2).1
    omega
/-- Search's two rows of longs -/
def rwK (σ : st_S) : Prop := (gK σ 63 = 1 ∧ gL σ 63 = 1024) ∧ (gK σ 64 = 1 ∧ gL σ 64 = 1024)
theorem rwK_of {σ τ : st_S} (h : rwK σ) (g : τ.2.2 = σ.2.2) : rwK τ := by
  unfold rwK gK gL at *
  rw [g]
  exact h
def zSp (t' : Nat) (σ τ : st_S) : Prop := τ.2 = σ.2 ∧ ∀ c j, ¬ (c = 42 ∧ 13 ≤ j ∧ j ≤ 16) → c ≠ 51 → c ≠ t' → gI τ c j = gI σ c j
def sG (G : Nat → Int) (u : Nat) (l : List Nat) : Int := l.foldl (fun b c => b + G (u ||| c)) 0
set_option maxHeartbeats 400000 in
theorem w_spread {σ : st_S} {K : Nat → Int} {n night u t t' : Nat} {M : zM} {Q : st_S → Prop} (h : ppC σ K n M) (ht : gR σ 56 8 = some t) (ht' : gR σ 56 9 = some t') (htt : (t = 63 ∧ t' = 64) ∨ (t = 64 ∧ t' = 63)) (hk : rwK σ) (hN : night ≤ 9) (hu : u < 2 ^ n) (hct : night ≤ ctN u n)
    (hQ : ∀ τ, zSp t' σ τ → (∀ G, eqL (smI (fun v => gI τ t' v * G v) (2 ^ n)) (smI (fun v => gI σ t' v * G v) (2 ^ n) + gI σ t u * sG G u (crL M K n 0 0 night u))) → (∀ v, ¬ gI τ t' v = 0 → ¬ gI σ t' v = 0 ∨ night + 1 ≤ ctN v n) → Q τ) : wp_X8_spread (night : Int) (u : Int) σ Q := by
  have hn := h.1.1.2.2
  have pn := pw_le hn
  have pl := ppl_lt (K := K) hn
  obtain ⟨H0, eH, hH0⟩ := h.2.1.2.1
  have u10 : u < 1024 := by omega
  have kt : gK σ t = 1 ∧ gL σ t = 1024 := by rcases htt with w | w <;> rw [w.1]; exact hk.1; exact hk.2
  have kt' : gK σ t' = 1 ∧ gL σ t' = 1024 := by rcases htt with w | w <;> rw [w.2]; exact hk.2; exact hk.1
  unfold wp_X8_spread
  rw [eH, show gI σ 42 0 = (ppl K n : Int) from h.2.1.1]
  refine w_spoiled (hsh := 0) (used := 0) h (hOk_root hH0) u10 (by decide) (fun p _ hp => by rw [Nat.zero_testBit] at hp; exact absurd hp (by decide)) (fun H hH => ?_)
  rw [Nat.zero_or] at hH
  rw [n_andn (by omega) (by omega)]
  generalize hel : crL M K n 0 0 night u = l at hQ
  have nd := ndV_v K night
  have l210 : l.length ≤ 210 := by rw [← hel]; exact pk_210 (fun p => wMV_2 h.1 p) (by omega) (by omega) (by omega)
  refine w_list h hH (rs_P (away := 0) (used := u) pl (fun p hp => ppl_b p hp)) (fun q => cr_nil q hct) (fun τ2 z2 g2 => ?_)
  rw [hel] at g2 ⊢
  have key : ∀ k i : Nat, i + k = l.length → ∀ τ, zSp t' σ τ → (∀ G, eqL (smI (fun v => gI τ t' v * G v) (2 ^ n)) (smI (fun v => gI σ t' v * G v) (2 ^ n) + gI σ t u * sG G u (l.take i))) → (∀ v, ¬ gI τ t' v = 0 → ¬ gI σ t' v = 0 ∨ night + 1 ≤ ctN v n) → (∀ i, i < l.length → gI τ 51 (210 * night + i) = ((l.getD i 0 : Nat) : Int)) → L_X8_spread_39 Q (k + 1) (night : Int) (u : Int) (l.length : Int) (i : Int) τ := by
    intro k
    induction k with
    | zero =>
      intro i hi τ a1 a2 a3 a4
      have ei : l.take i = l := List.take_of_length_le (by omega)
      rw [ei] at a2
      exact ⟨fun _ => hQ τ a1 a2 a3, fun z => absurd (by omega) z⟩
    | succ k ih =>
      intro i hi τ a1 a2 a3 a4
      have hil : i < l.length := by omega
      have hmem : l[i] ∈ crL M K n 0 0 night u := by rw [hel]; exact List.getElem_mem hil
      have c10 : l[i] < 1024 := (cr_mem hmem).1
      have uc : u ||| l[i] < 2 ^ n := Nat.or_lt_two_pow hu (cr_lt hmem)
      have eK : ∀ c, gK τ c = gK σ c := fun c => by unfold gK; rw [a1.1]
      have eL : ∀ c, gL τ c = gL σ c := fun c => by unfold gL; rw [a1.1]
      have eR : ∀ c j, gR τ c j = gR σ c j := fun c j => by unfold gR; rw [a1.1]
      have ec : gI τ 51 (210 * night + i) = (l[i] : Int) := by
        rw [a4 i hil, List.getD_eq_getElem?_getD, List.getElem?_eq_getElem hil]
        rfl
      refine ⟨fun z => absurd z (by omega), fun _ => ⟨t', by rw [eR]; exact ht', w_crewAt hN (by omega) ?_⟩⟩
      rw [ec, n_or (by omega) (by omega), Int.toNat_natCast, Int.toNat_natCast]
      refine ⟨by rw [eK]; exact kt'.1, by rw [eL, kt'.2]; exact ixn (by omega), t, by rw [eR]; exact ht, by rw [eK]; exact kt.1, by rw [eL, kt.2]; exact ixn (by omega), ?_⟩
      intro x ex
      refine ⟨by rw [eL, kt'.2]; exact ixn (by omega), ?_⟩
      intro s es y ey
      rw [wks (by omega)] at ey
      subst ey
      have tt : t ≠ t' ∧ t ≠ 51 ∧ t ≠ 42 ∧ t' ≠ 51 ∧ t' ≠ 42 := by omega
      have ext : gI τ t u = gI σ t u := a1.2 t u (by omega) tt.2.1 tt.1
      have os : ∀ c j, ¬ (c = t' ∧ j = u ||| l[i]) → gI s c j = gI τ c j := fun c j q => by rw [es, gI_sI, if_neg q]
      have vs : gI s t' (u ||| l[i]) = x := by rw [es, gI_sI, if_pos ⟨rfl, rfl⟩]
      refine ih (i + 1) (by omega) s ⟨by rw [es]; exact a1.1, fun c j q1 q2 q3 => by rw [os c j (fun w => q3 w.1)]; exact a1.2 c j q1 q2 q3⟩ (fun G => ?_) (fun v hv => ?_) (fun i' hi' => by rw [os _ _ (fun w => tt.2.2.2.1 w.1.symm)]; exact a4 i' hi')
      · have p := smI_put (f := gI τ t') (f' := gI s t') (G := G) (v0 := u ||| l[i]) (N := 2 ^ n) (a := gI σ t u) uc (by rw [vs, ex, ext]; exact eqL_wl _) (fun v _ hv => os _ _ (fun w => hv w.2))
        have es2 : sG G u (l.take (i + 1)) = sG G u (l.take i) + G (u ||| l[i]) := by
          unfold sG
          rw [List.take_add_one, List.getElem?_eq_getElem hil, List.foldl_append]
          rfl
        refine eqL_tr p ?_
        rw [es2, Int.mul_add, ← Int.add_assoc]
        exact eqL_add (a2 G) eqL_rfl
      · by_cases e : v = u ||| l[i]
        · right
          rw [e]
          have := cr_ct hmem
          omega
        · rw [os _ _ (fun w => e w.2)] at hv
          exact a3 v hv
  refine ⟨l.length + 1, key l.length 0 (by omega) τ2 ⟨z2.1, fun c j q1 q2 _ => z2.2 c j q1 (fun w => q2 w.1)⟩ (fun G => ?_) (fun v hv => Or.inl ?_) g2⟩
  · have e : (fun v => gI τ2 t' v * G v) = (fun v => gI σ t' v * G v) := funext fun v => by rw [z2.2 t' v (by omega) (by omega)]
    rw [e, show sG G u (l.take 0) = 0 from rfl, Int.mul_zero, Int.add_zero]
    exact eqL_rfl
  · rw [z2.2 t' v (by omega) (by omega)] at hv
    exact hv
