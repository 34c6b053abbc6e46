/-! the class's list of a night -/
theorem w_fillP {A O n night x : Nat} {σ : st_S} {Q : Int → st_S → Prop} (hA : A < 1024) (hO : O < 1024) (hn : n ≤ 10) (e0 : gI σ 25 0 = (n : Int)) (gA : gI σ 42 15 = (A : Int)) (gO : gI σ 42 16 = (O : Int)) (hN : night ≤ 9) (hx : x = 2 ∨ x = 4)
    (hQ : ∀ τ, τ.2 = σ.2 → (∀ c j, ¬ (c = 42 ∧ (j = 13 ∨ j = 14)) → ¬ (c = 51 ∧ 210 * night ≤ j ∧ j < 210 * night + 210) → gI τ c j = gI σ c j) → (∀ i, i < (pkL (wTO A O) n x).length → gI τ 51 (210 * night + i) = (((pkL (wTO A O) n x).getD i 0 : Nat) : Int)) → Q ((pkL (wTO A O) n x).length : Int) τ) : wp_X5_fill (night : Int) (x : Int) σ Q := by
  intro y ey s10 e10 s11 e11
  rw [show ((night : Int) * 210) = ((210 * night : Nat) : Int) by omega, wr_n (by omega)] at ey
  subst ey
  have len := pk_210 (wTO_2 A O) (b := n) (x := x) hn (by omega) (by omega)
  have g0 : gI s11 25 0 = (n : Int) := by rw [e11, e10]; exact e0
  have o11 : ∀ c j, ¬ (c = 42 ∧ (j = 13 ∨ j = 14)) → gI s11 c j = gI σ c j := fun c j h => by rw [e11, gI_sI, if_neg (by omega), e10, gI_sI, if_neg (by omega)]
  have t11 : s11.2 = σ.2 := by rw [e11, e10]; rfl
  rw [g0]
  refine w_pick hA hO 6 n x 0 (s := 210 * night) (k := 0) (by omega) hn (by omega) (by omega) (by decide) (fun p _ => Nat.zero_testBit p) ?_ ?_ ?_ ?_ (by omega) (by omega) (fun τ hτ hk => ?_)
  · rw [o11 _ _ (by omega)]; exact gA
  · rw [o11 _ _ (by omega)]; exact gO
  · rw [e11, e10]; rfl
  · rw [e11]; rfl
  · have em : (pkL (wTO A O) n x).map (fun X => 0 ||| X) = pkL (wTO A O) n x := by
      have : (fun X : Nat => 0 ||| X) = id := funext fun X => Nat.zero_or X
      rw [this, List.map_id]
    rw [em, Nat.add_zero] at hτ
    rw [Nat.zero_add] at hk
    rw [hk]
    exact hQ τ (hτ.1.trans t11) (fun c j a b => by rw [hτ.2.1 c j (by omega) (by omega), o11 c j a]) (fun i hi => hτ.2.2 i hi)
theorem pk_top {w : Nat → Nat} {n b x : Nat} (h : n ≤ b) (hw : ∀ p, n ≤ p → w p = 0) : pkL w b x = pkL w n x := by
  induction b with
  | zero => rw [show n = 0 by omega]
  | succ b ih =>
    by_cases e : n = b + 1
    · rw [e]
    · rw [pk_s, if_pos (Or.inl (hw b (by omega))), List.append_nil]
      exact ih (by omega)
