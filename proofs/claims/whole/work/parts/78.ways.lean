/-! how many rows, all forgotten first: the reference -/
theorem m_waysL {n m : Nat} {M : zM} {K : Nat → Int} {Q : Int → st_S → Prop} {σ : st_S} (hm : m ≤ 10) (hK : gI σ 2 = K) (hs : sxM σ n M 0 0) (hQ : ∀ τ, zW σ τ → Q (rwV (crL M K n 0 0) m 0 0) τ) : ∃ f : Nat, L_X11_ways_20 Q f (m : Int) 0 σ := by
  have key : ∀ k i : Nat, i + k = 11264 → ∀ τ, zW σ τ → sxM τ n M 0 0 → (∀ j, j < i → gI τ 21 j = -1) → L_X11_ways_20 Q (k + 1) (m : Int) (i : Int) τ := by
    intro k
    induction k with
    | zero =>
      intro i hi τ hz hst ha
      refine ⟨fun _ => ?_, fun w => absurd (by omega) w⟩
      refine m_rowsFrom (n := n) (M := M) (K := K) hm 13 0 0 (by omega) (by omega) (by decide) (by rw [zW_K hz]; exact hK) hst (fun n' u' a b => Or.inl (ha _ (by omega))) (fun υ a1 _ _ => ?_)
      exact hQ υ (zW_tr hz a1)
    | succ k ih =>
      intro i hi τ hz hst ha
      refine ⟨fun w => absurd w (by omega), fun _ => ⟨ixn (by omega), ?_⟩⟩
      intro s es x ex
      rw [wks (by omega)] at ex
      rw [Int.toNat_natCast] at es
      subst ex es
      refine ih (i + 1) (by omega) _ (zW_tr hz ⟨rfl, fun c' j' _ f => by rw [gI_sI, if_neg (by omega)]⟩) (sxM_21 hst) (fun j hj => ?_)
      rw [gI_sI]
      by_cases e : j = i
      · rw [if_pos ⟨rfl, e⟩]
      · rw [if_neg (fun w => e w.2)]
        exact ha j (by omega)
  exact ⟨11265, key 11264 0 (by omega) σ zW_rfl hs (fun j hj => absurd hj (by omega))⟩
