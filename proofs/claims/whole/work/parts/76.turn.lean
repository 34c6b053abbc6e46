/-! the next crew of other lands: the reference -/
def tuL (g : Nat → Nat) (n ld : Nat) (l : List Nat) : List Nat := l.filter (fun X => ldS g X n &&& ld == 0)
theorem tu_mem {g : Nat → Nat} {n ld X : Nat} {l : List Nat} : X ∈ tuL g n ld l ↔ X ∈ l ∧ ldS g X n &&& ld = 0 := by
  unfold tuL
  rw [List.mem_filter, beq_iff_eq]
set_option maxHeartbeats 400000 in
theorem m_turnBehind {n away hsh night used c0 ld : Nat} {M : zM} {K : Nat → Int} {g : Nat → Nat} {σ : st_S} {Q : Int → st_S → Prop} (hg : ∀ p, g p < 4) (hs : sxM σ n M away hsh) (hn : n ≤ 10) (hK : gI σ 2 = K) (k0 : K 256 = (n : Int)) (kl : ∀ p, p < n → K (35 + 2 * p) = (g p : Int)) (hN : night ≤ 10) (hu : used < 1024) (h0 : c0 < 1024) (hld : ld < 16)
    (h1 : ∀ X τ, zX σ τ → sxM τ n M away hsh → X ∈ tuL g n ld (crL M K n away hsh night used) → c0 < X → (∀ Y, Y ∈ tuL g n ld (crL M K n away hsh night used) → c0 < Y → X ≤ Y) → Q (X : Int) τ)
    (h2 : ∀ τ, zX σ τ → sxM τ n M away hsh → (∀ Y, Y ∈ tuL g n ld (crL M K n away hsh night used) → ¬ c0 < Y) → Q (-1) τ) : wp_X11_turnBehind (night : Int) (used : Int) (ld : Int) (c0 : Int) σ Q := by
  have nd := ndV_v K night
  have lt10 : ∀ Y, Y ∈ crL M K n away hsh night used → Y < 1024 := fun Y hY => pk_lts (by omega) hY
  have key : ∀ f : Nat, ∀ (r : Int) ω, zX σ ω → sxM ω n M away hsh → ((∃ X : Nat, r = (X : Int) ∧ 1024 ≤ X + f ∧ X ∈ crL M K n away hsh night used ∧ c0 < X ∧ ∀ Y, Y ∈ tuL g n ld (crL M K n away hsh night used) → c0 < Y → X ≤ Y) ∨ (r = -1 ∧ ∀ Y, Y ∈ tuL g n ld (crL M K n away hsh night used) → ¬ c0 < Y)) → L_X11_turnBehind_10 Q (f + 1) (night : Int) (used : Int) (ld : Int) r ω := by
    intro f
    induction f with
    | zero =>
      intro r ω zw a2 h
      rcases h with ⟨X, e, b, a3, a4, a5⟩ | ⟨e, a3⟩
      · have := lt10 X a3
        omega
      · subst e
        exact ⟨fun _ => h2 ω zw a2 a3, fun w => absurd rfl w⟩
    | succ f ih =>
      intro r ω zw a2 h
      rcases h with ⟨X, e, b, a3, a4, a5⟩ | ⟨e, a3⟩
      · subst e
        have Kw : gI ω 2 = K := by rw [← hK]; exact zX_K zw
        have X10 := lt10 X a3
        have lb := ldS_lt (g := g) (S := X) hg n
        refine ⟨fun w => absurd w (by omega), fun _ => m_landsOf hg X10 hn (by rw [Kw]; exact k0) (fun p hp => by rw [Kw]; exact kl p hp) ⟨fun w => ?_, fun w => ?_⟩⟩
        · rw [n_and (by omega) (by omega)] at w
          exact h1 X ω zw a2 (tu_mem.2 ⟨a3, by omega⟩) a4 a5
        · rw [n_and (by omega) (by omega)] at w
          have gt : ∀ Y, Y ∈ tuL g n ld (crL M K n away hsh night used) → c0 < Y → X < Y := by
            intro Y hY hy
            rcases Nat.lt_or_eq_of_le (a5 Y hY hy) with l2 | l2
            · exact l2
            · rw [← l2] at hY
              exact absurd (by rw [(tu_mem.1 hY).2]; rfl) w
          refine m_crewIn a2 hN hu X10 (fun X' υ b1 b2 b3 b4 b5 => ?_) (fun υ b1 b2 b3 => ?_)
          · rw [Kw] at b3 b5
            exact ih _ υ (zX_tr zw b1) b2 (Or.inl ⟨X', rfl, by omega, b3, by omega, fun Y hY hy => b5 Y (tu_mem.1 hY).1 (gt Y hY hy)⟩)
          · rw [Kw] at b3
            exact ih _ υ (zX_tr zw b1) b2 (Or.inr ⟨rfl, fun Y hY hy => b3 Y (tu_mem.1 hY).1 (gt Y hY hy)⟩)
      · subst e
        exact ⟨fun _ => h2 ω zw a2 a3, fun w => absurd rfl w⟩
  refine m_crewIn hs hN hu h0 (fun X τ b1 b2 b3 b4 b5 => ?_) (fun τ b1 b2 b3 => ?_)
  · rw [hK] at b3 b5
    exact ⟨1025, key 1024 _ τ b1 b2 (Or.inl ⟨X, rfl, by omega, b3, b4, fun Y hY hy => b5 Y (tu_mem.1 hY).1 hy⟩)⟩
  · rw [hK] at b3
    exact ⟨1025, key 1024 _ τ b1 b2 (Or.inr ⟨rfl, fun Y hY hy => b3 Y (tu_mem.1 hY).1 hy⟩)⟩
theorem tu_sort {g : Nat → Nat} {n ld : Nat} {l : List Nat} (h : List.Pairwise (· < ·) l) : List.Pairwise (· < ·) (tuL g n ld l) := List.Pairwise.filter _ h
