/-! ways: what the class's rows of longs want -/
/-- the paper stands as long as its numbers, kinds and references do (Search's two rows may change places) -/
theorem fMc_R {σ τ : st_S} {M : zM} (h : fMc σ M) (hg : τ.2.2 = σ.2.2) (hR : ∀ c j, c ≠ 56 → gR τ c j = gR σ c j) (hI : ∀ c j, (c = 25 ∧ j = 11) ∨ 65 ≤ c → gI τ c j = gI σ c j) : fMc τ M := by
  have eL : ∀ c, gL τ c = gL σ c := fun c => by unfold gL; rw [hg]
  rcases h with ⟨h1, h2⟩ | ⟨i, c, h1, h2, h3, h4, h5, h6⟩
  · exact Or.inl ⟨by rw [hI _ _ (by omega)]; exact h1, h2⟩
  · exact Or.inr ⟨i, c, by rw [hI _ _ (by omega)]; exact h1, h2, by rw [hR _ _ (by decide)]; exact h3, h4, by unfold gK; rw [hg]; exact h5, cTx_of h6 (fun d j a _ => hI _ _ (by omega)) (fun d _ _ => eL d)⟩
theorem ppC_R {σ τ : st_S} {K : Nat → Int} {n : Nat} {M : zM} (h : ppC σ K n M) (hg : τ.2.2 = σ.2.2) (hR : ∀ c j, c ≠ 56 → gR τ c j = gR σ c j) (hI : ∀ c j, (25 ≤ c ∧ c ≤ 34) ∨ 65 ≤ c ∨ (c = 42 ∧ j ≤ 1) ∨ (43 ≤ c ∧ c ≤ 50 ∧ c ≠ 44) → gI τ c j = gI σ c j) : ppC τ K n M := by
  refine ⟨?_, ppA_of h.2.1 (fun c j q => hI _ _ (by omega)), ppN_of h.2.2 (fun c j q => hI _ _ (by omega))⟩
  obtain ⟨h1, h2, h3, h4, h5, h6, h7, h8, h9, hf, hj⟩ := h.1
  refine ⟨zC1_of h1 (hI _ _ (by omega)) rfl, zC2_of h2 (fun p _ => hI _ _ (by omega)) (fun _ _ _ => rfl), zC3_of h3 (fun p _ => hI _ _ (by omega)) (fun _ _ _ => rfl), zC4_of h4 (fun p _ => hI _ _ (by omega)) (fun _ _ _ => rfl), zC5_of h5 (fun p _ => hI _ _ (by omega)) (fun _ _ => rfl), zC6_of h6 (fun p _ => hI _ _ (by omega)) (fun _ _ => rfl) (fun _ _ _ => rfl), zC7_of h7 (fun p _ => hI _ _ (by omega)) (fun _ _ _ => rfl), zC8_of h8 (fun p => hI _ _ (by omega)) (fun _ _ _ => rfl), zC9_of h9 (fun p => hI _ _ (by omega)) (fun _ _ => rfl), fMc_R hf hg hR (fun c j hc => hI _ _ (by omega)), ?_⟩
  unfold zJk gK gL at *
  rw [hg]
  exact hj
/-- alike but for a multiple of 2 to the 64 -/
def eqL (x y : Int) : Prop := wl x = wl y
theorem eqL_iff {x y : Int} : eqL x y ↔ ∃ k : Int, x = y + 18446744073709551616 * k := by
  unfold eqL wl
  constructor
  · intro h
    exact ⟨(x + 9223372036854775808) / 18446744073709551616 - (y + 9223372036854775808) / 18446744073709551616, by omega⟩
  · rintro ⟨k, h⟩
    omega
theorem eqL_wl (x : Int) : eqL (wl x) x := by
  rw [eqL_iff]
  unfold wl
  exact ⟨-((x + 9223372036854775808) / 18446744073709551616), by omega⟩
theorem eqL_rfl {x : Int} : eqL x x := rfl
theorem eqL_sy {x y : Int} (h : eqL x y) : eqL y x := Eq.symm h
theorem eqL_tr {x y z : Int} (h : eqL x y) (g : eqL y z) : eqL x z := Eq.trans h g
theorem eqL_add {a b c d : Int} (h : eqL a b) (g : eqL c d) : eqL (a + c) (b + d) := by
  rw [eqL_iff] at *
  obtain ⟨k, hk⟩ := h
  obtain ⟨l, hl⟩ := g
  exact ⟨k + l, by omega⟩
theorem eqL_mul {a b c : Int} (h : eqL a b) : eqL (a * c) (b * c) := by
  rw [eqL_iff] at *
  obtain ⟨k, hk⟩ := h
  refine ⟨k * c, ?_⟩
  rw [hk, Int.add_mul, Int.mul_assoc]
theorem eqL_mulr {a b c : Int} (h : eqL a b) : eqL (c * a) (c * b) := by
  rw [Int.mul_comm c a, Int.mul_comm c b]
  exact eqL_mul h
/-- a number more at one place: the weighted sum -/
theorem smI_put {f f' G : Nat → Int} {v0 N : Nat} {a : Int} (hv : v0 < N) (h0 : eqL (f' v0) (f v0 + a)) (ho : ∀ v, v < N → v ≠ v0 → f' v = f v) : eqL (smI (fun v => f' v * G v) N) (smI (fun v => f v * G v) N + a * G v0) := by
  have low : ∀ m, m ≤ N → m ≤ v0 → smI (fun v => f' v * G v) m = smI (fun v => f v * G v) m := fun m h1 h2 => smI_congr (fun i hi => by show f' i * G i = f i * G i; rw [ho i (by omega) (by omega)])
  have key : ∀ m, v0 + 1 + m ≤ N → eqL (smI (fun v => f' v * G v) (v0 + 1 + m)) (smI (fun v => f v * G v) (v0 + 1 + m) + a * G v0) := by
    intro m
    induction m with
    | zero =>
      intro _
      show eqL (smI (fun v => f' v * G v) v0 + f' v0 * G v0) (smI (fun v => f v * G v) v0 + f v0 * G v0 + a * G v0)
      rw [low v0 (by omega) (Nat.le_refl _), Int.add_assoc, ← Int.add_mul]
      exact eqL_add eqL_rfl (eqL_mul h0)
    | succ m ih =>
      intro hm
      show eqL (smI (fun v => f' v * G v) (v0 + 1 + m) + f' (v0 + 1 + m) * G (v0 + 1 + m)) (smI (fun v => f v * G v) (v0 + 1 + m) + f (v0 + 1 + m) * G (v0 + 1 + m) + a * G v0)
      rw [ho (v0 + 1 + m) (by omega) (by omega), Int.add_right_comm]
      exact eqL_add (ih (by omega)) eqL_rfl
  have := key (N - (v0 + 1)) (by omega)
  rw [show v0 + 1 + (N - (v0 + 1)) = N by omega] at this
  exact this
/-- rows from a night on: the sum over its crews -/
theorem rwV_s {cr : Nat → Nat → List Nat} {f night used : Nat} : ∀ (l : List Nat) (b : Int), eqL (l.foldl (fun b c => wl (b + rwV cr f (night + 1) (used ||| c))) b) (l.foldl (fun b c => b + rwV cr f (night + 1) (used ||| c)) b) := by
  intro l
  induction l with
  | nil => intro b; exact eqL_rfl
  | cons c l ih =>
    intro b
    rw [List.foldl_cons, List.foldl_cons]
    refine eqL_tr (ih _) ?_
    have sh : ∀ (l : List Nat) (x y : Int), eqL x y → eqL (l.foldl (fun b c => b + rwV cr f (night + 1) (used ||| c)) x) (l.foldl (fun b c => b + rwV cr f (night + 1) (used ||| c)) y) := by
      intro l
      induction l with
      | nil => intro x y h; exact h
      | cons c l ihl => intro x y h; rw [List.foldl_cons, List.foldl_cons]; exact ihl _ _ (eqL_add h eqL_rfl)
    exact sh l _ _ (eqL_wl _)
