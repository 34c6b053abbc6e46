/-! the cheapest row: the reference -/
def lsN (b v : Nat) : Nat := if v ≤ b then v else b
def chV (cr : Nat → Nat → List Nat) (pr : Nat → Nat) : Nat → Nat → Nat → Nat
  | 0, _, _ => 0
  | f + 1, night, used => (cr night used).foldl (fun b c => lsN b (chV cr pr f (night + 1) (used ||| c) + prS pr c 10)) 1000000
def fdC (cr : Nat → Nat → List Nat) (pr : Nat → Nat) (f night used : Nat) (l : List Nat) : Nat := l.foldl (fun b c => lsN b (chV cr pr f (night + 1) (used ||| c) + prS pr c 10)) 1000000
theorem foldC_le {l : List Nat} {g : Nat → Nat} {B : Nat} : ∀ {b : Nat}, b ≤ B → l.foldl (fun b c => lsN b (g c)) b ≤ B := by
  induction l with
  | nil => intro b hb; exact hb
  | cons a l ih =>
    intro b hb
    refine ih ?_
    show lsN b (g a) ≤ B
    unfold lsN
    split <;> omega
theorem chV_le {cr : Nat → Nat → List Nat} {pr : Nat → Nat} {f night used : Nat} : chV cr pr f night used ≤ 1000000 := by
  cases f with
  | zero => exact Nat.zero_le _
  | succ f => exact foldC_le (Nat.le_refl _)
/-- scratch of the search: all that is remembered -/
def zW (σ τ : st_S) : Prop := τ.2 = σ.2 ∧ ∀ c j, ¬ (c = 0 ∧ (j = 8 ∨ j = 22 ∨ j = 23 ∨ j = 24)) → ¬ (c = 12 ∨ (17 ≤ c ∧ c ≤ 21) ∨ c = 23 ∨ c = 24) → gI τ c j = gI σ c j
theorem zW_rfl {σ : st_S} : zW σ σ := ⟨rfl, fun _ _ _ _ => rfl⟩
theorem zW_tr {σ τ υ : st_S} (h : zW σ τ) (g : zW τ υ) : zW σ υ := ⟨g.1.trans h.1, fun c j a b => (g.2 c j a b).trans (h.2 c j a b)⟩
theorem zW_X {σ τ : st_S} (h : zX σ τ) : zW σ τ := ⟨h.1, fun c j a b => h.2 c j a (by omega) (by omega) (by omega)⟩
theorem zW_Y {σ τ : st_S} (h : zY σ τ) : zW σ τ := ⟨h.1, fun c j a b => h.2 c j a (by omega) (by omega) (by omega) (by omega)⟩
theorem zW_K {σ τ : st_S} (h : zW σ τ) : gI τ 2 = gI σ 2 := funext fun j => h.2 2 j (by omega) (by omega)
theorem sxM_20 {σ : st_S} {n away hsh j : Nat} {M : zM} {v : Int} (h : sxM σ n M away hsh) : sxM (sI σ 20 j v) n M away hsh := by
  obtain ⟨hx, hl, hb, ga, gh, ha, hh⟩ := h
  exact ⟨cxM_of hx rfl, ⟨hl.1, hl.2⟩, bcM_of hb (fun j => rfl) rfl, ga, gh, ha, hh⟩
theorem m_lesserN {a b : Nat} {σ : st_S} {Q : Int → st_S → Prop} (hQ : Q (lsN a b : Int) σ) : wp_X11_lesser (a : Int) (b : Int) σ Q := by
  unfold lsN at hQ
  refine ⟨fun z => ?_, fun z => ?_⟩
  · rw [if_pos (by omega)] at hQ; exact hQ
  · rw [if_neg (by omega)] at hQ; exact hQ
/-- what is remembered of prices is right -/
def mmC (σ : st_S) (cr : Nat → Nat → List Nat) (pr : Nat → Nat) (m : Nat) : Prop := ∀ night used, night < m → used < 1024 → gI σ 20 (1024 * night + used) = -1 ∨ gI σ 20 (1024 * night + used) = (chV cr pr (m - night) night used : Int)
set_option maxHeartbeats 1000000 in
theorem m_cheapestFrom {n away hsh m : Nat} {M : zM} {K : Nat → Int} {pr : Nat → Nat} (hpr : ∀ p, pr p ≤ 9999) (m10 : m ≤ 10) : ∀ (d night used : Nat) {σ : st_S} {Q : Int → st_S → Prop}, m - night < d → night ≤ m → used < 1024 → gI σ 2 = K → (∀ p, p < 10 → gI σ 22 p = (pr p : Int)) → sxM σ n M away hsh → mmC σ (crL M K n away hsh) pr m → (∀ τ, zW σ τ → sxM τ n M away hsh → mmC τ (crL M K n away hsh) pr m → Q (chV (crL M K n away hsh) pr (m - night) night used : Int) τ) → wp_X11_cheapestFrom d (night : Int) (used : Int) (m : Int) σ Q := by
  intro d
  induction d with
  | zero => intro night used σ Q hd; exact absurd hd (by omega)
  | succ d ihd =>
    intro night used σ Q hd hn hu hK hP hs hm hQ
    refine ⟨fun q => ?_, fun q => ?_⟩
    · intro x ex
      have hnm : night < m := by omega
      rw [show (1024 * (night : Int) + (used : Int)) = ((1024 * night + used : Nat) : Int) by omega, wr_n (by omega)] at ex
      subst ex
      rw [Int.toNat_natCast]
      have hn10 : night ≤ 10 := by omega
      refine ⟨ixn (by omega), fun z => ?_, fun z => ⟨ixn (by omega), ?_⟩⟩
      · generalize hl : crL M K n away hsh night used = l
        have nd := ndV_v K night
        have srt : List.Pairwise (· < ·) l := by rw [← hl]; exact pk_sort (by omega)
        have pos : ∀ Y, Y ∈ l → 1 ≤ Y := fun Y hY => by rw [← hl] at hY; exact pk_pos (by omega) hY
        have lt10 : ∀ Y, Y ∈ l → Y < 1024 := fun Y hY => by rw [← hl] at hY; exact pk_lts (by omega) hY
        have el : chV (crL M K n away hsh) pr (m - night) night used = fdC (crL M K n away hsh) pr (m - night - 1) night used l := by
          rw [show m - night = (m - night - 1) + 1 by omega, ← hl]
          rfl
        have part : ∀ i, fdC (crL M K n away hsh) pr (m - night - 1) night used (l.take i) ≤ 1000000 := fun i => foldC_le (Nat.le_refl _)
        have key : ∀ k i : Nat, i + k = l.length → ∀ τ (c : Int), zW σ τ → sxM τ n M away hsh → mmC τ (crL M K n away hsh) pr m → ((∃ hi : i < l.length, c = (l[i] : Int)) ∨ (c = -1 ∧ i = l.length)) → L_X11_cheapestFrom_48 Q (G_X11_cheapestFrom d) (k + 1) (night : Int) (used : Int) (m : Int) ((1024 * night + used : Nat) : Int) (fdC (crL M K n away hsh) pr (m - night - 1) night used (l.take i) : Int) c τ := by
          intro k
          induction k with
          | zero =>
            intro i hi τ c hz hst hmt hc
            have ei : i = l.length := by omega
            have ec : c = -1 := by
              rcases hc with ⟨h, -⟩ | h
              · omega
              · exact h.1
            refine ⟨fun _ => ⟨ixn (by omega), ?_⟩, fun w => absurd ec w⟩
            intro s es
            rw [ei, List.take_length, ← el] at es ⊢
            rw [Int.toNat_natCast] at es
            subst es
            refine hQ _ (zW_tr hz ⟨rfl, fun c' j' _ f => by rw [gI_sI, if_neg (by omega)]⟩) (sxM_20 hst) (fun n' u' a b => ?_)
            rw [gI_sI]
            by_cases e : 1024 * n' + u' = 1024 * night + used
            · rw [if_pos ⟨rfl, e⟩, show n' = night by omega, show u' = used by omega]
              exact Or.inr rfl
            · rw [if_neg (fun w => e w.2)]
              exact hmt n' u' a b
          | succ k ih =>
            intro i hi τ c hz hst hmt hc
            have hil : i < l.length := by omega
            have ec : c = (l[i] : Int) := by
              rcases hc with ⟨h, e⟩ | h
              · exact e
              · omega
            subst ec
            have cm := List.getElem_mem hil
            have c10 := lt10 _ cm
            have uc : used ||| l[i] < 1024 := Nat.or_lt_two_pow (n := 10) hu c10
            have lv := chV_le (cr := crL M K n away hsh) (pr := pr) (f := m - night - 1) (night := night + 1) (used := used ||| l[i])
            have pv := prS_le (S := l[i]) hpr 10
            refine ⟨fun w => absurd w (by omega), fun _ => ?_⟩
            rw [wks (by omega), n_or (by omega) (by omega)]
            refine ihd (night + 1) (used ||| l[i]) (by omega) (by omega) uc (by rw [zW_K hz]; exact hK) (fun p hp => by rw [hz.2 22 p (by omega) (by omega)]; exact hP p hp) hst hmt (fun υ hzu hsu hmu => ?_)
            rw [show m - (night + 1) = m - night - 1 by omega]
            refine m_priceOf hpr c10 (fun p hp => by rw [hzu.2 22 p (by omega) (by omega), hz.2 22 p (by omega) (by omega)]; exact hP p hp) ?_
            rw [show ((chV (crL M K n away hsh) pr (m - night - 1) (night + 1) (used ||| l[i]) : Int) + (prS pr l[i] 10 : Int)) = ((chV (crL M K n away hsh) pr (m - night - 1) (night + 1) (used ||| l[i]) + prS pr l[i] 10 : Nat) : Int) by omega, wr_n (by omega)]
            have et : fdC (crL M K n away hsh) pr (m - night - 1) night used (l.take (i + 1)) = lsN (fdC (crL M K n away hsh) pr (m - night - 1) night used (l.take i)) (chV (crL M K n away hsh) pr (m - night - 1) (night + 1) (used ||| l[i]) + prS pr l[i] 10) := by
              unfold fdC
              rw [List.take_add_one, List.getElem?_eq_getElem hil, List.foldl_append]
              rfl
            refine m_lesserN ?_
            rw [← et]
            have Ku : gI υ 2 = K := by rw [zW_K hzu, zW_K hz]; exact hK
            refine m_crewIn hsu hn10 hu c10 (fun X ω a1 a2 a3 a4 a5 => ?_) (fun ω a1 a2 a3 => ?_)
            · rw [Ku, hl] at a3 a5
              obtain ⟨hx, ex⟩ := nx_sort srt (i := i + 1) a3 (Or.inr ⟨by omega, by omega, rfl⟩) a4 a5
              exact ih (i + 1) (by omega) ω _ (zW_tr hz (zW_tr hzu (zW_X a1))) a2 (fun n' u' a b => by rw [a1.2 20 _ (by omega) (by decide) (by decide) (by decide)]; exact hmu n' u' a b) (Or.inl ⟨hx, by rw [ex]⟩)
            · rw [Ku, hl] at a3
              have := nx_end (i := i + 1) srt (Or.inr ⟨by omega, by omega, rfl⟩) a3
              exact ih (i + 1) (by omega) ω _ (zW_tr hz (zW_tr hzu (zW_X a1))) a2 (fun n' u' a b => by rw [a1.2 20 _ (by omega) (by decide) (by decide) (by decide)]; exact hmu n' u' a b) (Or.inr ⟨rfl, by omega⟩)
        refine m_crewIn hs hn10 hu (by decide) (fun X τ a1 a2 a3 a4 a5 => ?_) (fun τ a1 a2 a3 => ?_)
        · rw [hK, hl] at a3 a5
          obtain ⟨hx, ex⟩ := nx_sort srt (i := 0) a3 (Or.inl ⟨rfl, rfl, pos⟩) a4 a5
          refine ⟨l.length + 1, ?_⟩
          have := key l.length 0 (by omega) τ (X : Int) (zW_X a1) a2 (fun n' u' a b => by rw [a1.2 20 _ (by omega) (by decide) (by decide) (by decide)]; exact hm n' u' a b) (Or.inl ⟨hx, by rw [ex]⟩)
          exact this
        · rw [hK, hl] at a3
          have e0 := nx_end (i := 0) srt (Or.inl ⟨rfl, rfl, pos⟩) a3
          refine ⟨l.length + 1, ?_⟩
          have := key l.length 0 (by omega) τ (-1) (zW_X a1) a2 (fun n' u' a b => by rw [a1.2 20 _ (by omega) (by decide) (by decide) (by decide)]; exact hm n' u' a b) (Or.inr ⟨rfl, by omega⟩)
          exact this
      · rcases hm night used hnm hu with e | e
        · exact absurd e z
        · rw [e]
          exact hQ σ zW_rfl hs hm
    · have e : night = m := by omega
      subst e
      have := hQ σ zW_rfl hs hm
      rw [Nat.sub_self] at this
      exact this
