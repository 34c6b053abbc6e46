/-! the longest row: the reference -/
def mxN (b v : Nat) : Nat := if v ≤ b then b else v
def lnV (cr : Nat → Nat → List Nat) : Nat → Nat → Nat → Nat
  | 0, _, _ => 0
  | f + 1, night, used => (cr night used).foldl (fun b c => mxN b (1 + lnV cr f (night + 1) (used ||| c))) 0
def fdN (cr : Nat → Nat → List Nat) (night used : Nat) (l : List Nat) : Nat := l.foldl (fun b c => mxN b (1 + lnV cr (10 - night) (night + 1) (used ||| c))) 0
theorem fold_le {l : List Nat} {g : Nat → Nat} {B : Nat} (hg : ∀ c, g c ≤ B) : ∀ {b : Nat}, b ≤ B → l.foldl (fun b c => mxN b (g c)) b ≤ B := by
  induction l with
  | nil => intro b hb; exact hb
  | cons a l ih =>
    intro b hb
    refine ih ?_
    have := hg a
    show mxN b (g a) ≤ B
    unfold mxN
    split <;> omega
theorem lnV_le {cr : Nat → Nat → List Nat} : ∀ {f night used : Nat}, lnV cr f night used ≤ f := by
  intro f
  induction f with
  | zero => intro night used; exact Nat.le_refl 0
  | succ f ih =>
    intro night used
    show (cr night used).foldl (fun b c => mxN b (1 + lnV cr f (night + 1) (used ||| c))) 0 ≤ f + 1
    exact fold_le (fun c => by have := ih (night := night + 1) (used := used ||| c); omega) (by omega)
/-- scratch of the search: what is remembered, too -/
def zY (σ τ : st_S) : Prop := τ.2 = σ.2 ∧ ∀ c j, ¬ (c = 0 ∧ (j = 8 ∨ j = 22 ∨ j = 23 ∨ j = 24)) → c ≠ 12 → c ≠ 17 → c ≠ 18 → c ≠ 19 → gI τ c j = gI σ c j
theorem zY_rfl {σ : st_S} : zY σ σ := ⟨rfl, fun _ _ _ _ _ _ _ => rfl⟩
theorem zY_tr {σ τ υ : st_S} (h : zY σ τ) (g : zY τ υ) : zY σ υ := ⟨g.1.trans h.1, fun c j a b d e f => (g.2 c j a b d e f).trans (h.2 c j a b d e f)⟩
theorem zY_X {σ τ : st_S} (h : zX σ τ) : zY σ τ := ⟨h.1, fun c j a b d e _ => h.2 c j a b d e⟩
theorem zY_K {σ τ : st_S} (h : zY σ τ) : gI τ 2 = gI σ 2 := funext fun j => h.2 2 j (by omega) (by decide) (by decide) (by decide) (by decide)
theorem sxM_19 {σ : st_S} {n away hsh j : Nat} {M : zM} {v : Int} (h : sxM σ n M away hsh) : sxM (sI σ 19 j v) n M away hsh := by
  obtain ⟨hx, hl, hb, ga, gh, ha, hh⟩ := h
  exact ⟨cxM_of hx rfl, ⟨hl.1, hl.2⟩, bcM_of hb (fun j => rfl) rfl, ga, gh, ha, hh⟩
/-- what is remembered is right -/
def mmL (σ : st_S) (cr : Nat → Nat → List Nat) : Prop := ∀ night used, night ≤ 10 → used < 1024 → gI σ 19 (1024 * night + used) = -1 ∨ gI σ 19 (1024 * night + used) = (lnV cr (11 - night) night used : Int)
theorem nb_small : ∀ k : Nat, k < 12 → o_nb (o_i2b (k : Int)) = (k : Int) := by decide +kernel
set_option maxHeartbeats 1000000 in
theorem m_longestFrom {n away hsh : Nat} {M : zM} {K : Nat → Int} : ∀ (d night used : Nat) {σ : st_S} {Q : Int → st_S → Prop}, 11 - night < d → night ≤ 11 → used < 1024 → gI σ 2 = K → sxM σ n M away hsh → mmL σ (crL M K n away hsh) → (∀ τ, zY σ τ → sxM τ n M away hsh → mmL τ (crL M K n away hsh) → Q (lnV (crL M K n away hsh) (11 - night) night used : Int) τ) → wp_X11_longestFrom d (night : Int) (used : Int) σ Q := by
  intro d
  induction d with
  | zero => intro night used σ Q hd; exact absurd hd (by omega)
  | succ d ihd =>
    intro night used σ Q hd hn hu hK hs hm hQ
    refine ⟨fun q => ?_, fun q => ?_⟩
    · intro x ex
      rw [show (1024 * (night : Int) + (used : Int)) = ((1024 * night + used : Nat) : Int) by omega, wr_n (by omega)] at ex
      subst ex
      rw [Int.toNat_natCast]
      have hn10 : night ≤ 10 := by omega
      refine ⟨ixn (by omega), fun z => ?_, fun z => ⟨ixn (by omega), ?_⟩⟩
      · generalize hl : crL M K n away hsh night used = l
        have nd := ndV_v K night
        have srt : List.Pairwise (· < ·) l := by rw [← hl]; exact pk_sort (by omega)
        have pos : ∀ Y, Y ∈ l → 1 ≤ Y := fun Y hY => by rw [← hl] at hY; exact pk_pos (by omega) hY
        have lt10 : ∀ Y, Y ∈ l → Y < 1024 := fun Y hY => by rw [← hl] at hY; exact pk_lts (by omega) hY
        have el : lnV (crL M K n away hsh) (11 - night) night used = fdN (crL M K n away hsh) night used l := by
          rw [show 11 - night = (10 - night) + 1 by omega, ← hl]
          rfl
        have part : ∀ i, fdN (crL M K n away hsh) night used (l.take i) ≤ 11 := fun i => fold_le (fun c => by have := lnV_le (cr := crL M K n away hsh) (f := 10 - night) (night := night + 1) (used := used ||| c); omega) (by omega)
        have key : ∀ k i : Nat, i + k = l.length → ∀ τ (c : Int), zY σ τ → sxM τ n M away hsh → mmL τ (crL M K n away hsh) → ((∃ hi : i < l.length, c = (l[i] : Int)) ∨ (c = -1 ∧ i = l.length)) → L_X11_longestFrom_45 Q (G_X11_longestFrom d) (k + 1) (night : Int) (used : Int) ((1024 * night + used : Nat) : Int) (fdN (crL M K n away hsh) night used (l.take i) : Int) c τ := by
          intro k
          induction k with
          | zero =>
            intro i hi τ c hz hst hmt hc
            have ei : i = l.length := by omega
            have ec : c = -1 := by
              rcases hc with ⟨h, -⟩ | h
              · omega
              · exact h.1
            refine ⟨fun _ => ⟨ixn (by omega), ?_⟩, fun w => absurd ec w⟩
            intro s es
            rw [ei, List.take_length, ← el] at es ⊢
            have lv := lnV_le (cr := crL M K n away hsh) (f := 11 - night) (night := night) (used := used)
            rw [nb_small (lnV (crL M K n away hsh) (11 - night) night used) (by omega), Int.toNat_natCast] at es
            subst es
            refine hQ _ (zY_tr hz ⟨rfl, fun c' j' _ _ _ _ f => by rw [gI_sI, if_neg (by omega)]⟩) (sxM_19 hst) (fun n' u' a b => ?_)
            rw [gI_sI]
            by_cases e : 1024 * n' + u' = 1024 * night + used
            · rw [if_pos ⟨rfl, e⟩, show n' = night by omega, show u' = used by omega]
              exact Or.inr rfl
            · rw [if_neg (fun w => e w.2)]
              exact hmt n' u' a b
          | succ k ih =>
            intro i hi τ c hz hst hmt hc
            have hil : i < l.length := by omega
            have ec : c = (l[i] : Int) := by
              rcases hc with ⟨h, e⟩ | h
              · exact e
              · omega
            subst ec
            have cm := List.getElem_mem hil
            have c10 := lt10 _ cm
            have uc : used ||| l[i] < 1024 := Nat.or_lt_two_pow (n := 10) hu c10
            have lv := lnV_le (cr := crL M K n away hsh) (f := 10 - night) (night := night + 1) (used := used ||| l[i])
            refine ⟨fun w => absurd w (by omega), fun _ => ?_⟩
            rw [wks (by omega), n_or (by omega) (by omega)]
            refine ihd (night + 1) (used ||| l[i]) (by omega) (by omega) uc (by rw [zY_K hz]; exact hK) hst hmt (fun υ hzu hsu hmu => ?_)
            rw [show 11 - (night + 1) = 10 - night by omega]
            intro y ey
            rw [show (1 + (lnV (crL M K n away hsh) (10 - night) (night + 1) (used ||| l[i]) : Int)) = ((1 + lnV (crL M K n away hsh) (10 - night) (night + 1) (used ||| l[i]) : Nat) : Int) by omega, wr_n (by omega)] at ey
            have et : fdN (crL M K n away hsh) night used (l.take (i + 1)) = mxN (fdN (crL M K n away hsh) night used (l.take i)) (1 + lnV (crL M K n away hsh) (10 - night) (night + 1) (used ||| l[i])) := by
              unfold fdN
              rw [List.take_add_one, List.getElem?_eq_getElem hil, List.foldl_append]
              rfl
            have nxt : ∀ v : Int, v = (fdN (crL M K n away hsh) night used (l.take (i + 1)) : Int) → B_X11_longestFrom_80 Q (G_X11_longestFrom d) (L_X11_longestFrom_45 Q (G_X11_longestFrom d) (k + 1)) (night : Int) (used : Int) ((1024 * night + used : Nat) : Int) (l[i] : Int) v υ := by
              intro v hv
              subst hv
              have Ku : gI υ 2 = K := by rw [zY_K hzu, zY_K hz]; exact hK
              refine m_crewIn hsu hn10 hu c10 (fun X ω a1 a2 a3 a4 a5 => ?_) (fun ω a1 a2 a3 => ?_)
              · rw [Ku, hl] at a3 a5
                obtain ⟨hx, ex⟩ := nx_sort srt (i := i + 1) a3 (Or.inr ⟨by omega, by omega, rfl⟩) a4 a5
                exact ih (i + 1) (by omega) ω _ (zY_tr hz (zY_tr hzu (zY_X a1))) a2 (fun n' u' a b => by rw [a1.2 19 _ (by omega) (by decide) (by decide) (by decide)]; exact hmu n' u' a b) (Or.inl ⟨hx, by rw [ex]⟩)
              · rw [Ku, hl] at a3
                have := nx_end (i := i + 1) srt (Or.inr ⟨by omega, by omega, rfl⟩) a3
                exact ih (i + 1) (by omega) ω _ (zY_tr hz (zY_tr hzu (zY_X a1))) a2 (fun n' u' a b => by rw [a1.2 19 _ (by omega) (by decide) (by decide) (by decide)]; exact hmu n' u' a b) (Or.inr ⟨rfl, by omega⟩)
            rw [et] at nxt
            unfold mxN at nxt
            refine ⟨fun w => nxt _ ?_, fun w => nxt _ ?_⟩
            · rw [if_pos (by unfold mxN at *; omega)]
            · rw [if_neg (by unfold mxN at *; omega)]; exact ey
        refine m_crewIn hs hn10 hu (by decide) (fun X τ a1 a2 a3 a4 a5 => ?_) (fun τ a1 a2 a3 => ?_)
        · rw [hK, hl] at a3 a5
          obtain ⟨hx, ex⟩ := nx_sort srt (i := 0) a3 (Or.inl ⟨rfl, rfl, pos⟩) a4 a5
          refine ⟨l.length + 1, ?_⟩
          have := key l.length 0 (by omega) τ (X : Int) (zY_X a1) a2 (fun n' u' a b => by rw [a1.2 19 _ (by omega) (by decide) (by decide) (by decide)]; exact hm n' u' a b) (Or.inl ⟨hx, by rw [ex]⟩)
          exact this
        · rw [hK, hl] at a3
          have e0 := nx_end (i := 0) srt (Or.inl ⟨rfl, rfl, pos⟩) a3
          refine ⟨l.length + 1, ?_⟩
          have := key l.length 0 (by omega) τ (-1) (zY_X a1) a2 (fun n' u' a b => by rw [a1.2 19 _ (by omega) (by decide) (by decide) (by decide)]; exact hm n' u' a b) (Or.inr ⟨rfl, by omega⟩)
          exact this
      · rcases hm night used hn10 hu with e | e
        · exact absurd e z
        · rw [e]
          exact hQ σ zY_rfl hs hm
    · have e : night = 11 := by omega
      subst e
      exact hQ σ zY_rfl hs hm
