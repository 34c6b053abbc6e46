/-! how many rows: the reference -/
def rwV (cr : Nat → Nat → List Nat) : Nat → Nat → Nat → Int
  | 0, _, _ => 1
  | f + 1, night, used => (cr night used).foldl (fun b c => wl (b + rwV cr f (night + 1) (used ||| c))) 0
def fdR (cr : Nat → Nat → List Nat) (f night used : Nat) (l : List Nat) : Int := l.foldl (fun b c => wl (b + rwV cr f (night + 1) (used ||| c))) 0
theorem sxM_21 {σ : st_S} {n away hsh j : Nat} {M : zM} {v : Int} (h : sxM σ n M away hsh) : sxM (sI σ 21 j v) n M away hsh := by
  obtain ⟨hx, hl, hb, ga, gh, ha, hh⟩ := h
  exact ⟨cxM_of hx rfl, ⟨hl.1, hl.2⟩, bcM_of hb (fun j => rfl) rfl, ga, gh, ha, hh⟩
/-- what is remembered of rows is right -/
def mmR (σ : st_S) (cr : Nat → Nat → List Nat) (m : Nat) : Prop := ∀ night used, night < m → used < 1024 → gI σ 21 (1024 * night + used) = -1 ∨ gI σ 21 (1024 * night + used) = rwV cr (m - night) night used
set_option maxHeartbeats 1000000 in
theorem m_rowsFrom {n away hsh m : Nat} {M : zM} {K : Nat → Int} (m10 : m ≤ 10) : ∀ (d night used : Nat) {σ : st_S} {Q : Int → st_S → Prop}, m - night < d → night ≤ m → used < 1024 → gI σ 2 = K → sxM σ n M away hsh → mmR σ (crL M K n away hsh) m → (∀ τ, zW σ τ → sxM τ n M away hsh → mmR τ (crL M K n away hsh) m → Q (rwV (crL M K n away hsh) (m - night) night used) τ) → wp_X11_rowsFrom d (night : Int) (used : Int) (m : Int) σ Q := by
  intro d
  induction d with
  | zero => intro night used σ Q hd; exact absurd hd (by omega)
  | succ d ihd =>
    intro night used σ Q hd hn hu hK hs hm hQ
    refine ⟨fun q => ?_, fun q => ?_⟩
    · intro x ex
      have hnm : night < m := by omega
      rw [show (1024 * (night : Int) + (used : Int)) = ((1024 * night + used : Nat) : Int) by omega, wr_n (by omega)] at ex
      subst ex
      rw [Int.toNat_natCast]
      have hn10 : night ≤ 10 := by omega
      refine ⟨ixn (by omega), fun z => ?_, fun z => ⟨ixn (by omega), ?_⟩⟩
      · generalize hl : crL M K n away hsh night used = l
        have nd := ndV_v K night
        have srt : List.Pairwise (· < ·) l := by rw [← hl]; exact pk_sort (by omega)
        have pos : ∀ Y, Y ∈ l → 1 ≤ Y := fun Y hY => by rw [← hl] at hY; exact pk_pos (by omega) hY
        have lt10 : ∀ Y, Y ∈ l → Y < 1024 := fun Y hY => by rw [← hl] at hY; exact pk_lts (by omega) hY
        have el : rwV (crL M K n away hsh) (m - night) night used = fdR (crL M K n away hsh) (m - night - 1) night used l := by
          rw [show m - night = (m - night - 1) + 1 by omega, ← hl]
          rfl
        have key : ∀ k i : Nat, i + k = l.length → ∀ τ (c : Int), zW σ τ → sxM τ n M away hsh → mmR τ (crL M K n away hsh) m → ((∃ hi : i < l.length, c = (l[i] : Int)) ∨ (c = -1 ∧ i = l.length)) → L_X11_rowsFrom_48 Q (G_X11_rowsFrom d) (k + 1) (night : Int) (used : Int) (m : Int) ((1024 * night + used : Nat) : Int) (fdR (crL M K n away hsh) (m - night - 1) night used (l.take i)) c τ := by
          intro k
          induction k with
          | zero =>
            intro i hi τ c hz hst hmt hc
            have ei : i = l.length := by omega
            have ec : c = -1 := by
              rcases hc with ⟨h, -⟩ | h
              · omega
              · exact h.1
            refine ⟨fun _ => ⟨ixn (by omega), ?_⟩, fun w => absurd ec w⟩
            intro s es
            rw [ei, List.take_length, ← el] at es ⊢
            rw [Int.toNat_natCast] at es
            subst es
            refine hQ _ (zW_tr hz ⟨rfl, fun c' j' _ f => by rw [gI_sI, if_neg (by omega)]⟩) (sxM_21 hst) (fun n' u' a b => ?_)
            rw [gI_sI]
            by_cases e : 1024 * n' + u' = 1024 * night + used
            · rw [if_pos ⟨rfl, e⟩, show n' = night by omega, show u' = used by omega]
              exact Or.inr rfl
            · rw [if_neg (fun w => e w.2)]
              exact hmt n' u' a b
          | succ k ih =>
            intro i hi τ c hz hst hmt hc
            have hil : i < l.length := by omega
            have ec : c = (l[i] : Int) := by
              rcases hc with ⟨h, e⟩ | h
              · exact e
              · omega
            subst ec
            have cm := List.getElem_mem hil
            have c10 := lt10 _ cm
            have uc : used ||| l[i] < 1024 := Nat.or_lt_two_pow (n := 10) hu c10
            refine ⟨fun w => absurd w (by omega), fun _ => ?_⟩
            rw [wks (by omega), n_or (by omega) (by omega)]
            refine ihd (night + 1) (used ||| l[i]) (by omega) (by omega) uc (by rw [zW_K hz]; exact hK) hst hmt (fun υ hzu hsu hmu => ?_)
            rw [show m - (night + 1) = m - night - 1 by omega]
            have et : fdR (crL M K n away hsh) (m - night - 1) night used (l.take (i + 1)) = wl (fdR (crL M K n away hsh) (m - night - 1) night used (l.take i) + rwV (crL M K n away hsh) (m - night - 1) (night + 1) (used ||| l[i])) := by
              unfold fdR
              rw [List.take_add_one, List.getElem?_eq_getElem hil, List.foldl_append]
              rfl
            intro x23 e23
            rw [← et] at e23
            subst e23
            have Ku : gI υ 2 = K := by rw [zW_K hzu, zW_K hz]; exact hK
            refine m_crewIn hsu hn10 hu c10 (fun X ω a1 a2 a3 a4 a5 => ?_) (fun ω a1 a2 a3 => ?_)
            · rw [Ku, hl] at a3 a5
              obtain ⟨hx, ex⟩ := nx_sort srt (i := i + 1) a3 (Or.inr ⟨by omega, by omega, rfl⟩) a4 a5
              exact ih (i + 1) (by omega) ω _ (zW_tr hz (zW_tr hzu (zW_X a1))) a2 (fun n' u' a b => by rw [a1.2 21 _ (by omega) (by decide) (by decide) (by decide)]; exact hmu n' u' a b) (Or.inl ⟨hx, by rw [ex]⟩)
            · rw [Ku, hl] at a3
              have := nx_end (i := i + 1) srt (Or.inr ⟨by omega, by omega, rfl⟩) a3
              exact ih (i + 1) (by omega) ω _ (zW_tr hz (zW_tr hzu (zW_X a1))) a2 (fun n' u' a b => by rw [a1.2 21 _ (by omega) (by decide) (by decide) (by decide)]; exact hmu n' u' a b) (Or.inr ⟨rfl, by omega⟩)
        refine m_crewIn hs hn10 hu (by decide) (fun X τ a1 a2 a3 a4 a5 => ?_) (fun τ a1 a2 a3 => ?_)
        · rw [hK, hl] at a3 a5
          obtain ⟨hx, ex⟩ := nx_sort srt (i := 0) a3 (Or.inl ⟨rfl, rfl, pos⟩) a4 a5
          refine ⟨l.length + 1, ?_⟩
          have := key l.length 0 (by omega) τ (X : Int) (zW_X a1) a2 (fun n' u' a b => by rw [a1.2 21 _ (by omega) (by decide) (by decide) (by decide)]; exact hm n' u' a b) (Or.inl ⟨hx, by rw [ex]⟩)
          exact this
        · rw [hK, hl] at a3
          have e0 := nx_end (i := 0) srt (Or.inl ⟨rfl, rfl, pos⟩) a3
          refine ⟨l.length + 1, ?_⟩
          have := key l.length 0 (by omega) τ (-1) (zW_X a1) a2 (fun n' u' a b => by rw [a1.2 21 _ (by omega) (by decide) (by decide) (by decide)]; exact hm n' u' a b) (Or.inr ⟨rfl, by omega⟩)
          exact this
      · rcases hm night used hnm hu with e | e
        · exact absurd (by rw [e]; decide) z
        · rw [e]
          exact hQ σ zW_rfl hs hm
    · have e : night = m := by omega
      subst e
      have := hQ σ zW_rfl hs hm
      rw [Nat.sub_self] at this
      exact this
