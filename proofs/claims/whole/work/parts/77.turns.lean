/-! rows that turn lands: the reference -/
def tnV (cr : Nat → Nat → List Nat) (g : Nat → Nat) (n : Nat) : Nat → Nat → Nat → Nat → Nat
  | 0, _, _, _ => 0
  | f + 1, night, used, ld => (tuL g n ld (cr night used)).foldl (fun b c => mxN b (1 + tnV cr g n f (night + 1) (used ||| c) (ldS g c n))) 0
def fdT (cr : Nat → Nat → List Nat) (g : Nat → Nat) (n : Nat) (night used : Nat) (l : List Nat) : Nat := l.foldl (fun b c => mxN b (1 + tnV cr g n (10 - night) (night + 1) (used ||| c) (ldS g c n))) 0
theorem tnV_le {cr : Nat → Nat → List Nat} {g : Nat → Nat} {n : Nat} : ∀ {f night used ld : Nat}, tnV cr g n f night used ld ≤ f := by
  intro f
  induction f with
  | zero => intro night used ld; exact Nat.le_refl 0
  | succ f ih =>
    intro night used ld
    show (tuL g n ld (cr night used)).foldl (fun b c => mxN b (1 + tnV cr g n f (night + 1) (used ||| c) (ldS g c n))) 0 ≤ f + 1
    exact fold_le (fun c => by have := ih (night := night + 1) (used := used ||| c) (ld := ldS g c n); omega) (by omega)
theorem sxM_24 {σ : st_S} {n away hsh j : Nat} {M : zM} {v : Int} (h : sxM σ n M away hsh) : sxM (sI σ 24 j v) n M away hsh := by
  obtain ⟨hx, hl, hb, ga, gh, ha, hh⟩ := h
  exact ⟨cxM_of hx rfl, ⟨hl.1, hl.2⟩, bcM_of hb (fun j => rfl) rfl, ga, gh, ha, hh⟩
def mmT (σ : st_S) (cr : Nat → Nat → List Nat) (g : Nat → Nat) (n : Nat) : Prop := ∀ night used ld, night ≤ 10 → used < 1024 → ld < 16 → gI σ 24 ((1024 * night + used) * 16 + ld) = -1 ∨ gI σ 24 ((1024 * night + used) * 16 + ld) = (tnV cr g n (11 - night) night used ld : Int)
set_option maxHeartbeats 1000000 in
theorem m_turnsFrom {n away hsh : Nat} {M : zM} {K : Nat → Int} {g : Nat → Nat} (hg : ∀ p, g p < 4) (hn0 : n ≤ 10) (k0 : K 256 = (n : Int)) (kl : ∀ p, p < n → K (35 + 2 * p) = (g p : Int)) : ∀ (d night used ld : Nat) {σ : st_S} {Q : Int → st_S → Prop}, 11 - night < d → night ≤ 11 → used < 1024 → ld < 16 → gI σ 2 = K → sxM σ n M away hsh → mmT σ (crL M K n away hsh) g n → (∀ τ, zW σ τ → sxM τ n M away hsh → mmT τ (crL M K n away hsh) g n → Q (tnV (crL M K n away hsh) g n (11 - night) night used ld : Int) τ) → wp_X11_turnsFrom d (night : Int) (used : Int) (ld : Int) σ Q := by
  intro d
  induction d with
  | zero => intro night used ld σ Q hd; exact absurd hd (by omega)
  | succ d ihd =>
    intro night used ld σ Q hd hn hu hd16 hK hs hm hQ
    refine ⟨fun q => ?_, fun q => ?_⟩
    · intro x ex
      rw [show ((1024 * (night : Int) + (used : Int)) * 16 + (ld : Int)) = (((1024 * night + used) * 16 + ld : Nat) : Int) by omega, wr_n (by omega)] at ex
      subst ex
      rw [Int.toNat_natCast]
      have hn10 : night ≤ 10 := by omega
      refine ⟨ixn (by omega), fun z => ?_, fun z => ⟨ixn (by omega), ?_⟩⟩
      · generalize hl : tuL g n ld (crL M K n away hsh night used) = l
        have nd := ndV_v K night
        have srt : List.Pairwise (· < ·) l := by rw [← hl]; exact tu_sort (pk_sort (by omega))
        have pos : ∀ Y, Y ∈ l → 1 ≤ Y := fun Y hY => by rw [← hl] at hY; exact pk_pos (by omega) (tu_mem.1 hY).1
        have lt10 : ∀ Y, Y ∈ l → Y < 1024 := fun Y hY => by rw [← hl] at hY; exact pk_lts (by omega) (tu_mem.1 hY).1
        have el : tnV (crL M K n away hsh) g n (11 - night) night used ld = fdT (crL M K n away hsh) g n night used l := by
          rw [show 11 - night = (10 - night) + 1 by omega, ← hl]
          rfl
        have part : ∀ i, fdT (crL M K n away hsh) g n night used (l.take i) ≤ 11 := fun i => fold_le (fun c => by have := tnV_le (cr := crL M K n away hsh) (g := g) (n := n) (f := 10 - night) (night := night + 1) (used := used ||| c) (ld := ldS g c n); omega) (by omega)
        have key : ∀ k i : Nat, i + k = l.length → ∀ τ (c : Int), zW σ τ → sxM τ n M away hsh → mmT τ (crL M K n away hsh) g n → ((∃ hi : i < l.length, c = (l[i] : Int)) ∨ (c = -1 ∧ i = l.length)) → L_X11_turnsFrom_54 Q (G_X11_turnsFrom d) (k + 1) (night : Int) (used : Int) (ld : Int) (((1024 * night + used) * 16 + ld : Nat) : Int) (fdT (crL M K n away hsh) g n night used (l.take i) : Int) c τ := by
          intro k
          induction k with
          | zero =>
            intro i hi τ c hz hst hmt hc
            have ei : i = l.length := by omega
            have ec : c = -1 := by
              rcases hc with ⟨h, -⟩ | h
              · omega
              · exact h.1
            refine ⟨fun _ => ⟨ixn (by omega), ?_⟩, fun w => absurd ec w⟩
            intro s es
            rw [ei, List.take_length, ← el] at es ⊢
            have lv := tnV_le (cr := crL M K n away hsh) (g := g) (n := n) (f := 11 - night) (night := night) (used := used) (ld := ld)
            rw [nb_small (tnV (crL M K n away hsh) g n (11 - night) night used ld) (by omega), Int.toNat_natCast] at es
            subst es
            refine hQ _ (zW_tr hz ⟨rfl, fun c' j' _ f => by rw [gI_sI, if_neg (by omega)]⟩) (sxM_24 hst) (fun n' u' v' a b a' => ?_)
            rw [gI_sI]
            by_cases e : (1024 * n' + u') * 16 + v' = (1024 * night + used) * 16 + ld
            · rw [if_pos ⟨rfl, e⟩, show n' = night by omega, show u' = used by omega, show v' = ld by omega]
              exact Or.inr rfl
            · rw [if_neg (fun w => e w.2)]
              exact hmt n' u' v' a b a'
          | succ k ih =>
            intro i hi τ c hz hst hmt hc
            have hil : i < l.length := by omega
            have ec : c = (l[i] : Int) := by
              rcases hc with ⟨h, e⟩ | h
              · exact e
              · omega
            subst ec
            have cm := List.getElem_mem hil
            have c10 := lt10 _ cm
            have uc : used ||| l[i] < 1024 := Nat.or_lt_two_pow (n := 10) hu c10
            have lv := tnV_le (cr := crL M K n away hsh) (g := g) (n := n) (f := 10 - night) (night := night + 1) (used := used ||| l[i]) (ld := ldS g l[i] n)
            refine ⟨fun w => absurd w (by omega), fun _ => ?_⟩
            have Kt : gI τ 2 = K := by rw [zW_K hz]; exact hK
            have lb := ldS_lt (g := g) (S := l[i]) hg n
            refine m_landsOf hg c10 hn0 (by rw [Kt]; exact k0) (fun p hp => by rw [Kt]; exact kl p hp) ?_
            rw [wks (by omega), n_or (by omega) (by omega)]
            refine ihd (night + 1) (used ||| l[i]) (ldS g l[i] n) (by omega) (by omega) uc lb (by rw [zW_K hz]; exact hK) hst hmt (fun υ hzu hsu hmu => ?_)
            rw [show 11 - (night + 1) = 10 - night by omega]
            intro y ey
            rw [show (1 + (tnV (crL M K n away hsh) g n (10 - night) (night + 1) (used ||| l[i]) (ldS g l[i] n) : Int)) = ((1 + tnV (crL M K n away hsh) g n (10 - night) (night + 1) (used ||| l[i]) (ldS g l[i] n) : Nat) : Int) by omega, wr_n (by omega)] at ey
            have et : fdT (crL M K n away hsh) g n night used (l.take (i + 1)) = mxN (fdT (crL M K n away hsh) g n night used (l.take i)) (1 + tnV (crL M K n away hsh) g n (10 - night) (night + 1) (used ||| l[i]) (ldS g l[i] n)) := by
              unfold fdT
              rw [List.take_add_one, List.getElem?_eq_getElem hil, List.foldl_append]
              rfl
            have nxt : ∀ v : Int, v = (fdT (crL M K n away hsh) g n night used (l.take (i + 1)) : Int) → B_X11_turnsFrom_95 Q (G_X11_turnsFrom d) (L_X11_turnsFrom_54 Q (G_X11_turnsFrom d) (k + 1)) (night : Int) (used : Int) (ld : Int) (((1024 * night + used) * 16 + ld : Nat) : Int) (l[i] : Int) v υ := by
              intro v hv
              subst hv
              have Ku : gI υ 2 = K := by rw [zW_K hzu, zW_K hz]; exact hK
              refine m_turnBehind hg hsu hn0 Ku k0 kl hn10 hu c10 hd16 (fun X ω a1 a2 a3 a4 a5 => ?_) (fun ω a1 a2 a3 => ?_)
              · rw [hl] at a3 a5
                obtain ⟨hx, ex⟩ := nx_sort srt (i := i + 1) a3 (Or.inr ⟨by omega, by omega, rfl⟩) a4 a5
                exact ih (i + 1) (by omega) ω _ (zW_tr hz (zW_tr hzu (zW_X a1))) a2 (fun n' u' v' a b a' => by rw [a1.2 24 _ (by omega) (by decide) (by decide) (by decide)]; exact hmu n' u' v' a b a') (Or.inl ⟨hx, by rw [ex]⟩)
              · rw [hl] at a3
                have := nx_end (i := i + 1) srt (Or.inr ⟨by omega, by omega, rfl⟩) a3
                exact ih (i + 1) (by omega) ω _ (zW_tr hz (zW_tr hzu (zW_X a1))) a2 (fun n' u' v' a b a' => by rw [a1.2 24 _ (by omega) (by decide) (by decide) (by decide)]; exact hmu n' u' v' a b a') (Or.inr ⟨rfl, by omega⟩)
            rw [et] at nxt
            unfold mxN at nxt
            refine ⟨fun w => nxt _ ?_, fun w => nxt _ ?_⟩
            · rw [if_pos (by unfold mxN at *; omega)]
            · rw [if_neg (by unfold mxN at *; omega)]; exact ey
        refine m_turnBehind (c0 := 0) hg hs hn0 hK k0 kl hn10 hu (by decide) hd16 (fun X τ a1 a2 a3 a4 a5 => ?_) (fun τ a1 a2 a3 => ?_)
        · rw [hl] at a3 a5
          obtain ⟨hx, ex⟩ := nx_sort srt (i := 0) a3 (Or.inl ⟨rfl, rfl, pos⟩) a4 a5
          refine ⟨l.length + 1, ?_⟩
          have := key l.length 0 (by omega) τ (X : Int) (zW_X a1) a2 (fun n' u' v' a b a' => by rw [a1.2 24 _ (by omega) (by decide) (by decide) (by decide)]; exact hm n' u' v' a b a') (Or.inl ⟨hx, by rw [ex]⟩)
          exact this
        · rw [hl] at a3
          have e0 := nx_end (i := 0) srt (Or.inl ⟨rfl, rfl, pos⟩) a3
          refine ⟨l.length + 1, ?_⟩
          have := key l.length 0 (by omega) τ (-1) (zW_X a1) a2 (fun n' u' v' a b a' => by rw [a1.2 24 _ (by omega) (by decide) (by decide) (by decide)]; exact hm n' u' v' a b a') (Or.inr ⟨rfl, by omega⟩)
          exact this
      · rcases hm night used ld hn10 hu hd16 with e | e
        · exact absurd e z
        · rw [e]
          exact hQ σ zW_rfl hs hm
    · have e : night = 11 := by omega
      subst e
      exact hQ σ zW_rfl hs hm
