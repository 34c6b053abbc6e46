/-! the reference goes through a night's crews -/
def ndV (K : Nat → Int) (night : Nat) : Nat := if fgV K (K 33 + (night : Int)) = 1 then 4 else 2
noncomputable def crL (M : zM) (K : Nat → Int) (n away hsh night used : Nat) : List Nat := pkL (wMV M K n away hsh night used) 10 (ndV K night)
/-- what stands while the reference searches -/
def sxM (σ : st_S) (n : Nat) (M : zM) (away hsh : Nat) : Prop := cxM σ n M ∧ lkM σ n M ∧ bcM σ n M ∧ gI σ 0 34 = (away : Int) ∧ gI σ 0 35 = (hsh : Int) ∧ away < 1024 ∧ hsh < 1024
theorem ndV_v (K : Nat → Int) (night : Nat) : ndV K night = 2 ∨ ndV K night = 4 := by unfold ndV; split <;> omega
theorem pk_pos {w : Nat → Nat} {b x X : Nat} (hx : 1 ≤ x) (h : X ∈ pkL w b x) : 1 ≤ X := by
  have hm := (pk_mem hx).mp h
  refine Classical.byContradiction (fun z => ?_)
  have : X = 0 := by omega
  rw [this, smW_0] at hm
  omega
theorem m_crewIn {σ : st_S} {n away hsh night used S : Nat} {M : zM} {Q : Int → st_S → Prop} (h : sxM σ n M away hsh) (hn : night ≤ 10) (hu : used < 1024) (hS : S < 1024) (h1 : ∀ X τ, zX σ τ → sxM τ n M away hsh → X ∈ crL M (gI σ 2) n away hsh night used → S < X → (∀ Y, Y ∈ crL M (gI σ 2) n away hsh night used → S < Y → X ≤ Y) → Q (X : Int) τ)
    (h0 : ∀ τ, zX σ τ → sxM τ n M away hsh → (∀ Y, Y ∈ crL M (gI σ 2) n away hsh night used → ¬ S < Y) → Q (-1) τ) : wp_X11_crewIn (night : Int) (used : Int) (S : Int) σ Q := by
  obtain ⟨hx, hl, hb, ga, gh, ha, hh⟩ := h
  have hxc := hx.1.choose_spec
  have h9 := hxc.2.2.2.2.2.2.2.2.1
  unfold zC9 at h9
  have h933 := h9.1.2
  unfold wp_X11_crewIn
  rw [wr_id (by omega) (by omega)]
  refine m_fogOn (by omega) (m_laysWorths hx hl hb hn hu ha hh ga gh rfl (fun τ z1 z2 z3 => ?_))
  have Kt := zX_K z1
  have st : sxM τ n M away hsh := ⟨cxM_of hx Kt, lkM_of hl z1, z2, by rw [z1.2 _ _ (by omega) (by decide) (by decide) (by decide)]; exact ga, by rw [z1.2 _ _ (by omega) (by decide) (by decide) (by decide)]; exact gh, ha, hh⟩
  have nd := ndV_v (gI σ 2) night
  have main : wp_X11_crewBehind (S : Int) ((ndV (gI σ 2) night : Nat) : Int) τ (fun r s => Q r s) :=
    m_crewBehind (fun p => wMV_2 hxc p) hS nd z3 (fun X a b c => h1 X τ z1 st a b c) (fun a => h0 τ z1 st a)
  unfold ndV at main
  refine ⟨fun z => ?_, fun z => ?_⟩
  · rw [if_neg z] at main; exact main
  · rw [if_pos z] at main; exact main
/-- a sorted list: what comes behind an element -/
theorem nx_sort {l : List Nat} (h : List.Pairwise (· < ·) l) {i X : Nat} (hX : X ∈ l) {S : Nat} (hS : (i = 0 ∧ S = 0 ∧ ∀ Y, Y ∈ l → 1 ≤ Y) ∨ ∃ hi : i - 1 < l.length, 1 ≤ i ∧ S = l[i - 1]) (hlt : S < X) (hmin : ∀ Y, Y ∈ l → S < Y → X ≤ Y) : ∃ hi : i < l.length, X = l[i] := by
  obtain ⟨k, hk, ek⟩ := List.mem_iff_getElem.mp hX
  have mono : ∀ a b (ha : a < l.length) (hb : b < l.length), a < b → l[a] < l[b] := fun a b ha hb hab => List.pairwise_iff_getElem.mp h a b ha hb hab
  rcases hS with ⟨e1, e2, e3⟩ | ⟨hi, e1, e2⟩
  · subst e1
    have hl : 0 < l.length := by omega
    refine ⟨hl, ?_⟩
    have m1 := hmin l[0] (List.getElem_mem hl) (by have := e3 l[0] (List.getElem_mem hl); omega)
    by_cases e : k = 0
    · subst e; exact ek.symm
    · have := mono 0 k hl hk (by omega)
      omega
  · have hki : i - 1 < k := by
      refine Classical.byContradiction (fun z => ?_)
      by_cases e : k = i - 1
      · subst e; omega
      · have := mono k (i - 1) hk hi (by omega)
        omega
    have hil : i < l.length := by omega
    refine ⟨hil, ?_⟩
    have m1 := hmin l[i] (List.getElem_mem hil) (by have := mono (i - 1) i hi hil (by omega); omega)
    by_cases e : k = i
    · subst e; exact ek.symm
    · have := mono i k hil hk (by omega)
      omega
theorem nx_end {l : List Nat} {i S : Nat} (h : List.Pairwise (· < ·) l) (hS : (i = 0 ∧ S = 0 ∧ ∀ Y, Y ∈ l → 1 ≤ Y) ∨ ∃ hi : i - 1 < l.length, 1 ≤ i ∧ S = l[i - 1]) (hno : ∀ Y, Y ∈ l → ¬ S < Y) : l.length ≤ i := by
  refine Classical.byContradiction (fun z => ?_)
  have hil : i < l.length := by omega
  have mono : ∀ a b (ha : a < l.length) (hb : b < l.length), a < b → l[a] < l[b] := fun a b ha hb hab => List.pairwise_iff_getElem.mp h a b ha hb hab
  refine hno l[i] (List.getElem_mem hil) ?_
  rcases hS with ⟨e1, e2, e3⟩ | ⟨hi, e1, e2⟩
  · have := e3 l[i] (List.getElem_mem hil); omega
  · have := mono (i - 1) i hi hil (by omega)
    omega
