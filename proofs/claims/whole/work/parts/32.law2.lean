/-! the two worlds: the class's store and the reference's, in one heap -/
def eoS (E : ev_E) (o : Nat) : ev_E := (E.1, E.2.1, E.2.2.1, o, E.2.2.2.2)
/-- the store's cells, wherever the heap ends -/
def RepM (E : ev_E) (σ : st_S) (H : Heap) : Prop := ∃ o, Rep (eoS E o) σ H
theorem ent_eoS (E : ev_E) (o : Nat) (σ : st_S) (c : Nat) : ent (eoS E o) σ c = ent E σ c := rfl
theorem wsE_eoS (E : ev_E) (o : Nat) (σ : st_S) : wsE (eoS E o) σ = wsE E σ := rfl
theorem repM_kept {E : ev_E} {σ : st_S} {H H1 : Heap} (h : RepM E σ H) (hz : H.size ≤ H1.size) (hk : ∀ c, c < gN σ → H1[ea E c]? = H[ea E c]?) : RepM E σ H1 := by
  obtain ⟨o, h1, h2, h3⟩ := h
  have h4 : H.size = o + gN σ := h3
  refine ⟨H1.size - gN σ, ?_, h2, ?_⟩
  · refine va_P.kept h1 (fun k q hq => ?_)
    have hk1 : k < gN σ := by
      have := (List.getElem?_eq_some_iff.mp hq).1
      rwa [wsE_len] at this
    rw [wsE_at _ hk1] at hq
    cases hq
    exact hk k hk1
  · show H1.size = H1.size - gN σ + gN σ
    omega
/-- the class's world keeps its offset: the heap ends where its cells end -/
theorem rep_kept {E : ev_E} {σ : st_S} {H H1 : Heap} (h : Rep E σ H) (hz : H1.size = H.size) (hk : ∀ c, c < gN σ → H1[ea E c]? = H[ea E c]?) : Rep E σ H1 := by
  refine ⟨?_, h.2.1, by rw [hz]; exact h.2.2⟩
  refine va_P.kept h.1 (fun k q hq => ?_)
  have hk1 : k < gN σ := by
    have := (List.getElem?_eq_some_iff.mp hq).1
    rwa [wsE_len] at this
  rw [wsE_at _ hk1] at hq
  cases hq
  exact hk k hk1
theorem str_narrow {E E' : ev_E} {U : State} (h : Str E U) (hK : eK E' = eK E) (hV : eV E' = eV E) (hF : ∀ q, eF E' q → eF E q) : Str E' U := by
  obtain ⟨h1, h2, h3, h4, h5⟩ := h
  refine ⟨?_, ?_, h3.narrow hF, h4.narrow hF, h5⟩
  · rw [hK, hV]
    exact h1.narrow hF
  · rw [hK]
    exact h2
/-- the law's fixed facts: EA stands for all that the law makes -/
def Lw (X : jj_X) (EA EC EM : ev_E) : Prop :=
  Str EA (xS X) ∧ va_K (eD EA) clss (eT EA) (xS X) ∧ (eD EC = eD EA ∧ eC EC = eC EA ∧ eK EC = eK EA ∧ eV EC = eV EA) ∧ (eD EM = eD EA ∧ eC EM = eC EA ∧ eK EM = eK EA ∧ eV EM = eV EA) ∧ Eok EC ∧ Eok EM ∧ (∀ q, eF EC q → eF EA q) ∧ (∀ q, eF EM q → eF EA q) ∧ ((∀ c, c < 26 → ¬ eF EC (ea EM c)) ∧ ∀ c, c < 1000000 → ¬ eF EM (ea EC c)) ∧ eM EC = 1 ∧ eM EM = 2 ∧ (2000 ≤ (xR X).frames ∧ 80000 ≤ (xR X).locals)
/-- both stores; the reference makes no cells, the class at most g in all -/
def PL (EC EM : ev_E) (g : Nat) (σc σm : st_S) (H : Heap) : Prop := Rep EC σc H ∧ RepM EM σm H ∧ gN σm ≤ 26 ∧ gN σc ≤ g ∧ g < 1000000
section LW
variable {X : jj_X} {EA EC EM : ev_E} {cc : ByteArray} {nL cells slots pc idx : Nat} {own : String} {Q : State → Prop} {σc σm : st_S} {lv lv' : List (Nat × Value)} {st : List Value}
theorem lw_pre {E : ev_E} {σ : st_S} {H : Heap} {locs : List Loc} (hs : Str EA (xS X)) (hK0 : va_K (eD EA) clss (eT EA) (xS X)) (e1 : eD E = eD EA) (e2 : eC E = eC EA) (e3 : eK E = eK EA) (e4 : eV E = eV EA) (hF : ∀ q, eF E q → eF EA q) (hR : Rep E σ H) (hS : va_S (eF EA) (xS X).heap H locs) (U : State) (hU : U.heap = H) (hW : (xS X).WarmedH U.vm) : jPre E σ U := by
  refine ⟨by rw [hU]; exact hR, ?_, str_narrow (str_moved hs hS hU hW) e3 e4 hF⟩
  have : va_K (eD EA) clss (eT EA) U := va_K.moved hW.alike hK0
  rw [e1, show eT E = eT EA by unfold eT; rw [e2]]
  exact this
theorem lw_recv {E : ev_E} {σ : st_S} {H : Heap} {k b : Nat} (hK0 : va_K (eD EA) clss (eT EA) (xS X)) (e1 : eD E = eD EA) (hk12 : k < 12) (hR : Rep E σ H) (ho : isO σ b k) : ∃ cellB : Cell, H[ea E b]? = some cellB ∧ cellB.vm.isStatics = false ∧ (xS X).vm.findClass (clC k) = some cellB.cls := by
  have hlt : b < gN σ := by
    rcases ho with q | q
    · exact sv_lt hR.2.1 q (by omega)
    · exact sv_lt hR.2.1 q (by omega)
  have hw := wsE_at E hlt
  rw [ent_o (by omega) ho] at hw
  have hP := hR.1
  rw [e1] at hP
  exact va_recv hK0 hP (cl_at k hk12) hw
end LW
