/-! what methods that make cells know of the world -/
def MkE (E : ev_E) (n : Nat) : Prop := (∀ q, eo E + n ≤ q → eF E q) ∧ (∀ c, n ≤ c → ea E c = eo E + c) ∧ ∀ q, eF E q → ∃ c, q = ea E c
theorem MkE.up {E : ev_E} {n m : Nat} (h : MkE E n) (hm : n ≤ m) : MkE E m := ⟨fun q hq => h.1 q (by omega), fun c hc => h.2.1 c (by omega), h.2.2⟩
theorem MkE.at {X : jj_X} {E : ev_E} {cc : ByteArray} {nL n0 h : Nat} {own : String} (hM : MkE E n0) (hc : Cx X E cc nL n0 h own) : Mk X E n0 := ⟨fun q hq => hM.1 q (by rw [← cx_z hc]; exact hq), hM.2.1, hM.2.2⟩
theorem kNew {σ τ : st_S} {t k len : Nat} (ht : t = gN σ) (e : τ = sA σ k len) : gK τ t = k := by
  subst ht e
  rw [gK_sA, if_pos rfl]
/-- an object is finished -/
def Fin1 (σ : st_S) (t k : Nat) : Prop := gK σ t = 32 + k ∧ (∀ j c', srf k t j = some c' → gR σ t j = some c') ∧ ∀ j q, 0 < j → sbf k j = some q → gK σ (t + j) = q.1 ∧ ∀ L, q.2 = some L → gL σ (t + j) = L
theorem gK_sK (σ : st_S) (t k c : Nat) : gK (sK σ t k) c = if c = t then k else gK σ c := rfl
def skNo (m t : Nat) : Prop := (skT m)[t]? = none
theorem sb_0 : ∀ k, k < 12 → ∀ q : Nat × Option Nat, sbf k 0 = some q → q = (16 + k, none) := by
  intro k hk q hq
  have : ∀ k, k < 12 → sbf k 0 = none ∨ sbf k 0 = some (16 + k, none) := by decide +kernel
  rcases this k hk with z | z
  · rw [z] at hq
    cases hq
  · rw [z] at hq
    cases hq
    rfl
theorem sb_lt : ∀ k j q, sbf k j = some q → 0 < j → q.1 < 16 := by
  have h1 : ∀ L ∈ sbT, ∀ q ∈ L.drop 1, q.1 < 16 := by decide +kernel
  intro k j q hq hj
  unfold sbf at hq
  rcases Nat.lt_or_ge k sbT.length with z | z
  · rw [List.getD_eq_getElem?_getD, List.getElem?_eq_getElem z] at hq
    refine h1 _ (List.getElem_mem z) q ?_
    have : (sbT[k].drop 1)[j - 1]? = some q := by
      rw [List.getElem?_drop, show 1 + (j - 1) = j by omega]
      exact hq
    exact List.mem_of_getElem? this
  · rw [List.getD_eq_getElem?_getD, List.getElem?_eq_none z] at hq
    cases hq
section A2
variable {X : jj_X} {E : ev_E} {cc : ByteArray} {nL n0 h cells slots pc : Nat} {own : String} {Q : State → Prop} {σ : st_S} {lv lv' : List (Nat × Value)} {st : List Value} {b idx n : Nat}
theorem j_fin {t k m : Nat} (hk : k < 12) (hm : eM E = m) (hs : skNo m t) (hf : Fin1 σ t k) (kk : ∀ τ : st_S, τ = sK σ t (16 + k) → J X E nL n0 cells slots Q τ pc lv st) : J X E nL n0 cells slots Q σ pc lv st := by
  intro H locs ls hl hR hS hn
  obtain ⟨f1, f2, f3⟩ := hf
  have hv := hR.2.1
  have hlt : t < gN σ := sv_lt hv f1 (by omega)
  have hent : ∀ c, ent E (sK σ t (16 + k)) c = ent E σ c := by
    intro c
    by_cases e : c = t
    · subst e
      rw [ent_o (σ := sK σ c (16 + k)) (k := k) (by omega) (Or.inl (by rw [gK_sK, if_pos rfl])), ent_o (σ := σ) (k := k) (by omega) (Or.inr f1)]
      rfl
    · exact ent_congr (by rw [gK_sK, if_neg e]) rfl (fun _ => rfl) (fun _ => rfl)
  have hws : wsE E (sK σ t (16 + k)) = wsE E σ := by
    unfold wsE
    show (List.range (gN σ)).map _ = _
    apply List.map_congr_left
    intro c _
    rw [hent c]
  refine kk _ rfl H locs ls hl ⟨by rw [hws]; exact hR.1, ⟨⟨hv.1.1, fun c j => ?_⟩, fun c hc => ?_, fun c q hq => ?_, fun c k' j c' h0 h1 h2 => ?_, fun c k' j q h0 h1 h2 => ?_⟩, hR.2.2⟩ hS hn
  · rcases hv.1.2 c j with (z | z) | z
    · left; left
      rw [gK_sK]
      split
      · rename_i e; rw [e, f1] at z; omega
      · exact z
    · left; right
      refine ⟨?_, z.2⟩
      rw [gK_sK]
      split
      · rename_i e
        have z1 := z.1
        rw [e, f1] at z1
        left
        omega
      · exact z.1
    · exact Or.inr z
  · rw [gK_sK, if_neg (by have : gN σ ≤ c := hc; omega)]
    exact hv.2.1 c hc
  · have hc : c ≠ t := by
      rintro rfl
      rw [hm, hs] at hq
      cases hq
    rw [gK_sK, if_neg hc]
    exact hv.2.2.1 c q hq
  · rw [gK_sK] at h1
    show gR σ c j = some c'
    split at h1
    · rename_i e
      subst e
      have : k' = k := by omega
      subst this
      exact f2 j c' h2
    · exact hv.2.2.2.1 c k' j c' h0 h1 h2
  · rw [gK_sK] at h1
    split at h1
    · rename_i e
      subst e
      have : k' = k := by omega
      subst this
      rcases Nat.eq_zero_or_pos j with z | z
      · subst z
        have := sb_0 k' h0 q h2
        subst this
        refine ⟨by rw [gK_sK, if_pos (by omega)], fun L hL => by cases hL⟩
      · obtain ⟨g1, g2⟩ := f3 j q z h2
        exact ⟨by rw [gK_sK, if_neg (by omega)]; exact g1, g2⟩
    · obtain ⟨g1, g2⟩ := hv.2.2.2.2 c k' j q h0 h1 h2
      refine ⟨?_, g2⟩
      rw [gK_sK]
      split
      · rename_i e
        rw [e, f1] at g1
        rcases Nat.eq_zero_or_pos j with z | z
        · subst z
          have := sb_0 k' h0 q h2
          subst this
          simp at g1
          omega
        · have := sb_lt k' j q h2 z
          omega
      · exact g1
theorem j_newN (hc : Cx X E cc nL n0 h own) (hM : Mk X E n0) {k N : Nat} (hl : NL own idx k) (hN : nf k = N) (hroom : cells + 1 ≤ (xR X).cells ∧ slots + N ≤ (xR X).slots) (hd : decode cc pc = .ok (.new idx, 3)) (kk : ∀ (t : Nat) (τ : st_S), t = gN σ → τ = sA σ (32 + k) 0 → J X E nL n0 (cells + 1) (slots + N) Q τ (pc + 3) lv (vR E t :: st)) : J X E nL n0 cells slots Q σ pc lv st := by
  subst hN
  exact j_new hc hM hl hroom hd kk
theorem j_ini (hc : Cx X E cc nL n0 h own) {y : MethodName} {bytes : ByteArray} {maxL np h' mc ms : Nat} (hm : IL own idx y bytes maxL np) {As : List Value} {Qp : st_S → Prop} (hM : n0 ≤ gN σ → cM X.2.1 y bytes maxL none E h' mc ms (vR E b :: As) σ (qV E (gN σ + mc) Qp)) (hnp : As.length = np) (hh : h' + 1 ≤ h) (hml : maxL ≤ 40) (hroom : cells + mc ≤ (xR X).cells ∧ slots + ms ≤ (xR X).slots) (hcat : (st.map fun v => v.category).sum ≤ 8) {st0 : List Value} (hst : st0 = As.reverse ++ vR E b :: st) (hd : decode cc pc = .ok (.invokespecial idx, 3)) (kk : ∀ (τ : st_S), Qp τ → J X E nL n0 (cells + mc) (slots + ms) Q τ (pc + 3) lv st) : J X E nL n0 cells slots Q σ pc lv st0 :=
  fun H locs ls hl hR hS hn => j_init hc hm (hM (by omega)) hnp hh hml hroom hcat hst hd kk H locs ls hl hR hS hn
/-- a static method that makes a cell and hands it back -/
theorem j_csR (hc : Cx X E cc nL n0 h own) {y : MethodName} {bytes : ByteArray} {maxL np h' mc ms : Nat} {ret : Option FieldType} (hm : ML own idx y bytes maxL ret np) (hv : Cond.static y ∈ Tb) {As : List Value} {Qp : Nat → st_S → Prop} (hM : n0 ≤ gN σ → cM X.2.1 y bytes maxL ret E h' mc ms As σ (qR E (gN σ + mc) Qp)) (hnp : As.length = np) (hh : h' + 1 ≤ h) (hml : maxL ≤ 40) (hroom : cells + mc ≤ (xR X).cells ∧ slots + ms ≤ (xR X).slots) (hcat : (st.map fun v => v.category).sum ≤ 8) {st0 : List Value} (hst : st0 = As.reverse ++ st) (hd : decode cc pc = .ok (.invokestatic idx, 3)) (kk : ∀ (r : Nat) (τ : st_S), Qp r τ → J X E nL n0 (cells + mc) (slots + ms) Q τ (pc + 3) lv (vR E r :: st)) : J X E nL n0 cells slots Q σ pc lv st0 := by
  intro H locs ls hl hR hS hn
  have hf := cx_f hc
  have hw := cx_w hc
  subst hst
  exact va_callr (A1 := eF E) (va_runS (As := As) (rest := st) ⟨cx_x hc, cx_b hc, cx_l hc, cx_o hc, cx_t hc⟩ (hM (by omega)) ⟨ml_B (cx_t hc) hm (by omega) (by omega), cx_t hc _ hv⟩ ⟨jPre_blind, fun U hU hW => ⟨rfl, jPre_at hc hR hS U hU hW⟩⟩ rfl hnp hl.1 rfl (lv_room hcat) hd hroom) hS (fun _ _ q => q) (fun _ q => q) (fun u a t H1 locs1 ht hvm hw hB hz1 hk1 hS1 => by
    obtain ⟨rfl, b1, b2⟩ := hB
    rw [ht] at b1
    obtain ⟨r1, r2, r3⟩ := call_fin hc ⟨b1, b2⟩ hS1 hn
    exact kk u.2 u.1 hw H1 locs1 ls hl r1 r2 r3)
/-- int[].clone() -/
def CL9 (own : String) (idx : Nat) : Prop := Cond.methodLink own idx ⟨"[I", "clone", "()Ljava/lang/Object;"⟩ ∈ Tb ∧ Cond.sameMethod "[I" "java/lang/Object" "clone" "()Ljava/lang/Object;" ∈ Tb ∧ Cond.native ⟨"java/lang/Object", "clone", "()Ljava/lang/Object;"⟩ ∈ Tb ∧ Cond.instanceMethod ⟨"java/lang/Object", "clone", "()Ljava/lang/Object;"⟩ ∈ Tb ∧ Cond.selects "[I" ⟨"[I", "clone", "()Ljava/lang/Object;"⟩ ⟨"java/lang/Object", "clone", "()Ljava/lang/Object;"⟩ ∈ Tb
theorem j_clone (hc : Cx X E cc nL n0 h own) (hM : Mk X E n0) (hl : CL9 own idx) (hh : 1 ≤ h) {N : Nat} (hk : Sv E σ → gK σ b = 0 ∧ gL σ b = N) (hroom : cells + 1 ≤ (xR X).cells ∧ slots + N ≤ (xR X).slots) (hcat : (st.map fun v => v.category).sum ≤ 8) (hd : decode cc pc = .ok (.invokevirtual idx, 3)) (kk : ∀ (t : Nat) (τ : st_S), t = gN σ → τ = sF (sA σ 0 N) (gN σ) (gI σ b) → J X E nL n0 (cells + 1) (slots + N) Q τ (pc + 3) lv (vR E t :: st)) : J X E nL n0 cells slots Q σ pc lv (vR E b :: st) := by
  intro H locs ls hl' hR hS hn
  have hf := cx_f hc
  have hw := cx_w hc
  obtain ⟨k0, l0⟩ := hk hR.2.1
  have hlt := sv_lt hR.2.1 k0 (by decide)
  have hwb := wsE_at E hlt
  rw [ent_k0 k0, l0] at hwb
  obtain ⟨c1, c2, c3, c4, c5⟩ := hl
  have hnm : (xS X).vm.findClass "[I" = some (eC E 0) := ((cx_K hc).2 0 (eC E 0, .int) rfl).2
  refine va_clone (ty := .int) (cx_x hc) (cx_b hc) ((cx_l hc).trans hl'.1.symm) (cx_o hc) (cx_t hc _ c1) (cx_t hc _ c2) (cx_t hc _ c3) (cx_t hc _ c4) (cx_t hc _ c5) (cx_s hc).2.2.2.2.2.2.1 (cx_K hc) hR.1 (wsE_D (cx_E hc) σ) (vs_self hS) (fun q hq => hM.1 q (Nat.le_trans hS.1 hq)) b 0 hwb rfl hnm (fun i v hv => ?_) (by omega) (by omega) hroom.1 hroom.2 hd (fun q H1 _ hP1 hD1 hS1 => ?_)
  · rw [vp_cell_i] at hv
    have : ∃ x : Int32, v = .int x := by
      have hi : i < N := by
        have := (Array.getElem?_eq_some_iff.mp hv).1
        rwa [arrV_size] at this
      unfold arrV at hv
      simp [hi] at hv
      exact ⟨_, hv.symm⟩
    obtain ⟨x, rfl⟩ := this
    rfl
  · refine W_size (fun hsz => ?_)
    have hz := hR.2.2
    have hz0 := cx_z hc
    have hql : q < H1.size := by
      have hx : (wsE E σ ++ [(q, (Sum.inl (eC E 0, N, Sum.inl fun j => iI (gI σ b j)) : va_E))])[gN σ]? = some (q, .inl (eC E 0, N, .inl fun j => iI (gI σ b j))) := by
        rw [List.getElem?_append_right (by rw [wsE_len]; omega), wsE_len]
        simp
      exact (hP1 _ _ hx).lt
    have hqe : q = H.size := by
      rcases Nat.lt_or_ge q H.size with z | z
      · exfalso
        have hx : (wsE E σ ++ [(q, (Sum.inl (eC E 0, N, Sum.inl fun j => iI (gI σ b j)) : va_E))])[gN σ]? = some (q, .inl (eC E 0, N, .inl fun j => iI (gI σ b j))) := by
          rw [List.getElem?_append_right (by rw [wsE_len]; omega), wsE_len]
          simp
        obtain ⟨c, hcq⟩ := hM.2.2 q (hD1.2 _ _ hx)
        have hcl : c < gN σ := by
          rcases Nat.lt_or_ge c n0 with z1 | z1
          · omega
          · have := hM.2.1 c z1
            omega
        have hy : (wsE E σ ++ [(q, (Sum.inl (eC E 0, N, Sum.inl fun j => iI (gI σ b j)) : va_E))])[c]? = some (ea E c, ent E σ c) := by
          rw [List.getElem?_append_left (by rw [wsE_len]; exact hcl), wsE_at E hcl]
        have := hD1.1 _ _ _ _ hy hx hcq.symm
        omega
      · omega
    have ha : ea E (gN σ) = H.size := by rw [hM.2.1 (gN σ) (by omega), hz]
    have hv := hR.2.1
    have hcn : ∀ j, wr (gI σ b j) = gI σ b j := fun j => sv_cn hv k0 (by decide) (by omega)
    have hgb : gN σ ≠ b := by omega
    have hsA : Sv E (sA σ 0 N) := sv_sA hv (by omega)
    have hV : Sv E (sF (sA σ 0 N) (gN σ) (gI σ b)) := sv_sF hsA _ (fun j => cn_wl (hcn j)) (fun j => Or.inr (hcn j))
    have hent : ent E (sF (sA σ 0 N) (gN σ) (gI σ b)) (gN σ) = .inl (eC E 0, N, .inl fun j => iI (gI σ b j)) := by
      rw [ent_k0 (show gK (sF (sA σ 0 N) (gN σ) (gI σ b)) (gN σ) = 0 by rw [gK_sF, gK_sA, if_pos rfl]), gL_sF, gL_sA, if_pos rfl]
      congr 3
      congr 1
      funext j
      rw [gI_sF, if_pos rfl]
    have k2 := kk (gN σ) _ rfl rfl H1 locs ls hl' ⟨by
      rw [wsE_new (σ := σ) (by rw [gN_sF, gN_sA]) (fun c hcc => (ent_sF (by omega)).trans (ent_sA (by omega))), hent, ha, ← hqe]
      exact hP1, hV, by rw [gN_sF, gN_sA]; have := hS1.1; omega⟩ (vs_trans hS hS1) (by rw [gN_sF, gN_sA]; omega)
    unfold vR at k2
    rw [ha, ← hqe] at k2
    exact k2
theorem j_cast (hc : Cx X E cc nL n0 h own) (hl : Cond.classLink own idx "[I" ∈ Tb) {N : Nat} (hk : Sv E σ → gK σ b = 0 ∧ gL σ b = N) (hd : decode cc pc = .ok (.checkcast idx, 3)) (kk : J X E nL n0 cells slots Q σ (pc + 3) lv (vR E b :: st)) : J X E nL n0 cells slots Q σ pc lv (vR E b :: st) := by
  intro H locs ls hl' hR hS hn
  obtain ⟨k0, l0⟩ := hk hR.2.1
  have hwb := wsE_at E (sv_lt hR.2.1 k0 (by decide))
  rw [ent_k0 k0, l0] at hwb
  exact va_castA (cx_x hc) (cx_b hc) (cx_o hc) (cx_t hc _ hl) hR.1 b hwb ((cx_K hc).2 0 (eC E 0, .int) rfl).2 hd (kk H locs ls hl' hR hS hn)
end A2
/-- the outcome of a method that may make mc cells, or none -/
def qX (E : ev_E) (n mc : Nat) (Qp : Int → st_S → Prop) : Array Value → State → Outcome → State → Prop := va_Qi (S := st_S) (fun r u => ∃ x : Int, r = iI x ∧ wr x = x ∧ Qp x u) (fun u t => Rep E u t.heap ∧ (gN u = n ∨ gN u = n + mc)) (eF E)
theorem j_iretX {X : jj_X} {E : ev_E} {cc : ByteArray} {nL n0 h cells slots pc mc ms : Nat} {own : String} {σ : st_S} {lv : List (Nat × Value)} (hc : Cx X E cc nL n0 h own) (hr : (xT X).sig.returnType = some .int) (hcs : (cells = 0 ∨ cells = mc) ∧ slots ≤ ms) {Qp : Int → st_S → Prop} {x : Int} (hcx : wr x = x) (hq : Qp x σ) (hd : decode cc pc = .ok (.ireturn, 1)) : J X E nL n0 cells slots (MQ (xB X) (qX E n0 mc Qp) (xA X) (xS X) mc ms (eF E)) σ pc lv [vI x] :=
  fun H locs ls hl hR hS hn => W.widen (k := mc) (n := ms) (by omega) hcs.2 (W.iret (cx_x hc) (cx_b hc) hr (fun t ht hW => ⟨⟨iI x, σ, rfl, ⟨x, rfl, hcx, hq⟩, ⟨by rw [ht]; exact hR, by omega⟩⟩, hS.F ht⟩) hS.2.2 hd (cx_lk hc))
