/-! new cells -/
theorem sk_99 : ∀ (m c : Nat) (q : Nat × Nat), (skT m)[c]? = some q → q.1 ≠ 99 := by
  have h1 : ∀ q ∈ skT 1, q.1 ≠ 99 := by decide +kernel
  have h2 : ∀ q ∈ skT 2, q.1 ≠ 99 := by decide +kernel
  intro m c q hq
  have hm := List.mem_of_getElem? hq
  match m with
  | 0 => cases hm
  | 1 => exact h1 q hm
  | 2 => exact h2 q hm
  | n + 3 => cases hm
theorem sb_99 : ∀ (k j : Nat) (q : Nat × Option Nat), sbf k j = some q → q.1 ≠ 99 := by
  have h1 : ∀ L ∈ sbT, ∀ q ∈ L, q.1 ≠ 99 := by decide +kernel
  intro k j q hq
  unfold sbf at hq
  have hm := List.mem_of_getElem? hq
  rcases Nat.lt_or_ge k sbT.length with z | z
  · rw [List.getD_eq_getElem?_getD, List.getElem?_eq_getElem z] at hm
    exact h1 _ (List.getElem_mem z) q hm
  · rw [List.getD_eq_getElem?_getD, List.getElem?_eq_none z] at hm
    cases hm
theorem gN_sA (σ : st_S) (k len : Nat) : gN (sA σ k len) = gN σ + 1 := rfl
theorem gI_sA (σ : st_S) (k len c j : Nat) : gI (sA σ k len) c j = if c = gN σ then 0 else gI σ c j := rfl
theorem gR_sA (σ : st_S) (k len c j : Nat) : gR (sA σ k len) c j = if c = gN σ then none else gR σ c j := rfl
theorem gK_sA (σ : st_S) (k len c : Nat) : gK (sA σ k len) c = if c = gN σ then k else gK σ c := rfl
theorem gL_sA (σ : st_S) (k len c : Nat) : gL (sA σ k len) c = if c = gN σ then len else gL σ c := rfl
theorem ent_sA {E : ev_E} {σ : st_S} {k len c : Nat} (h : c ≠ gN σ) : ent E (sA σ k len) c = ent E σ c := ent_congr (by rw [gK_sA, if_neg h]) (by rw [gL_sA, if_neg h]) (fun j => by rw [gI_sA, if_neg h]) (fun j => by rw [gR_sA, if_neg h])
theorem sv_sA {E : ev_E} {σ : st_S} (hv : Sv E σ) {k len : Nat} (hk : ∀ k', k' < 12 → k ≠ 16 + k') : Sv E (sA σ k len) := by
  refine ⟨⟨fun c j => ?_, fun c j => ?_⟩, fun c hc => ?_, fun c q hq => ?_, fun c k' j c' h0 h1 h2 => ?_, fun c k' j q h0 h1 h2 => ?_⟩
  · rw [gI_sA]
    split
    · rfl
    · exact hv.1.1 c j
  · rw [gI_sA]
    split
    · exact Or.inr rfl
    · rename_i hc
      rcases hv.1.2 c j with z | z
      · left
        unfold nl
        rw [gK_sA, if_neg hc]
        exact z
      · exact Or.inr z
  · rw [gN_sA] at hc
    rw [gK_sA, if_neg (by omega)]
    exact hv.2.1 c (by omega)
  · have hc : c ≠ gN σ := by
      rintro rfl
      have z := (hv.2.2.1 _ q hq).1
      rw [hv.2.1 _ (Nat.le_refl _)] at z
      exact sk_99 _ _ _ hq z.symm
    rw [gK_sA, gL_sA, if_neg hc, if_neg hc]
    exact hv.2.2.1 c q hq
  · have hc : c ≠ gN σ := by
      rintro rfl
      rw [gK_sA, if_pos rfl] at h1
      exact hk k' h0 h1
    rw [gK_sA, if_neg hc] at h1
    rw [gR_sA, if_neg hc]
    exact hv.2.2.2.1 c k' j c' h0 h1 h2
  · have hc : c ≠ gN σ := by
      rintro rfl
      rw [gK_sA, if_pos rfl] at h1
      exact hk k' h0 h1
    rw [gK_sA, if_neg hc] at h1
    have z := hv.2.2.2.2 c k' j q h0 h1 h2
    have hcj : c + j ≠ gN σ := by
      intro e
      have z1 := z.1
      rw [e, hv.2.1 _ (Nat.le_refl _)] at z1
      exact sb_99 _ _ _ h2 z1.symm
    rw [gK_sA, gL_sA, if_neg hcj, if_neg hcj]
    exact z
/-- what a method that makes cells knows more -/
def Mk (X : jj_X) (E : ev_E) (n0 : Nat) : Prop := (∀ q, (xS X).heap.size ≤ q → eF E q) ∧ (∀ c, n0 ≤ c → ea E c = eo E + c) ∧ ∀ q, eF E q → ∃ c, q = ea E c
theorem rep_new {X : jj_X} {E : ev_E} {cc : ByteArray} {nL n0 h cells : Nat} {own : String} {σ : st_S} {H H1 : Heap} {locs : List Loc} {k len : Nat} (hc : Cx X E cc nL n0 h own) (hM : Mk X E n0) (hR : Rep E σ H) (hS : va_S (eF E) (xS X).heap H locs) (hn : gN σ = n0 + cells) (hk : ∀ k', k' < 12 → k ≠ 16 + k')
    (z1 : H1.size = H.size + 1) (o1 : ∀ q : Nat, q < H.size → H1[q]? = H[q]?) (e1 : va_at (eD E) clss (H.size, ent E (sA σ k len) (gN σ)) H1) : Rep E (sA σ k len) H1 ∧ va_S (eF E) (xS X).heap H1 locs ∧ gN (sA σ k len) = n0 + (cells + 1) ∧ H.size = ea E (gN σ) := by
  have hz := hR.2.2
  have ha : ea E (gN σ) = H.size := by rw [hM.2.1 (gN σ) (by omega), hz]
  refine ⟨⟨?_, sv_sA hR.2.1 hk, by rw [z1, gN_sA]; omega⟩, ⟨Nat.le_trans hS.1 (by omega), fun x h1 h2 => (o1 x (Nat.lt_of_lt_of_le h1 hS.1)).trans (hS.2.1 x h1 h2), hS.2.2⟩, by rw [gN_sA]; omega, ha.symm⟩
  rw [wsE_new (gN_sA σ k len) (fun c hc => ent_sA (by omega)), ha]
  refine (hR.1.kept (fun i x hx => o1 x.1 ((hR.1 i x hx).lt))).app (fun i x hx => ?_)
  have hi : i < 1 := (List.getElem?_eq_some_iff.mp hx).1
  rw [show i = 0 by omega] at hx
  cases hx
  exact e1
section AL
variable {X : jj_X} {E : ev_E} {cc : ByteArray} {nL n0 h cells slots pc : Nat} {own : String} {Q : State → Prop} {σ : st_S} {lv lv' : List (Nat × Value)} {st : List Value} {b idx n : Nat}
theorem fld_new {E : ev_E} {σ : st_S} {k len : Nat} {kk : Nat} (hk : k < 12) {j : Nat} (hj : j < nf k) : defaultValue (clY k j) = vp_V ((List.range (nf k)).map (fld E (sA σ kk len) (gN σ) k)) j := by
  have q := cl_F k hk j hj
  have e : vp_V ((List.range (nf k)).map (fld E (sA σ kk len) (gN σ) k)) j = fld E (sA σ kk len) (gN σ) k j := by
    unfold vp_V
    rw [List.getD_eq_getElem?_getD, List.getElem?_map, List.getElem?_range hj]
    rfl
  rw [e]
  unfold fld
  rw [gI_sA, if_pos rfl, gR_sA, if_pos rfl]
  unfold clF at q
  revert q
  generalize ft k j = f
  match f with
  | 0 => cases clY k j <;> simp [defaultValue, vI, iI]
  | 1 => cases clY k j <;> simp [defaultValue, vL, jI]
  | 2 => cases clY k j <;> simp [defaultValue, vI, iI]
  | 3 => cases clY k j <;> simp [defaultValue, vO, va_rf]
  | n + 4 => cases clY k j <;> simp
def NL (own : String) (idx k : Nat) : Prop := k < 12 ∧ Cond.classLink own idx (clC k) ∈ Tb ∧ Cond.instantiable (clC k) (nf k) ∈ Tb ∧ Cond.initialized (clC k) ∈ Tb
theorem j_new (hc : Cx X E cc nL n0 h own) (hM : Mk X E n0) {k : Nat} (hl : NL own idx k) (hroom : cells + 1 ≤ (xR X).cells ∧ slots + nf k ≤ (xR X).slots) (hd : decode cc pc = .ok (.new idx, 3)) (kk : ∀ (t : Nat) (τ : st_S), t = gN σ → τ = sA σ (32 + k) 0 → J X E nL n0 (cells + 1) (slots + nf k) Q τ (pc + 3) lv (vR E t :: st)) : J X E nL n0 cells slots Q σ pc lv st := by
  intro H locs ls hl' hR hS hn
  obtain ⟨k12, l1, l2, l3⟩ := hl
  have hKn := (cx_K hc).1 k _ (cl_at k k12)
  refine W.newcK (cx_x hc) (cx_b hc) (cx_o hc) (cx_t hc _ l1) (cx_t hc _ l2) (cx_t hc _ l3) rfl hd hroom.1 hroom.2 hKn.2.1 rfl fun H1 kC hkC e1 z1 o1 => ?_
  have hent : ent E (sA σ (32 + k) 0) (gN σ) = .inr (k, (List.range (nf k)).map (fld E (sA σ (32 + k) 0) (gN σ) k)) := ent_o (by omega) (Or.inr (by rw [gK_sA, if_pos rfl]))
  obtain ⟨r1, r2, r3, r4⟩ := rep_new (k := 32 + k) (len := 0) hc hM hR hS hn (by omega) z1 o1 (by
    rw [hent]
    exact ⟨_, cl_at k k12, (u_born (clY k) (cx_t hc) (cl_in k k12) hKn hkC e1 (cl_ty k k12)).to (fun j hj => fld_new k12 hj)⟩)
  have k2 := kk (gN σ) _ rfl rfl H1 locs ls hl' r1 r2 r3
  unfold vR at k2
  rw [← r4] at k2
  exact k2
/-- rows of numbers: kinds 0 to 3 -/
def aty (k : Nat) : FieldType := match k with
  | 0 => .int
  | 1 => .long
  | 2 => .byte
  | _ => .boolean
def j_newK (kd : Nat) (ty : ArrayType) : Prop := kd < 4 ∧ newarray.typeOf ty = aty kd ∧ Cond.arrayClass (aty kd) ∈ Tb
theorem ent_newA {E : ev_E} {σ : st_S} {kd len : Nat} (hk : kd < 4) (cA : ClassId) (hA : cA = eC E kd) {H1 : Heap} {q : Nat} (e1 : H1[q]? = some (arrV cA len (fun _ => defaultValue (aty kd)))) : va_at (eD E) clss (q, ent E (sA σ kd len) (gN σ)) H1 := by
  subst hA
  match kd, hk with
  | 0, _ =>
    rw [ent_k0 (by rw [gK_sA, if_pos rfl]), gL_sA, if_pos rfl]
    show H1[q]? = some (vp_cell _ _)
    rw [e1, vp_cell_i]
    congr 2
    funext j
    rw [gI_sA, if_pos rfl]
    rfl
  | 1, _ =>
    rw [ent_k1 (by rw [gK_sA, if_pos rfl]), gL_sA, if_pos rfl]
    show H1[q]? = some (vp_cell _ _)
    rw [e1, vp_cell_l]
    congr 2
    funext j
    rw [gI_sA, if_pos rfl]
    rfl
  | 2, _ =>
    rw [ent_k2 (by rw [gK_sA, if_pos rfl]), gL_sA, if_pos rfl]
    show H1[q]? = some (vp_cell _ _)
    rw [e1, vp_cell_i]
    congr 2
    funext j
    rw [gI_sA, if_pos rfl]
    rfl
  | 3, _ =>
    rw [ent_k3 (by rw [gK_sA, if_pos rfl]), gL_sA, if_pos rfl]
    show H1[q]? = some (vp_cell _ _)
    rw [e1, vp_cell_i]
    congr 2
    funext j
    rw [gI_sA, if_pos rfl]
    rfl
theorem aty_cls (hc : Cx X E cc nL n0 h own) {kd : Nat} (hk : kd < 4) {cA : ClassId} (hf : (xS X).vm.findClass ("[" ++ (aty kd).toString) = some cA) : cA = eC E kd := by
  match kd, hk with
  | 0, _ => exact Option.some.inj (hf.symm.trans ((cx_K hc).2 0 (eC E 0, .int) rfl).2)
  | 1, _ => exact Option.some.inj (hf.symm.trans ((cx_K hc).2 1 (eC E 1, .long) rfl).2)
  | 2, _ => exact Option.some.inj (hf.symm.trans ((cx_K hc).2 2 (eC E 2, .byte) rfl).2)
  | 3, _ => exact Option.some.inj (hf.symm.trans ((cx_K hc).2 3 (eC E 3, .boolean) rfl).2)
theorem j_newa (hc : Cx X E cc nL n0 h own) (hM : Mk X E n0) {kd N : Nat} {ty : ArrayType} (hk : j_newK kd ty) {i : Int} (hi : wr i = (N : Int)) (hN : N ≤ 1000000) (hroom : cells + 1 ≤ (xR X).cells ∧ slots + N ≤ (xR X).slots) (hd : decode cc pc = .ok (.newarray ty, 2)) (kk : ∀ (t : Nat) (τ : st_S), t = gN σ → τ = sA σ kd N → J X E nL n0 (cells + 1) (slots + N) Q τ (pc + 2) lv (vR E t :: st)) : J X E nL n0 cells slots Q σ pc lv (vI i :: st) := by
  intro H locs ls hl' hR hS hn
  obtain ⟨k4, t1, t2⟩ := hk
  have hb : componentBytes (aty kd) ≤ 8 := by
    match kd, k4 with
    | 0, _ => decide
    | 1, _ => decide
    | 2, _ => decide
    | 3, _ => decide
  have hbN : N * componentBytes (aty kd) ≤ 536870912 := Nat.le_trans (Nat.mul_le_mul hN hb) (by decide)
  refine va_newaK (h := H.size) (cx_x hc) (cx_b hc) (by rw [t1]; exact cx_t hc _ t2) rfl hd rfl (nn_le (by omega)) (by rw [ix_nat, hi]; rfl) (by rw [t1]; exact hbN) hroom.1 hroom.2 rfl fun H1 cA e1 z1 o1 _ hf => ?_
  rw [t1] at e1 hf
  obtain ⟨r1, r2, r3, r4⟩ := rep_new (k := kd) (len := N) hc hM hR hS hn (by omega) z1 o1 (ent_newA k4 cA (aty_cls hc k4 hf) e1)
  have k2 := kk (gN σ) _ rfl rfl H1 locs ls hl' r1 r2 r3
  unfold vR at k2
  rw [← r4] at k2
  exact k2
def AL9 (own : String) (idx kd kc : Nat) : Prop := ((kd = 4 ∧ kc = 9) ∨ (kd = 5 ∧ kc = 1)) ∧ Cond.classLink own idx (clC kc) ∈ Tb
theorem j_anew (hc : Cx X E cc nL n0 h own) (hM : Mk X E n0) {kd kc N : Nat} (hk : AL9 own idx kd kc) {i : Int} (hi : wr i = (N : Int)) (hN : N ≤ 1000000) (hroom : cells + 1 ≤ (xR X).cells ∧ slots + N ≤ (xR X).slots) (hd : decode cc pc = .ok (.anewarray idx, 3)) (kk : ∀ (t : Nat) (τ : st_S), t = gN σ → τ = sA σ kd N → J X E nL n0 (cells + 1) (slots + N) Q τ (pc + 3) lv (vR E t :: st)) : J X E nL n0 cells slots Q σ pc lv (vI i :: st) := by
  intro H locs ls hl' hR hS hn
  obtain ⟨hkd, t1⟩ := hk
  have t2 : (Cond.arrayOver (.object (clC kc))).before (xA X) (xS X) = true := by
    rcases hkd with ⟨rfl, rfl⟩ | ⟨rfl, rfl⟩
    · exact va_AO.use (cx_s hc).2.2.2.2.1
    · exact va_AO.use (cx_s hc).2.2.2.2.2.1
  have hNn : (iI i).toNatClampNeg = N := by rw [ix_nat, hi]; rfl
  subst hNn
  refine W.anew (cx_x hc) (cx_b hc) (cx_o hc) (cx_t hc _ t1) t2 rfl hd rfl (nn_le (by omega)) (by omega) hroom.1 hroom.2 fun cA kA comp f1 f2 f3 f4 => ?_
  generalize hH1 : H.push ({ cls := cA, slots := Array.replicate (iI i).toNatClampNeg .null, vm := .none } : Cell) = H1
  have z1 : H1.size = H.size + 1 := by rw [← hH1, Array.size_push]
  have e1 : H1[H.size]? = some (arrV cA (iI i).toNatClampNeg (fun _ => .null)) := by rw [← hH1, Array.getElem?_push_size, ← arrV_new]
  have o1 : ∀ q : Nat, q < H.size → H1[q]? = H[q]? := fun q hq => by rw [← hH1, Array.getElem?_push, if_neg (Nat.ne_of_lt hq)]
  have hat : va_at (eD E) clss (H.size, ent E (sA σ kd (iI i).toNatClampNeg) (gN σ)) H1 := by
    rcases hkd with ⟨rfl, rfl⟩ | ⟨rfl, rfl⟩
    · rw [ent_k4 (by rw [gK_sA, if_pos rfl]), gL_sA, if_pos rfl]
      obtain ⟨kA', comp', g1, g2, g3, g4⟩ := ((cx_K hc).2 4 (eC E 4, .object RX9) rfl).2
      have : cA = eC E 4 := Option.some.inj (f1.symm.trans g4)
      show H1[H.size]? = some (vp_cell _ _)
      rw [e1, vp_cell_q, this]
      congr 2
      funext j
      rw [gR_sA, if_pos rfl]
      rfl
    · rw [ent_k5 (by rw [gK_sA, if_pos rfl]), gL_sA, if_pos rfl]
      obtain ⟨kA', comp', g1, g2, g3, g4⟩ := ((cx_K hc).2 5 (eC E 5, .object RX1) rfl).2
      have : cA = eC E 5 := Option.some.inj (f1.symm.trans g4)
      show H1[H.size]? = some (vp_cell _ _)
      rw [e1, vp_cell_q, this]
      congr 2
      funext j
      rw [gR_sA, if_pos rfl]
      rfl
  obtain ⟨r1, r2, r3, r4⟩ := rep_new (k := kd) (len := (iI i).toNatClampNeg) hc hM hR hS hn (by omega) z1 o1 hat
  have k2 := kk (gN σ) _ rfl rfl H1 locs ls hl' r1 r2 r3
  unfold vR at k2
  rw [← r4] at k2
  exact k2
def OL (own : String) (idx : Nat) : Prop := Cond.methodLink own idx Lib.objectInit ∈ Tb ∧ Cond.instanceMethod Lib.objectInit ∈ Tb ∧ Cond.code Lib.objectInit ⟨#[0xb1]⟩ 1 none ∈ Tb
theorem j_obj (hc : Cx X E cc nL n0 h own) (ho : OL own idx) (hh : 1 ≤ h) (hcat : (st.map fun v => v.category).sum ≤ 8) (hd : decode cc pc = .ok (.invokespecial idx, 3)) (kk : J X E nL n0 cells slots Q σ (pc + 3) lv st) : J X E nL n0 cells slots Q σ pc lv (vR E b :: st) := by
  intro H locs ls hl hR hS hn
  have hf := cx_f hc
  have hw := cx_w hc
  refine W.objInit (cx_x hc) (cx_b hc) (cx_o hc) (cx_t hc _ ho.1) (cx_t hc _ ho.2.1) (cx_t hc _ ho.2.2) rfl (hl.1.trans (cx_l hc).symm) rfl hd (by omega) (by show 2 * 0 + _ + 12 ≤ _; omega) ?_
  exact kk H locs ls hl hR hS hn
/-- an object's maker is called: by an ordinary link, or by a nest mate's -/
def IL (own : String) (idx : Nat) (y : MethodName) (bytes : ByteArray) (maxL np : Nat) : Prop := (Cond.methodLink own idx y ∈ Tb ∨ ∃ host, Cond.methodLinkNest own idx y host ∈ nestW) ∧ Cond.initialized y.cls ∈ Tb ∧ Cond.code y bytes maxL none ∈ Tb ∧ Cond.instanceMethod y ∈ Tb ∧ y.name = "<init>" ∧ (y.cls ≠ "java/lang/invoke/MethodHandle" ∧ y.cls ≠ "java/lang/invoke/VarHandle" ∧ (parseMethodDescriptor y.desc).map (fun d => d.parameters.length) = some np)
theorem j_init (hc : Cx X E cc nL n0 h own) {y : MethodName} {bytes : ByteArray} {maxL np h' mc ms : Nat} (hm : IL own idx y bytes maxL np) {As : List Value} {Qp : st_S → Prop} (hM : cM X.2.1 y bytes maxL none E h' mc ms (vR E b :: As) σ (qV E (gN σ + mc) Qp)) (hnp : As.length = np) (hh : h' + 1 ≤ h) (hml : maxL ≤ 40) (hroom : cells + mc ≤ (xR X).cells ∧ slots + ms ≤ (xR X).slots) (hcat : (st.map fun v => v.category).sum ≤ 8) {st0 : List Value} (hst : st0 = As.reverse ++ vR E b :: st) (hd : decode cc pc = .ok (.invokespecial idx, 3)) (kk : ∀ (τ : st_S), Qp τ → J X E nL n0 (cells + mc) (slots + ms) Q τ (pc + 3) lv st) : J X E nL n0 cells slots Q σ pc lv st0 := by
  intro H locs ls hl hR hS hn
  have hf := cx_f hc
  have hw := cx_w hc
  subst hst
  have fin : va_Run X.1 X.2.1 X.2.2.1 (xR X) (xS X) (xM X) (xA X) (xB X) (xT X) (xC X) H locs cells slots mc ms (F0 (xM X) pc ls (As.reverse ++ vR E b :: st)) st (qV E (gN σ + mc) Qp (Value.ref (ea E b) :: As).toArray) (eF E) := by
    obtain ⟨m1, m2, m3, m4, m5, m6⟩ := hm
    rcases m1 with m1 | ⟨host, m1⟩
    · exact va_runI (As := As) (rest := st) ⟨cx_x hc, cx_b hc, cx_l hc, cx_o hc, cx_t hc⟩ hM (cwI np (cx_t hc) (ml_good m3) rfl rfl rfl (cx_t hc _ m2) (cx_t hc _ m1) (cx_t hc _ m4) m5 m6 ⟨by show 2 * h' + 1 ≤ _; omega, by show 8 + (maxL + 11) + 64 * h' ≤ _; omega⟩) ⟨jPre_blind, fun U hU hW => ⟨rfl, jPre_at hc hR hS U hU hW⟩⟩ rfl hnp hl.1 rfl (lv_room hcat) hd hroom
    · exact va_runIN (As := As) (rest := st) ⟨cx_x hc, cx_b hc, cx_l hc, cx_o hc, cx_t hc⟩ hM ⟨va_cnB np (cx_t hc) (ml_good m3) rfl rfl rfl ((cx_s hc).2.2.2.2.2.2.2 _ _ _ _ m1) (cx_t hc _ m2) m6 ⟨by show 2 * h' + 1 ≤ _; omega, by show 8 + (maxL + 11) + 64 * h' ≤ _; omega⟩, m5, cx_t hc _ m4⟩ ⟨jPre_blind, fun U hU hW => ⟨rfl, jPre_at hc hR hS U hU hW⟩⟩ rfl hnp hl.1 rfl (lv_room hcat) hd hroom
  exact va_callv (A1 := eF E) fin hS (fun _ _ q => q) (fun _ q => q) (fun u t H1 locs1 ht hvm hw hB hz1 hk1 hS1 => by
    obtain ⟨b1, b2⟩ := hB
    rw [ht] at b1
    obtain ⟨r1, r2, r3⟩ := call_fin hc ⟨b1, b2⟩ hS1 hn
    exact kk u hw H1 locs1 ls hl r1 r2 r3)
/-- room for more places -/
theorem j_wide {slots' : Nat} (hs : slots ≤ slots') (k : J X E nL n0 cells slots' Q σ pc lv st) : J X E nL n0 cells slots Q σ pc lv st :=
  fun H locs ls hl hR hS hn => W.widen (Nat.le_refl _) hs (k H locs ls hl hR hS hn)
end AL
