section AA
variable {X : jj_X} {E : ev_E} {cc : ByteArray} {nL n0 h cells slots pc : Nat} {own : String} {Q : State → Prop} {σ : st_S} {lv lv' : List (Nat × Value)} {st : List Value} {b idx n : Nat}
theorem j_iald (hc : Cx X E cc nL n0 h own) (hk : Sv E σ → gK σ b = 0 ∧ gL σ b = n) {i i' : Int} {jn : Nat} (hi' : wr i = i') (hi : ix i' n) (hj : i'.toNat = jn) (hd : decode cc pc = .ok (.iaload, 1)) (kk : wr (gI σ b jn) = gI σ b jn → J X E nL n0 cells slots Q σ (pc + 1) lv (vI (gI σ b jn) :: st)) : J X E nL n0 cells slots Q σ pc lv (vI i :: vR E b :: st) := by
  intro H locs ls hl hR hS hn
  obtain ⟨k0, l0⟩ := hk hR.2.1
  have hw := wsE_at E (sv_lt hR.2.1 k0 (by decide))
  rw [ent_k0 k0, l0] at hw
  refine va_iald (cx_x hc) (cx_b hc) (cx_K hc) hR.1 b 0 hw rfl (ix_in hi' hi) hd ?_
  rw [ix_nat, hi', hj]
  exact kk (sv_cn hR.2.1 k0 (by decide) (by omega)) H locs ls hl hR hS hn
theorem j_bald (hc : Cx X E cc nL n0 h own) (hk : Sv E σ → gK σ b = 2 ∧ gL σ b = n) {i i' : Int} {jn : Nat} (hi' : wr i = i') (hi : ix i' n) (hj : i'.toNat = jn) (hd : decode cc pc = .ok (.baload, 1)) (kk : wr (gI σ b jn) = gI σ b jn → J X E nL n0 cells slots Q σ (pc + 1) lv (vI (gI σ b jn) :: st)) : J X E nL n0 cells slots Q σ pc lv (vI i :: vR E b :: st) := by
  intro H locs ls hl hR hS hn
  obtain ⟨k0, l0⟩ := hk hR.2.1
  have hw := wsE_at E (sv_lt hR.2.1 k0 (by decide))
  rw [ent_k2 k0, l0] at hw
  refine va_bald (cx_x hc) (cx_b hc) (cx_K hc) hR.1 b 2 hw rfl (ix_in hi' hi) hd ?_
  rw [ix_nat, hi', hj]
  exact kk (sv_cn hR.2.1 k0 (by decide) (by omega)) H locs ls hl hR hS hn
theorem j_zald (hc : Cx X E cc nL n0 h own) (hk : Sv E σ → gK σ b = 3 ∧ gL σ b = n) {i i' : Int} {jn : Nat} (hi' : wr i = i') (hi : ix i' n) (hj : i'.toNat = jn) (hd : decode cc pc = .ok (.baload, 1)) (kk : wr (gI σ b jn) = gI σ b jn → J X E nL n0 cells slots Q σ (pc + 1) lv (vI (gI σ b jn) :: st)) : J X E nL n0 cells slots Q σ pc lv (vI i :: vR E b :: st) := by
  intro H locs ls hl hR hS hn
  obtain ⟨k0, l0⟩ := hk hR.2.1
  have hw := wsE_at E (sv_lt hR.2.1 k0 (by decide))
  rw [ent_k3 k0, l0] at hw
  refine va_zald (cx_x hc) (cx_b hc) (cx_K hc) hR.1 b 3 hw rfl (ix_in hi' hi) hd ?_
  rw [ix_nat, hi', hj]
  exact kk (sv_cn hR.2.1 k0 (by decide) (by omega)) H locs ls hl hR hS hn
theorem j_lald (hc : Cx X E cc nL n0 h own) (hk : Sv E σ → gK σ b = 1 ∧ gL σ b = n) {i i' : Int} {jn : Nat} (hi' : wr i = i') (hi : ix i' n) (hj : i'.toNat = jn) (hd : decode cc pc = .ok (.laload, 1)) (kk : wl (gI σ b jn) = gI σ b jn → J X E nL n0 cells slots Q σ (pc + 1) lv (vL (gI σ b jn) :: st)) : J X E nL n0 cells slots Q σ pc lv (vI i :: vR E b :: st) := by
  intro H locs ls hl hR hS hn
  obtain ⟨k0, l0⟩ := hk hR.2.1
  have hw := wsE_at E (sv_lt hR.2.1 k0 (by decide))
  rw [ent_k1 k0, l0] at hw
  refine va_lald (cx_x hc) (cx_b hc) (cx_K hc) hR.1 b 1 hw rfl (ix_in hi' hi) hd ?_
  rw [ix_nat, hi', hj]
  exact kk (hR.2.1.1.1 b jn) H locs ls hl hR hS hn
theorem j_aald (hc : Cx X E cc nL n0 h own) (kd : Nat) (hkd : kd = 4 ∨ kd = 5) (hk : Sv E σ → gK σ b = kd ∧ gL σ b = n) {i i' : Int} {jn : Nat} (hi' : wr i = i') (hi : ix i' n) (hj : i'.toNat = jn) (hd : decode cc pc = .ok (.aaload, 1)) (kk : J X E nL n0 cells slots Q σ (pc + 1) lv (vO E (gR σ b jn) :: st)) : J X E nL n0 cells slots Q σ pc lv (vI i :: vR E b :: st) := by
  intro H locs ls hl hR hS hn
  obtain ⟨k0, l0⟩ := hk hR.2.1
  have hw := wsE_at E (sv_lt hR.2.1 k0 (by omega))
  rcases hkd with rfl | rfl
  · rw [ent_k4 k0, l0] at hw
    refine va_aldq (C := RX9) (cx_x hc) (cx_b hc) (cx_K hc) hR.1 b 4 hw rfl (ix_in hi' hi) hd ?_
    rw [ix_nat, hi', hj]
    exact kk H locs ls hl hR hS hn
  · rw [ent_k5 k0, l0] at hw
    refine va_aldq (C := RX1) (cx_x hc) (cx_b hc) (cx_K hc) hR.1 b 5 hw rfl (ix_in hi' hi) hd ?_
    rw [ix_nat, hi', hj]
    exact kk H locs ls hl hR hS hn
theorem j_alen (hc : Cx X E cc nL n0 h own) (kd : Nat) (hkd : kd < 6) (hk : Sv E σ → gK σ b = kd ∧ gL σ b = n) (hd : decode cc pc = .ok (.arraylength, 1)) (kk : J X E nL n0 cells slots Q σ (pc + 1) lv (vI (n : Int) :: st)) : J X E nL n0 cells slots Q σ pc lv (vR E b :: st) := by
  intro H locs ls hl hR hS hn
  obtain ⟨k0, l0⟩ := hk hR.2.1
  have hw := wsE_at E (sv_lt hR.2.1 k0 (by omega))
  have kk' := kk H locs ls hl hR hS hn
  have e : Int32.ofNat n = iI (n : Int) := rfl
  match kd, hkd with
  | 0, _ => rw [ent_k0 k0, l0] at hw; exact va_alen (cx_x hc) (cx_b hc) (cx_K hc) hR.1 b 0 hw rfl e hd kk'
  | 1, _ => rw [ent_k1 k0, l0] at hw; exact va_alen (cx_x hc) (cx_b hc) (cx_K hc) hR.1 b 1 hw rfl e hd kk'
  | 2, _ => rw [ent_k2 k0, l0] at hw; exact va_alen (cx_x hc) (cx_b hc) (cx_K hc) hR.1 b 2 hw rfl e hd kk'
  | 3, _ => rw [ent_k3 k0, l0] at hw; exact va_alen (cx_x hc) (cx_b hc) (cx_K hc) hR.1 b 3 hw rfl e hd kk'
  | 4, _ => rw [ent_k4 k0, l0] at hw; exact va_alen (cx_x hc) (cx_b hc) (cx_K hc) hR.1 b 4 hw rfl e hd kk'
  | 5, _ => rw [ent_k5 k0, l0] at hw; exact va_alen (cx_x hc) (cx_b hc) (cx_K hc) hR.1 b 5 hw rfl e hd kk'

theorem updN_sI (σ : st_S) (b : Nat) (i x : Int) (f : Int32 → Int32) : (fun j => iI (gI (sI σ b (wr i).toNat ((f (iI x)).toInt)) b j)) = upd (fun j => iI (gI σ b j)) (iI i).toNatClampNeg (f (iI x)) := by
  rw [upd_sI, iI_of]
theorem j_iast (hc : Cx X E cc nL n0 h own) (hk : Sv E σ → gK σ b = 0 ∧ gL σ b = n) {i i' x : Int} {jn : Nat} (hi' : wr i = i') (hi : ix i' n) (hj : i'.toNat = jn) (hx : wr x = x) (hd : decode cc pc = .ok (.iastore, 1)) (kk : ∀ τ : st_S, τ = sI σ b jn (x) → J X E nL n0 cells slots Q τ (pc + 1) lv st) : J X E nL n0 cells slots Q σ pc lv (vI x :: vI i :: vR E b :: st) := by
  intro H locs ls hl hR hS hn
  obtain ⟨k0, l0⟩ := hk hR.2.1
  have hlt := sv_lt hR.2.1 k0 (by decide)
  have hw := wsE_at E hlt
  subst hj
  subst hi'
  rw [ent_k0 k0, l0] at hw
  refine va_iast (cx_x hc) (cx_b hc) (cx_K hc) hR.1 (wsE_D (cx_E hc) σ) (vs_self hS) b 0 hw rfl (ix_in rfl hi) hd (fun H1 locs1 hP1 _ hS1 => ?_)
  refine W_size (fun hsz => ?_)
  obtain ⟨r1, r2, r3⟩ := rep_put (σ' := sI σ b (wr i).toNat (x)) hR hS hlt rfl (fun _ q => ent_sI q) (sv_sI hR.2.1 _ _ (cn_wl hx) (Or.inr hx)) (by
    rw [ent_k0 (show gK (sI σ b (wr i).toNat (x)) b = 0 from k0)]
    first | unfold o_nb | unfold o_nz | skip
    rw [upd_sI σ b i x]
    show _ = _
    rw [gL_sI, l0]) hP1 hS1 hsz (cx_z hc) hn
  exact kk _ rfl H1 locs1 ls hl r1 r2 r3
theorem j_bast (hc : Cx X E cc nL n0 h own) (hk : Sv E σ → gK σ b = 2 ∧ gL σ b = n) {i i' x : Int} {jn : Nat} (hi' : wr i = i') (hi : ix i' n) (hj : i'.toNat = jn) (hd : decode cc pc = .ok (.bastore, 1)) (kk : ∀ τ : st_S, τ = sI σ b jn (o_nb x) → J X E nL n0 cells slots Q τ (pc + 1) lv st) : J X E nL n0 cells slots Q σ pc lv (vI x :: vI i :: vR E b :: st) := by
  intro H locs ls hl hR hS hn
  obtain ⟨k0, l0⟩ := hk hR.2.1
  have hlt := sv_lt hR.2.1 k0 (by decide)
  have hw := wsE_at E hlt
  subst hj
  subst hi'
  rw [ent_k2 k0, l0] at hw
  refine va_bast (cx_x hc) (cx_b hc) (cx_K hc) hR.1 (wsE_D (cx_E hc) σ) (vs_self hS) b 2 hw rfl (ix_in rfl hi) hd (fun H1 locs1 hP1 _ hS1 => ?_)
  refine W_size (fun hsz => ?_)
  obtain ⟨r1, r2, r3⟩ := rep_put (σ' := sI σ b (wr i).toNat (o_nb x)) hR hS hlt rfl (fun _ q => ent_sI q) (sv_sI hR.2.1 _ _ (cn_wl (cn_i _)) (Or.inr (cn_i _))) (by
    rw [ent_k2 (show gK (sI σ b (wr i).toNat (o_nb x)) b = 2 from k0)]
    first | unfold o_nb | unfold o_nz | skip
    rw [updN_sI σ b i x (vp_nar .byte)]
    show _ = _
    rw [gL_sI, l0]) hP1 hS1 hsz (cx_z hc) hn
  exact kk _ rfl H1 locs1 ls hl r1 r2 r3
theorem j_zast (hc : Cx X E cc nL n0 h own) (hk : Sv E σ → gK σ b = 3 ∧ gL σ b = n) {i i' x : Int} {jn : Nat} (hi' : wr i = i') (hi : ix i' n) (hj : i'.toNat = jn) (hd : decode cc pc = .ok (.bastore, 1)) (kk : ∀ τ : st_S, τ = sI σ b jn (o_nz x) → J X E nL n0 cells slots Q τ (pc + 1) lv st) : J X E nL n0 cells slots Q σ pc lv (vI x :: vI i :: vR E b :: st) := by
  intro H locs ls hl hR hS hn
  obtain ⟨k0, l0⟩ := hk hR.2.1
  have hlt := sv_lt hR.2.1 k0 (by decide)
  have hw := wsE_at E hlt
  subst hj
  subst hi'
  rw [ent_k3 k0, l0] at hw
  refine va_zast (cx_x hc) (cx_b hc) (cx_K hc) hR.1 (wsE_D (cx_E hc) σ) (vs_self hS) b 3 hw rfl (ix_in rfl hi) hd (fun H1 locs1 hP1 _ hS1 => ?_)
  refine W_size (fun hsz => ?_)
  obtain ⟨r1, r2, r3⟩ := rep_put (σ' := sI σ b (wr i).toNat (o_nz x)) hR hS hlt rfl (fun _ q => ent_sI q) (sv_sI hR.2.1 _ _ (cn_wl (cn_i _)) (Or.inr (cn_i _))) (by
    rw [ent_k3 (show gK (sI σ b (wr i).toNat (o_nz x)) b = 3 from k0)]
    first | unfold o_nb | unfold o_nz | skip
    rw [updN_sI σ b i x (vp_nar .boolean)]
    show _ = _
    rw [gL_sI, l0]) hP1 hS1 hsz (cx_z hc) hn
  exact kk _ rfl H1 locs1 ls hl r1 r2 r3
theorem j_last (hc : Cx X E cc nL n0 h own) (hk : Sv E σ → gK σ b = 1 ∧ gL σ b = n) {i i' x : Int} {jn : Nat} (hi' : wr i = i') (hi : ix i' n) (hj : i'.toNat = jn) (hx : wl x = x) (hd : decode cc pc = .ok (.lastore, 1)) (kk : ∀ τ : st_S, τ = sI σ b jn (x) → J X E nL n0 cells slots Q τ (pc + 1) lv st) : J X E nL n0 cells slots Q σ pc lv (vL x :: vI i :: vR E b :: st) := by
  intro H locs ls hl hR hS hn
  obtain ⟨k0, l0⟩ := hk hR.2.1
  have hlt := sv_lt hR.2.1 k0 (by decide)
  have hw := wsE_at E hlt
  subst hj
  subst hi'
  rw [ent_k1 k0, l0] at hw
  refine va_last (cx_x hc) (cx_b hc) (cx_K hc) hR.1 (wsE_D (cx_E hc) σ) (vs_self hS) b 1 hw rfl (ix_in rfl hi) hd (fun H1 locs1 hP1 _ hS1 => ?_)
  refine W_size (fun hsz => ?_)
  obtain ⟨r1, r2, r3⟩ := rep_put (σ' := sI σ b (wr i).toNat (x)) hR hS hlt rfl (fun _ q => ent_sI q) (sv_sI hR.2.1 _ _ hx (Or.inl (Or.inl k0))) (by
    rw [ent_k1 (show gK (sI σ b (wr i).toNat (x)) b = 1 from k0)]
    first | unfold o_nb | unfold o_nz | skip
    rw [updL_sI σ b i x]
    show _ = _
    rw [gL_sI, l0]) hP1 hS1 hsz (cx_z hc) hn
  exact kk _ rfl H1 locs1 ls hl r1 r2 r3
/-- a reference into an array of references (kind 4: of Texts, class 9; kind 5: of Coasts, class 1) -/
theorem j_aast (hc : Cx X E cc nL n0 h own) (kd kc : Nat) (hkd : (kd = 4 ∧ kc = 9) ∨ (kd = 5 ∧ kc = 1)) (hk : Sv E σ → gK σ b = kd ∧ gL σ b = n) {i i' : Int} {jn v : Nat} (hv : Sv E σ → isO σ v kc) (hi' : wr i = i') (hi : ix i' n) (hj : i'.toNat = jn) (hd : decode cc pc = .ok (.aastore, 1)) (kk : ∀ τ : st_S, τ = sR σ b jn (some v) → J X E nL n0 cells slots Q τ (pc + 1) lv st) : J X E nL n0 cells slots Q σ pc lv (vR E v :: vI i :: vR E b :: st) := by
  intro H locs ls hl hR hS hn
  obtain ⟨k0, l0⟩ := hk hR.2.1
  subst hj
  subst hi'
  have hlt := sv_lt hR.2.1 k0 (by omega)
  have hw := wsE_at E hlt
  have ho := hv hR.2.1
  have hltv : v < gN σ := by
    rcases ho with q | q
    · exact sv_lt hR.2.1 q (by omega)
    · exact sv_lt hR.2.1 q (by omega)
  have hwv := wsE_at E hltv
  rw [ent_o (by omega) ho] at hwv
  have hfun : (fun j => (gR (sR σ b (wr i).toNat (some v)) b j).map (ea E)) = va_up (fun j => (gR σ b j).map (ea E)) (iI i).toNatClampNeg (some (ea E v)) := by
    funext j
    rw [gR_sR, va_up, ix_nat]
    by_cases hj : j = (wr i).toNat
    · simp [hj]
    · simp [hj]
  have hV' : Sv E (sR σ b (wr i).toNat (some v)) := sv_same hR.2.1 ⟨hR.2.1.1.1, hR.2.1.1.2⟩ (fun _ => rfl) (fun _ => rfl) rfl (fun c k j c' h0 h1 h2 => by
    rw [gR_sR, if_neg]
    rintro ⟨rfl, -⟩
    rw [k0] at h1
    omega)
  have fin : ∀ (H1 : Heap) (locs1 : List Loc) (e : va_E), ent E (sR σ b (wr i).toNat (some v)) b = e → va_P (eD E) clss ((wsE E σ).set b (ea E b, e)) H1 → va_S (eF E) H H1 locs1 → jW X H1 locs1 cells slots Q (F0 (xM X) (pc + 1) ls st) := by
    intro H1 locs1 e he hP1 hS1
    refine W_size (fun hsz => ?_)
    obtain ⟨r1, r2, r3⟩ := rep_put (σ' := sR σ b (wr i).toNat (some v)) hR hS hlt rfl (fun _ q => ent_sR q) hV' he hP1 hS1 hsz (cx_z hc) hn
    exact kk _ rfl H1 locs1 ls hl r1 r2 r3
  rcases hkd with ⟨rfl, rfl⟩ | ⟨rfl, rfl⟩
  · rw [ent_k4 k0, l0] at hw
    refine va_astq (cx_x hc) (cx_b hc) (cx_K hc) hR.1 (wsE_D (cx_E hc) σ) (vs_self hS) b 4 v 9 hw rfl hwv rfl (ix_in rfl hi) hd (fun H1 locs1 hP1 _ hS1 => ?_)
    refine fin H1 locs1 _ ?_ hP1 hS1
    rw [ent_k4 (show gK (sR σ b (wr i).toNat (some v)) b = 4 from k0), hfun, gL_sR, l0]
  · rw [ent_k5 k0, l0] at hw
    refine va_astq (cx_x hc) (cx_b hc) (cx_K hc) hR.1 (wsE_D (cx_E hc) σ) (vs_self hS) b 5 v 1 hw rfl hwv rfl (ix_in rfl hi) hd (fun H1 locs1 hP1 _ hS1 => ?_)
    refine fin H1 locs1 _ ?_ hP1 hS1
    rw [ent_k5 (show gK (sR σ b (wr i).toNat (some v)) b = 5 from k0), hfun, gL_sR, l0]
end AA
/-! contracts -/
def rmm (h mc ms : Nat) : Room := { frames := 2 * h, cells := mc, slots := ms, locals := 64 * h }
def jPre (E : ev_E) (σ : st_S) (U : State) : Prop := Rep E σ U.heap ∧ va_K (eD E) clss (eT E) U ∧ Str E U
def jB (E : ev_E) (n : Nat) (u : st_S) (t : State) : Prop := Rep E u t.heap ∧ gN u = n
def qI (E : ev_E) (n : Nat) (Qp : Int → st_S → Prop) : Array Value → State → Outcome → State → Prop := va_Qi (S := st_S) (fun r u => ∃ x : Int, r = iI x ∧ wr x = x ∧ Qp x u) (jB E n) (eF E)
def qL (E : ev_E) (n : Nat) (Qp : Int → st_S → Prop) : Array Value → State → Outcome → State → Prop := va_Ql (S := st_S) (fun r u => ∃ x : Int, r = jI x ∧ wl x = x ∧ Qp x u) (jB E n) (eF E)
def qV (E : ev_E) (n : Nat) (Qp : st_S → Prop) : Array Value → State → Outcome → State → Prop := va_Qv (S := st_S) Qp (jB E n) (eF E)
def qR (E : ev_E) (n : Nat) (Qp : Nat → st_S → Prop) : Array Value → State → Outcome → State → Prop := va_Qr (S := st_S × Nat) (fun u => Qp u.2 u.1) (fun u a t => a = ea E u.2 ∧ jB E n u.1 t) (eF E)
/-- a method's contract: from a store, with arguments, it ends with an outcome; n cells are there then, mc of them new, with ms places -/
def cM (l : Launch) (y : MethodName) (cc : ByteArray) (nL : Nat) (ret : Option FieldType) (E : ev_E) (h mc ms : Nat) (av : List Value) (σ : st_S) (Qc : Array Value → State → Outcome → State → Prop) : Prop :=
  Met l y (Cond.code y cc nL ret :: Tb) (rmm h mc ms) (va_Pc av (jPre E σ)) Qc mc ms (eF E)
theorem str_moved {E : ev_E} {s U : State} {H : Heap} {locs : List Loc} (h : Str E s) (hS : va_S (eF E) s.heap H locs) (hU : U.heap = H) (hW : s.WarmedH U.vm) : Str E U := by
  refine ⟨?_, fun k q hq => (h.2.1 k q hq).warm hW, ?_, ?_, ?_⟩
  · rw [hU]
    exact (h.1.moved hW.alike).kept (fun a ha hA => hS.2.1 a ha hA)
  · rw [hU]
    exact (h.2.2.1.moved hW.alike).kept (fun a ha hA => hS.2.1 a ha hA)
  · rw [hU]
    exact (h.2.2.2.1.moved hW.alike).kept (fun a ha hA => hS.2.1 a ha hA)
  · obtain ⟨e1, e2, e3, e4⟩ := h.2.2.2.2
    exact ⟨e1.moved hW.alike, e2.moved hW.alike, e3.warmC hW, fun a i x g hw => (e4 a i x g hw).warmM hW⟩
theorem jPre_blind {E : ev_E} {σ : st_S} {av : List Value} : FrameBlind (va_Pc av (jPre E σ)) := by
  intro a U g mk q
  obtain ⟨q0, q1, q2, q3⟩ := q
  exact ⟨q0, q1, va_K.moved (u := U) (U := U.calling g mk a) (Vm.Alike.refl U.vm) q2, ⟨q3.1.moved (u := U) (U := U.calling g mk a) (Vm.Alike.refl U.vm), fun k z hz => (q3.2.1 k z hz).same (u := U) (U := U.calling g mk a) rfl, q3.2.2.1.moved (u := U) (U := U.calling g mk a) (Vm.Alike.refl U.vm), q3.2.2.2.1.moved (u := U) (U := U.calling g mk a) (Vm.Alike.refl U.vm), q3.2.2.2.2.1.moved (u := U) (U := U.calling g mk a) (Vm.Alike.refl U.vm), q3.2.2.2.2.2.1.moved (u := U) (U := U.calling g mk a) (Vm.Alike.refl U.vm), q3.2.2.2.2.2.2.1.same rfl (u := U) (U := U.calling g mk a) rfl, fun b i x h hw => (q3.2.2.2.2.2.2.2 b i x h hw).same rfl (u := U) (U := U.calling g mk a) rfl⟩⟩
theorem jPre_at {X : jj_X} {E : ev_E} {cc : ByteArray} {nL n0 h : Nat} {own : String} {σ : st_S} {H : Heap} {locs : List Loc} (hc : Cx X E cc nL n0 h own) (hR : Rep E σ H) (hS : va_S (eF E) (xS X).heap H locs) (U : State) (hU : U.heap = H) (hW : (xS X).WarmedH U.vm) : jPre E σ U :=
  ⟨by rw [hU]; exact hR, va_K.moved hW.alike (cx_K hc), str_moved (cx_s hc) hS hU hW⟩
/-- from a method's entry to its first instruction -/
theorem cM_of {l : Launch} {y : MethodName} {cc : ByteArray} {nL : Nat} {ret : Option FieldType} {E : ev_E} {h mc ms : Nat} {av : List Value} {σ : st_S} {Qc : Array Value → State → Outcome → State → Prop} {lv : List (Nat × Value)} (hy : plainName y.cls = true) (hE : Eok E) (hln : (lg_sl av).length ≤ nL) (hlv : lv_args 0 av = lv)
    (k : ∀ X : jj_X, X.2.1 = l → Cx X E cc nL (gN σ) h y.cls → (xR X).cells = mc → (xR X).slots = ms → (xT X).sig.returnType = ret → (xT X).name = y.name → xA X = av.toArray → J X E nL (gN σ) 0 0 (MQ (xB X) Qc (xA X) (xS X) mc ms (eF E)) σ 0 lv []) : cM l y cc nL ret E h mc ms av σ Qc := by
  refine Met.ofW (cc := cc) (maxL := nL) (ret := ret) hy rfl ?_
  intro p e s m args below meth c s₁ B hml hv
  obtain ⟨rfl, hR, hK, hStr⟩ := hv
  have hts := atoms_spec (ws := Cond.code y cc nL ret :: Tb) B.pre
  have hown : s.vm.findClass y.cls = some m.cls := findClass_of_methodNamed B.named
  have hnm : meth.name = y.name := (name_of_methodNamed B.named B.method).1
  have hl := lv_entry av (n := nL) hln
  rw [lg_entry_eq]
  generalize (lg_sl av ++ List.replicate (nL - (lg_sl av).length) Slot.unset).toArray = ls at hl ⊢
  rw [hlv] at hl
  have kk := k (p, l, e, (headSpec (Cond.code y cc nL ret :: Tb) (rmm h mc ms)).room, s, m, av.toArray, below, meth, c) rfl ⟨B.exec, B.bytes, hml, hown, fun w hw => hts w (List.mem_cons_of_mem _ hw), B.notSynchronized, hK, hR.2.2, hE, Nat.le_refl _, Nat.le_refl _, hStr⟩ rfl rfl B.returns hnm rfl
  exact kk s.heap [] ls hl hR va_S.rf rfl
section RR
variable {X : jj_X} {E : ev_E} {cc : ByteArray} {nL n0 h cells slots pc : Nat} {own : String} {Q : State → Prop} {σ : st_S} {lv lv' : List (Nat × Value)} {st : List Value} {b idx n : Nat}
theorem j_iret (hc : Cx X E cc nL n0 h own) (hr : (xT X).sig.returnType = some .int) {Qp : Int → st_S → Prop} {x : Int} (hcx : wr x = x) (hq : Qp x σ) (hd : decode cc pc = .ok (.ireturn, 1)) : J X E nL n0 cells slots (MQ (xB X) (qI E (n0 + cells) Qp) (xA X) (xS X) cells slots (eF E)) σ pc lv [vI x] :=
  fun H locs ls hl hR hS hn => W.iret (cx_x hc) (cx_b hc) hr (fun t ht hW => ⟨⟨iI x, σ, rfl, ⟨x, rfl, hcx, hq⟩, by rw [jB, ht]; exact ⟨hR, hn⟩⟩, hS.F ht⟩) hS.2.2 hd (cx_lk hc)
theorem j_zret (hc : Cx X E cc nL n0 h own) {ty : FieldType} (hr : (xT X).sig.returnType = some ty) {Qp : Int → st_S → Prop} {x : Int} (hx : narrow ty (.int (iI x)) = .int (iI x)) (hcx : wr x = x) (hq : Qp x σ) (hd : decode cc pc = .ok (.ireturn, 1)) : J X E nL n0 cells slots (MQ (xB X) (qI E (n0 + cells) Qp) (xA X) (xS X) cells slots (eF E)) σ pc lv [vI x] :=
  fun H locs ls hl hR hS hn => W.zret (cx_x hc) (cx_b hc) hr hx (fun t ht hW => ⟨⟨iI x, σ, rfl, ⟨x, rfl, hcx, hq⟩, by rw [jB, ht]; exact ⟨hR, hn⟩⟩, hS.F ht⟩) hS.2.2 hd (cx_lk hc)
theorem nar_bool {x : Int} (h : x = 0 ∨ x = 1) : narrow .boolean (.int (iI x)) = .int (iI x) := by rcases h with rfl | rfl <;> rfl
theorem j_lret (hc : Cx X E cc nL n0 h own) (hr : (xT X).sig.returnType = some .long) {Qp : Int → st_S → Prop} {x : Int} (hcx : wl x = x) (hq : Qp x σ) (hd : decode cc pc = .ok (.lreturn, 1)) : J X E nL n0 cells slots (MQ (xB X) (qL E (n0 + cells) Qp) (xA X) (xS X) cells slots (eF E)) σ pc lv [vL x] :=
  fun H locs ls hl hR hS hn => W.lret (cx_x hc) (cx_b hc) hr (fun t ht hW => ⟨⟨jI x, σ, rfl, ⟨x, rfl, hcx, hq⟩, by rw [jB, ht]; exact ⟨hR, hn⟩⟩, hS.F ht⟩) hS.2.2 hd (cx_lk hc)
theorem j_vret (hc : Cx X E cc nL n0 h own) (hr : (xT X).sig.returnType = none) {Qp : st_S → Prop} (hq : Qp σ) (hd : decode cc pc = .ok (.return_, 1)) : J X E nL n0 cells slots (MQ (xB X) (qV E (n0 + cells) Qp) (xA X) (xS X) cells slots (eF E)) σ pc lv [] :=
  fun H locs ls hl hR hS hn => W.vret (cx_x hc) (cx_b hc) hr (fun t ht hW => ⟨⟨σ, rfl, hq, by rw [jB, ht]; exact ⟨hR, hn⟩⟩, hS.F ht⟩) hS.2.2 hd (cx_lk hc)
theorem j_aret (hc : Cx X E cc nL n0 h own) {rt : FieldType} (hr : (xT X).sig.returnType = some rt) (hrt : (∃ n, rt = .object n) ∨ ∃ t, rt = .array t) {Qp : Nat → st_S → Prop} {x : Nat} (hq : Qp x σ) (hd : decode cc pc = .ok (.areturn, 1)) : J X E nL n0 cells slots (MQ (xB X) (qR E (n0 + cells) Qp) (xA X) (xS X) cells slots (eF E)) σ pc lv [vR E x] :=
  fun H locs ls hl hR hS hn => W.aret (cx_x hc) (cx_b hc) hr hrt (Or.inr ⟨_, rfl⟩) (fun t ht hW => ⟨⟨(σ, x), ea E x, rfl, hq, rfl, by rw [jB, ht]; exact ⟨hR, hn⟩⟩, hS.F ht⟩) hS.2.2 hd (cx_lk hc)
/-- a method as an instruction of 'own' names it -/
def ML (own : String) (idx : Nat) (y : MethodName) (bytes : ByteArray) (maxL : Nat) (ret : Option FieldType) (np : Nat) : Prop :=
  Cond.methodLink own idx y ∈ Tb ∧ Cond.initialized y.cls ∈ Tb ∧ Cond.code y bytes maxL ret ∈ Tb ∧ (y.cls ≠ "java/lang/invoke/MethodHandle" ∧ y.cls ≠ "java/lang/invoke/VarHandle" ∧ (parseMethodDescriptor y.desc).map (fun d => d.parameters.length) = some np)
theorem ml_good {y : MethodName} {bytes : ByteArray} {maxL : Nat} {ret : Option FieldType} (h : Cond.code y bytes maxL ret ∈ Tb) : GoodIn Tb (Cond.code y bytes maxL ret :: Tb) := tb_good (fun w hw => (List.mem_cons.mp hw).elim (fun e => e ▸ h) id)
theorem ml_B {s : State} {args : Array Value} {R : Room} {own : String} {y : MethodName} {bytes : ByteArray} {maxL np h' mc ms : Nat} {ret : Option FieldType} (hts : ∀ w ∈ Tb, w.before args s = true) (hm : ML own idx y bytes maxL ret np) (hf : 2 * h' + 1 ≤ R.frames) (hw : 8 + (maxL + 11) + 64 * h' ≤ R.locals) : CallB R s args own idx y bytes maxL ret (Cond.code y bytes maxL ret :: Tb) (rmm h' mc ms) mc ms np :=
  callB_of np hts (ml_good hm.2.2.1) rfl rfl rfl (hts _ hm.2.1) (hts _ hm.1) hm.2.2.2 ⟨hf, hw⟩
/-- behind a call -/
theorem call_fin {σ' : st_S} {H1 : Heap} {locs1 : List Loc} {mc : Nat} (hc : Cx X E cc nL n0 h own) (hB : Rep E σ' H1 ∧ gN σ' = gN σ + mc) (hS1 : va_S (eF E) (xS X).heap H1 locs1) (hn : gN σ = n0 + cells) : Rep E σ' H1 ∧ va_S (eF E) (xS X).heap H1 locs1 ∧ gN σ' = n0 + (cells + mc) := ⟨hB.1, hS1, by omega⟩
theorem j_recv (hc : Cx X E cc nL n0 h own) {k : Nat} {H : Heap} (hk12 : k < 12) (hR : Rep E σ H) (ho : isO σ b k) : ∃ cellB : Cell, H[ea E b]? = some cellB ∧ cellB.vm.isStatics = false ∧ (xS X).vm.findClass (clC k) = some cellB.cls := by
  have hlt : b < gN σ := by
    rcases ho with q | q
    · exact sv_lt hR.2.1 q (by omega)
    · exact sv_lt hR.2.1 q (by omega)
  have hw := wsE_at E hlt
  rw [ent_o (by omega) ho] at hw
  exact va_recv (cx_K hc) hR.1 (cl_at k hk12) hw
theorem j_cvI (hc : Cx X E cc nL n0 h own) {k : Nat} (hk12 : k < 12) (hk : Sv E σ → isO σ b k) {y : MethodName} {bytes : ByteArray} {maxL np h' mc ms : Nat} {ret : Option FieldType} (hm : ML own idx y bytes maxL ret np) (hv : y.cls = clC k ∧ Cond.instanceMethod y ∈ Tb ∧ Cond.selects (clC k) y y ∈ Tb) {As : List Value} {Qp : Int → st_S → Prop} (hM : cM X.2.1 y bytes maxL ret E h' mc ms (vR E b :: As) σ (qI E (gN σ + mc) Qp)) (hnp : As.length = np) (hh : h' + 1 ≤ h) (hml : maxL ≤ 40) (hroom : cells + mc ≤ (xR X).cells ∧ slots + ms ≤ (xR X).slots) (hcat : (st.map fun v => v.category).sum ≤ 8) {st0 : List Value} (hst : st0 = As.reverse ++ vR E b :: st) (hd : decode cc pc = .ok (.invokevirtual idx, 3)) (kk : ∀ (r : Int) (τ : st_S), wr r = r → Qp r τ → J X E nL n0 (cells + mc) (slots + ms) Q τ (pc + 3) lv (vI r :: st)) : J X E nL n0 cells slots Q σ pc lv st0 := by
  intro H locs ls hl hR hS hn
  have hf := cx_f hc
  have hw := cx_w hc
  subst hst
  have ho := hk hR.2.1
  have cw : CallW (xR X) (xS X) (xA X) own (clC k) idx y bytes maxL ret (Cond.code y bytes maxL ret :: Tb) (rmm h' mc ms) mc ms np := ⟨ml_B (cx_t hc) hm (by omega) (by omega), cx_t hc _ hv.2.1, cx_t hc _ hv.2.2⟩
  exact va_calli (A1 := eF E) (va_runV (As := As) (rest := st) ⟨cx_x hc, cx_b hc, cx_l hc, cx_o hc, cx_t hc⟩ hM cw ⟨jPre_blind, j_recv hc hk12 hR ho, fun U hU hW => ⟨rfl, jPre_at hc hR hS U hU hW⟩⟩ rfl hnp hl.1 rfl (lv_room hcat) hd hroom) hS (fun _ _ q => q) (fun _ q => q) (fun r0 u t H1 locs1 ht hvm hw hB hz1 hk1 hS1 => by
    obtain ⟨r, rfl, hcr, hw⟩ := hw
    obtain ⟨b1, b2⟩ := hB
    rw [ht] at b1
    obtain ⟨r1, r2, r3⟩ := call_fin hc ⟨b1, b2⟩ hS1 hn
    exact kk r u hcr hw H1 locs1 ls hl r1 r2 r3)
theorem j_csI (hc : Cx X E cc nL n0 h own) {y : MethodName} {bytes : ByteArray} {maxL np h' mc ms : Nat} {ret : Option FieldType} (hm : ML own idx y bytes maxL ret np) (hv : Cond.static y ∈ Tb) {As : List Value} {Qp : Int → st_S → Prop} (hM : cM X.2.1 y bytes maxL ret E h' mc ms As σ (qI E (gN σ + mc) Qp)) (hnp : As.length = np) (hh : h' + 1 ≤ h) (hml : maxL ≤ 40) (hroom : cells + mc ≤ (xR X).cells ∧ slots + ms ≤ (xR X).slots) (hcat : (st.map fun v => v.category).sum ≤ 8) {st0 : List Value} (hst : st0 = As.reverse ++ st) (hd : decode cc pc = .ok (.invokestatic idx, 3)) (kk : ∀ (r : Int) (τ : st_S), wr r = r → Qp r τ → J X E nL n0 (cells + mc) (slots + ms) Q τ (pc + 3) lv (vI r :: st)) : J X E nL n0 cells slots Q σ pc lv st0 := by
  intro H locs ls hl hR hS hn
  have hf := cx_f hc
  have hw := cx_w hc
  subst hst
  exact va_calli (A1 := eF E) (va_runS (As := As) (rest := st) ⟨cx_x hc, cx_b hc, cx_l hc, cx_o hc, cx_t hc⟩ hM ⟨ml_B (cx_t hc) hm (by omega) (by omega), cx_t hc _ hv⟩ ⟨jPre_blind, fun U hU hW => ⟨rfl, jPre_at hc hR hS U hU hW⟩⟩ rfl hnp hl.1 rfl (lv_room hcat) hd hroom) hS (fun _ _ q => q) (fun _ q => q) (fun r0 u t H1 locs1 ht hvm hw hB hz1 hk1 hS1 => by
    obtain ⟨r, rfl, hcr, hw⟩ := hw
    obtain ⟨b1, b2⟩ := hB
    rw [ht] at b1
    obtain ⟨r1, r2, r3⟩ := call_fin hc ⟨b1, b2⟩ hS1 hn
    exact kk r u hcr hw H1 locs1 ls hl r1 r2 r3)
theorem j_cvL (hc : Cx X E cc nL n0 h own) {k : Nat} (hk12 : k < 12) (hk : Sv E σ → isO σ b k) {y : MethodName} {bytes : ByteArray} {maxL np h' mc ms : Nat} {ret : Option FieldType} (hm : ML own idx y bytes maxL ret np) (hv : y.cls = clC k ∧ Cond.instanceMethod y ∈ Tb ∧ Cond.selects (clC k) y y ∈ Tb) {As : List Value} {Qp : Int → st_S → Prop} (hM : cM X.2.1 y bytes maxL ret E h' mc ms (vR E b :: As) σ (qL E (gN σ + mc) Qp)) (hnp : As.length = np) (hh : h' + 1 ≤ h) (hml : maxL ≤ 40) (hroom : cells + mc ≤ (xR X).cells ∧ slots + ms ≤ (xR X).slots) (hcat : (st.map fun v => v.category).sum ≤ 8) {st0 : List Value} (hst : st0 = As.reverse ++ vR E b :: st) (hd : decode cc pc = .ok (.invokevirtual idx, 3)) (kk : ∀ (r : Int) (τ : st_S), wl r = r → Qp r τ → J X E nL n0 (cells + mc) (slots + ms) Q τ (pc + 3) lv (vL r :: st)) : J X E nL n0 cells slots Q σ pc lv st0 := by
  intro H locs ls hl hR hS hn
  have hf := cx_f hc
  have hw := cx_w hc
  subst hst
  have ho := hk hR.2.1
  have cw : CallW (xR X) (xS X) (xA X) own (clC k) idx y bytes maxL ret (Cond.code y bytes maxL ret :: Tb) (rmm h' mc ms) mc ms np := ⟨ml_B (cx_t hc) hm (by omega) (by omega), cx_t hc _ hv.2.1, cx_t hc _ hv.2.2⟩
  exact va_calll (A1 := eF E) (va_runV (As := As) (rest := st) ⟨cx_x hc, cx_b hc, cx_l hc, cx_o hc, cx_t hc⟩ hM cw ⟨jPre_blind, j_recv hc hk12 hR ho, fun U hU hW => ⟨rfl, jPre_at hc hR hS U hU hW⟩⟩ rfl hnp hl.1 rfl (lv_room hcat) hd hroom) hS (fun _ _ q => q) (fun _ q => q) (fun r0 u t H1 locs1 ht hvm hw hB hz1 hk1 hS1 => by
    obtain ⟨r, rfl, hcr, hw⟩ := hw
    obtain ⟨b1, b2⟩ := hB
    rw [ht] at b1
    obtain ⟨r1, r2, r3⟩ := call_fin hc ⟨b1, b2⟩ hS1 hn
    exact kk r u hcr hw H1 locs1 ls hl r1 r2 r3)
theorem j_csL (hc : Cx X E cc nL n0 h own) {y : MethodName} {bytes : ByteArray} {maxL np h' mc ms : Nat} {ret : Option FieldType} (hm : ML own idx y bytes maxL ret np) (hv : Cond.static y ∈ Tb) {As : List Value} {Qp : Int → st_S → Prop} (hM : cM X.2.1 y bytes maxL ret E h' mc ms As σ (qL E (gN σ + mc) Qp)) (hnp : As.length = np) (hh : h' + 1 ≤ h) (hml : maxL ≤ 40) (hroom : cells + mc ≤ (xR X).cells ∧ slots + ms ≤ (xR X).slots) (hcat : (st.map fun v => v.category).sum ≤ 8) {st0 : List Value} (hst : st0 = As.reverse ++ st) (hd : decode cc pc = .ok (.invokestatic idx, 3)) (kk : ∀ (r : Int) (τ : st_S), wl r = r → Qp r τ → J X E nL n0 (cells + mc) (slots + ms) Q τ (pc + 3) lv (vL r :: st)) : J X E nL n0 cells slots Q σ pc lv st0 := by
  intro H locs ls hl hR hS hn
  have hf := cx_f hc
  have hw := cx_w hc
  subst hst
  exact va_calll (A1 := eF E) (va_runS (As := As) (rest := st) ⟨cx_x hc, cx_b hc, cx_l hc, cx_o hc, cx_t hc⟩ hM ⟨ml_B (cx_t hc) hm (by omega) (by omega), cx_t hc _ hv⟩ ⟨jPre_blind, fun U hU hW => ⟨rfl, jPre_at hc hR hS U hU hW⟩⟩ rfl hnp hl.1 rfl (lv_room hcat) hd hroom) hS (fun _ _ q => q) (fun _ q => q) (fun r0 u t H1 locs1 ht hvm hw hB hz1 hk1 hS1 => by
    obtain ⟨r, rfl, hcr, hw⟩ := hw
    obtain ⟨b1, b2⟩ := hB
    rw [ht] at b1
    obtain ⟨r1, r2, r3⟩ := call_fin hc ⟨b1, b2⟩ hS1 hn
    exact kk r u hcr hw H1 locs1 ls hl r1 r2 r3)
theorem j_cvV (hc : Cx X E cc nL n0 h own) {k : Nat} (hk12 : k < 12) (hk : Sv E σ → isO σ b k) {y : MethodName} {bytes : ByteArray} {maxL np h' mc ms : Nat} {ret : Option FieldType} (hm : ML own idx y bytes maxL ret np) (hv : y.cls = clC k ∧ Cond.instanceMethod y ∈ Tb ∧ Cond.selects (clC k) y y ∈ Tb) {As : List Value} {Qp : st_S → Prop} (hM : cM X.2.1 y bytes maxL ret E h' mc ms (vR E b :: As) σ (qV E (gN σ + mc) Qp)) (hnp : As.length = np) (hh : h' + 1 ≤ h) (hml : maxL ≤ 40) (hroom : cells + mc ≤ (xR X).cells ∧ slots + ms ≤ (xR X).slots) (hcat : (st.map fun v => v.category).sum ≤ 8) {st0 : List Value} (hst : st0 = As.reverse ++ vR E b :: st) (hd : decode cc pc = .ok (.invokevirtual idx, 3)) (kk : ∀ (τ : st_S), Qp τ → J X E nL n0 (cells + mc) (slots + ms) Q τ (pc + 3) lv (st)) : J X E nL n0 cells slots Q σ pc lv st0 := by
  intro H locs ls hl hR hS hn
  have hf := cx_f hc
  have hw := cx_w hc
  subst hst
  have ho := hk hR.2.1
  have cw : CallW (xR X) (xS X) (xA X) own (clC k) idx y bytes maxL ret (Cond.code y bytes maxL ret :: Tb) (rmm h' mc ms) mc ms np := ⟨ml_B (cx_t hc) hm (by omega) (by omega), cx_t hc _ hv.2.1, cx_t hc _ hv.2.2⟩
  exact va_callv (A1 := eF E) (va_runV (As := As) (rest := st) ⟨cx_x hc, cx_b hc, cx_l hc, cx_o hc, cx_t hc⟩ hM cw ⟨jPre_blind, j_recv hc hk12 hR ho, fun U hU hW => ⟨rfl, jPre_at hc hR hS U hU hW⟩⟩ rfl hnp hl.1 rfl (lv_room hcat) hd hroom) hS (fun _ _ q => q) (fun _ q => q) (fun u t H1 locs1 ht hvm hw hB hz1 hk1 hS1 => by
    obtain ⟨b1, b2⟩ := hB
    rw [ht] at b1
    obtain ⟨r1, r2, r3⟩ := call_fin hc ⟨b1, b2⟩ hS1 hn
    exact kk u hw H1 locs1 ls hl r1 r2 r3)
theorem j_csV (hc : Cx X E cc nL n0 h own) {y : MethodName} {bytes : ByteArray} {maxL np h' mc ms : Nat} {ret : Option FieldType} (hm : ML own idx y bytes maxL ret np) (hv : Cond.static y ∈ Tb) {As : List Value} {Qp : st_S → Prop} (hM : cM X.2.1 y bytes maxL ret E h' mc ms As σ (qV E (gN σ + mc) Qp)) (hnp : As.length = np) (hh : h' + 1 ≤ h) (hml : maxL ≤ 40) (hroom : cells + mc ≤ (xR X).cells ∧ slots + ms ≤ (xR X).slots) (hcat : (st.map fun v => v.category).sum ≤ 8) {st0 : List Value} (hst : st0 = As.reverse ++ st) (hd : decode cc pc = .ok (.invokestatic idx, 3)) (kk : ∀ (τ : st_S), Qp τ → J X E nL n0 (cells + mc) (slots + ms) Q τ (pc + 3) lv (st)) : J X E nL n0 cells slots Q σ pc lv st0 := by
  intro H locs ls hl hR hS hn
  have hf := cx_f hc
  have hw := cx_w hc
  subst hst
  exact va_callv (A1 := eF E) (va_runS (As := As) (rest := st) ⟨cx_x hc, cx_b hc, cx_l hc, cx_o hc, cx_t hc⟩ hM ⟨ml_B (cx_t hc) hm (by omega) (by omega), cx_t hc _ hv⟩ ⟨jPre_blind, fun U hU hW => ⟨rfl, jPre_at hc hR hS U hU hW⟩⟩ rfl hnp hl.1 rfl (lv_room hcat) hd hroom) hS (fun _ _ q => q) (fun _ q => q) (fun u t H1 locs1 ht hvm hw hB hz1 hk1 hS1 => by
    obtain ⟨b1, b2⟩ := hB
    rw [ht] at b1
    obtain ⟨r1, r2, r3⟩ := call_fin hc ⟨b1, b2⟩ hS1 hn
    exact kk u hw H1 locs1 ls hl r1 r2 r3)
theorem j_vI (hc : Cx X E cc nL n0 h own) {k : Nat} (hk12 : k < 12) (hk : Sv E σ → isO σ b k) {y : MethodName} {bytes : ByteArray} {maxL np h' : Nat} {ret : Option FieldType} (hm : ML own idx y bytes maxL ret np) (hv : y.cls = clC k ∧ Cond.instanceMethod y ∈ Tb ∧ Cond.selects (clC k) y y ∈ Tb) {As : List Value} {Qp : Int → st_S → Prop} (hM : cM X.2.1 y bytes maxL ret E h' 0 0 (vR E b :: As) σ (qI E (gN σ + 0) Qp)) (hnp : As.length = np) (hh : h' + 1 ≤ h) (hml : maxL ≤ 40) (hroom : cells ≤ (xR X).cells ∧ slots ≤ (xR X).slots) (hcat : (st.map fun v => v.category).sum ≤ 8) {st0 : List Value} (hst : st0 = As.reverse ++ vR E b :: st) (hd : decode cc pc = .ok (.invokevirtual idx, 3)) (kk : ∀ (r : Int) (τ : st_S), wr r = r → Qp r τ → J X E nL n0 cells slots Q τ (pc + 3) lv (vI r :: st)) : J X E nL n0 cells slots Q σ pc lv st0 :=
  j_cvI (mc := 0) (ms := 0) hc hk12 hk hm hv hM hnp hh hml hroom hcat hst hd kk
theorem j_sI (hc : Cx X E cc nL n0 h own) {y : MethodName} {bytes : ByteArray} {maxL np h' : Nat} {ret : Option FieldType} (hm : ML own idx y bytes maxL ret np) (hv : Cond.static y ∈ Tb) {As : List Value} {Qp : Int → st_S → Prop} (hM : cM X.2.1 y bytes maxL ret E h' 0 0 As σ (qI E (gN σ + 0) Qp)) (hnp : As.length = np) (hh : h' + 1 ≤ h) (hml : maxL ≤ 40) (hroom : cells ≤ (xR X).cells ∧ slots ≤ (xR X).slots) (hcat : (st.map fun v => v.category).sum ≤ 8) {st0 : List Value} (hst : st0 = As.reverse ++ st) (hd : decode cc pc = .ok (.invokestatic idx, 3)) (kk : ∀ (r : Int) (τ : st_S), wr r = r → Qp r τ → J X E nL n0 cells slots Q τ (pc + 3) lv (vI r :: st)) : J X E nL n0 cells slots Q σ pc lv st0 :=
  j_csI (mc := 0) (ms := 0) hc hm hv hM hnp hh hml hroom hcat hst hd kk
theorem j_vL (hc : Cx X E cc nL n0 h own) {k : Nat} (hk12 : k < 12) (hk : Sv E σ → isO σ b k) {y : MethodName} {bytes : ByteArray} {maxL np h' : Nat} {ret : Option FieldType} (hm : ML own idx y bytes maxL ret np) (hv : y.cls = clC k ∧ Cond.instanceMethod y ∈ Tb ∧ Cond.selects (clC k) y y ∈ Tb) {As : List Value} {Qp : Int → st_S → Prop} (hM : cM X.2.1 y bytes maxL ret E h' 0 0 (vR E b :: As) σ (qL E (gN σ + 0) Qp)) (hnp : As.length = np) (hh : h' + 1 ≤ h) (hml : maxL ≤ 40) (hroom : cells ≤ (xR X).cells ∧ slots ≤ (xR X).slots) (hcat : (st.map fun v => v.category).sum ≤ 8) {st0 : List Value} (hst : st0 = As.reverse ++ vR E b :: st) (hd : decode cc pc = .ok (.invokevirtual idx, 3)) (kk : ∀ (r : Int) (τ : st_S), wl r = r → Qp r τ → J X E nL n0 cells slots Q τ (pc + 3) lv (vL r :: st)) : J X E nL n0 cells slots Q σ pc lv st0 :=
  j_cvL (mc := 0) (ms := 0) hc hk12 hk hm hv hM hnp hh hml hroom hcat hst hd kk
theorem j_sL (hc : Cx X E cc nL n0 h own) {y : MethodName} {bytes : ByteArray} {maxL np h' : Nat} {ret : Option FieldType} (hm : ML own idx y bytes maxL ret np) (hv : Cond.static y ∈ Tb) {As : List Value} {Qp : Int → st_S → Prop} (hM : cM X.2.1 y bytes maxL ret E h' 0 0 As σ (qL E (gN σ + 0) Qp)) (hnp : As.length = np) (hh : h' + 1 ≤ h) (hml : maxL ≤ 40) (hroom : cells ≤ (xR X).cells ∧ slots ≤ (xR X).slots) (hcat : (st.map fun v => v.category).sum ≤ 8) {st0 : List Value} (hst : st0 = As.reverse ++ st) (hd : decode cc pc = .ok (.invokestatic idx, 3)) (kk : ∀ (r : Int) (τ : st_S), wl r = r → Qp r τ → J X E nL n0 cells slots Q τ (pc + 3) lv (vL r :: st)) : J X E nL n0 cells slots Q σ pc lv st0 :=
  j_csL (mc := 0) (ms := 0) hc hm hv hM hnp hh hml hroom hcat hst hd kk
theorem j_vV (hc : Cx X E cc nL n0 h own) {k : Nat} (hk12 : k < 12) (hk : Sv E σ → isO σ b k) {y : MethodName} {bytes : ByteArray} {maxL np h' : Nat} {ret : Option FieldType} (hm : ML own idx y bytes maxL ret np) (hv : y.cls = clC k ∧ Cond.instanceMethod y ∈ Tb ∧ Cond.selects (clC k) y y ∈ Tb) {As : List Value} {Qp : st_S → Prop} (hM : cM X.2.1 y bytes maxL ret E h' 0 0 (vR E b :: As) σ (qV E (gN σ + 0) Qp)) (hnp : As.length = np) (hh : h' + 1 ≤ h) (hml : maxL ≤ 40) (hroom : cells ≤ (xR X).cells ∧ slots ≤ (xR X).slots) (hcat : (st.map fun v => v.category).sum ≤ 8) {st0 : List Value} (hst : st0 = As.reverse ++ vR E b :: st) (hd : decode cc pc = .ok (.invokevirtual idx, 3)) (kk : ∀ (τ : st_S), Qp τ → J X E nL n0 cells slots Q τ (pc + 3) lv (st)) : J X E nL n0 cells slots Q σ pc lv st0 :=
  j_cvV (mc := 0) (ms := 0) hc hk12 hk hm hv hM hnp hh hml hroom hcat hst hd kk
theorem j_sV (hc : Cx X E cc nL n0 h own) {y : MethodName} {bytes : ByteArray} {maxL np h' : Nat} {ret : Option FieldType} (hm : ML own idx y bytes maxL ret np) (hv : Cond.static y ∈ Tb) {As : List Value} {Qp : st_S → Prop} (hM : cM X.2.1 y bytes maxL ret E h' 0 0 As σ (qV E (gN σ + 0) Qp)) (hnp : As.length = np) (hh : h' + 1 ≤ h) (hml : maxL ≤ 40) (hroom : cells ≤ (xR X).cells ∧ slots ≤ (xR X).slots) (hcat : (st.map fun v => v.category).sum ≤ 8) {st0 : List Value} (hst : st0 = As.reverse ++ st) (hd : decode cc pc = .ok (.invokestatic idx, 3)) (kk : ∀ (τ : st_S), Qp τ → J X E nL n0 cells slots Q τ (pc + 3) lv (st)) : J X E nL n0 cells slots Q σ pc lv st0 :=
  j_csV (mc := 0) (ms := 0) hc hm hv hM hnp hh hml hroom hcat hst hd kk
end RR
