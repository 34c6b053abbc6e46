theorem kI {σ τ : st_S} {t k : Nat} (e : (∃ c j v, τ = sI σ c j v) ∨ ∃ c j v, τ = sR σ c j v) (h : gK σ t = k) : gK τ t = k := by
  rcases e with ⟨c, j, v, rfl⟩ | ⟨c, j, v, rfl⟩
  · exact h
  · exact h
/-- a part of a row is copied into another -/
def sC (σ : st_S) (a : Nat) (sp : Int) (b : Nat) (dp n : Int) : st_S := sF σ b (fun j => if dp.toNat ≤ j ∧ j < dp.toNat + n.toNat then gI σ a (sp.toNat + (j - dp.toNat)) else gI σ b j)
theorem kC {σ τ : st_S} {t k a b : Nat} {sp dp n : Int} (e : τ = sC σ a sp b dp n) (h : gK σ t = k) : gK τ t = k := by
  subst e
  exact h
def MM (own : String) (idx : Nat) (y : MethodName) (bytes : ByteArray) : Prop := Cond.methodLink own idx y ∈ Tb ∧ Cond.static y ∈ Tb ∧ Cond.initialized "java/lang/Math" ∈ Tb ∧ Cond.code y bytes 2 (some .int) ∈ Tb
def MC (own : String) (idx : Nat) : Prop := Cond.methodLink own idx arraycopyName ∈ Tb ∧ Cond.native arraycopyName ∈ Tb ∧ Cond.static arraycopyName ∈ Tb ∧ Cond.initialized "java/lang/System" ∈ Tb
theorem cn_max {a b : Int} (ha : wr a = a) (hb : wr b = b) : wr (o_max a b) = o_max a b := by unfold o_max; split <;> assumption
theorem cn_min {a b : Int} (ha : wr a = a) (hb : wr b = b) : wr (o_min a b) = o_min a b := by unfold o_min; split <;> assumption
section MO
variable {X : jj_X} {E : ev_E} {cc : ByteArray} {nL n0 h cells slots pc : Nat} {own : String} {Q : State → Prop} {σ : st_S} {lv lv' : List (Nat × Value)} {st : List Value} {b idx n : Nat}
theorem j_mmax (hc : Cx X E cc nL n0 h own) (hm : MM own idx Lib.Math.max.name Lib.Math.max.code) (hh : 1 ≤ h) {a b a' b' : Int} (ha : wr a = a') (hb : wr b = b') (hcat : (st.map fun v => v.category).sum ≤ 8) (hroom : cells ≤ (xR X).cells ∧ slots ≤ (xR X).slots) (hd : decode cc pc = .ok (.invokestatic idx, 3)) (kk : wr (o_max a' b') = o_max a' b' → J X E nL n0 cells slots Q σ (pc + 3) lv (vI (o_max a' b') :: st)) : J X E nL n0 cells slots Q σ pc lv (vI b :: vI a :: st) := by
  intro H locs ls hl hR hS hn
  have hf := cx_f hc
  have hw := cx_w hc
  have e : vI (o_max a' b') = .int (if iI a < iI b then iI b else iI a) := by
    subst ha hb
    unfold o_max vI
    by_cases q : wr a < wr b
    · rw [if_pos q, if_pos ((iI_lt a b).mpr q), iI_wr]
    · rw [if_neg q, if_neg (fun z => q ((iI_lt a b).mp z)), iI_wr]
  have k2 := kk (cn_max (by rw [← ha]; exact wr_wr _) (by rw [← hb]; exact wr_wr _)) H locs ls hl hR hS hn
  rw [e] at k2
  exact va_mmax (cx_x hc) (cx_b hc) ((cx_l hc).trans hl.1.symm) (cx_o hc) (cx_t hc _ hm.1) (cx_t hc _ hm.2.1) (cx_t hc _ hm.2.2.1) (cx_t hc _ hm.2.2.2) (by omega) (by omega) hroom.1 hroom.2 hd k2
theorem j_mmin (hc : Cx X E cc nL n0 h own) (hm : MM own idx Lib.Math.min.name Lib.Math.min.code) (hh : 1 ≤ h) {a b a' b' : Int} (ha : wr a = a') (hb : wr b = b') (hcat : (st.map fun v => v.category).sum ≤ 8) (hroom : cells ≤ (xR X).cells ∧ slots ≤ (xR X).slots) (hd : decode cc pc = .ok (.invokestatic idx, 3)) (kk : wr (o_min a' b') = o_min a' b' → J X E nL n0 cells slots Q σ (pc + 3) lv (vI (o_min a' b') :: st)) : J X E nL n0 cells slots Q σ pc lv (vI b :: vI a :: st) := by
  intro H locs ls hl hR hS hn
  have hf := cx_f hc
  have hw := cx_w hc
  have e : vI (o_min a' b') = .int (if iI b < iI a then iI b else iI a) := by
    subst ha hb
    unfold o_min vI
    by_cases q : wr b < wr a
    · rw [if_pos q, if_pos ((iI_lt b a).mpr q), iI_wr]
    · rw [if_neg q, if_neg (fun z => q ((iI_lt b a).mp z)), iI_wr]
  have k2 := kk (cn_min (by rw [← ha]; exact wr_wr _) (by rw [← hb]; exact wr_wr _)) H locs ls hl hR hS hn
  rw [e] at k2
  exact va_mmin (cx_x hc) (cx_b hc) ((cx_l hc).trans hl.1.symm) (cx_o hc) (cx_t hc _ hm.1) (cx_t hc _ hm.2.1) (cx_t hc _ hm.2.2.1) (cx_t hc _ hm.2.2.2) (by omega) (by omega) hroom.1 hroom.2 hd k2
/-- a copy within its rows -/
def cpOk (sp dp n : Int) (m1 m2 : Nat) : Prop := 0 ≤ sp ∧ 0 ≤ dp ∧ 0 ≤ n ∧ sp + n ≤ m1 ∧ dp + n ≤ m2
theorem nn_le {x : Int} (h : 0 ≤ wr x) : ¬ iI x < 0 := by
  rw [iI_lt0]
  omega
theorem j_copy (hc : Cx X E cc nL n0 h own) (hm : MC own idx) (hh : 1 ≤ h) {a b m1 m2 : Nat} (hk1 : Sv E σ → gK σ a = 0 ∧ gL σ a = m1) (hk2 : Sv E σ → gK σ b = 0 ∧ gL σ b = m2) {sp dp n sp' dp' n' : Int} (hsp : wr sp = sp') (hdp : wr dp = dp') (hn' : wr n = n') (hb : cpOk sp' dp' n' m1 m2) (hcat : (st.map fun v => v.category).sum ≤ 8) (hd : decode cc pc = .ok (.invokestatic idx, 3))
    (kk : ∀ τ : st_S, τ = sC σ a sp' b dp' n' → J X E nL n0 cells slots Q τ (pc + 3) lv st) : J X E nL n0 cells slots Q σ pc lv (vI n :: vI dp :: vR E b :: vI sp :: vR E a :: st) := by
  intro H locs ls hl hR hS hn
  have hf := cx_f hc
  have hw := cx_w hc
  obtain ⟨k1, l1⟩ := hk1 hR.2.1
  obtain ⟨k2, l2⟩ := hk2 hR.2.1
  subst hsp hdp hn'
  obtain ⟨b1, b2, b3, b4, b5⟩ := hb
  have hlt := sv_lt hR.2.1 k2 (by decide)
  have w1 := wsE_at E (sv_lt hR.2.1 k1 (by decide))
  have w2 := wsE_at E hlt
  rw [ent_k0 k1, l1] at w1
  rw [ent_k0 k2, l2] at w2
  have hnf : nativeFrameWords "java/lang/System" "arraycopy" 5 + 11 ≤ 50 := by decide +kernel
  refine va_copyi (ty := .int) (cx_x hc) (cx_b hc) ((cx_l hc).trans hl.1.symm) (cx_o hc) (cx_t hc _ hm.1) (cx_t hc _ hm.2.1) (cx_t hc _ hm.2.2.1) (cx_t hc _ hm.2.2.2) (cx_K hc) hR.1 (wsE_D (cx_E hc) σ) (vs_self hS) a b 0 0 w1 w2 rfl rfl rfl (nn_le b1) (nn_le b2) (nn_le b3) (by rw [ix_nat, ix_nat]; omega) (by rw [ix_nat, ix_nat]; omega) (fun _ _ => rfl) (by omega) (by omega) hd (fun H1 locs1 hP1 _ hS1 => ?_)
  refine W_size (fun hsz => ?_)
  have hcn : ∀ j, wr (if (wr dp).toNat ≤ j ∧ j < (wr dp).toNat + (wr n).toNat then gI σ a ((wr sp).toNat + (j - (wr dp).toNat)) else gI σ b j) = (if (wr dp).toNat ≤ j ∧ j < (wr dp).toNat + (wr n).toNat then gI σ a ((wr sp).toNat + (j - (wr dp).toNat)) else gI σ b j) := by
    intro j
    split
    · exact sv_cn hR.2.1 k1 (by decide) (by omega)
    · exact sv_cn hR.2.1 k2 (by decide) (by omega)
  obtain ⟨r1, r2, r3⟩ := rep_put (σ' := sC σ a (wr sp) b (wr dp) (wr n)) hR hS hlt rfl (fun _ q => ent_sF q) (sv_sF hR.2.1 _ (fun j => cn_wl (hcn j)) (fun j => Or.inr (hcn j))) (by
    rw [ent_k0 (show gK (sC σ a (wr sp) b (wr dp) (wr n)) b = 0 from k2), show gL (sC σ a (wr sp) b (wr dp) (wr n)) b = gL σ b from rfl, l2]
    congr 3
    congr 1
    funext j
    rw [sC, gI_sF, if_pos rfl, va_cpy, ix_nat, ix_nat, ix_nat]
    split <;> rfl) hP1 hS1 hsz (cx_z hc) hn
  exact kk _ rfl H1 locs1 ls hl r1 r2 r3
theorem j_ldcS (hc : Cx X E cc nL n0 h own) {k i : Nat} {tx : String} (hq : sOwn[k]? = some (own, i, tx)) (hd : decode cc pc = .ok (.ldc i, 2)) (kk : J X E nL n0 cells slots Q σ (pc + 2) lv (vS E k :: st)) : J X E nL n0 cells slots Q σ pc lv st :=
  fun H locs ls hl hR hS hn => va_ldcS (cx_x hc) (cx_b hc) (cx_o hc) ((cx_s hc).2.1 k _ hq) hd (kk H locs ls hl hR hS hn)
theorem j_aastO (hc : Cx X E cc nL n0 h own) (kd kc : Nat) (hkd : (kd = 4 ∧ kc = 9) ∨ (kd = 5 ∧ kc = 1)) (hk : Sv E σ → gK σ b = kd ∧ gL σ b = n) {o : Option Nat} (hv : ∀ t, o = some t → gK σ t = 16 + kc) {i i' : Int} {jn : Nat} (hi' : wr i = i') (hi : ix i' n) (hj : i'.toNat = jn) (hd : decode cc pc = .ok (.aastore, 1)) (kk : ∀ τ : st_S, τ = sR σ b jn o → J X E nL n0 cells slots Q τ (pc + 1) lv st) : J X E nL n0 cells slots Q σ pc lv (vO E o :: vI i :: vR E b :: st) := by
  cases o with
  | some v => exact j_aast hc kd kc hkd hk (v := v) (fun _ => Or.inl (hv v rfl)) hi' hi hj hd kk
  | none =>
    intro H locs ls hl hR hS hn
    obtain ⟨k0, l0⟩ := hk hR.2.1
    subst hj
    subst hi'
    have hlt := sv_lt hR.2.1 k0 (by omega)
    have hw := wsE_at E hlt
    have hfun : (fun j => (gR (sR σ b (wr i).toNat none) b j).map (ea E)) = va_up (fun j => (gR σ b j).map (ea E)) (iI i).toNatClampNeg none := by
      funext j
      rw [gR_sR, va_up, ix_nat]
      by_cases hj : j = (wr i).toNat
      · simp [hj]
      · simp [hj]
    have hV' : Sv E (sR σ b (wr i).toNat none) := sv_same hR.2.1 ⟨hR.2.1.1.1, hR.2.1.1.2⟩ (fun _ => rfl) (fun _ => rfl) rfl (fun c k j c' h0 h1 h2 => by
      rw [gR_sR, if_neg]
      rintro ⟨rfl, -⟩
      rw [k0] at h1
      omega)
    have fin : ∀ (H1 : Heap) (locs1 : List Loc) (e : va_E), ent E (sR σ b (wr i).toNat none) b = e → va_P (eD E) clss ((wsE E σ).set b (ea E b, e)) H1 → va_S (eF E) H H1 locs1 → jW X H1 locs1 cells slots Q (F0 (xM X) (pc + 1) ls st) := by
      intro H1 locs1 e he hP1 hS1
      refine W_size (fun hsz => ?_)
      obtain ⟨r1, r2, r3⟩ := rep_put (σ' := sR σ b (wr i).toNat none) hR hS hlt rfl (fun _ q => ent_sR q) hV' he hP1 hS1 hsz (cx_z hc) hn
      exact kk _ rfl H1 locs1 ls hl r1 r2 r3
    rcases hkd with ⟨rfl, rfl⟩ | ⟨rfl, rfl⟩
    · rw [ent_k4 k0, l0] at hw
      refine va_astqN (C := RX9) (cx_x hc) (cx_b hc) (cx_K hc) hR.1 (wsE_D (cx_E hc) σ) (vs_self hS) b 4 hw rfl (ix_in rfl hi) hd (fun H1 locs1 hP1 _ hS1 => ?_)
      refine fin H1 locs1 _ ?_ hP1 hS1
      rw [ent_k4 (show gK (sR σ b (wr i).toNat none) b = 4 from k0), hfun, gL_sR, l0]
    · rw [ent_k5 k0, l0] at hw
      refine va_astqN (C := RX1) (cx_x hc) (cx_b hc) (cx_K hc) hR.1 (wsE_D (cx_E hc) σ) (vs_self hS) b 5 hw rfl (ix_in rfl hi) hd (fun H1 locs1 hP1 _ hS1 => ?_)
      refine fin H1 locs1 _ ?_ hP1 hS1
      rw [ent_k5 (show gK (sR σ b (wr i).toNat none) b = 5 from k0), hfun, gL_sR, l0]
/-! text constants -/
def vV (E : ev_E) (k : Nat) : Value := .ref (eV E k)
def sLn (k : Nat) : Int := ((sLen.getD k 0 : Nat) : Int)
def sBy (k j : Nat) : Int := ((sByt.getD k []).getD j 0).toInt
/-- a field of a class of the JDK, as an instruction names it -/
def GL (own : String) (idx : Nat) (C n d : String) : Prop := Cond.fieldLink own idx C n d ∈ Tb
theorem j_sval (hc : Cx X E cc nL n0 h own) (hg : GL own idx "java/lang/String" "value" "[B") {k : Nat} (hk : k < sNum) (hd : decode cc pc = .ok (.getfield idx, 3)) (kk : J X E nL n0 cells slots Q σ (pc + 3) lv (vV E k :: st)) : J X E nL n0 cells slots Q σ pc lv (vS E k :: st) :=
  fun H locs ls hl hR hS hn => vk_getf (cx_x hc) (cx_b hc) ((cx_s hc).1.1 k hk).2.2.1 hS (cx_o hc) (cx_t hc _ hg) (fun _ q => q) hd (kk H locs ls hl hR hS hn)
theorem j_scod (hc : Cx X E cc nL n0 h own) (hg : GL own idx "java/lang/String" "coder" "B") {k : Nat} (hk : k < sNum) (hd : decode cc pc = .ok (.getfield idx, 3)) (kk : J X E nL n0 cells slots Q σ (pc + 3) lv (vI 0 :: st)) : J X E nL n0 cells slots Q σ pc lv (vS E k :: st) :=
  fun H locs ls hl hR hS hn => vk_getf (cx_x hc) (cx_b hc) ((cx_s hc).1.1 k hk).2.1 hS (cx_o hc) (cx_t hc _ hg) (fun _ q => q) hd (kk H locs ls hl hR hS hn)
theorem j_getC (hc : Cx X E cc nL n0 h own) (hg : GL own idx "java/lang/String" "COMPACT_STRINGS" "Z") (hd : decode cc pc = .ok (.getstatic idx, 3)) (kk : J X E nL n0 cells slots Q σ (pc + 3) lv (vI 1 :: st)) : J X E nL n0 cells slots Q σ pc lv st :=
  fun H locs ls hl hR hS hn => va_gets (cx_x hc) (cx_b hc) (cx_s hc).2.2.1 hS (cx_o hc) (cx_t hc _ hg) (fun _ q => q) hd (kk H locs ls hl hR hS hn)
theorem j_getFm (hc : Cx X E cc nL n0 h own) (hg : GL own idx "jdk/internal/util/Preconditions" "SIOOBE_FORMATTER" "Ljava/util/function/BiFunction;") (hd : decode cc pc = .ok (.getstatic idx, 3)) (kk : ∀ f : Option Nat, J X E nL n0 cells slots Q σ (pc + 3) lv (va_rf f :: st)) : J X E nL n0 cells slots Q σ pc lv st := by
  intro H locs ls hl hR hS hn
  rcases (cx_s hc).2.2.2.1 with z | ⟨t, z⟩
  · exact va_gets (cx_x hc) (cx_b hc) z hS (cx_o hc) (cx_t hc _ hg) (fun _ q => q) hd (kk none H locs ls hl hR hS hn)
  · exact va_gets (cx_x hc) (cx_b hc) z hS (cx_o hc) (cx_t hc _ hg) (fun _ q => q) hd (kk (some t) H locs ls hl hR hS hn)
theorem sLn_cn : ∀ k, k < sNum → wr (sLn k) = sLn k := by decide +kernel
theorem j_vlen (hc : Cx X E cc nL n0 h own) {k : Nat} (hk : k < sNum) (hd : decode cc pc = .ok (.arraylength, 1)) (kk : wr (sLn k) = sLn k → J X E nL n0 cells slots Q σ (pc + 1) lv (vI (sLn k) :: st)) : J X E nL n0 cells slots Q σ pc lv (vV E k :: st) := by
  exact fun H locs ls hl hR hS hn => va_tlen (cx_x hc) (cx_b hc) ((cx_s hc).1.1 k hk).2.2.2 hS (v := iI (sLn k)) rfl hd (kk (sLn_cn k hk) H locs ls hl hR hS hn)
theorem j_vald (hc : Cx X E cc nL n0 h own) {k : Nat} (hk : k < sNum) {i i' : Int} (hi' : wr i = i') (hi : ix i' (sLen.getD k 0)) (hd : decode cc pc = .ok (.baload, 1)) (kk : wr (sBy k i'.toNat) = sBy k i'.toNat → J X E nL n0 cells slots Q σ (pc + 1) lv (vI (sBy k i'.toNat) :: st)) : J X E nL n0 cells slots Q σ pc lv (vI i :: vV E k :: st) := by
  intro H locs ls hl hR hS hn
  have e : vI (sBy k i'.toNat) = .int ((sByt.getD k []).getD (iI i).toNatClampNeg 0) := by
    unfold vI sBy
    rw [iI_of, ix_nat, hi']
  have k2 := kk (cn_i _) H locs ls hl hR hS hn
  rw [e] at k2
  exact va_tb (cx_x hc) (cx_b hc) ((cx_s hc).1.1 k hk).2.2.2 hS (ix_in hi' hi) rfl hd k2
/-- a call on a text constant -/
theorem j_wI (hc : Cx X E cc nL n0 h own) {k : Nat} (hk : k < sNum) {y : MethodName} {bytes : ByteArray} {maxL np h' : Nat} {ret : Option FieldType} (hm : ML own idx y bytes maxL ret np) (hv : y.cls = "java/lang/String" ∧ Cond.instanceMethod y ∈ Tb ∧ Cond.selects "java/lang/String" y y ∈ Tb) {As : List Value} {Qp : Int → st_S → Prop} (hM : cM X.2.1 y bytes maxL ret E h' 0 0 (vS E k :: As) σ (qI E (gN σ + 0) Qp)) (hnp : As.length = np) (hh : h' + 1 ≤ h) (hml : maxL ≤ 40) (hroom : cells ≤ (xR X).cells ∧ slots ≤ (xR X).slots) (hcat : (st.map fun v => v.category).sum ≤ 8) {st0 : List Value} (hst : st0 = As.reverse ++ vS E k :: st) (hd : decode cc pc = .ok (.invokevirtual idx, 3)) (kk : ∀ (r : Int) (τ : st_S), wr r = r → Qp r τ → J X E nL n0 cells slots Q τ (pc + 3) lv (vI r :: st)) : J X E nL n0 cells slots Q σ pc lv st0 := by
  intro H locs ls hl hR hS hn
  have hf := cx_f hc
  have hw := cx_w hc
  subst hst
  have cw : CallW (xR X) (xS X) (xA X) own "java/lang/String" idx y bytes maxL ret (Cond.code y bytes maxL ret :: Tb) (rmm h' 0 0) 0 0 np := ⟨ml_B (cx_t hc) hm (by omega) (by omega), cx_t hc _ hv.2.1, cx_t hc _ hv.2.2⟩
  exact va_calli (A1 := eF E) (va_runV (As := As) (rest := st) ⟨cx_x hc, cx_b hc, cx_l hc, cx_o hc, cx_t hc⟩ hM cw ⟨jPre_blind, vk_recv (cx_s hc).1 hk hS, fun U hU hW => ⟨rfl, jPre_at hc hR hS U hU hW⟩⟩ rfl hnp hl.1 rfl (lv_room hcat) hd hroom) hS (fun _ _ q => q) (fun _ q => q) (fun r0 u t H1 locs1 ht hvm hw hB hz1 hk1 hS1 => by
    obtain ⟨r, rfl, hcr, hw⟩ := hw
    obtain ⟨b1, b2⟩ := hB
    rw [ht] at b1
    obtain ⟨r1, r2, r3⟩ := call_fin hc ⟨b1, b2⟩ hS1 hn
    exact kk r u hcr hw H1 locs1 ls hl r1 r2 r3)
theorem nar_i2c (a : Int) : narrow .char (.int (iI (o_i2c a))) = .int (iI (o_i2c a)) := by
  unfold o_i2c
  rw [iI_of]
  exact pk_nc _
theorem nar_char {x : Int} (h : 0 ≤ x ∧ x < 65536) : narrow .char (.int (iI x)) = .int (iI x) := by
  obtain ⟨q, hq⟩ : ∃ q : Nat, x = q := ⟨x.toNat, by omega⟩
  subst hq
  exact (pk_charN (q := q) (by omega)).1
theorem nar_byte {x : Int} (h : x = 0 ∨ x = 1) : narrow .byte (.int (iI x)) = .int (iI x) := by rcases h with rfl | rfl <;> rfl
end MO
