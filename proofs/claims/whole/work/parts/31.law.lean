/-! the law's own walk: the heap holds what P says (both stores); nothing below the law's entry is written -/
def JP (X : jj_X) (A : Nat → Prop) (P : Heap → Prop) (nL cells slots : Nat) (Q : State → Prop) (pc : Nat) (lv : List (Nat × Value)) (st : List Value) : Prop :=
  ∀ (H : Heap) (locs : List Loc) (ls : Array Slot), lv_has ls nL lv → P H → va_S A (xS X).heap H locs → jW X H locs cells slots Q (F0 (xM X) pc ls st)
def Lc (X : jj_X) (cc : ByteArray) (nL : Nat) (own : String) : Prop := X.1.tables.exec = Jvm.exec ∧ (xC X).code = cc ∧ (xC X).maxLocals = nL ∧ (xS X).vm.findClass own = some (xM X).cls ∧ ∀ w ∈ Tb, w.before (xA X) (xS X) = true
section JPP
variable {X : jj_X} {A : Nat → Prop} {P : Heap → Prop} {cc : ByteArray} {nL cells slots pc : Nat} {own : String} {Q : State → Prop} {lv lv' : List (Nat × Value)} {st : List Value}
theorem p_sub (ks : List Nat) (hp : lv_pick lv ks = lv') (k : JP X A P nL cells slots Q pc lv' st) : JP X A P nL cells slots Q pc lv st := fun H locs ls hl => k H locs ls (lv_sub hl ks hp)
theorem p_iconst (hc : Lc X cc nL own) {n : Int} (hd : decode cc pc = .ok (.iconst n, 1)) (k : JP X A P nL cells slots Q (pc + 1) lv (vI n :: st)) : JP X A P nL cells slots Q pc lv st :=
  fun H locs ls hl hR hS => lv_iconst hc.1 hc.2.1 hd rfl (k H locs ls hl hR hS)
theorem p_bipush (hc : Lc X cc nL own) {n : Int} (hd : decode cc pc = .ok (.bipush n, 2)) (hv : (Int8.ofInt n).toInt32 = iI n) (k : JP X A P nL cells slots Q (pc + 2) lv (vI n :: st)) : JP X A P nL cells slots Q pc lv st :=
  fun H locs ls hl hR hS => lv_bipush hc.1 hc.2.1 hd hv (k H locs ls hl hR hS)
theorem p_iload_n (hc : Lc X cc nL own) {k : Fin 4} {i : Nat} {x : Int} (q : Nat) (hd : decode cc pc = .ok (.iload_n k, 1)) (hi : (k : Nat) = i) (hq : lv[q]? = some (i, vI x)) (kk : JP X A P nL cells slots Q (pc + 1) lv (vI x :: st)) : JP X A P nL cells slots Q pc lv st :=
  fun H locs ls hl hR hS => lv_iload_n hc.1 hc.2.1 hd hi (lv_at hl q hq) (kk H locs ls hl hR hS)
theorem p_aload_n (hc : Lc X cc nL own) {k : Fin 4} {i a : Nat} (q : Nat) (hd : decode cc pc = .ok (.aload_n k, 1)) (hi : (k : Nat) = i) (hq : lv[q]? = some (i, .ref a)) (kk : JP X A P nL cells slots Q (pc + 1) lv (.ref a :: st)) : JP X A P nL cells slots Q pc lv st :=
  fun H locs ls hl hR hS => lv_aload_n hc.1 hc.2.1 hd hi (lv_at hl q hq) (kk H locs ls hl hR hS)
theorem p_istore_n (hc : Lc X cc nL own) {k : Fin 4} {i : Nat} {x : Int} (hd : decode cc pc = .ok (.istore_n k, 1)) (hi : (k : Nat) = i) (hnl : i < nL) (hl' : (i, vI x) :: lv.filter (fun q => !(q.1 == i) && !(q.1 + 1 == i && q.2.category == 2)) = lv') (kk : JP X A P nL cells slots Q (pc + 1) lv' st) : JP X A P nL cells slots Q pc lv (vI x :: st) :=
  fun H locs ls hl hR hS => lv_istore_n hc.1 hc.2.1 hd hi hl hnl hl' (fun ls' hl2 => kk H locs ls' hl2 hR hS)
theorem p_astore_n (hc : Lc X cc nL own) {k : Fin 4} {i a : Nat} (hd : decode cc pc = .ok (.astore_n k, 1)) (hi : (k : Nat) = i) (hnl : i < nL) (hl' : (i, Value.ref a) :: lv.filter (fun q => !(q.1 == i) && !(q.1 + 1 == i && q.2.category == 2)) = lv') (kk : JP X A P nL cells slots Q (pc + 1) lv' st) : JP X A P nL cells slots Q pc lv (.ref a :: st) :=
  fun H locs ls hl hR hS => lv_astore_n hc.1 hc.2.1 hd hi hl hnl hl' (fun ls' hl2 => kk H locs ls' hl2 hR hS)
theorem p_iinc (hc : Lc X cc nL own) {i : Nat} {n x y : Int} (q : Nat) (hd : decode cc pc = .ok (.iinc i n, 3)) (hq : lv[q]? = some (i, vI x)) (hnl : i < nL) (hy : y = x + n) (hl' : (i, vI y) :: lv.filter (fun q => !(q.1 == i) && !(q.1 + 1 == i && q.2.category == 2)) = lv') (kk : JP X A P nL cells slots Q (pc + 3) lv' st) : JP X A P nL cells slots Q pc lv st :=
  fun H locs ls hl hR hS => lv_iinc (v := iI y) hc.1 hc.2.1 hd hl hq (by rw [hy, iI_add]; rfl) hnl hl' (fun ls' hl2 => kk H locs ls' hl2 hR hS)
theorem p_iadd (hc : Lc X cc nL own) {a b : Int} (hd : decode cc pc = .ok (.iadd, 1)) (k : JP X A P nL cells slots Q (pc + 1) lv (vI (a + b) :: st)) : JP X A P nL cells slots Q pc lv (vI b :: vI a :: st) :=
  fun H locs ls hl hR hS => lv_iadd hc.1 hc.2.1 hd (by rw [← iI_add]; exact k H locs ls hl hR hS)
theorem p_isub (hc : Lc X cc nL own) {a b : Int} (hd : decode cc pc = .ok (.isub, 1)) (k : JP X A P nL cells slots Q (pc + 1) lv (vI (a - b) :: st)) : JP X A P nL cells slots Q pc lv (vI b :: vI a :: st) :=
  fun H locs ls hl hR hS => lv_isub hc.1 hc.2.1 hd (by rw [← iI_sub]; exact k H locs ls hl hR hS)
theorem p_iand (hc : Lc X cc nL own) {a b : Int} (hd : decode cc pc = .ok (.iand, 1)) (k : JP X A P nL cells slots Q (pc + 1) lv (vI (o_and a b) :: st)) : JP X A P nL cells slots Q pc lv (vI b :: vI a :: st) :=
  fun H locs ls hl hR hS => lv_iand hc.1 hc.2.1 hd (by unfold o_and vI at k; rw [iI_of] at k; exact k H locs ls hl hR hS)
theorem p_lcmp (hc : Lc X cc nL own) {a b : Int} (hd : decode cc pc = .ok (.lcmp, 1)) (k : JP X A P nL cells slots Q (pc + 1) lv (vI (p_cmp a b) :: st)) : JP X A P nL cells slots Q pc lv (vL b :: vL a :: st) :=
  fun H locs ls hl hR hS => W.lcmp hc.1 hc.2.1 hd (by unfold p_cmp vI at k; rw [iI_of] at k; exact k H locs ls hl hR hS)
theorem p_goto (hc : Lc X cc nL own) {off : Int} {tgt : Nat} (hd : decode cc pc = .ok (.goto off, 3)) (ht : (pc : Int) + off = (tgt : Int)) (k : JP X A P nL cells slots Q tgt lv st) : JP X A P nL cells slots Q pc lv st :=
  fun H locs ls hl hR hS => lv_goto hc.1 hc.2.1 hd ht (k H locs ls hl hR hS)
theorem p_ic_eq (hc : Lc X cc nL own) {a b : Int} {off : Int} {tgt : Nat} (hd : decode cc pc = .ok (.if_icmp .eq off, 3)) (ht : (pc : Int) + off = (tgt : Int)) (hab : wr a = wr b) (k : JP X A P nL cells slots Q tgt lv st) : JP X A P nL cells slots Q pc lv (vI b :: vI a :: st) :=
  fun H locs ls hl hR hS => lv_icmp_eq hc.1 hc.2.1 hd ht (fun _ => k H locs ls hl hR hS) (fun e => absurd (iI_eq.mpr hab) e)
theorem p_if_eq (hc : Lc X cc nL own) {a : Int} {off : Int} {tgt : Nat} (hd : decode cc pc = .ok (.ifCond .eq off, 3)) (ht : (pc : Int) + off = (tgt : Int)) (ha : wr a = 0) (k : JP X A P nL cells slots Q tgt lv st) : JP X A P nL cells slots Q pc lv (vI a :: st) :=
  fun H locs ls hl hR hS => lv_if_eq hc.1 hc.2.1 hd ht (fun _ => k H locs ls hl hR hS) (fun e => absurd ((iI_zero a).mpr ha) e)
theorem p_ic_gt (hc : Lc X cc nL own) {a b : Int} {off : Int} {tgt : Nat} (hd : decode cc pc = .ok (.if_icmp .gt off, 3)) (ht : (pc : Int) + off = (tgt : Int)) (kt : wr b < wr a → JP X A P nL cells slots Q tgt lv st) (kf : ¬ wr b < wr a → JP X A P nL cells slots Q (pc + 3) lv st) : JP X A P nL cells slots Q pc lv (vI b :: vI a :: st) :=
  fun H locs ls hl hR hS => lv_icmp_gt hc.1 hc.2.1 hd ht (fun e => kt ((iI_lt b a).mp e) H locs ls hl hR hS) (fun e => kf (fun q => e ((iI_lt b a).mpr q)) H locs ls hl hR hS)
theorem p_ts (hc : Lc X cc nL own) {dflt lo hi off : Int} {offs : Array Int} {len tgt : Nat} {a : Int} (hd : decode cc pc = .ok (.tableswitch dflt lo hi offs, len)) (v : Int) (hv : wr a = v) (h1 : lo ≤ v) (h2 : v ≤ hi) (ho : offs[(v - lo).toNat]? = some off) (ht : (pc : Int) + off = (tgt : Int)) (k : JP X A P nL cells slots Q tgt lv st) : JP X A P nL cells slots Q pc lv (vI a :: st) := by
  subst hv
  exact fun H locs ls hl hR hS => lv_tableIn hc.1 hc.2.1 hd (by rw [iI_toInt]; omega) (by rw [iI_toInt]; omega) (by rw [iI_toInt]; exact ho) ht (k H locs ls hl hR hS)
theorem p_td (hc : Lc X cc nL own) {dflt lo hi : Int} {offs : Array Int} {len tgt : Nat} {a : Int} (hd : decode cc pc = .ok (.tableswitch dflt lo hi offs, len)) (hv : wr a < lo ∨ hi < wr a) (ht : (pc : Int) + dflt = (tgt : Int)) (k : JP X A P nL cells slots Q tgt lv st) : JP X A P nL cells slots Q pc lv (vI a :: st) :=
  fun H locs ls hl hR hS => lv_tableOut hc.1 hc.2.1 hd (by rw [iI_toInt]; exact hv) ht (k H locs ls hl hR hS)
/-- the script -/
theorem p_slen (hc : Lc X cc nL own) {b L : Nat} {xs : Nat → Int32} (hX : va_X b L xs (xS X) (xS X).heap) (hbl : b < (xS X).heap.size) (hbA : ¬ A b) (hd : decode cc pc = .ok (.arraylength, 1)) (k : JP X A P nL cells slots Q (pc + 1) lv (vI (L : Int) :: st)) : JP X A P nL cells slots Q pc lv (.ref b :: st) :=
  fun H locs ls hl hR hS => va_slen hc.1 hc.2.1 hX hbl hbA hS hd (k H locs ls hl hR hS)
theorem p_sld (hc : Lc X cc nL own) {b L : Nat} {xs : Nat → Int32} (hX : va_X b L xs (xS X) (xS X).heap) (hbl : b < (xS X).heap.size) (hbA : ¬ A b) {i : Int} (hi : ix (wr i) L) (hd : decode cc pc = .ok (.iaload, 1)) (k : JP X A P nL cells slots Q (pc + 1) lv (vI (xs (wr i).toNat).toInt :: st)) : JP X A P nL cells slots Q pc lv (vI i :: .ref b :: st) :=
  fun H locs ls hl hR hS => va_sld hc.1 hc.2.1 hX hbl hbA hS (ix_in rfl hi) hd (by
    have k2 := k H locs ls hl hR hS
    unfold vI at k2
    rw [iI_of] at k2
    rw [ix_nat]
    exact k2)
end JPP
