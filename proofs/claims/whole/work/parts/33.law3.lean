section LC
variable {X : jj_X} {EA EC EM : ev_E} {cc : ByteArray} {nL cells slots pc idx g : Nat} {own : String} {Q : State → Prop} {σc σm : st_S} {lv lv' : List (Nat × Value)} {st : List Value}
theorem lw_keepM {H H1 : Heap} (hL : Lw X EA EC EM) (hR : RepM EM σm H) (hn : gN σm ≤ 26) (hz : H.size ≤ H1.size) (hk : ∀ q : Nat, q < H.size → ¬ eF EC q → H1[q]? = H[q]?) : RepM EM σm H1 := by
  obtain ⟨l1, l2, l3, l4, l5, l6, l7, l8, l9, -⟩ := hL
  refine repM_kept hR hz (fun c hc => hk _ ?_ (l9.1 c (by omega)))
  obtain ⟨o, h1, -⟩ := hR
  exact (h1 c _ (wsE_at _ hc)).lt
theorem lw_keepC {H H1 : Heap} (hL : Lw X EA EC EM) (hR : Rep EC σc H) (hn : gN σc < 1000000) (hz : H1.size = H.size) (hk : ∀ q : Nat, q < H.size → ¬ eF EM q → H1[q]? = H[q]?) : Rep EC σc H1 := by
  obtain ⟨l1, l2, l3, l4, l5, l6, l7, l8, l9, -⟩ := hL
  refine rep_kept hR hz (fun c hc => hk _ ((hR.1 c _ (wsE_at _ hc)).lt) (l9.2 c (by omega)))
theorem p_cC (hc : Lc X cc nL own) (hL : Lw X EA EC EM) {y : MethodName} {bytes : ByteArray} {maxL np h' : Nat} {ret : Option FieldType} (hm : ML own idx y bytes maxL ret np) (hv : y.cls = clC 10 ∧ Cond.instanceMethod y ∈ Tb ∧ Cond.selects (clC 10) y y ∈ Tb) {As : List Value} {Qp : Int → st_S → Prop} (hM : cM X.2.1 y bytes maxL ret EC h' 0 0 (vR EC 0 :: As) σc (qI EC (gN σc + 0) Qp)) (hnp : As.length = np) (hh : h' ≤ 900) (hml : maxL ≤ 40) (hroom : cells ≤ (xR X).cells ∧ slots ≤ (xR X).slots) (hcat : (st.map fun v => v.category).sum ≤ 8) {st0 : List Value} (hst : st0 = As.reverse ++ vR EC 0 :: st) (hd : decode cc pc = .ok (.invokevirtual idx, 3)) (kk : ∀ (r : Int) (τ : st_S), wr r = r → Qp r τ → JP X (eF EA) (PL EC EM g τ σm) nL (cells) (slots) Q (pc + 3) lv (vI r :: st)) : JP X (eF EA) (PL EC EM g σc σm) nL cells slots Q pc lv st0 := by
  intro H locs ls hl hR hS
  obtain ⟨hC, hMm, hgm, hgc, hg6⟩ := hR
  have hL0 := hL
  obtain ⟨l1, l2, l3, l4, l5, l6, l7, l8, l9, l10, l11, l12, l13⟩ := hL
  obtain ⟨e1, e2, e3, e4⟩ := l3
  subst hst
  have ho : isO σc 0 10 := Or.inl (sv_k hC.2.1 l10 rfl)
  have cw : CallW (xR X) (xS X) (xA X) own (clC 10) idx y bytes maxL ret (Cond.code y bytes maxL ret :: Tb) (rmm h' 0 0) 0 0 np := ⟨ml_B hc.2.2.2.2 hm (by omega) (by omega), hc.2.2.2.2 _ hv.2.1, hc.2.2.2.2 _ hv.2.2⟩
  exact va_calli (A1 := eF EC) (va_runV (As := As) (rest := st) ⟨hc.1, hc.2.1, hc.2.2.1, hc.2.2.2.1, hc.2.2.2.2⟩ hM cw ⟨jPre_blind, lw_recv (E := EC) l2 e1 (by decide) hC ho, fun U hU hW => ⟨rfl, lw_pre (E := EC) l1 l2 e1 e2 e3 e4 l7 hC hS U hU hW⟩⟩ rfl hnp hl.1 rfl (lv_room hcat) hd hroom) hS (fun q _ z => l7 q z) (fun q z => l7 q z) (fun r0 u t H1 locs1 ht hvm hw hB hz1 hk1 hS1 => by
    obtain ⟨r, rfl, hcr, hw⟩ := hw
    obtain ⟨b1, b2⟩ := hB
    rw [ht] at b1
    exact kk r u hcr hw H1 locs1 ls hl ⟨b1, lw_keepM hL0 hMm hgm hz1 hk1, hgm, by omega, hg6⟩ hS1)
theorem p_cCL (hc : Lc X cc nL own) (hL : Lw X EA EC EM) {y : MethodName} {bytes : ByteArray} {maxL np h' : Nat} {ret : Option FieldType} (hm : ML own idx y bytes maxL ret np) (hv : y.cls = clC 10 ∧ Cond.instanceMethod y ∈ Tb ∧ Cond.selects (clC 10) y y ∈ Tb) {As : List Value} {Qp : Int → st_S → Prop} (hM : cM X.2.1 y bytes maxL ret EC h' 0 0 (vR EC 0 :: As) σc (qL EC (gN σc + 0) Qp)) (hnp : As.length = np) (hh : h' ≤ 900) (hml : maxL ≤ 40) (hroom : cells ≤ (xR X).cells ∧ slots ≤ (xR X).slots) (hcat : (st.map fun v => v.category).sum ≤ 8) {st0 : List Value} (hst : st0 = As.reverse ++ vR EC 0 :: st) (hd : decode cc pc = .ok (.invokevirtual idx, 3)) (kk : ∀ (r : Int) (τ : st_S), wl r = r → Qp r τ → JP X (eF EA) (PL EC EM g τ σm) nL (cells) (slots) Q (pc + 3) lv (vL r :: st)) : JP X (eF EA) (PL EC EM g σc σm) nL cells slots Q pc lv st0 := by
  intro H locs ls hl hR hS
  obtain ⟨hC, hMm, hgm, hgc, hg6⟩ := hR
  have hL0 := hL
  obtain ⟨l1, l2, l3, l4, l5, l6, l7, l8, l9, l10, l11, l12, l13⟩ := hL
  obtain ⟨e1, e2, e3, e4⟩ := l3
  subst hst
  have ho : isO σc 0 10 := Or.inl (sv_k hC.2.1 l10 rfl)
  have cw : CallW (xR X) (xS X) (xA X) own (clC 10) idx y bytes maxL ret (Cond.code y bytes maxL ret :: Tb) (rmm h' 0 0) 0 0 np := ⟨ml_B hc.2.2.2.2 hm (by omega) (by omega), hc.2.2.2.2 _ hv.2.1, hc.2.2.2.2 _ hv.2.2⟩
  exact va_calll (A1 := eF EC) (va_runV (As := As) (rest := st) ⟨hc.1, hc.2.1, hc.2.2.1, hc.2.2.2.1, hc.2.2.2.2⟩ hM cw ⟨jPre_blind, lw_recv (E := EC) l2 e1 (by decide) hC ho, fun U hU hW => ⟨rfl, lw_pre (E := EC) l1 l2 e1 e2 e3 e4 l7 hC hS U hU hW⟩⟩ rfl hnp hl.1 rfl (lv_room hcat) hd hroom) hS (fun q _ z => l7 q z) (fun q z => l7 q z) (fun r0 u t H1 locs1 ht hvm hw hB hz1 hk1 hS1 => by
    obtain ⟨r, rfl, hcr, hw⟩ := hw
    obtain ⟨b1, b2⟩ := hB
    rw [ht] at b1
    exact kk r u hcr hw H1 locs1 ls hl ⟨b1, lw_keepM hL0 hMm hgm hz1 hk1, hgm, by omega, hg6⟩ hS1)
theorem p_cCX (hc : Lc X cc nL own) (hL : Lw X EA EC EM) {y : MethodName} {bytes : ByteArray} {maxL np h' : Nat} {ret : Option FieldType} {mc ms : Nat} (hm : ML own idx y bytes maxL ret np) (hv : y.cls = clC 10 ∧ Cond.instanceMethod y ∈ Tb ∧ Cond.selects (clC 10) y y ∈ Tb) {As : List Value} {Qp : Int → st_S → Prop} (hM : cM X.2.1 y bytes maxL ret EC h' mc ms (vR EC 0 :: As) σc (qX EC (gN σc) mc Qp)) (hnp : As.length = np) (hh : h' ≤ 900) (hml : maxL ≤ 40) (hgx : g + mc < 1000000) (hroom : cells + mc ≤ (xR X).cells ∧ slots + ms ≤ (xR X).slots) (hcat : (st.map fun v => v.category).sum ≤ 8) {st0 : List Value} (hst : st0 = As.reverse ++ vR EC 0 :: st) (hd : decode cc pc = .ok (.invokevirtual idx, 3)) (kk : ∀ (r : Int) (τ : st_S), wr r = r → gN σc ≤ gN τ → Qp r τ → JP X (eF EA) (PL EC EM (g + mc) τ σm) nL (cells + mc) (slots + ms) Q (pc + 3) lv (vI r :: st)) : JP X (eF EA) (PL EC EM g σc σm) nL cells slots Q pc lv st0 := by
  intro H locs ls hl hR hS
  obtain ⟨hC, hMm, hgm, hgc, hg6⟩ := hR
  have hL0 := hL
  obtain ⟨l1, l2, l3, l4, l5, l6, l7, l8, l9, l10, l11, l12, l13⟩ := hL
  obtain ⟨e1, e2, e3, e4⟩ := l3
  subst hst
  have ho : isO σc 0 10 := Or.inl (sv_k hC.2.1 l10 rfl)
  have cw : CallW (xR X) (xS X) (xA X) own (clC 10) idx y bytes maxL ret (Cond.code y bytes maxL ret :: Tb) (rmm h' mc ms) mc ms np := ⟨ml_B hc.2.2.2.2 hm (by omega) (by omega), hc.2.2.2.2 _ hv.2.1, hc.2.2.2.2 _ hv.2.2⟩
  exact va_calli (A1 := eF EC) (va_runV (As := As) (rest := st) ⟨hc.1, hc.2.1, hc.2.2.1, hc.2.2.2.1, hc.2.2.2.2⟩ hM cw ⟨jPre_blind, lw_recv (E := EC) l2 e1 (by decide) hC ho, fun U hU hW => ⟨rfl, lw_pre (E := EC) l1 l2 e1 e2 e3 e4 l7 hC hS U hU hW⟩⟩ rfl hnp hl.1 rfl (lv_room hcat) hd hroom) hS (fun q _ z => l7 q z) (fun q z => l7 q z) (fun r0 u t H1 locs1 ht hvm hw hB hz1 hk1 hS1 => by
    obtain ⟨r, rfl, hcr, hw⟩ := hw
    obtain ⟨b1, b2⟩ := hB
    rw [ht] at b1
    exact kk r u hcr (by omega) hw H1 locs1 ls hl ⟨b1, lw_keepM hL0 hMm hgm hz1 hk1, hgm, by omega, hgx⟩ hS1)
theorem p_cM (hc : Lc X cc nL own) (hL : Lw X EA EC EM) {y : MethodName} {bytes : ByteArray} {maxL np h' : Nat} {ret : Option FieldType} (hm : ML own idx y bytes maxL ret np) (hv : y.cls = clC 11 ∧ Cond.instanceMethod y ∈ Tb ∧ Cond.selects (clC 11) y y ∈ Tb) {As : List Value} {Qp : Int → st_S → Prop} (hM : ∀ o, cM X.2.1 y bytes maxL ret (eoS EM o) h' 0 0 (vR (eoS EM o) 0 :: As) σm (qI (eoS EM o) (gN σm + 0) Qp)) (hnp : As.length = np) (hh : h' ≤ 900) (hml : maxL ≤ 40) (hroom : cells ≤ (xR X).cells ∧ slots ≤ (xR X).slots) (hcat : (st.map fun v => v.category).sum ≤ 8) {st0 : List Value} (hst : st0 = As.reverse ++ vR EM 0 :: st) (hd : decode cc pc = .ok (.invokevirtual idx, 3)) (kk : ∀ (r : Int) (τ : st_S), wr r = r → Qp r τ → JP X (eF EA) (PL EC EM g σc τ) nL (cells) (slots) Q (pc + 3) lv (vI r :: st)) : JP X (eF EA) (PL EC EM g σc σm) nL cells slots Q pc lv st0 := by
  intro H locs ls hl hR hS
  obtain ⟨hC, hMm, hgm, hgc, hg6⟩ := hR
  obtain ⟨o, hMo⟩ := hMm
  have hL0 := hL
  obtain ⟨l1, l2, l3, l4, l5, l6, l7, l8, l9, l10, l11, l12, l13⟩ := hL
  obtain ⟨e1, e2, e3, e4⟩ := l4
  subst hst
  have ho : isO σm 0 11 := Or.inl (sv_k hMo.2.1 l11 rfl)
  have cw : CallW (xR X) (xS X) (xA X) own (clC 11) idx y bytes maxL ret (Cond.code y bytes maxL ret :: Tb) (rmm h' 0 0) 0 0 np := ⟨ml_B hc.2.2.2.2 hm (by omega) (by omega), hc.2.2.2.2 _ hv.2.1, hc.2.2.2.2 _ hv.2.2⟩
  exact va_calli (A1 := eF (eoS EM o)) (va_runV (As := As) (rest := st) ⟨hc.1, hc.2.1, hc.2.2.1, hc.2.2.2.1, hc.2.2.2.2⟩ (hM o) cw ⟨jPre_blind, lw_recv (E := (eoS EM o)) l2 e1 (by decide) hMo ho, fun U hU hW => ⟨rfl, lw_pre (E := (eoS EM o)) l1 l2 e1 e2 e3 e4 l8 hMo hS U hU hW⟩⟩ rfl hnp hl.1 rfl (lv_room hcat) hd hroom) hS (fun q _ z => l8 q z) (fun q z => l8 q z) (fun r0 u t H1 locs1 ht hvm hw hB hz1 hk1 hS1 => by
    obtain ⟨r, rfl, hcr, hw⟩ := hw
    obtain ⟨b1, b2⟩ := hB
    rw [ht] at b1
    have hz2 : H1.size = H.size := by
      have z1 : H1.size = o + gN u := b1.2.2
      have z2 : H.size = o + gN σm := hMo.2.2
      omega
    exact kk r u hcr hw H1 locs1 ls hl ⟨lw_keepC hL0 hC (by omega) hz2 hk1, ⟨o, b1⟩, by omega, hgc, hg6⟩ hS1)
theorem p_cML (hc : Lc X cc nL own) (hL : Lw X EA EC EM) {y : MethodName} {bytes : ByteArray} {maxL np h' : Nat} {ret : Option FieldType} (hm : ML own idx y bytes maxL ret np) (hv : y.cls = clC 11 ∧ Cond.instanceMethod y ∈ Tb ∧ Cond.selects (clC 11) y y ∈ Tb) {As : List Value} {Qp : Int → st_S → Prop} (hM : ∀ o, cM X.2.1 y bytes maxL ret (eoS EM o) h' 0 0 (vR (eoS EM o) 0 :: As) σm (qL (eoS EM o) (gN σm + 0) Qp)) (hnp : As.length = np) (hh : h' ≤ 900) (hml : maxL ≤ 40) (hroom : cells ≤ (xR X).cells ∧ slots ≤ (xR X).slots) (hcat : (st.map fun v => v.category).sum ≤ 8) {st0 : List Value} (hst : st0 = As.reverse ++ vR EM 0 :: st) (hd : decode cc pc = .ok (.invokevirtual idx, 3)) (kk : ∀ (r : Int) (τ : st_S), wl r = r → Qp r τ → JP X (eF EA) (PL EC EM g σc τ) nL (cells) (slots) Q (pc + 3) lv (vL r :: st)) : JP X (eF EA) (PL EC EM g σc σm) nL cells slots Q pc lv st0 := by
  intro H locs ls hl hR hS
  obtain ⟨hC, hMm, hgm, hgc, hg6⟩ := hR
  obtain ⟨o, hMo⟩ := hMm
  have hL0 := hL
  obtain ⟨l1, l2, l3, l4, l5, l6, l7, l8, l9, l10, l11, l12, l13⟩ := hL
  obtain ⟨e1, e2, e3, e4⟩ := l4
  subst hst
  have ho : isO σm 0 11 := Or.inl (sv_k hMo.2.1 l11 rfl)
  have cw : CallW (xR X) (xS X) (xA X) own (clC 11) idx y bytes maxL ret (Cond.code y bytes maxL ret :: Tb) (rmm h' 0 0) 0 0 np := ⟨ml_B hc.2.2.2.2 hm (by omega) (by omega), hc.2.2.2.2 _ hv.2.1, hc.2.2.2.2 _ hv.2.2⟩
  exact va_calll (A1 := eF (eoS EM o)) (va_runV (As := As) (rest := st) ⟨hc.1, hc.2.1, hc.2.2.1, hc.2.2.2.1, hc.2.2.2.2⟩ (hM o) cw ⟨jPre_blind, lw_recv (E := (eoS EM o)) l2 e1 (by decide) hMo ho, fun U hU hW => ⟨rfl, lw_pre (E := (eoS EM o)) l1 l2 e1 e2 e3 e4 l8 hMo hS U hU hW⟩⟩ rfl hnp hl.1 rfl (lv_room hcat) hd hroom) hS (fun q _ z => l8 q z) (fun q z => l8 q z) (fun r0 u t H1 locs1 ht hvm hw hB hz1 hk1 hS1 => by
    obtain ⟨r, rfl, hcr, hw⟩ := hw
    obtain ⟨b1, b2⟩ := hB
    rw [ht] at b1
    have hz2 : H1.size = H.size := by
      have z1 : H1.size = o + gN u := b1.2.2
      have z2 : H.size = o + gN σm := hMo.2.2
      omega
    exact kk r u hcr hw H1 locs1 ls hl ⟨lw_keepC hL0 hC (by omega) hz2 hk1, ⟨o, b1⟩, by omega, hgc, hg6⟩ hS1)
end LC
