/-! going through rows of crews: what comes of it -/
/-- whether a row can come to success -/
def rR (cr : Nat → Nat → List Nat) (nl : Nat → Nat) (suc : Nat → Nat → Prop) : Nat → Nat → Nat → Nat → Prop
  | 0, night, used, _ => suc night used
  | f + 1, night, used, ld => suc night used ∨ ∃ c, c ∈ cr night used ∧ nl c &&& ld = 0 ∧ rR cr nl suc f (night + 1) (used ||| c) (nl c)
/-- the first row of success -/
def gRw (cr : Nat → Nat → List Nat) (nl : Nat → Nat) (suc : Nat → Nat → Prop) : Nat → Nat → Nat → Nat → (Nat → Int) → Prop
  | 0, night, used, _, _ => suc night used
  | f + 1, night, used, ld, F => suc night used ∨ (¬ suc night used ∧ ∃ l1 c l2, cr night used = l1 ++ c :: l2 ∧ nl c &&& ld = 0 ∧ rR cr nl suc f (night + 1) (used ||| c) (nl c) ∧ (∀ c', c' ∈ l1 → nl c' &&& ld = 0 → ¬ rR cr nl suc f (night + 1) (used ||| c') (nl c')) ∧ F night = (c : Int) ∧ gRw cr nl suc f (night + 1) (used ||| c) (nl c) F)
theorem rR_suc {cr : Nat → Nat → List Nat} {nl : Nat → Nat} {suc : Nat → Nat → Prop} {f night used ld : Nat} (h : suc night used) : rR cr nl suc f night used ld := by
  cases f with
  | zero => exact h
  | succ f => exact Or.inl h
theorem gR_suc {cr : Nat → Nat → List Nat} {nl : Nat → Nat} {suc : Nat → Nat → Prop} {f night used ld : Nat} {F : Nat → Int} (h : suc night used) : gRw cr nl suc f night used ld F := by
  cases f with
  | zero => exact h
  | succ f => exact Or.inl h
/-- what stands while the class searches -/
def sCx (σ : st_S) (K : Nat → Int) (n : Nat) (M : zM) (hsh P lm : Nat) (pay aim trn : Bool) (pr : Nat → Nat) : Prop :=
  ppC σ K n M ∧ sKd σ ∧ gI σ 56 10 = (P : Int) ∧ gI σ 56 11 = (hsh : Int) ∧ gI σ 56 12 = (lm : Int) ∧ gI σ 56 14 = (if pay then 1 else 0) ∧ gI σ 56 15 = (if aim then 1 else 0) ∧ gI σ 56 16 = (if trn then 1 else 0) ∧ (pay = true → ∀ p, p < n → gI σ 44 p = (pr p : Int))
def zD (night : Nat) (σ τ : st_S) : Prop := τ.2 = σ.2 ∧ ∀ c j, ¬ (c = 42 ∧ 13 ≤ j ∧ j ≤ 16) → ¬ (c = 51 ∧ 210 * night ≤ j) → ¬ (c = 56 ∧ j = 13) → c ≠ 57 → c ≠ 59 → ¬ (c = 60 ∧ night ≤ j) → c ≠ 61 → gI τ c j = gI σ c j
theorem zD_rfl {night : Nat} {σ : st_S} : zD night σ σ := ⟨rfl, fun _ _ _ _ _ _ _ _ _ => rfl⟩
theorem zD_tr {night : Nat} {σ τ υ : st_S} (h : zD night σ τ) (g : zD night τ υ) : zD night σ υ := ⟨g.1.trans h.1, fun c j a b d e f i k => (g.2 c j a b d e f i k).trans (h.2 c j a b d e f i k)⟩
theorem zD_up {night : Nat} {σ τ : st_S} (h : zD (night + 1) σ τ) : zD night σ τ := ⟨h.1, fun c j a b d e f i k => h.2 c j a (by omega) d e f (by omega) k⟩
theorem zD_Q {night : Nat} {σ τ : st_S} (h : zQ night σ τ) : zD night σ τ := ⟨h.1, fun c j a b d e f i k => h.2 c j a b⟩
def zNt (σ τ : st_S) : Prop := τ.2 = σ.2 ∧ ∀ c j, ¬ (c = 56 ∧ j = 13) → c ≠ 61 → gI τ c j = gI σ c j
theorem zD_Nt {night : Nat} {σ τ : st_S} (h : zNt σ τ) : zD night σ τ := ⟨h.1, fun c j a b d e f i k => h.2 c j d k⟩
theorem sCx_of {night : Nat} {σ τ : st_S} {K : Nat → Int} {n hsh P lm : Nat} {M : zM} {pay aim trn : Bool} {pr : Nat → Nat} (h : sCx σ K n M hsh P lm pay aim trn pr) (g : zD night σ τ) : sCx τ K n M hsh P lm pay aim trn pr := by
  obtain ⟨h1, h2, h3, h4, h5, h6, h7, h8, h9⟩ := h
  have o : ∀ j, j ≠ 13 → gI τ 56 j = gI σ 56 j := fun j hj => g.2 _ _ (by omega) (by omega) (by omega) (by decide) (by decide) (by omega) (by decide)
  refine ⟨ppC_of h1 g.1 (fun c j q => g.2 c j (by omega) (by omega) (by omega) (by omega) (by omega) (by omega) (by omega)), sKd_of h2 g.1, ?_, ?_, ?_, ?_, ?_, ?_, fun hp p hpn => ?_⟩
  · rw [o _ (by decide)]; exact h3
  · rw [o _ (by decide)]; exact h4
  · rw [o _ (by decide)]; exact h5
  · rw [o _ (by decide)]; exact h6
  · rw [o _ (by decide)]; exact h7
  · rw [o _ (by decide)]; exact h8
  · rw [g.2 _ _ (by omega) (by omega) (by omega) (by decide) (by decide) (by omega) (by decide)]; exact h9 hp p hpn
/-- what was marked is gone through -/
def cpl (σ : st_S) (trn : Bool) (RR : Nat → Nat → Nat → Prop) (dn : Int → Prop) (night : Nat) : Prop := ∀ k u l, night ≤ k → k < 10 → u < 1024 → l < 16 → (trn = false → l = 0) → mkd σ trn k u l = true → RR (k + 1) u l → dn (gI σ 56 13)
theorem mkd_of {σ τ : st_S} {trn : Bool} {k u l : Nat} (h7 : ∀ j, gI τ 57 j = gI σ 57 j) (h9 : ∀ j, gI τ 59 j = gI σ 59 j) : mkd τ trn k u l = mkd σ trn k u l := by
  unfold mkd
  rw [h7, h9]
theorem mkC_v (trn : Bool) : mkC trn = 57 ∨ mkC trn = 59 := by cases trn; exact Or.inl rfl; exact Or.inr rfl
theorem rs_P {K : Nat → Int} {n away used P : Nat} (hP1 : P < 1024) (hP : ∀ p, p < n → P.testBit p = (decide (¬ K p = 3) && !away.testBit p)) : rsOk (ndn P used) K n away used := by
  refine ⟨Nat.lt_of_le_of_lt (ndn_le _ _) hP1, fun p hp => ?_⟩
  rw [ndn_bit (by omega), hP p hp, Nat.testBit_or]
  cases decide (¬ K p = 3) <;> cases away.testBit p <;> cases used.testBit p <;> rfl
def nlF (trn : Bool) (g : Nat → Nat) (n c : Nat) : Nat := if trn then ldS g c n else 0
theorem nlF_lt {trn : Bool} {g : Nat → Nat} (hg : ∀ p, g p < 4) {n c : Nat} : nlF trn g n c < 16 := by
  unfold nlF
  split
  · exact ldS_lt hg n
  · decide
set_option maxHeartbeats 4000000 in
theorem w_climb {K : Nat → Int} {n away hsh P lm : Nat} {M : zM} {pay aim trn : Bool} {pr g : Nat → Nat} {suc : Nat → Nat → Prop} {dn : Int → Prop} {inv : Nat → Nat → Nat → Prop} {bo : Int → Prop}
    (hP1 : P < 1024) (hP : ∀ p, p < n → P.testBit p = (decide (¬ K p = 3) && !away.testBit p)) (hh : hsh < 1024) (hlm : lm ≤ 10) (hg : ∀ p, g p < 4) (kl : ∀ p, p < n → K (35 + 2 * p) = (g p : Int))
    (hinv : ∀ night used ld c, night < lm → inv night used ld → c ∈ crL M K n away hsh night used → nlF trn g n c &&& ld = 0 → inv (night + 1) (used ||| c) (nlF trn g n c))
    (hnote : ∀ (σ : st_S) (night used ld : Nat) (Q : st_S → Prop), night ≤ lm → used < 1024 → inv night used ld → sCx σ K n M hsh P lm pay aim trn pr → bo (gI σ 56 13) → (∀ τ, zNt σ τ → bo (gI τ 56 13) → (suc night used → dn (gI τ 56 13)) → (dn (gI σ 56 13) → gI τ 56 13 = gI σ 56 13 ∧ ∀ j, gI τ 61 j = gI σ 61 j) → (¬ dn (gI σ 56 13) → dn (gI τ 56 13) → suc night used ∧ ∀ j, j < 10 → gI τ 61 j = gI σ 60 j) → Q τ) → wp_X8_note (night : Int) (used : Int) σ Q)
    (hvain : ∀ (σ : st_S) (night used H ld : Nat) (Q : Int → st_S → Prop), night ≤ 9 → used < 1024 → night ≤ ctN used n → hOk H (hdV M K n hsh used) n → inv night used ld → sCx σ K n M hsh P lm pay aim trn pr → bo (gI σ 56 13) → (suc night used → dn (gI σ 56 13)) → ((rR (crL M K n away hsh) (nlF trn g n) suc (10 - night) night used ld → dn (gI σ 56 13)) → Q 1 σ) → (night < lm → Q 0 σ) → wp_X8_isVain (night : Int) (used : Int) (H : Int) σ Q) :
    ∀ (d night used H ld : Nat) {σ : st_S} {Q : st_S → Prop}, 10 - night < d → night ≤ 10 → night ≤ lm → used < 1024 → ld < 16 → night ≤ ctN used n → hOk H (hdV M K n hsh used) n → inv night used ld → sCx σ K n M hsh P lm pay aim trn pr → bo (gI σ 56 13) → cpl σ trn (fun k u l => rR (crL M K n away hsh) (nlF trn g n) suc (10 - k) k u l) dn night →
      (∀ τ, zD night σ τ → sCx τ K n M hsh P lm pay aim trn pr → bo (gI τ 56 13) → cpl τ trn (fun k u l => rR (crL M K n away hsh) (nlF trn g n) suc (10 - k) k u l) dn night → (∀ k u l, k < night → u < 1024 → l < 16 → mkd τ trn k u l = true → mkd σ trn k u l = true) →
        (rR (crL M K n away hsh) (nlF trn g n) suc (10 - night) night used ld → dn (gI τ 56 13)) → (dn (gI σ 56 13) → gI τ 56 13 = gI σ 56 13 ∧ ∀ j, gI τ 61 j = gI σ 61 j) →
        (¬ dn (gI σ 56 13) → dn (gI τ 56 13) → rR (crL M K n away hsh) (nlF trn g n) suc (10 - night) night used ld ∧ gRw (crL M K n away hsh) (nlF trn g n) suc (10 - night) night used ld (gI τ 61) ∧ ∀ j, j < night → gI τ 61 j = gI σ 60 j) → Q τ) → wp_X8_climb d (night : Int) (used : Int) (H : Int) (ld : Int) σ Q := by
  intro d
  induction d with
  | zero => intro night used H ld σ Q hd; exact absurd hd (by omega)
  | succ d ihd =>
    intro night used H ld σ Q hd hN hl0 hu hl hct hH hiv hs hb hc hQ
    show e_X8_climb (G_X8_climb d) (night : Int) (used : Int) (H : Int) (ld : Int) σ Q
    have hn := hs.1.1.1.2.2
    refine hnote σ night used ld _ hl0 hu hiv hs hb (fun τ1 z1 B1 A1 A2 A3 => ?_)
    have s1 : sCx τ1 K n M hsh P lm pay aim trn pr := sCx_of (night := night) hs (zD_Nt z1)
    have m1 : ∀ k u l, mkd τ1 trn k u l = mkd σ trn k u l := fun k u l => mkd_of (fun j => z1.2 _ _ (by omega) (by decide)) (fun j => z1.2 _ _ (by omega) (by decide))
    have dm1 : dn (gI σ 56 13) → dn (gI τ1 56 13) := fun q => by rw [(A2 q).1]; exact q
    have c1 : cpl τ1 trn (fun k u l => rR (crL M K n away hsh) (nlF trn g n) suc (10 - k) k u l) dn night := fun k u l a b c e f i j => dm1 (hc k u l a b c e f (by rw [← m1]; exact i) j)
    have fin1 : (rR (crL M K n away hsh) (nlF trn g n) suc (10 - night) night used ld → dn (gI τ1 56 13)) → Q τ1 := by
      intro hv
      refine hQ τ1 (zD_Nt z1) s1 B1 c1 (fun k u l _ _ _ q => by rw [← m1]; exact q) hv A2 (fun q1 q2 => ?_)
      have q3 := A3 q1 q2
      exact ⟨rR_suc q3.1, gR_suc q3.1, fun j hj => q3.2 j (by omega)⟩
    refine ⟨fun z => fin1 (fun q => ?_), fun z => hvain τ1 night used H ld _ (by omega) hu hct hH hiv s1 B1 A1 (fun hv => ⟨fun y => absurd y (by decide), fun _ => fin1 hv⟩) (fun hlt => ⟨fun _ => ?_, fun y => absurd rfl y⟩)⟩
    · have e : night = 10 := by omega
      rw [e] at q
      rw [e] at A1
      exact A1 q
    have hN9 : night ≤ 9 := by omega
    rw [s1.2.2.1, n_andn (by omega) (by omega)]
    generalize hel : crL M K n away hsh night used = l
    have nd := ndV_v K night
    have l210 : l.length ≤ 210 := by rw [← hel]; exact pk_210 (fun p => wMV_2 hs.1.1 p) (by omega) (by omega) (by omega)
    refine w_list s1.1 hH (rs_P (away := away) (used := used) hP1 hP) (fun q => cr_nil q hct) (fun τ2 z2 g2 => ?_)
    rw [hel] at g2 ⊢
    have zz2 : zD night σ τ2 := zD_tr (zD_Nt z1) (zD_Q z2)
    have s2 := sCx_of hs zz2
    have b2 : gI τ2 56 13 = gI τ1 56 13 := z2.2 _ _ (by omega) (by omega)
    have f2 : ∀ j, gI τ2 61 j = gI τ1 61 j := fun j => z2.2 _ _ (by omega) (by omega)
    have m2 : ∀ k u l, mkd τ2 trn k u l = mkd σ trn k u l := fun k u l => by rw [mkd_of (σ := τ1) (fun j => z2.2 _ _ (by omega) (by omega)) (fun j => z2.2 _ _ (by omega) (by omega))]; exact m1 k u l
    have c2 : cpl τ2 trn (fun k u l => rR (crL M K n away hsh) (nlF trn g n) suc (10 - k) k u l) dn night := fun k u l a b c e f i j => by rw [b2]; exact c1 k u l a b c e f (by rw [m1, ← m2]; exact i) j
    -- the loop over the crews
    have key : ∀ k i : Nat, i + k = l.length → ∀ τ, zD night σ τ → bo (gI τ 56 13) → cpl τ trn (fun k u l => rR (crL M K n away hsh) (nlF trn g n) suc (10 - k) k u l) dn night → (∀ k u l, k < night → u < 1024 → l < 16 → mkd τ trn k u l = true → mkd σ trn k u l = true) →
        (dn (gI τ2 56 13) → gI τ 56 13 = gI τ2 56 13 ∧ ∀ j, gI τ 61 j = gI τ2 61 j) →
        (¬ dn (gI τ2 56 13) → dn (gI τ 56 13) → ∃ l1 c l2, l = l1 ++ c :: l2 ∧ nlF trn g n c &&& ld = 0 ∧ rR (crL M K n away hsh) (nlF trn g n) suc (9 - night) (night + 1) (used ||| c) (nlF trn g n c) ∧ (∀ c', c' ∈ l1 → nlF trn g n c' &&& ld = 0 → ¬ rR (crL M K n away hsh) (nlF trn g n) suc (9 - night) (night + 1) (used ||| c') (nlF trn g n c')) ∧ gI τ 61 night = (c : Int) ∧ gRw (crL M K n away hsh) (nlF trn g n) suc (9 - night) (night + 1) (used ||| c) (nlF trn g n c) (gI τ 61) ∧ ∀ j, j < night → gI τ 61 j = gI σ 60 j) →
        (∀ j (hj : j < l.length), j < i → nlF trn g n l[j] &&& ld = 0 → rR (crL M K n away hsh) (nlF trn g n) suc (9 - night) (night + 1) (used ||| l[j]) (nlF trn g n l[j]) → dn (gI τ 56 13)) →
        (∀ i, i < l.length → gI τ 51 (210 * night + i) = ((l.getD i 0 : Nat) : Int)) →
        L_X8_climb_45 Q (G_X8_climb d) (k + 1) (night : Int) (used : Int) (H : Int) (ld : Int) (l.length : Int) (i : Int) τ := by
      intro k
      induction k with
      | zero =>
        intro i hi τ zt bt ct dt Ct At Bt Et
        refine ⟨fun _ => ?_, fun z => absurd (by omega) z⟩
        have ef : 10 - night = (9 - night) + 1 := by omega
        refine hQ τ zt (sCx_of hs zt) bt ct dt (fun q => ?_) (fun q => ?_) (fun q1 q2 => ?_)
        · rw [ef] at q
          rcases q with q | ⟨c, q1, q2, q3⟩
          · have d1 : dn (gI τ2 56 13) := by rw [b2]; exact A1 q
            rw [(Ct d1).1]
            exact d1
          · rw [hel] at q1
            obtain ⟨j, hj, ej⟩ := List.mem_iff_getElem.mp q1
            subst ej
            exact Bt j hj (by omega) q2 q3
        · have d1 := A2 q
          have d2 : dn (gI τ2 56 13) := by rw [b2, d1.1]; exact q
          have d3 := Ct d2
          exact ⟨by rw [d3.1, b2, d1.1], fun j => by rw [d3.2, f2, d1.2]⟩
        · by_cases d2 : dn (gI τ2 56 13)
          · have d1 : dn (gI τ1 56 13) := by rw [← b2]; exact d2
            have q3 := A3 q1 d1
            refine ⟨rR_suc q3.1, gR_suc q3.1, fun j hj => ?_⟩
            rw [(Ct d2).2, f2]
            exact q3.2 j (by omega)
          · obtain ⟨l1, c, l2, a1, a2, a3, a4, a5, a6, a7⟩ := At d2 q2
            have ns : ¬ suc night used := fun w => d2 (by rw [b2]; exact A1 w)
            rw [ef]
            refine ⟨Or.inr ⟨c, by rw [hel, a1]; simp, a2, a3⟩, Or.inr ⟨ns, l1, c, l2, by rw [hel]; exact a1, a2, a3, a4, a5, a6⟩, a7⟩
      | succ k ih =>
        intro i hi τ zt bt ct dt Ct At Bt Et
        have hil : i < l.length := by omega
        have st := sCx_of hs zt
        have hmem : l[i] ∈ crL M K n away hsh night used := by rw [hel]; exact List.getElem_mem hil
        have cm := cr_mem hmem
        have c10 : l[i] < 1024 := cm.1
        have uc : used ||| l[i] < 1024 := Nat.or_lt_two_pow (n := 10) hu c10
        have nl16 : nlF trn g n l[i] < 16 := nlF_lt hg
        have nl0 : trn = false → nlF trn g n l[i] = 0 := fun q => by unfold nlF; rw [q]; rfl
        have nxt : ∀ υ, zD night σ υ → bo (gI υ 56 13) → cpl υ trn (fun k u l => rR (crL M K n away hsh) (nlF trn g n) suc (10 - k) k u l) dn night → (∀ k u l, k < night → u < 1024 → l < 16 → mkd υ trn k u l = true → mkd σ trn k u l = true) →
            (dn (gI τ 56 13) → gI υ 56 13 = gI τ 56 13 ∧ ∀ j, gI υ 61 j = gI τ 61 j) →
            (¬ dn (gI τ 56 13) → dn (gI υ 56 13) → nlF trn g n l[i] &&& ld = 0 ∧ rR (crL M K n away hsh) (nlF trn g n) suc (9 - night) (night + 1) (used ||| l[i]) (nlF trn g n l[i]) ∧ gI υ 61 night = (l[i] : Int) ∧ gRw (crL M K n away hsh) (nlF trn g n) suc (9 - night) (night + 1) (used ||| l[i]) (nlF trn g n l[i]) (gI υ 61) ∧ ∀ j, j < night → gI υ 61 j = gI σ 60 j) →
            (nlF trn g n l[i] &&& ld = 0 → rR (crL M K n away hsh) (nlF trn g n) suc (9 - night) (night + 1) (used ||| l[i]) (nlF trn g n l[i]) → dn (gI υ 56 13)) →
            (∀ i, i < l.length → gI υ 51 (210 * night + i) = ((l.getD i 0 : Nat) : Int)) →
            B_X8_climb_146 Q (G_X8_climb d) (L_X8_climb_45 Q (G_X8_climb d) (k + 1)) (night : Int) (used : Int) (H : Int) (ld : Int) (l.length : Int) (i : Int) υ := by
          intro υ h1 hbu h2 h3 h4 h5 h6 h7 x ex
          rw [wks (by omega)] at ex
          subst ex
          refine ih (i + 1) (by omega) υ h1 hbu h2 h3 (fun q => ?_) (fun q1 q2 => ?_) (fun j hj hj2 q1 q2 => ?_) h7
          · have a := Ct q
            have b := h4 (by rw [a.1]; exact q)
            exact ⟨by rw [b.1, a.1], fun j => by rw [b.2, a.2]⟩
          · by_cases dt' : dn (gI τ 56 13)
            · obtain ⟨l1, c, l2, a1, a2, a3, a4, a5, a6, a7⟩ := At q1 dt'
              have b := h4 dt'
              have eF : gI υ 61 = gI τ 61 := funext b.2
              rw [eF]
              exact ⟨l1, c, l2, a1, a2, a3, a4, a5, a6, a7⟩
            · obtain ⟨a1, a2, a3, a4, a5⟩ := h5 dt' q2
              refine ⟨l.take i, l[i], l.drop (i + 1), ?_, a1, a2, fun c' hc' w1 w2 => ?_, a3, a4, a5⟩
              · rw [← List.drop_eq_getElem_cons hil, List.take_append_drop]
              · obtain ⟨j, hj, ej⟩ := List.mem_iff_getElem.mp hc'
                rw [List.length_take] at hj
                rw [List.getElem_take] at ej
                subst ej
                exact dt' (Bt j (by omega) (by omega) w1 w2)
          · by_cases e : j = i
            · subst e
              exact h6 q1 q2
            · have a := Bt j hj (by omega) q1 q2
              rw [(h4 a).1]
              exact a
        have h84 : B_X8_climb_84 Q (G_X8_climb d) (L_X8_climb_45 Q (G_X8_climb d) (k + 1)) (night : Int) (used : Int) (H : Int) (ld : Int) (l.length : Int) (i : Int) (l[i] : Int) (nlF trn g n l[i] : Int) τ := by
          unfold B_X8_climb_84
          rw [n_and (by omega) (by omega), n_or (by omega) (by omega)]
          refine ⟨fun z => nxt τ zt bt ct dt (fun _ => ⟨rfl, fun _ => rfl⟩) (fun a b => absurd b a) (fun w => absurd (by rw [w]; rfl) z) Et, fun z => ?_⟩
          have zok : nlF trn g n l[i] &&& ld = 0 := by omega
          refine w_isSeen st.2.1 (by omega) uc nl16 st.2.2.2.2.2.2.2.1 ?_
          generalize hs3 : sI τ (mkC trn) (mkI trn night (used ||| l[i])) (o_or (gI τ (mkC trn) (mkI trn night (used ||| l[i]))) (o_shl 1 (mkB trn night (nlF trn g n l[i]) : Int))) = s3
          have mv := mkC_v trn
          have o3 : ∀ c j, c ≠ 57 → c ≠ 59 → gI s3 c j = gI τ c j := fun c j q1 q2 => by rw [← hs3, gI_sI, if_neg (by omega)]
          have t3 : s3.2 = τ.2 := by rw [← hs3]; rfl
          have mk3 : ∀ k' u' l', k' < 10 → u' < 1024 → l' < 16 → (mkd s3 trn k' u' l' = true ↔ mkd τ trn k' u' l' = true ∨ (k' = night ∧ u' = used ||| l[i] ∧ (trn = true → l' = nlF trn g n l[i]))) := fun k' u' l' q1 q2 q3 => by rw [← hs3]; exact mkd_s (by omega) uc nl16 q1 q2 q3
          have zt3 : zD night τ s3 := ⟨t3, fun c j a b d' e f' i' k' => o3 c j e f'⟩
          clear hs3
          have same : ∀ k' u' l', (trn = false → l' = 0) → k' = night → u' = used ||| l[i] → (trn = true → l' = nlF trn g n l[i]) → l' = nlF trn g n l[i] := by
            intro k' u' l' q1 _ _ q4
            cases htr : trn with
            | true => rw [← htr]; exact q4 htr
            | false => rw [← htr, q1 htr, nl0 htr]
          cases hmk : mkd τ trn night (used ||| l[i]) (nlF trn g n l[i]) with
          | true =>
            rw [if_pos rfl]
            have rd : rR (crL M K n away hsh) (nlF trn g n) suc (9 - night) (night + 1) (used ||| l[i]) (nlF trn g n l[i]) → dn (gI τ 56 13) := fun w => ct night (used ||| l[i]) (nlF trn g n l[i]) (Nat.le_refl _) (by omega) uc nl16 nl0 hmk (by show rR _ _ _ (10 - (night + 1)) _ _ _; rw [show 10 - (night + 1) = 9 - night by omega]; exact w)
            refine ⟨fun y => absurd y (by decide), fun _ => nxt s3 (zD_tr zt zt3) (by rw [o3 _ _ (by decide) (by decide)]; exact bt) (fun k' u' l' a b c e f i' j => ?_) (fun k' u' l' a b c e => ?_) (fun _ => ⟨o3 _ _ (by decide) (by decide), fun j => o3 _ _ (by decide) (by decide)⟩) (fun a b => absurd (by rw [← o3 56 13 (by decide) (by decide)]; exact b) a) (fun _ w => by rw [o3 _ _ (by decide) (by decide)]; exact rd w) (fun i' hi' => by rw [o3 _ _ (by decide) (by decide)]; exact Et i' hi')⟩
            · rw [o3 _ _ (by decide) (by decide)]
              rcases (mk3 k' u' l' b c e).mp i' with w | ⟨w1, w2, w3⟩
              · exact ct k' u' l' a b c e f w j
              · have w4 := same k' u' l' f w1 w2 w3
                subst w1
                subst w2
                subst w4
                exact ct _ _ _ a b c e f hmk j
            · rcases (mk3 k' u' l' (by omega) b c).mp e with w | ⟨w1, _, _⟩
              · exact dt k' u' l' a b c w
              · omega
          | false =>
            rw [if_neg (by decide)]
            refine ⟨fun _ => ⟨ixn (by omega), ?_⟩, fun y => absurd rfl y⟩
            intro s4 e4
            rw [Int.toNat_natCast] at e4
            have o4 : ∀ c j, ¬ (c = 60 ∧ j = night) → gI s4 c j = gI s3 c j := fun c j q => by rw [e4, gI_sI, if_neg (by omega)]
            have r4 : gI s4 60 night = (l[i] : Int) := by rw [e4, gI_sI, if_pos ⟨rfl, rfl⟩]
            have z4 : zD night s3 s4 := ⟨by rw [e4]; rfl, fun c j a b d' e f' i' k' => o4 c j (by omega)⟩
            clear e4
            have zt4 : zD night σ s4 := zD_tr zt (zD_tr zt3 z4)
            have st4 := sCx_of hs zt4
            have m4 : ∀ k u l, mkd s4 trn k u l = mkd s3 trn k u l := fun k u l => mkd_of (fun j => o4 _ _ (by omega)) (fun j => o4 _ _ (by omega))
            have b4 : gI s4 56 13 = gI τ 56 13 := by rw [o4 _ _ (by omega), o3 _ _ (by decide) (by decide)]
            have f4 : ∀ j, gI s4 61 j = gI τ 61 j := fun j => by rw [o4 _ _ (by omega), o3 _ _ (by decide) (by decide)]
            rw [st4.2.2.2.1]
            refine w_spoiled st4.1 hH c10 hh (fun p _ hp => cr_dis hmem hp) (fun H' hH' => ?_)
            show wp_X8_climb d (wr ((night : Int) + 1)) _ _ _ _ _
            rw [wks (by omega)]
            refine ihd (night + 1) (used ||| l[i]) H' (nlF trn g n l[i]) (by omega) (by omega) (by omega) uc nl16 (by have := cr_ct hmem; omega) hH' (hinv night used ld l[i] hlt hiv hmem zok) st4 (by rw [b4]; exact bt) (fun k' u' l' a b c e f i' j => ?_) (fun υ u1 u2 ub u3 u4 u5 u6 u7 => ?_)
            · rw [b4]
              rw [m4] at i'
              rcases (mk3 k' u' l' b c e).mp i' with w | ⟨w1, _, _⟩
              · exact ct k' u' l' (by omega) b c e f w j
              · omega
            rw [show 10 - (night + 1) = 9 - night by omega] at u5 u7
            refine nxt υ (zD_tr zt4 (zD_up u1)) ub (fun k' u' l' a b c e f i' j => ?_) (fun k' u' l' a b c e => ?_) (fun q => ?_) (fun q1 q2 => ?_) (fun _ w => u5 w) (fun i' hi' => ?_)
            · by_cases ek : k' = night
              · subst ek
                have i4 := u4 k' u' l' (by omega) c e i'
                rw [m4] at i4
                rcases (mk3 k' u' l' b c e).mp i4 with w | ⟨w1, w2, w3⟩
                · have q := ct k' u' l' a b c e f w j
                  have q' := u6 (by rw [b4]; exact q)
                  rw [q'.1, b4]
                  exact q
                · have w4 := same k' u' l' f w1 w2 w3
                  subst w2
                  subst w4
                  refine u5 ?_
                  have j' : rR (crL M K n away hsh) (nlF trn g n) suc (10 - (k' + 1)) (k' + 1) (used ||| l[i]) (nlF trn g n l[i]) := j
                  rw [show 10 - (k' + 1) = 9 - k' by omega] at j'
                  exact j'
              · exact u3 k' u' l' (by omega) b c e f i' j
            · have i4 := u4 k' u' l' (by omega) b c e
              rw [m4] at i4
              rcases (mk3 k' u' l' (by omega) b c).mp i4 with w | ⟨w1, _, _⟩
              · exact dt k' u' l' a b c w
              · omega
            · have q' := u6 (by rw [b4]; exact q)
              exact ⟨by rw [q'.1, b4], fun j => by rw [q'.2, f4]⟩
            · obtain ⟨a1, a2, a3⟩ := u7 (by rw [b4]; exact q1) q2
              refine ⟨zok, a1, by rw [a3 night (by omega)]; exact r4, a2, fun j hj => ?_⟩
              rw [a3 j (by omega), zt4.2 _ _ (by omega) (by omega) (by omega) (by decide) (by decide) (by omega) (by decide)]
            · rw [u1.2 _ _ (by omega) (by omega) (by omega) (by decide) (by decide) (by omega) (by decide), o4 _ _ (by omega), o3 _ _ (by decide) (by decide)]
              exact Et i' hi'
        refine ⟨fun z => absurd z (by omega), fun _ => w_crewAt hN9 (by omega) ?_⟩
        have ec : gI τ 51 (210 * night + i) = (l[i] : Int) := by
          rw [Et i hil, List.getD_eq_getElem?_getD, List.getElem?_eq_getElem hil]
          rfl
        rw [ec]
        have tf := st.2.2.2.2.2.2.2.1
        cases htr : trn with
        | false =>
          rw [htr, if_neg (by decide)] at tf
          refine ⟨fun _ => ?_, fun y => absurd tf y⟩
          rw [nl0 htr] at h84
          exact h84
        | true =>
          rw [htr, if_pos rfl] at tf
          refine ⟨fun y => absurd y (by rw [tf]; decide), fun _ => w_landsOf hg c10 hn st.1.1.1.1 (fun p hp => ?_) ?_⟩
          · rw [← kl p hp]
            exact (st.1.1.2.2.1 p hp).1
          · have e : nlF trn g n l[i] = ldS g l[i] n := by unfold nlF; rw [htr]; rfl
            rw [e] at h84
            exact h84
    exact ⟨l.length + 1, key l.length 0 (by omega) τ2 zz2 (by rw [b2]; exact B1) c2 (fun k u l _ _ _ q => by rw [← m2]; exact q) (fun _ => ⟨rfl, fun _ => rfl⟩) (fun a b => absurd b a) (fun j hj h0 => absurd h0 (by omega)) g2⟩
