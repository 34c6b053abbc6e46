/-! the reference's worths of a night -/
/-- scratch of crewIn -/
def zX (σ τ : st_S) : Prop := τ.2 = σ.2 ∧ ∀ c j, ¬ (c = 0 ∧ (j = 8 ∨ j = 22 ∨ j = 23 ∨ j = 24)) → c ≠ 12 → c ≠ 17 → c ≠ 18 → gI τ c j = gI σ c j
theorem zX_rfl {σ : st_S} : zX σ σ := ⟨rfl, fun _ _ _ _ _ _ => rfl⟩
theorem zX_tr {σ τ υ : st_S} (h : zX σ τ) (g : zX τ υ) : zX σ υ := ⟨g.1.trans h.1, fun c j a b d e => (g.2 c j a b d e).trans (h.2 c j a b d e)⟩
theorem zX_N {σ τ : st_S} (h : zN σ τ) : zX σ τ := ⟨h.1, fun c j a b _ _ => h.2 c j a b⟩
theorem zX_17 {σ : st_S} {j : Nat} {v : Int} : zX σ (sI σ 17 j v) := ⟨rfl, fun c' j' _ _ d _ => by rw [gI_sI, if_neg (by omega)]⟩
theorem zX_18 {σ : st_S} {j : Nat} {v : Int} : zX σ (sI σ 18 j v) := ⟨rfl, fun c' j' _ _ _ e => by rw [gI_sI, if_neg (by omega)]⟩
theorem zX_K {σ τ : st_S} (h : zX σ τ) : gI τ 2 = gI σ 2 := funext fun j => h.2 2 j (by omega) (by decide) (by decide) (by decide)
/-- whether p is barred on a night, having heard so much -/
def brV (M : zM) (K : Nat → Int) (p night h : Nat) : Int := barV M K p (h : Int) (K 33 + (night : Int)) (fgV K (K 33 + (night : Int)))
/-- what is remembered of bars -/
def bcM (σ : st_S) (n : Nat) (M : zM) : Prop := ∀ p night h, p < n → night ≤ 10 → h < 3 → gI σ 17 ((p * 11 + night) * 3 + h) = 0 ∨ gI σ 17 ((p * 11 + night) * 3 + h) = (if brV M (gI σ 2) p night h = 0 then 1 else 2)
theorem bcM_of {σ τ : st_S} {n : Nat} {M : zM} (h : bcM σ n M) (h17 : ∀ j, gI τ 17 j = gI σ 17 j) (hK : gI τ 2 = gI σ 2) : bcM τ n M := by
  intro p night x a b c
  rw [h17, hK]
  exact h p night x a b c
theorem lkM_of {σ τ : st_S} {n : Nat} {M : zM} (h : lkM σ n M) (g : zX σ τ) : lkM τ n M := by
  refine ⟨fun p hp => ?_, fun p q hp hq => ?_⟩
  · rw [g.2 _ _ (by omega) (by decide) (by decide) (by decide), zX_K g]; exact h.1 p hp
  · rw [g.2 _ _ (by omega) (by decide) (by decide) (by decide), zX_K g]; exact h.2 p q hp hq
theorem nb12 : o_nb (o_i2b 1) = 1 ∧ o_nb (o_i2b 2) = 2 := by decide
theorem m_isBarredOn {σ : st_S} {n p night h : Nat} {M : zM} {fog : Int} {Q : Int → st_S → Prop} (hx : cxM σ n M) (hb : bcM σ n M) (hp : p < n) (hn : night ≤ 10) (hh : h < 3) (ef : fog = fgV (gI σ 2) (gI σ 2 33 + (night : Int))) (hQ : ∀ τ, zX σ τ → bcM τ n M → (∀ j, gI τ 18 j = gI σ 18 j) → Q (brV M (gI σ 2) p night h) τ) : wp_X11_isBarredOn (p : Int) (night : Int) (h : Int) fog σ Q := by
  have hx' := hx
  obtain ⟨⟨σc, hc⟩, -⟩ := hx
  have hn10 := hc.1.2.2
  have h9 := hc.2.2.2.2.2.2.2.2.1
  unfold zC9 at h9
  have h933 := h9.1.2
  have of := fgV_r hc.2.2.2.2.2.2.2.1 (gI σ 2 33 + (night : Int))
  have br : brV M (gI σ 2) p night h = 0 ∨ brV M (gI σ 2) p night h = 1 := bar_r _ _ _ _ _ _
  intro x ex
  rw [show (((p : Int) * 11 + (night : Int)) * 3 + (h : Int)) = (((p * 11 + night) * 3 + h : Nat) : Int) by omega, wr_n (by omega)] at ex
  subst ex
  have fin : ∀ τ, zX σ τ → bcM τ n M → (∀ j, gI τ 18 j = gI σ 18 j) → gI τ 17 ((p * 11 + night) * 3 + h) = (if brV M (gI σ 2) p night h = 0 then 1 else 2) → B_X11_isBarredOn_55 Q (((p * 11 + night) * 3 + h : Nat) : Int) τ := by
    intro τ h1 h2 h3 h4
    have q := hQ τ h1 h2 h3
    refine ⟨ixn (by omega), ?_⟩
    rw [Int.toNat_natCast, h4]
    rcases br with b | b
    · rw [b] at q ⊢
      exact ⟨fun _ => ⟨Or.inl rfl, q⟩, fun z => absurd z (by decide)⟩
    · rw [b] at q ⊢
      exact ⟨fun z => absurd rfl z, fun _ => ⟨Or.inr rfl, q⟩⟩
  refine ⟨ixn (by omega), fun z => fin σ zX_rfl hb (fun _ => rfl) ?_, fun z => ?_⟩
  · rcases hb p night h hp hn hh with e | e
    · exact absurd e z
    · exact e
  · rw [wr_id (by omega) (by omega)]
    refine m_isBarred hx' hp (by unfold i32; omega) (by unfold i32; omega) (by unfold i32; omega) (fun υ hu => ?_)
    rw [show barV M (gI σ 2) p (h : Int) (gI σ 2 33 + (night : Int)) fog = brV M (gI σ 2) p night h from by rw [ef]; rfl]
    have put : ∀ v : Int, o_nb (o_i2b v) = (if brV M (gI σ 2) p night h = 0 then 1 else 2) → B_X11_isBarredOn_53 Q (((p * 11 + night) * 3 + h : Nat) : Int) v (((p * 11 + night) * 3 + h : Nat) : Int) υ := by
      intro v hv
      unfold B_X11_isBarredOn_53
      rw [wr_n (by omega)]
      refine ⟨ixn (by omega), ?_⟩
      intro s es
      rw [Int.toNat_natCast, hv] at es
      subst es
      refine fin _ (zX_tr (zX_N hu) zX_17) (fun p' night' h' a b c => ?_) (fun j => ?_) ?_
      · have eK2 : gI υ 2 = gI σ 2 := zN_K hu
        rw [gI_sI, show gI (sI υ 17 ((p * 11 + night) * 3 + h) (if brV M (gI σ 2) p night h = 0 then 1 else 2)) 2 = gI σ 2 from eK2]
        by_cases e : (p' * 11 + night') * 3 + h' = (p * 11 + night) * 3 + h
        · rw [if_pos ⟨rfl, e⟩]
          have e1 : h' = h := by omega
          have e2 : night' = night := by omega
          have e3 : p' = p := by omega
          rw [e1, e2, e3]
          exact Or.inr rfl
        · rw [if_neg (fun w => e w.2), hu.2 17 _ (by omega) (by decide)]
          exact hb p' night' h' a b c
      · rw [gI_sI, if_neg (by omega)]; exact hu.2 18 j (by omega) (by decide)
      · rw [gI_sI, if_pos ⟨rfl, rfl⟩]
    refine ⟨fun y => put 1 ?_, fun y => put 2 ?_⟩
    · rw [if_pos y]; exact nb12.1
    · rw [if_neg y]; exact nb12.2
/-- worth on a night when used have lit it: the reference's -/
noncomputable def wMV (M : zM) (K : Nat → Int) (n away hsh night used p : Nat) : Nat := @ite Nat (p < n ∧ (used ||| away).testBit p = false ∧ comV M K p ≤ (night : Int) ∧ ¬ K p = 3 ∧ hdV M K n hsh used p < 2 ∧ brV M K p night (hdV M K n hsh used p).toNat = 0) (Classical.propDecidable _) (2 - hdV M K n hsh used p).toNat 0
theorem hdV_r {σ : st_S} {K : Nat → Int} {n hsh used p : Nat} {M : zM} (h : cxC σ K n M) (hp : p < n) : 0 ≤ hdV M K n hsh used p ∧ hdV M K n hsh used p ≤ 2 := by
  have o4 := (h.2.2.2.1 p hp).2
  have := hdA_mono (M := M) (K := K) (hsh := hsh) (used := used) (p := p) (Nat.zero_le n)
  have e : hdA M K hsh used p 0 = K (20 + p) := rfl
  unfold hdV
  split <;> omega
theorem wMV_2 {σ : st_S} {K : Nat → Int} {n away hsh night used : Nat} {M : zM} (h : cxC σ K n M) (p : Nat) : wMV M K n away hsh night used p ≤ 2 := by
  unfold wMV
  split
  · rename_i q
    have := hdV_r (hsh := hsh) (used := used) h q.1
    omega
  · omega
set_option maxHeartbeats 400000 in
theorem m_laysWorths {σ : st_S} {n away hsh night used : Nat} {M : zM} {fog : Int} {Q : st_S → Prop} (hx : cxM σ n M) (hl : lkM σ n M) (hb : bcM σ n M) (hn : night ≤ 10) (hu : used < 1024) (ha : away < 1024) (hh : hsh < 1024) (ga : gI σ 0 34 = (away : Int)) (gh : gI σ 0 35 = (hsh : Int)) (ef : fog = fgV (gI σ 2) (gI σ 2 33 + (night : Int)))
    (hQ : ∀ τ, zX σ τ → bcM τ n M → (∀ p, p < 10 → gI τ 18 p = (wMV M (gI σ 2) n away hsh night used p : Int)) → Q τ) : wp_X11_laysWorths (night : Int) (used : Int) fog σ Q := by
  have hxc := hx.1.choose_spec
  have hn10 := hxc.1.2.2
  have h256 := hxc.1.2.1
  have hor : used ||| away < 1024 := Nat.or_lt_two_pow (n := 10) hu ha
  have key : ∀ k p : Nat, p + k = 10 → ∀ τ, zX σ τ → bcM τ n M → (∀ q, q < p → gI τ 18 q = (wMV M (gI σ 2) n away hsh night used q : Int)) → L_X11_laysWorths_3 Q (k + 1) (night : Int) (used : Int) fog (p : Int) τ := by
    intro k
    induction k with
    | zero =>
      intro p hp τ h1 h2 h3
      exact ⟨fun _ => hQ τ h1 h2 (fun q hq => h3 q (by omega)), fun z => absurd (show (10 : Int) ≤ (p : Int) by omega) z⟩
    | succ k ih =>
      intro p hp τ h1 h2 h3
      refine ⟨fun z => absurd z (by omega), fun _ => ⟨ixn (by omega), ?_⟩⟩
      intro s es
      rw [Int.toNat_natCast] at es
      have zs : zX σ s := by rw [es]; exact zX_tr h1 zX_18
      have bs : bcM s n M := by
        rw [es]
        exact bcM_of h2 (fun j => by rw [gI_sI, if_neg (by omega)]) rfl
      have s18 : gI s 18 p = 0 := by rw [es, gI_sI, if_pos ⟨rfl, rfl⟩]
      have s3 : ∀ q, q < p → gI s 18 q = (wMV M (gI σ 2) n away hsh night used q : Int) := fun q hq => by rw [es, gI_sI, if_neg (by omega)]; exact h3 q hq
      clear es
      have Ks := zX_K zs
      have cs : cxM s n M := cxM_of hx Ks
      have ls := lkM_of hl zs
      have gas : gI s 0 34 = (away : Int) := by rw [zs.2 _ _ (by omega) (by decide) (by decide) (by decide)]; exact ga
      have ghs : gI s 0 35 = (hsh : Int) := by rw [zs.2 _ _ (by omega) (by decide) (by decide) (by decide)]; exact gh
      have nxt : ∀ υ, zX σ υ → bcM υ n M → (∀ q, q < p → gI υ 18 q = (wMV M (gI σ 2) n away hsh night used q : Int)) → gI υ 18 p = (wMV M (gI σ 2) n away hsh night used p : Int) → B_X11_laysWorths_107 Q (L_X11_laysWorths_3 Q (k + 1)) (night : Int) (used : Int) fog (p : Int) υ := by
        intro υ a1 a2 a3 a4
        intro y ey
        rw [wks (by omega)] at ey
        subst ey
        refine ih (p + 1) (by omega) υ a1 a2 (fun q hq => ?_)
        by_cases e : q = p
        · subst e; exact a4
        · exact a3 q (by omega)
      have zero : ∀ υ, zX σ υ → bcM υ n M → (∀ j, gI υ 18 j = gI s 18 j) → ¬ (p < n ∧ (used ||| away).testBit p = false ∧ comV M (gI σ 2) p ≤ (night : Int) ∧ ¬ gI σ 2 p = 3 ∧ hdV M (gI σ 2) n hsh used p < 2 ∧ brV M (gI σ 2) p night (hdV M (gI σ 2) n hsh used p).toNat = 0) → B_X11_laysWorths_107 Q (L_X11_laysWorths_3 Q (k + 1)) (night : Int) (used : Int) fog (p : Int) υ := by
        intro υ a1 a2 a3 a4
        refine nxt υ a1 a2 (fun q hq => by rw [a3]; exact s3 q hq) ?_
        rw [a3, s18]
        unfold wMV
        rw [if_neg a4]
        rfl
      refine m_isPerson hn10 (by rw [Ks]; exact h256) (fun hpp => ⟨fun z => absurd z (by decide), fun _ => ?_⟩) (fun hpp => ⟨fun _ => zero s zs bs (fun _ => rfl) (fun w => hpp ⟨by omega, by have := w.1; omega⟩), fun z => absurd rfl z⟩)
      have hpn : p < n := by omega
      rw [gas, n_or (by omega) (by omega)]
      refine m_isIn hor (by omega) (fun hb2 => ⟨fun _ => zero s zs bs (fun _ => rfl) (fun w => by rw [hb2] at w; exact absurd w.2.1 (by decide)), fun z => absurd z (by decide)⟩) (fun hb2 => ⟨fun z => absurd rfl z, fun _ => ⟨ixn (by omega), fun z => ?_, fun z => ?_⟩⟩)
      · rw [Int.toNat_natCast, ls.1 p hpn, Ks] at z
        exact zero s zs bs (fun _ => rfl) (fun w => by have := w.2.2.1; omega)
      · rw [Int.toNat_natCast, ls.1 p hpn, Ks] at z
        rw [wk0 (by omega)]
        have hr := hdV_r (hsh := hsh) (used := used) hxc hpn
        refine ⟨ixn (by omega), fun y => m_heardBy cs ls hpn hu hh ghs ?_, fun y => ?_⟩
        · rw [Int.toNat_natCast, Ks] at y
          rw [Ks]
          refine ⟨fun w => zero s zs bs (fun _ => rfl) (fun u => by have := u.2.2.2.2.1; omega), fun w => ?_⟩
          obtain ⟨hd, ehd⟩ : ∃ hd : Nat, hdV M (gI σ 2) n hsh used p = (hd : Int) := ⟨(hdV M (gI σ 2) n hsh used p).toNat, by omega⟩
          rw [ehd] at w hr ⊢
          refine m_isBarredOn cs bs hpn hn (by omega) (by rw [Ks]; exact ef) (fun υ a1 a2 a3 => ?_)
          rw [Ks]
          refine ⟨fun u => zero υ (zX_tr zs a1) a2 a3 (fun v => u (by have := v.2.2.2.2.2; rw [ehd, Int.toNat_natCast] at this; exact this)), fun u => ?_⟩
          intro v ev
          rw [wr_id (by omega) (by omega)] at ev
          subst ev
          refine ⟨ixn (by omega), ?_⟩
          intro s41 e41
          rw [Int.toNat_natCast] at e41
          subst e41
          refine nxt _ (zX_tr (zX_tr zs a1) zX_18) (bcM_of a2 (fun j => by rw [gI_sI, if_neg (by omega)]) rfl) (fun q hq => by rw [gI_sI, if_neg (by omega), a3]; exact s3 q hq) ?_
          rw [gI_sI, if_pos ⟨rfl, rfl⟩]
          unfold wMV
          rw [if_pos ⟨hpn, hb2, by omega, y, by rw [ehd]; omega, by rw [ehd, Int.toNat_natCast]; exact u⟩, ehd]
          omega
        · rw [Int.toNat_natCast, Ks] at y
          exact zero s zs bs (fun _ => rfl) (fun w => w.2.2.2.1 y)
  exact ⟨11, key 10 0 (by omega) σ zX_rfl hb (fun q hq => absurd hq (by omega))⟩
