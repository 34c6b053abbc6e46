/-! light -/
def woK (K : Nat → Int) (p : Nat) : Int := if K p = 3 then 0 else 2 - K (20 + p)
def mayL (M : zM) (K : Nat → Int) (p : Nat) : Prop := K p = 2 ∧ 0 < woK K p ∧ barV M K p (K (20 + p)) (K 33) (fgV K (K 33)) = 0
def woS (K : Nat → Int) (c : Nat) : Nat → Int
  | 0 => 0
  | p + 1 => woS K c p + (if c.testBit p then woK K p else 0)
def ndK (K : Nat → Int) : Int := if fgV K (K 33) = 1 then 4 else 2
/-- those who may light, by bits -/
def lgt (M : zM) (K : Nat → Int) (n c : Nat) : Prop := K 33 < 999 ∧ (∀ p, p < n → c.testBit p = true → mayL M K p) ∧ ndK K ≤ woS K c n
def beK (c : Nat) (K : Nat → Int) : Nat → Nat → Int
  | 0 => K
  | p + 1 => if c.testBit p then kup (beK c K p) p 3 else beK c K p
def mn2 (a : Int) : Int := if a < 2 then a else 2
def sp1 (M : zM) (p : Nat) (K : Nat → Int) : Nat → Nat → Int
  | 0 => K
  | q + 1 => if ¬ sp1 M p K q q = 3 ∧ sp1 M p K q (54 + 10 * p + q) = 1 then kup (sp1 M p K q) (20 + q) (mn2 (sp1 M p K q (20 + q) + spoV M (sp1 M p K q) p q)) else sp1 M p K q
def spA (M : zM) (c n : Nat) (K : Nat → Int) : Nat → Nat → Int
  | 0 => K
  | p + 1 => if c.testBit p then sp1 M p (spA M c n K p) n else spA M c n K p
def liK (M : zM) (K : Nat → Int) (n c : Nat) : Nat → Int := pnK M (kup (spA M c n (beK c K n) n) 30 (wr (spA M c n (beK c K n) n 30 + 1))) n
theorem sp1_n {M : zM} {p q i : Nat} {K : Nat → Int} (hq : q ≤ 10) (hi : i < 20 ∨ 30 ≤ i) : sp1 M p K q i = K i := by
  induction q with
  | zero => rfl
  | succ q ih =>
    have := ih (by omega)
    unfold sp1
    split
    · rw [kup_n (by omega)]; exact this
    · exact this
theorem spA_n {M : zM} {c n p i : Nat} {K : Nat → Int} (hn : n ≤ 10) (hi : i < 20 ∨ 30 ≤ i) : spA M c n K p i = K i := by
  induction p with
  | zero => rfl
  | succ p ih =>
    unfold spA
    split
    · rw [sp1_n hn hi]; exact ih
    · exact ih
theorem beK_n {c p i : Nat} {K : Nat → Int} (hp : p ≤ 10) (hi : 10 ≤ i) : beK c K p i = K i := by
  induction p with
  | zero => rfl
  | succ p ih =>
    have := ih (by omega)
    unfold beK
    split
    · rw [kup_n (by omega)]; exact this
    · exact this
theorem spo_r (M : zM) (K : Nat → Int) (p q : Nat) : 0 ≤ spoV M K p q ∧ spoV M K p q ≤ 2 := tlA_r (by decide) (by decide) M.1
theorem woK_r {σ : st_S} {K : Nat → Int} {n p : Nat} {M : zM} (h : cxC σ K n M) (hp : p < n) : 0 ≤ woK K p ∧ woK K p ≤ 2 := by
  have o4 := (h.2.2.2.1 p hp).2
  unfold woK
  split <;> omega
theorem woS_r {σ : st_S} {K : Nat → Int} {n c p : Nat} {M : zM} (h : cxC σ K n M) (hp : p ≤ n) : 0 ≤ woS K c p ∧ woS K c p ≤ 2 * p := by
  induction p with
  | zero => exact ⟨Int.le_refl 0, by show (0 : Int) ≤ 2 * ((0 : Nat) : Int); decide⟩
  | succ p ih =>
    have i1 := ih (by omega)
    have i2 := woK_r h (show p < n by omega)
    show 0 ≤ woS K c p + (if c.testBit p then woK K p else 0) ∧ woS K c p + (if c.testBit p then woK K p else 0) ≤ 2 * ((p + 1 : Nat) : Int)
    split <;> omega
theorem w_kw {σ : st_S} {K : Nat → Int} {n p : Nat} {M : zM} {Q : Int → st_S → Prop} (h : cxC σ K n M) (hp : p < n) (hQ : Q (woK K p) σ) : wp_X1_worth (p : Int) σ Q := by
  have hn := h.1.2.2
  have o4 := h.2.2.2.1 p hp
  have o5 := h.2.2.2.2.1 p hp
  have e4 : gI σ 28 p = K (20 + p) := o4.1
  have e5 : gI σ 29 p = K p := o5.1
  refine w_worth (by omega) (by rw [e4]; exact o4.2) ?_
  rw [e4, e5]
  exact hQ
theorem bitI {c p : Nat} (hc : c < 1024) (hp : p < 10) : o_and (o_shr (c : Int) (p : Int)) 1 = if c.testBit p then 1 else 0 := n_bit (by omega) (by omega)
theorem m_isIn {c p : Nat} {σ : st_S} {Q : Int → st_S → Prop} (hc : c < 1024) (hp : p < 10) (h1 : c.testBit p = true → Q 1 σ) (h0 : c.testBit p = false → Q 0 σ) : wp_X11_isIn (c : Int) (p : Int) σ Q := by
  unfold wp_X11_isIn
  rw [bitI hc hp]
  cases hb : c.testBit p with
  | false => exact ⟨fun _ => ⟨Or.inl rfl, h0 hb⟩, fun z => absurd z (by decide)⟩
  | true => exact ⟨fun z => absurd rfl z, fun _ => ⟨Or.inr rfl, h1 hb⟩⟩
theorem w_bit {c p : Nat} {P1 P0 : Prop} (hc : c < 1024) (hp : p < 10) (h1 : c.testBit p = true → P1) (h0 : c.testBit p = false → P0) : (¬ o_and (o_shr (c : Int) (p : Int)) 1 = 0 → P1) ∧ (o_and (o_shr (c : Int) (p : Int)) 1 = 0 → P0) := by
  rw [bitI hc hp]
  cases hb : c.testBit p with
  | false => exact ⟨fun z => absurd rfl z, fun _ => h0 hb⟩
  | true => exact ⟨fun _ => h1 hb, fun z => absurd z (by decide)⟩
theorem w_cworth {σ : st_S} {K : Nat → Int} {n c : Nat} {M : zM} {Q : Int → st_S → Prop} (h : cxC σ K n M) (hc : c < 1024) (h1 : (∀ p, p < n → c.testBit p = true → mayL M K p) → ∀ τ, zJ σ τ → Q (woS K c n) τ) (h0 : ¬ (∀ p, p < n → c.testBit p = true → mayL M K p) → ∀ τ, zJ σ τ → Q (-1) τ) : wp_X2_worthOf (c : Int) σ Q := by
  have hn := h.1.2.2
  have key : ∀ k p : Nat, p + k = n → (∀ q, q < p → c.testBit q = true → mayL M K q) → ∀ τ, zJ σ τ → L_X2_worthOf_4 Q (k + 1) (c : Int) (woS K c p) (p : Int) τ := by
    intro k
    induction k with
    | zero =>
      intro p hp hm τ hτ
      have e0 := (cxC_of h hτ).1.1
      refine ⟨fun _ => ?_, fun z => absurd (by omega) z⟩
      rw [show p = n by omega]
      exact h1 (by rw [show n = p by omega]; exact hm) τ hτ
    | succ k ih =>
      intro p hp hm τ hτ
      have hx := cxC_of h hτ
      have e0 := hx.1.1
      have e5 : gI τ 29 p = K p := (hx.2.2.2.2.1 p (by omega)).1
      have no : c.testBit p = true → ¬ mayL M K p → ∀ υ, zJ σ υ → B_X2_worthOf_61 Q υ := fun hb hno υ hu => h0 (fun z => hno (z p (by omega) hb)) υ hu
      have wr1 := woS_r (c := c) h (show p ≤ n by omega)
      have wr2 := woK_r h (show p < n by omega)
      refine ⟨fun z => absurd z (by omega), fun _ => w_bit hc (by omega) (fun hb => ⟨ixn (by omega), fun z => no hb (fun y => z (e5.trans y.1)) τ hτ, fun z => ?_⟩) (fun hb => ?_)⟩
      · refine w_kw hx (by omega) ⟨fun y => no hb (fun x => by have := x.2.1; omega) τ hτ, fun y => ?_⟩
        refine w_barsNow hx (by omega) (fun υ hu => ?_)
        have hx2 := cxC_of hx hu
        refine ⟨fun x => ?_, fun x => no hb (fun w => x w.2.2) υ (zJ_tr hτ hu)⟩
        refine w_kw hx2 (by omega) ?_
        intro v ev
        rw [wr_id (by omega) (by omega)] at ev
        subst ev
        intro u eu
        rw [wks (by omega)] at eu
        subst eu
        have nx := ih (p + 1) (by omega) (fun q hq hbq => by
          by_cases e : q = p
          · subst e; exact ⟨e5.symm.trans z, by omega, x⟩
          · exact hm q (by omega) hbq) υ (zJ_tr hτ hu)
        rw [show woS K c (p + 1) = woS K c p + (if c.testBit p then woK K p else 0) from rfl, hb, if_pos rfl] at nx
        exact nx
      · intro u eu
        rw [wks (by omega)] at eu
        subst eu
        have nx := ih (p + 1) (by omega) (fun q hq hbq => by
          by_cases e : q = p
          · subst e; rw [hb] at hbq; exact absurd hbq (by decide)
          · exact hm q (by omega) hbq) τ hτ
        rw [show woS K c (p + 1) = woS K c p + (if c.testBit p then woK K p else 0) from rfl, hb, if_neg (by decide), Int.add_zero] at nx
        exact nx
  exact ⟨n + 1, key n 0 (by omega) (fun q hq => absurd hq (by omega)) σ zJ_rfl⟩
theorem shr0 {c n : Nat} (hc : c < 1024) (hn : n ≤ 10) : o_shr (c : Int) (n : Int) = 0 ↔ ∀ p, n ≤ p → p < 10 → c.testBit p = false := by
  rw [n_shr (by omega) (by omega)]
  constructor
  · intro h p h1 h2
    have h0 : c >>> n = 0 := by omega
    have : (c >>> n).testBit (p - n) = false := by rw [h0]; exact Nat.zero_testBit _
    rw [Nat.testBit_shiftRight, show n + (p - n) = p by omega] at this
    exact this
  · intro h
    have : c >>> n = 0 := by
      apply Nat.eq_of_testBit_eq
      intro i
      rw [Nat.testBit_shiftRight, Nat.zero_testBit]
      by_cases hi : n + i < 10
      · exact h _ (by omega) hi
      · exact tb_big hc (by omega)
    omega
theorem w_spoilBy {B : Nat} {σ : st_S} {K L : Nat → Int} {m : Int} {n p : Nat} {M : zM} {Q : st_S → Prop} (h : dC B σ K L m n M) (hp : p < n) (hQ : ∀ τ, dF σ τ → dC B τ (sp1 M p K n) L m n M → Q τ) : wp_X2_spoilBy (p : Int) σ Q := by
  have hn := h.1.1.2.2
  have key : ∀ k q : Nat, q + k = n → ∀ τ, dF σ τ → dC B τ (sp1 M p K q) L m n M → L_X2_spoilBy_2 Q (k + 1) (p : Int) (q : Int) τ := by
    intro k
    induction k with
    | zero =>
      intro q hq τ hf hd
      have e0 := hd.1.1.1
      refine ⟨fun _ => hQ τ hf ?_, fun z => absurd (by omega) z⟩
      rw [show q = n by omega] at hd
      exact hd
    | succ k ih =>
      intro q hq τ hf hd
      have hx := hd.1
      have e0 := hx.1.1
      obtain ⟨f, f1, f2, f3⟩ := hx.2.2.2.2.2.2.1 p (by omega)
      have e5 := (hx.2.2.2.2.1 q (by omega)).1
      have e4 := hx.2.2.2.1 q (by omega)
      have f3q := (f3 q (by omega)).1
      have nxt : ∀ υ, dF σ υ → dC B υ (sp1 M p K (q + 1)) L m n M → B_X2_spoilBy_72 Q (L_X2_spoilBy_2 Q (k + 1)) (p : Int) (q : Int) υ := by
        intro υ hu hdu
        intro x ex
        rw [wks (by omega)] at ex
        subst ex
        exact ih (q + 1) (by omega) υ hu hdu
      have es : sp1 M p K (q + 1) = if ¬ sp1 M p K q q = 3 ∧ sp1 M p K q (54 + 10 * p + q) = 1 then kup (sp1 M p K q) (20 + q) (mn2 (sp1 M p K q (20 + q) + spoV M (sp1 M p K q) p q)) else sp1 M p K q := rfl
      rw [es] at nxt
      generalize sp1 M p K q = A at hd hx e5 e4 f3q nxt
      refine ⟨fun z => absurd z (by omega), fun _ => w_talks (by omega) (by omega) f1 (f2 hp) ?_⟩
      cases hb : f.testBit q with
      | false =>
        rw [hb] at f3q
        refine ⟨fun _ => nxt τ hf ?_, fun z => absurd rfl z⟩
        rw [if_neg (fun z => by rw [f3q] at z; exact absurd z.2 (by decide))]
        exact hd
      | true =>
        rw [hb] at f3q
        refine ⟨fun z => absurd z (by decide), fun _ => ⟨ixn (by omega), fun z => nxt τ hf ?_, fun z => ⟨ixn (by omega), ?_⟩⟩⟩
        · rw [if_neg (fun y => y.1 (e5.symm.trans z))]
          exact hd
        · refine w_spoils hx hp (by omega) (fun υ hu => ?_)
          have sr := spo_r M A p q
          intro x ex
          have e28 : gI τ 28 (Int.toNat (q : Int)) = A (20 + q) := e4.1
          rw [e28, wr_id (by omega) (by omega)] at ex
          refine ⟨ixn (by omega), ?_⟩
          intro s es2
          rw [Int.toNat_natCast] at es2
          subst es2
          have em : o_min 2 x = mn2 (A (20 + q) + spoV M A p q) := by rw [ex]; rfl
          rw [em]
          refine nxt _ (dF_tr hf (dF_tr (dF_J hu) (dF_sI (by omega)))) ?_
          rw [if_pos ⟨fun y => z (e5.trans y), f3q⟩]
          refine dC_he (dC_J hd hu) (by omega) ?_
          unfold mn2
          split <;> omega
  exact ⟨n + 1, key n 0 (by omega) σ dF_rfl h⟩
set_option maxHeartbeats 400000 in
theorem w_kindle {B : Nat} {σ : st_S} {K L : Nat → Int} {m n : Nat} {M : zM} {a : Int} {Q : Int → st_S → Prop} (h : dC B σ K L (m : Int) n M) (h1 : ¬ (1 ≤ a ∧ a ≤ 1023) → Q (-1) σ) (h2 : ∀ c : Nat, a = (c : Int) → c < 1024 → 1 ≤ c → ¬ (∀ p, n ≤ p → p < 10 → c.testBit p = false) → Q (-2) σ)
    (h3 : ∀ c : Nat, a = (c : Int) → c < 1024 → 1 ≤ c → (∀ p, n ≤ p → p < 10 → c.testBit p = false) → ¬ lgt M K n c → ∀ τ, zJ σ τ → Q (-3) τ)
    (h0 : ∀ c : Nat, a = (c : Int) → c < 1024 → 1 ≤ c → (∀ p, n ≤ p → p < 10 → c.testBit p = false) → lgt M K n c → ∀ τ, dF σ τ → dC B τ (liK M K n c) (kpF K L m 1) ((kpm m + 1 : Nat) : Int) n M → Q (woS K c n) τ) : wp_X2_kindle a σ Q := by
  have hn := h.1.1.2.2
  have e0 := h.1.1.1
  refine ⟨fun z => h1 (by omega), fun z1 => ⟨fun z2 => ?_, fun z => h1 (by omega)⟩⟩
  obtain ⟨c, rfl⟩ : ∃ c : Nat, a = (c : Int) := ⟨a.toNat, by omega⟩
  have hc : c < 1024 := by omega
  rw [e0, shr0 hc hn]
  refine ⟨fun hs => ?_, fun hs => h2 c rfl hc (by omega) hs⟩
  -- behind the worth
  have fin : ∀ r : Int, (((∀ p, p < n → c.testBit p = true → mayL M K p) ∧ r = woS K c n) ∨ (¬ (∀ p, p < n → c.testBit p = true → mayL M K p) ∧ r = -1)) → ∀ τ, zJ σ τ → ∀ x51 : Int, x51 = gI τ 33 0 → (999 ≤ x51 → B_X2_kindle_66 Q τ) ∧ (¬ 999 ≤ x51 → wp_X1_fogOn x51 τ (fun r52 s53 => wp_X5_wanted r52 s53 (fun r54 s55 => (r54 ≤ r → wp_X4_keep 1 s55 (fun s57 => ∃ m84 : Nat, L_X2_kindle_84 Q m84 (c : Int) r 0 s57)) ∧ (¬ r54 ≤ r → B_X2_kindle_66 Q s55)))) := by
    intro r hr τ hτ x ex
    have hdt := dC_J h hτ
    have h9 := hdt.1.2.2.2.2.2.2.2.2.1
    unfold zC9 at h9
    rw [show gI τ 33 0 = K 33 from h9.1.1] at ex
    subst ex
    refine ⟨fun z => h3 c rfl hc (by omega) hs (fun y => by have := y.1; omega) τ hτ, fun z => w_fogOn hdt.1.2.2.2.2.2.2.2.1 ?_⟩
    have want : (ndK K ≤ r → wp_X4_keep 1 τ (fun s57 => ∃ m84 : Nat, L_X2_kindle_84 Q m84 (c : Int) r 0 s57)) ∧ (¬ ndK K ≤ r → B_X2_kindle_66 Q τ) := by
      have nd : 2 ≤ ndK K := by unfold ndK; split <;> omega
      refine ⟨fun y => ?_, fun y => h3 c rfl hc (by omega) hs (fun w => ?_) τ hτ⟩
      · have hall : (∀ p, p < n → c.testBit p = true → mayL M K p) ∧ r = woS K c n := by
          rcases hr with hr | hr
          · exact hr
          · exact absurd hr.2 (by omega)
        obtain ⟨hall, er⟩ := hall
        subst er
        have hl : lgt M K n c := ⟨by omega, hall, y⟩
        refine w_dkeep hdt (by decide) (fun τ2 f2 hd2 => ?_)
        have F2 : dF σ τ2 := dF_tr (dF_J hτ) f2
        have key2 : ∀ k p : Nat, p + k = n → ∀ υ, dF σ υ → dC B υ (spA M c n (beK c K n) p) (kpF K L m 1) ((kpm m + 1 : Nat) : Int) n M → L_X2_kindle_125 Q (k + 1) (c : Int) (woS K c n) (p : Int) υ := by
          intro k
          induction k with
          | zero =>
            intro p hp υ hf hd
            have e0 := hd.1.1.1
            refine ⟨fun _ => ?_, fun z => absurd (by omega) z⟩
            rw [show p = n by omega] at hd
            intro x ex
            have e12 := hd.2.1.1
            rw [e12] at ex
            intro s es
            subst es
            refine w_pass (dC_30 hd) ?_ (fun ω fω hω => h0 c rfl hc (by omega) hs hl ω (dF_tr hf (dF_tr (dF_sI (by omega)) fω)) ?_)
            · rw [kup_n (by omega), spA_n hn (by omega), beK_n hn (by omega)]; omega
            · rw [ex] at hω; exact hω
          | succ k ih =>
            intro p hp υ hf hd
            have e0 := hd.1.1.1
            have nxt : ∀ ω, dF σ ω → dC B ω (spA M c n (beK c K n) (p + 1)) (kpF K L m 1) ((kpm m + 1 : Nat) : Int) n M → B_X2_kindle_152 Q (L_X2_kindle_125 Q (k + 1)) (c : Int) (woS K c n) (p : Int) ω := by
              intro ω hw hdw
              intro x ex
              rw [wks (by omega)] at ex
              subst ex
              exact ih (p + 1) (by omega) ω hw hdw
            have es : spA M c n (beK c K n) (p + 1) = if c.testBit p then sp1 M p (spA M c n (beK c K n) p) n else spA M c n (beK c K n) p := rfl
            rw [es] at nxt
            refine ⟨fun z => absurd z (by omega), fun _ => (w_bit hc (by omega) (fun hb => ?_) (fun hb => ?_)).symm⟩
            · rw [hb, if_pos rfl] at nxt
              exact w_spoilBy hd (by omega) (fun ω fω hω => nxt ω (dF_tr hf fω) hω)
            · rw [hb, if_neg (by decide)] at nxt
              exact nxt υ hf hd
        have key1 : ∀ k p : Nat, p + k = n → ∀ υ, dF σ υ → dC B υ (beK c K p) (kpF K L m 1) ((kpm m + 1 : Nat) : Int) n M → L_X2_kindle_84 Q (k + 1) (c : Int) (woS K c n) (p : Int) υ := by
          intro k
          induction k with
          | zero =>
            intro p hp υ hf hd
            have e0 := hd.1.1.1
            refine ⟨fun _ => ?_, fun z => absurd (by omega) z⟩
            rw [show p = n by omega] at hd
            exact ⟨n + 1, key2 n 0 (by omega) υ hf hd⟩
          | succ k ih =>
            intro p hp υ hf hd
            have e0 := hd.1.1.1
            have nxt : ∀ ω, dF σ ω → dC B ω (beK c K (p + 1)) (kpF K L m 1) ((kpm m + 1 : Nat) : Int) n M → B_X2_kindle_116 Q (L_X2_kindle_84 Q (k + 1)) (c : Int) (woS K c n) (p : Int) ω := by
              intro ω hw hdw
              intro x ex
              rw [wks (by omega)] at ex
              subst ex
              exact ih (p + 1) (by omega) ω hw hdw
            have es : beK c K (p + 1) = if c.testBit p then kup (beK c K p) p 3 else beK c K p := rfl
            rw [es] at nxt
            refine ⟨fun z => absurd z (by omega), fun _ => (w_bit hc (by omega) (fun hb => ⟨ixn (by omega), ?_⟩) (fun hb => ?_)).symm⟩
            · rw [hb, if_neg (by decide)] at nxt
              exact nxt υ hf hd
            · rw [hb, if_pos rfl] at nxt
              intro s es2
              rw [Int.toNat_natCast] at es2
              subst es2
              exact nxt _ (dF_tr hf (dF_sI (by omega))) (dC_pl hd (by omega) (by decide))
        exact ⟨n + 1, key1 n 0 (by omega) τ2 F2 hd2⟩
      · rcases hr with hr | hr
        · have := w.2.2; rw [hr.2] at y; exact y this
        · exact hr.1 w.2.1
    unfold ndK at want
    refine ⟨fun y => ?_, fun y => ?_⟩
    · rw [if_neg y] at want; exact want
    · rw [if_pos y] at want; exact want
  exact w_cworth h.1 hc (fun hall τ hτ => fin _ (Or.inl ⟨hall, rfl⟩) τ hτ) (fun hno τ hτ => fin _ (Or.inr ⟨hno, rfl⟩) τ hτ)
set_option maxHeartbeats 400000 in
theorem m_lightsKept {σ : st_S} {m n : Nat} {M : zM} {a : Int} {Q : Int → st_S → Prop} (h : kOk (gI σ 2) n M) (hm : gI σ 0 28 = (m : Int)) (hm2 : m ≤ 16) (h1 : ¬ (1 ≤ a ∧ a ≤ 1023) → Q (-1) σ) (h2 : ∀ c : Nat, a = (c : Int) → c < 1024 → 1 ≤ c → ¬ (∀ p, n ≤ p → p < 10 → c.testBit p = false) → Q (-2) σ)
    (h3 : ∀ c : Nat, a = (c : Int) → c < 1024 → 1 ≤ c → (∀ p, n ≤ p → p < 10 → c.testBit p = false) → ¬ lgt M (gI σ 2) n c → ∀ υ, zN σ υ → Q (-3) υ)
    (h0 : ∀ c : Nat, a = (c : Int) → c < 1024 → 1 ≤ c → (∀ p, n ≤ p → p < 10 → c.testBit p = false) → lgt M (gI σ 2) n c → ∀ υ, dMk σ υ m 1 (liK M (gI σ 2) n c) → Q (woS (gI σ 2) c n) υ) : wp_X11_lightsKept a σ Q := by
  have hn := kOk_n h
  have hx := h.1.choose_spec.1
  have h256 := hx.1.2.1
  have h9 := hx.2.2.2.2.2.2.2.2.1
  unfold zC9 at h9
  have h933 := h9.1.2
  have of := fgV_r hx.2.2.2.2.2.2.2.1 (gI σ 2 33)
  refine m_lies (fun hr => ⟨fun _ => ?_, fun z => absurd z (by decide)⟩) (fun hr => ⟨fun z => absurd rfl z, fun _ => h1 hr⟩)
  obtain ⟨c, rfl⟩ : ∃ c : Nat, a = (c : Int) := ⟨a.toNat, by omega⟩
  have hc : c < 1024 := by omega
  -- the crew's nights
  have spread : lgt M (gI σ 2) n c → (∀ p, n ≤ p → p < 10 → c.testBit p = false) → ∀ υ, dM σ υ → gI υ 2 = gI σ 2 → gI υ 13 = kpF (gI σ 2) (gI σ 13) m 1 → gI υ 0 28 = ((kpm m + 1 : Nat) : Int) → ∃ m158, L_X11_lightsKept_158 Q m158 (c : Int) (woS (gI σ 2) c n) 0 υ := by
    intro hl hs υ0 hf0 hK0 hL0 hM0
    have inner : ∀ (k195 : Int → Int → Int → st_S → Prop) (p : Nat) τ, p < n → c.testBit p = true → dM υ0 τ → sLg υ0 τ → kOk (gI τ 2) n M → (∀ υ, dM υ0 υ → sLg υ0 υ → kOk (gI υ 2) n M → gI υ 2 = sp1 M p (gI τ 2) n → k195 (c : Int) (woS (gI σ 2) c n) ((p + 1 : Nat) : Int) υ) → ∃ k, L_X11_lightsKept_207 Q k195 k (c : Int) (woS (gI σ 2) c n) (p : Int) 0 τ := by
      intro k195 p τ hp hb hf hlg hkt hk
      have key : ∀ k q : Nat, q + k = n → ∀ υ, dM υ0 υ → sLg υ0 υ → kOk (gI υ 2) n M → gI υ 2 = sp1 M p (gI τ 2) q → L_X11_lightsKept_207 Q k195 (k + 1) (c : Int) (woS (gI σ 2) c n) (p : Int) (q : Int) υ := by
        intro k
        induction k with
        | zero =>
          intro q hq υ hfu hlu hku he
          have e0 : gI υ 2 256 = (n : Int) := hku.1.choose_spec.1.1.2.1
          refine ⟨fun _ => ?_, fun z => absurd (show gI υ 2 256 ≤ (q : Int) by omega) z⟩
          intro x ex
          rw [wks (by omega)] at ex
          subst ex
          exact hk υ hfu hlu hku (by rw [he, show q = n by omega])
        | succ k ih =>
          intro q hq υ hfu hlu hku he
          have e0 : gI υ 2 256 = (n : Int) := hku.1.choose_spec.1.1.2.1
          have e4 := (hku.1.choose_spec.1.2.2.2.1 q (by omega)).2
          have nxt : ∀ ω, dM υ0 ω → sLg υ0 ω → kOk (gI ω 2) n M → gI ω 2 = sp1 M p (gI τ 2) (q + 1) → B_X11_lightsKept_282 Q k195 (L_X11_lightsKept_207 Q k195 (k + 1)) (c : Int) (woS (gI σ 2) c n) (p : Int) (q : Int) ω := by
            intro ω a1 a2 a3 a4
            intro x ex
            rw [wks (by omega)] at ex
            subst ex
            exact ih (q + 1) (by omega) ω a1 a2 a3 a4
          have es : sp1 M p (gI τ 2) (q + 1) = if ¬ gI υ 2 q = 3 ∧ gI υ 2 (54 + 10 * p + q) = 1 then kup (gI υ 2) (20 + q) (mn2 (gI υ 2 (20 + q) + spoV M (gI υ 2) p q)) else gI υ 2 := by rw [he]; rfl
          rw [es] at nxt
          refine ⟨fun z => absurd z (by show ¬ gI υ 2 256 ≤ (q : Int); omega), fun _ => m_isIn hc (by omega) (fun _ => ⟨fun z => absurd z (by decide), fun _ => ?_⟩) (fun z => by rw [hb] at z; exact absurd z (by decide))⟩
          rw [wk0 (by omega), wk20 (by omega)]
          refine ⟨ixn (by omega), fun z => nxt υ hfu hlu hku (by rw [if_neg (fun y => y.1 z)]), fun z => m_doTalk (by omega) (by omega) ?_⟩
          by_cases ht : gI υ 2 (54 + 10 * p + q) = 1
          · rw [if_pos ht]
            refine ⟨fun y => absurd y (by decide), fun _ => ⟨ixn (by omega), ?_⟩⟩
            refine m_spoilsBy (kOk_x hku) hp (by omega) (fun ω hω => ?_)
            have sr := spo_r M (gI υ 2) p q
            rw [Int.toNat_natCast, wr_id (by omega) (by omega)]
            have le : ∀ v : Int, v = mn2 (gI υ 2 (20 + q) + spoV M (gI υ 2) p q) → ix ((20 + q : Nat) : Int) 5866 ∧ ∀ s95 : st_S, s95 = sI ω 2 (20 + q) v → B_X11_lightsKept_282 Q k195 (L_X11_lightsKept_207 Q k195 (k + 1)) (c : Int) (woS (gI σ 2) c n) (p : Int) (q : Int) s95 := by
              intro v ev
              refine ⟨ixn (by omega), ?_⟩
              intro s95 e95
              subst e95
              have hv : 0 ≤ v ∧ v ≤ 2 := by rw [ev]; unfold mn2; split <;> omega
              have eK : gI (sI ω 2 (20 + q) v) 2 = kup (gI υ 2) (20 + q) v := by rw [kup_sI, zN_K hω]
              refine nxt _ (dM_tr hfu (dM_tr (dM_N hω) (dM_sI (by omega)))) (sLg_tr hlu (sLg_tr (sLg_N hω) sLg_2)) (by rw [eK]; exact kOk_he hku (by omega) hv) ?_
              rw [eK, if_pos ⟨z, ht⟩, ev]
            refine ⟨fun y => le _ ?_, fun y => le _ ?_⟩
            · unfold mn2; split <;> omega
            · unfold mn2; split <;> omega
          · rw [if_neg ht]
            exact ⟨fun _ => nxt υ hfu hlu hku (by rw [if_neg (fun y => ht y.2)]), fun y => absurd rfl y⟩
      exact ⟨n + 1, key n 0 (by omega) τ hf hlg hkt rfl⟩
    have kl : kOk (gI υ0 2) n M := by rw [hK0]; exact h
    have key2 : ∀ k p : Nat, p + k = n → ∀ υ, dM υ0 υ → sLg υ0 υ → kOk (gI υ 2) n M → gI υ 2 = spA M c n (beK c (gI σ 2) n) p → L_X11_lightsKept_195 Q (k + 1) (c : Int) (woS (gI σ 2) c n) (p : Int) υ := by
      intro k
      induction k with
      | zero =>
        intro p hp υ hf hlg hk he
        have e0 : gI υ 2 256 = (n : Int) := hk.1.choose_spec.1.1.2.1
        refine ⟨fun _ => ?_, fun z => absurd (show gI υ 2 256 ≤ (p : Int) by omega) z⟩
        rw [show p = n by omega] at he
        intro x ex
        intro s es
        subst es
        refine m_pass (by rw [kup_sI]; exact kOk_30 hk) ?_ (fun ω fω lω eω => h0 c rfl hc (by omega) hs hl ω ⟨dM_tr hf0 (dM_tr hf (dM_tr (dM_sI (by omega)) fω)), ?_, ?_, ?_⟩)
        · rw [kup_sI, kup_n (by omega), he, spA_n hn (by omega), beK_n hn (by omega)]
          exact hl.1
        · rw [eω, kup_sI, ex, he]
          rfl
        · rw [lω.2, ← hL0, ← hlg.2]; rfl
        · rw [lω.1, ← hM0, ← hlg.1]; rfl
      | succ k ih =>
        intro p hp υ hf hlg hk he
        have e0 : gI υ 2 256 = (n : Int) := hk.1.choose_spec.1.1.2.1
        have es : spA M c n (beK c (gI σ 2) n) (p + 1) = if c.testBit p then sp1 M p (gI υ 2) n else gI υ 2 := by rw [he]; rfl
        refine ⟨fun z => absurd z (by show ¬ gI υ 2 256 ≤ (p : Int); omega), fun _ => ?_⟩
        cases hb : c.testBit p with
        | true =>
          rw [hb, if_pos rfl] at es
          exact inner _ p υ (by omega) hb hf hlg hk (fun ω a1 a2 a3 a4 => ih (p + 1) (by omega) ω a1 a2 a3 (by rw [es]; exact a4))
        | false =>
          rw [hb, if_neg (by decide)] at es
          have go : B_X11_lightsKept_288 Q (L_X11_lightsKept_195 Q (k + 1)) (c : Int) (woS (gI σ 2) c n) (p : Int) υ := by
            intro x ex
            rw [wks (by omega)] at ex
            subst ex
            exact ih (p + 1) (by omega) υ hf hlg hk es.symm
          exact ⟨1, ⟨fun _ => go, fun _ => m_isIn hc (by omega) (fun z => by rw [hb] at z; exact absurd z (by decide)) (fun _ => ⟨fun _ => go, fun z => absurd rfl z⟩)⟩⟩
    have key1 : ∀ k p : Nat, p + k = n → ∀ υ, dM υ0 υ → sLg υ0 υ → kOk (gI υ 2) n M → gI υ 2 = beK c (gI σ 2) p → L_X11_lightsKept_158 Q (k + 1) (c : Int) (woS (gI σ 2) c n) (p : Int) υ := by
      intro k
      induction k with
      | zero =>
        intro p hp υ hf hlg hk he
        have e0 : gI υ 2 256 = (n : Int) := hk.1.choose_spec.1.1.2.1
        refine ⟨fun _ => ?_, fun z => absurd (show gI υ 2 256 ≤ (p : Int) by omega) z⟩
        rw [show p = n by omega] at he
        exact ⟨n + 1, key2 n 0 (by omega) υ hf hlg hk he⟩
      | succ k ih =>
        intro p hp υ hf hlg hk he
        have e0 : gI υ 2 256 = (n : Int) := hk.1.choose_spec.1.1.2.1
        have es : beK c (gI σ 2) (p + 1) = if c.testBit p then kup (gI υ 2) p 3 else gI υ 2 := by rw [he]; rfl
        have nxt : ∀ ω, dM υ0 ω → sLg υ0 ω → kOk (gI ω 2) n M → gI ω 2 = beK c (gI σ 2) (p + 1) → B_X11_lightsKept_186 Q (L_X11_lightsKept_158 Q (k + 1)) (c : Int) (woS (gI σ 2) c n) (p : Int) ω := by
          intro ω a1 a2 a3 a4
          intro x ex
          rw [wks (by omega)] at ex
          subst ex
          exact ih (p + 1) (by omega) ω a1 a2 a3 a4
        rw [es] at nxt
        refine ⟨fun z => absurd z (by show ¬ gI υ 2 256 ≤ (p : Int); omega), fun _ => m_isIn hc (by omega) (fun hb => ⟨fun z => absurd z (by decide), fun _ => ?_⟩) (fun hb => ⟨fun _ => ?_, fun z => absurd rfl z⟩)⟩
        · rw [hb, if_pos rfl] at nxt
          rw [wk0 (by omega)]
          refine ⟨ixn (by omega), ?_⟩
          intro s es2
          rw [Int.toNat_natCast] at es2
          subst es2
          exact nxt _ (dM_tr hf (dM_sI (by omega))) (sLg_tr hlg sLg_2) (by rw [kup_sI]; exact kOk_pl hk (by omega) (by decide)) (by rw [kup_sI])
        · rw [hb, if_neg (by decide)] at nxt
          exact nxt υ hf hlg hk rfl
    exact ⟨n + 1, key1 n 0 (by omega) υ0 dM_rfl sLg_rfl kl hK0⟩
  -- who may
  have may : (∀ p, n ≤ p → p < 10 → c.testBit p = false) → ∀ v0 : Int, (v0 = 1 ∧ gI σ 2 33 < 999) ∨ (v0 = 0 ∧ ¬ gI σ 2 33 < 999) → B_X11_lightsKept_66 Q (c : Int) 0 v0 σ := by
    intro hs v0 hv0
    have key : ∀ k p : Nat, p + k = n → ∀ (mv : Int) υ, zN σ υ → ((mv = 1 ∧ gI σ 2 33 < 999 ∧ ∀ q, q < p → c.testBit q = true → mayL M (gI σ 2) q) ∨ (mv = 0 ∧ ¬ (gI σ 2 33 < 999 ∧ ∀ q, q < p → c.testBit q = true → mayL M (gI σ 2) q))) → L_X11_lightsKept_70 Q (k + 1) (c : Int) (woS (gI σ 2) c p) mv (p : Int) υ := by
      intro k
      induction k with
      | zero =>
        intro p hp mv υ hu hmv
        have eK := zN_K hu
        have e0 : gI υ 2 256 = (n : Int) := by rw [eK]; exact h256
        have epn : p = n := by omega
        subst epn
        refine ⟨fun _ => ⟨fun z => h3 c rfl hc (by omega) hs (fun y => ?_) υ hu, fun z => ?_⟩, fun z => absurd (show gI υ 2 256 ≤ (p : Int) by omega) z⟩
        · rcases hmv with w | w
          · exact absurd w.1 (by omega)
          · exact w.2 ⟨y.1, y.2.1⟩
        · have hall : gI σ 2 33 < 999 ∧ ∀ q, q < p → c.testBit q = true → mayL M (gI σ 2) q := by
            rcases hmv with w | w
            · exact w.2
            · exact absurd w.1 z
          rw [eK]
          refine m_fogOn h933.1 ?_
          rw [eK]
          have want : (ndK (gI σ 2) ≤ woS (gI σ 2) c p → wp_X11_keeps 1 υ (fun s124 => ∃ m158 : Nat, L_X11_lightsKept_158 Q m158 (c : Int) (woS (gI σ 2) c p) 0 s124)) ∧ (¬ ndK (gI σ 2) ≤ woS (gI σ 2) c p → B_X11_lightsKept_147 Q υ) := by
            refine ⟨fun y => ?_, fun y => h3 c rfl hc (by omega) hs (fun w => y w.2.2) υ hu⟩
            refine m_keeps (by rw [(sLg_N hu).1]; exact hm) hm2 (fun ω kω => ?_)
            refine spread ⟨hall.1, hall.2, y⟩ hs ω (dM_tr (dM_N hu) (kpM_dM kω)) (by rw [kpM_K kω, eK]) ?_ kω.2.2.1
            rw [kpM_L kω, eK, (sLg_N hu).2]
          unfold ndK at want
          refine ⟨fun y => ?_, fun y => ?_⟩
          · rw [if_neg y] at want; exact want
          · rw [if_pos y] at want; exact want
      | succ k ih =>
        intro p hp mv υ hu hmv
        have eK := zN_K hu
        have e0 : gI υ 2 256 = (n : Int) := by rw [eK]; exact h256
        have hxu : cxM υ n M := cxM_of (kOk_x h) eK
        have wr1 := woS_r (c := c) hx (show p ≤ n by omega)
        have wr2 := woK_r hx (show p < n by omega)
        have o4 := (hx.2.2.2.1 p (by omega)).2
        have esw : woS (gI σ 2) c (p + 1) = woS (gI σ 2) c p + (if c.testBit p then woK (gI σ 2) p else 0) := rfl
        have wof : ∀ (Q' : Int → st_S → Prop) ω, gI ω 2 = gI σ 2 → Q' (woK (gI σ 2) p) ω → wp_X11_worthOf (p : Int) ω Q' := by
          intro Q' ω eω hQ'
          refine m_worthOf (by omega) (by rw [eω]; exact o4) ?_
          rw [eω]
          exact hQ'
        have nxt : c.testBit p = true → ∀ (mv' : Int) ω, zN σ ω → ((mv' = 1 ∧ gI σ 2 33 < 999 ∧ ∀ q, q < p + 1 → c.testBit q = true → mayL M (gI σ 2) q) ∨ (mv' = 0 ∧ ¬ (gI σ 2 33 < 999 ∧ ∀ q, q < p + 1 → c.testBit q = true → mayL M (gI σ 2) q))) → B_X11_lightsKept_109 Q (L_X11_lightsKept_70 Q (k + 1)) (c : Int) (woS (gI σ 2) c p) (p : Int) mv' ω := by
          intro hb mv' ω hω hmv'
          refine wof _ ω (zN_K hω) ?_
          intro x ex
          rw [wr_id (by omega) (by omega)] at ex
          subst ex
          intro y ey
          rw [wks (by omega)] at ey
          subst ey
          have := ih (p + 1) (by omega) mv' ω hω hmv'
          rw [esw, hb, if_pos rfl] at this
          exact this
        refine ⟨fun z => absurd z (by show ¬ gI υ 2 256 ≤ (p : Int); omega), fun _ => m_isIn hc (by omega) (fun hb => ⟨fun _ => ⟨fun z => ?_, fun z => ?_⟩, fun z => absurd z (by decide)⟩) (fun hb => ⟨fun z => absurd rfl z, fun _ => ?_⟩)⟩
        · refine nxt hb 0 υ hu (Or.inr ⟨rfl, fun y => ?_⟩)
          rcases hmv with w | w
          · exact absurd w.1 (by omega)
          · exact w.2 ⟨y.1, fun q hq => y.2 q (by omega)⟩
        · have hold : gI σ 2 33 < 999 ∧ ∀ q, q < p → c.testBit q = true → mayL M (gI σ 2) q := by
            rcases hmv with w | w
            · exact w.2
            · exact absurd w.1 z
          have no : ¬ mayL M (gI σ 2) p → ∀ ω, zN σ ω → B_X11_lightsKept_108 Q (L_X11_lightsKept_70 Q (k + 1)) (c : Int) (woS (gI σ 2) c p) (p : Int) ω := fun hno ω hω => nxt hb 0 ω hω (Or.inr ⟨rfl, fun y => hno (y.2 p (by omega) hb)⟩)
          unfold wp_X11_mayLight
          rw [wk0 (by omega), wk20 (by omega)]
          refine ⟨ixn (by omega), fun y => ⟨Or.inl rfl, ⟨fun _ => no (fun w => y ?_) υ hu, fun x => absurd rfl x⟩⟩, fun y => wof _ υ eK ⟨fun x => ⟨Or.inl rfl, ⟨fun _ => no (fun w => by have := w.2.1; omega) υ hu, fun x => absurd rfl x⟩⟩, fun x => ⟨ixn (by omega), ?_⟩⟩⟩
          · show gI υ 2 p = 2
            rw [eK]; exact w.1
          · rw [eK]
            refine m_fogOn h933.1 ?_
            rw [eK, Int.toNat_natCast]
            refine m_isBarred hxu (by omega) (by unfold i32; omega) (by unfold i32; omega) (by unfold i32; omega) (fun ω hω => ?_)
            rw [eK]
            refine ⟨fun w => ⟨Or.inl rfl, ⟨fun _ => no (fun u => w u.2.2) ω (zN_tr hu hω), fun x => absurd rfl x⟩⟩, fun w => ⟨Or.inr rfl, ⟨fun x => absurd x (by decide), fun _ => nxt hb 1 ω (zN_tr hu hω) (Or.inl ⟨rfl, hold.1, fun q hq hbq => ?_⟩)⟩⟩⟩
            by_cases e : q = p
            · subst e
              refine ⟨?_, by omega, w⟩
              have y' : gI υ 2 q = 2 := y
              rw [← eK]; exact y'
            · exact hold.2 q (by omega) hbq
        · intro y ey
          rw [wks (by omega)] at ey
          subst ey
          have := ih (p + 1) (by omega) mv υ hu (by
            have eqv : (∀ q, q < p + 1 → c.testBit q = true → mayL M (gI σ 2) q) ↔ (∀ q, q < p → c.testBit q = true → mayL M (gI σ 2) q) := by
              constructor
              · exact fun a q hq => a q (by omega)
              · intro a q hq hbq
                by_cases e : q = p
                · subst e; rw [hb] at hbq; exact absurd hbq (by decide)
                · exact a q (by omega) hbq
            rw [eqv]
            exact hmv)
          rw [esw, hb, if_neg (by decide), Int.add_zero] at this
          exact this
    refine ⟨n + 1, key n 0 (by omega) v0 σ zN_rfl ?_⟩
    rcases hv0 with w | w
    · exact Or.inl ⟨w.1, w.2, fun q hq => absurd hq (by omega)⟩
    · exact Or.inr ⟨w.1, fun y => w.2 y.1⟩
  have key : ∀ k p : Nat, p + k = 10 → (∀ q, n ≤ q → q < p → c.testBit q = false) → L_X11_lightsKept_17 Q (k + 1) (c : Int) 0 (p : Int) σ := by
    intro k
    induction k with
    | zero =>
      intro p hp hs
      refine ⟨fun _ => ⟨fun z => may (fun q a b => hs q a (by omega)) 0 (Or.inr ⟨rfl, by omega⟩), fun z => may (fun q a b => hs q a (by omega)) 1 (Or.inl ⟨rfl, by omega⟩)⟩, fun z => absurd (show (10 : Int) ≤ (p : Int) by omega) z⟩
    | succ k ih =>
      intro p hp hs
      have nxt : (p < n ∨ c.testBit p = false) → B_X11_lightsKept_42 Q (L_X11_lightsKept_17 Q (k + 1)) (c : Int) 0 (p : Int) σ := by
        intro hh
        intro x ex
        rw [wks (by omega)] at ex
        subst ex
        refine ih (p + 1) (by omega) (fun q a b => ?_)
        by_cases e : q = p
        · subst e
          rcases hh with hh | hh
          · omega
          · exact hh
        · exact hs q a (by omega)
      refine ⟨fun z => absurd z (by omega), fun _ => m_isIn hc (by omega) (fun hb => ⟨fun z => absurd z (by decide), fun _ => m_isPerson hn h256 (fun z => ⟨fun _ => nxt (Or.inl (by omega)), fun y => absurd y (by decide)⟩) (fun z => ⟨fun y => absurd rfl y, fun _ => h2 c rfl hc (by omega) (fun y => ?_)⟩)⟩) (fun hb => ⟨fun _ => nxt (Or.inr hb), fun z => absurd rfl z⟩)⟩
      have := y p (by omega) (by omega)
      rw [hb] at this
      exact absurd this (by decide)
  exact ⟨11, key 10 0 (by omega) (fun q a b => absurd b (by omega))⟩
