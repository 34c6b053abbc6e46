/-! how it stands on a night: who has lit it; how many nights are left -/
def ctN (used n : Nat) : Nat := smW (fun _ => 1) used n
theorem ctN_s {used n : Nat} : ctN used (n + 1) = ctN used n + (if used.testBit n then 1 else 0) := rfl
theorem ctN_le {used n : Nat} : ctN used n ≤ n := by
  induction n with
  | zero => exact Nat.le_refl 0
  | succ n ih => rw [ctN_s]; split <;> omega
theorem ctN_full {used n : Nat} (h : n ≤ ctN used n) : ∀ p, p < n → used.testBit p = true := by
  induction n with
  | zero => exact fun p hp => absurd hp (by omega)
  | succ n ih =>
    have l := ctN_le (used := used) (n := n)
    rw [ctN_s] at h
    intro p hp
    by_cases e : p = n
    · subst e
      cases hb : used.testBit p with
      | true => rfl
      | false => rw [hb, if_neg (by decide)] at h; omega
    · refine ih ?_ p (by omega)
      split at h <;> omega
theorem ctN_mono {used c n : Nat} : ctN used n ≤ ctN (used ||| c) n := by
  induction n with
  | zero => exact Nat.le_refl _
  | succ n ih =>
    rw [ctN_s, ctN_s, Nat.testBit_or]
    cases used.testBit n <;> cases c.testBit n <;> simp <;> omega
theorem ctN_or {used c n p : Nat} (hp : p < n) (h1 : c.testBit p = true) (h2 : used.testBit p = false) : ctN used n + 1 ≤ ctN (used ||| c) n := by
  induction n with
  | zero => exact absurd hp (by omega)
  | succ n ih =>
    rw [ctN_s, ctN_s]
    by_cases e : p = n
    · subst e
      have := ctN_mono (used := used) (c := c) (n := p)
      rw [h2, Nat.testBit_or, h1, Bool.or_true, if_neg (by decide), if_pos rfl]
      omega
    · have := ih (by omega)
      rw [Nat.testBit_or]
      cases used.testBit n <;> cases c.testBit n <;> simp <;> omega
theorem bit_ex {X : Nat} (h : 1 ≤ X) : ∃ p, X.testBit p = true := by
  refine Classical.byContradiction (fun z => ?_)
  have : X = 0 := by
    apply Nat.eq_of_testBit_eq
    intro i
    rw [Nat.zero_testBit]
    cases hb : X.testBit i with
    | false => rfl
    | true => exact absurd ⟨i, hb⟩ z
  omega
section
variable {K : Nat → Int} {n away hsh night used X : Nat} {M : zM}
theorem wMV_p {p : Nat} (h : 0 < wMV M K n away hsh night used p) : p < n ∧ (used ||| away).testBit p = false ∧ comV M K p ≤ (night : Int) ∧ ¬ K p = 3 ∧ hdV M K n hsh used p < 2 ∧ wMV M K n away hsh night used p = (2 - hdV M K n hsh used p).toNat := by
  unfold wMV at h ⊢
  by_cases c : p < n ∧ (used ||| away).testBit p = false ∧ comV M K p ≤ (night : Int) ∧ ¬ K p = 3 ∧ hdV M K n hsh used p < 2 ∧ brV M K p night (hdV M K n hsh used p).toNat = 0
  · rw [if_pos c]
    exact ⟨c.1, c.2.1, c.2.2.1, c.2.2.2.1, c.2.2.2.2.1, rfl⟩
  · rw [if_neg c] at h
    exact absurd h (by omega)
theorem cr_mem (h : X ∈ crL M K n away hsh night used) : X < 1024 ∧ 1 ≤ X ∧ (∀ p, X.testBit p = true → p < 10 ∧ 0 < wMV M K n away hsh night used p) ∧ smW (wMV M K n away hsh night used) X 10 = ndV K night := by
  have nd := ndV_v K night
  unfold crL at h
  have m := (pk_mem (by omega)).mp h
  refine ⟨m.1, pk_pos (by omega) h, fun p hp => ?_, m.2.2⟩
  have p10 : p < 10 := by
    refine Classical.byContradiction (fun z => ?_)
    rw [tb_big m.1 (by omega)] at hp
    exact absurd hp (by decide)
  exact ⟨p10, m.2.1 p p10 hp⟩
theorem cr_dis (h : X ∈ crL M K n away hsh night used) {p : Nat} (hp : used.testBit p = true) : X.testBit p = false := by
  cases hb : X.testBit p with
  | false => rfl
  | true =>
    have := (wMV_p ((cr_mem h).2.2.1 p hb).2).2.1
    rw [Nat.testBit_or, hp] at this
    exact absurd this (by simp)
theorem cr_ct (h : X ∈ crL M K n away hsh night used) : ctN used n + 1 ≤ ctN (used ||| X) n := by
  have m := cr_mem h
  obtain ⟨p, hp⟩ := bit_ex m.2.1
  have w := wMV_p (m.2.2.1 p hp).2
  refine ctN_or w.1 hp ?_
  have := w.2.1
  rw [Nat.testBit_or] at this
  cases hb : used.testBit p with
  | false => rfl
  | true => rw [hb] at this; exact absurd this (by simp)
theorem cr_nil (hN : n ≤ night) (hc : night ≤ ctN used n) : crL M K n away hsh night used = [] := by
  cases h : crL M K n away hsh night used with
  | nil => rfl
  | cons X l =>
    have hX : X ∈ crL M K n away hsh night used := by rw [h]; exact List.mem_cons_self
    have := cr_ct hX
    have := ctN_le (used := used ||| X) (n := n)
    omega
end
/-- a row of so many nights -/
def pth (cr : Nat → Nat → List Nat) : Nat → Nat → Nat → Prop
  | 0, _, _ => True
  | f + 1, night, used => ∃ c, c ∈ cr night used ∧ pth cr f (night + 1) (used ||| c)
theorem pth_n {K : Nat → Int} {n away hsh : Nat} {M : zM} : ∀ (f : Nat) {night used : Nat}, pth (crL M K n away hsh) f night used → night ≤ ctN used n → f = 0 ∨ night + f ≤ n := by
  intro f
  induction f with
  | zero => intro night used _ _; exact Or.inl rfl
  | succ f ih =>
    intro night used h hc
    obtain ⟨c, h1, h2⟩ := h
    have := cr_ct h1
    have hn : night < n := by
      refine Classical.byContradiction (fun z => ?_)
      rw [cr_nil (by omega) hc] at h1
      exact absurd h1 (by simp)
    rcases ih h2 (by omega) with e | e <;> omega
/-- what somebody may be worth till a night -/
def avT (M : zM) (K : Nat → Int) (n away hsh used k p : Nat) : Int := if p < n ∧ ¬ K p = 3 ∧ (used ||| away).testBit p = false ∧ comV M K p ≤ (k : Int) then 2 - hdV M K n hsh used p else 0
theorem smI_le {f g : Nat → Int} {n : Nat} (h : ∀ i, i < n → f i ≤ g i) : smI f n ≤ smI g n := by
  induction n with
  | zero => exact Int.le_refl _
  | succ n ih =>
    have a := ih (fun i hi => h i (by omega))
    have b := h n (by omega)
    show smI f n + f n ≤ smI g n + g n
    omega
theorem smW_I {w : Nat → Nat} {X n : Nat} : ((smW w X n : Nat) : Int) = smI (fun p => if X.testBit p then (w p : Int) else 0) n := by
  induction n with
  | zero => rfl
  | succ n ih =>
    show ((smW w X n + (if X.testBit n then w n else 0) : Nat) : Int) = smI _ n + (if X.testBit n then (w n : Int) else 0)
    rw [← ih]
    split <;> omega
theorem av_step {σ : st_S} {K : Nat → Int} {n away hsh night used X k : Nat} {M : zM} (hx : cxC σ K n M) (h : X ∈ crL M K n away hsh night used) (hk : night ≤ k) (p : Nat) : (if X.testBit p then (wMV M K n away hsh night used p : Int) else 0) + avT M K n away hsh (used ||| X) k p ≤ avT M K n away hsh used k p := by
  have m := cr_mem h
  unfold avT
  cases hb : X.testBit p with
  | true =>
    have w := wMV_p (m.2.2.1 p hb).2
    rw [if_pos rfl, if_neg (fun z => by have := z.2.2.1; rw [Nat.testBit_or, Nat.testBit_or, hb] at this; simp at this), if_pos ⟨w.1, w.2.2.2.1, w.2.1, by have := w.2.2.1; omega⟩, w.2.2.2.2.2]
    have := w.2.2.2.2.1
    omega
  | false =>
    have e : (used ||| X ||| away).testBit p = (used ||| away).testBit p := by rw [Nat.testBit_or, Nat.testBit_or, Nat.testBit_or, hb, Bool.or_false]
    rw [e, if_neg (by decide)]
    by_cases c : p < n ∧ ¬ K p = 3 ∧ (used ||| away).testBit p = false ∧ comV M K p ≤ (k : Int)
    · rw [if_pos c, if_pos c]
      have a := hdA_or (M := M) (K := K) (hsh := hsh) (used := used) (C := X) (q := p) (k := n) (fun q _ hq => cr_dis h hq)
      have g2 : ∀ k, 0 ≤ adA M K hsh X p k := by
        intro k
        induction k with
        | zero => exact Int.le_refl 0
        | succ k ihk =>
          have := spV_r M K k p
          show 0 ≤ adA M K hsh X p k + _
          split <;> omega
      have g := g2 n
      have : hdV M K n hsh used p ≤ hdV M K n hsh (used ||| X) p := by
        unfold hdV
        rw [a]
        split <;> split <;> omega
      omega
    · rw [if_neg c, if_neg c]
      exact Int.le_refl _
/-- what is wanted on so many nights -/
def sNd (K : Nat → Int) : Nat → Nat → Nat
  | _, 0 => 0
  | night, m + 1 => ndV K night + sNd K (night + 1) m
theorem sNd_r {K : Nat → Int} : ∀ {m night : Nat}, sNd K night (m + 1) = sNd K night m + ndV K (night + m) := by
  intro m
  induction m with
  | zero => intro night; show ndV K night + 0 = 0 + ndV K night; omega
  | succ m ih =>
    intro night
    show ndV K night + sNd K (night + 1) (m + 1) = ndV K night + sNd K (night + 1) m + ndV K (night + (m + 1))
    rw [ih, show night + 1 + m = night + (m + 1) by omega]
    omega
theorem sNd_le {K : Nat → Int} : ∀ {m night : Nat}, sNd K night m ≤ 4 * m := by
  intro m
  induction m with
  | zero => intro night; exact Nat.le_refl 0
  | succ m ih =>
    intro night
    have := ih (night := night + 1)
    have := ndV_v K night
    show ndV K night + sNd K (night + 1) m ≤ _
    omega
theorem av_pth {σ : st_S} {K : Nat → Int} {n away hsh : Nat} {M : zM} (hx : cxC σ K n M) : ∀ (f : Nat) {night used k : Nat}, pth (crL M K n away hsh) f night used → night ≤ k → k < night + f → ((sNd K night (k + 1 - night) : Nat) : Int) ≤ smI (avT M K n away hsh used k) 10 := by
  intro f
  induction f with
  | zero => intro night used k _ h1 h2; exact absurd h2 (by omega)
  | succ f ih =>
    intro night used k h h1 h2
    obtain ⟨c, hc, hp⟩ := h
    have m := cr_mem hc
    have st := smI_le (n := 10) (fun p _ => av_step hx hc h1 p)
    rw [smI_add, ← smW_I, m.2.2.2] at st
    rw [show k + 1 - night = (k - night) + 1 by omega]
    show ((ndV K night + sNd K (night + 1) (k - night) : Nat) : Int) ≤ _
    by_cases e : k = night
    · rw [e, Nat.sub_self]
      rw [e] at st
      have nn : 0 ≤ smI (avT M K n away hsh (used ||| c) night) 10 := by
        have := (smI_b (f := avT M K n away hsh (used ||| c) night) (n := 10) 2 (fun i _ => by
          unfold avT
          split
          · rename_i q
            have := hdV_r (hsh := hsh) (used := used ||| c) hx q.1
            omega
          · omega)).1
        exact this
      show ((ndV K night + 0 : Nat) : Int) ≤ _
      omega
    · have q := ih hp (k := k) (by omega) (by omega)
      rw [show k + 1 - (night + 1) = k - night by omega] at q
      omega
theorem pop_le {X : Nat} : pop X ≤ 10 := by
  have h := smI_b (f := fun q => if X.testBit q then (1 : Int) else 0) (n := 10) 1 (fun i _ => by show 0 ≤ (if X.testBit i then (1 : Int) else 0) ∧ (if X.testBit i then (1 : Int) else 0) ≤ _; split <;> omega)
  rw [← pop_sm] at h
  omega
/-- the class counts it by bits -/
theorem av_bits {σ : st_S} {K : Nat → Int} {n away hsh used R H k : Nat} {M : zM} (hx : cxC σ K n M) (hH : hOk H (hdV M K n hsh used) n) (hR : rsOk R K n away used) :
    (2 : Int) * ((pop (ndn R H &&& bsN (cmB M K k) n) : Nat) : Int) + ((pop (ndn (R &&& H) (H >>> 10) &&& bsN (cmB M K k) n) : Nat) : Int) = smI (avT M K n away hsh used k) 10 := by
  have hR1 := hR.1
  have e2 : ∀ a : Int, 2 * a = a + a := fun a => by omega
  rw [pop_sm, pop_sm, e2, ← smI_add, ← smI_add]
  refine smI_congr (fun p hp => ?_)
  have b2 : R &&& H < 2 ^ 31 := and_lt (by omega)
  rw [Nat.testBit_and, Nat.testBit_and, ndn_bit (by omega), ndn_bit b2, Nat.testBit_and, bsN_tb]
  unfold avT cmB
  by_cases hpn : p < n
  · have hr := hdV_r (hsh := hsh) (used := used) hx hpn
    have h2 := hH.2 p hp
    rw [hR.2 p hpn, Nat.testBit_shiftRight, Nat.add_comm 10 p, h2.1, h2.2, decide_eq_true hpn, Bool.true_and]
    by_cases c : p < n ∧ ¬ K p = 3 ∧ (used ||| away).testBit p = false ∧ comV M K p ≤ (k : Int)
    · rw [if_pos c, decide_eq_true c.2.1, c.2.2.1, decide_eq_true c.2.2.2]
      have c3 : hdV M K n hsh used p = 0 ∨ hdV M K n hsh used p = 1 ∨ hdV M K n hsh used p = 2 := by omega
      rcases c3 with e | e | e <;> rw [e] <;> simp [hpn]
    · rw [if_neg c]
      by_cases c1 : K p = 3
      · simp [c1]
      · by_cases c2 : comV M K p ≤ (k : Int)
        · have c4 : (used ||| away).testBit p = true := by
            cases hb : (used ||| away).testBit p with
            | true => rfl
            | false => exact absurd ⟨hpn, c1, hb, c2⟩ c
          rw [c4]
          simp
        · simp [c2]
  · simp [hpn]
set_option maxHeartbeats 400000 in
theorem w_nightsFrom {σ : st_S} {K : Nat → Int} {n away hsh night used R H : Nat} {M : zM} {Q : Int → st_S → Prop} (h : ppC σ K n M) (hH : hOk H (hdV M K n hsh used) n) (hR : rsOk R K n away used) (hN : night ≤ 10) (hc : night ≤ ctN used n)
    (hQ : ∀ r : Nat, r ≤ 10 → (∀ f, pth (crL M K n away hsh) f night used → f ≤ r) → Q (r : Int) σ) : wp_X5_nightsFrom (night : Int) (R : Int) (H : Int) σ Q := by
  have hx := h.1
  have hn := hx.1.2.2
  have e0 : gI σ 25 0 = (n : Int) := hx.1.1
  have hH1 := hH.1
  have hR1 := hR.1
  have es : o_shr (H : Int) 10 = ((H >>> 10 : Nat) : Int) := n_shr (a := H) (k := 10) (by omega) (by decide)
  have s10 : H >>> 10 ≤ H := by rw [Nat.shiftRight_eq_div_pow]; exact Nat.div_le_self _ _
  have b2 : R &&& H < 2 ^ 31 := and_lt (by omega)
  intro x1 ex1 x2 ex2
  rw [n_andn (by omega) (by omega)] at ex1
  rw [n_and (by omega) (by omega), es, n_andn b2 (by omega)] at ex2
  subst ex1
  subst ex2
  have l1 : ndn R H < 1024 := Nat.lt_of_le_of_lt (ndn_le _ _) hR1
  have l2 : ndn (R &&& H) (H >>> 10) < 1024 := Nat.lt_of_le_of_lt (ndn_le _ _) (Nat.lt_of_le_of_lt Nat.and_le_left hR1)
  have last : ∀ k : Nat, n ≤ k → B_X5_nightsFrom_99 Q (night : Int) σ := by
    intro k hk
    unfold B_X5_nightsFrom_99
    rw [e0, wr_id (by omega) (by omega)]
    have em : o_max 0 ((n : Int) - (night : Int)) = ((n - night : Nat) : Int) := by
      unfold o_max
      split <;> omega
    rw [em]
    refine hQ _ (by omega) (fun f hf => ?_)
    rcases pth_n f hf hc with e | e <;> omega
  have key : ∀ m k : Nat, night ≤ k → (k + m = n ∨ (n ≤ k ∧ m = 0 ∧ k ≤ 10)) → L_X5_nightsFrom_25 Q (m + 1) (night : Int) (ndn R H : Int) (ndn (R &&& H) (H >>> 10) : Int) ((sNd K night (k - night) : Nat) : Int) (k : Int) σ := by
    intro m
    induction m with
    | zero =>
      intro k hk hm
      exact ⟨fun z => absurd z (by omega), fun _ => ⟨fun _ => last k (by omega), fun z => absurd (by omega) z⟩⟩
    | succ m ih =>
      intro k hk hm
      obtain ⟨n1, n2, n3, n4⟩ := h.2.2 k (by omega)
      have sl := sNd_le (K := K) (m := k - night) (night := night)
      have nd := ndV_v K k
      have la := bsN_lt (cmB M K k) n hn
      refine ⟨fun z => absurd z (by omega), fun _ => ⟨fun z => absurd z (by omega), fun _ => ⟨ixn (by omega), ?_⟩⟩⟩
      intro x ex
      have er := sNd_r (K := K) (m := k - night) (night := night)
      rw [show night + (k - night) = k by omega] at er
      rw [Int.toNat_natCast, n1, show ((sNd K night (k - night) : Nat) : Int) + (ndV K k : Int) = ((sNd K night (k - night + 1) : Nat) : Int) by rw [er]; omega, wr_n (by omega)] at ex
      subst ex
      refine ⟨ixn (by omega), ?_⟩
      rw [Int.toNat_natCast, n2, n_and (by omega) (by omega)]
      refine w_bitCount (Nat.lt_of_le_of_lt Nat.and_le_left l1) ⟨ixn (by omega), ?_⟩
      rw [n2, n_and (by omega) (by omega)]
      refine w_bitCount (Nat.lt_of_le_of_lt Nat.and_le_left l2) ?_
      have p1 := pop_le (X := ndn R H &&& bsN (cmB M K k) n)
      have p2 := pop_le (X := ndn (R &&& H) (H >>> 10) &&& bsN (cmB M K k) n)
      have av := av_bits (k := k) hx hH hR
      rw [wr_id (by omega) (by omega), av]
      refine ⟨fun z => ?_, fun z => ?_⟩
      · intro y ey
        rw [wks (by omega)] at ey
        subst ey
        have := ih (k + 1) (by omega) (by omega)
        rw [show k + 1 - night = k - night + 1 by omega] at this
        exact this
      · rw [show ((k : Int) - (night : Int)) = ((k - night : Nat) : Int) by omega, wr_n (by omega)]
        refine hQ _ (by omega) (fun f hf => ?_)
        refine Classical.byContradiction (fun y => z ?_)
        have := av_pth hx f hf hk (by omega)
        rw [show k + 1 - night = k - night + 1 by omega] at this
        exact this
  by_cases q : night ≤ n
  · have := key (n - night) night (Nat.le_refl _) (by omega)
    rw [Nat.sub_self] at this
    exact ⟨_, this⟩
  · have := key 0 night (Nat.le_refl _) (by omega)
    rw [Nat.sub_self] at this
    exact ⟨_, this⟩
