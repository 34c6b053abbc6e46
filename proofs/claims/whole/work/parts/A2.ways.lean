/-! ways: the class's rows of longs, night by night -/
theorem p_eqL {x : Int} : p_cmp x 0 = 0 ↔ eqL x 0 := by
  have e : p_cmp x 0 = p_cmp (wl x) 0 := by
    unfold p_cmp
    rw [show jI (wl x) = jI x from jI_eq.mpr (wl_wl x)]
  rw [e, p_eq (wl_wl x) (by decide)]
  exact Iff.rfl
theorem smI_eqL {f g : Nat → Int} {n : Nat} (h : ∀ i, i < n → eqL (f i) (g i)) : eqL (smI f n) (smI g n) := by
  induction n with
  | zero => exact eqL_rfl
  | succ n ih => exact eqL_add (ih (fun i hi => h i (by omega))) (h n (by omega))
def zQw (σ τ : st_S) : Prop := τ.2.2 = σ.2.2 ∧ (∀ c j, c ≠ 56 → gR τ c j = gR σ c j) ∧ ∀ c j, ¬ (c = 42 ∧ 13 ≤ j ∧ j ≤ 16) → c ≠ 51 → c ≠ 63 → c ≠ 64 → gI τ c j = gI σ c j
theorem zQw_rfl {σ : st_S} : zQw σ σ := ⟨rfl, fun _ _ _ => rfl, fun _ _ _ _ _ _ => rfl⟩
theorem zQw_tr {σ τ υ : st_S} (h : zQw σ τ) (g : zQw τ υ) : zQw σ υ := ⟨g.1.trans h.1, fun c j q => (g.2.1 c j q).trans (h.2.1 c j q), fun c j a b d e => (g.2.2 c j a b d e).trans (h.2.2 c j a b d e)⟩
theorem zQw_sp {σ τ : st_S} {t' : Nat} (ht : t' = 63 ∨ t' = 64) (h : zSp t' σ τ) : zQw σ τ := ⟨by rw [h.1], fun c j _ => by unfold gR; rw [h.1], fun c j a b d e => h.2 c j a b (by omega)⟩
theorem ppC_V {σ τ : st_S} {K : Nat → Int} {n : Nat} {M : zM} (h : ppC σ K n M) (g : zQw σ τ) : ppC τ K n M := ppC_R h g.1 g.2.1 (fun c j q => g.2.2 c j (by omega) (by omega) (by omega) (by omega))
theorem zSp_tr {t' : Nat} {σ τ υ : st_S} (h : zSp t' σ τ) (g : zSp t' τ υ) : zSp t' σ υ := ⟨g.1.trans h.1, fun c j a b d => (g.2 c j a b d).trans (h.2 c j a b d)⟩
theorem sG_rw {cr : Nat → Nat → List Nat} {f night u : Nat} : eqL (sG (rwV cr f (night + 1)) u (cr night u)) (rwV cr (f + 1) night u) := eqL_sy (rwV_s (cr night u) 0)
theorem rwV_cn {cr : Nat → Nat → List Nat} : ∀ {f night u : Nat}, wl (rwV cr f night u) = rwV cr f night u := by
  intro f night u
  cases f with
  | zero => rfl
  | succ f =>
    have key : ∀ (l : List Nat) (b : Int), wl b = b → wl (l.foldl (fun b c => wl (b + rwV cr f (night + 1) (u ||| c))) b) = l.foldl (fun b c => wl (b + rwV cr f (night + 1) (u ||| c))) b := by
      intro l
      induction l with
      | nil => intro b h; exact h
      | cons c l ih => intro b _; rw [List.foldl_cons]; exact ih _ (wl_wl _)
    exact key _ 0 (by decide)
/-- one night -/
theorem w_night {k25 : Int → Int → Int → st_S → Prop} {Q : Int → st_S → Prop} {σ : st_S} {K : Nat → Int} {n night t t' : Nat} {a1 : Int} {M : zM} (h : ppC σ K n M) (ht : gR σ 56 8 = some t) (ht' : gR σ 56 9 = some t') (htt : (t = 63 ∧ t' = 64) ∨ (t = 64 ∧ t' = 63)) (hk : rwK σ) (hN : night ≤ 9) (h0 : ∀ v, v < 2 ^ n → gI σ t' v = 0) (hct : ∀ v, v < 2 ^ n → ¬ gI σ t v = 0 → night ≤ ctN v n)
    (hQ : ∀ τ, zSp t' σ τ → (∀ G, eqL (smI (fun v => gI τ t' v * G v) (2 ^ n)) (smI (fun u => gI σ t u * sG G u (crL M K n 0 0 night u)) (2 ^ n))) → (∀ v, v < 2 ^ n → ¬ gI τ t' v = 0 → night + 1 ≤ ctN v n) → k25 a1 ((2 ^ n : Nat) : Int) ((night + 1 : Nat) : Int) (sR (sR τ 56 8 (some t')) 56 9 (some t))) : ∃ m : Nat, L_X8_rowsOf_41 Q k25 m a1 ((2 ^ n : Nat) : Int) (night : Int) 0 σ := by
  have hn := h.1.1.2.2
  have pn := pw_le hn
  generalize eN : 2 ^ n = N at *
  have kt : gK σ t = 1 ∧ gL σ t = 1024 := by rcases htt with w | w <;> rw [w.1]; exact hk.1; exact hk.2
  have tt : t ≠ t' ∧ t ≠ 51 ∧ t ≠ 42 ∧ t' ≠ 51 ∧ t' ≠ 42 := by omega
  have key : ∀ k i : Nat, i + k = N → ∀ τ, zSp t' σ τ → (∀ G, eqL (smI (fun v => gI τ t' v * G v) N) (smI (fun u => gI σ t u * sG G u (crL M K n 0 0 night u)) i)) → (∀ v, v < N → ¬ gI τ t' v = 0 → night + 1 ≤ ctN v n) → L_X8_rowsOf_41 Q k25 (k + 1) a1 (N : Int) (night : Int) (i : Int) τ := by
    intro k
    induction k with
    | zero =>
      intro i hi τ a1 a2 a3
      have eR : ∀ c j, gR τ c j = gR σ c j := fun c j => by unfold gR; rw [a1.1]
      refine ⟨fun _ => ⟨t, by rw [eR]; exact ht, t', by rw [eR]; exact ht', ?_⟩, fun z => absurd (by omega) z⟩
      intro s es s2 es2 x ex
      rw [wks (by omega)] at ex
      subst es es2 ex
      rw [show i = N by omega] at a2
      exact hQ τ a1 a2 a3
    | succ k ih =>
      intro i hi τ b1 b2 b3
      have eR : ∀ c j, gR τ c j = gR σ c j := fun c j => by unfold gR; rw [b1.1]
      have eK : ∀ c, gK τ c = gK σ c := fun c => by unfold gK; rw [b1.1]
      have eL : ∀ c, gL τ c = gL σ c := fun c => by unfold gL; rw [b1.1]
      have eti : gI τ t i = gI σ t i := b1.2 t i (by omega) tt.2.1 tt.1
      refine ⟨fun z => absurd z (by omega), fun _ => ⟨t, by rw [eR]; exact ht, by rw [eK]; exact kt.1, by rw [eL, kt.2]; exact ixn (by omega), ?_⟩⟩
      rw [Int.toNat_natCast, eti, p_eqL]
      refine ⟨fun z => ?_, fun z => ?_⟩
      · intro x ex
        rw [wks (by omega)] at ex
        subst ex
        refine ih (i + 1) (by omega) τ b1 (fun G => eqL_tr (b2 G) ?_) b3
        show eqL _ (smI _ i + gI σ t i * _)
        have q := eqL_mul (c := sG G i (crL M K n 0 0 night i)) z
        rw [Int.zero_mul] at q
        have r := eqL_add (eqL_rfl (x := smI (fun u => gI σ t u * sG G u (crL M K n 0 0 night u)) i)) (eqL_sy q)
        rw [Int.add_zero] at r
        exact r
      · have nz : ¬ gI σ t i = 0 := fun w => z (by rw [w]; exact eqL_rfl)
        refine w_spread (ppC_V h (zQw_sp (by omega) b1)) (by rw [eR]; exact ht) (by rw [eR]; exact ht') htt (rwK_of hk (by rw [b1.1])) hN (by omega) (hct i (by omega) nz) (fun υ c1 c2 c3 => ?_)
        intro x ex
        rw [wks (by omega)] at ex
        subst ex
        refine ih (i + 1) (by omega) υ (zSp_tr b1 c1) (fun G => ?_) (fun v hv hz => ?_)
        · have q := c2 G
          rw [eti, eN] at q
          exact eqL_tr q (eqL_add (b2 G) eqL_rfl)
        · rcases c3 v hz with w | w
          · exact b3 v hv w
          · exact w
  refine ⟨N + 1, key N 0 (by omega) σ ⟨rfl, fun _ _ _ _ _ => rfl⟩ (fun G => ?_) (fun v hv hz => absurd (h0 v hv) hz)⟩
  show eqL _ 0
  have e : smI (fun v => gI σ t' v * G v) N = smI (fun _ => 0) N := smI_congr (fun i hi => by show gI σ t' i * G i = 0; rw [h0 i hi, Int.zero_mul])
  rw [e, smI_zero (Nat.zero_le N) (fun _ _ _ => rfl)]
  exact eqL_rfl
set_option maxHeartbeats 400000 in
theorem w_rowsOf {σ : st_S} {K : Nat → Int} {n m : Nat} {M : zM} {Q : Int → st_S → Prop} (h : ppC σ K n M) (hr : zRr σ) (hk : rwK σ) (hm : m ≤ 10) (hQ : ∀ τ, zQw σ τ → zRr τ → Q (rwV (crL M K n 0 0) m 0 0) τ) : wp_X8_rowsOf (m : Int) σ Q := by
  have hn := h.1.1.2.2
  have pn := pw_le hn
  have p1 : 1 ≤ 2 ^ n := Nat.one_le_two_pow
  have en : gI σ 25 0 = (n : Int) := h.1.1.1
  show ∃ _, _
  rw [en, show o_max 0 (o_min 10 (n : Int)) = (n : Int) by unfold o_max o_min; split <;> split <;> omega, shl_n hn]
  generalize eN : 2 ^ n = N at *
  generalize eA : rwV (crL M K n 0 0) m 0 0 = A at hQ
  have key : ∀ d k : Nat, k + d = m → ∀ τ t t', zQw σ τ → gR τ 56 8 = some t → gR τ 56 9 = some t' → ((t = 63 ∧ t' = 64) ∨ (t = 64 ∧ t' = 63)) → eqL (smI (fun v => gI τ t v * rwV (crL M K n 0 0) (m - k) k v) N) A → (∀ v, v < N → ¬ gI τ t v = 0 → k ≤ ctN v n) → L_X8_rowsOf_25 Q (d + 1) (m : Int) (N : Int) (k : Int) τ := by
    intro d
    induction d with
    | zero =>
      intro k hkd τ t t' z ht ht' htt hs hc
      refine ⟨fun _ => ?_, fun w => absurd (by omega) w⟩
      have kt : gK τ t = 1 ∧ gL τ t = 1024 := by rcases htt with w | w <;> rw [w.1]; exact (rwK_of hk z.1).1; exact (rwK_of hk z.1).2
      have lk : ∀ e i : Nat, i + e = N → ∀ x : Int, wl x = x → eqL x (smI (gI τ t) i) → L_X8_rowsOf_103 Q (e + 1) (N : Int) x (i : Int) τ := by
        intro e
        induction e with
        | zero =>
          intro i hi x hx ex
          refine ⟨fun _ => ?_, fun w => absurd (by omega) w⟩
          have e1 : (fun v => gI τ t v * rwV (crL M K n 0 0) (m - k) k v) = gI τ t := funext fun v => by rw [show m - k = 0 by omega]; exact Int.mul_one _
          rw [e1] at hs
          rw [show i = N by omega] at ex
          have q : x = A := by
            have q := eqL_tr ex hs
            unfold eqL at q
            rw [hx, ← eA, rwV_cn, eA] at q
            exact q
          rw [q]
          refine hQ τ z ?_
          unfold zRr
          rw [ht, ht']
          rcases htt with w | w
          · exact Or.inl ⟨by rw [w.1], by rw [w.2]⟩
          · exact Or.inr ⟨by rw [w.1], by rw [w.2]⟩
        | succ e ih =>
          intro i hi x hx ex
          refine ⟨fun w => absurd w (by omega), fun _ => ⟨t, ht, kt.1, by rw [kt.2]; exact ixn (by omega), ?_⟩⟩
          intro y ey i' ei
          rw [wks (by omega)] at ei
          rw [Int.toNat_natCast] at ey
          subst ey ei
          exact ih (i + 1) (by omega) _ (wl_wl _) (eqL_tr (eqL_wl _) (eqL_add ex eqL_rfl))
      exact ⟨N + 1, lk N 0 (by omega) 0 (by decide) eqL_rfl⟩
    | succ d ih =>
      intro k hkd τ t t' z ht ht' htt hs hc
      have kk := rwK_of hk z.1
      have kt' : gK τ t' = 1 ∧ gL τ t' = 1024 := by rcases htt with w | w <;> rw [w.2]; exact kk.2; exact kk.1
      have tt : t ≠ t' := by omega
      refine ⟨fun w => absurd w (by omega), fun _ => ⟨t', ht', w_fillL kt'.1 (by rw [kt'.2]; decide) ?_⟩⟩
      generalize es : sF τ t' (fun j => if j < gL τ t' then 0 else gI τ t' j) = s
      have s2 : s.2 = τ.2 := by rw [← es]; rfl
      have so : ∀ c j, c ≠ t' → gI s c j = gI τ c j := fun c j q => by rw [← es, gI_sF, if_neg q]
      have s0 : ∀ v, v < N → gI s t' v = 0 := fun v hv => by rw [← es, gI_sF, if_pos rfl, if_pos (by rw [kt'.2]; omega)]
      have zs : zQw τ s := ⟨by rw [s2], fun c j _ => by unfold gR; rw [s2], fun c j a b d e => so c j (by omega)⟩
      have st : gI s t = gI τ t := funext fun j => so t j tt
      subst eN
      refine w_night (ppC_V h (zQw_tr z zs)) (by unfold gR at ht ⊢; rw [s2]; exact ht) (by unfold gR at ht' ⊢; rw [s2]; exact ht') htt (rwK_of kk (by rw [s2])) (by omega) s0 (fun v hv hz => hc v hv (by rw [← st]; exact hz)) (fun υ c1 c2 c3 => ?_)
      have zu : zQw s υ := zQw_sp (by omega) c1
      have zw : zQw υ (sR (sR υ 56 8 (some t')) 56 9 (some t)) := ⟨rfl, fun c j q => by rw [gR_sR, gR_sR, if_neg (fun w => q w.1), if_neg (fun w => q w.1)], fun _ _ _ _ _ _ => rfl⟩
      refine ih (k + 1) (by omega) _ t' t (zQw_tr (zQw_tr z zs) (zQw_tr zu zw)) (by rw [gR_sR, gR_sR, if_neg (by omega), if_pos ⟨rfl, rfl⟩]) (by rw [gR_sR, if_pos ⟨rfl, rfl⟩]) (by omega) ?_ (fun v hv hz => c3 v hv hz)
      refine eqL_tr (c2 (rwV (crL M K n 0 0) (m - (k + 1)) (k + 1))) (eqL_tr (smI_eqL (fun i hi => ?_)) hs)
      rw [st, show m - k = (m - (k + 1)) + 1 by omega]
      exact eqL_mulr sG_rw
  have root : ∀ t t', gR σ 56 8 = some t → gR σ 56 9 = some t' → ((t = 63 ∧ t' = 64) ∨ (t = 64 ∧ t' = 63)) → ∃ t64 : Nat, gR σ 56 8 = some t64 ∧ wp_J7_fill_d0a16 t64 0 σ (fun s66 => ∃ t67 : Nat, gR s66 56 8 = some t67 ∧ gK s66 t67 = 1 ∧ ix 0 (gL s66 t67) ∧ ∀ s70 : st_S, s70 = sI s66 t67 0 1 → ∃ m25 : Nat, L_X8_rowsOf_25 Q m25 (m : Int) (N : Int) 0 s70) := by
    intro t t' ht ht' htt
    have kt : gK σ t = 1 ∧ gL σ t = 1024 := by rcases htt with w | w <;> rw [w.1]; exact hk.1; exact hk.2
    refine ⟨t, ht, w_fillL kt.1 (by rw [kt.2]; decide) ⟨t, ht, kt.1, by rw [gL_sF, kt.2]; exact ⟨by decide, by decide⟩, ?_⟩⟩
    intro s es
    have s2 : s.2 = σ.2 := by rw [es]; rfl
    have so : ∀ c j, c ≠ t → gI s c j = gI σ c j := fun c j q => by rw [es, gI_sI, if_neg (fun w => q w.1), gI_sF, if_neg q]
    have s0 : gI s t 0 = 1 := by rw [es, gI_sI, if_pos ⟨rfl, rfl⟩]
    have sv : ∀ v, v < N → v ≠ 0 → gI s t v = 0 := fun v hv q => by rw [es, gI_sI, if_neg (fun w => q w.2), gI_sF, if_pos rfl, if_pos (by rw [kt.2]; omega)]
    refine ⟨m + 1, key m 0 (by omega) s t t' ⟨by rw [s2], fun c j _ => by unfold gR; rw [s2], fun c j a b d e => so c j (by omega)⟩ (by unfold gR at ht ⊢; rw [s2]; exact ht) (by unfold gR at ht' ⊢; rw [s2]; exact ht') htt ?_ (fun _ _ _ => Nat.zero_le _)⟩
    have e1 : smI (fun v => gI s t v * rwV (crL M K n 0 0) (m - 0) 0 v) N = smI (fun v => gI s t v * rwV (crL M K n 0 0) (m - 0) 0 v) 1 := smI_zero p1 (fun i h1 h2 => by show gI s t i * _ = 0; rw [sv i h2 (by omega), Int.zero_mul])
    rw [e1]
    show eqL (0 + gI s t 0 * rwV (crL M K n 0 0) m 0 0) A
    rw [s0, Int.zero_add, Int.one_mul, eA]
    exact eqL_rfl
  rcases hr with ⟨r1, r2⟩ | ⟨r1, r2⟩
  · exact root 63 64 r1 r2 (Or.inl ⟨rfl, rfl⟩)
  · exact root 64 63 r1 r2 (Or.inr ⟨rfl, rfl⟩)
theorem st_ways {B : Nat} {σc σm : st_S} (h : zInv B σc σm) (hk : zK1 σc) (a1 : Int) : wp_X10_ways a1 σc (fun r τ => wp_X11_ways a1 σm (fun r2 υ => r = r2 ∧ zInv B τ υ)) := by
  obtain ⟨n, M, hx, hm, hsk, hr⟩ := inv_open h hk
  have non : (a1 < 0 ∨ 10 < a1) → wp_X11_ways a1 σm (fun r2 υ => (-1 : Int) = r2 ∧ zInv B σc υ) := fun q => m_lies (fun w => absurd w (by omega)) (fun _ => ⟨fun w => absurd rfl w, fun _ => ⟨rfl, h⟩⟩)
  refine ⟨fun q => non (Or.inl q), fun q => ⟨fun q2 => ?_, fun q2 => non (Or.inr (by omega))⟩⟩
  obtain ⟨m, em⟩ : ∃ m : Nat, a1 = (m : Int) := ⟨a1.toNat, by omega⟩
  subst em
  refine w_prepare hx (fun τ1 z1 p1 => ?_)
  have r1 : zRr τ1 := by unfold zRr gR at hr ⊢; rw [z1.1]; exact hr
  refine w_rowsOf p1 r1 (rwK_of ⟨zK1_at hk 63 1 1024 (by rfl), zK1_at hk 64 1 1024 (by rfl)⟩ (by rw [z1.1])) (by omega) (fun τ z2 r2 => ?_)
  have zc : agQ σc τ := by
    refine ⟨⟨by rw [z2.1, z1.1], fun c j q => by rw [z2.2.1 c j q]; unfold gR; rw [z1.1], fun c j q => ?_⟩, ?_, fun k => ?_, r2⟩
    · rw [z2.2.2 c j (by unfold lsC at q; omega) (by unfold lsC at q; omega) (by unfold lsC at q; omega) (by unfold lsC at q; omega)]
      exact z1.2 c j (by unfold lsC at q; omega) (by unfold lsC at q; omega)
    · rw [z2.2.2 _ _ (by omega) (by decide) (by decide) (by decide)]
      exact z1.2 _ _ (by omega) (by omega)
    · rw [z2.2.2 _ _ (by omega) (by decide) (by decide) (by decide)]
      exact z1.2 _ _ (by omega) (by omega)
  refine m_lies (fun w => ⟨fun _ => ?_, fun w => absurd w (by decide)⟩) (fun w => absurd (by omega) w)
  refine m_looks hm (fun υ1 y1 y2 y3 => ?_)
  refine m_waysL (by omega) (zL_K y1) y2 (fun υ2 y4 => ⟨rfl, zInv_q h zc (zL_agN (zL_tr y1 (zL_W y4)))⟩)
