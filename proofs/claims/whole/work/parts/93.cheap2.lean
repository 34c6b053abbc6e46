/-! cheap -/
def prN (M : zM) (K : Nat → Int) (n p : Nat) : Nat := if p < n ∧ K p = 0 then (cosV M K p).toNat else 0
theorem cos_rr {σ : st_S} {M : zM} {K : Nat → Int} {n p : Nat} (h : cxC σ K n M) (hp : p < n) : 0 ≤ cosV M K p ∧ cosV M K p ≤ 999 := by
  have o2 := (h.2.1 p hp).2
  exact tlA_r (by decide) ⟨o2.1, by omega⟩ M.1
theorem prN_le {σ : st_S} {M : zM} {K : Nat → Int} {n : Nat} (h : cxC σ K n M) (p : Nat) : prN M K n p ≤ 9999 := by
  unfold prN
  split
  · rename_i q
    have := cos_rr h q.1
    omega
  · omega
theorem prN_top {M : zM} {K : Nat → Int} {n : Nat} (p : Nat) (hp : n ≤ p) : prN M K n p = 0 := by unfold prN; rw [if_neg (by omega)]
theorem w_askPrices {σ : st_S} {K : Nat → Int} {n : Nat} {M : zM} {Q : st_S → Prop} (h : ppC σ K n M) (hQ : ∀ τ, zP σ τ → ppC τ K n M → (∀ p, p < n → gI τ 44 p = (prN M K n p : Int)) → Q τ) : wp_X5_askPrices σ Q := by
  have hn := h.1.1.2.2
  have key : ∀ m p : Nat, p + m = n → ∀ τ, τ.2 = σ.2 → (∀ c j, ¬ (36 ≤ c ∧ c ≤ 38) → c ≠ 44 → gI τ c j = gI σ c j) → (∀ q, q < p → gI τ 44 q = (prN M K n q : Int)) → L_X5_askPrices_2 Q (m + 1) (p : Int) τ := by
    intro m
    induction m with
    | zero =>
      intro p hp τ a1 a2 a3
      have ep : p = n := by omega
      subst ep
      have zp : zP σ τ := ⟨a1, fun c j b1 b2 => a2 c j b1 (by omega)⟩
      have ct := cxC_P h.1 zp
      have e0 : gI τ 25 0 = (p : Int) := ct.1.1
      refine ⟨fun _ => hQ τ zp ⟨ct, ppA_of h.2.1 (fun c j q => a2 _ _ (by omega) (by omega)), ppN_of h.2.2 (fun c j q => a2 _ _ (by omega) (by omega))⟩ a3, fun z => absurd (by omega) z⟩
    | succ m ih =>
      intro p hp τ a1 a2 a3
      have zp : zP σ τ := ⟨a1, fun c j b1 b2 => a2 c j b1 (by omega)⟩
      have ct := cxC_P h.1 zp
      have e0 : gI τ 25 0 = (n : Int) := ct.1.1
      have cr := cos_rr ct (show p < n by omega)
      have put : ∀ (v : Int) ω, zJ τ ω → v = (prN M K n p : Int) → B_X5_askPrices_42 Q (L_X5_askPrices_2 Q (m + 1)) (p : Int) v (p : Int) ω := by
        intro v ω ho hv
        unfold B_X5_askPrices_42
        rw [wr_n (by omega)]
        refine ⟨ixn (by omega), ?_⟩
        intro s es x ex
        rw [wks (by omega)] at ex
        rw [Int.toNat_natCast] at es
        subst ex
        refine ih (p + 1) (by omega) s (by rw [es]; exact ho.1.trans a1) (fun c j b1 b2 => by rw [es, gI_sI, if_neg (by omega), ho.2 _ _ (by omega) (by omega) (by omega)]; exact a2 c j b1 b2) (fun q hq => ?_)
        by_cases e : q = p
        · subst e; rw [es, gI_sI, if_pos ⟨rfl, rfl⟩]; exact hv
        · rw [es, gI_sI, if_neg (by omega), ho.2 _ _ (by decide) (by decide) (by decide)]; exact a3 q (by omega)
      refine ⟨fun z => absurd z (by omega), fun _ => ⟨ixn (by omega), ?_⟩⟩
      rw [Int.toNat_natCast, show gI τ 29 p = K p from (ct.2.2.2.2.1 p (by omega)).1]
      refine ⟨fun z => put 0 τ zJ_rfl ?_, fun z => w_costs ct (by omega) (fun ω ho => put _ ω ho ?_)⟩
      · unfold prN; rw [if_neg (fun w => z w.2)]; rfl
      · unfold prN; rw [if_pos ⟨by omega, z⟩]; omega
  exact ⟨n + 1, key n 0 (by omega) σ rfl (fun _ _ _ _ => rfl) (fun q hq => absurd hq (by omega))⟩
theorem sxM_22 {σ : st_S} {n away hsh j : Nat} {M : zM} {v : Int} (h : sxM σ n M away hsh) : sxM (sI σ 22 j v) n M away hsh := by
  obtain ⟨hx, hl, hb, ga, gh, ha, hh⟩ := h
  exact ⟨cxM_of hx rfl, ⟨hl.1, hl.2⟩, bcM_of hb (fun j => rfl) rfl, ga, gh, ha, hh⟩
theorem sxM_N {σ τ : st_S} {n away hsh : Nat} {M : zM} (h : sxM σ n M away hsh) (g : zN σ τ) : sxM τ n M away hsh := by
  obtain ⟨hx, hl, hb, ga, gh, ha, hh⟩ := h
  exact ⟨cxM_of hx (zN_K g), lkM_of hl (zX_N g), bcM_of hb (fun j => g.2 _ _ (by omega) (by decide)) (zN_K g), by rw [g.2 _ _ (by omega) (by decide)]; exact ga, by rw [g.2 _ _ (by omega) (by decide)]; exact gh, ha, hh⟩
set_option maxHeartbeats 1000000 in
theorem m_cheapL {K : Nat → Int} {n away hsh T m i : Nat} {M : zM} {pr g : Nat → Nat} {F : Nat → Int} {Q : Int → st_S → Prop} (hn : n ≤ 10) (hpr : ∀ p, pr p ≤ 9999) (hprn : ∀ p, n ≤ p → pr p = 0) (hm10 : m ≤ 10) (hT : T < 1000000) (hi : i < m) : ∀ (d k used : Nat) {σ : st_S}, k + d = i → used < 1024 → gI σ 2 = K → (∀ p, p < 10 → gI σ 22 p = (pr p : Int)) → sxM σ n M away hsh → mmC σ (crL M K n away hsh) pr m → prS pr used n + chV (crL M K n away hsh) pr (m - k) k used = T → gRw (crL M K n away hsh) (nlF false g n) (sPr m n 0 T pr) (10 - k) k used 0 F → (∀ τ, zW σ τ → Q (F i) τ) → L_X11_cheap_126 Q (d + 1) (m : Int) (i : Int) (used : Int) (k : Int) σ := by
  intro d
  induction d with
  | zero => ?_
  | succ d ihd => ?_
  all_goals
    intro k used σ hk hu hK hp22 hs hm hT2 hG hQ
    rw [show 10 - k = (9 - k) + 1 by omega] at hG
    rcases hG with hG | ⟨hns, l1, c, l2, g1, g2, g3, g4, g5, g6⟩
    · exact absurd hG.1 (by omega)
    generalize hl : crL M K n away hsh k used = l at g1
    have nd := ndV_v K k
    have srt : List.Pairwise (· < ·) l := by rw [← hl]; exact pk_sort (by omega)
    have mem : ∀ Y, Y ∈ l → Y ∈ crL M K n away hsh k used := fun Y hY => by rw [hl]; exact hY
    have pos : ∀ Y, Y ∈ l → 1 ≤ Y := fun Y hY => (cr_mem (mem Y hY)).2.1
    have lt10 : ∀ Y, Y ∈ l → Y < 1024 := fun Y hY => (cr_mem (mem Y hY)).1
    have ll : l.length = l1.length + 1 + l2.length := by rw [g1, List.length_append, List.length_cons]; omega
    have lc : ∀ h : l1.length < l.length, l[l1.length] = c := fun h => by simp only [g1]; rw [List.getElem_append_right (Nat.le_refl _)]; simp
    have le1 : ∀ j (h : j < l.length), j < l1.length → l[j] ∈ l1 := fun j h hj => by simp only [g1]; rw [List.getElem_append_left hj]; exact List.getElem_mem hj
    have pe : ∀ Y, Y ∈ l → prS pr (used ||| Y) n = prS pr used n + prS pr Y 10 := fun Y hY => by rw [prS_or (fun p _ hp => cr_dis (mem Y hY) hp), prS_top (S := Y) hn hprn]
    have lo : ∀ Y, Y ∈ l → chV (crL M K n away hsh) pr (m - k) k used ≤ chV (crL M K n away hsh) pr (m - (k + 1)) (k + 1) (used ||| Y) + prS pr Y 10 := fun Y hY => by
      rw [show m - k = (m - (k + 1)) + 1 by omega]
      exact ls_fold.mpr (Or.inr ⟨Y, mem Y hY, Nat.le_refl _⟩)
    have rl : ∀ Y, Y ∈ l → (rR (crL M K n away hsh) (nlF false g n) (sPr m n 0 T pr) (9 - k) (k + 1) (used ||| Y) (nlF false g n Y) ↔ chV (crL M K n away hsh) pr (m - (k + 1)) (k + 1) (used ||| Y) + prS pr Y 10 = chV (crL M K n away hsh) pr (m - k) k used) := fun Y hY => by
      have q := rP_ch (K := K) (n := n) (away := away) (hsh := hsh) (lm := m) (e := 0) (T := T) (M := M) (pr := pr) (g := g) hn hm10 hprn (by omega) (9 - k) (m - (k + 1)) (night := k + 1) (used := used ||| Y) (ld := nlF false g n Y) (by omega) (by omega)
      rw [q, pe Y hY]
      have := lo Y hY
      constructor <;> intro w <;> omega
    have cb : ∀ f a b, chV (crL M K n away hsh) pr f a b ≤ 1000000 := fun f a b => chV_le
    have pb : ∀ Y, prS pr Y 10 ≤ 99990 := fun Y => prS_le hpr 10
    have key : ∀ m' j : Nat, j + m' = l1.length → ∀ τ (hj : j < l.length), zW σ τ → sxM τ n M away hsh → mmC τ (crL M K n away hsh) pr m → ∀ k126, (∀ υ, zW σ υ → sxM υ n M away hsh → mmC υ (crL M K n away hsh) pr m → (¬ k = i → k126 (m : Int) (i : Int) ((used ||| c : Nat) : Int) ((k + 1 : Nat) : Int) υ)) → L_X11_cheap_148 Q k126 (m' + 1) (m : Int) (i : Int) (used : Int) (k : Int) ((chV (crL M K n away hsh) pr (m - k) k used : Nat) : Int) (l[j] : Int) τ := by
      intro m'
      induction m' with
      | zero =>
        intro j hj0 τ hj z1 z2 z3 k126 hk126
        have ej : j = l1.length := by omega
        subst ej
        have ec := lc hj
        have c10 := lt10 _ (List.getElem_mem hj)
        have Kt : gI τ 2 = K := by rw [zW_K z1]; exact hK
        show wp_X11_cheapestFrom 13 _ _ _ _ _
        rw [ec] at c10 ⊢
        rw [wks (by omega), n_or (by omega) (by omega)]
        refine m_cheapestFrom hpr hm10 13 (k + 1) (used ||| c) (by omega) (by omega) (Nat.or_lt_two_pow (n := 10) hu c10) Kt (fun p hp => by rw [z1.2 _ _ (by omega) (by omega)]; exact hp22 p hp) z2 z3 (fun υ y1 y2 y3 => m_priceOf hpr c10 (fun p hp => by rw [y1.2 _ _ (by omega) (by omega), z1.2 _ _ (by omega) (by omega)]; exact hp22 p hp) ?_)
        have cm : c ∈ l := by rw [g1]; simp
        have r := (rl c cm).mp g3
        have := cb (m - (k + 1)) (k + 1) (used ||| c)
        have := pb c
        rw [show ((chV (crL M K n away hsh) pr (m - (k + 1)) (k + 1) (used ||| c) : Nat) : Int) + ((prS pr c 10 : Nat) : Int) = ((chV (crL M K n away hsh) pr (m - (k + 1)) (k + 1) (used ||| c) + prS pr c 10 : Nat) : Int) by omega, wr_n (by omega), r]
        refine ⟨fun _ => ⟨fun q => ?_, fun q => ?_⟩, fun w => absurd rfl w⟩
        · intro x ex y ey
          subst ex
          subst ey
          exact hk126 υ (zW_tr z1 y1) y2 y3 (by omega)
        · have ek : k = i := by omega
          rw [← g5, ek]
          exact hQ υ (zW_tr z1 y1)
      | succ m' ih =>
        intro j hj0 τ hj z1 z2 z3 k126 hk126
        have cm : l[j] ∈ l := List.getElem_mem hj
        have c10 := lt10 _ cm
        have Kt : gI τ 2 = K := by rw [zW_K z1]; exact hK
        show wp_X11_cheapestFrom 13 _ _ _ _ _
        rw [wks (by omega), n_or (by omega) (by omega)]
        refine m_cheapestFrom hpr hm10 13 (k + 1) (used ||| l[j]) (by omega) (by omega) (Nat.or_lt_two_pow (n := 10) hu c10) Kt (fun p hp => by rw [z1.2 _ _ (by omega) (by omega)]; exact hp22 p hp) z2 z3 (fun υ y1 y2 y3 => m_priceOf hpr c10 (fun p hp => by rw [y1.2 _ _ (by omega) (by omega), z1.2 _ _ (by omega) (by omega)]; exact hp22 p hp) ?_)
        have nr := g4 l[j] (le1 j hj (by omega)) (Nat.and_zero _)
        rw [rl _ cm] at nr
        have := cb (m - (k + 1)) (k + 1) (used ||| l[j])
        have := pb l[j]
        rw [show ((chV (crL M K n away hsh) pr (m - (k + 1)) (k + 1) (used ||| l[j]) : Nat) : Int) + ((prS pr l[j] 10 : Nat) : Int) = ((chV (crL M K n away hsh) pr (m - (k + 1)) (k + 1) (used ||| l[j]) + prS pr l[j] 10 : Nat) : Int) by omega, wr_n (by omega)]
        refine ⟨fun w => absurd (by omega) nr, fun _ => ?_⟩
        have Ku : gI υ 2 = K := by rw [zW_K y1]; exact Kt
        refine m_crewIn y2 (by omega) hu c10 (fun X ω a1 a2 a3 a4 a5 => ?_) (fun ω a1 a2 a3 => ?_)
        · rw [Ku, hl] at a3 a5
          obtain ⟨hx, ex⟩ := nx_sort srt (i := j + 1) a3 (Or.inr ⟨by omega, by omega, rfl⟩) a4 a5
          subst ex
          exact ih (j + 1) (by omega) ω hx (zW_tr z1 (zW_tr y1 (zW_X a1))) a2 (fun n' u' a b => by rw [a1.2 20 _ (by omega) (by decide) (by decide) (by decide)]; exact y3 n' u' a b) k126 hk126
        · rw [Ku, hl] at a3
          have := nx_end (i := j + 1) srt (Or.inr ⟨by omega, by omega, rfl⟩) a3
          omega
    show wp_X11_cheapestFrom 13 _ _ _ _ _
    refine m_cheapestFrom hpr hm10 13 k used (by omega) (by omega) hu hK hp22 hs hm (fun ρ r1 r2 r3 => ?_)
    have Kr : gI ρ 2 = K := by rw [zW_K r1]; exact hK
    refine m_crewIn r2 (by omega) hu (by decide) (fun X τ a1 a2 a3 a4 a5 => ?_) (fun τ a1 a2 a3 => ?_)
    · rw [Kr, hl] at a3 a5
      obtain ⟨hx, ex⟩ := nx_sort srt (i := 0) a3 (Or.inl ⟨rfl, rfl, pos⟩) a4 a5
      subst ex
      refine ⟨l1.length + 1, key l1.length 0 (by omega) τ hx (zW_tr r1 (zW_X a1)) a2 (fun n' u' a b => by rw [a1.2 20 _ (by omega) (by decide) (by decide) (by decide)]; exact r3 n' u' a b) _ (fun υ y1 y2 y3 q => ?_)⟩
      first
        | exact absurd (by omega) q
        | exact ihd (k + 1) (used ||| c) (by omega) (Nat.or_lt_two_pow (n := 10) hu (lt10 c (by rw [g1]; simp))) (by rw [zW_K y1]; exact hK) (fun p hp => by rw [y1.2 _ _ (by omega) (by omega)]; exact hp22 p hp) y2 y3 (by have r := (rl c (by rw [g1]; simp)).mp g3; rw [pe c (by rw [g1]; simp)]; omega) (by rw [show 10 - (k + 1) = 9 - k by omega]; exact g6) (fun ω w => hQ ω (zW_tr y1 w))
    · rw [Kr, hl] at a3
      have := nx_end (i := 0) srt (Or.inl ⟨rfl, rfl, pos⟩) a3
      omega
set_option maxHeartbeats 1000000 in
theorem st_cheap {B : Nat} {σc σm : st_S} (h : zInv B σc σm) (hk : zK1 σc) (a1 a2 : Int) : wp_X10_cheap a1 a2 σc (fun r τ => wp_X11_cheap a1 a2 σm (fun r2 υ => r = r2 ∧ zInv B τ υ)) := by
  obtain ⟨n, M, hx, hm, hsk, hr⟩ := inv_open h hk
  have hn := hx.1.2.2
  have h256 := hx.1.2.1
  have no : ¬ (1 ≤ a1 ∧ a1 ≤ 10) → B_X10_cheap_11 (fun r τ => wp_X11_cheap a1 a2 σm (fun r2 υ => r = r2 ∧ zInv B τ υ)) σc := fun q => m_lies (fun w => absurd w q) (fun _ => ⟨fun _ => ⟨rfl, h⟩, fun w => absurd rfl w⟩)
  refine ⟨fun z => no (by omega), fun z => ⟨fun y => ?_, fun y => no (by omega)⟩⟩
  obtain ⟨m, em⟩ : ∃ m : Nat, a1 = (m : Int) := ⟨a1.toNat, by omega⟩
  subst em
  refine w_prepare hx (fun τ1 z1 p1 => w_askPrices p1 (fun τ2 z2 p2 g2 => ?_))
  have pr9 := prN_le (M := M) hx
  have ref : ∀ (r : Int) τ, zS σc τ → (a2 < -1 ∨ (m : Int) ≤ a2 → r = -1) → (¬ chV (crL M (gI σm 2) n 0 0) (prN M (gI σm 2) n) m 0 0 < 1000000 → r = -1) → (chV (crL M (gI σm 2) n 0 0) (prN M (gI σm 2) n) m 0 0 < 1000000 → (a2 = -1 → r = (chV (crL M (gI σm 2) n 0 0) (prN M (gI σm 2) n) m 0 0 : Int)) ∧ ∀ i : Nat, a2 = (i : Int) → i < m → gRw (crL M (gI σm 2) n 0 0) (nlF false (gLd (gI σm 2)) n) (sPr m n 0 (chV (crL M (gI σm 2) n 0 0) (prN M (gI σm 2) n) m 0 0) (prN M (gI σm 2) n)) 10 0 0 0 (gI τ 61) ∧ r = gI τ 61 i) → wp_X11_cheap (m : Int) a2 σm (fun r2 υ => r = r2 ∧ zInv B τ υ) := by
    intro r τ zt q1 q2 q3
    have zc : agQ σc τ := zS_agQ zt hr
    refine m_lies (fun _ => ⟨fun w => absurd w (by decide), fun _ => ?_⟩) (fun w => absurd ⟨by omega, by omega⟩ w)
    rw [wr_id (by omega) (by omega)]
    refine m_lies (fun w2 => ⟨fun _ => m_looks hm (fun υ1 y1 y2 y3 => ?_), fun w => absurd w (by decide)⟩) (fun w2 => ⟨fun w => absurd rfl w, fun _ => ⟨q1 (by omega), h |> fun h => zInv_q h zc (zL_agN zL_rfl)⟩⟩)
    have key2 : ∀ k p : Nat, p + k = 10 → ∀ υ, zL σm υ → sxM υ n M 0 0 → (∀ j, j < 11264 → gI υ 20 j = -1) → (∀ q, q < p → gI υ 22 q = (prN M (gI σm 2) n q : Int)) → L_X11_cheap_51 (fun r2 υ => r = r2 ∧ zInv B τ υ) (k + 1) (m : Int) a2 (p : Int) υ := by
      intro k
      induction k with
      | zero =>
        intro p hp υ w1 w3 w4 w5
        refine ⟨fun _ => ?_, fun w => absurd (by omega) w⟩
        refine m_cheapestFrom (n := n) (M := M) (K := gI σm 2) (away := 0) (hsh := 0) (m := m) (pr := prN M (gI σm 2) n) pr9 (by omega) 13 0 0 (by omega) (by omega) (by decide) (zL_K w1) (fun q hq => w5 q (by omega)) w3 (fun n' u' a b => Or.inl (w4 _ (by omega))) (fun ω o1 o2 o3 => ?_)
        have zm : zL σm ω := zL_tr w1 (zL_W o1)
        have zi : zInv B τ ω := zInv_q h zc (zL_agN zm)
        rw [show m - 0 = m from rfl]
        refine ⟨fun w => ?_, fun w => ⟨q2 (by omega), zi⟩⟩
        have hT : chV (crL M (gI σm 2) n 0 0) (prN M (gI σm 2) n) m 0 0 < 1000000 := by omega
        refine ⟨fun u => ?_, fun u => ⟨(q3 hT).1 u, zi⟩⟩
        obtain ⟨i, ei⟩ : ∃ i : Nat, a2 = (i : Int) := ⟨a2.toNat, by omega⟩
        obtain ⟨v1, v2⟩ := (q3 hT).2 i ei (by omega)
        subst ei
        exact ⟨i + 1, m_cheapL (n := n) (M := M) (K := gI σm 2) (away := 0) (hsh := 0) (m := m) (T := chV (crL M (gI σm 2) n 0 0) (prN M (gI σm 2) n) m 0 0) (pr := prN M (gI σm 2) n) (g := gLd (gI σm 2)) (F := gI τ 61) hn pr9 (fun p hp => prN_top p hp) (by omega) hT (by omega) i 0 0 (by omega) (by decide) (zL_K zm) (fun q hq => by rw [o1.2 _ _ (by omega) (by omega)]; exact w5 q (by omega)) o2 o3 (by rw [prS_z, Nat.zero_add]; rfl) v1 (fun ρ u' => ⟨v2, zInv_q h zc (zL_agN (zL_tr zm (zL_W u')))⟩)⟩
      | succ k ih =>
        intro p hp υ w1 w3 w4 w5
        have Ku := zL_K w1
        have put : ∀ (v : Int) ω, zN υ ω → v = (prN M (gI σm 2) n p : Int) → B_X11_cheap_90 (fun r2 υ => r = r2 ∧ zInv B τ υ) (L_X11_cheap_51 (fun r2 υ => r = r2 ∧ zInv B τ υ) (k + 1)) (m : Int) a2 (p : Int) v (p : Int) ω := by
          intro v ω ho hv
          unfold B_X11_cheap_90
          rw [wr_n (by omega)]
          refine ⟨ixn (by omega), ?_⟩
          intro s es x ex
          rw [wks (by omega)] at ex
          rw [Int.toNat_natCast] at es
          subst ex
          subst es
          refine ih (p + 1) (by omega) _ (zL_tr w1 (zL_tr (zL_N ho) (zL_sI (by omega)))) (sxM_22 (sxM_N w3 ho)) (fun j hj => ?_) (fun q hq => ?_)
          · rw [gI_sI, if_neg (by omega), ho.2 _ _ (by omega) (by decide)]; exact w4 j hj
          · by_cases e : q = p
            · subst e; rw [gI_sI, if_pos ⟨rfl, rfl⟩]; exact hv
            · rw [gI_sI, if_neg (by omega), ho.2 _ _ (by omega) (by decide)]; exact w5 q (by omega)
        refine ⟨fun w => absurd w (by omega), fun _ => m_isPerson hn (by rw [Ku]; exact h256) (fun u => ⟨fun w => absurd w (by decide), fun _ => ?_⟩) (fun u => ⟨fun _ => put 0 υ zN_rfl ?_, fun w => absurd rfl w⟩)⟩
        · rw [wk0 (by omega)]
          refine ⟨ixn (by omega), ?_⟩
          rw [Int.toNat_natCast, Ku]
          have cr := cos_rr hx (show p < n by omega)
          refine ⟨fun w => put 0 υ zN_rfl ?_, fun w => m_costsNow (cxM_of hm Ku) (by omega) (fun ω ho => put _ ω ho ?_)⟩
          · unfold prN; rw [if_neg (fun w' => w w'.2)]; rfl
          · unfold prN; rw [if_pos ⟨by omega, w⟩, Ku]; omega
        · unfold prN; rw [if_neg (fun w' => u ⟨by omega, by have := w'.1; omega⟩)]; rfl
    have key1 : ∀ k j : Nat, j + k = 11264 → ∀ υ, zL σm υ → sxM υ n M 0 0 → (∀ q, q < j → gI υ 20 q = -1) → L_X11_cheap_29 (fun r2 υ => r = r2 ∧ zInv B τ υ) (k + 1) (m : Int) a2 (j : Int) υ := by
      intro k
      induction k with
      | zero =>
        intro j hj υ w1 w3 w4
        exact ⟨fun _ => ⟨11, key2 10 0 (by omega) υ w1 w3 (fun q hq => w4 q (by omega)) (fun q hq => absurd hq (by omega))⟩, fun w => absurd (by omega) w⟩
      | succ k ih =>
        intro j hj υ w1 w3 w4
        refine ⟨fun w => absurd w (by omega), fun _ => ⟨ixn (by omega), ?_⟩⟩
        intro s es x ex
        rw [wks (by omega)] at ex
        rw [Int.toNat_natCast] at es
        subst ex
        subst es
        refine ih (j + 1) (by omega) _ (zL_tr w1 (zL_sI (by omega))) (sxM_20 w3) (fun q hq => ?_)
        by_cases e : q = j
        · subst e; rw [gI_sI, if_pos ⟨rfl, rfl⟩]
        · rw [gI_sI, if_neg (by omega)]; exact w4 q (by omega)
    exact ⟨11265, key1 11264 0 (by omega) υ1 y1 y2 (fun q hq => absurd hq (by omega))⟩
  have z12 : zS σc τ2 := zS_tr (zS_P z1) (zS_P z2)
  refine w_cheapest (m := m) (pr := prN M (gI σm 2) n) p2 (sKd_of hsk z12.1) (by omega) pr9 (fun p hp => prN_top p hp) g2 (fun τ zt hT hG => ?_) (fun τ zt hT => ?_)
  · have zs := zS_tr z12 zt
    refine ⟨fun w => ref _ τ zs (fun u => by omega) (fun u => absurd hT u) (fun _ => ⟨fun _ => rfl, fun i ei => by omega⟩), fun w => ⟨fun u => ?_, fun u => absurd u (by omega)⟩⟩
    refine ⟨fun q => ref _ τ zs (fun _ => rfl) (fun _ => rfl) (fun _ => ⟨fun v => absurd v w, fun i ei => by omega⟩), fun q => ⟨fun q' => ref _ τ zs (fun _ => rfl) (fun _ => rfl) (fun _ => ⟨fun v => absurd v w, fun i ei hi => by omega⟩), fun q' => ⟨fun q'' => absurd q'' (by omega), fun q'' => ⟨⟨by omega, by omega⟩, ref _ τ zs (fun v => by omega) (fun v => absurd hT v) (fun _ => ⟨fun v => absurd v w, fun i ei hi => by subst ei; exact ⟨hG, rfl⟩⟩)⟩⟩⟩⟩
  · have zs := zS_tr z12 zt
    exact ⟨fun w => ref _ τ zs (fun _ => rfl) (fun _ => rfl) (fun u => absurd u hT), fun w => ⟨fun u => absurd rfl u, fun _ => ref _ τ zs (fun _ => rfl) (fun _ => rfl) (fun u => absurd u hT)⟩⟩
