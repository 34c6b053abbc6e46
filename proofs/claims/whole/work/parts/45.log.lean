/-! what can be undone -/
theorem w_placeOf {o i : Nat} {σ : st_S} {Q : Int → st_S → Prop} (ho : o < 16) (hi : i ≤ 16) (e : gI σ 39 1 = (o : Int)) (hQ : Q (((o + i) % 16 * 35 : Nat) : Int) σ) : wp_X4_placeOf (i : Int) σ Q := by
  show wp_J9_floorMod_7cf53 (wr (gI σ 39 1 + (i : Int))) 16 σ _
  rw [e, show (o : Int) + (i : Int) = ((o + i : Nat) : Int) by omega, wr_n (by omega)]
  refine w_floorMod (by omega) ?_
  show Q (wr (((o + i) % 16 : Nat) * 35)) σ
  rw [show ((((o + i) % 16 : Nat) : Int) * 35) = (((o + i) % 16 * 35 : Nat) : Int) by omega, wr_n (by omega)]
  exact hQ
theorem wka (a b : Nat) (h : a + b < 100000) (x : Int) (hx : x = (b : Int)) : wr ((a : Int) + x) = ((a + b : Nat) : Int) := by
  rw [hx, show (a : Int) + (b : Int) = ((a + b : Nat) : Int) by omega, wr_n (by omega)]
theorem cpo {a b n m1 m2 : Nat} (h1 : a + n ≤ m1) (h2 : b + n ≤ m2) {x y z : Int} (hx : x = (a : Int)) (hy : y = (b : Int)) (hz : z = (n : Int)) : cpOk x y z m1 m2 := by
  subst hx hy hz
  exact ⟨by omega, by omega, by omega, by omega, by omega⟩
/-- the store behind takeBack -/
def tbS (σ : st_S) (m a : Nat) : st_S := sC (sC (sC (sI (sI (sI (sI (sI σ 39 0 (m : Int)) 33 0 (gI σ 40 (a + 1))) 25 12 (gI σ 40 (a + 2))) 25 13 (gI σ 40 (a + 3))) 25 14 (gI σ 40 (a + 4))) 40 ((a + 5 : Nat) : Int) 28 0 10) 40 ((a + 15 : Nat) : Int) 29 0 10) 40 ((a + 25 : Nat) : Int) 30 0 10
theorem w_takeBack {m o : Nat} {σ : st_S} {Q : Int → st_S → Prop} (hm : gI σ 39 0 = ((m + 1 : Nat) : Int)) (hm2 : m < 16) (ho : o < 16) (eo : gI σ 39 1 = (o : Int)) (hQ : Q (gI σ 40 ((o + m) % 16 * 35)) (tbS σ m ((o + m) % 16 * 35))) : wp_X4_takeBack σ Q := by
  refine ⟨fun _ => ?_, fun q => absurd (show 0 < gI σ 39 0 by omega) q⟩
  intro x ex
  rw [hm, show (((m + 1 : Nat) : Int) - 1) = (m : Int) by omega, wr_n (by omega)] at ex
  subst ex
  intro s es
  subst es
  refine w_placeOf (o := o) (i := m) ho (by omega) eo ?_
  have ha : (o + m) % 16 * 35 + 34 < 560 := by omega
  generalize (o + m) % 16 * 35 = a at ha hQ ⊢
  show ix _ _ ∧ _
  rw [wka a 1 (by omega) 1 rfl]
  refine ⟨ixn (by omega), ?_⟩
  intro s1 e1
  rw [wka a 2 (by omega) 2 rfl]
  refine ⟨ixn (by omega), ?_⟩
  intro s2 e2
  rw [wka a 3 (by omega) 3 rfl]
  refine ⟨ixn (by omega), ?_⟩
  intro s3 e3
  rw [wka a 4 (by omega) 4 rfl]
  refine ⟨ixn (by omega), ?_⟩
  intro s4 e4
  have w5 : wr ((a : Int) + 5) = ((a + 5 : Nat) : Int) := wka a 5 (by omega) 5 rfl
  have w15 : wr ((a : Int) + 5 + 10) = ((a + 15 : Nat) : Int) := by rw [show (a : Int) + 5 + 10 = (a : Int) + 15 from by rw [Int.add_assoc]; rfl]; exact wka a 15 (by omega) 15 rfl
  have w25 : wr ((a : Int) + 5 + 20) = ((a + 25 : Nat) : Int) := by rw [show (a : Int) + 5 + 20 = (a : Int) + 25 from by rw [Int.add_assoc]; rfl]; exact wka a 25 (by omega) 25 rfl
  rw [w5, w15, w25]
  clear w5 w15 w25
  refine ⟨cpo (a := a + 5) (b := 0) (n := 10) (by omega) (by omega) rfl rfl rfl, ?_⟩
  intro s5 e5
  refine ⟨cpo (a := a + 15) (b := 0) (n := 10) (by omega) (by omega) rfl rfl rfl, ?_⟩
  intro s6 e6
  refine ⟨cpo (a := a + 25) (b := 0) (n := 10) (by omega) (by omega) rfl rfl rfl, ?_⟩
  intro s7 e7
  refine ⟨ixn (by omega), ?_⟩
  have e : s7 = tbS σ m a := by
    rw [e7, e6, e5, e4, e3, e2, e1]
    rfl
  rw [e]
  exact hQ
theorem tb_28 (σ : st_S) (m a p : Nat) (h : p < 10) : gI (tbS σ m a) 28 p = gI σ 40 (a + 5 + p) := by
  show gI (sC _ 40 ((a + 5 : Nat) : Int) 28 0 10) 28 p = _
  rw [gI_sC, if_pos rfl, if_pos ⟨Nat.zero_le _, by show p < 0 + 10; omega⟩]
  rfl
theorem tb_29 (σ : st_S) (m a p : Nat) (h : p < 10) : gI (tbS σ m a) 29 p = gI σ 40 (a + 15 + p) := by
  show gI (sC _ 40 ((a + 15 : Nat) : Int) 29 0 10) 29 p = _
  rw [gI_sC, if_pos rfl, if_pos ⟨Nat.zero_le _, by show p < 0 + 10; omega⟩]
  rfl
theorem tb_30 (σ : st_S) (m a p : Nat) (h : p < 10) : gI (tbS σ m a) 30 p = gI σ 40 (a + 25 + p) := by
  show gI (sC _ 40 ((a + 25 : Nat) : Int) 30 0 10) 30 p = _
  rw [gI_sC, if_pos rfl, if_pos ⟨Nat.zero_le _, by show p < 0 + 10; omega⟩]
  rfl
theorem tb_o (σ : st_S) (m a c j : Nat) (h : c ≠ 28 ∧ c ≠ 29 ∧ c ≠ 30 ∧ c ≠ 33 ∧ ¬ (c = 39 ∧ j = 0) ∧ ¬ (c = 25 ∧ 12 ≤ j ∧ j ≤ 14)) : gI (tbS σ m a) c j = gI σ c j := by
  unfold tbS
  rw [gI_sC, if_neg h.2.2.1, gI_sC, if_neg h.2.1, gI_sC, if_neg h.1, gI_sI, if_neg (by omega), gI_sI, if_neg (by omega), gI_sI, if_neg (by omega), gI_sI, if_neg (by omega), gI_sI, if_neg (by omega)]
theorem tb_33 (σ : st_S) (m a j : Nat) : gI (tbS σ m a) 33 j = if j = 0 then gI σ 40 (a + 1) else gI σ 33 j := by
  show gI (sI (sI σ 39 0 (m : Int)) 33 0 (gI σ 40 (a + 1))) 33 j = _
  rw [gI_sI]
  by_cases e : j = 0
  · rw [if_pos ⟨rfl, e⟩, if_pos e]
  · rw [if_neg (fun z => e z.2), if_neg e]; rfl
/-- the reference's undo -/
theorem m_undoL {σ : st_S} {a : Nat} {Q : Int → st_S → Prop} (ha : a + 34 < 560) (hQ : wp_X11_good (gI σ 13 (a + 34)) (sW σ 2 0 34 (fun k => gI σ 13 (a + k))) (fun r s => Q r s)) : ∃ m, L_X11_undo_34 Q m (a : Int) 0 σ := by
  have key : ∀ n i : Nat, i + n = 34 → L_X11_undo_34 Q (n + 1) (a : Int) (i : Int) (sW σ 2 0 i (fun k => gI σ 13 (a + k))) := by
    intro n
    induction n with
    | zero =>
      intro i hi
      refine ⟨fun _ => ?_, fun q => absurd (show (34 : Int) ≤ (i : Int) by omega) q⟩
      rw [wka a 34 (by omega) 34 rfl]
      refine ⟨ixn (by omega), ?_⟩
      rw [show i = 34 by omega]
      exact hQ
    | succ n ih =>
      intro i hi
      refine ⟨fun q => absurd q (by omega), fun _ => ?_⟩
      rw [wka a i (by omega) (i : Int) rfl]
      refine ⟨ixn (by omega), ixn (by omega), ?_⟩
      intro s es x ex
      rw [wks (by omega)] at ex
      subst ex
      have e : s = sW σ 2 0 (i + 1) (fun k => gI σ 13 (a + k)) := by
        rw [es, ← sW_step, Nat.zero_add]
        rfl
      rw [e]
      exact ih (i + 1) (by omega)
  exact ⟨35, by have := key 34 0 (by omega); rw [sW_zero] at this; exact this⟩
set_option maxHeartbeats 400000 in
theorem st_undo {B : Nat} {σc σm : st_S} (h : zInv B σc σm) : wp_X10_undo σc (fun r τ => wp_X11_undo σm (fun r2 υ => r = r2 ∧ zInv B τ υ)) := by
  have h0 := h
  obtain ⟨⟨⟨n, c1, c2, c3, c4, c5, c6, c7, c8, c9, ca, cb⟩, hlog, himg, htp, hwd, hsc⟩, hst, hrr⟩ := h
  obtain ⟨c11, c12, c13⟩ := c1
  obtain ⟨n', l1, m, o, l2, l3, l4, l5, l6, l7⟩ := hlog
  have hn : n' = n := by omega
  subst hn
  rcases m with _ | m
  · refine ⟨fun q => absurd q (by omega), fun _ => ⟨fun q => absurd rfl q, fun _ => ?_⟩⟩
    refine w_refuse 3 (by decide) rfl ⟨fun q => absurd (show gI σm 0 28 = 0 by omega) q, fun _ => m_refuses 3 (by decide) rfl ⟨rfl, inv_no (by decide) h0⟩⟩
  · obtain ⟨⟨k1, k2, k3⟩, ⟨k4, k5, k6⟩, k7, k8, k9, k10⟩ := l7 m (by omega)
    refine w_takeBack l2 (by omega) l6 l5 ?_
    generalize hA : (o + m) % 16 * 35 = a at k1 k2 k3 k4 k7 k8 k9 k10 ⊢
    simp only [Nat.reduceAdd, Nat.add_zero] at k1 k2 k3 k4 k7 k8 k9 k10
    refine ⟨fun _ => w_accept ?_, fun q => absurd q (by omega)⟩
    refine ⟨fun _ => ?_, fun q => absurd q (by omega)⟩
    intro x ex
    rw [l3, show (((m + 1 : Nat) : Int) - 1) = (m : Int) by omega, wr_n (by omega)] at ex
    subst ex
    intro s es
    subst es
    intro x ex
    replace ex : x = ((35 * m : Nat) : Int) := by
      rw [ex]
      show wr (35 * (m : Int)) = _
      rw [show (35 * (m : Int)) = ((35 * m : Nat) : Int) by omega, wr_n (by omega)]
    subst ex
    refine m_undoL (a := 35 * m) (by omega) (m_good ⟨k3, ?_⟩)
    have hk : ∀ i, i < 34 → gI (sW (sI σm 0 28 (m : Int)) 2 0 34 (fun k => gI (sI σm 0 28 (m : Int)) 13 (35 * m + k))) 2 i = gI σm 13 (35 * m + i) := by
      intro i hi
      have := gI_sWy (sI σm 0 28 (m : Int)) 2 0 34 (fun k => gI (sI σm 0 28 (m : Int)) 13 (35 * m + k)) (j := i) hi
      rw [Nat.zero_add] at this
      exact this
    have hk2 : ∀ c i, c ≠ 2 ∨ 34 ≤ i → ¬ (c = 0 ∧ i = 28) → gI (sW (sI σm 0 28 (m : Int)) 2 0 34 (fun k => gI (sI σm 0 28 (m : Int)) 13 (35 * m + k))) c i = gI σm c i := by
      intro c i hi hi2
      rw [gI_sWn _ _ _ _ _ (by omega), gI_sI, if_neg hi2]
    have hk3 : gI (sW (sI σm 0 28 (m : Int)) 2 0 34 (fun k => gI (sI σm 0 28 (m : Int)) 13 (35 * m + k))) 0 28 = (m : Int) := rfl
    generalize sW (sI σm 0 28 (m : Int)) 2 0 34 (fun k => gI (sI σm 0 28 (m : Int)) 13 (35 * m + k)) = υ at hk hk2 hk3 ⊢
    refine inv_ok ⟨⟨n', ⟨?_, ?_, c13⟩, ?_, ?_, ?_, ?_, ?_, ?_, ?_, ?_, ?_, ?_⟩, ?_, ?_, ?_, ?_, ?_⟩ ?_ hrr
    · rw [tb_o _ _ _ _ _ (by omega)]; exact c11
    · rw [hk2 _ _ (by omega) (by omega)]; exact c12
    · exact zC2_of c2 (fun p _ => tb_o _ _ _ _ _ (by omega)) (fun i h1 h2 => hk2 _ _ (by omega) (by omega))
    · exact zC3_of c3 (fun p _ => tb_o _ _ _ _ _ (by omega)) (fun i h1 h2 => hk2 _ _ (by omega) (by omega))
    · intro p hp
      show gI (tbS σc m a) 28 p = _ ∧ _
      rw [tb_28 _ _ _ _ (by omega), hk _ (by omega)]
      have := (k10 p hp).1
      rw [show a + 5 + p = a + (5 + p) by omega]
      exact this
    · intro p hp
      show gI (tbS σc m a) 29 p = _ ∧ _
      rw [tb_29 _ _ _ _ (by omega), hk _ (by omega)]
      have := (k10 p hp).2.1
      rw [show a + 15 + p = a + (15 + p) by omega]
      exact this
    · intro p hp
      show _ → gI (tbS σc m a) 30 p = _
      rw [tb_30 _ _ _ _ (by omega), hk _ (by omega), hk _ (by omega)]
      have := (k10 p hp).2.2
      rw [show a + 25 + p = a + (25 + p) by omega]
      exact this
    · exact zC7_of c7 (fun p _ => tb_o _ _ _ _ _ (by omega)) (fun i h1 h2 => hk2 _ _ (by omega) (by omega))
    · exact zC8_of c8 (fun p => tb_o _ _ _ _ _ (by omega)) (fun i h1 h2 => hk2 _ _ (by omega) (by omega))
    · unfold zC9 at c9 ⊢
      rw [hk2 2 254 (by omega) (by omega), hk2 2 255 (by omega) (by omega), hk 33 (by omega)]
      refine ⟨⟨k4, k5, k6⟩, ?_, ?_⟩
      · show gI (tbS σc m a) 33 1 = _ ∧ _
        rw [tb_33, if_neg (by decide)]
        exact c9.2.1
      · show gI (tbS σc m a) 33 2 = _ ∧ _
        rw [tb_33, if_neg (by decide)]
        exact c9.2.2
    · unfold zCa
      rw [hk 30 (by omega), hk 31 (by omega), hk 32 (by omega)]
      exact ⟨k7, k8, k9⟩
    · have hf : -1 ≤ gI σm 2 258 ∧ gI σm 2 258 < gI σm 2 257 ∧ gI σc 25 11 = gI σm 2 258 := by
        obtain ⟨m, b1, b2, b3, b4, b5, b6, -⟩ := cb
        omega
      refine zCb_of cb (tb_o _ _ _ _ _ (by omega)) ⟨?_, ?_, ?_⟩ (fun j => rfl) (fun d hd j => tb_o _ _ _ _ _ (by omega)) rfl (fun i hi => hk2 _ _ (by omega) (by omega))
      · rw [tb_o _ _ _ _ _ (by omega), hk2 _ _ (by omega) (by omega)]; exact hf.2.2
      · rw [hk2 _ _ (by omega) (by omega)]; exact hf.1
      · rw [hk2 _ _ (by omega) (by omega)]; exact hf.2.1
    · refine ⟨n', ?_, m, o, rfl, hk3, by omega, ?_, l6, ?_⟩
      · rw [hk2 _ _ (by omega) (by omega)]; exact c12
      · rw [tb_o _ _ _ _ _ (by omega)]; exact l5
      · intro i hi
        have q := l7 i (by omega)
        have e1 : (fun j => gI (tbS σc m a) (39 + 1) ((o + i) % 16 * 35 + j)) = (fun j => gI σc (39 + 1) ((o + i) % 16 * 35 + j)) := funext fun j => tb_o _ _ _ _ _ (by omega)
        have e2 : (fun j => gI υ 13 (35 * i + j)) = (fun j => gI σm 13 (35 * i + j)) := funext fun j => hk2 _ _ (by omega) (by omega)
        rw [e1, e2]
        exact q
    · exact zImg_of himg rfl (fun _ _ _ => rfl) (fun c hc j => tb_o _ _ _ _ _ (by omega)) (fun c j hc => hk2 _ _ (by omega) (by omega))
    · exact zTp_of htp (fun c j hc => tb_o _ _ _ _ _ (by omega)) (fun c j hc => hk2 _ _ (by omega) (by omega))
    · exact zWd_of hwd (fun j => hk2 _ _ (by omega) (by omega))
    · exact zSc_of hsc (fun c j hc => tb_o _ _ _ _ _ (by omega)) (fun c j hc => hk2 _ _ (by omega) (by omega))
    · intro k hk'
      rw [tb_o _ _ _ _ _ (by omega), hk2 _ _ (by omega) (by omega)]
      exact hst.2 k hk'
