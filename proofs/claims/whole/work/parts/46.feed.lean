/-! feed, row -/
theorem and255 (x : Int) : o_and x 255 = wr x % 256 := by
  rw [← iI_toInt x]
  show ((iI x).toBitVec &&& (iI 255).toBitVec).toInt = (iI x).toBitVec.toInt % 256
  generalize (iI x).toBitVec = y
  have e : (y &&& (iI 255).toBitVec).toNat = y.toNat % 256 := by
    rw [BitVec.toNat_and, show (iI 255).toBitVec.toNat = 2 ^ 8 - 1 from rfl]
    exact Nat.and_two_pow_sub_one_eq_mod y.toNat 8
  rw [BitVec.toInt_eq_toNat_cond, e, BitVec.toInt_eq_toNat_cond]
  have := y.isLt
  split <;> split <;> omega
theorem nb_i2b (x : Int) : o_nb (o_i2b x) = sby (o_and x 255) := by
  have e1 : o_i2b x = (wr x).bmod (2 ^ 8) := by
    unfold o_i2b
    rw [Int8.toInt_toInt32, Int32.toInt_toInt8, iI_toInt]
  have e2 : ∀ z : Int, o_nb z = (wr z).bmod (2 ^ 8) := by
    intro z
    show ((iI z).toInt8.toInt32).toInt = _
    rw [Int8.toInt_toInt32, Int32.toInt_toInt8, iI_toInt]
  rw [e2, e1, and255]
  generalize wr x = y
  have h1 : y.bmod (2 ^ 8) < 128 ∧ -128 ≤ y.bmod (2 ^ 8) := by
    rw [Int.bmod_def]
    have : (((2 ^ 8 : Nat) : Int)) = 256 := by decide
    rw [this]
    split <;> omega
  rw [wr_id (by omega) (by omega)]
  unfold sby
  rw [Int.bmod_def, Int.bmod_def]
  have : (((2 ^ 8 : Nat) : Int)) = 256 := by decide
  rw [this]
  split <;> split <;> split <;> omega
/-- byte i of a number, the highest first -/
def btB (a : Int) (i : Nat) : Int := o_and (o_shr a (24 - 8 * (i : Int))) 255
theorem btB_r (a : Int) (i : Nat) : 0 ≤ btB a i ∧ btB a i < 256 := by
  unfold btB
  rw [and255]
  generalize wr (o_shr a (24 - 8 * (i : Int))) = y
  omega
def apR (σ τ : st_S) (n k : Nat) (f : Nat → Int) : Prop := τ.2 = σ.2 ∧ gI τ 12 1 = ((n + k : Nat) : Int) ∧ (∀ c j, ¬ (c = 12 ∧ j = 1) → ¬ (c = 13 ∧ n ≤ j ∧ j < n + k) → gI τ c j = gI σ c j) ∧ ∀ j, j < k → gI τ 13 (n + j) = f j
theorem w_append {a : Int} {n : Nat} {σ : st_S} {Q : st_S → Prop} (hn : n + 4 ≤ 400) (hs : gI σ 12 1 = (n : Int)) (hQ : ∀ τ, apR σ τ n 4 (btB a) → Q τ) : wp_X6_append a σ Q := by
  have key : ∀ m i : Nat, i + m = 4 → ∀ τ, apR σ τ n i (btB a) → L_X6_append_3 Q (m + 1) a (24 - 8 * (i : Int)) τ := by
    intro m
    induction m with
    | zero =>
      intro i hi τ hτ
      refine ⟨fun _ => hQ τ ?_, fun q => absurd (show (24 - 8 * (i : Int)) < 0 by omega) q⟩
      rw [show i = 4 by omega] at hτ
      exact hτ
    | succ m ih =>
      intro i hi τ hτ
      obtain ⟨t1, t2, t3, t4⟩ := hτ
      refine ⟨fun q => absurd q (by omega), fun _ => ⟨fun q => absurd q (by omega), fun _ => ⟨fun q => absurd q (by omega), fun _ => ?_⟩⟩⟩
      rw [t2]
      refine ⟨ixn (by omega), ?_⟩
      intro s es x ex s' es' y ey
      have e12 : gI s 12 1 = ((n + i : Nat) : Int) := by rw [es]; exact t2
      rw [e12, wks (by omega)] at ex
      subst ex
      rw [wr_id (by omega) (by omega), show (24 - 8 * (i : Int)) + -8 = 24 - 8 * ((i + 1 : Nat) : Int) by omega] at ey
      subst ey
      refine ih (i + 1) (by omega) s' ⟨?_, ?_, ?_, ?_⟩
      · rw [es', es]; exact t1
      · rw [es']
        show (((n + i + 1 : Nat) : Int)) = _
        omega
      · intro c j h1 h2
        rw [es', gI_sI, if_neg h1, es, gI_sI, Int.toNat_natCast, if_neg (by omega)]
        exact t3 c j h1 (by omega)
      · intro j hj
        rw [es', gI_sI, if_neg (by omega), es, gI_sI, Int.toNat_natCast]
        by_cases e : j = i
        · subst e
          rw [if_pos ⟨rfl, rfl⟩]
          rfl
        · rw [if_neg (by omega)]
          exact t4 j (by omega)
  exact ⟨5, key 4 0 (by omega) σ ⟨rfl, hs, fun _ _ _ _ => rfl, fun j hj => absurd hj (by omega)⟩⟩
theorem dv4 : ∀ k : Nat, k < 20 → o_div (k : Int) 4 = ((k / 4 : Nat) : Int) ∧ o_rem (k : Int) 4 = ((k % 4 : Nat) : Int) := by decide +kernel
theorem wkn {a b : Nat} (h : a + b < 100000) : wr ((a : Int) + (b : Int)) = ((a + b : Nat) : Int) := by
  rw [show (a : Int) + (b : Int) = ((a + b : Nat) : Int) by omega, wr_n (by omega)]
theorem m_feedL {n : Nat} {σ : st_S} {Q : Int → st_S → Prop} (hn : n + 20 ≤ 400) (hs : gI σ 0 13 = (n : Int)) (hQ : Q ((n + 20 : Nat) : Int) (sI (sW σ 7 n 20 (fun k => sby (btB (gI σ 8 (k / 4)) (k % 4)))) 0 13 ((n + 20 : Nat) : Int))) : ∃ m, L_X11_feed_55 Q m 0 σ := by
  have key : ∀ m i : Nat, i + m = 20 → L_X11_feed_55 Q (m + 1) (i : Int) (sW σ 7 n i (fun k => sby (btB (gI σ 8 (k / 4)) (k % 4)))) := by
    intro m
    induction m with
    | zero =>
      intro i hi
      refine ⟨fun _ => ?_, fun q => absurd (show (20 : Int) ≤ (i : Int) by omega) q⟩
      intro x ex
      rw [show gI (sW σ 7 n i (fun k => sby (btB (gI σ 8 (k / 4)) (k % 4)))) 0 13 = (n : Int) from hs, wka n 20 (by omega) 20 rfl] at ex
      subst ex
      intro s es
      have e : gI s 0 13 = ((n + 20 : Nat) : Int) := by rw [es]; rfl
      rw [e, es, show i = 20 by omega]
      exact hQ
    | succ m ih =>
      intro i hi
      refine ⟨fun q => absurd q (by omega), fun _ => ?_⟩
      have d4 := dv4 i (by omega)
      rw [d4.1, d4.2, show gI (sW σ 7 n i (fun k => sby (btB (gI σ 8 (k / 4)) (k % 4)))) 0 13 = (n : Int) from hs, wkn (by omega)]
      clear d4
      refine ⟨ixn (by omega), ixn (by omega), ?_⟩
      intro s es x ex
      rw [wks (by omega)] at ex
      subst ex
      have e : s = sW σ 7 n (i + 1) (fun k => sby (btB (gI σ 8 (k / 4)) (k % 4))) := by
        rw [es, ← sW_step, nb_i2b]
        rfl
      rw [e]
      exact ih (i + 1) (by omega)
  exact ⟨21, by have := key 20 0 (by omega); rw [sW_zero] at this; exact this⟩
set_option maxHeartbeats 400000 in
theorem st_feed {B : Nat} {σc σm : st_S} (h : zInv B σc σm) (a1 a2 a3 a4 a5 : Int) : wp_X10_feed a1 a2 a3 a4 a5 σc (fun r τ => wp_X11_feed a1 a2 a3 a4 a5 σm (fun r2 υ => r = r2 ∧ zInv B τ υ)) := by
  have h0 := h
  obtain ⟨⟨hcr, hlog, himg, ⟨n, t1, t2, t3, t4⟩, hwd, hsc⟩, hst, hrr⟩ := h
  unfold wp_X10_feed
  rw [t1, wka n 20 (by omega) 20 rfl]
  refine ⟨fun q => ?_, fun q => ?_⟩
  · refine w_append (n := n) (by omega) t1 (fun τ1 r1 => ?_)
    refine w_append (n := n + 4) (by omega) r1.2.1 (fun τ2 r2 => ?_)
    refine w_append (n := n + 8) (by omega) r2.2.1 (fun τ3 r3 => ?_)
    refine w_append (n := n + 12) (by omega) r3.2.1 (fun τ4 r4 => ?_)
    refine w_append (n := n + 16) (by omega) r4.2.1 (fun τ r5 => ?_)
    have q2 : τ.2 = σc.2 := by rw [r5.1, r4.1, r3.1, r2.1, r1.1]
    have qI : ∀ c j, ¬ (c = 12 ∧ j = 1) → ¬ (c = 13 ∧ n ≤ j) → gI τ c j = gI σc c j := by
      intro c j h1 h2
      rw [r5.2.2.1 c j h1 (by omega), r4.2.2.1 c j h1 (by omega), r3.2.2.1 c j h1 (by omega), r2.2.2.1 c j h1 (by omega), r1.2.2.1 c j h1 (by omega)]
    have b1 : ∀ j, j < 4 → gI τ 13 (n + j) = btB a1 j := by
      intro j hj
      rw [r5.2.2.1 _ _ (by omega) (by omega), r4.2.2.1 _ _ (by omega) (by omega), r3.2.2.1 _ _ (by omega) (by omega), r2.2.2.1 _ _ (by omega) (by omega)]
      exact r1.2.2.2 j hj
    have b2 : ∀ j, j < 4 → gI τ 13 (n + (4 + j)) = btB a2 j := by
      intro j hj
      rw [← Nat.add_assoc, r5.2.2.1 _ _ (by omega) (by omega), r4.2.2.1 _ _ (by omega) (by omega), r3.2.2.1 _ _ (by omega) (by omega)]
      exact r2.2.2.2 j hj
    have b3 : ∀ j, j < 4 → gI τ 13 (n + (8 + j)) = btB a3 j := by
      intro j hj
      rw [← Nat.add_assoc, r5.2.2.1 _ _ (by omega) (by omega), r4.2.2.1 _ _ (by omega) (by omega)]
      exact r3.2.2.2 j hj
    have b4 : ∀ j, j < 4 → gI τ 13 (n + (12 + j)) = btB a4 j := by
      intro j hj
      rw [← Nat.add_assoc, r5.2.2.1 _ _ (by omega) (by omega)]
      exact r4.2.2.2 j hj
    have b5 : ∀ j, j < 4 → gI τ 13 (n + (16 + j)) = btB a5 j := by
      intro j hj
      rw [← Nat.add_assoc]
      exact r5.2.2.2 j hj
    have q12 : gI τ 12 1 = ((n + 20 : Nat) : Int) := by rw [r5.2.1]
    clear r1 r2 r3 r4 r5
    rw [q12]
    unfold wp_X11_feed
    rw [t2, wka n 20 (by omega) 20 rfl]
    refine ⟨fun _ => ?_, fun z => absurd q z⟩
    rintro s rfl s rfl s rfl s rfl s rfl
    refine m_feedL (n := n) (by omega) t2 ⟨rfl, ?_⟩
    have k7 : ∀ i, i < 20 → gI (sI (sW (sI (sI (sI (sI (sI σm 8 0 a1) 8 1 a2) 8 2 a3) 8 3 a4) 8 4 a5) 7 n 20 (fun k => sby (btB (gI (sI (sI (sI (sI (sI σm 8 0 a1) 8 1 a2) 8 2 a3) 8 3 a4) 8 4 a5) 8 (k / 4)) (k % 4)))) 0 13 ((n + 20 : Nat) : Int)) 7 (n + i) = sby (btB (if i / 4 = 4 then a5 else if i / 4 = 3 then a4 else if i / 4 = 2 then a3 else if i / 4 = 1 then a2 else a1) (i % 4)) := by
      intro i hi
      rw [gI_sI, if_neg (by omega), gI_sWy _ _ _ _ _ hi]
      have : i / 4 = 0 ∨ i / 4 = 1 ∨ i / 4 = 2 ∨ i / 4 = 3 ∨ i / 4 = 4 := by omega
      rcases this with e | e | e | e | e <;> rw [e] <;> rfl
    have kI : ∀ c j, c ≠ 8 → ¬ (c = 0 ∧ j = 13) → ¬ (c = 7 ∧ n ≤ j) → gI (sI (sW (sI (sI (sI (sI (sI σm 8 0 a1) 8 1 a2) 8 2 a3) 8 3 a4) 8 4 a5) 7 n 20 (fun k => sby (btB (gI (sI (sI (sI (sI (sI σm 8 0 a1) 8 1 a2) 8 2 a3) 8 3 a4) 8 4 a5) 8 (k / 4)) (k % 4)))) 0 13 ((n + 20 : Nat) : Int)) c j = gI σm c j := by
      intro c j h1 h2 h3
      rw [gI_sI, if_neg h2, gI_sWn _ _ _ _ _ (by omega), gI_sI, if_neg (fun z => h1 z.1), gI_sI, if_neg (fun z => h1 z.1), gI_sI, if_neg (fun z => h1 z.1), gI_sI, if_neg (fun z => h1 z.1), gI_sI, if_neg (fun z => h1 z.1)]
    have k13 : gI (sI (sW (sI (sI (sI (sI (sI σm 8 0 a1) 8 1 a2) 8 2 a3) 8 3 a4) 8 4 a5) 7 n 20 (fun k => sby (btB (gI (sI (sI (sI (sI (sI σm 8 0 a1) 8 1 a2) 8 2 a3) 8 3 a4) 8 4 a5) 8 (k / 4)) (k % 4)))) 0 13 ((n + 20 : Nat) : Int)) 0 13 = ((n + 20 : Nat) : Int) := rfl
    generalize sI (sW (sI (sI (sI (sI (sI σm 8 0 a1) 8 1 a2) 8 2 a3) 8 3 a4) 8 4 a5) 7 n 20 (fun k => sby (btB (gI (sI (sI (sI (sI (sI σm 8 0 a1) 8 1 a2) 8 2 a3) 8 3 a4) 8 4 a5) 8 (k / 4)) (k % 4)))) 0 13 ((n + 20 : Nat) : Int) = υ at k7 kI k13 ⊢
    have e22 : τ.2.2 = σc.2.2 := by rw [q2]
    have eR : ∀ c j, gR τ c j = gR σc c j := fun c j => by unfold gR; rw [q2]
    refine ⟨⟨?_, ?_, ?_, ?_, ?_, ?_⟩, ⟨?_, ?_⟩, ?_⟩
    · exact zCR_of hcr (fun d j a b => qI _ _ (by omega) (by omega)) (fun j => eR _ _) (fun d j a _ q b c => ⟨qI _ _ (by omega) (by omega), by unfold gL; rw [e22]⟩) (fun c a b => by unfold gK; rw [e22]; exact b) (fun i => kI _ _ (by omega) (by omega) (by omega))
    · obtain ⟨n', l1, m, o, l2, l3, l4, l5, l6, l7⟩ := hlog
      refine ⟨n', by rw [kI _ _ (by omega) (by omega) (by omega)]; exact l1, m, o, by rw [qI _ _ (by omega) (by omega)]; exact l2, by rw [kI _ _ (by omega) (by omega) (by omega)]; exact l3, l4, by rw [qI _ _ (by omega) (by omega)]; exact l5, l6, fun i hi => ?_⟩
      have e1 : (fun j => gI τ (39 + 1) ((o + i) % 16 * 35 + j)) = (fun j => gI σc (39 + 1) ((o + i) % 16 * 35 + j)) := funext fun j => qI _ _ (by omega) (by omega)
      have e2 : (fun j => gI υ 13 (35 * i + j)) = (fun j => gI σm 13 (35 * i + j)) := funext fun j => kI _ _ (by omega) (by omega) (by omega)
      rw [e1, e2]
      exact l7 i hi
    · exact zImg_of himg e22 (fun _ _ _ => eR _ _) (fun c hc j => qI _ _ (by omega) (by omega)) (fun c j hc => kI _ _ (by omega) (by omega) (by omega))
    · refine ⟨n + 20, q12, k13, by omega, fun i hi => ?_⟩
      by_cases e : i < n
      · rw [qI _ _ (by omega) (by omega), kI _ _ (by omega) (by omega) (by omega)]
        exact t4 i e
      · obtain ⟨j, rfl⟩ : ∃ j, i = n + j := ⟨i - n, by omega⟩
        rw [k7 j (by omega)]
        have : j / 4 = 0 ∨ j / 4 = 1 ∨ j / 4 = 2 ∨ j / 4 = 3 ∨ j / 4 = 4 := by omega
        rcases this with e | e | e | e | e
        · have := b1 (j % 4) (by omega)
          rw [show n + j % 4 = n + j by omega] at this
          rw [this, e]
          exact ⟨(btB_r _ _).1, (btB_r _ _).2, rfl⟩
        · have := b2 (j % 4) (by omega)
          rw [show n + (4 + j % 4) = n + j by omega] at this
          rw [this, e]
          exact ⟨(btB_r _ _).1, (btB_r _ _).2, rfl⟩
        · have := b3 (j % 4) (by omega)
          rw [show n + (8 + j % 4) = n + j by omega] at this
          rw [this, e]
          exact ⟨(btB_r _ _).1, (btB_r _ _).2, rfl⟩
        · have := b4 (j % 4) (by omega)
          rw [show n + (12 + j % 4) = n + j by omega] at this
          rw [this, e]
          exact ⟨(btB_r _ _).1, (btB_r _ _).2, rfl⟩
        · have := b5 (j % 4) (by omega)
          rw [show n + (16 + j % 4) = n + j by omega] at this
          rw [this, e]
          exact ⟨(btB_r _ _).1, (btB_r _ _).2, rfl⟩
    · exact zWd_of hwd (fun j => kI _ _ (by omega) (by omega) (by omega))
    · exact zSc_of hsc (fun c j hc => qI _ _ (by omega) (by omega)) (fun c j hc => kI _ _ (by omega) (by omega) (by omega))
    · rw [qI _ _ (by omega) (by omega), kI _ _ (by omega) (by omega) (by omega)]; exact hst.1
    · intro k hk
      rw [qI _ _ (by omega) (by omega), kI _ _ (by omega) (by omega) (by omega)]
      exact hst.2 k hk
    · unfold zRr
      rw [eR, eR]
      exact hrr
  · unfold wp_X11_feed
    rw [t2, wka n 20 (by omega) 20 rfl]
    exact ⟨fun z => absurd z q, fun _ => ⟨rfl, h0⟩⟩
