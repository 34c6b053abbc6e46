/-! image -/
theorem gL_sA' (σ : st_S) (k len c : Nat) : gL (sA σ k len) c = if c = gN σ then len else gL σ c := rfl
theorem gN_sA' (σ : st_S) (k len : Nat) : gN (sA σ k len) = gN σ + 1 := rfl
/-- behind one making and its reference: cells below stay -/
def mkR (σ s : st_S) (t i : Nat) : Prop := gN s = t + i ∧ (∀ c j, c < t → gI s c j = gI σ c j ∧ gR s c j = gR σ c j) ∧ (∀ c, c < t ∨ t + i ≤ c → gK s c = gK σ c ∧ gL s c = gL σ c) ∧ gK s t = 33
/-- one array more -/
theorem mk_step {σ s s' s2 : st_S} {t i j k len : Nat} (h : mkR σ s t i) (hi : 1 ≤ i) (e1 : s' = sA s k len) (e2 : s2 = sR s' t j (some (t + i))) : mkR σ s2 t (i + 1) ∧ gK s2 (t + i) = k ∧ gL s2 (t + i) = len ∧ (∀ c, c ≠ t + i → gK s2 c = gK s c ∧ gL s2 c = gL s c) ∧ gR s2 t j = some (t + i) ∧ (∀ j', j' ≠ j → gR s2 t j' = gR s t j') ∧ (∀ j', gR s2 (t + i) j' = none) ∧ (∀ c j', c ≠ t → c ≠ t + i → gR s2 c j' = gR s c j') := by
  obtain ⟨h1, h2, h3, h4⟩ := h
  subst e1
  subst e2
  have gk : ∀ c, gK (sR (sA s k len) t j (some (t + i))) c = if c = t + i then k else gK s c := fun c => by rw [gK_sR, gK_sA, h1]
  have gl : ∀ c, gL (sR (sA s k len) t j (some (t + i))) c = if c = t + i then len else gL s c := fun c => by rw [gL_sR, gL_sA', h1]
  have gr : ∀ c j', gR (sR (sA s k len) t j (some (t + i))) c j' = if c = t ∧ j' = j then some (t + i) else if c = t + i then none else gR s c j' := fun c j' => by rw [gR_sR, gR_sA, h1]
  refine ⟨⟨?_, ?_, ?_, ?_⟩, ?_, ?_, ?_, ?_, ?_, ?_, ?_⟩
  · rw [gN_sR, gN_sA', h1]; omega
  · intro c j' hc
    refine ⟨?_, ?_⟩
    · rw [gI_sR, gI_sA, h1, if_neg (by omega)]; exact (h2 c j' hc).1
    · rw [gr, if_neg (by omega), if_neg (by omega)]; exact (h2 c j' hc).2
  · intro c hc
    rw [gk, gl, if_neg (by omega), if_neg (by omega)]
    exact h3 c (by omega)
  · rw [gk, if_neg (by omega)]; exact h4
  · rw [gk, if_pos rfl]
  · rw [gl, if_pos rfl]
  · intro c hc; rw [gk, gl, if_neg hc, if_neg hc]; exact ⟨rfl, rfl⟩
  · rw [gr, if_pos ⟨rfl, rfl⟩]
  · intro j' hj; rw [gr, if_neg (fun z => hj z.2), if_neg (by omega)]
  · intro j'; rw [gr, if_neg (by omega), if_pos rfl]
  · intro c j' h5 h6; rw [gr, if_neg (fun z => h5 z.1), if_neg h6]
/-- a new coast at t -/
def nwC (σ s : st_S) (t : Nat) : Prop := mkR σ s t 10 ∧ (∀ d, 1 ≤ d → d ≤ 6 → gK s (t + d) = 0 ∧ gL s (t + d) = 10) ∧ (gK s (t + 7) = 0 ∧ gL s (t + 7) = 100) ∧ (gK s (t + 8) = 0 ∧ gL s (t + 8) = 3) ∧ (gK s (t + 9) = 4 ∧ gL s (t + 9) = 6) ∧ (∀ d, 1 ≤ d → d ≤ 9 → gR s t d = some (t + d)) ∧ ∀ j, gR s (t + 9) j = none
set_option maxHeartbeats 1000000 in
theorem w_newC {σ s32 : st_S} {t : Nat} {Q : st_S → Prop} (ht : t = gN σ) (e0 : s32 = sA σ 33 0) (hQ : ∀ s, nwC σ s t → Q s) : wp_X1_init t s32 Q := by
  have m1 : mkR σ s32 t 1 := by
    subst e0
    refine ⟨by rw [gN_sA', ht], fun c j hc => ⟨by rw [gI_sA, if_neg (by omega)], by rw [gR_sA, if_neg (by omega)]⟩, fun c hc => ⟨by rw [gK_sA, if_neg (by omega)], by rw [gL_sA', if_neg (by omega)]⟩, by rw [gK_sA, if_pos ht]⟩
  intro t1 u1 et1 eu1
  rw [m1.1] at et1
  subst et1
  refine ⟨?_, ?_⟩
  · rw [eu1, gK_sA, m1.1, if_neg (by omega)]; exact m1.2.2.2
  intro s1 es1
  obtain ⟨m2, a1, b1, c1, d1, f1, g1, h1⟩ := mk_step m1 (by omega) eu1 es1
  intro t2 u2 et2 eu2
  rw [m2.1] at et2
  subst et2
  refine ⟨?_, ?_⟩
  · rw [eu2, gK_sA, m2.1, if_neg (by omega)]; exact m2.2.2.2
  intro s2 es2
  obtain ⟨m3, a2, b2, c2, d2, f2, g2, h2⟩ := mk_step m2 (by omega) eu2 es2
  intro t3 u3 et3 eu3
  rw [m3.1] at et3
  subst et3
  refine ⟨?_, ?_⟩
  · rw [eu3, gK_sA, m3.1, if_neg (by omega)]; exact m3.2.2.2
  intro s3 es3
  obtain ⟨m4, a3, b3, c3, d3, f3, g3, h3⟩ := mk_step m3 (by omega) eu3 es3
  intro t4 u4 et4 eu4
  rw [m4.1] at et4
  subst et4
  refine ⟨?_, ?_⟩
  · rw [eu4, gK_sA, m4.1, if_neg (by omega)]; exact m4.2.2.2
  intro s4 es4
  obtain ⟨m5, a4, b4, c4, d4, f4, g4, h4⟩ := mk_step m4 (by omega) eu4 es4
  intro t5 u5 et5 eu5
  rw [m5.1] at et5
  subst et5
  refine ⟨?_, ?_⟩
  · rw [eu5, gK_sA, m5.1, if_neg (by omega)]; exact m5.2.2.2
  intro s5 es5
  obtain ⟨m6, a5, b5, c5, d5, f5, g5, h5⟩ := mk_step m5 (by omega) eu5 es5
  intro t6 u6 et6 eu6
  rw [m6.1] at et6
  subst et6
  refine ⟨?_, ?_⟩
  · rw [eu6, gK_sA, m6.1, if_neg (by omega)]; exact m6.2.2.2
  intro s6 es6
  obtain ⟨m7, a6, b6, c6, d6, f6, g6, h6⟩ := mk_step m6 (by omega) eu6 es6
  intro t7 u7 et7 eu7
  rw [m7.1] at et7
  subst et7
  refine ⟨?_, ?_⟩
  · rw [eu7, gK_sA, m7.1, if_neg (by omega)]; exact m7.2.2.2
  intro s7 es7
  obtain ⟨m8, a7, b7, c7, d7, f7, g7, h7⟩ := mk_step m7 (by omega) eu7 es7
  intro t8 u8 et8 eu8
  rw [m8.1] at et8
  subst et8
  refine ⟨?_, ?_⟩
  · rw [eu8, gK_sA, m8.1, if_neg (by omega)]; exact m8.2.2.2
  intro s8 es8
  obtain ⟨m9, a8, b8, c8, d8, f8, g8, h8⟩ := mk_step m8 (by omega) eu8 es8
  intro t9 u9 et9 eu9
  rw [m9.1] at et9
  subst et9
  refine ⟨?_, ?_⟩
  · rw [eu9, gK_sA, m9.1, if_neg (by omega)]; exact m9.2.2.2
  intro s9 es9
  obtain ⟨m10, a9, b9, c9, d9, f9, g9, h9⟩ := mk_step m9 (by omega) eu9 es9
  have r8 : gR s9 t 8 = some (t + 8) := by rw [f9 8 (by decide)]; exact d8
  have k8 : gK s9 (t + 8) = 0 ∧ gL s9 (t + 8) = 3 := by
    rw [(c9 (t + 8) (by omega)).1, (c9 (t + 8) (by omega)).2]; exact ⟨a8, b8⟩
  intro v ev
  refine ⟨t + 8, by rw [ev]; exact r8, by rw [ev]; exact k8.1, by rw [ev]; exact ⟨by decide, by show (1 : Int) < (gL s9 (t + 8) : Int); rw [k8.2]; decide⟩, ?_⟩
  intro w ew
  have wI : ∀ c j, c < t → gI w c j = gI s9 c j := fun c j hc => by rw [ew, gI_sI, if_neg (by omega), ev, gI_sI, if_neg (by omega)]
  have wK : ∀ c, gK w c = gK s9 c := fun c => by rw [ew, ev]; rfl
  have wL : ∀ c, gL w c = gL s9 c := fun c => by rw [ew, ev]; rfl
  have wR : ∀ c j, gR w c j = gR s9 c j := fun c j => by rw [ew, ev]; rfl
  have wN : gN w = gN s9 := by rw [ew, ev]; rfl
  refine hQ w ⟨⟨by rw [wN]; exact m10.1, fun c j hc => ⟨by rw [wI c j hc]; exact (m10.2.1 c j hc).1, by rw [wR]; exact (m10.2.1 c j hc).2⟩, fun c hc => by rw [wK, wL]; exact m10.2.2.1 c hc, by rw [wK]; exact m10.2.2.2⟩, ?_, ?_, by rw [wK, wL]; exact k8, by rw [wK, wL]; exact ⟨a9, b9⟩, ?_, fun j => by rw [wR]; exact g9 j⟩
  · intro d d1' d2'
    rw [wK, wL]
    have : d = 1 ∨ d = 2 ∨ d = 3 ∨ d = 4 ∨ d = 5 ∨ d = 6 := by omega
    rcases this with e | e | e | e | e | e <;> subst e
    · rw [(c9 _ (by omega)).1, (c9 _ (by omega)).2, (c8 _ (by omega)).1, (c8 _ (by omega)).2, (c7 _ (by omega)).1, (c7 _ (by omega)).2, (c6 _ (by omega)).1, (c6 _ (by omega)).2, (c5 _ (by omega)).1, (c5 _ (by omega)).2, (c4 _ (by omega)).1, (c4 _ (by omega)).2, (c3 _ (by omega)).1, (c3 _ (by omega)).2, (c2 _ (by omega)).1, (c2 _ (by omega)).2]; exact ⟨a1, b1⟩
    · rw [(c9 _ (by omega)).1, (c9 _ (by omega)).2, (c8 _ (by omega)).1, (c8 _ (by omega)).2, (c7 _ (by omega)).1, (c7 _ (by omega)).2, (c6 _ (by omega)).1, (c6 _ (by omega)).2, (c5 _ (by omega)).1, (c5 _ (by omega)).2, (c4 _ (by omega)).1, (c4 _ (by omega)).2, (c3 _ (by omega)).1, (c3 _ (by omega)).2]; exact ⟨a2, b2⟩
    · rw [(c9 _ (by omega)).1, (c9 _ (by omega)).2, (c8 _ (by omega)).1, (c8 _ (by omega)).2, (c7 _ (by omega)).1, (c7 _ (by omega)).2, (c6 _ (by omega)).1, (c6 _ (by omega)).2, (c5 _ (by omega)).1, (c5 _ (by omega)).2, (c4 _ (by omega)).1, (c4 _ (by omega)).2]; exact ⟨a3, b3⟩
    · rw [(c9 _ (by omega)).1, (c9 _ (by omega)).2, (c8 _ (by omega)).1, (c8 _ (by omega)).2, (c7 _ (by omega)).1, (c7 _ (by omega)).2, (c6 _ (by omega)).1, (c6 _ (by omega)).2, (c5 _ (by omega)).1, (c5 _ (by omega)).2]; exact ⟨a4, b4⟩
    · rw [(c9 _ (by omega)).1, (c9 _ (by omega)).2, (c8 _ (by omega)).1, (c8 _ (by omega)).2, (c7 _ (by omega)).1, (c7 _ (by omega)).2, (c6 _ (by omega)).1, (c6 _ (by omega)).2]; exact ⟨a5, b5⟩
    · rw [(c9 _ (by omega)).1, (c9 _ (by omega)).2, (c8 _ (by omega)).1, (c8 _ (by omega)).2, (c7 _ (by omega)).1, (c7 _ (by omega)).2]; exact ⟨a6, b6⟩
  · rw [wK, wL, (c9 _ (by omega)).1, (c9 _ (by omega)).2, (c8 _ (by omega)).1, (c8 _ (by omega)).2]; exact ⟨a7, b7⟩
  · intro d d1' d2'
    rw [wR]
    have : d = 1 ∨ d = 2 ∨ d = 3 ∨ d = 4 ∨ d = 5 ∨ d = 6 ∨ d = 7 ∨ d = 8 ∨ d = 9 := by omega
    rcases this with e | e | e | e | e | e | e | e | e <;> subst e
    · rw [f9 _ (by decide), f8 _ (by decide), f7 _ (by decide), f6 _ (by decide), f5 _ (by decide), f4 _ (by decide), f3 _ (by decide), f2 _ (by decide)]; exact d1
    · rw [f9 _ (by decide), f8 _ (by decide), f7 _ (by decide), f6 _ (by decide), f5 _ (by decide), f4 _ (by decide), f3 _ (by decide)]; exact d2
    · rw [f9 _ (by decide), f8 _ (by decide), f7 _ (by decide), f6 _ (by decide), f5 _ (by decide), f4 _ (by decide)]; exact d3
    · rw [f9 _ (by decide), f8 _ (by decide), f7 _ (by decide), f6 _ (by decide), f5 _ (by decide)]; exact d4
    · rw [f9 _ (by decide), f8 _ (by decide), f7 _ (by decide), f6 _ (by decide)]; exact d5
    · rw [f9 _ (by decide), f8 _ (by decide), f7 _ (by decide)]; exact d6
    · rw [f9 _ (by decide), f8 _ (by decide)]; exact d7
    · exact r8
    · exact d9
