/-! law -/
theorem tkE_ex {tp : Nat → Int} {n : Nat} (hb : tpB tp n) (hn : n ≤ 400) : ∃ T, tkE tp n T := by
  have fin : psT tp n n = n := by
    rcases psT_k (tp := tp) (n := n) n with w | w
    · have := (psT_le (tp := tp) (n := n) n).2; omega
    · exact w
  have key : ∀ m, m ≤ n → (∀ k, k < m → psT tp n k < n) ∨ ∃ T, T ≤ n ∧ psT tp n T = n ∧ ∀ k, k < T → psT tp n k < n := by
    intro m
    induction m with
    | zero => intro _; exact Or.inl (fun k hk => absurd hk (Nat.not_lt_zero _))
    | succ m ih =>
      intro hm
      rcases ih (by omega) with w | w
      · by_cases c : psT tp n m < n
        · refine Or.inl (fun k hk => ?_)
          by_cases e : k = m
          · subst e; exact c
          · exact w k (by omega)
        · refine Or.inr ⟨m, by omega, ?_, w⟩
          have := (psT_le (tp := tp) (n := n) m).2
          omega
      · exact Or.inr w
  rcases key n (Nat.le_refl _) with w | ⟨T, w1, w2, w3⟩
  · exact ⟨n, hb, hn, Nat.le_refl _, fin, w⟩
  · exact ⟨T, hb, hn, w1, w2, w3⟩
theorem tkE_uq {tp : Nat → Int} {n T T' : Nat} (h : tkE tp n T) (g : tkE tp n T') : T = T' := by
  rcases Nat.lt_trichotomy T T' with w | w | w
  · have := g.2.2.2.2 T w; have := h.2.2.2.1; omega
  · exact w
  · have := h.2.2.2.2 T' w; have := g.2.2.2.1; omega
/-- the reference lays a text -/
theorem m_lays {σ : st_S} {t T : Nat} {cf vf : Nat → Int} {Q : st_S → Prop} (ht : t ≤ 6) (hT4 : T ≤ 400) (h18 : gI σ 0 18 = (T : Int)) (hc : ∀ k, k < T → gI σ 9 k = cf k ∧ gI σ 10 k = vf k) (hQ : ∀ τ, τ.2 = σ.2 → (∀ c j, c ≠ 2 → gI τ c j = gI σ c j) → gI τ 2 (259 + t) = (T : Int) → (∀ k, k < T → gI τ 2 (266 + 400 * t + k) = cf k ∧ gI τ 2 (3066 + 400 * t + k) = vf k) → (∀ i, i ≠ 259 + t → ¬ (266 + 400 * t ≤ i ∧ i < 266 + 400 * t + T) → ¬ (3066 + 400 * t ≤ i ∧ i < 3066 + 400 * t + T) → gI τ 2 i = gI σ 2 i) → Q τ) : wp_X11_lays (t : Int) σ Q := by
  unfold wp_X11_lays
  rw [show (259 + (t : Int)) = ((259 + t : Nat) : Int) by omega, wr_n (by omega), Int.toNat_natCast]
  refine ⟨ixn (by omega), ?_⟩
  intro s es
  rw [h18] at es
  have key : ∀ m k : Nat, k + m = T → ∀ τ, τ.2 = σ.2 → (∀ c j, c ≠ 2 → gI τ c j = gI σ c j) → gI τ 2 (259 + t) = (T : Int) → (∀ i, i < k → gI τ 2 (266 + 400 * t + i) = cf i ∧ gI τ 2 (3066 + 400 * t + i) = vf i) → (∀ i, i ≠ 259 + t → ¬ (266 + 400 * t ≤ i ∧ i < 266 + 400 * t + k) → ¬ (3066 + 400 * t ≤ i ∧ i < 3066 + 400 * t + k) → gI τ 2 i = gI σ 2 i) → L_X11_lays_16 Q (m + 1) (t : Int) (k : Int) τ := by
    intro m
    induction m with
    | zero =>
      intro k hk τ a1 a2 a3 a4 a5
      have ek : k = T := by omega
      subst ek
      refine ⟨fun _ => hQ τ a1 a2 a3 a4 a5, fun w => absurd (by rw [a2 0 18 (by decide), h18]; omega) w⟩
    | succ m ih =>
      intro k hk τ a1 a2 a3 a4 a5
      have e18 : gI τ 0 18 = (T : Int) := by rw [a2 0 18 (by decide)]; exact h18
      show (_ → _) ∧ (_ → _)
      rw [e18]
      refine ⟨fun w => absurd w (by omega), fun _ => ⟨ixn (by omega), ?_⟩⟩
      rw [show (266 + 400 * (t : Int) + (k : Int)) = ((266 + 400 * t + k : Nat) : Int) by omega, wr_n (by omega), show (3066 + 400 * (t : Int) + (k : Int)) = ((3066 + 400 * t + k : Nat) : Int) by omega, wr_n (by omega), Int.toNat_natCast, Int.toNat_natCast, Int.toNat_natCast]
      refine ⟨ixn (by omega), ?_⟩
      intro s1 e1
      refine ⟨ixn (by omega), ixn (by omega), ?_⟩
      intro s2 e2 x ex
      rw [wks (by omega)] at ex
      subst ex
      have c9 : gI τ 9 k = cf k := by rw [a2 9 k (by decide)]; exact (hc k (by omega)).1
      have c10 : gI s1 10 k = vf k := by rw [e1, gI_sI, if_neg (by omega), a2 10 k (by decide)]; exact (hc k (by omega)).2
      rw [c9] at e1
      rw [c10] at e2
      refine ih (k + 1) (by omega) s2 (by rw [e2, e1]; exact a1) (fun c j hcj => by rw [e2, gI_sI, if_neg (by omega), e1, gI_sI, if_neg (by omega)]; exact a2 c j hcj) (by rw [e2, gI_sI, if_neg (by omega), e1, gI_sI, if_neg (by omega)]; exact a3) (fun i hi => ?_) (fun i i1 i2 i3 => by rw [e2, gI_sI, if_neg (by omega), e1, gI_sI, if_neg (by omega)]; exact a5 i i1 (by omega) (by omega))
      by_cases ei : i = k
      · subst ei
        refine ⟨?_, ?_⟩
        · rw [e2, gI_sI, if_neg (by omega), e1, gI_sI, if_pos ⟨rfl, rfl⟩]
        · rw [e2, gI_sI, if_pos ⟨rfl, rfl⟩]
      · rw [e2, gI_sI, if_neg (by omega), e1, gI_sI, if_neg (by omega), gI_sI, if_neg (by omega), gI_sI, if_neg (by omega)]
        exact a4 i (by omega)
  refine ⟨T + 1, key T 0 (by omega) s (by rw [es]; rfl) (fun c j hcj => by rw [es, gI_sI, if_neg (by omega)]) (by rw [es, gI_sI, if_pos ⟨rfl, rfl⟩]) (fun i hi => absurd hi (Nat.not_lt_zero _)) (fun i i1 _ _ => by rw [es, gI_sI, if_neg (by omega)])⟩
/-! a new text -/
def mkT (σ s : st_S) (t i dl ln : Nat) : Prop := gN s = t + i ∧ (∀ c j, c < t → gI s c j = gI σ c j ∧ gR s c j = gR σ c j) ∧ (∀ c, c < t ∨ t + i ≤ c → gK s c = gK σ c ∧ gL s c = gL σ c) ∧ gK s t = 41 ∧ (gI s t 6 = (dl : Int) ∧ gI s t 7 = (ln : Int)) ∧ ∀ d, 1 ≤ d → d < i → gK s (t + d) = 0 ∧ gL s (t + d) = (if d = 1 then dl else ln) ∧ gR s t (d - 1) = some (t + d) ∧ ∀ j, j < (if d = 1 then dl else ln) → gI s (t + d) j = gI σ (14 + d) j
theorem w_copyT {σ s : st_S} {t i dl ln : Nat} {K : st_S → Prop} (h : mkT σ s t i dl ln) (hi : 1 ≤ i ∧ i ≤ 6) (ht : 65 ≤ t) (hk : gK σ (14 + i) = 0) (hL : gL σ (14 + i) = (if i = 1 then 400 else 12)) (hd : dl ≤ 400) (hl : ln ≤ 12) (hK : ∀ s', mkT σ s' t (i + 1) dl ln → K s') : wp_J7_copyOf_59c91 (14 + i) (((if i = 1 then dl else ln) : Nat) : Int) s (fun t76 s77 => gK s77 t = 32 + 9 ∧ ∀ s80 : st_S, s80 = sR s77 t (i - 1) (some t76) → K s80) := by
  obtain ⟨h1, h2, h3, h4, h5, h6⟩ := h
  have ks : gK s (14 + i) = 0 := by rw [(h3 _ (Or.inl (by omega))).1]; exact hk
  have ls : gL s (14 + i) = (if i = 1 then 400 else 12) := by rw [(h3 _ (Or.inl (by omega))).2]; exact hL
  generalize em : (if i = 1 then dl else ln) = m
  generalize eL : (if i = 1 then 400 else 12) = L at ls
  have mL : m ≤ L := by rw [← em, ← eL]; split <;> omega
  have L4 : L ≤ 400 := by rw [← eL]; split <;> decide
  -- what both ways give
  have fin : ∀ s77 : st_S, gN s77 = gN s + 1 → (∀ c, gK s77 c = if c = gN s then 0 else gK s c) → (∀ c, gL s77 c = if c = gN s then m else gL s c) → (∀ c j, gR s77 c j = if c = gN s then none else gR s c j) → (∀ c j, c ≠ gN s → gI s77 c j = gI s c j) → (∀ j, j < m → gI s77 (gN s) j = gI s (14 + i) j) → gK s77 t = 32 + 9 ∧ ∀ s80 : st_S, s80 = sR s77 t (i - 1) (some (gN s)) → K s80 := by
    intro s77 a1 a2 a3 a4 a5 a6
    refine ⟨by rw [a2, if_neg (by omega)]; exact h4, ?_⟩
    intro s80 e80
    have bI : ∀ c j, gI s80 c j = gI s77 c j := fun c j => by rw [e80]; rfl
    have bK : ∀ c, gK s80 c = gK s77 c := fun c => by rw [e80]; rfl
    have bL : ∀ c, gL s80 c = gL s77 c := fun c => by rw [e80]; rfl
    have bR : ∀ c j, gR s80 c j = if c = t ∧ j = i - 1 then some (gN s) else gR s77 c j := fun c j => by rw [e80, gR_sR]
    refine hK s80 ⟨by rw [e80]; show gN s77 = _; rw [a1, h1]; omega, fun c j hc => ⟨?_, ?_⟩, fun c hc => ⟨?_, ?_⟩, ?_, ⟨?_, ?_⟩, fun d d1 d2 => ?_⟩
    · rw [bI, a5 _ _ (by omega)]; exact (h2 c j hc).1
    · rw [bR, if_neg (by omega), a4, if_neg (by omega)]; exact (h2 c j hc).2
    · rw [bK, a2, if_neg (by omega)]; exact (h3 c (by omega)).1
    · rw [bL, a3, if_neg (by omega)]; exact (h3 c (by omega)).2
    · rw [bK, a2, if_neg (by omega)]; exact h4
    · rw [bI, a5 _ _ (by omega)]; exact h5.1
    · rw [bI, a5 _ _ (by omega)]; exact h5.2
    · by_cases ed : d = i
      · subst ed
        rw [em]
        refine ⟨by rw [bK, a2, if_pos (by omega)], by rw [bL, a3, if_pos (by omega)], by rw [bR, if_pos ⟨rfl, rfl⟩, h1], fun j hj => ?_⟩
        rw [bI, show t + d = gN s by omega, a6 j hj]
        exact (h2 _ _ (by omega)).1
      · obtain ⟨g1, g2, g3, g4⟩ := h6 d d1 (by omega)
        refine ⟨by rw [bK, a2, if_neg (by omega)]; exact g1, by rw [bL, a3, if_neg (by omega)]; exact g2, by rw [bR, if_neg (by omega), a4, if_neg (by omega)]; exact g3, fun j hj => by rw [bI, a5 _ _ (by omega)]; exact g4 j hj⟩
  refine ⟨ks, fun w => ⟨⟨by omega, by omega⟩, ?_⟩, fun w => ⟨ks, by rw [ls]; omega, ?_⟩⟩
  · intro t16 s17 et es
    rw [Int.toNat_natCast] at es
    have kA : ∀ c, gK s17 c = if c = gN s then 0 else gK s c := fun c => by rw [es]; rfl
    have lA : ∀ c, gL s17 c = if c = gN s then m else gL s c := fun c => by rw [es]; rfl
    have e14 : gL s17 (14 + i) = L := by rw [lA, if_neg (by omega)]; exact ls
    have et16 : gL s17 t16 = m := by rw [lA, et, if_pos rfl]
    rw [e14, et16, wr_n (by omega)]
    have emn : o_min (L : Int) (m : Int) = (m : Int) := by unfold o_min; split <;> omega
    rw [emn]
    refine ⟨by rw [kA, if_neg (by omega)]; exact ks, ⟨by omega, by omega, by omega, by omega, by omega⟩, ?_⟩
    intro s21 e21
    have gc : ∀ c j, gI s21 c j = if c = t16 then (if (0 : Int).toNat ≤ j ∧ j < (0 : Int).toNat + (m : Int).toNat then gI s17 (14 + i) ((0 : Int).toNat + (j - (0 : Int).toNat)) else gI s17 t16 j) else gI s17 c j := fun c j => by rw [e21]; exact gI_sC _ _ _ _ _ _ _ _
    rw [et]
    refine fin s21 (by rw [e21, es]; rfl) (fun c => by rw [e21]; exact kA c) (fun c => by rw [e21]; exact lA c) (fun c j => by rw [e21, es]; rfl) (fun c j hc => ?_) (fun j hj => ?_)
    · rw [gc, if_neg (by rw [et]; exact hc), es]
      show (if c = gN s then 0 else gI s c j) = _
      rw [if_neg hc]
    · rw [gc, if_pos et.symm, if_pos ⟨by omega, by omega⟩, es]
      show (if 14 + i = gN s then 0 else gI s (14 + i) (0 + (j - 0))) = _
      rw [if_neg (by omega), Nat.zero_add, Nat.sub_zero]
  · have emL : m = L := by rw [ls, wr_n (by omega)] at w; omega
    intro t23 s24 et es
    rw [et]
    have := fin s24 (by rw [es]; rfl) (fun c => by rw [es]; rfl) (fun c => by rw [es, emL, ← ls]; rfl) (fun c j => by rw [es]; rfl) (fun c j hc => ?_) (fun j hj => ?_)
    · exact ⟨by rw [es]; show (if gN s = gN s then 0 else gK s (gN s)) = 0; rw [if_pos rfl], this⟩
    · rw [es, gI_sF, if_neg hc]
      show (if c = gN s then 0 else gI s c j) = _
      rw [if_neg hc]
    · rw [es, gI_sF, if_pos rfl]
theorem w_newT {σ s35 : st_S} {t dl ln : Nat} {Q : st_S → Prop} (ht : t = gN σ) (h65 : 65 ≤ t) (e0 : s35 = sA σ 41 0) (k14 : gK σ 14 = 25) (kk : ∀ d, 15 ≤ d → d ≤ 20 → gK σ d = 0 ∧ gL σ d = (if d = 15 then 400 else 12)) (h6 : gI σ 14 6 = (dl : Int)) (h7 : gI σ 14 7 = (ln : Int)) (hd : dl ≤ 400) (hl : ln ≤ 12) (hQ : ∀ s, mkT σ s t 7 dl ln → Q s) : wp_X9_init_ t 14 s35 Q := by
  have kA : ∀ c, gK s35 c = if c = t then 41 else gK σ c := fun c => by rw [e0, ht]; rfl
  have lA : ∀ c, gL s35 c = if c = t then 0 else gL σ c := fun c => by rw [e0, ht]; rfl
  have iA : ∀ c j, c ≠ t → gI s35 c j = gI σ c j := fun c j hc => by rw [e0]; show (if c = gN σ then 0 else gI σ c j) = _; rw [if_neg (by omega)]
  have rA : ∀ c j, c ≠ t → gR s35 c j = gR σ c j := fun c j hc => by rw [e0]; show (if c = gN σ then none else gR σ c j) = _; rw [if_neg (by omega)]
  refine ⟨by rw [kA, if_neg (by omega)]; exact k14, by rw [kA, if_pos rfl], ?_⟩
  intro s1 e1 s2 e2
  have f2 : ∀ c j, c ≠ t → gI s2 c j = gI σ c j := fun c j hc => by rw [e2, gI_sI, if_neg (by omega), e1, gI_sI, if_neg (by omega)]; exact iA c j hc
  have d35 : gI s35 14 6 = (dl : Int) := by rw [iA _ _ (by omega)]; exact h6
  have d1 : gI s1 14 7 = (ln : Int) := by rw [e1, gI_sI, if_neg (by omega), iA _ _ (by omega)]; exact h7
  rw [d35] at e1
  rw [d1] at e2
  have m1 : mkT σ s2 t 1 dl ln := ⟨by rw [e2, e1, e0]; show gN σ + 1 = _; omega, fun c j hc => ⟨f2 c j (by omega), by rw [e2, e1]; exact rA c j (by omega)⟩, fun c hc => ⟨by rw [e2, e1]; show gK s35 c = _; rw [kA, if_neg (by omega)], by rw [e2, e1]; show gL s35 c = _; rw [lA, if_neg (by omega)]⟩, by rw [e2, e1]; show gK s35 t = _; rw [kA, if_pos rfl], ⟨by rw [e2, gI_sI, if_neg (by omega), e1, gI_sI, if_pos ⟨rfl, rfl⟩], by rw [e2, gI_sI, if_pos ⟨rfl, rfl⟩]⟩, fun d a b => absurd b (by omega)⟩
  have at6 : ∀ {s : st_S} {i : Nat}, mkT σ s t i dl ln → gK s 14 = 16 + 9 ∧ gI s 14 6 = (dl : Int) ∧ gI s 14 7 = (ln : Int) := fun m => ⟨by rw [(m.2.2.1 14 (Or.inl (by omega))).1]; exact k14, by rw [(m.2.1 14 6 (by omega)).1]; exact h6, by rw [(m.2.1 14 7 (by omega)).1]; exact h7⟩
  have K : ∀ d, 1 ≤ d → d ≤ 6 → gK σ (14 + d) = 0 ∧ gL σ (14 + d) = (if d = 1 then 400 else 12) := fun d a b => by
    have := kk (14 + d) (by omega) (by omega)
    refine ⟨this.1, this.2.trans ?_⟩
    by_cases c : d = 1
    · subst c; rfl
    · rw [if_neg (by omega), if_neg c]
  rw [(at6 m1).2.1]
  refine ⟨⟨by omega, by omega⟩, w_copyT (i := 1) m1 (by decide) h65 (K 1 (by decide) (by decide)).1 (K 1 (by decide) (by decide)).2 hd hl (fun s3 m2 => ?_)⟩
  rw [(at6 m2).2.2]
  refine ⟨(at6 m2).1, ⟨by omega, by omega⟩, w_copyT (i := 2) m2 (by decide) h65 (K 2 (by decide) (by decide)).1 (K 2 (by decide) (by decide)).2 hd hl (fun s4 m3 => ?_)⟩
  rw [(at6 m3).2.2]
  refine ⟨(at6 m3).1, ⟨by omega, by omega⟩, w_copyT (i := 3) m3 (by decide) h65 (K 3 (by decide) (by decide)).1 (K 3 (by decide) (by decide)).2 hd hl (fun s5 m4 => ?_)⟩
  rw [(at6 m4).2.2]
  refine ⟨(at6 m4).1, ⟨by omega, by omega⟩, w_copyT (i := 4) m4 (by decide) h65 (K 4 (by decide) (by decide)).1 (K 4 (by decide) (by decide)).2 hd hl (fun s6 m5 => ?_)⟩
  rw [(at6 m5).2.2]
  refine ⟨(at6 m5).1, ⟨by omega, by omega⟩, w_copyT (i := 5) m5 (by decide) h65 (K 5 (by decide) (by decide)).1 (K 5 (by decide) (by decide)).2 hd hl (fun s7 m6 => ?_)⟩
  rw [(at6 m6).2.2]
  exact ⟨(at6 m6).1, ⟨by omega, by omega⟩, w_copyT (i := 6) m6 (by decide) h65 (K 6 (by decide) (by decide)).1 (K 6 (by decide) (by decide)).2 hd hl (fun s8 m7 => hQ s8 m7)⟩
theorem sr9 {t j c : Nat} (h : srf 9 t j = some c) : j ≤ 5 ∧ c = t + (j + 1) := by
  match j, h with
  | 0, h => injection h with h; exact ⟨by omega, h.symm⟩
  | 1, h => injection h with h; exact ⟨by omega, h.symm⟩
  | 2, h => injection h with h; exact ⟨by omega, h.symm⟩
  | 3, h => injection h with h; exact ⟨by omega, h.symm⟩
  | 4, h => injection h with h; exact ⟨by omega, h.symm⟩
  | 5, h => injection h with h; exact ⟨by omega, h.symm⟩
  | 6, h => exact absurd (show none = some c from h) (by simp)
  | 7, h => exact absurd (show none = some c from h) (by simp)
  | j + 8, h => exact absurd (show none = some c from h) (by simp)
theorem sb9v {j : Nat} {q : Nat × Option Nat} (hj : 0 < j) (h : sbf 9 j = some q) : j ≤ 6 ∧ q = (0, none) := by
  match j, hj, h with
  | 1, _, h => injection h with h; exact ⟨by omega, h.symm⟩
  | 2, _, h => injection h with h; exact ⟨by omega, h.symm⟩
  | 3, _, h => injection h with h; exact ⟨by omega, h.symm⟩
  | 4, _, h => injection h with h; exact ⟨by omega, h.symm⟩
  | 5, _, h => injection h with h; exact ⟨by omega, h.symm⟩
  | 6, _, h => injection h with h; exact ⟨by omega, h.symm⟩
  | j + 7, _, h => exact absurd (show none = some q from h) (by simp)
