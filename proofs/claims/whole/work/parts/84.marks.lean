/-! marks of what was seen: bits of ints -/
theorem tpb : ∀ i : Nat, i < 32 → (iI (o_shl 1 (i : Int))).toBitVec = BitVec.twoPow 32 i := by decide +kernel
def sbt (x : Int) (i : Nat) : Bool := (iI x).toBitVec.getLsbD i
theorem sbt_and {x : Int} {i : Nat} (hi : i < 32) : o_and x (o_shl 1 (i : Int)) = 0 ↔ sbt x i = false := by
  unfold sbt
  have e : o_and x (o_shl 1 (i : Int)) = ((iI x).toBitVec &&& BitVec.twoPow 32 i).toInt := by
    rw [← tpb i hi]; rfl
  rw [e, BitVec.and_twoPow]
  cases hb : (iI x).toBitVec.getLsbD i with
  | false => simp
  | true =>
    simp only [if_true]
    constructor
    · intro h
      have h0 : (BitVec.twoPow 32 i) = 0#32 := by
        apply BitVec.eq_of_toInt_eq
        rw [h]
        rfl
      have := congrArg (fun v => BitVec.getLsbD v i) h0
      simp [BitVec.getLsbD_twoPow, hi] at this
    · intro h; exact absurd h (by decide)
theorem sbt_or {x : Int} {i j : Nat} (hi : i < 32) : sbt (o_or x (o_shl 1 (i : Int))) j = (sbt x j || decide (i = j)) := by
  unfold sbt
  have e : iI (o_or x (o_shl 1 (i : Int))) = (iI x ||| iI (o_shl 1 (i : Int))) := iI_of _
  rw [e]
  show ((iI x).toBitVec ||| (iI (o_shl 1 (i : Int))).toBitVec).getLsbD j = _
  rw [tpb i hi, BitVec.getLsbD_or, BitVec.getLsbD_twoPow]
  by_cases q : i = j
  · subst q; simp [hi]
  · simp [q]
theorem sbt_0 {j : Nat} : sbt 0 j = false := by
  unfold sbt
  show (0#32).getLsbD j = false
  simp
/-- whether (night k, then u, lands l) was marked -/
def mkd (σ : st_S) (trn : Bool) (k u l : Nat) : Bool := if trn then sbt (gI σ 59 (1024 * (k / 2) + u)) (k % 2 * 16 + l) else sbt (gI σ 57 u) k
def mkC (trn : Bool) : Nat := if trn then 59 else 57
def mkI (trn : Bool) (k u : Nat) : Nat := if trn then 1024 * (k / 2) + u else u
def mkB (trn : Bool) (k l : Nat) : Nat := if trn then k % 2 * 16 + l else k
/-- Search's rows -/
def sKd (σ : st_S) : Prop := (gK σ 57 = 0 ∧ gL σ 57 = 1024) ∧ (gK σ 58 = 0 ∧ gL σ 58 = 1024) ∧ (gK σ 59 = 0 ∧ gL σ 59 = 5120) ∧ (gK σ 62 = 0 ∧ gL σ 62 = 10)
theorem sKd_of {σ τ : st_S} (h : sKd σ) (g : τ.2 = σ.2) : sKd τ := by
  unfold sKd gK gL at *
  rw [g]
  exact h
theorem nh : ∀ k : Nat, k < 10 → o_shl (o_shr (k : Int) 1) 10 = ((1024 * (k / 2) : Nat) : Int) ∧ o_and (k : Int) 1 = ((k % 2 : Nat) : Int) := by decide +kernel
theorem w_isSeen {σ : st_S} {trn : Bool} {k u l : Nat} {Q : Int → st_S → Prop} (hs : sKd σ) (hk : k < 10) (hu : u < 1024) (hl : l < 16) (ht : gI σ 56 16 = if trn then 1 else 0)
    (hQ : Q (if mkd σ trn k u l then 1 else 0) (sI σ (mkC trn) (mkI trn k u) (o_or (gI σ (mkC trn) (mkI trn k u)) (o_shl 1 (mkB trn k l : Int))))) : wp_X8_isSeen (k : Int) (u : Int) (l : Int) σ Q := by
  have b97 : ∀ (c i L : Nat) (b : Int) (v : Int), gK σ c = 0 → gL σ c = L → i < L → (v = 0 ∨ v = 1) → Q v (sI σ c i (o_or (gI σ c i) b)) → B_X8_isSeen_97 Q c (i : Int) b v σ := by
    intro c i L b v h1 h2 h3 h4 h5
    refine ⟨h1, by rw [h2]; exact ixn h3, by rw [h2]; exact ixn h3, ?_⟩
    intro s es
    rw [Int.toNat_natCast] at es
    subst es
    exact ⟨h4, h5⟩
  have b64 : ∀ (c i L b : Nat), gK σ c = 0 → gL σ c = L → L < 100000 → i < L → b < 32 → Q (if sbt (gI σ c i) b then 1 else 0) (sI σ c i (o_or (gI σ c i) (o_shl 1 (b : Int)))) → B_X8_isSeen_64 Q c (i : Int) (o_shl 1 (b : Int)) σ := by
    intro c i L b h1 h2 hL h3 h4 h5
    refine ⟨fun z => absurd z (by omega), fun _ => ⟨h1, fun z => ⟨by rw [h2]; exact ixn h3, ?_⟩, fun z => ?_⟩⟩
    · rw [Int.toNat_natCast]
      refine ⟨fun y => b97 c i L _ 0 h1 h2 h3 (Or.inl rfl) ?_, fun y => b97 c i L _ 1 h1 h2 h3 (Or.inr rfl) ?_⟩
      · rw [sbt_and h4] at y
        rw [y, if_neg (by decide)] at h5
        exact h5
      · rw [sbt_and h4] at y
        have y' : sbt (gI σ c i) b = true := by cases hb : sbt (gI σ c i) b; exact absurd hb y; rfl
        rw [y', if_pos rfl] at h5
        exact h5
    · rw [h2, wr_n (by omega)] at z
      exact absurd (by omega) z
  cases trn with
  | false =>
    rw [if_neg (by decide)] at ht
    exact ⟨fun _ => ⟨fun _ => ⟨fun _ => b64 57 u 1024 k hs.1.1 hs.1.2 (by decide) hu (by omega) hQ, fun z => absurd ht z⟩, fun z => absurd ht z⟩, fun z => absurd ht z⟩
  | true =>
    rw [if_pos rfl] at ht
    have nz : ¬ gI σ 56 16 = 0 := by rw [ht]; decide
    refine ⟨fun z => absurd z nz, fun _ => ⟨fun z => absurd z nz, fun _ => ?_⟩⟩
    intro x ex
    rw [(nh k hk).1, show ((1024 * (k / 2) : Nat) : Int) + (u : Int) = ((1024 * (k / 2) + u : Nat) : Int) by omega, wr_n (by omega)] at ex
    subst ex
    refine ⟨fun z => absurd z nz, fun _ => ?_⟩
    rw [(nh k hk).2, show ((k % 2 : Nat) : Int) * 16 + (l : Int) = ((k % 2 * 16 + l : Nat) : Int) by omega]
    exact b64 59 (1024 * (k / 2) + u) 5120 (k % 2 * 16 + l) hs.2.2.1.1 hs.2.2.1.2 (by decide) (by omega) (by omega) hQ
/-- what a mark changes -/
theorem mkd_s {σ : st_S} {trn : Bool} {k u l k' u' l' : Nat} (hk : k < 10) (hu : u < 1024) (hl : l < 16) (hk' : k' < 10) (hu' : u' < 1024) (hl' : l' < 16) :
    mkd (sI σ (mkC trn) (mkI trn k u) (o_or (gI σ (mkC trn) (mkI trn k u)) (o_shl 1 (mkB trn k l : Int)))) trn k' u' l' = true ↔ mkd σ trn k' u' l' = true ∨ (k' = k ∧ u' = u ∧ (trn = true → l' = l)) := by
  cases trn with
  | false =>
    show sbt (gI (sI σ 57 u (o_or (gI σ 57 u) (o_shl 1 (k : Int)))) 57 u') k' = true ↔ sbt (gI σ 57 u') k' = true ∨ (k' = k ∧ u' = u ∧ (false = true → l' = l))
    rw [gI_sI]
    by_cases e : u' = u
    · subst e
      rw [if_pos ⟨rfl, rfl⟩, sbt_or (by omega), Bool.or_eq_true, decide_eq_true_eq]
      constructor
      · rintro (h | h)
        · exact Or.inl h
        · exact Or.inr ⟨h.symm, rfl, fun z => absurd z (by decide)⟩
      · rintro (h | h)
        · exact Or.inl h
        · exact Or.inr h.1.symm
    · rw [if_neg (fun z => e z.2)]
      exact ⟨Or.inl, fun h => h.elim id (fun z => absurd z.2.1 e)⟩
  | true =>
    show sbt (gI (sI σ 59 (1024 * (k / 2) + u) (o_or (gI σ 59 (1024 * (k / 2) + u)) (o_shl 1 ((k % 2 * 16 + l : Nat) : Int)))) 59 (1024 * (k' / 2) + u')) (k' % 2 * 16 + l') = true ↔ sbt (gI σ 59 (1024 * (k' / 2) + u')) (k' % 2 * 16 + l') = true ∨ (k' = k ∧ u' = u ∧ (true = true → l' = l))
    rw [gI_sI]
    by_cases e : 1024 * (k' / 2) + u' = 1024 * (k / 2) + u
    · rw [if_pos ⟨rfl, e⟩, e, sbt_or (by omega), Bool.or_eq_true, decide_eq_true_eq]
      constructor
      · rintro (h | h)
        · exact Or.inl h
        · exact Or.inr ⟨by omega, by omega, fun _ => by omega⟩
      · rintro (h | h)
        · exact Or.inl h
        · exact Or.inr (by have := h.2.2 rfl; omega)
    · rw [if_neg (fun z => e z.2)]
      exact ⟨Or.inl, fun h => h.elim id (fun z => absurd (by rw [z.1, z.2.1]) e)⟩
