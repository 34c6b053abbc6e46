/-! bits of small numbers -/
theorem iI_nat (n : Nat) : iI (n : Int) = Int32.ofNat n := rfl
theorem iI_bv (n : Nat) : (iI (n : Int)).toBitVec = BitVec.ofNat 32 n := rfl
theorem bv_small {n : Nat} (h : n < 2 ^ 31) : (BitVec.ofNat 32 n).toInt = (n : Int) := by
  rw [BitVec.toInt_eq_toNat_of_lt]
  · rw [BitVec.toNat_ofNat, Nat.mod_eq_of_lt (by omega)]
  · rw [BitVec.toNat_ofNat, Nat.mod_eq_of_lt (by omega)]
    omega
theorem and_lt {a b : Nat} (h : a < 2 ^ 31) : a &&& b < 2 ^ 31 := Nat.lt_of_le_of_lt Nat.and_le_left h
theorem n_and {a b : Nat} (ha : a < 2 ^ 31) (hb : b < 2 ^ 31) : o_and (a : Int) (b : Int) = ((a &&& b : Nat) : Int) := by
  show ((iI a).toBitVec &&& (iI b).toBitVec).toInt = _
  rw [iI_bv, iI_bv, ← BitVec.ofNat_and, bv_small (and_lt ha)]
theorem n_or {a b : Nat} (ha : a < 2 ^ 31) (hb : b < 2 ^ 31) : o_or (a : Int) (b : Int) = ((a ||| b : Nat) : Int) := by
  show ((iI a).toBitVec ||| (iI b).toBitVec).toInt = _
  rw [iI_bv, iI_bv, ← BitVec.ofNat_or, bv_small (Nat.or_lt_two_pow ha hb)]
theorem n_xor {a b : Nat} (ha : a < 2 ^ 31) (hb : b < 2 ^ 31) : o_xor (a : Int) (b : Int) = ((a ^^^ b : Nat) : Int) := by
  show ((iI a).toBitVec ^^^ (iI b).toBitVec).toInt = _
  rw [iI_bv, iI_bv, ← BitVec.ofNat_xor, bv_small (Nat.xor_lt_two_pow ha hb)]
/-- a without b's bits -/
def ndn (a b : Nat) : Nat := a &&& (b ^^^ 2147483647)
theorem ndn_bit {a b i : Nat} (ha : a < 2 ^ 31) : (ndn a b).testBit i = (a.testBit i && !b.testBit i) := by
  unfold ndn
  rw [Nat.testBit_and, Nat.testBit_xor, show (2147483647 : Nat) = 2 ^ 31 - 1 from rfl, Nat.testBit_two_pow_sub_one]
  rcases Nat.lt_or_ge i 31 with h | h
  · simp [h]
  · have : a.testBit i = false := Nat.testBit_lt_two_pow (Nat.lt_of_lt_of_le ha (Nat.pow_le_pow_right (by decide) h))
    simp [this]
theorem ndn_le (a b : Nat) : ndn a b ≤ a := Nat.and_le_left
theorem n_andn {a b : Nat} (ha : a < 2 ^ 31) (hb : b < 2 ^ 31) : o_and (a : Int) (o_xor (b : Int) (-1)) = ((ndn a b : Nat) : Int) := by
  have e : iI (o_xor (b : Int) (-1)) = (iI (b : Int) ^^^ iI (-1)) := iI_of _
  show (iI (a : Int) &&& iI (o_xor (b : Int) (-1))).toInt = _
  rw [e]
  show ((iI (a : Int)).toBitVec &&& ((iI (b : Int)).toBitVec ^^^ (iI (-1)).toBitVec)).toInt = _
  have h : (iI (a : Int)).toBitVec &&& ((iI (b : Int)).toBitVec ^^^ (iI (-1)).toBitVec) = BitVec.ofNat 32 (ndn a b) := by
    apply BitVec.eq_of_toNat_eq
    rw [BitVec.toNat_and, BitVec.toNat_xor, iI_bv, iI_bv, BitVec.toNat_ofNat, BitVec.toNat_ofNat, BitVec.toNat_ofNat, show (iI (-1)).toBitVec.toNat = 2 ^ 32 - 1 from rfl, Nat.mod_eq_of_lt (a := a) (by omega), Nat.mod_eq_of_lt (a := b) (by omega), Nat.mod_eq_of_lt (a := ndn a b) (by have := ndn_le a b; omega)]
    apply Nat.eq_of_testBit_eq
    intro i
    rw [ndn_bit ha, Nat.testBit_and, Nat.testBit_xor, Nat.testBit_two_pow_sub_one]
    rcases Nat.lt_or_ge i 32 with h | h
    · simp [h]
    · have : a.testBit i = false := Nat.testBit_lt_two_pow (Nat.lt_of_lt_of_le ha (Nat.pow_le_pow_right (by decide) (by omega)))
      simp [this]
  rw [h, bv_small (by have := ndn_le a b; omega)]
theorem sh_k : ∀ k : Nat, k < 32 → ((iI (k : Int) &&& 31).toBitVec.smod 32).toNat = k := by decide +kernel
theorem n_shr {a k : Nat} (ha : a < 2 ^ 31) (hk : k < 32) : o_shr (a : Int) (k : Int) = ((a >>> k : Nat) : Int) := by
  have h := pk_shrN (n := a) ha (iI (k : Int) &&& 31) k (sh_k k hk)
  show (iI (a : Int) >>> (iI (k : Int) &&& 31)).toInt = _
  rw [show iI (a : Int) = nI a from rfl, h, nI_toInt, Nat.shiftRight_eq_div_pow]
  exact Nat.lt_of_le_of_lt (Nat.div_le_self _ _) ha
theorem n_shl {a k : Nat} (hk : k < 31) (h : a * 2 ^ k < 2 ^ 31) : o_shl (a : Int) (k : Int) = ((a <<< k : Nat) : Int) := by
  have h := pk_shlN (n := a) (iI (k : Int) &&& 31) k (sh_k k (by omega)) (by omega)
  show (iI (a : Int) <<< (iI (k : Int) &&& 31)).toInt = _
  rw [show iI (a : Int) = nI a from rfl, h, nI_toInt (by omega), Nat.shiftLeft_eq]
/-- bit k -/
theorem n_bit {a k : Nat} (ha : a < 2 ^ 31) (hk : k < 32) : o_and (o_shr (a : Int) (k : Int)) 1 = if a.testBit k then 1 else 0 := by
  rw [n_shr ha hk]
  have h1 : a >>> k < 2 ^ 31 := by
    rw [Nat.shiftRight_eq_div_pow]
    exact Nat.lt_of_le_of_lt (Nat.div_le_self _ _) ha
  have := n_and (a := a >>> k) (b := 1) h1 (by decide)
  rw [show ((1 : Nat) : Int) = 1 from rfl] at this
  rw [this]
  unfold Nat.testBit
  rw [Nat.and_comm (a >>> k) 1]
  have h2 : 1 &&& a >>> k < 2 := Nat.lt_of_le_of_lt Nat.and_le_left (by decide)
  generalize 1 &&& a >>> k = z at h2
  match z, h2 with
  | 0, _ => rfl
  | 1, _ => rfl
/-- Integer.bitCount of ten bits -/
def pop (n : Nat) : Nat := (List.range 10).foldl (fun s i => s + if n.testBit i then 1 else 0) 0
def bcf (a1 : Int) : Int := let x6 := wr (a1 - o_and (o_ushr a1 1) 1431655765); let x7 := wr (o_and x6 858993459 + o_and (o_ushr x6 2) 858993459); let x8 := o_and (x7 + o_ushr x7 4) 252645135; let x9 := wr (x8 + o_ushr x8 8); let x10 := wr (x9 + o_ushr x9 16); o_and x10 63
theorem bcf_pop : ∀ n : Nat, n < 1024 → bcf (n : Int) = (pop n : Int) := by decide +kernel
theorem w_bitCount {n : Nat} (h : n < 1024) {σ : st_S} {Q : Int → st_S → Prop} (hQ : Q (pop n : Int) σ) : wp_J6_bitCount_0f7a4 (n : Int) σ Q := by
  rw [← bcf_pop n h] at hQ
  unfold wp_J6_bitCount_0f7a4
  rintro x6 rfl x7 rfl x8 rfl x9 rfl x10 rfl
  exact hQ
theorem fmd16 : ∀ n : Nat, n < 64 → o_rem (n : Int) 16 = ((n % 16 : Nat) : Int) ∧ 0 ≤ o_xor (n : Int) 16 := by decide +kernel
theorem w_floorMod {n : Nat} (h : n < 64) {σ : st_S} {Q : Int → st_S → Prop} (hQ : Q ((n % 16 : Nat) : Int) σ) : wp_J9_floorMod_7cf53 (n : Int) 16 σ Q := by
  obtain ⟨h1, h2⟩ := fmd16 n h
  refine ⟨by decide, fun x4 e4 => ⟨fun _ => ?_, fun q => absurd h2 q⟩⟩
  subst e4
  rw [h1]
  exact hQ
/-- Arrays.fill of ints -/
theorem w_fill {c : Nat} {v : Int} {σ : st_S} {Q : st_S → Prop} (hk : gK σ c = 0) (hL : gL σ c < 2 ^ 31) (hQ : Q (sF σ c (fun j => if j < gL σ c then v else gI σ c j))) : wp_J7_fill_53178 c v σ Q := by
  refine ⟨hk, fun x ex => ?_⟩
  rw [wr_id (by omega) (by omega)] at ex
  rw [ex]
  refine ⟨gL σ c + 1, ?_⟩
  have key : ∀ n i : Nat, i + n = gL σ c → L_J7_fill_53178_5 Q (n + 1) c v (i : Int) ((gL σ c : Nat) : Int) (sF σ c (fun j => if j < i then v else gI σ c j)) := by
    intro n
    induction n with
    | zero =>
      intro i hi
      refine ⟨fun _ => ?_, fun q => absurd (by omega) q⟩
      rw [show i = gL σ c by omega]
      exact hQ
    | succ n ih =>
      intro i hi
      refine ⟨fun q => absurd q (by omega), fun _ => ⟨hk, ⟨by omega, by rw [gL_sF]; omega⟩, ?_⟩⟩
      intro s es x ex
      rw [wr_id (by omega) (by omega)] at ex
      rw [es, ex]
      have e : sI (sF σ c (fun j => if j < i then v else gI σ c j)) c (Int.toNat (i : Int)) v = sF σ c (fun j => if j < i + 1 then v else gI σ c j) := by
        refine Prod.ext (funext fun c' => funext fun j' => ?_) rfl
        show gI (sI _ _ _ _) c' j' = gI (sF _ _ _) c' j'
        rw [gI_sI, gI_sF, gI_sF]
        by_cases h1 : c' = c
        · subst h1
          rw [Int.toNat_natCast]
          by_cases h2 : j' = i
          · subst h2; simp
          · by_cases h3 : j' < i
            · simp [h2, h3, show j' < i + 1 by omega]
            · simp [h2, h3, show ¬ j' < i + 1 by omega]
        · simp [h1]
      rw [e]
      have := ih (i + 1) (by omega)
      rw [show ((i + 1 : Nat) : Int) = (i : Int) + 1 by omega] at this
      exact this
  have := key (gL σ c) 0 (by omega)
  rw [show sF σ c (fun j => if j < 0 then v else gI σ c j) = σ from Prod.ext (funext fun c' => funext fun j' => by
    show gI (sF _ _ _) c' j' = gI σ c' j'
    rw [gI_sF]
    split
    · rename_i e; subst e; simp
    · rfl) rfl] at this
  exact this
