/-! the pure part: what stands between the class's store and the reference's -/
theorem gI_sC (σ : st_S) (a : Nat) (sp : Int) (b : Nat) (dp n : Int) (c' j' : Nat) : gI (sC σ a sp b dp n) c' j' = if c' = b then (if dp.toNat ≤ j' ∧ j' < dp.toNat + n.toNat then gI σ a (sp.toNat + (j' - dp.toNat)) else gI σ b j') else gI σ c' j' := rfl
theorem gR_sC (σ : st_S) (a : Nat) (sp : Int) (b : Nat) (dp n : Int) (c' j' : Nat) : gR (sC σ a sp b dp n) c' j' = gR σ c' j' := rfl
theorem gK_sC (σ : st_S) (a : Nat) (sp : Int) (b : Nat) (dp n : Int) (c' : Nat) : gK (sC σ a sp b dp n) c' = gK σ c' := rfl
theorem gL_sC (σ : st_S) (a : Nat) (sp : Int) (b : Nat) (dp n : Int) (c' : Nat) : gL (sC σ a sp b dp n) c' = gL σ c' := rfl
theorem wr_n {n : Nat} (h : n < 2147483648) : wr (n : Int) = (n : Int) := wr_id (by omega) (by omega)
/-! words worked out (the class's code) -/
def xop (op a b : Int) : Option Int :=
  (if op = 2 then some (a + b) else if op = 3 then some (a - b) else if op = 4 then some (a * b) else if op = 5 then (if b = 0 then none else some (a.tdiv b)) else if op = 6 then (if b = 0 then none else some (a.tmod b)) else if op = 7 then some (if a < b then 1 else 0) else if op = 8 then some (if b < a then 1 else 0) else some (if a = b then 1 else 0)).bind (fun v => if v < -1000000000 ∨ 1000000000 < v then none else some v)
def xst (oc od W : Nat → Int) (q : Nat × List Int) : Option (Nat × List Int) :=
  if oc q.1 = 0 then (if 64 ≤ q.2.length then none else some (q.1 + 1, od q.1 :: q.2))
  else if oc q.1 = 1 then (if 64 ≤ q.2.length then none else if 25 ≤ od q.1 then none else some (q.1 + 1, W (od q.1).toNat :: q.2))
  else if oc q.1 = 10 then (match q.2 with | a :: s => some (q.1 + 1, wr (1 - a) :: s) | [] => none)
  else if oc q.1 = 11 ∨ oc q.1 = 12 then (match q.2 with | a :: s => if (a = 1 ↔ oc q.1 = 11) then some (max (q.1 + 1) (od q.1).toNat, a :: s) else some (q.1 + 1, s) | [] => none)
  else (match q.2 with | b :: a :: s => (xop (oc q.1) a b).map (fun v => (q.1 + 1, v :: s)) | _ => none)
def xn (oc od W : Nat → Int) : Nat → Nat × List Int → Option (Nat × List Int)
  | 0, q => some q
  | n + 1, q => (xst oc od W q).bind (xn oc od W n)
/-- the code from a to b works D out, with at most m numbers more on the pile -/
def xDen (oc od : Nat → Int) (a b m : Nat) (D : (Nat → Int) → Option Int) : Prop :=
  a ≤ b ∧ ∀ W : Nat → Int, (∀ i, wr (W i) = W i) → ∀ s : List Int, s.length + m ≤ 64 →
    (∀ v, D W = some v → wr v = v ∧ ∃ n, xn oc od W n (a, s) = some (b, v :: s)) ∧
    (D W = none → ∃ n i s', xn oc od W n (a, s) = some (i, s') ∧ i < b ∧ xst oc od W (i, s') = none)
def cO (σ : st_S) (c : Nat) (i : Nat) : Int := o_shr (gI σ c i) 16
def cD (σ : st_S) (c : Nat) (i : Nat) : Int := o_and (gI σ c i) 65535
/-- a text's meaning: how many clauses; a clause's verb, sum, test, times -/
abbrev zM : Type := Nat × (Nat → Int) × (Nat → (Nat → Int) → Option Int) × (Nat → Option ((Nat → Int) → Option Int)) × (Nat → Int)
/-- which verbs have sums -/
def hasSum (ord : Bool) (v : Int) : Prop := if ord then v < 2 else v < 4
/-- the class's text c has the meaning M -/
def cTx (σ : st_S) (c : Nat) (ord : Bool) (M : zM) : Prop :=
  gI σ c 7 = (M.1 : Int) ∧ M.1 ≤ 12 ∧ (∃ len : Nat, gI σ c 6 = (len : Int) ∧ len ≤ 400 ∧ len ≤ gL σ (c + 1) ∧ (∀ i, i < len → cO σ (c + 1) i ≤ 12) ∧ (ord = false → ∀ i, i < len → cO σ (c + 1) i = 1 → cD σ (c + 1) i < 10) ∧
  ∀ j, j < M.1 → j < gL σ (c + 2) ∧ j < gL σ (c + 3) ∧ j < gL σ (c + 4) ∧ j < gL σ (c + 5) ∧ j < gL σ (c + 6) ∧
    gI σ (c + 2) j = M.2.1 j ∧ (0 ≤ M.2.1 j ∧ M.2.1 j < if ord then 3 else 5) ∧ gI σ (c + 6) j = M.2.2.2.2 j ∧ (1 ≤ M.2.2.2.2 j ∧ M.2.2.2.2 j ≤ 20) ∧
    ∃ a b e : Nat, gI σ (c + 3) j = (a : Int) ∧ gI σ (c + 4) j = (b : Int) ∧ gI σ (c + 5) j = (e : Int) ∧ e ≤ len ∧
      (hasSum ord (M.2.1 j) → xDen (cO σ (c + 1)) (cD σ (c + 1)) a b 50 (M.2.2.1 j)) ∧ (¬ hasSum ord (M.2.1 j) → a = b) ∧
      (M.2.2.2.1 j = none → b = e) ∧ ∀ D, M.2.2.2.1 j = some D → b < e ∧ xDen (cO σ (c + 1)) (cD σ (c + 1)) b e 50 D)
/-! words worked out (the reference's tokens) -/
/-- nothing but where it reads, and whether it is broken, has changed -/
def zE (σ τ : st_S) : Prop := τ.2 = σ.2 ∧ ∀ c j, ¬ (c = 0 ∧ (j = 22 ∨ j = 24)) → gI τ c j = gI σ c j
/-- law words' places: the reference's to the class's -/
def wpm (i : Nat) : Nat := if i = 7 then 8 else if i = 8 then 9 else if i = 9 then 7 else i
def mEn (ord : Bool) (σ : st_S) (base size : Nat) (cf vf W : Nat → Int) : Prop :=
  gI σ 0 23 = ((base + size : Nat) : Int) ∧ base + size ≤ 2800 ∧ (∀ i, i < size → gI σ 2 (266 + base + i) = cf i ∧ gI σ 2 (3066 + base + i) = vf i) ∧
  (∀ i, wr (W i) = W i) ∧
  (ord = false → gI σ 0 8 = 10 ∧ ∀ i, i < 10 → gI σ 12 i = W (wpm i)) ∧
  (ord = true → gI σ 0 8 = 19 ∧ (∀ i, i < 5 → gI σ 12 i = W i) ∧ (∃ n : Nat, n ≤ 10 ∧ gI σ 2 256 = (n : Int) ∧ ∀ p, p < 10 →
    (p < n → W (5 + p) = (if gI σ 2 p = 3 then 0 else 2 - gI σ 2 (20 + p)) ∧ 0 ≤ gI σ 2 (20 + p) ∧ gI σ 2 (20 + p) ≤ 2 ∧ W (15 + p) = (if gI σ 2 p = 2 then 1 else 0)) ∧ (¬ p < n → W (5 + p) = -1 ∧ W (15 + p) = -1)))
/-- what working out leaves behind -/
def zR (σ τ : st_S) (lv : Int) (e : Nat) (o : Option Int) (r : Int) : Prop :=
  zE σ τ ∧ gI τ 0 22 = (e : Int) ∧ (¬ lv = 0 → gI σ 0 24 = 0 → (∀ v, o = some v → r = v ∧ gI τ 0 24 = 0) ∧ (o = none → gI τ 0 24 = 1)) ∧ (lv = 0 ∨ ¬ gI σ 0 24 = 0 → gI τ 0 24 = gI σ 0 24)
/-- the tokens from s to e (of size in all) work D out as m does -/
def tDen (m : Int → st_S → (Int → st_S → Prop) → Prop) (ord : Bool) (cf vf : Nat → Int) (size s e : Nat) (D : (Nat → Int) → Option Int) : Prop :=
  ∀ (σ : st_S) (base : Nat) (W : Nat → Int) (lv : Int) (Q : Int → st_S → Prop), mEn ord σ base size cf vf W → gI σ 0 22 = ((base + s : Nat) : Int) → (gI σ 0 24 = 0 ∨ gI σ 0 24 = 1) → (lv = 0 ∨ lv = 1) →
    (∀ r τ, zR σ τ lv (base + e) (D W) r → Q r τ) → m lv σ Q
def tcf (cf : Nat → Int) (size i : Nat) : Int := if i < size then cf i else 0
/-- the reference's tokens have the meaning M -/
def mTx (ord : Bool) (cf vf : Nat → Int) (size : Nat) (M : zM) : Prop :=
  ∃ ts : Nat → Nat, ts 0 = 0 ∧ size + 1 = ts M.1 ∧ ∀ j, j < M.1 → ts j < size ∧ cf (ts j) = M.2.1 j + (if ord then 26 else 1) ∧ (0 ≤ M.2.1 j ∧ M.2.1 j < if ord then 3 else 5) ∧
    ∃ e1 e2 e3 : Nat, (e1 ≤ size ∧ e2 ≤ size ∧ e3 ≤ size) ∧ ts (j + 1) = e3 + 1 ∧
      (hasSum ord (M.2.1 j) → tDen (wp_X11_sumOf 60) ord cf vf size (ts j + 1) e1 (M.2.2.1 j)) ∧ (¬ hasSum ord (M.2.1 j) → e1 = ts j + 1) ∧
      ((tcf cf size e1 = 29 ∧ ord = true ∧ e1 + 1 < size ∧ vf (e1 + 1) = M.2.2.2.2 j ∧ e2 = e1 + 2) ∨ (¬ tcf cf size e1 = 29 ∧ e2 = e1 ∧ M.2.2.2.2 j = 1)) ∧
      (M.2.2.2.1 j = none → ¬ tcf cf size e2 = 6 ∧ e3 = e2) ∧ ∀ D, M.2.2.2.1 j = some D → tcf cf size e2 = 6 ∧ tDen (wp_X11_testOf 60) ord cf vf size (e2 + 1) e3 D ∧ ∀ W v, D W = some v → v = 0 ∨ v = 1
/-- law i of the abstract state K (the reference's kept numbers) -/
def kTx (K : Nat → Int) (i : Nat) (M : zM) : Prop := ∃ size : Nat, K (259 + i) = (size : Int) ∧ size ≤ 400 ∧ mTx false (fun j => K (266 + 400 * i + j)) (fun j => K (3066 + 400 * i + j)) size M
/-! the coast at cell t stands for K, with n people -/
def zC1 (σ : st_S) (t : Nat) (K : Nat → Int) (n : Nat) : Prop := gI σ t 0 = (n : Int) ∧ K 256 = (n : Int) ∧ n ≤ 10
def zC2 (σ : st_S) (t : Nat) (K : Nat → Int) (n : Nat) : Prop := ∀ p, p < n → gI σ (t + 1) p = K (34 + 2 * p) ∧ 0 ≤ K (34 + 2 * p) ∧ K (34 + 2 * p) ≤ 30
def zC3 (σ : st_S) (t : Nat) (K : Nat → Int) (n : Nat) : Prop := ∀ p, p < n → gI σ (t + 2) p = K (35 + 2 * p) ∧ 0 ≤ K (35 + 2 * p) ∧ K (35 + 2 * p) ≤ 3
def zC4 (σ : st_S) (t : Nat) (K : Nat → Int) (n : Nat) : Prop := ∀ p, p < n → gI σ (t + 3) p = K (20 + p) ∧ 0 ≤ K (20 + p) ∧ K (20 + p) ≤ 2
def zC5 (σ : st_S) (t : Nat) (K : Nat → Int) (n : Nat) : Prop := ∀ p, p < n → gI σ (t + 4) p = K p ∧ 0 ≤ K p ∧ K p ≤ 3
def zC6 (σ : st_S) (t : Nat) (K : Nat → Int) (n : Nat) : Prop := ∀ p, p < n → K p = 1 → gI σ (t + 5) p = K (10 + p)
/-- who talks to whom: the class has bits -/
def zC7 (σ : st_S) (t : Nat) (K : Nat → Int) (n : Nat) : Prop := ∀ p, p < 10 → ∃ f : Nat, f < 1024 ∧ (p < n → gI σ (t + 6) p = (f : Int)) ∧ ∀ q, q < 10 → K (54 + 10 * p + q) = (if f.testBit q then 1 else 0) ∧ K (54 + 10 * q + p) = K (54 + 10 * p + q) ∧ (f.testBit q = true → p < n ∧ q < n ∧ p ≠ q)
def zC8 (σ : st_S) (t : Nat) (K : Nat → Int) : Prop := ∀ d, d < 100 → gI σ (t + 7) d = K (154 + d) ∧ (K (154 + d) = 0 ∨ K (154 + d) = 1)
def zC9 (σ : st_S) (t : Nat) (K : Nat → Int) : Prop := (gI σ (t + 8) 0 = K 33 ∧ 0 ≤ K 33 ∧ K 33 ≤ 999) ∧ (gI σ (t + 8) 1 = K 254 ∧ 0 ≤ K 254 ∧ K 254 ≤ 10) ∧ (gI σ (t + 8) 2 = K 255 ∧ 0 ≤ K 255 ∧ K 255 ≤ 9)
def zCa (B : Nat) (σ : st_S) (t : Nat) (K : Nat → Int) : Prop := gI σ t 12 = K 30 ∧ (gI σ t 13 = K 31 ∧ 0 ≤ K 31 ∧ K 31 ≤ (B : Int)) ∧ gI σ t 14 = K 32
def zCb (σ : st_S) (t : Nat) (K : Nat → Int) : Prop := ∃ m : Nat, gI σ t 10 = (m : Int) ∧ K 257 = (m : Int) ∧ m ≤ 6 ∧ gI σ t 11 = K 258 ∧ -1 ≤ K 258 ∧ K 258 < (m : Int) ∧
  (∀ i c, gR σ (t + 9) i = some c → 65 ≤ c ∧ gK σ c = 25) ∧ ∀ i, i < m → ∃ c M, gR σ (t + 9) i = some c ∧ cTx σ c false M ∧ kTx K i M
def zCR (B : Nat) (σ : st_S) (t : Nat) (K : Nat → Int) : Prop := ∃ n, zC1 σ t K n ∧ zC2 σ t K n ∧ zC3 σ t K n ∧ zC4 σ t K n ∧ zC5 σ t K n ∧ zC6 σ t K n ∧ zC7 σ t K n ∧ zC8 σ t K ∧ zC9 σ t K ∧ zCa B σ t K ∧ zCb σ t K
/-! what can be undone: of entry i the class's place o + i (mod 16), the reference's i; n people -/
def zLe (B : Nat) (f g : Nat → Int) (n : Nat) : Prop := (0 ≤ f 0 ∧ f 0 ≤ 2 ∧ f 0 = g 34) ∧ (f 1 = g 33 ∧ 0 ≤ g 33 ∧ g 33 ≤ 999) ∧ f 2 = g 30 ∧ (f 3 = g 31 ∧ 0 ≤ g 31 ∧ g 31 ≤ (B : Int)) ∧ f 4 = g 32 ∧
  ∀ p, p < n → (f (5 + p) = g (20 + p) ∧ 0 ≤ g (20 + p) ∧ g (20 + p) ≤ 2) ∧ (f (15 + p) = g p ∧ 0 ≤ g p ∧ g p ≤ 3) ∧ (g p = 1 → f (25 + p) = g (10 + p))
def zLg (B : Nat) (σ : st_S) (c : Nat) (L : Nat → Int) (k : Int) (n : Nat) : Prop := ∃ m o : Nat, gI σ c 0 = (m : Int) ∧ k = (m : Int) ∧ m ≤ 16 ∧ gI σ c 1 = (o : Int) ∧ o < 16 ∧
  ∀ i, i < m → zLe B (fun j => gI σ (c + 1) ((o + i) % 16 * 35 + j)) (fun j => L (35 * i + j)) n
def zLog (B : Nat) (σc σm : st_S) : Prop := ∃ n : Nat, gI σm 2 256 = (n : Int) ∧ zLg B σc 39 (gI σm 13) (gI σm 0 28) n
/-! images, tape, the rest -/
def zIm (B : Nat) (σc σm : st_S) (k : Nat) : Prop := (gI σm 4 k = 0 ∧ gR σc 11 k = none) ∨ (gI σm 4 k = 1 ∧ ∃ c, gR σc 11 k = some c ∧ 65 ≤ c ∧ gK σc c = 17 ∧ zCR B σc c (fun i => gI σm 3 (5866 * k + i)))
def zImg (B : Nat) (σc σm : st_S) : Prop := zIm B σc σm 0 ∧ zIm B σc σm 1 ∧ ∀ c, gR σc 11 0 = some c → ¬ gR σc 11 1 = some c
def sby (x : Int) : Int := if x < 128 then x else x - 256
def zTp (σc σm : st_S) : Prop := ∃ n : Nat, gI σc 12 1 = (n : Int) ∧ gI σm 0 13 = (n : Int) ∧ n ≤ 400 ∧ ∀ i, i < n → 0 ≤ gI σc 13 i ∧ gI σc 13 i < 256 ∧ gI σm 7 i = sby (gI σc 13 i)
def wTab : List Int := [116, 97, 107, 101, 115, 32, 99, 111, 115, 116, 115, 32, 108, 111, 100, 103, 101, 115, 32, 115, 112, 111, 105, 108, 115, 32, 98, 97, 114, 115, 32, 105, 102, 32, 111, 114, 32, 97, 110, 100, 32, 110, 111, 116, 32, 112, 101, 114, 115, 111, 110, 32, 114, 111, 97, 100, 32, 108, 97, 110, 100, 32, 104, 101, 97, 114, 100, 32, 111, 116, 104, 101, 114, 32, 116, 104, 101, 105, 114, 115, 32, 102, 97, 114, 32, 102, 111, 103, 32, 109, 111, 111, 100, 32, 100, 97, 121, 32, 108, 105, 116, 32, 110, 105, 103, 104, 116, 115, 32, 100, 111, 110, 101, 32, 115, 112, 101, 110, 116, 32, 119, 111, 114, 116, 104, 32, 104, 101, 114, 101, 32, 115, 101, 110, 100, 32, 108, 105, 103, 104, 116, 32, 100, 97, 114, 107, 32, 116, 105, 109, 101, 115, 32]
def zWd (σm : st_S) : Prop := ∀ i, i < 153 → gI σm 6 i = wTab.getD i 0
def zSc (σc σm : st_S) : Prop := (∃ n : Nat, gI σc 0 12 = (n : Int) ∧ gI σm 0 50 = (n : Int) ∧ n ≤ 60 ∧ ∀ k, k < n → gI σc 23 k = gI σm 25 k) ∧ gI σc 0 13 = gI σm 0 6 ∧ gI σc 12 3 = gI σm 0 14 ∧ gI σc 52 0 = gI σm 0 41
/-- Search's two rows -/
def zRr (σc : st_S) : Prop := (gR σc 56 8 = some 63 ∧ gR σc 56 9 = some 64) ∨ (gR σc 56 8 = some 64 ∧ gR σc 56 9 = some 63)
def zCo (B : Nat) (σc σm : st_S) : Prop := zCR B σc 25 (gI σm 2) ∧ zLog B σc σm ∧ zImg B σc σm ∧ zTp σc σm ∧ zWd σm ∧ zSc σc σm
def zSt (σc σm : st_S) : Prop := gI σc 0 14 = gI σm 0 0 ∧ ∀ k, k < 7 → gI σc 24 k = gI σm 1 k
def zInv (B : Nat) (σc σm : st_S) : Prop := zCo B σc σm ∧ zSt σc σm ∧ zRr σc
/-! what the machine's store gives beside: kinds, lengths, canonical numbers -/
def zK1 (σ : st_S) : Prop := (∀ c q, (skT 1)[c]? = some q → gK σ c = q.1 ∧ gL σ c = q.2) ∧ (∀ c, gN σ ≤ c → gK σ c = 99) ∧ (∀ c k j q, k < 12 → gK σ c = 16 + k → sbf k j = some q → gK σ (c + j) = q.1 ∧ ∀ L, q.2 = some L → gL σ (c + j) = L)
theorem zK1_of {σ τ : st_S} (h : zK1 σ) (e : τ.2.2 = σ.2.2) : zK1 τ := by
  have e1 : ∀ c, gK τ c = gK σ c := fun c => by unfold gK; rw [e]
  have e2 : ∀ c, gL τ c = gL σ c := fun c => by unfold gL; rw [e]
  have e3 : gN τ = gN σ := by unfold gN; rw [e]
  unfold zK1
  simp only [e1, e2, e3]
  exact h
theorem zK1_at {σ : st_S} (h : zK1 σ) (c k L : Nat) (e : (skT 1)[c]? = some (k, L)) : gK σ c = k ∧ gL σ c = L := h.1 c (k, L) e
/-! frames: what lasts -/
def lsC (c j : Nat) : Prop := 65 ≤ c ∨ (25 ≤ c ∧ c ≤ 34) ∨ c = 39 ∨ c = 40 ∨ c = 13 ∨ c = 23 ∨ (c = 12 ∧ (j = 1 ∨ j = 3)) ∨ (c = 0 ∧ (j = 12 ∨ j = 13)) ∨ (c = 52 ∧ j = 0)
def lsM (c j : Nat) : Prop := c = 2 ∨ c = 3 ∨ c = 4 ∨ c = 6 ∨ c = 7 ∨ c = 13 ∨ c = 25 ∨ (c = 0 ∧ (j = 6 ∨ j = 13 ∨ j = 14 ∨ j = 28 ∨ j = 41 ∨ j = 50))
def agC (σ τ : st_S) : Prop := τ.2.2 = σ.2.2 ∧ (∀ c j, c ≠ 56 → gR τ c j = gR σ c j) ∧ ∀ c j, lsC c j → gI τ c j = gI σ c j
def agM (σ τ : st_S) : Prop := τ.2 = σ.2 ∧ ∀ c j, lsM c j → gI τ c j = gI σ c j
/-- a query: the status stays, too -/
def agQ (σ τ : st_S) : Prop := agC σ τ ∧ gI τ 0 14 = gI σ 0 14 ∧ (∀ k, gI τ 24 k = gI σ 24 k) ∧ zRr τ
def agN (σ τ : st_S) : Prop := agM σ τ ∧ gI τ 0 0 = gI σ 0 0 ∧ ∀ k, gI τ 1 k = gI σ 1 k
theorem agC_rfl (σ : st_S) : agC σ σ := ⟨rfl, fun _ _ _ => rfl, fun _ _ _ => rfl⟩
theorem agM_rfl (σ : st_S) : agM σ σ := ⟨rfl, fun _ _ _ => rfl⟩
theorem agC_tr {σ τ υ : st_S} (h : agC σ τ) (g : agC τ υ) : agC σ υ := ⟨g.1.trans h.1, fun c j q => (g.2.1 c j q).trans (h.2.1 c j q), fun c j q => (g.2.2 c j q).trans (h.2.2 c j q)⟩
theorem agM_tr {σ τ υ : st_S} (h : agM σ τ) (g : agM τ υ) : agM σ υ := ⟨g.1.trans h.1, fun c j q => (g.2 c j q).trans (h.2 c j q)⟩
theorem agC_K {σ τ : st_S} (h : agC σ τ) (c : Nat) : gK τ c = gK σ c := by unfold gK; rw [h.1]
theorem agC_L {σ τ : st_S} (h : agC σ τ) (c : Nat) : gL τ c = gL σ c := by unfold gL; rw [h.1]
theorem cO_eq {σ τ : st_S} {c : Nat} (h : ∀ j, gI τ c j = gI σ c j) : cO τ c = cO σ c := funext fun i => by unfold cO; rw [h]
theorem cD_eq {σ τ : st_S} {c : Nat} (h : ∀ j, gI τ c j = gI σ c j) : cD τ c = cD σ c := funext fun i => by unfold cD; rw [h]
/-- a text's meaning hangs on its own cells alone -/
theorem cTx_of {σ τ : st_S} {c : Nat} {ord : Bool} {M : zM} (h : cTx σ c ord M) (hI : ∀ d j, c ≤ d → d ≤ c + 6 → gI τ d j = gI σ d j) (hL : ∀ d, c ≤ d → d ≤ c + 6 → gL τ d = gL σ d) : cTx τ c ord M := by
  unfold cTx at h ⊢
  rw [cO_eq (σ := σ) (fun j => hI _ j (by omega) (by omega)), cD_eq (σ := σ) (fun j => hI _ j (by omega) (by omega))]
  simp only [hI c _ (Nat.le_refl _) (by omega), hI (c + 2) _ (by omega) (by omega), hI (c + 3) _ (by omega) (by omega), hI (c + 4) _ (by omega) (by omega), hI (c + 5) _ (by omega) (by omega), hI (c + 6) _ (by omega) (by omega), hL (c + 1) (by omega) (by omega), hL (c + 2) (by omega) (by omega), hL (c + 3) (by omega) (by omega), hL (c + 4) (by omega) (by omega), hL (c + 5) (by omega) (by omega), hL (c + 6) (by omega) (by omega)]
  exact h
/-- a coast stands for K as long as its cells and the texts stay -/
theorem zCR_of {B : Nat} {σ τ : st_S} {t : Nat} {K K' : Nat → Int} (h : zCR B σ t K) (hI : ∀ d j, t ≤ d → d ≤ t + 9 → gI τ d j = gI σ d j) (hR : ∀ j, gR τ (t + 9) j = gR σ (t + 9) j)
    (hT : ∀ d j, 65 ≤ d → gK σ d = 25 → ∀ q, d ≤ q → q ≤ d + 6 → gI τ q j = gI σ q j ∧ gL τ q = gL σ q) (hk : ∀ c, 65 ≤ c → gK σ c = 25 → gK τ c = 25) (hK : ∀ i, K' i = K i) : zCR B τ t K' := by
  have hK2 : K' = K := funext hK
  subst hK2
  obtain ⟨n, h1, h2, h3, h4, h5, h6, h7, h8, h9, ha, m, b1, b2, b3, b4, b5, b6, b7, b8⟩ := h
  refine ⟨n, ?_, ?_, ?_, ?_, ?_, ?_, ?_, ?_, ?_, ?_, m, ?_, b2, b3, ?_, b5, b6, ?_, ?_⟩
  · unfold zC1; rw [hI _ _ (by omega) (by omega)]; exact h1
  · intro p hp; rw [hI _ _ (by omega) (by omega)]; exact h2 p hp
  · intro p hp; rw [hI _ _ (by omega) (by omega)]; exact h3 p hp
  · intro p hp; rw [hI _ _ (by omega) (by omega)]; exact h4 p hp
  · intro p hp; rw [hI _ _ (by omega) (by omega)]; exact h5 p hp
  · intro p hp; rw [hI _ _ (by omega) (by omega)]; exact h6 p hp
  · intro p hp; rw [hI _ _ (by omega) (by omega)]; exact h7 p hp
  · intro p hp; rw [hI _ _ (by omega) (by omega)]; exact h8 p hp
  · unfold zC9; rw [hI _ _ (by omega) (by omega), hI _ _ (by omega) (by omega), hI _ _ (by omega) (by omega)]; exact h9
  · unfold zCa; rw [hI _ _ (by omega) (by omega), hI _ _ (by omega) (by omega), hI _ _ (by omega) (by omega)]; exact ha
  · rw [hI _ _ (by omega) (by omega)]; exact b1
  · rw [hI _ _ (by omega) (by omega)]; exact b4
  · intro i c hc; rw [hR] at hc; exact ⟨(b7 i c hc).1, hk c (b7 i c hc).1 (b7 i c hc).2⟩
  · intro i hi
    obtain ⟨c, M, q1, q2, q3⟩ := b8 i hi
    have q4 := b7 i c q1
    refine ⟨c, M, by rw [hR]; exact q1, cTx_of q2 (fun d j hd1 hd2 => (hT c j q4.1 q4.2 d hd1 hd2).1) (fun d hd1 hd2 => (hT c 0 q4.1 q4.2 d hd1 hd2).2), q3⟩
/-- the core stays where all that lasts stays -/
theorem zCo_ag {B : Nat} {σc σm τc τm : st_S} (h : zCo B σc σm) (hc : agC σc τc) (hm : agM σm τm) : zCo B τc τm := by
  obtain ⟨h1, h2, h3, h4, h5, h6⟩ := h
  have gC : ∀ c j, lsC c j → gI τc c j = gI σc c j := hc.2.2
  have gM : ∀ c j, lsM c j → gI τm c j = gI σm c j := hm.2
  have gRR : ∀ c j, c ≠ 56 → gR τc c j = gR σc c j := hc.2.1
  have big : ∀ c j, 65 ≤ c → gI τc c j = gI σc c j := fun c j q => gC c j (Or.inl q)
  refine ⟨?_, ?_, ?_, ?_, ?_, ?_⟩
  · refine zCR_of h1 (fun d j a b => gC d j (by unfold lsC; omega)) (fun j => gRR _ j (by decide)) (fun d j a _ q b c => ⟨big q j (by omega), agC_L hc q⟩) (fun c a b => by rw [agC_K hc]; exact b) (fun i => gM 2 i (by unfold lsM; omega))
  · obtain ⟨n, a1, m, o, a2, a3, a4, a5, a6, a7⟩ := h2
    refine ⟨n, ?_, m, o, ?_, ?_, a4, ?_, a6, ?_⟩
    · rw [gM 2 256 (by unfold lsM; omega)]; exact a1
    · rw [gC 39 0 (by unfold lsC; omega)]; exact a2
    · rw [gM 0 28 (by unfold lsM; omega)]; exact a3
    · rw [gC 39 1 (by unfold lsC; omega)]; exact a5
    · intro i hi
      have e1 : (fun j => gI τc (39 + 1) ((o + i) % 16 * 35 + j)) = (fun j => gI σc (39 + 1) ((o + i) % 16 * 35 + j)) := funext fun j => gC 40 _ (by unfold lsC; omega)
      have e2 : (fun j => gI τm 13 (35 * i + j)) = (fun j => gI σm 13 (35 * i + j)) := funext fun j => gM 13 _ (by unfold lsM; omega)
      rw [e1, e2]
      exact a7 i hi
  · have im : ∀ k, zIm B σc σm k → zIm B τc τm k := by
      intro k q
      rcases q with ⟨q1, q2⟩ | ⟨q1, c, q2, q3, q4, q5⟩
      · refine Or.inl ⟨?_, ?_⟩
        · rw [gM 4 k (by unfold lsM; omega)]; exact q1
        · rw [gRR 11 k (by decide)]; exact q2
      · refine Or.inr ⟨?_, c, ?_, q3, ?_, ?_⟩
        · rw [gM 4 k (by unfold lsM; omega)]; exact q1
        · rw [gRR 11 k (by decide)]; exact q2
        · rw [agC_K hc]; exact q4
        · exact zCR_of q5 (fun d j a b => big d j (by omega)) (fun j => gRR _ j (by omega)) (fun d j a _ q b c => ⟨big q j (by omega), agC_L hc q⟩) (fun c a b => by rw [agC_K hc]; exact b) (fun i => gM 3 _ (by unfold lsM; omega))
    exact ⟨im 0 h3.1, im 1 h3.2.1, by rw [gRR 11 0 (by decide), gRR 11 1 (by decide)]; exact h3.2.2⟩
  · obtain ⟨n, a1, a2, a3, a4⟩ := h4
    refine ⟨n, ?_, ?_, a3, ?_⟩
    · rw [gC 12 1 (by unfold lsC; omega)]; exact a1
    · rw [gM 0 13 (by unfold lsM; omega)]; exact a2
    · intro i hi
      rw [gC 13 i (by unfold lsC; omega), gM 7 i (by unfold lsM; omega)]
      exact a4 i hi
  · intro i hi
    rw [gM 6 i (by unfold lsM; omega)]
    exact h5 i hi
  · obtain ⟨⟨n, a1, a2, a3, a4⟩, b1, b2, b3⟩ := h6
    refine ⟨⟨n, ?_, ?_, a3, ?_⟩, ?_, ?_, ?_⟩
    · rw [gC 0 12 (by unfold lsC; omega)]; exact a1
    · rw [gM 0 50 (by unfold lsM; omega)]; exact a2
    · intro k hk
      rw [gC 23 k (by unfold lsC; omega), gM 25 k (by unfold lsM; omega)]
      exact a4 k hk
    · rw [gC 0 13 (by unfold lsC; omega), gM 0 6 (by unfold lsM; omega)]; exact b1
    · rw [gC 12 3 (by unfold lsC; omega), gM 0 14 (by unfold lsM; omega)]; exact b2
    · rw [gC 52 0 (by unfold lsC; omega), gM 0 41 (by unfold lsM; omega)]; exact b3
theorem zInv_q {B : Nat} {σc σm τc τm : st_S} (h : zInv B σc σm) (hc : agQ σc τc) (hm : agN σm τm) : zInv B τc τm := by
  refine ⟨zCo_ag h.1 hc.1 hm.1, ⟨?_, ?_⟩, hc.2.2.2⟩
  · rw [hc.2.1, hm.2.1]; exact h.2.1.1
  · intro k hk
    rw [hc.2.2.1, hm.2.2]
    exact h.2.1.2 k hk
