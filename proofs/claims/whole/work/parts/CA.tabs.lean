/-! the start: stores that are tables -/
def lkK : List (Nat × Nat) → Nat → Nat → Nat
  | [], d, _ => d
  | e :: t, d, c => if c = e.1 then e.2 else lkK t d c
def lkR : List (Nat × Nat × Nat) → Nat → Nat → Option Nat
  | [], _, _ => none
  | e :: t, c, j => if c = e.1 ∧ j = e.2.1 then some e.2.2 else lkR t c j
def lkI : List (Nat × Nat × Int) → Nat → Nat → Int
  | [], _, _ => 0
  | e :: t, c, j => if c = e.1 ∧ j = e.2.1 then e.2.2 else lkI t c j
def tS (n : Nat) (K L : List (Nat × Nat)) (R : List (Nat × Nat × Nat)) (I : List (Nat × Nat × Int)) : st_S := (lkI I, lkR R, lkK K 99, lkK L 0, n)
section TS
variable {n : Nat} {K L : List (Nat × Nat)} {R : List (Nat × Nat × Nat)} {I : List (Nat × Nat × Int)}
theorem gI_tS (c j : Nat) : gI (tS n K L R I) c j = lkI I c j := rfl
theorem gR_tS (c j : Nat) : gR (tS n K L R I) c j = lkR R c j := rfl
theorem gK_tS (c : Nat) : gK (tS n K L R I) c = lkK K 99 c := rfl
theorem gL_tS (c : Nat) : gL (tS n K L R I) c = lkK L 0 c := rfl
theorem gN_tS : gN (tS n K L R I) = n := rfl
theorem lkI_0 {c j : Nat} (h : ∀ e ∈ I, e.1 ≠ c) : lkI I c j = 0 := by
  induction I with
  | nil => rfl
  | cons e t ih =>
    show (if c = e.1 ∧ j = e.2.1 then e.2.2 else lkI t c j) = 0
    rw [if_neg (fun q => h e List.mem_cons_self q.1.symm)]
    exact ih (fun e' he => h e' (List.mem_cons_of_mem _ he))
theorem lkR_0 {c j : Nat} (h : ∀ e ∈ R, e.1 ≠ c) : lkR R c j = none := by
  induction R with
  | nil => rfl
  | cons e t ih =>
    show (if c = e.1 ∧ j = e.2.1 then some e.2.2 else lkR t c j) = none
    rw [if_neg (fun q => h e List.mem_cons_self q.1.symm)]
    exact ih (fun e' he => h e' (List.mem_cons_of_mem _ he))
theorem lkK_0 {d c : Nat} (h : ∀ e ∈ K, e.1 ≠ c) : lkK K d c = d := by
  induction K with
  | nil => rfl
  | cons e t ih =>
    show (if c = e.1 then e.2 else lkK t d c) = d
    rw [if_neg (fun q => h e List.mem_cons_self q.symm)]
    exact ih (fun e' he => h e' (List.mem_cons_of_mem _ he))
theorem lkI_p {p : Int → Prop} {c j : Nat} (h0 : p 0) (h : ∀ e ∈ I, p e.2.2) : p (lkI I c j) := by
  induction I with
  | nil => exact h0
  | cons e t ih =>
    show p (if c = e.1 ∧ j = e.2.1 then e.2.2 else lkI t c j)
    split
    · exact h e List.mem_cons_self
    · exact ih (fun e' he => h e' (List.mem_cons_of_mem _ he))
theorem lkR_p {p : Nat → Prop} {c j r : Nat} (h : ∀ e ∈ R, p e.2.2) (hr : lkR R c j = some r) : p r := by
  induction R with
  | nil => cases hr
  | cons e t ih =>
    replace hr : (if c = e.1 ∧ j = e.2.1 then some e.2.2 else lkR t c j) = some r := hr
    split at hr
    · cases hr
      exact h e List.mem_cons_self
    · exact ih (fun e' he => h e' (List.mem_cons_of_mem _ he)) hr
theorem all_lt {α : Type} {f : α → Nat} {l : List α} {n : Nat} (h : l.all (fun e => Nat.blt (f e) n) = true) : ∀ e ∈ l, f e < n := fun e he => Nat.blt_eq.mp (List.all_eq_true.mp h e he)
theorem sA_tS {k len : Nat} (h : (R.all (fun e => Nat.blt e.1 n) && I.all (fun e => Nat.blt e.1 n)) = true) : sA (tS n K L R I) k len = tS (n + 1) ((n, k) :: K) ((n, len) :: L) R I := by
  rw [Bool.and_eq_true] at h
  have h1 : (fun c' j' => if c' = n then (0 : Int) else lkI I c' j') = lkI I := funext fun c' => funext fun j' => by
    split
    · rename_i e
      exact (lkI_0 (fun x hx => by have := all_lt h.2 x hx; omega)).symm
    · rfl
  have h2 : (fun c' j' => if c' = n then none else lkR R c' j') = lkR R := funext fun c' => funext fun j' => by
    split
    · rename_i e
      exact (lkR_0 (fun x hx => by have := all_lt h.1 x hx; omega)).symm
    · rfl
  show ((fun c' j' => if c' = n then (0 : Int) else lkI I c' j'), (fun c' j' => if c' = n then none else lkR R c' j'), (fun c' => if c' = n then k else lkK K 99 c'), (fun c' => if c' = n then len else lkK L 0 c'), n + 1) = _
  rw [h1, h2]
  rfl
theorem a_new {m k len : Nat} {P : Nat → st_S → Prop} (hm : n + 1 = m) (hc : (R.all (fun e => Nat.blt e.1 n) && I.all (fun e => Nat.blt e.1 n)) = true) (h : P n (tS m ((n, k) :: K) ((n, len) :: L) R I)) : ∀ (t : Nat) (s : st_S), t = gN (tS n K L R I) → s = sA (tS n K L R I) k len → P t s := by
  intro t s et es
  subst et es hm
  rw [sA_tS hc]
  exact h
theorem a_R {c j v : Nat} {P : st_S → Prop} (h : P (tS n K L ((c, j, v) :: R) I)) : ∀ s : st_S, s = sR (tS n K L R I) c j (some v) → P s := by
  intro s es
  subst es
  exact h
theorem a_I {c j : Nat} {v v' : Int} (hv : v = v') {P : st_S → Prop} (h : P (tS n K L R ((c, j, v') :: I))) : ∀ s : st_S, s = sI (tS n K L R I) c j v → P s := by
  intro s es
  subst es hv
  exact h
theorem a_K {c k : Nat} {P : st_S → Prop} (h : P (tS n ((c, k) :: K) L R I)) : ∀ s : st_S, s = sK (tS n K L R I) c k → P s := by
  intro s es
  subst es
  exact h
end TS
/-! what stands fixed, read off -/
def chO (σ : st_S) (c k lo : Nat) : Bool := (List.range 60).all (fun j => match srf k c j with | some c' => decide (gR σ c j = some c') | none => true) && (List.range 60).all (fun j => Nat.blt j lo || match sbf k j with | some q => decide (gK σ (c + j) = q.1) && (match q.2 with | some l => decide (gL σ (c + j) = l) | none => true) | none => true)
theorem srf_lt {k c j c' : Nat} (h : srf k c j = some c') : j < 60 := by
  have h1 : ∀ l ∈ srT, l.length ≤ 60 := by decide +kernel
  rcases Nat.lt_or_ge j 60 with z | z
  · exact z
  · exfalso
    have hl : (srT.getD k []).length ≤ 60 := by
      rcases Nat.lt_or_ge k srT.length with y | y
      · rw [List.getD_eq_getElem?_getD, List.getElem?_eq_getElem y]
        exact h1 _ (List.getElem_mem y)
      · rw [List.getD_eq_getElem?_getD, List.getElem?_eq_none y]
        exact Nat.zero_le _
    have e : (srT.getD k []).getD j (0, 0) = (0, 0) := by
      rw [List.getD_eq_getElem?_getD, List.getElem?_eq_none (by omega)]
      rfl
    unfold srf at h
    rw [e] at h
    cases h
theorem sbf_lt {k j : Nat} {q : Nat × Option Nat} (h : sbf k j = some q) : j < 60 := by
  have h1 : ∀ l ∈ sbT, l.length ≤ 60 := by decide +kernel
  unfold sbf at h
  have hj := (List.getElem?_eq_some_iff.mp h).1
  have hl : (sbT.getD k []).length ≤ 60 := by
    rcases Nat.lt_or_ge k sbT.length with y | y
    · rw [List.getD_eq_getElem?_getD, List.getElem?_eq_getElem y]
      exact h1 _ (List.getElem_mem y)
    · rw [List.getD_eq_getElem?_getD, List.getElem?_eq_none y]
      exact Nat.zero_le _
  omega
theorem ch_O {σ : st_S} {c k lo : Nat} (h : chO σ c k lo = true) : (∀ j c', srf k c j = some c' → gR σ c j = some c') ∧ ∀ j q, lo ≤ j → sbf k j = some q → gK σ (c + j) = q.1 ∧ ∀ l, q.2 = some l → gL σ (c + j) = l := by
  unfold chO at h
  rw [Bool.and_eq_true] at h
  refine ⟨fun j c' hj => ?_, fun j q hlo hj => ?_⟩
  · have := List.all_eq_true.mp h.1 j (List.mem_range.mpr (srf_lt hj))
    rw [hj] at this
    exact of_decide_eq_true this
  · have := List.all_eq_true.mp h.2 j (List.mem_range.mpr (sbf_lt hj))
    rw [hj, Bool.or_eq_true] at this
    rcases this with z | z
    · have := Nat.blt_eq.mp z
      omega
    · obtain ⟨q1, q2⟩ := q
      have z2 := (Bool.and_eq_true _ _).mp z
      refine ⟨of_decide_eq_true z2.1, fun l hl => ?_⟩
      have z3 := z2.2
      dsimp only at hl
      subst hl
      exact of_decide_eq_true z3
def chF (σ : st_S) (t k : Nat) : Bool := decide (gK σ t = 32 + k) && chO σ t k 1
theorem ch_F {σ : st_S} {t k : Nat} (h : chF σ t k = true) : Fin1 σ t k := by
  unfold chF at h
  rw [Bool.and_eq_true] at h
  obtain ⟨a, b⟩ := ch_O h.2
  exact ⟨of_decide_eq_true h.1, a, fun j q hj hq => b j q hj hq⟩
/-- what stands fixed of a table store -/
theorem sv_tS {E : ev_E} {n m : Nat} {K L : List (Nat × Nat)} {R : List (Nat × Nat × Nat)} {I : List (Nat × Nat × Int)} (hm : eM E = m) (h1 : ∀ e ∈ I, wr e.2.2 = e.2.2) (h2 : ∀ e ∈ K, e.1 < n) (h3 : ∀ c, c < (skT m).length → gK (tS n K L R I) c = ((skT m).getD c (0, 0)).1 ∧ gL (tS n K L R I) c = ((skT m).getD c (0, 0)).2) (h4 : ∀ c, c < n → 16 ≤ gK (tS n K L R I) c → gK (tS n K L R I) c < 28 → chO (tS n K L R I) c (gK (tS n K L R I) c - 16) 0 = true) : Sv E (tS n K L R I) := by
  have hw : ∀ c j, wr (gI (tS n K L R I) c j) = gI (tS n K L R I) c j := fun c j => lkI_p (p := fun x => wr x = x) (by decide) h1
  have hn : ∀ c, n ≤ c → gK (tS n K L R I) c = 99 := fun c hc => lkK_0 (fun e he => by have := h2 e he; omega)
  have hlt : ∀ c k, k < 12 → gK (tS n K L R I) c = 16 + k → c < n := fun c k hk h => by
    rcases Nat.lt_or_ge c n with z | z
    · exact z
    · have := hn c z
      omega
  refine ⟨⟨fun c j => cn_wl (hw c j), fun c j => Or.inr (hw c j)⟩, hn, fun c q hq => ?_, fun c k j c' h0 hk hs => ?_, fun c k j q h0 hk hs => ?_⟩
  · rw [hm] at hq
    have hc := (List.getElem?_eq_some_iff.mp hq).1
    have := h3 c hc
    rw [List.getD_eq_getElem?_getD, hq] at this
    exact this
  · have := h4 c (hlt c k h0 hk) (by omega) (by omega)
    rw [hk, Nat.add_sub_cancel_left] at this
    exact (ch_O this).1 j c' hs
  · have := h4 c (hlt c k h0 hk) (by omega) (by omega)
    rw [hk, Nat.add_sub_cancel_left] at this
    exact (ch_O this).2 j q (Nat.zero_le _) hs
/-! two tables behind each other -/
theorem lkK_sk {B A : List (Nat × Nat)} {f : Nat × Nat → Nat × Nat} {d c : Nat} (hf : ∀ e ∈ A, (f e).1 ≠ c) : lkK (A.map f ++ B) d c = lkK B d c := by
  induction A with
  | nil => rfl
  | cons e t ih =>
    show (if c = (f e).1 then (f e).2 else lkK (t.map f ++ B) d c) = _
    rw [if_neg (fun q => hf e List.mem_cons_self q.symm)]
    exact ih (fun e' he => hf e' (List.mem_cons_of_mem _ he))
theorem lkR_sk {B A : List (Nat × Nat × Nat)} {f : Nat × Nat × Nat → Nat × Nat × Nat} {c j : Nat} (hf : ∀ e ∈ A, (f e).1 ≠ c) : lkR (A.map f ++ B) c j = lkR B c j := by
  induction A with
  | nil => rfl
  | cons e t ih =>
    show (if c = (f e).1 ∧ j = (f e).2.1 then some (f e).2.2 else lkR (t.map f ++ B) c j) = _
    rw [if_neg (fun q => hf e List.mem_cons_self q.1.symm)]
    exact ih (fun e' he => hf e' (List.mem_cons_of_mem _ he))
theorem lkI_sk {B A : List (Nat × Nat × Int)} {f : Nat × Nat × Int → Nat × Nat × Int} {c j : Nat} (hf : ∀ e ∈ A, (f e).1 ≠ c) : lkI (A.map f ++ B) c j = lkI B c j := by
  induction A with
  | nil => rfl
  | cons e t ih =>
    show (if c = (f e).1 ∧ j = (f e).2.1 then (f e).2.2 else lkI (t.map f ++ B) c j) = _
    rw [if_neg (fun q => hf e List.mem_cons_self q.1.symm)]
    exact ih (fun e' he => hf e' (List.mem_cons_of_mem _ he))
theorem lkK_sh {B A : List (Nat × Nat)} {d c m : Nat} (hB : ∀ e ∈ B, e.1 < m) : lkK (A.map (fun e => (e.1 + m, e.2)) ++ B) d (m + c) = lkK A d c := by
  induction A with
  | nil => exact lkK_0 (fun e he => by have := hB e he; omega)
  | cons e t ih =>
    show (if m + c = e.1 + m then e.2 else lkK (t.map (fun e => (e.1 + m, e.2)) ++ B) d (m + c)) = (if c = e.1 then e.2 else lkK t d c)
    rw [ih]
    by_cases q : c = e.1
    · rw [if_pos q, if_pos (by omega)]
    · rw [if_neg q, if_neg (by omega)]
theorem lkR_sh {B A : List (Nat × Nat × Nat)} {c j m : Nat} (hB : ∀ e ∈ B, e.1 < m) : lkR (A.map (fun e => (e.1 + m, e.2.1, e.2.2 + m)) ++ B) (m + c) j = (lkR A c j).map (· + m) := by
  induction A with
  | nil => exact lkR_0 (fun e he => by have := hB e he; omega)
  | cons e t ih =>
    show (if m + c = e.1 + m ∧ j = e.2.1 then some (e.2.2 + m) else lkR (t.map (fun e => (e.1 + m, e.2.1, e.2.2 + m)) ++ B) (m + c) j) = (if c = e.1 ∧ j = e.2.1 then some e.2.2 else lkR t c j).map (· + m)
    rw [ih]
    by_cases q : c = e.1 ∧ j = e.2.1
    · rw [if_pos q, if_pos (by omega)]
      rfl
    · rw [if_neg q, if_neg (by omega)]
theorem lkI_sh {B A : List (Nat × Nat × Int)} {c j m : Nat} (hB : ∀ e ∈ B, e.1 < m) : lkI (A.map (fun e => (e.1 + m, e.2.1, e.2.2)) ++ B) (m + c) j = lkI A c j := by
  induction A with
  | nil => exact lkI_0 (fun e he => by have := hB e he; omega)
  | cons e t ih =>
    show (if m + c = e.1 + m ∧ j = e.2.1 then e.2.2 else lkI (t.map (fun e => (e.1 + m, e.2.1, e.2.2)) ++ B) (m + c) j) = (if c = e.1 ∧ j = e.2.1 then e.2.2 else lkI t c j)
    rw [ih]
    by_cases q : c = e.1 ∧ j = e.2.1
    · rw [if_pos q, if_pos (by omega)]
    · rw [if_neg q, if_neg (by omega)]
theorem ent_cg2 {E E' : ev_E} {σ σ' : st_S} {c c' : Nat} (hC : eC E = eC E') (hk : gK σ c = gK σ' c') (hl : gL σ c = gL σ' c') (hi : ∀ j, gI σ c j = gI σ' c' j) (hr : ∀ j, (gR σ c j).map (ea E) = (gR σ' c' j).map (ea E')) : ent E σ c = ent E' σ' c' := by
  have hf : ∀ k, fld E σ c k = fld E' σ' c' k := fun k => funext fun j => by
    unfold fld vO
    rw [hi, hr]
  unfold ent
  rw [hk, hl, hC]
  simp only [hi, hr, hf]
