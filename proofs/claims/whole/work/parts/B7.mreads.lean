/-! the reference reads a text -/
def mS (σ : st_S) (tp : Nat → Int) (n T : Nat) (ord : Bool) (k lf : Nat) : Prop := gI σ 0 18 = (T : Int) ∧ tkM σ tp n (T + 1) ∧ gI σ 0 19 = (k : Int) ∧ gI σ 0 20 = (lf : Int) ∧ gI σ 0 21 = -1 ∧ gI σ 0 8 = (if ord = true then 19 else 10) ∧ gI σ 0 9 = (if ord = true then 25 else 19)
def zRm (σ τ : st_S) : Prop := τ.2 = σ.2 ∧ ∀ c j, ¬ (c = 0 ∧ (j = 19 ∨ j = 20 ∨ j = 21)) → gI τ c j = gI σ c j
theorem zRm_rfl {σ : st_S} : zRm σ σ := ⟨rfl, fun _ _ _ => rfl⟩
theorem zRm_tr {σ τ υ : st_S} (h : zRm σ τ) (g : zRm τ υ) : zRm σ υ := ⟨g.1.trans h.1, fun c j a => (g.2 c j a).trans (h.2 c j a)⟩
theorem zRm_s {σ : st_S} {j : Nat} {v : Int} (hj : j = 19 ∨ j = 20 ∨ j = 21) : zRm σ (sI σ 0 j v) := ⟨rfl, fun c' j' a => by rw [gI_sI, if_neg (by omega)]⟩
theorem m_fine1 {σ : st_S} {Q : Int → st_S → Prop} (h : gI σ 0 21 = -1) (hQ : Q 1 σ) : wp_X11_fine σ Q := ⟨fun w => absurd h w, fun _ => ⟨Or.inr rfl, hQ⟩⟩
theorem m_fine0 {σ : st_S} {Q : Int → st_S → Prop} (h : ¬ gI σ 0 21 = -1) (hQ : Q 0 σ) : wp_X11_fine σ Q := ⟨fun _ => ⟨Or.inl rfl, hQ⟩, fun w => absurd w h⟩
theorem m_faults_d {σ : st_S} {Q : st_S → Prop} (h : ¬ gI σ 0 21 = -1) (hQ : Q σ) : wp_X11_faults σ Q := m_fine0 h ⟨fun _ => hQ, fun w => absurd rfl w⟩
theorem m_takes_d {σ : st_S} {c : Int} {Q : Int → st_S → Prop} (h : ¬ gI σ 0 21 = -1) (hQ : Q 0 σ) : wp_X11_takes0 c σ Q := m_fine0 h ⟨fun _ => ⟨fun _ => ⟨Or.inl rfl, hQ⟩, fun w => absurd rfl w⟩, fun w => absurd rfl w⟩
theorem m_must_d {σ : st_S} {c : Int} {Q : st_S → Prop} (h : ¬ gI σ 0 21 = -1) (hQ : Q σ) : wp_X11_must c σ Q := m_takes_d h ⟨fun w => absurd rfl w, fun _ => m_faults_d h hQ⟩
theorem m_mustNumber_d {σ : st_S} {a b : Int} {Q : st_S → Prop} (h : ¬ gI σ 0 21 = -1) (hQ : Q σ) : wp_X11_mustNumber a b σ Q := m_fine0 h ⟨fun _ => m_fine0 h ⟨fun _ => hQ, fun w => absurd rfl w⟩, fun w => absurd rfl w⟩
theorem sgn (c : Nat) (h : c < 256) : wr (100 + (c : Int)) = 100 + (c : Int) := wr_id (by omega) (by omega)
theorem m_sg {c : Nat} {σ : st_S} {Q : Int → st_S → Prop} (h : c < 256) (hQ : Q (100 + (c : Int)) σ) : wp_X11_sign (c : Int) σ Q := by
  show Q (wr (100 + (c : Int))) σ
  rw [sgn c h]
  exact hQ
section
variable {tp : Nat → Int} {n T : Nat} {ord : Bool} {k lf : Nat} {σ : st_S}
theorem mS_s {τ : st_S} {k' lf' : Nat} (h : mS σ tp n T ord k lf) (z : zRm σ τ) (h1 : gI τ 0 19 = (k' : Int)) (h2 : gI τ 0 20 = (lf' : Int)) (h3 : gI τ 0 21 = -1) : mS τ tp n T ord k' lf' := by
  obtain ⟨a1, a2, _, _, _, a6, a7⟩ := h
  refine ⟨?_, fun k hk => ?_, h1, h2, h3, ?_, ?_⟩
  · rw [z.2 _ _ (by omega)]; exact a1
  · rw [z.2 _ _ (by omega), z.2 _ _ (by omega), z.2 _ _ (by omega)]; exact a2 k hk
  · rw [z.2 _ _ (by omega)]; exact a6
  · rw [z.2 _ _ (by omega)]; exact a7
theorem mS_t (h : mS σ tp n T ord k lf) : mS (sI σ 0 19 ((k + 1 : Nat) : Int)) tp n T ord (k + 1) lf := mS_s h (zRm_s (by omega)) (by simp only [gI_sI, Nat.reduceAdd, Nat.reduceMul, Nat.reduceEqDiff, false_and, true_and, and_false, and_true, reduceIte, Int.toNat_natCast]) (by simp only [gI_sI, Nat.reduceAdd, Nat.reduceMul, Nat.reduceEqDiff, false_and, true_and, and_false, and_true, reduceIte, Int.toNat_natCast]; exact h.2.2.2.1) (by simp only [gI_sI, Nat.reduceAdd, Nat.reduceMul, Nat.reduceEqDiff, false_and, true_and, and_false, and_true, reduceIte, Int.toNat_natCast]; exact h.2.2.2.2.1)
theorem m_takes {c : Int} {Q : Int → st_S → Prop} (hE : tkE tp n T) (h : mS σ tp n T ord k lf) (hk : k ≤ T) (h1 : cdT tp n k = c → ∀ τ, zRm σ τ → mS τ tp n T ord (k + 1) lf → Q 1 τ) (h0 : ¬ cdT tp n k = c → Q 0 σ) : wp_X11_takes0 c σ Q := by
  have hT4 : T ≤ 400 := by have := hE.2.1; have := hE.2.2.1; omega
  refine m_fine1 h.2.2.2.2.1 ⟨fun w => absurd w (by decide), fun _ => ?_⟩
  rw [h.2.2.1, Int.toNat_natCast, (h.2.1 k (by omega)).1]
  refine ⟨ixn (by omega), fun w => ⟨fun _ => ⟨Or.inl rfl, h0 w⟩, fun w => absurd rfl w⟩, fun w => ⟨fun w => absurd w (by decide), fun _ => ?_⟩⟩
  intro x ex s es
  rw [h.2.2.1, wks (by omega)] at ex
  subst ex
  subst es
  exact ⟨Or.inr rfl, h1 w _ (zRm_s (by omega)) (mS_t h)⟩
theorem m_faults {Q : st_S → Prop} (hE : tkE tp n T) (h : mS σ tp n T ord k lf) (hk : k ≤ T) (hQ : ∀ τ, zRm σ τ → gI τ 0 21 = (psT tp n k : Int) → Q τ) : wp_X11_faults σ Q := by
  have hT4 : T ≤ 400 := by have := hE.2.1; have := hE.2.2.1; omega
  refine m_fine1 h.2.2.2.2.1 ⟨fun w => absurd w (by decide), fun _ => ?_⟩
  rw [h.2.2.1, Int.toNat_natCast, (h.2.1 k (by omega)).2.2]
  refine ⟨ixn (by omega), ?_⟩
  intro s es
  subst es
  exact hQ _ (zRm_s (by omega)) (by simp only [gI_sI, Nat.reduceAdd, Nat.reduceMul, Nat.reduceEqDiff, false_and, true_and, and_false, and_true, reduceIte, Int.toNat_natCast])
theorem m_must {c : Int} {Q : st_S → Prop} (hE : tkE tp n T) (h : mS σ tp n T ord k lf) (hk : k ≤ T) (h1 : cdT tp n k = c → ∀ τ, zRm σ τ → mS τ tp n T ord (k + 1) lf → Q τ) (h0 : ¬ cdT tp n k = c → ∀ τ, zRm σ τ → gI τ 0 21 = (psT tp n k : Int) → Q τ) : wp_X11_must c σ Q :=
  m_takes hE h hk (fun e τ z m => ⟨fun _ => h1 e τ z m, fun w => absurd w (by decide)⟩) (fun e => ⟨fun w => absurd rfl w, fun _ => m_faults hE h hk (fun τ z w => h0 e τ z w)⟩)
theorem m_leaf {Q : st_S → Prop} (hE : tkE tp n T) (h : mS σ tp n T ord k lf) (hk : k ≤ T) (hl : lf ≤ 50) (h1 : ¬ 50 ≤ lf → ∀ τ, zRm σ τ → mS τ tp n T ord (k + 1) (lf + 1) → Q τ) (h0 : 50 ≤ lf → ∀ τ, zRm σ τ → gI τ 0 21 = (psT tp n k : Int) → Q τ) : wp_X11_leaf σ Q := by
  have hT4 : T ≤ 400 := by have := hE.2.1; have := hE.2.2.1; omega
  unfold wp_X11_leaf
  rw [h.2.2.2.1]
  refine ⟨fun w => ?_, fun w => m_faults hE h hk (fun τ z w2 => ?_)⟩
  · intro x ex s es
    rw [h.2.2.2.1, wks (by omega)] at ex
    subst ex
    have z1 : zRm σ s := by rw [es]; exact zRm_s (by omega)
    have m1 : mS s tp n T ord k (lf + 1) := mS_s h z1 (by rw [es]; simp only [gI_sI, Nat.reduceAdd, Nat.reduceMul, Nat.reduceEqDiff, false_and, true_and, and_false, and_true, reduceIte, Int.toNat_natCast]; exact h.2.2.1) (by rw [es]; simp only [gI_sI, Nat.reduceAdd, Nat.reduceMul, Nat.reduceEqDiff, false_and, true_and, and_false, and_true, reduceIte, Int.toNat_natCast]) (by rw [es]; simp only [gI_sI, Nat.reduceAdd, Nat.reduceMul, Nat.reduceEqDiff, false_and, true_and, and_false, and_true, reduceIte, Int.toNat_natCast]; exact h.2.2.2.2.1)
    refine m_fine1 m1.2.2.2.2.1 ⟨fun w => absurd w (by decide), fun _ => ?_⟩
    intro x ex s2 es2
    rw [m1.2.2.1, wks (by omega)] at ex
    subst ex
    subst es2
    exact h1 (by omega) _ (zRm_tr z1 (zRm_s (by omega))) (mS_t m1)
  · intro x ex s es
    have z1 : zRm τ s := by rw [es]; exact zRm_s (by omega)
    have b : gI s 0 21 = (psT tp n k : Int) := by rw [es]; simp only [gI_sI, Nat.reduceAdd, Nat.reduceMul, Nat.reduceEqDiff, false_and, true_and, and_false, and_true, reduceIte, Int.toNat_natCast]; exact w2
    exact m_fine0 (by rw [b]; omega) ⟨fun _ => h0 (by omega) s (zRm_tr z z1) b, fun w => absurd rfl w⟩
theorem m_mustNumber {lo hi : Int} {Q : st_S → Prop} (hE : tkE tp n T) (h : mS σ tp n T ord k lf) (hk : k ≤ T) (h1 : (cdT tp n k = 50 ∧ lo ≤ vlT tp n k ∧ vlT tp n k ≤ hi) → ∀ τ, zRm σ τ → mS τ tp n T ord (k + 1) lf → Q τ) (h0 : ¬ (cdT tp n k = 50 ∧ lo ≤ vlT tp n k ∧ vlT tp n k ≤ hi) → ∀ τ, zRm σ τ → gI τ 0 21 = (psT tp n k : Int) → Q τ) : wp_X11_mustNumber lo hi σ Q := by
  have hT4 : T ≤ 400 := by have := hE.2.1; have := hE.2.2.1; omega
  have bad : ¬ (cdT tp n k = 50 ∧ lo ≤ vlT tp n k ∧ vlT tp n k ≤ hi) → B_X11_mustNumber_38 Q σ := fun c => m_faults hE h hk (fun τ z w => m_fine0 (by rw [w]; omega) ⟨fun _ => h0 c τ z w, fun w => absurd rfl w⟩)
  refine m_fine1 h.2.2.2.2.1 ⟨fun w => absurd w (by decide), fun _ => ?_⟩
  rw [h.2.2.1, Int.toNat_natCast, (h.2.1 k (by omega)).1, (h.2.1 k (by omega)).2.1]
  refine ⟨ixn (by omega), fun w => bad (fun c => w c.1), fun w => ⟨ixn (by omega), m_lies (fun q => ⟨fun _ => ?_, fun w => absurd w (by decide)⟩) (fun q => ⟨fun w => absurd rfl w, fun _ => bad (fun c => q (by omega))⟩)⟩⟩
  refine m_fine1 h.2.2.2.2.1 ⟨fun w => absurd w (by decide), fun _ => ?_⟩
  intro x ex s es
  rw [h.2.2.1, wks (by omega)] at ex
  subst ex
  subst es
  exact h1 ⟨w, by omega, by omega⟩ _ (zRm_s (by omega)) (mS_t h)
/-- what a method that reads does, when o comes out -/
def mSp (tp : Nat → Int) (n T : Nat) (ord : Bool) (m : st_S → (st_S → Prop) → Prop) (k lf : Nat) (o : zO) : Prop :=
  ∀ (σ : st_S) (Q : st_S → Prop), mS σ tp n T ord k lf → k ≤ T → lf ≤ 50 → 1 ≤ k → (∀ j τ, o = .inl j → zRm σ τ → gI τ 0 21 = (psT tp n j : Int) → Q τ) → (∀ q τ, o = .inr q → zRm σ τ → mS τ tp n T ord q.1 q.2.1 → Q τ) → m σ Q
/-- once there is a fault, nothing more is done -/
def mDd (m : st_S → (st_S → Prop) → Prop) : Prop := ∀ (σ : st_S) (Q : st_S → Prop), ¬ gI σ 0 21 = -1 → Q σ → m σ Q
theorem m_chain {l : Int} {it : Nat → Nat → zO} {item : st_S → (st_S → Prop) → Prop} {L : Nat → st_S → Prop} {Q : st_S → Prop} (hE : tkE tp n T) (ho : pOk T it) (hi : ∀ k lf, mSp tp n T ord item k lf (it k lf))
    (h1 : ∀ (m : Nat) (σ : st_S) (k lf : Nat), mS σ tp n T ord k lf → k ≤ T → (jop l (cdT tp n k) = -1 → Q σ) → (¬ jop l (cdT tp n k) = -1 → ∀ τ, zRm σ τ → mS τ tp n T ord (k + 1) lf → item τ (fun s => L m s)) → L (m + 1) σ)
    (h2 : ∀ (m : Nat) (σ : st_S), ¬ gI σ 0 21 = -1 → Q σ → L (m + 1) σ) (hs : mS σ tp n T ord k lf) (hk : k ≤ T) (hl : lf ≤ 50) (k1 : 1 ≤ k) (hf : ∀ j τ, pCh (cdT tp n) l it k lf = .inl j → zRm σ τ → gI τ 0 21 = (psT tp n j : Int) → Q τ) (hq : ∀ q τ, pCh (cdT tp n) l it k lf = .inr q → zRm σ τ → mS τ tp n T ord q.1 q.2.1 → Q τ) : item σ (fun s => ∃ m, L m s) := by
  have hT0 := cf_T hE
  have hT4 : T ≤ 400 := by have := hE.2.1; have := hE.2.2.1; omega
  have key : ∀ (f k1 lf1 : Nat) (D : zDn) (τ : st_S), T - k1 < f → pLp (cdT tp n) l it f k1 lf1 D = pCh (cdT tp n) l it k lf → zRm σ τ → mS τ tp n T ord k1 lf1 → k1 ≤ T → lf1 ≤ 50 → L (f + 1) τ := by
    intro f
    induction f with
    | zero => intro k1 lf1 D τ h; exact absurd h (Nat.not_lt_zero _)
    | succ f ih =>
      intro k1 lf1 D τ hT hp z m1 kT l5
      unfold pLp at hp
      refine h1 (f + 1) τ k1 lf1 m1 kT (fun ej => ?_) (fun nj τ1 z1 m2 => ?_)
      · rw [if_pos ej] at hp
        exact hq (k1, lf1, D) τ hp.symm z m1
      · rw [if_neg nj] at hp
        have k1T : k1 + 1 ≤ T := by
          by_cases e : k1 = T
          · rw [e, hT0, jop_0] at nj; exact absurd rfl nj
          · omega
        refine hi (k1 + 1) lf1 τ1 _ m2 k1T l5 (by omega) (fun j υ e y w => ?_) (fun q υ e y w => ?_)
        · rw [e] at hp
          exact h2 f υ (by rw [w]; omega) (hf j υ hp.symm (zRm_tr z (zRm_tr z1 y)) w)
        · rw [e] at hp
          have po := ho (k1 + 1) lf1 q k1T e
          exact ih q.1 q.2.1 _ υ (by omega) hp (zRm_tr z (zRm_tr z1 y)) w po.2.1 po.2.2.2
  refine hi k lf σ _ hs hk hl k1 (fun j τ e z w => ⟨1, h2 0 τ (by rw [w]; omega) (hf j τ (by unfold pCh; rw [e]) z w)⟩) (fun q τ e z w => ?_)
  have po := ho k lf q hk e
  exact ⟨401, key 400 q.1 q.2.1 q.2.2 τ (by omega) (by unfold pCh; rw [e]) z w po.2.1 po.2.2.2⟩
theorem jop_i (c : Int) : (jop 0 c = -1 ↔ ¬ c = 7) ∧ (jop 1 c = -1 ↔ ¬ c = 8) ∧ (jop 2 c = -1 ↔ (¬ c = 143 ∧ ¬ c = 145)) ∧ (jop 3 c = -1 ↔ (¬ c = 142 ∧ ¬ c = 147 ∧ ¬ c = 137)) := by
  refine ⟨?_, ?_, ?_, ?_⟩
  · show (if c = 7 then (11 : Int) else -1) = -1 ↔ _
    split <;> omega
  · show (if c = 8 then (12 : Int) else -1) = -1 ↔ _
    split <;> omega
  · show (if c = 143 then (2 : Int) else if c = 145 then 3 else -1) = -1 ↔ _
    repeat' split
    all_goals omega
  · show (if c = 142 then (4 : Int) else if c = 147 then 5 else if c = 137 then 6 else -1) = -1 ↔ _
    repeat' split
    all_goals omega
theorem m_termS {d dp : Nat} {it : Nat → Nat → zO} (hE : tkE tp n T) (ho : pOk T it) (hi : ∀ k lf, mSp tp n T ord (wp_X11_readPart d (dp : Int)) k lf (it k lf)) : ∀ k lf, mSp tp n T ord (wp_X11_readTerm (d + 1) (dp : Int)) k lf (pCh (cdT tp n) 3 it k lf) := by
  intro k lf σ Q hs hk hl k1 hf hq
  refine m_chain (l := 3) (L := fun m s => L_X11_readTerm_5 Q (wp_X11_readPart d) (wp_X11_readSum d) (wp_X11_readTerm d) m (dp : Int) s) (Q := Q) hE ho hi (fun m σ k lf a1 a2 a3 a4 => ?_) (fun m σ a1 a2 => ?_) hs hk hl k1 hf hq
  · have ji := (jop_i (cdT tp n k)).2.2.2
    unfold L_X11_readTerm_5
    refine m_sg (c := 42) (by decide) (m_takes hE a1 a2 (fun e τ z w => ⟨fun _ => a4 (fun q => (ji.mp q).1 e) τ z w, fun w => absurd w (by decide)⟩) (fun e1 => ⟨fun w => absurd rfl w, fun _ => ?_⟩))
    refine m_sg (c := 47) (by decide) (m_takes hE a1 a2 (fun e τ z w => ⟨fun _ => a4 (fun q => (ji.mp q).2.1 e) τ z w, fun w => absurd w (by decide)⟩) (fun e2 => ⟨fun w => absurd rfl w, fun _ => ?_⟩))
    exact m_sg (c := 37) (by decide) (m_takes hE a1 a2 (fun e τ z w => ⟨fun w => absurd w (by decide), fun _ => a4 (fun q => (ji.mp q).2.2 e) τ z w⟩) (fun e3 => ⟨fun _ => a3 (ji.mpr ⟨e1, e2, e3⟩), fun w => absurd rfl w⟩))
  · exact m_takes_d a1 ⟨fun w => absurd rfl w, fun _ => m_takes_d a1 ⟨fun w => absurd rfl w, fun _ => m_takes_d a1 ⟨fun _ => a2, fun w => absurd rfl w⟩⟩⟩
theorem m_sumS1 {d dp : Nat} {it : Nat → Nat → zO} (hE : tkE tp n T) (ho : pOk T it) (hi : ∀ k lf, mSp tp n T ord (wp_X11_readTerm d (dp : Int)) k lf (it k lf)) : ∀ k lf, mSp tp n T ord (wp_X11_readSum (d + 1) (dp : Int)) k lf (pCh (cdT tp n) 2 it k lf) := by
  intro k lf σ Q hs hk hl k1 hf hq
  refine m_chain (l := 2) (L := fun m s => L_X11_readSum_5 Q (wp_X11_readPart d) (wp_X11_readSum d) (wp_X11_readTerm d) m (dp : Int) s) (Q := Q) hE ho hi (fun m σ k lf a1 a2 a3 a4 => ?_) (fun m σ a1 a2 => ?_) hs hk hl k1 hf hq
  · have ji := (jop_i (cdT tp n k)).2.2.1
    unfold L_X11_readSum_5
    refine m_sg (c := 43) (by decide) (m_takes hE a1 a2 (fun e τ z w => ⟨fun _ => a4 (fun q => (ji.mp q).1 e) τ z w, fun w => absurd w (by decide)⟩) (fun e1 => ⟨fun w => absurd rfl w, fun _ => ?_⟩))
    exact m_sg (c := 45) (by decide) (m_takes hE a1 a2 (fun e τ z w => ⟨fun w => absurd w (by decide), fun _ => a4 (fun q => (ji.mp q).2 e) τ z w⟩) (fun e3 => ⟨fun _ => a3 (ji.mpr ⟨e1, e3⟩), fun w => absurd rfl w⟩))
  · exact m_takes_d a1 ⟨fun w => absurd rfl w, fun _ => m_takes_d a1 ⟨fun _ => a2, fun w => absurd rfl w⟩⟩
theorem m_bothS {d dp : Nat} {it : Nat → Nat → zO} (hE : tkE tp n T) (ho : pOk T it) (hi : ∀ k lf, mSp tp n T ord (wp_X11_readPlain d (dp : Int)) k lf (it k lf)) : ∀ k lf, mSp tp n T ord (wp_X11_readBoth (d + 1) (dp : Int)) k lf (pCh (cdT tp n) 1 it k lf) := by
  intro k lf σ Q hs hk hl k1 hf hq
  refine m_chain (l := 1) (L := fun m s => L_X11_readBoth_5 Q (wp_X11_readBoth d) (wp_X11_readPlain d) (wp_X11_readTest d) m (dp : Int) s) (Q := Q) hE ho hi (fun m σ k lf a1 a2 a3 a4 => ?_) (fun m σ a1 a2 => ?_) hs hk hl k1 hf hq
  · have ji := (jop_i (cdT tp n k)).2.1
    exact m_takes hE a1 a2 (fun e τ z w => ⟨fun w => absurd w (by decide), fun _ => a4 (fun q => (ji.mp q) e) τ z w⟩) (fun e3 => ⟨fun _ => a3 (ji.mpr e3), fun w => absurd rfl w⟩)
  · exact m_takes_d a1 ⟨fun _ => a2, fun w => absurd rfl w⟩
theorem m_testS1 {d dp : Nat} {it : Nat → Nat → zO} (hE : tkE tp n T) (ho : pOk T it) (hi : ∀ k lf, mSp tp n T ord (wp_X11_readBoth d (dp : Int)) k lf (it k lf)) : ∀ k lf, mSp tp n T ord (wp_X11_readTest (d + 1) (dp : Int)) k lf (pCh (cdT tp n) 0 it k lf) := by
  intro k lf σ Q hs hk hl k1 hf hq
  refine m_chain (l := 0) (L := fun m s => L_X11_readTest_5 Q (wp_X11_readBoth d) (wp_X11_readPlain d) (wp_X11_readTest d) m (dp : Int) s) (Q := Q) hE ho hi (fun m σ k lf a1 a2 a3 a4 => ?_) (fun m σ a1 a2 => ?_) hs hk hl k1 hf hq
  · have ji := (jop_i (cdT tp n k)).1
    exact m_takes hE a1 a2 (fun e τ z w => ⟨fun w => absurd w (by decide), fun _ => a4 (fun q => (ji.mp q) e) τ z w⟩) (fun e3 => ⟨fun _ => a3 (ji.mpr e3), fun w => absurd rfl w⟩)
  · exact m_takes_d a1 ⟨fun _ => a2, fun w => absurd rfl w⟩
theorem wd_i (c : Int) : (wdI ord c = -1 ↔ (c < (if ord = true then 19 else 10) ∨ (if ord = true then 25 else 19) < c)) ∧ (ord = true → (5 ≤ wdI ord c ↔ (c = 24 ∨ c = 25))) ∧ (ord = false → ¬ wdI ord c = -1 → ¬ c = 24 ∧ ¬ c = 25) := by
  unfold wdI
  cases ord with
  | true =>
    simp only [if_true]
    refine ⟨?_, fun _ => ?_, fun w => absurd w (by decide)⟩
    · split <;> omega
    · split <;> omega
  | false =>
    simp only [Bool.false_eq_true, if_false]
    refine ⟨?_, fun w => absurd w (by simp), fun _ h => ?_⟩
    · split <;> omega
    · split at h
      · omega
      · exact absurd rfl h
theorem m_partS {d dp : Nat} {inner : Option (Nat → Nat → zO)} (hE : tkE tp n T) (hp8 : dp ≤ 8) (h0 : inner = none → dp = 8) (h1 : ∀ g, inner = some g → dp < 8 ∧ pOk T g ∧ ∀ k lf, mSp tp n T ord (wp_X11_readSum d ((dp + 1 : Nat) : Int)) k lf (g k lf)) : ∀ k lf, mSp tp n T ord (wp_X11_readPart (d + 1) (dp : Int)) k lf (pPt ord (cdT tp n) (vlT tp n) inner k lf) := by
  intro k lf σ Q hs hk hl k1 hf hq
  have hT0 := cf_T hE
  have hT4 : T ≤ 400 := by have := hE.2.1; have := hE.2.2.1; omega
  have wi := wd_i (ord := ord) (cdT tp n k)
  refine m_fine1 hs.2.2.2.2.1 ⟨fun _ => ?_, fun w => absurd w (by decide)⟩
  rw [hs.2.2.1, Int.toNat_natCast, (hs.2.1 k (by omega)).1]
  refine ⟨ixn (by omega), ?_⟩
  intro x ex
  subst ex
  have leaf : ((cdT tp n k = 50 ∧ vlT tp n k ≤ 1000) ∨ ¬ wdI ord (cdT tp n k) = -1) → ¬ cdT tp n k = 191 → B_X11_readPart_111 Q (wp_X11_readPart d) (wp_X11_readSum d) (wp_X11_readTerm d) (cdT tp n k) σ := by
    intro c e91
    have k1T : k + 1 ≤ T := by
      by_cases e : k = T
      · subst e
        rw [hT0] at c
        rcases c with w | w
        · exact absurd w.1 (by decide)
        · exact absurd (by cases ord <;> rfl) w
      · omega
    refine m_leaf hE hs hk hl (fun l5 τ z m1 => ?_) (fun l5 τ z w => ?_)
    · have two : (cdT tp n k = 24 ∨ cdT tp n k = 25) → B_X11_readPart_127 Q (wp_X11_readPart d) (wp_X11_readSum d) (wp_X11_readTerm d) τ := by
        intro c2
        have c5 : ¬ cdT tp n k = 50 := by omega
        have cw : ¬ wdI ord (cdT tp n k) = -1 := by rcases c with w | w; exact absurd w.1 c5; exact w
        have et : ord = true := by
          cases ord with
          | true => rfl
          | false => have := wi.2.2 rfl cw; omega
        have cc : (ord = true ∧ 5 ≤ wdI ord (cdT tp n k)) := ⟨et, (wi.2.1 et).mpr c2⟩
        refine m_mustNumber hE m1 k1T (fun c6 υ y w => ?_) (fun c6 υ y w => ?_)
        · have c7 : cdT tp n (k + 1) = 50 ∧ vlT tp n (k + 1) ≤ 9 := ⟨c6.1, c6.2.2⟩
          exact hq (k + 2, lf + 1, fun W => some (W (5 + (wdI ord (cdT tp n k) - 5) * 10 + vlT tp n (k + 1)).toNat)) υ (by unfold pPt; rw [if_neg e91, if_pos c, if_neg l5, if_neg c5, if_pos cc, if_pos c7]) (zRm_tr z y) w
        · have nv := nm_vl (tp := tp) (n := n) (k := k + 1)
          have c7 : ¬ (cdT tp n (k + 1) = 50 ∧ vlT tp n (k + 1) ≤ 9) := fun q => c6 ⟨q.1, nv.2.1, q.2⟩
          exact hf (k + 1) υ (by unfold pPt; rw [if_neg e91, if_pos c, if_neg l5, if_neg c5, if_pos cc, if_neg c7]) (zRm_tr z y) w
      refine ⟨fun c2 => two (Or.inl c2), fun n24 => ⟨fun n25 => ?_, fun c2 => two (Or.inr c2)⟩⟩
      by_cases c5 : cdT tp n k = 50
      · exact hq (k + 1, lf + 1, fun _ => some (vlT tp n k)) τ (by unfold pPt; rw [if_neg e91, if_pos c, if_neg l5, if_pos c5]) z m1
      · have cc : ¬ (ord = true ∧ 5 ≤ wdI ord (cdT tp n k)) := fun q => by have := (wi.2.1 q.1).mp q.2; omega
        exact hq (k + 1, lf + 1, fun W => some (W (wdI ord (cdT tp n k)).toNat)) τ (by unfold pPt; rw [if_neg e91, if_pos c, if_neg l5, if_neg c5, if_neg cc]) z m1
    · have out : Q τ := hf k τ (by unfold pPt; rw [if_neg e91, if_pos c, if_pos l5]) z w
      have dd : ¬ gI τ 0 21 = -1 := by rw [w]; omega
      exact ⟨fun _ => m_mustNumber_d dd out, fun _ => ⟨fun _ => out, fun _ => m_mustNumber_d dd out⟩⟩
  have word : ¬ (cdT tp n k = 50 ∧ vlT tp n k ≤ 1000) → ¬ cdT tp n k = 191 → B_X11_readPart_95 Q (wp_X11_readPart d) (wp_X11_readSum d) (wp_X11_readTerm d) (cdT tp n k) σ := by
    intro c e91
    have bad : wdI ord (cdT tp n k) = -1 → B_X11_readPart_137 Q (wp_X11_readPart d) (wp_X11_readSum d) (wp_X11_readTerm d) σ := fun cw => m_faults hE hs hk (fun τ z w => hf k τ (by unfold pPt; rw [if_neg e91, if_neg (by rintro (q | q); exact c q; exact q cw)]) z w)
    unfold B_X11_readPart_95
    rw [hs.2.2.2.2.2.1, hs.2.2.2.2.2.2]
    exact ⟨fun w => bad (wi.1.mpr (Or.inl w)), fun w => ⟨fun w2 => bad (wi.1.mpr (Or.inr w2)), fun w2 => leaf (Or.inr (fun q => by rcases wi.1.mp q with z | z; exact w z; exact w2 z)) e91⟩⟩
  refine m_sg (c := 91) (by decide) ⟨fun e91 => ⟨fun n50 => word (fun q => n50 q.1) e91, fun e50 => ?_⟩, fun e91 => ?_⟩
  · rw [hs.2.2.1, Int.toNat_natCast, (hs.2.1 k (by omega)).2.1]
    exact ⟨ixn (by omega), fun v1 => leaf (Or.inl ⟨e50, v1⟩) e91, fun v1 => word (fun q => v1 q.2) e91⟩
  · have e91' : cdT tp n k = 191 := e91
    have k1T := cf_lt hT0 hk e91' (by decide)
    cases inner with
    | none =>
      have e8 := h0 rfl
      subst e8
      refine ⟨fun w => absurd rfl w, fun _ => m_faults hE hs hk (fun τ z w => m_fine0 (by rw [w]; omega) ⟨fun q => absurd rfl q, fun _ => ?_⟩)⟩
      exact hf k τ (by unfold pPt; rw [if_pos e91']; rfl) z w
    | some g =>
      obtain ⟨d8, po, hg⟩ := h1 g rfl
      refine ⟨fun _ => m_fine1 hs.2.2.2.2.1 ⟨fun _ => ?_, fun w => absurd w (by decide)⟩, fun w => absurd w (by omega)⟩
      intro x ex s es
      rw [hs.2.2.1, wks (by omega)] at ex
      subst ex
      subst es
      rw [wks (by omega)]
      refine hg (k + 1) lf _ _ (mS_t hs) k1T hl (by omega) (fun j τ e z w => ?_) (fun q τ e z w => ?_)
      · exact m_must_d (by rw [w]; omega) (hf j τ (by unfold pPt; rw [if_pos e91']; unfold pBr; dsimp only; rw [e]) (zRm_tr (zRm_s (by omega)) z) w)
      · have pq := po (k + 1) lf q k1T e
        refine m_sg (c := 93) (by decide) (m_must hE w pq.2.1 (fun ec υ y m2 => ?_) (fun ec υ y m2 => ?_))
        · exact hq (q.1 + 1, q.2.1, q.2.2) υ (by unfold pPt; rw [if_pos e91']; unfold pBr; dsimp only; rw [e]; dsimp only; rw [if_pos (show cdT tp n q.1 = 193 from ec)]) (zRm_tr (zRm_s (by omega)) (zRm_tr z y)) m2
        · exact hf q.1 υ (by unfold pPt; rw [if_pos e91']; unfold pBr; dsimp only; rw [e]; dsimp only; rw [if_neg (show ¬ cdT tp n q.1 = 193 from ec)]) (zRm_tr (zRm_s (by omega)) (zRm_tr z y)) m2
theorem m_sumS (hE : tkE tp n T) : ∀ (r d dp : Nat), r + dp = 8 → 3 + 3 * r ≤ d → ∀ k lf, mSp tp n T ord (wp_X11_readSum d (dp : Int)) k lf (pSm ord (cdT tp n) (vlT tp n) r k lf) := by
  have hT0 := cf_T hE
  intro r
  induction r with
  | zero =>
    intro d dp hr hd
    obtain ⟨d, rfl⟩ : ∃ e, d = e + 3 := ⟨d - 3, by omega⟩
    have pp : pOk T (pPt ord (cdT tp n) (vlT tp n) none) := pOk_pt hT0 (fun g e => absurd e (by simp))
    exact m_sumS1 (d := d + 2) hE (pOk_ch hT0 pp) (m_termS (d := d + 1) hE pp (m_partS (d := d) hE (by omega) (fun _ => by omega) (fun g e => absurd e (by simp))))
  | succ r ih =>
    intro d dp hr hd
    obtain ⟨d, rfl⟩ : ∃ e, d = e + 3 := ⟨d - 3, by omega⟩
    have po := pOk_sm (ord := ord) (vf := vlT tp n) hT0 r
    have pp : pOk T (pPt ord (cdT tp n) (vlT tp n) (some (pSm ord (cdT tp n) (vlT tp n) r))) := pOk_pt hT0 (fun g e => by cases Option.some.inj e; exact po)
    exact m_sumS1 (d := d + 2) hE (pOk_ch hT0 pp) (m_termS (d := d + 1) hE pp (m_partS (d := d) hE (by omega) (fun e => absurd e (by simp)) (fun g e => by cases Option.some.inj e; exact ⟨by omega, po, ih d (dp + 1) (by omega) (by omega)⟩)))
/-- no sum is read behind a fault -/
theorem m_sum_d {d : Nat} {a : Int} : mDd (wp_X11_readSum (d + 3) a) := by
  intro σ Q h hQ
  have hp : ∀ Q : st_S → Prop, Q σ → wp_X11_readPart (d + 1) a σ Q := fun Q hQ => m_fine0 h ⟨fun w => absurd rfl w, fun _ => hQ⟩
  have ht : ∀ Q : st_S → Prop, Q σ → wp_X11_readTerm (d + 2) a σ Q := fun Q hQ => hp _ ⟨1, m_takes_d h ⟨fun w => absurd rfl w, fun _ => m_takes_d h ⟨fun w => absurd rfl w, fun _ => m_takes_d h ⟨fun _ => hQ, fun w => absurd rfl w⟩⟩⟩⟩
  exact ht _ ⟨1, m_takes_d h ⟨fun w => absurd rfl w, fun _ => m_takes_d h ⟨fun _ => hQ, fun w => absurd rfl w⟩⟩⟩
theorem m_plainS {d dp : Nat} {inner : Option (Nat → Nat → zO)} {sum : Nat → Nat → zO} (hE : tkE tp n T) (hp8 : dp ≤ 8) (h0 : inner = none → dp = 8) (h1 : ∀ g, inner = some g → dp < 8 ∧ pOk T g ∧ ∀ k lf, mSp tp n T ord (wp_X11_readTest d ((dp + 1 : Nat) : Int)) k lf (g k lf)) (ho : pOk T sum) (hi : ∀ k lf, mSp tp n T ord (wp_X11_readSum 40 (dp : Int)) k lf (sum k lf)) : ∀ k lf, mSp tp n T ord (wp_X11_readPlain (d + 1) (dp : Int)) k lf (pPl (cdT tp n) inner sum k lf) := by
  intro k lf σ Q hs hk hl k1 hf hq
  have hT0 := cf_T hE
  have hT4 : T ≤ 400 := by have := hE.2.1; have := hE.2.2.1; omega
  have kN := (pNt_le (cf := cdT tp n) hT0 400 k false hk).1
  generalize hN : pNt (cdT tp n) 400 k false = N at kN
  have beh : ∀ (m : Nat) τ, zRm σ τ → mS τ tp n T ord N.1 lf → N.1 ≤ T → L_X11_readPlain_2 Q (wp_X11_readBoth d) (wp_X11_readPlain d) (wp_X11_readTest d) (m + 1) (dp : Int) 0 τ := by
    intro m τ z m1 NT
    refine ⟨fun _ => m_fine1 m1.2.2.2.2.1 ⟨fun _ => ?_, fun w => absurd w (by decide)⟩, fun w => absurd rfl w⟩
    rw [m1.2.2.1, Int.toNat_natCast, (m1.2.1 N.1 (by omega)).1]
    refine ⟨ixn (by omega), ?_⟩
    intro x ex
    subst ex
    refine m_sg (c := 40) (by decide) ⟨fun e40 => ?_, fun e40 => ?_⟩
    · have e40' : ¬ cdT tp n N.1 = 140 := e40
      have eP : ∀ j, pCm (cdT tp n) sum N.1 lf = .inl j → pPl (cdT tp n) inner sum k lf = .inl j := fun j e => by unfold pPl; rw [hN, if_neg e40', e]
      have eQ : ∀ q : Nat × Nat × zDn, pCm (cdT tp n) sum N.1 lf = .inr q → pPl (cdT tp n) inner sum k lf = .inr (q.1, q.2.1, if N.2 = true then dNot q.2.2 else q.2.2) := fun q e => by unfold pPl; rw [hN, if_neg e40', e]
      refine hi N.1 lf τ _ m1 NT hl (by omega) (fun j υ e y w => ?_) (fun q υ e y w => ?_)
      · have dd : ¬ gI υ 0 21 = -1 := by rw [w]; omega
        have out : Q υ := hf j υ (eP j (by unfold pCm; rw [e])) (zRm_tr z y) w
        exact m_takes_d dd ⟨fun w => absurd rfl w, fun _ => m_takes_d dd ⟨fun w => absurd rfl w, fun _ => m_must_d dd (m_sum_d (d := 37) υ _ dd out)⟩⟩
      · have pq := ho N.1 lf q NT e
        -- behind the sign
        have snd : ¬ cmI (cdT tp n q.1) = -1 → ∀ ω, zRm υ ω → mS ω tp n T ord (q.1 + 1) q.2.1 → B_X11_readPlain_128 Q (wp_X11_readBoth d) (wp_X11_readPlain d) (wp_X11_readTest d) (dp : Int) ω := by
          intro nc ω y2 m2
          have k1T : q.1 + 1 ≤ T := by
            by_cases e : q.1 = T
            · rw [e, hT0] at nc; exact absurd cm_0 nc
            · omega
          refine hi (q.1 + 1) q.2.1 ω _ m2 k1T pq.2.2.2 (by omega) (fun j χ e2 y3 w3 => ?_) (fun q2 χ e2 y3 w3 => ?_)
          · exact hf j χ (eP j (by unfold pCm; rw [e]; dsimp only; rw [if_neg nc, e2])) (zRm_tr z (zRm_tr y (zRm_tr y2 y3))) w3
          · exact hq _ χ (eQ (q2.1, q2.2.1, dop (7 + cmI (cdT tp n q.1)) q.2.2 q2.2.2) (by unfold pCm; rw [e]; dsimp only; rw [if_neg nc, e2])) (zRm_tr z (zRm_tr y (zRm_tr y2 y3))) w3
        have ci : cmI (cdT tp n q.1) = -1 ↔ (¬ cdT tp n q.1 = 160 ∧ ¬ cdT tp n q.1 = 162 ∧ ¬ cdT tp n q.1 = 161) := by
          unfold cmI
          repeat' split
          all_goals omega
        refine m_sg (c := 60) (by decide) (m_takes hE w pq.2.1 (fun ec ω y2 m2 => ⟨fun _ => snd (fun c => (ci.mp c).1 ec) ω y2 m2, fun w => absurd w (by decide)⟩) (fun e1 => ⟨fun w => absurd rfl w, fun _ => ?_⟩))
        refine m_sg (c := 62) (by decide) (m_takes hE w pq.2.1 (fun ec ω y2 m2 => ⟨fun _ => snd (fun c => (ci.mp c).2.1 ec) ω y2 m2, fun w => absurd w (by decide)⟩) (fun e2 => ⟨fun w => absurd rfl w, fun _ => ?_⟩))
        refine m_sg (c := 61) (by decide) (m_must hE w pq.2.1 (fun ec ω y2 m2 => snd (fun c => (ci.mp c).2.2 ec) ω y2 m2) (fun e3 ω y2 w2 => ?_))
        have nc : cmI (cdT tp n q.1) = -1 := ci.mpr ⟨e1, e2, e3⟩
        exact m_sum_d (d := 37) ω _ (by rw [w2]; omega) (hf q.1 ω (eP q.1 (by unfold pCm; rw [e]; dsimp only; rw [if_pos nc])) (zRm_tr z (zRm_tr y y2)) w2)
    · have e40' : cdT tp n N.1 = 140 := e40
      have k1T := cf_lt hT0 NT e40' (by decide)
      have eP : ∀ j, pBr (cdT tp n) 141 inner N.1 lf = .inl j → pPl (cdT tp n) inner sum k lf = .inl j := fun j e => by unfold pPl; rw [hN, if_pos e40', e]
      have eQ : ∀ q : Nat × Nat × zDn, pBr (cdT tp n) 141 inner N.1 lf = .inr q → pPl (cdT tp n) inner sum k lf = .inr (q.1, q.2.1, if N.2 = true then dNot q.2.2 else q.2.2) := fun q e => by unfold pPl; rw [hN, if_pos e40', e]
      cases inner with
      | none =>
        have e8 := h0 rfl
        subst e8
        refine ⟨fun w => absurd rfl w, fun _ => m_faults hE m1 NT (fun υ y w => m_fine0 (by rw [w]; omega) ⟨fun q => absurd rfl q, fun _ => ?_⟩)⟩
        exact hf N.1 υ (eP _ rfl) (zRm_tr z y) w
      | some g =>
        obtain ⟨d8, po, hg⟩ := h1 g rfl
        refine ⟨fun _ => m_fine1 m1.2.2.2.2.1 ⟨fun _ => ?_, fun w => absurd w (by decide)⟩, fun w => absurd w (by omega)⟩
        intro x ex s es
        rw [m1.2.2.1, wks (by omega)] at ex
        subst ex
        subst es
        rw [wks (by omega)]
        refine hg (N.1 + 1) lf _ _ (mS_t m1) k1T hl (by omega) (fun j υ e y w => ?_) (fun q υ e y w => ?_)
        · exact m_must_d (by rw [w]; omega) (hf j υ (eP j (by unfold pBr; dsimp only; rw [e])) (zRm_tr z (zRm_tr (zRm_s (by omega)) y)) w)
        · have pq := po (N.1 + 1) lf q k1T e
          refine m_sg (c := 41) (by decide) (m_must hE w pq.2.1 (fun ec ω y2 m2 => ?_) (fun ec ω y2 m2 => ?_))
          · exact hq _ ω (eQ (q.1 + 1, q.2.1, q.2.2) (by unfold pBr; dsimp only; rw [e]; dsimp only; rw [if_pos (show cdT tp n q.1 = 141 from ec)])) (zRm_tr z (zRm_tr (zRm_s (by omega)) (zRm_tr y y2))) m2
          · exact hf q.1 ω (eP q.1 (by unfold pBr; dsimp only; rw [e]; dsimp only; rw [if_neg (show ¬ cdT tp n q.1 = 141 from ec)])) (zRm_tr z (zRm_tr (zRm_s (by omega)) (zRm_tr y y2))) m2
  have key : ∀ (f k1 : Nat) (b : Bool) (τ : st_S), T - k1 < f → pNt (cdT tp n) f k1 b = N → zRm σ τ → mS τ tp n T ord k1 lf → k1 ≤ T → L_X11_readPlain_2 Q (wp_X11_readBoth d) (wp_X11_readPlain d) (wp_X11_readTest d) (f + 1) (dp : Int) 1 τ := by
    intro f
    induction f with
    | zero => intro k1 b τ h; exact absurd h (Nat.not_lt_zero _)
    | succ f ih =>
      intro k1 b τ hT hp z m1 kT
      unfold pNt at hp
      refine ⟨fun w => absurd w (by decide), fun _ => m_takes hE m1 kT (fun ec τ1 z1 m2 => ?_) (fun ec => ?_)⟩
      · rw [if_pos ec] at hp
        have k1T := cf_lt hT0 kT ec (by decide)
        exact ih (k1 + 1) (!b) τ1 (by omega) hp (zRm_tr z z1) m2 k1T
      · rw [if_neg ec] at hp
        exact beh f τ z (by rw [← hp]; exact m1) (by rw [← hp]; exact kT)
  exact ⟨401, key 400 k false σ (by omega) hN zRm_rfl hs hk⟩
theorem m_testS (hE : tkE tp n T) : ∀ (r d dp : Nat), r + dp = 8 → 3 + 3 * r ≤ d → ∀ k lf, mSp tp n T ord (wp_X11_readTest d (dp : Int)) k lf (pTs ord (cdT tp n) (vlT tp n) r k lf) := by
  have hT0 := cf_T hE
  intro r
  induction r with
  | zero =>
    intro d dp hr hd
    obtain ⟨d, rfl⟩ : ∃ e, d = e + 3 := ⟨d - 3, by omega⟩
    have ps := pOk_sm (ord := ord) (vf := vlT tp n) hT0 0
    have pp : pOk T (pPl (cdT tp n) none (pSm ord (cdT tp n) (vlT tp n) 0)) := pOk_pl hT0 (fun g e => absurd e (by simp)) ps
    exact m_testS1 (d := d + 2) hE (pOk_ch hT0 pp) (m_bothS (d := d + 1) hE pp (m_plainS (d := d) hE (by omega) (fun _ => by omega) (fun g e => absurd e (by simp)) ps (m_sumS hE 0 40 dp hr (by omega))))
  | succ r ih =>
    intro d dp hr hd
    obtain ⟨d, rfl⟩ : ∃ e, d = e + 3 := ⟨d - 3, by omega⟩
    have ps := pOk_sm (ord := ord) (vf := vlT tp n) hT0 (r + 1)
    have po := pOk_ts (ord := ord) (vf := vlT tp n) hT0 r
    have hin : ∀ g, some (pTs ord (cdT tp n) (vlT tp n) r) = some g → pOk T g := fun g e => by cases Option.some.inj e; exact po
    have pp : pOk T (pPl (cdT tp n) (some (pTs ord (cdT tp n) (vlT tp n) r)) (pSm ord (cdT tp n) (vlT tp n) (r + 1))) := pOk_pl hT0 hin ps
    exact m_testS1 (d := d + 2) hE (pOk_ch hT0 pp) (m_bothS (d := d + 1) hE pp (m_plainS (d := d) hE (by omega) (fun e => absurd e (by simp)) (fun g e => by cases Option.some.inj e; exact ⟨by omega, po, ih d (dp + 1) (by omega) (by omega)⟩) ps (m_sumS hE (r + 1) 40 dp hr (by omega))))
/-- no test is read behind a fault -/
theorem m_test_d {d : Nat} {a : Int} : mDd (wp_X11_readTest (d + 3) a) := by
  intro σ Q h hQ
  have hp : ∀ Q : st_S → Prop, Q σ → wp_X11_readPlain (d + 1) a σ Q := fun Q hQ => ⟨2, fun w => absurd w (by decide), fun _ => m_takes_d h ⟨fun _ => m_fine0 h ⟨fun w => absurd rfl w, fun _ => hQ⟩, fun w => absurd rfl w⟩⟩
  have ht : ∀ Q : st_S → Prop, Q σ → wp_X11_readBoth (d + 2) a σ Q := fun Q hQ => hp _ ⟨1, m_takes_d h ⟨fun _ => hQ, fun w => absurd rfl w⟩⟩
  exact ht _ ⟨1, m_takes_d h ⟨fun _ => hQ, fun w => absurd rfl w⟩⟩
end
