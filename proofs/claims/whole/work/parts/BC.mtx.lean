/-! what is read is what the reference works out -/
def pBt (g : Nat → Nat → zO) : Prop := ∀ k lf q, g k lf = .inr q → ∀ W v, q.2.2 W = some v → rTs v
section
variable {ord : Bool} {cf vf : Nat → Int} {T : Nat}
theorem j01 {l c : Int} (hl : l = 0 ∨ l = 1) (h : ¬ jop l c = -1) : jop l c = 11 ∨ jop l c = 12 := by
  rcases hl with e | e
  · subst e
    left
    have e : c = 7 := by by_cases q : c = 7; exact q; exact absurd ((jop_i c).1.mpr q) h
    rw [e]; rfl
  · subst e
    right
    have e : c = 8 := by by_cases q : c = 8; exact q; exact absurd ((jop_i c).2.1.mpr q) h
    rw [e]; rfl
theorem pBt_ch {l : Int} {item : Nat → Nat → zO} (hl : l = 0 ∨ l = 1) (h : pBt item) : pBt (pCh cf l item) := by
  have key : ∀ (f k lf : Nat) (D : zDn) (q : Nat × Nat × zDn), (∀ W v, D W = some v → rTs v) → pLp cf l item f k lf D = .inr q → ∀ W v, q.2.2 W = some v → rTs v := by
    intro f
    induction f with
    | zero => intro k lf D q _ hq; exact absurd hq (by simp [pLp])
    | succ f ih =>
      intro k lf D q hD hq
      unfold pLp at hq
      split at hq
      · cases Sum.inr.inj hq; exact hD
      · rename_i nj
        split at hq
        · exact absurd hq (by simp)
        · rename_i q1 e1
          exact ih q1.1 q1.2.1 _ q (fun W v hv => dop_ts (j01 hl nj) (hD W) (h _ _ q1 e1 W) v hv) hq
  intro k lf q hq
  unfold pCh at hq
  split at hq
  · exact absurd hq (by simp)
  · rename_i q1 e1
    exact key 400 q1.1 q1.2.1 q1.2.2 q (h k lf q1 e1) hq
theorem pBt_pl {inner : Option (Nat → Nat → zO)} {sum : Nat → Nat → zO} (h : ∀ g, inner = some g → pBt g) : pBt (pPl cf inner sum) := by
  intro k lf q hq
  unfold pPl at hq
  split at hq
  · exact absurd hq (by simp)
  · rename_i q1 e1
    have b1 : ∀ W v, q1.2.2 W = some v → rTs v := by
      split at e1
      · cases inner with
        | none => exact absurd e1 (by simp [pBr])
        | some g =>
          unfold pBr at e1
          dsimp only at e1
          split at e1
          · exact absurd e1 (by simp)
          · rename_i q2 e2
            split at e1
            · cases Sum.inr.inj e1; exact h g rfl _ _ q2 e2
            · exact absurd e1 (by simp)
      · unfold pCm at e1
        split at e1
        · exact absurd e1 (by simp)
        · rename_i q2 e2
          split at e1
          · exact absurd e1 (by simp)
          · rename_i nc
            split at e1
            · exact absurd e1 (by simp)
            · rename_i q3 e3
              cases Sum.inr.inj e1
              intro W v hv
              have cv : cmI (cf q2.1) = 0 ∨ cmI (cf q2.1) = 1 ∨ cmI (cf q2.1) = 2 := by
                unfold cmI at nc ⊢
                repeat' split
                all_goals first | omega | (exfalso; apply nc; repeat' rw [if_neg (by assumption)])
              have db := dop_b (op := 7 + cmI (cf q2.1)) (D := q2.2.2) (D1 := q3.2.2) (W := W) (by omega) (by omega)
              have hv' : dop (7 + cmI (cf q2.1)) q2.2.2 q3.2.2 W = some v := hv
              cases ea : q2.2.2 W with
              | none => rw [db.1 ea] at hv'; exact absurd hv' (by simp)
              | some a =>
                cases eb : q3.2.2 W with
                | none => rw [db.2.1 eb] at hv'; exact absurd hv' (by simp)
                | some b =>
                  rw [db.2.2 a b ea eb] at hv'
                  rcases cv with e | e | e
                  · rw [e] at hv'
                    have hv2 : ((some (if a < b then (1 : Int) else 0)).bind (fun v => if v < -1000000000 ∨ 1000000000 < v then none else some v)) = some v := hv'
                    by_cases c : a < b
                    · rw [if_pos c] at hv2; exact Or.inr (Option.some.inj hv2).symm
                    · rw [if_neg c] at hv2; exact Or.inl (Option.some.inj hv2).symm
                  · rw [e] at hv'
                    have hv2 : ((some (if b < a then (1 : Int) else 0)).bind (fun v => if v < -1000000000 ∨ 1000000000 < v then none else some v)) = some v := hv'
                    by_cases c : b < a
                    · rw [if_pos c] at hv2; exact Or.inr (Option.some.inj hv2).symm
                    · rw [if_neg c] at hv2; exact Or.inl (Option.some.inj hv2).symm
                  · rw [e] at hv'
                    have hv2 : ((some (if a = b then (1 : Int) else 0)).bind (fun v => if v < -1000000000 ∨ 1000000000 < v then none else some v)) = some v := hv'
                    by_cases c : a = b
                    · rw [if_pos c] at hv2; exact Or.inr (Option.some.inj hv2).symm
                    · rw [if_neg c] at hv2; exact Or.inl (Option.some.inj hv2).symm
    cases Sum.inr.inj hq
    intro W v hv
    have hv' : (if (pNt cf 400 k false).2 = true then dNot q1.2.2 else q1.2.2) W = some v := hv
    split at hv'
    · have hv2 : (q1.2.2 W).map (fun v => wr (1 - v)) = some v := hv'
      rw [Option.map_eq_some_iff] at hv2
      obtain ⟨x, x0, xv⟩ := hv2
      rcases b1 W x x0 with e | e
      · rw [← xv, e]; exact Or.inr (by decide)
      · rw [← xv, e]; exact Or.inl (by decide)
    · exact b1 W v hv'
theorem pBt_ts : ∀ r, pBt (pTs ord cf vf r) := by
  intro r
  induction r with
  | zero => exact pBt_ch (Or.inl rfl) (pBt_ch (Or.inr rfl) (pBt_pl (fun g e => absurd e (by simp))))
  | succ r ih => exact pBt_ch (Or.inl rfl) (pBt_ch (Or.inr rfl) (pBt_pl (fun g e => by cases Option.some.inj e; exact ih)))
def tCl (ord : Bool) (cf vf : Nat → Int) (T s e3 : Nat) (c : zCl) : Prop :=
  s < T ∧ cf s = c.1 + (if ord = true then 26 else 1) ∧ (0 ≤ c.1 ∧ c.1 < if ord = true then 3 else 5) ∧
    ∃ e1 e2 : Nat, (e1 ≤ T ∧ e2 ≤ T ∧ e3 ≤ T) ∧
      (hasSum ord c.1 → tDen (wp_X11_sumOf 60) ord cf vf T (s + 1) e1 c.2.1) ∧ (¬ hasSum ord c.1 → e1 = s + 1) ∧
      ((tcf cf T e1 = 29 ∧ ord = true ∧ e1 + 1 < T ∧ vf (e1 + 1) = c.2.2.2 ∧ e2 = e1 + 2) ∨ (¬ tcf cf T e1 = 29 ∧ e2 = e1 ∧ c.2.2.2 = 1)) ∧
      (c.2.2.1 = none → ¬ tcf cf T e2 = 6 ∧ e3 = e2) ∧ ∀ D, c.2.2.1 = some D → tcf cf T e2 = 6 ∧ tDen (wp_X11_testOf 60) ord cf vf T (e2 + 1) e3 D ∧ ∀ W v, D W = some v → v = 0 ∨ v = 1
theorem t_clause (hT : cf T = 0) (hT4 : T ≤ 400) (hv : ∀ k, 0 ≤ vf k ∧ vf k ≤ 10000009) {k lf : Nat} {q : Nat × Nat × zCl} (hk : k ≤ T) (hl : lf ≤ 50) (h : pCl ord cf vf k lf = .inr q) (he : q.1 = T ∨ cf q.1 = 159) : tCl ord cf vf T k q.1 q.2.2 ∧ q.1 ≤ T ∧ q.2.1 ≤ 50 := by
  unfold pCl at h
  have vv := vb_v ord (cf k)
  split at h
  · exact absurd h (by simp)
  · rename_i nv
    have vv2 := vv.resolve_left nv
    have k1T : k + 1 ≤ T := by
      by_cases e : k = T
      · rw [e, hT] at nv; exact absurd (by cases ord <;> rfl) nv
      · omega
    generalize eV : vbI ord (cf k) = v at *
    split at h
    · exact absurd h (by simp)
    · rename_i q1 e1
      have hd : k + 1 ≤ q1.1 ∧ q1.1 ≤ T ∧ q1.2.1 ≤ 50 ∧ (hasSum ord v → tDen (wp_X11_sumOf 60) ord cf vf T (k + 1) q1.1 q1.2.2) ∧ (¬ hasSum ord v → q1.1 = k + 1) := by
        unfold pHd at e1
        have ih : (v < (if ord = true then 2 else 4) ↔ hasSum ord v) := by unfold hasSum; cases ord <;> exact Iff.rfl
        by_cases c : v < (if ord = true then 2 else 4)
        · rw [if_pos c] at e1
          have po := pOk_sm (ord := ord) (vf := vf) hT 8 (k + 1) lf q1 k1T e1
          exact ⟨by omega, po.2.1, po.2.2.2, fun _ => tDen_of (e_sums hT hT4 hv 8 60 (by decide) (k + 1) lf q1 (by omega) k1T e1), fun w => absurd (ih.mp c) w⟩
        · rw [if_neg c] at e1
          cases Sum.inr.inj e1
          exact ⟨Nat.le_refl _, k1T, hl, fun w => absurd (ih.mpr w) c, fun _ => rfl⟩
      split at h
      · exact absurd h (by simp)
      · rename_i t e2
        split at h
        · exact absurd h (by simp)
        · rename_i g e3
          cases Sum.inr.inj h
          have tm : q1.1 ≤ t.1 ∧ t.1 ≤ T ∧ ((cf q1.1 = 29 ∧ ord = true ∧ q1.1 + 1 < T ∧ vf (q1.1 + 1) = t.2 ∧ t.1 = q1.1 + 2) ∨ (¬ (ord = true ∧ cf q1.1 = 29) ∧ t.1 = q1.1 ∧ t.2 = 1)) := by
            unfold pTm at e2
            split at e2
            · rename_i c
              split at e2
              · rename_i c2
                cases Sum.inr.inj e2
                have a := cf_lt hT hd.2.1 c.2 (by decide)
                have b := cf_lt hT a c2.1 (by decide)
                exact ⟨by show q1.1 ≤ q1.1 + 2; omega, b, Or.inl ⟨c.2, c.1, by omega, rfl, rfl⟩⟩
              · exact absurd e2 (by simp)
            · rename_i c
              cases Sum.inr.inj e2
              exact ⟨Nat.le_refl _, hd.2.1, Or.inr ⟨c, rfl, rfl⟩⟩
          have te : ∀ i, i ≤ T → tcf cf T i = cf i := fun i hi => tcf_e hT hi
          have fi : t.1 ≤ g.1 ∧ g.1 ≤ T ∧ g.2.1 ≤ 50 ∧ (g.2.2 = none → ¬ cf t.1 = 6 ∧ g.1 = t.1) ∧ ∀ D, g.2.2 = some D → cf t.1 = 6 ∧ tDen (wp_X11_testOf 60) ord cf vf T (t.1 + 1) g.1 D ∧ ∀ W v, D W = some v → v = 0 ∨ v = 1 := by
            unfold pIf at e3
            split at e3
            · rename_i c
              have t1T := cf_lt hT tm.2.1 c (by decide)
              split at e3
              · exact absurd e3 (by simp)
              · rename_i w ew
                cases Sum.inr.inj e3
                have po := pOk_ts (ord := ord) (vf := vf) hT 8 (t.1 + 1) q1.2.1 w t1T ew
                refine ⟨by show t.1 ≤ w.1; omega, po.2.1, po.2.2.2, fun q => absurd q (by simp), fun D hD => ?_⟩
                cases Option.some.inj hD
                exact ⟨c, tDen_of (e_tests hT hT4 hv 8 60 (by decide) (by decide) (t.1 + 1) q1.2.1 w (by omega) t1T ew), fun W v hv => pBt_ts 8 _ _ w ew W v hv⟩
            · rename_i c
              cases Sum.inr.inj e3
              exact ⟨Nat.le_refl _, tm.2.1, hd.2.2.1, fun _ => ⟨c, rfl⟩, fun D hD => absurd hD (by simp)⟩
          have n29 : ¬ (ord = true ∧ cf q1.1 = 29) → t.1 = q1.1 → ¬ cf q1.1 = 29 := by
            intro _ et c
            cases eg : g.2.2 with
            | none =>
              have a := (fi.2.2.2.1 eg).2
              have he' : g.1 = T ∨ cf g.1 = 159 := he
              rw [a, et] at he'
              rcases he' with w | w
              · rw [w, hT] at c; exact absurd c (by decide)
              · rw [c] at w; exact absurd w (by decide)
            | some D =>
              have a := (fi.2.2.2.2 D eg).1
              rw [et, c] at a
              exact absurd a (by decide)
          refine ⟨⟨by omega, vv2.2.2, ⟨vv2.1, vv2.2.1⟩, q1.1, t.1, ⟨hd.2.1, tm.2.1, fi.2.1⟩, hd.2.2.2.1, hd.2.2.2.2, ?_, fun w => ?_, fun D hD => ?_⟩, fi.2.1, fi.2.2.1⟩
          · rw [te _ hd.2.1]
            rcases tm.2.2 with w | w
            · exact Or.inl w
            · exact Or.inr ⟨n29 w.1 w.2.1, w.2⟩
          · rw [te _ tm.2.1]; exact fi.2.2.2.1 w
          · rw [te _ tm.2.1]; exact fi.2.2.2.2 D hD
theorem t_text (hT : cf T = 0) (hT4 : T ≤ 400) (hv : ∀ k, 0 ≤ vf k ∧ vf k ≤ 10000009) : ∀ (m k lf : Nat) (l : List zCl), k ≤ T → lf ≤ 50 → pTx ord cf vf T m k lf = .inr l → ∃ ts : Nat → Nat, ts 0 = k ∧ T + 1 = ts l.length ∧ ∀ j, j < l.length → ∃ e3, ts (j + 1) = e3 + 1 ∧ tCl ord cf vf T (ts j) e3 (l.getD j zC0) := by
  intro m
  induction m with
  | zero => intro k lf l _ _ h; exact absurd h (by simp [pTx])
  | succ m ih =>
    intro k lf l hk hl h
    unfold pTx at h
    split at h
    · exact absurd h (by simp)
    · rename_i q e1
      split at h
      · rename_i eT
        cases Sum.inr.inj h
        have c := t_clause hT hT4 hv hk hl e1 (Or.inl eT)
        refine ⟨fun j => if j = 0 then k else T + 1, rfl, rfl, fun j hj => ?_⟩
        have j0 : j = 0 := by simp at hj; exact hj
        subst j0
        exact ⟨T, rfl, by rw [eT] at c; exact c.1⟩
      · split at h
        · rename_i e59
          have c := t_clause hT hT4 hv hk hl e1 (Or.inr e59)
          cases e2 : pTx ord cf vf T m (q.1 + 1) q.2.1 with
          | inl j => rw [e2] at h; exact absurd h (by simp [lnk])
          | inr l2 =>
            rw [e2] at h
            have h' : (Sum.inr (q.2.2 :: l2) : Nat ⊕ List zCl) = .inr l := h
            cases Sum.inr.inj h'
            obtain ⟨ts, t0, tl, tj⟩ := ih (q.1 + 1) q.2.1 l2 (cf_lt hT c.2.1 e59 (by decide)) c.2.2 e2
            refine ⟨fun j => if j = 0 then k else ts (j - 1), rfl, ?_, fun j hj => ?_⟩
            · show T + 1 = if (q.2.2 :: l2).length = 0 then k else ts ((q.2.2 :: l2).length - 1)
              rw [List.length_cons, if_neg (by omega)]
              exact tl
            · cases j with
              | zero => exact ⟨q.1, t0, c.1⟩
              | succ j =>
                rw [List.length_cons] at hj
                obtain ⟨e3, a, b⟩ := tj j (by omega)
                exact ⟨e3, a, b⟩
        · exact absurd h (by simp)
theorem t_mtx {l : List zCl} (hT : cf T = 0) (hT4 : T ≤ 400) (hv : ∀ k, 0 ≤ vf k ∧ vf k ≤ 10000009) (h : pTx ord cf vf T 12 0 0 = .inr l) : mTx ord cf vf T (txM l) := by
  obtain ⟨ts, t0, tl, tj⟩ := t_text hT hT4 hv 12 0 0 l (Nat.zero_le _) (by decide) h
  refine ⟨ts, t0, tl, fun j hj => ?_⟩
  obtain ⟨e3, a, b1, b2, b3, e1, e2, b4, b5, b6, b7, b8, b9⟩ := tj j hj
  exact ⟨b1, b2, b3, e1, e2, e3, b4, a, b5, b6, b7, b8, b9⟩
/-- only the tokens' own codes and values count -/
theorem tDen_cg {m : Int → st_S → (Int → st_S → Prop) → Prop} {cf' vf' : Nat → Int} {s e : Nat} {D : zDn} (hc : ∀ i, i < T → cf' i = cf i ∧ vf' i = vf i) (h : tDen m ord cf vf T s e D) : tDen m ord cf' vf' T s e D := fun σ base W lv Q he a b c hq => h σ base W lv Q ⟨he.1, he.2.1, fun i hi => by rw [← (hc i hi).1, ← (hc i hi).2]; exact he.2.2.1 i hi, he.2.2.2⟩ a b c hq
theorem mTx_cg {cf' vf' : Nat → Int} {M : zM} (hc : ∀ i, i < T → cf' i = cf i ∧ vf' i = vf i) (h : mTx ord cf vf T M) : mTx ord cf' vf' T M := by
  obtain ⟨ts, t0, tl, tj⟩ := h
  have et : ∀ i, tcf cf' T i = tcf cf T i := fun i => by
    unfold tcf
    by_cases c : i < T
    · rw [if_pos c, if_pos c, (hc i c).1]
    · rw [if_neg c, if_neg c]
  refine ⟨ts, t0, tl, fun j hj => ?_⟩
  obtain ⟨b1, b2, b3, e1, e2, e3, b4, a, b5, b6, b7, b8, b9⟩ := tj j hj
  refine ⟨b1, by rw [(hc _ b1).1]; exact b2, b3, e1, e2, e3, b4, a, fun w => tDen_cg hc (b5 w), b6, ?_, ?_, ?_⟩
  · rw [et]
    rcases b7 with w | w
    · exact Or.inl ⟨w.1, w.2.1, w.2.2.1, by rw [(hc _ w.2.2.1).2]; exact w.2.2.2.1, w.2.2.2.2⟩
    · exact Or.inr w
  · rw [et]; exact b8
  · intro D hD
    rw [et]
    exact ⟨(b9 D hD).1, tDen_cg hc (b9 D hD).2.1, (b9 D hD).2.2⟩
end
