/-! ===== pure rows 44: least tables, in general ===== -/
/-- an operator on tables of N entries: it grows with the table, its values are steps, and below the cap it depends on smaller entries alone -/
def okOp (N : Nat) (F : (Nat → Nat) → Nat → Nat) : Prop := (∀ x j, vl (F x j)) ∧ (∀ x y : Nat → Nat, (∀ i, i < N → x i ≤ y i) → ∀ j, j < N → F x j ≤ F y j) ∧ ∀ (D x : Nat → Nat) j, j < N → F D j < 1000000 → (∀ i, i < N → D i < F D j → x i = D i) → F x j ≤ F D j
/-- the greatest table below y0 that the operator passes nowhere -/
def isL (N : Nat) (F : (Nat → Nat) → Nat → Nat) (y0 D : Nat → Nat) : Prop := (∀ j, j < N → vl (D j)) ∧ (∀ j, j < N → D j ≤ y0 j) ∧ (∀ j, j < N → D j ≤ F D j) ∧ (∀ j, j < N → D j < y0 j → F D j ≤ D j) ∧ ∀ y : Nat → Nat, (∀ j, j < N → y j ≤ y0 j) → (∀ j, j < N → y j ≤ F y j) → ∀ j, j < N → y j ≤ D j
theorem ex_L_from {N : Nat} {F : (Nat → Nat) → Nat → Nat} (hF : okOp N F) {y0 : Nat → Nat} : ∀ (m : Nat) (x : Nat → Nat), sumN x N < m → (∀ j, j < N → vl (x j)) → (∀ j, j < N → x j ≤ y0 j) → (∀ j, j < N → x j < y0 j → F x j ≤ x j) → (∀ y : Nat → Nat, (∀ j, j < N → y j ≤ y0 j) → (∀ j, j < N → y j ≤ F y j) → ∀ j, j < N → y j ≤ x j) → ∃ D, isL N F y0 D := by
  intro m
  induction m with
  | zero => intro x h; omega
  | succ m ih =>
    intro x hm hv hle hs hy
    by_cases hcl : ∀ j, j < N → x j ≤ F x j
    · exact ⟨x, hv, hle, hcl, hs, hy⟩
    · have hlow : ∃ j, j < N ∧ F x j < x j := by
        apply Classical.byContradiction
        intro hn
        exact hcl (fun j hj => Nat.not_lt.mp (fun z => hn ⟨j, hj, z⟩))
      have le2 : ∀ j, j < N → min (x j) (F x j) ≤ x j := fun j _ => Nat.min_le_left _ _
      have mono := hF.2.1 (fun j => min (x j) (F x j)) x le2
      refine ih (fun j => min (x j) (F x j)) ?_ (fun j hj => ?_) (fun j hj => Nat.le_trans (le2 j hj) (hle j hj)) (fun j hj hlt => ?_) (fun y h1 h2 j hj => ?_)
      · obtain ⟨j, h1, h2⟩ := hlow
        have := sumN_lt (f := fun j => min (x j) (F x j)) (g := x) N le2 ⟨j, h1, Nat.lt_of_le_of_lt (Nat.min_le_right _ _) h2⟩
        omega
      · show vl (min (x j) (F x j))
        rcases Nat.le_total (x j) (F x j) with h | h
        · rw [Nat.min_eq_left h]; exact hv j hj
        · rw [Nat.min_eq_right h]; exact hF.1 x j
      · show F (fun j => min (x j) (F x j)) j ≤ min (x j) (F x j)
        have hlt' : min (x j) (F x j) < y0 j := hlt
        rcases Nat.le_total (x j) (F x j) with h | h
        · rw [Nat.min_eq_left h] at hlt' ⊢
          exact Nat.le_trans (mono j hj) (hs j hj hlt')
        · rw [Nat.min_eq_right h]
          exact mono j hj
      · have hyx := hy y h1 h2
        exact Nat.le_min.mpr ⟨hyx j hj, Nat.le_trans (h2 j hj) (hF.2.1 y x hyx j hj)⟩
theorem ex_L {N : Nat} {F : (Nat → Nat) → Nat → Nat} (hF : okOp N F) {y0 : Nat → Nat} (hv : ∀ j, j < N → vl (y0 j)) : ∃ D, isL N F y0 D :=
  ex_L_from hF (sumN y0 N + 1) y0 (by omega) hv (fun _ _ => Nat.le_refl _) (fun _ _ h => absurd h (Nat.lt_irrefl _)) (fun _ h _ => h)
theorem isL_eq {N : Nat} {F : (Nat → Nat) → Nat → Nat} {y0 D D2 : Nat → Nat} (h : isL N F y0 D) (h1 : ∀ j, j < N → D2 j ≤ y0 j) (h2 : ∀ j, j < N → D2 j ≤ F D2 j) (h3 : ∀ j, j < N → D j ≤ D2 j) : ∀ j, j < N → D2 j = D j :=
  fun j hj => Nat.le_antisymm (h.2.2.2.2 D2 h1 h2 j hj) (h3 j hj)
/-- a round that lowers settles one more entry -/
theorem growL {N : Nat} {F : (Nat → Nat) → Nat → Nat} (hF : okOp N F) {y0 D x x2 : Nat → Nat} (hD : isL N F y0 D) (vx : ∀ j, j < N → vl (x j)) (v2 : ∀ j, j < N → vl (x2 j)) (h1 : ∀ j, j < N → D j ≤ x2 j) (h2 : ∀ j, j < N → x2 j ≤ x j) (h3 : ∀ j, j < N → x j ≤ y0 j) (hp : ∀ j, j < N → x2 j ≤ F x j) (hl : ∃ j, j < N ∧ x2 j < x j) : ∃ j, j < N ∧ ¬ x j = D j ∧ x2 j = D j := by
  obtain ⟨j0, k1, k2⟩ := hl
  obtain ⟨v, ⟨j, hj, hv, hlt⟩, hmin⟩ := pk_least (fun v => ∃ j, j < N ∧ D j = v ∧ D j < x j) ⟨D j0, j0, k1, rfl, Nat.lt_of_le_of_lt (h1 j0 k1) k2⟩
  have small : ∀ i, i < N → D i < v → x i = D i := by
    intro i hi hd
    exact Nat.le_antisymm (Nat.not_lt.mp (fun h => hmin (D i) hd ⟨i, hi, rfl, h⟩)) (Nat.le_trans (h1 i hi) (h2 i hi))
  by_cases hM : D j < 1000000
  · refine ⟨j, hj, fun h => by omega, Nat.le_antisymm ?_ (h1 j hj)⟩
    have e1 : F D j = D j := Nat.le_antisymm (hD.2.2.2.1 j hj (Nat.lt_of_lt_of_le hlt (h3 j hj))) (hD.2.2.1 j hj)
    have := hF.2.2 D x j hj (by rw [e1]; exact hM) (fun i hi hd => small i hi (by rw [e1, hv] at hd; exact hd))
    rw [e1] at this
    exact Nat.le_trans (hp j hj) this
  · have hD0 : ¬ D j0 < v := fun h => by have := small j0 k1 h; have := h1 j0 k1; omega
    have a1 := h1 j0 k1
    have a2 := vx j0 k1
    have a3 := v2 j0 k1
    unfold vl at a2 a3
    exact ⟨j0, k1, fun h => by omega, by omega⟩
def cntN (N : Nat) (D x : Nat → Nat) : Nat := sumN (fun j => if x j = D j then 1 else 0) N
theorem cntN_le (N : Nat) (D x : Nat → Nat) : cntN N D x ≤ N := sumN_bd N (fun j _ => by by_cases h : x j = D j <;> simp [h])
theorem cntN_lt {N : Nat} {D x x2 : Nat → Nat} (h1 : ∀ j, j < N → D j ≤ x2 j) (h2 : ∀ j, j < N → x2 j ≤ x j) (h : ∃ j, j < N ∧ ¬ x j = D j ∧ x2 j = D j) : cntN N D x < cntN N D x2 := by
  refine sumN_lt N (fun j hj => ?_) ?_
  · by_cases e : x j = D j
    · have e2 : x2 j = D j := by have := h1 j hj; have := h2 j hj; omega
      simp [e, e2]
    · simp [e]
  · obtain ⟨j, hj, e, e2⟩ := h
    exact ⟨j, hj, by simp [e, e2]⟩
/-! the steps of a program: its operator -/
def rI (s st col : Nat) : Nat := (s * 32 + st) * 9 + col
theorem rI_lt {S s st col : Nat} (hs : s < S) (hst : st < 32) (hcol : col < 9) : rI s st col < 288 * S := by unfold rI; omega
theorem rI_inv {s st col : Nat} (hst : st < 32) (hcol : col < 9) : rI s st col / 288 = s ∧ rI s st col / 9 % 32 = st ∧ rI s st col % 9 = col := by unfold rI; omega
theorem rI_at (j : Nat) : rI (j / 288) (j / 9 % 32) (j % 9) = j := by unfold rI; omega
def tgt (x : Nat → Nat) (p st col : Nat) : Nat := if p < 40 then x (rI p st col) else if p = 40 then (if col = st % 8 then 0 else 536870912) else if p = 41 then (if col = 8 then 0 else 536870912) else 536870912
def der (G : Nat → Nat → Nat → Nat) (x : Nat → Nat) (s st col : Nat) : Nat :=
  if G 0 s 0 = 3 then sm 1 (min (if col = 8 then tgt x (G 5 (G 2 s 0) 0) (st % 8) 8 else 536870912) (minN (fun m => sm (tgt x (G 5 (G 2 s 0) 0) (st % 8) m) (tgt x (G 4 s 1) (m + 8 * (st / 8)) col)) 8))
  else sm 1 (minN (fun v => if cn G s v st then tgt x (G 4 s v) (sa G s v st) col else 536870912) 2)
/-- the operator on the rows that act names -/
def opA (G : Nat → Nat → Nat → Nat) (act : Nat → Nat → Bool) (x : Nat → Nat) (j : Nat) : Nat := if act (j / 288) (j / 9 % 32) then der G x (j / 288) (j / 9 % 32) (j % 9) else 536870912
theorem tgt_mono {S : Nat} {x y : Nat → Nat} (h : ∀ i, i < 288 * S → x i ≤ y i) {p st col : Nat} (hp : p < 40 → p < S) (hst : st < 32) (hcol : col < 9) : tgt x p st col ≤ tgt y p st col := by
  unfold tgt
  by_cases h1 : p < 40
  · rw [if_pos h1, if_pos h1]; exact h _ (rI_lt (hp h1) hst hcol)
  · rw [if_neg h1, if_neg h1]; exact Nat.le_refl _
theorem tgt_loc {S : Nat} {D x : Nat → Nat} {v : Nat} (h : ∀ i, i < 288 * S → D i < v → x i = D i) {p st col : Nat} (hp : p < 40 → p < S) (hst : st < 32) (hcol : col < 9) (hv : tgt D p st col < v) : tgt x p st col = tgt D p st col := by
  unfold tgt at *
  by_cases h1 : p < 40
  · rw [if_pos h1] at hv ⊢; rw [if_pos h1]; exact h _ (rI_lt (hp h1) hst hcol) hv
  · rw [if_neg h1, if_neg h1]
theorem en_ok {G : Nat → Nat → Nat → Nat} (h : okPg G) {s : Nat} (hs : s < G 7 0 0) (h3 : G 0 s 0 = 3) : G 5 (G 2 s 0) 0 < 40 → G 5 (G 2 s 0) 0 < G 7 0 0 := by
  intro z
  rcases h.2.2.2.1 _ ((h.2.2.2.2 s hs).2.2.1 h3) with e | e
  · omega
  · exact e.1
theorem der_vl {G : Nat → Nat → Nat → Nat} {x : Nat → Nat} {s st col : Nat} : vl (der G x s st col) := by
  unfold der
  by_cases h : G 0 s 0 = 3
  · rw [if_pos h]; exact sm_vl
  · rw [if_neg h]; exact sm_vl
theorem der_mono {G : Nat → Nat → Nat → Nat} (h : okPg G) {x y : Nat → Nat} (hxy : ∀ i, i < 288 * G 7 0 0 → x i ≤ y i) {s st col : Nat} (hs : s < G 7 0 0) (hst : st < 32) (hcol : col < 9) : der G x s st col ≤ der G y s st col := by
  obtain ⟨k0, k1, k2, k3, k4, k5⟩ := h.2.2.2.2 s hs
  unfold der
  by_cases h3 : G 0 s 0 = 3
  · rw [if_pos h3, if_pos h3]
    have he := en_ok h hs h3
    have hn : G 4 s 1 < 40 → G 4 s 1 < G 7 0 0 := fun z => ((k5 1 (by decide)).2.1 z).1
    refine sm_mono (Nat.le_refl _) (Nat.le_min.mpr ⟨Nat.le_trans (Nat.min_le_left _ _) ?_, Nat.le_trans (Nat.min_le_right _ _) (minN_mono 8 (fun m hm => sm_mono ?_ ?_))⟩)
    · by_cases h8 : col = 8
      · rw [if_pos h8, if_pos h8]; exact tgt_mono hxy he (by omega) (by decide)
      · rw [if_neg h8, if_neg h8]; exact Nat.le_refl _
    · exact tgt_mono hxy he (by omega) (by omega)
    · exact tgt_mono hxy hn (by omega) hcol
  · rw [if_neg h3, if_neg h3]
    refine sm_mono (Nat.le_refl _) (minN_mono 2 (fun v hv => ?_))
    by_cases hc : cn G s v st = true
    · rw [if_pos hc, if_pos hc]
      exact tgt_mono hxy (fun z => ((k5 v hv).2.1 z).1) (sa_lt k1 hst) hcol
    · rw [if_neg hc, if_neg hc]; exact Nat.le_refl _
theorem der_loc {G : Nat → Nat → Nat → Nat} (h : okPg G) {D x : Nat → Nat} {s st col : Nat} (hs : s < G 7 0 0) (hst : st < 32) (hcol : col < 9) (hM : der G D s st col < 1000000) (hx : ∀ i, i < 288 * G 7 0 0 → D i < der G D s st col → x i = D i) : der G x s st col ≤ der G D s st col := by
  obtain ⟨k0, k1, k2, k3, k4, k5⟩ := h.2.2.2.2 s hs
  have one : ∀ z : Nat, sm 1 z < 1000000 → z < 536870912 ∧ sm 1 z = z + 1 := by
    intro z hz
    obtain ⟨a1, a2, a3⟩ := sm_lt (Nat.lt_of_lt_of_le hz (by decide))
    refine ⟨a2, ?_⟩
    rw [a3] at hz ⊢
    rcases Nat.le_total (1 + z) 1000000 with q | q
    · rw [Nat.min_eq_left q]; omega
    · rw [Nat.min_eq_right q] at hz; omega
  generalize hV : der G D s st col = V at hM hx ⊢
  unfold der at hV ⊢
  by_cases h3 : G 0 s 0 = 3
  · rw [if_pos h3] at hV ⊢
    have he := en_ok h hs h3
    have hn : G 4 s 1 < 40 → G 4 s 1 < G 7 0 0 := fun z => ((k5 1 (by decide)).2.1 z).1
    obtain ⟨o1, o2⟩ := one _ (by rw [hV]; exact hM)
    rw [o2] at hV
    have key : min (if col = 8 then tgt x (G 5 (G 2 s 0) 0) (st % 8) 8 else 536870912) (minN (fun m => sm (tgt x (G 5 (G 2 s 0) 0) (st % 8) m) (tgt x (G 4 s 1) (m + 8 * (st / 8)) col)) 8) ≤ V - 1 := by
      rcases Nat.le_total (if col = 8 then tgt D (G 5 (G 2 s 0) 0) (st % 8) 8 else 536870912) (minN (fun m => sm (tgt D (G 5 (G 2 s 0) 0) (st % 8) m) (tgt D (G 4 s 1) (m + 8 * (st / 8)) col)) 8) with q | q
      · rw [Nat.min_eq_left q] at hV o1
        refine Nat.le_trans (Nat.min_le_left _ _) ?_
        by_cases h8 : col = 8
        · rw [if_pos h8] at hV o1 ⊢
          rw [tgt_loc hx he (by omega) (by decide) (by omega)]
          omega
        · rw [if_neg h8] at o1; omega
      · rw [Nat.min_eq_right q] at hV o1
        refine Nat.le_trans (Nat.min_le_right _ _) ?_
        rcases minN_at (f := fun m => sm (tgt D (G 5 (G 2 s 0) 0) (st % 8) m) (tgt D (G 4 s 1) (m + 8 * (st / 8)) col)) 8 with e | ⟨m, hm, e⟩
        · omega
        · rw [e] at hV o1
          obtain ⟨b1, b2, b3⟩ := sm_lt o1
          refine Nat.le_trans (minN_le (f := fun m => sm (tgt x (G 5 (G 2 s 0) 0) (st % 8) m) (tgt x (G 4 s 1) (m + 8 * (st / 8)) col)) 8 m hm) ?_
          have hsum : tgt D (G 5 (G 2 s 0) 0) (st % 8) m + tgt D (G 4 s 1) (m + 8 * (st / 8)) col = V - 1 := by
            rw [b3] at hV
            rcases Nat.le_total (tgt D (G 5 (G 2 s 0) 0) (st % 8) m + tgt D (G 4 s 1) (m + 8 * (st / 8)) col) 1000000 with z | z
            · rw [Nat.min_eq_left z] at hV; omega
            · rw [Nat.min_eq_right z] at hV; omega
          rw [tgt_loc hx he (by omega) (by omega) (by omega), tgt_loc hx hn (by omega) hcol (by omega), b3]
          exact Nat.le_trans (Nat.min_le_left _ _) (by omega)
    rw [sm_fin (by decide) (by omega)]
    exact Nat.le_trans (Nat.min_le_left _ _) (by omega)
  · rw [if_neg h3] at hV ⊢
    obtain ⟨o1, o2⟩ := one _ (by rw [hV]; exact hM)
    rw [o2] at hV
    rcases minN_at (f := fun v => if cn G s v st then tgt D (G 4 s v) (sa G s v st) col else 536870912) 2 with e | ⟨v, hv, e⟩
    · omega
    · have key : minN (fun v => if cn G s v st then tgt x (G 4 s v) (sa G s v st) col else 536870912) 2 ≤ V - 1 := by
        refine Nat.le_trans (minN_le (f := fun v => if cn G s v st then tgt x (G 4 s v) (sa G s v st) col else 536870912) 2 v hv) ?_
        rw [e] at hV o1
        by_cases hc : cn G s v st = true
        · rw [if_pos hc] at hV o1
          show (if cn G s v st then tgt x (G 4 s v) (sa G s v st) col else 536870912) ≤ _
          rw [if_pos hc, tgt_loc hx (fun z => ((k5 v hv).2.1 z).1) (sa_lt k1 hst) hcol (by omega)]
          omega
        · rw [if_neg hc] at o1; omega
      rw [sm_fin (by decide) (by omega)]
      exact Nat.le_trans (Nat.min_le_left _ _) (by omega)
theorem opA_ok {G : Nat → Nat → Nat → Nat} (h : okPg G) (act : Nat → Nat → Bool) : okOp (288 * G 7 0 0) (opA G act) := by
  refine ⟨fun x j => ?_, fun x y hxy j hj => ?_, fun D x j hj hM hx => ?_⟩
  · unfold opA
    by_cases ha : act (j / 288) (j / 9 % 32) = true
    · rw [if_pos ha]; exact der_vl
    · rw [if_neg ha]; exact Or.inr rfl
  · unfold opA
    by_cases ha : act (j / 288) (j / 9 % 32) = true
    · rw [if_pos ha, if_pos ha]; exact der_mono h hxy (by omega) (by omega) (by omega)
    · rw [if_neg ha, if_neg ha]; exact Nat.le_refl _
  · unfold opA at hM hx ⊢
    by_cases ha : act (j / 288) (j / 9 % 32) = true
    · rw [if_pos ha] at hM hx ⊢; rw [if_pos ha]
      exact der_loc h (by omega) (by omega) (by omega) hM hx
    · rw [if_neg ha] at hM; omega
