/-! ===== pure rows 56: how far it is with open calls ===== -/
theorem le_minN {f : Nat → Nat} {c : Nat} : ∀ n, c ≤ minN f n ↔ c ≤ 536870912 ∧ ∀ i, i < n → c ≤ f i := by
  intro n
  induction n with
  | zero => exact ⟨fun h => ⟨h, fun i hi => absurd hi (by omega)⟩, fun h => h.1⟩
  | succ n ih =>
    rw [minN_s, Nat.le_min, ih]
    constructor
    · rintro ⟨⟨h1, h2⟩, h3⟩
      refine ⟨h1, fun i hi => ?_⟩
      by_cases e : i = n
      · subst e; exact h3
      · exact h2 i (by omega)
    · rintro ⟨h1, h2⟩
      exact ⟨⟨h1, fun i hi => h2 i (by omega)⟩, h2 n (by omega)⟩
theorem sm_infr (a : Nat) : sm a 536870912 = 536870912 := by unfold sm; rw [if_neg (by omega)]
theorem sm_infl (a : Nat) : sm 536870912 a = 536870912 := by unfold sm; rw [if_neg (by omega)]
theorem sm_minr (a b d : Nat) : sm a (min b d) = min (sm a b) (sm a d) := by
  rcases Nat.le_total b d with h | h
  · rw [Nat.min_eq_left h, Nat.min_eq_left (sm_mono (Nat.le_refl _) h)]
  · rw [Nat.min_eq_right h, Nat.min_eq_right (sm_mono (Nat.le_refl _) h)]
theorem sm_minNr (a : Nat) {f : Nat → Nat} : ∀ n, sm a (minN f n) = minN (fun i => sm a (f i)) n := by
  intro n
  induction n with
  | zero => exact sm_infr a
  | succ n ih => rw [minN_s, minN_s, sm_minr, ih]
theorem mm5 (a b c M : Nat) : min (min (a + b) M + c) M = min (a + min (b + c) M) M := by omega
theorem sm_assoc (a b c : Nat) : sm (sm a b) c = sm a (sm b c) := by
  by_cases ha : a < 536870912
  · by_cases hb : b < 536870912
    · by_cases hc : c < 536870912
      · rw [sm_fin ha hb, sm_fin hb hc, sm_fin (min_inf _) hc, sm_fin ha (min_inf _)]
        exact mm5 _ _ _ _
      · have e1 : sm b c = 536870912 := by unfold sm; rw [if_neg (fun q => hc q.2)]
        have e2 : sm (sm a b) c = 536870912 := by
          have : ¬ (sm a b < 536870912 ∧ c < 536870912) := fun q => hc q.2
          show (if sm a b < 536870912 ∧ c < 536870912 then _ else _) = _
          rw [if_neg this]
        rw [e1, e2, sm_infr]
    · have e1 : sm a b = 536870912 := by unfold sm; rw [if_neg (fun q => hb q.2)]
      have e2 : sm b c = 536870912 := by unfold sm; rw [if_neg (fun q => hb q.1)]
      rw [e1, e2, sm_infl, sm_infr]
  · have e1 : sm a b = 536870912 := by unfold sm; rw [if_neg (fun q => ha q.1)]
    have e2 : sm a (sm b c) = 536870912 := by
      show (if a < 536870912 ∧ sm b c < 536870912 then _ else _) = _
      rw [if_neg (fun q => ha q.1)]
    rw [e1, e2, sm_infl]
/-- how far it is to fail from a point, with what lies below -/
def VP (x W : Nat → Nat) (p st : Nat) : Nat := min (tgt x p st 8) (minN (fun m => sm (tgt x p st m) (W m)) 8)
theorem eq_le {a b : Nat} (h : ∀ c, c ≤ a ↔ c ≤ b) : a = b := Nat.le_antisymm ((h a).mp (Nat.le_refl _)) ((h b).mpr (Nat.le_refl _))
theorem V_step {G : Nat → Nat → Nat → Nat} (h : okPg G) {x W : Nat → Nat} (hx : ∀ j, j < 288 * G 7 0 0 → vl (x j)) {s st : Nat} (hs : s < G 7 0 0) (hst : st < 32) (h3 : ¬ G 0 s 0 = 3) (hfix : ∀ col, col < 9 → x (rI s st col) = der G x s st col) :
    VP x W s st = sm 1 (min (if cn G s 0 st then VP x W (G 4 s 0) (sa G s 0 st) else 536870912) (if cn G s 1 st then VP x W (G 4 s 1) (sa G s 1 st) else 536870912)) := by
  have hS := h.1
  have h40 : s < 40 := by omega
  have g : ∀ v col, fV G x s st col v = if cn G s v st then tgt x (G 4 s v) (sa G s v st) col else 536870912 := fun v col => rfl
  have col : ∀ col, col < 9 → tgt x s st col = sm 1 (min (fV G x s st col 0) (fV G x s st col 1)) := fun col hc => by rw [tgt_lt h40, hfix col hc, der_step h hx hs hst hc h3]
  -- a value's share
  have shr : ∀ v, (if cn G s v st then VP x W (G 4 s v) (sa G s v st) else 536870912) = min (fV G x s st 8 v) (minN (fun m => sm (fV G x s st m v) (W m)) 8) := by
    intro v
    by_cases hc : cn G s v st = true
    · have e : ∀ col, fV G x s st col v = tgt x (G 4 s v) (sa G s v st) col := fun col => by unfold fV; rw [if_pos hc]
      rw [if_pos hc, e 8, minN_congr 8 (f := fun m => sm (fV G x s st m v) (W m)) (g := fun m => sm (tgt x (G 4 s v) (sa G s v st) m) (W m)) (fun m _ => by rw [e m])]
      rfl
    · rw [if_neg hc]
      unfold fV
      rw [if_neg hc]
      apply Nat.le_antisymm
      · refine Nat.le_min.mpr ⟨Nat.le_refl _, (le_minN 8).mpr ⟨Nat.le_refl _, fun i hi => ?_⟩⟩
        show _ ≤ sm (if cn G s v st then tgt x (G 4 s v) (sa G s v st) i else 536870912) (W i)
        rw [if_neg hc, sm_infl]; exact Nat.le_refl _
      · exact Nat.min_le_left _ _
  rw [shr 0, shr 1]
  unfold VP
  rw [col 8 (by decide)]
  apply eq_le
  intro c
  have e1 : ∀ m, m < 8 → sm (tgt x s st m) (W m) = min (sm 1 (sm (fV G x s st m 0) (W m))) (sm 1 (sm (fV G x s st m 1) (W m))) := fun m hm => by
    rw [col m (by omega), sm_assoc, smc (b := W m), sm_minr, sm_minr, smc (a := W m) (b := fV G x s st m 0), smc (a := W m) (b := fV G x s st m 1)]
  rw [sm_minr, sm_minr, sm_minr, sm_minr, sm_minNr, sm_minNr]
  rw [Nat.le_min, Nat.le_min, le_minN, Nat.le_min, Nat.le_min, le_minN, Nat.le_min, le_minN]
  constructor
  · rintro ⟨⟨a1, a2⟩, a3, a4⟩
    refine ⟨⟨a1, a3, fun i hi => ?_⟩, a2, a3, fun i hi => ?_⟩
    · have w := a4 i hi
      rw [e1 i hi, Nat.le_min] at w
      exact w.1
    · have w := a4 i hi
      rw [e1 i hi, Nat.le_min] at w
      exact w.2
  · rintro ⟨⟨a1, a3, a4⟩, a2, -, a5⟩
    refine ⟨⟨a1, a2⟩, a3, fun i hi => ?_⟩
    rw [e1 i hi]
    exact Nat.le_min.mpr ⟨a4 i hi, a5 i hi⟩
theorem V_call {G : Nat → Nat → Nat → Nat} (h : okPg G) {x W : Nat → Nat} {s st : Nat} (hs : s < G 7 0 0) (h3 : G 0 s 0 = 3) (hfix : ∀ col, col < 9 → x (rI s st col) = der G x s st col) :
    VP x W s st = sm 1 (VP x (fun m => VP x W (G 4 s 1) (m + 8 * (st / 8))) (G 5 (G 2 s 0) 0) (st % 8)) := by
  have hS := h.1
  have h40 : s < 40 := by omega
  have c8 : tgt x s st 8 = sm 1 (min (tgt x (G 5 (G 2 s 0) 0) (st % 8) 8) (minN (fun m => sm (tgt x (G 5 (G 2 s 0) 0) (st % 8) m) (tgt x (G 4 s 1) (m + 8 * (st / 8)) 8)) 8)) := by rw [tgt_lt h40, hfix 8 (by decide), der_call h3, if_pos rfl]
  have cm : ∀ m, m < 8 → tgt x s st m = sm 1 (min 536870912 (minN (fun i => sm (tgt x (G 5 (G 2 s 0) 0) (st % 8) i) (tgt x (G 4 s 1) (i + 8 * (st / 8)) m)) 8)) := fun m hm => by rw [tgt_lt h40, hfix m (by omega), der_call h3, if_neg (by omega)]
  unfold VP
  rw [c8]
  apply eq_le
  intro c
  rw [sm_minr, sm_minr, sm_minNr, sm_minNr, Nat.le_min, Nat.le_min, le_minN, le_minN, Nat.le_min, le_minN]
  constructor
  · rintro ⟨⟨a1, a2, a3⟩, a4, a5⟩
    refine ⟨a1, a2, fun i hi => ?_⟩
    rw [sm_minr, sm_minr, Nat.le_min]
    refine ⟨a3 i hi, ?_⟩
    rw [sm_minNr, sm_minNr, le_minN]
    refine ⟨a2, fun m hm => ?_⟩
    have w := a5 m hm
    rw [cm m hm, sm_assoc, smc (b := W m), sm_minr, sm_infr, sm_minr, sm_infr, Nat.le_min, sm_minNr, sm_minNr, le_minN] at w
    have w2 := w.2.2 i hi
    rw [smc (a := W m), sm_assoc] at w2
    exact w2
  · rintro ⟨a1, a2, a3⟩
    have e : ∀ i, i < 8 → c ≤ sm 1 (sm (tgt x (G 5 (G 2 s 0) 0) (st % 8) i) (tgt x (G 4 s 1) (i + 8 * (st / 8)) 8)) ∧ ∀ m, m < 8 → c ≤ sm 1 (sm (tgt x (G 5 (G 2 s 0) 0) (st % 8) i) (sm (tgt x (G 4 s 1) (i + 8 * (st / 8)) m) (W m))) := by
      intro i hi
      have w := a3 i hi
      rw [sm_minr, sm_minr, Nat.le_min] at w
      refine ⟨w.1, fun m hm => ?_⟩
      have w2 := w.2
      rw [sm_minNr, sm_minNr, le_minN] at w2
      exact w2.2 m hm
    refine ⟨⟨a1, a2, fun i hi => (e i hi).1⟩, a2, fun m hm => ?_⟩
    rw [cm m hm, sm_assoc, smc (b := W m), sm_minr, sm_infr, sm_minr, sm_infr, Nat.le_min, sm_minNr, sm_minNr, le_minN]
    refine ⟨a2, a2, fun i hi => ?_⟩
    rw [smc (a := W m), sm_assoc]
    exact (e i hi).2 m hm
theorem isL_fix {N : Nat} {F : (Nat → Nat) → Nat → Nat} (hF : okOp N F) {D : Nat → Nat} (h : isL N F (fun _ => 536870912) D) {j : Nat} (hj : j < N) : D j = F D j := by
  apply Nat.le_antisymm (h.2.2.1 j hj)
  by_cases q : D j < 536870912
  · exact h.2.2.2.1 j hj q
  · have := vl_lt (hF.1 D j)
    omega
theorem VP_40 {x W : Nat → Nat} (hW : ∀ m, m < 8 → vl (W m)) (st : Nat) : VP x W 40 st = W (st % 8) := by
  unfold VP
  apply eq_le
  intro c
  have hw := vl_lt (hW (st % 8) (by omega))
  have z : ∀ a, vl a → sm 0 a = a := fun a ha => by
    rcases ha with q | q
    · rw [sm_fin (by decide) (by omega), Nat.zero_add, Nat.min_eq_left q]
    · rw [q, sm_infr]
  rw [Nat.le_min, le_minN, tgt_40, if_neg (by omega)]
  constructor
  · rintro ⟨a1, a2, a3⟩
    have w := a3 (st % 8) (by omega)
    rw [tgt_40, if_pos rfl, z _ (hW _ (by omega))] at w
    exact w
  · intro q
    refine ⟨by omega, by omega, fun i hi => ?_⟩
    rw [tgt_40]
    by_cases e : i = st % 8
    · rw [if_pos e, z _ (hW i hi), e]; exact q
    · rw [if_neg e, sm_infl]; omega
theorem VP_41 (x W : Nat → Nat) (st : Nat) : VP x W 41 st = 0 := by
  unfold VP
  rw [tgt_41, if_pos rfl]; exact Nat.min_eq_left (Nat.zero_le _)
theorem VP_42 (x W : Nat → Nat) (st : Nat) : VP x W 42 st = 536870912 := by
  unfold VP
  apply eq_le
  intro c
  rw [Nat.le_min, le_minN, tgt_42]
  exact ⟨fun q => q.1, fun q => ⟨q, q, fun i hi => by rw [tgt_42, sm_infl]; exact q⟩⟩
theorem VP_vl {S : Nat} {x W : Nat → Nat} (hx : ∀ j, j < 288 * S → vl (x j)) {p st : Nat} (hp : p < 40 → p < S) (hst : st < 32) : vl (VP x W p st) := vl_min (tgt_vl hx hp hst (by decide)) (minN_vl (fun _ => sm_vl) 8)
theorem VP_pos {G : Nat → Nat → Nat → Nat} {x W : Nat → Nat} {s st : Nat} (h40 : s < 40) (hfix : ∀ col, col < 9 → x (rI s st col) = der G x s st col) : 1 ≤ VP x W s st := by
  have one : ∀ z, 1 ≤ sm 1 z := fun z => sm_ge (a := 1) (Or.inl (by decide))
  have hd : ∀ col, col < 9 → 1 ≤ tgt x s st col := by
    intro col hc
    rw [tgt_lt h40, hfix col hc]
    unfold der
    by_cases h3 : G 0 s 0 = 3
    · rw [if_pos h3]; exact one _
    · rw [if_neg h3]; exact one _
  unfold VP
  refine Nat.le_min.mpr ⟨hd 8 (by decide), (le_minN 8).mpr ⟨by decide, fun i hi => ?_⟩⟩
  have := hd i (by omega)
  by_cases q : tgt x s st i < 536870912 ∧ W i < 536870912
  · show 1 ≤ sm (tgt x s st i) (W i)
    rw [sm_fin q.1 q.2]
    exact Nat.le_min.mpr ⟨by omega, by decide⟩
  · show 1 ≤ sm (tgt x s st i) (W i)
    unfold sm
    rw [if_neg q]; decide
