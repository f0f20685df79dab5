/-! ===== pure rows 55: both tables are the same where settings are reached ===== -/
theorem ex_exit {G : Nat → Nat → Nat → Nat} (h : okPg G) {re ex : Nat → Int32} (hr : isRe G re ex) {X : Nat → Nat} (hX : isL (288 * G 7 0 0) (opA G (fun s st => bi (re s) st)) (fun _ => 536870912) X) {s st m : Nat} (hs : s < G 7 0 0) (hst : st < 32) (hm : m < 8) (ha : bi (re s) st = true) (hne : ¬ bi (ex (G 6 s 0)) m = true) : X (rI s st m) = 536870912 := by
  have hle := vl_lt (hX.1 (rI s st m) (rI_lt hs hst (by omega)))
  apply Nat.le_antisymm hle
  let y : Nat → Nat := fun j => if bi (re (j / 288)) (j / 9 % 32) = true ∧ j % 9 < 8 ∧ ¬ bi (ex (G 6 (j / 288) 0)) (j % 9) = true then 536870912 else 0
  have yA : ∀ s st m, st < 32 → m < 8 → bi (re s) st = true → ¬ bi (ex (G 6 s 0)) m = true → y (rI s st m) = 536870912 := by
    intro s st m h1 h2 h3 h4
    obtain ⟨e1, e2, e3⟩ := rI_inv (s := s) h1 (show m < 9 by omega)
    show (if bi (re (rI s st m / 288)) (rI s st m / 9 % 32) = true ∧ rI s st m % 9 < 8 ∧ ¬ bi (ex (G 6 (rI s st m / 288) 0)) (rI s st m % 9) = true then 536870912 else 0) = _
    rw [e1, e2, e3, if_pos ⟨h3, h2, h4⟩]
  have hy := hX.2.2.2.2 y (fun j hj => by
    show (if _ then 536870912 else 0) ≤ 536870912
    by_cases q : bi (re (j / 288)) (j / 9 % 32) = true ∧ j % 9 < 8 ∧ ¬ bi (ex (G 6 (j / 288) 0)) (j % 9) = true
    · rw [if_pos q]; exact Nat.le_refl _
    · rw [if_neg q]; omega) (fun j hj => by
    show (if _ then 536870912 else 0) ≤ opA G (fun s st => bi (re s) st) y j
    by_cases q : bi (re (j / 288)) (j / 9 % 32) = true ∧ j % 9 < 8 ∧ ¬ bi (ex (G 6 (j / 288) 0)) (j % 9) = true
    · rw [if_pos q]
      obtain ⟨q1, q2, q3⟩ := q
      unfold opA
      rw [if_pos q1]
      have hs' : j / 288 < G 7 0 0 := by omega
      have hst' : j / 9 % 32 < 32 := by omega
      generalize j / 288 = s at *
      generalize j / 9 % 32 = st at *
      generalize j % 9 = m at *
      obtain ⟨k0, k1, k2, k3, k4, k5⟩ := h.2.2.2.2 s hs'
      have hcl := hr.2 s hs'
      -- a point that is reached ends with what is known alone
      have pt : ∀ p st', p ≤ 42 → st' < 32 → (p < 40 → p < G 7 0 0 ∧ G 6 p 0 = G 6 s 0) → ptD p st' (G 6 s 0) re ex → tgt y p st' m = 536870912 := by
        intro p st' hp hst2 hpS hpt
        by_cases z : p < 40
        · rw [tgt_lt z]
          exact yA p st' m hst2 q2 (hpt.1 z) (by rw [(hpS z).2]; exact q3)
        · by_cases z2 : p = 40
          · rw [z2, tgt_40]
            have hx := hpt.2 z2
            by_cases w : m = st' % 8
            · rw [← w] at hx; exact absurd hx q3
            · rw [if_neg w]
          · have : p = 41 ∨ p = 42 := by omega
            rcases this with z3 | z3
            · rw [z3, tgt_41, if_neg (by omega)]
            · rw [z3, tgt_42]
      by_cases h3 : G 0 s 0 = 3
      · obtain ⟨a1, a2⟩ := hcl.2 h3 st q1
        have hcl2 := k2 h3
        have hn := k5 1 (by decide)
        have inf : ∀ z, sm 536870912 z = 536870912 := fun z => by unfold sm; rw [if_neg (by omega)]
        have inf2 : ∀ z, sm z 536870912 = 536870912 := fun z => by unfold sm; rw [if_neg (by omega)]
        have each : ∀ m', m' < 8 → sm (tgt y (G 5 (G 2 s 0) 0) (st % 8) m') (tgt y (G 4 s 1) (m' + 8 * (st / 8)) m) = 536870912 := by
          intro m' hm'
          rcases h.2.2.2.1 _ hcl2 with he | ⟨he, ho⟩
          · have hpt := a1 he
            by_cases w : m' = st % 8
            · have : tgt y (G 4 s 1) (m' + 8 * (st / 8)) m = 536870912 := by
                rw [w, show st % 8 + 8 * (st / 8) = st by omega]
                exact pt _ _ hn.1 hst' hn.2.1 hpt
              rw [this, inf2]
            · rw [he, tgt_40, if_neg (by omega), inf]
          · have he40 : G 5 (G 2 s 0) 0 < 40 := by have := h.1; omega
            obtain ⟨b1, b2⟩ := a2 he40
            by_cases w : bi (ex (G 2 s 0)) m' = true
            · have := pt _ _ hn.1 (show m' + 8 * (st / 8) < 32 by omega) hn.2.1 (b2 m' hm' w)
              rw [this, inf2]
            · rw [tgt_lt he40, yA _ _ _ (by omega) hm' b1 (by rw [ho]; exact w), inf]
        rw [der_call h3, if_neg (by omega)]
        have : minN (fun m' => sm (tgt y (G 5 (G 2 s 0) 0) (st % 8) m') (tgt y (G 4 s 1) (m' + 8 * (st / 8)) m)) 8 = 536870912 := by
          rcases minN_at (f := fun m' => sm (tgt y (G 5 (G 2 s 0) 0) (st % 8) m') (tgt y (G 4 s 1) (m' + 8 * (st / 8)) m)) 8 with e | ⟨i, hi, e⟩
          · exact e
          · rw [e]; exact each i hi
        rw [this]; decide
      · have each : ∀ v, v < 2 → (if cn G s v st then tgt y (G 4 s v) (sa G s v st) m else 536870912) = 536870912 := by
          intro v hv
          by_cases w : cn G s v st = true
          · rw [if_pos w]
            exact pt _ _ (k5 v hv).1 (sa_lt k1 hst') (k5 v hv).2.1 (hcl.1 h3 v st hv q1 w)
          · rw [if_neg w]
        unfold der
        rw [if_neg h3]
        have : minN (fun v => if cn G s v st then tgt y (G 4 s v) (sa G s v st) m else 536870912) 2 = 536870912 := by
          rcases minN_at (f := fun v => if cn G s v st then tgt y (G 4 s v) (sa G s v st) m else 536870912) 2 with e | ⟨i, hi, e⟩
          · exact e
          · rw [e]; exact each i hi
        rw [this]; decide
    · rw [if_neg q]; exact Nat.zero_le _)
  have := hy (rI s st m) (rI_lt hs hst (by omega))
  rw [yA s st m hst hm ha hne] at this
  exact this
theorem same_steps {G : Nat → Nat → Nat → Nat} (h : okPg G) {re ex : Nat → Int32} (hr : isRe G re ex) {X Y : Nat → Nat} (hX : isL (288 * G 7 0 0) (opA G (fun s st => bi (re s) st)) (fun _ => 536870912) X) (hY : isL (288 * G 7 0 0) (opA G allA) (fun _ => 536870912) Y) {s st col : Nat} (hs : s < G 7 0 0) (hst : st < 32) (hcol : col < 9) (ha : bi (re s) st = true) : X (rI s st col) = Y (rI s st col) := by
  have hj := rI_lt hs hst hcol
  apply Nat.le_antisymm
  · -- the class's rows, and nothing elsewhere, pass nothing of the whole operator
    let Z : Nat → Nat := fun j => if bi (re (j / 288)) (j / 9 % 32) = true then X j else 0
    have zA : ∀ s st col, st < 32 → col < 9 → bi (re s) st = true → Z (rI s st col) = X (rI s st col) := by
      intro s st col h1 h2 h3
      obtain ⟨e1, e2, e3⟩ := rI_inv (s := s) h1 h2
      show (if bi (re (rI s st col / 288)) (rI s st col / 9 % 32) = true then X (rI s st col) else 0) = _
      rw [e1, e2, if_pos h3]
    have hz := hY.2.2.2.2 Z (fun j hj => by
      show (if _ then X j else 0) ≤ 536870912
      by_cases q : bi (re (j / 288)) (j / 9 % 32) = true
      · rw [if_pos q]; exact hX.2.1 j hj
      · rw [if_neg q]; omega) (fun j hj => by
      show (if _ then X j else 0) ≤ opA G allA Z j
      by_cases q : bi (re (j / 288)) (j / 9 % 32) = true
      · rw [if_pos q, opA_all]
        have hcx := hX.2.2.1 j hj
        unfold opA at hcx
        rw [if_pos q] at hcx
        have hs' : j / 288 < G 7 0 0 := by omega
        have hst' : j / 9 % 32 < 32 := by omega
        have hc' : j % 9 < 9 := by omega
        generalize j / 288 = s at *
        generalize j / 9 % 32 = st at *
        generalize j % 9 = col at *
        obtain ⟨k0, k1, k2, k3, k4, k5⟩ := h.2.2.2.2 s hs'
        have hcl := hr.2 s hs'
        have pt : ∀ p st' col', p ≤ 42 → st' < 32 → col' < 9 → (p < 40 → bi (re p) st' = true) → tgt Z p st' col' = tgt X p st' col' := by
          intro p st' col' hp h1 h2 h3
          by_cases z : p < 40
          · rw [tgt_lt z, tgt_lt z]; exact zA p st' col' h1 h2 (h3 z)
          · unfold tgt; rw [if_neg z, if_neg z]
        refine Nat.le_trans hcx (Nat.le_of_eq ?_)
        by_cases h3 : G 0 s 0 = 3
        · obtain ⟨a1, a2⟩ := hcl.2 h3 st q
          have hcl2 := k2 h3
          have hn := k5 1 (by decide)
          have inf : ∀ z, sm 536870912 z = 536870912 := fun z => by unfold sm; rw [if_neg (by omega)]
          rw [der_call h3, der_call h3]
          have he42 : G 5 (G 2 s 0) 0 ≤ 42 := by rcases h.2.2.2.1 _ hcl2 with he | ⟨he, _⟩ <;> have := h.1 <;> omega
          have e1 : ∀ c', c' < 9 → tgt Z (G 5 (G 2 s 0) 0) (st % 8) c' = tgt X (G 5 (G 2 s 0) 0) (st % 8) c' := fun c' hc2 => pt _ _ _ he42 (by omega) hc2 (fun z => (a2 z).1)
          rw [e1 8 (by decide)]
          rw [minN_congr 8 (f := fun m => sm (tgt X (G 5 (G 2 s 0) 0) (st % 8) m) (tgt X (G 4 s 1) (m + 8 * (st / 8)) col)) (g := fun m => sm (tgt Z (G 5 (G 2 s 0) 0) (st % 8) m) (tgt Z (G 4 s 1) (m + 8 * (st / 8)) col)) (fun m hm => ?_)]
          rw [e1 m (by omega)]
          rcases h.2.2.2.1 _ hcl2 with he | ⟨he, ho⟩
          · by_cases w : m = st % 8
            · rw [w, show st % 8 + 8 * (st / 8) = st by omega, pt (G 4 s 1) st col hn.1 hst' hc' (a1 he).1]
            · rw [he, tgt_40, if_neg (by omega), inf, inf]
          · have he40 : G 5 (G 2 s 0) 0 < 40 := by have := h.1; omega
            by_cases w : bi (ex (G 2 s 0)) m = true
            · rw [pt (G 4 s 1) (m + 8 * (st / 8)) col hn.1 (by omega) hc' ((a2 he40).2 m hm w).1]
            · have : tgt X (G 5 (G 2 s 0) 0) (st % 8) m = 536870912 := by
                rw [tgt_lt he40]
                exact ex_exit h hr hX he (by omega) hm (a2 he40).1 (by rw [ho]; exact w)
              rw [this, inf, inf]
        · unfold der
          rw [if_neg h3, if_neg h3]
          rw [minN_congr 2 (fun v hv => ?_)]
          by_cases w : cn G s v st = true
          · rw [if_pos w, if_pos w, pt _ _ _ (k5 v hv).1 (sa_lt k1 hst') hc' (hcl.1 h3 v st hv q w).1]
          · rw [if_neg w, if_neg w]
      · rw [if_neg q]; exact Nat.zero_le _)
    have := hz (rI s st col) hj
    rw [zA s st col hst hcol ha] at this
    exact this
  · refine hX.2.2.2.2 Y hY.2.1 (fun j hj2 => ?_) _ hj
    have hcy := hY.2.2.1 j hj2
    rw [opA_all] at hcy
    unfold opA
    by_cases q : bi (re (j / 288)) (j / 9 % 32) = true
    · rw [if_pos q]; exact hcy
    · rw [if_neg q]; exact hY.2.1 j hj2
