/-! ===== pure rows 46: a statement's rows (class) ===== -/
theorem sm_min (a b : Nat) : sm 1 (min a b) = min (sm 1 a) (sm 1 b) := by
  rcases Nat.le_total a b with h | h
  · rw [Nat.min_eq_left h, Nat.min_eq_left (sm_mono (Nat.le_refl _) h)]
  · rw [Nat.min_eq_right h, Nat.min_eq_right (sm_mono (Nat.le_refl _) h)]
theorem sm_inf1 : sm 1 536870912 = 536870912 := by decide
theorem sm_le_inf (a b : Nat) : sm a b ≤ 536870912 := vl_lt sm_vl
def KS (G : Nat → Nat → Nat → Nat) (s st v : Nat) (z : Nat → Nat) (col : Nat) : Nat := if cn G s v st then sm (tgt z (G 4 s v) (sa G s v st) col) 1 else 536870912
theorem KS_der {G : Nat → Nat → Nat → Nat} {s st : Nat} (h3 : ¬ G 0 s 0 = 3) (z : Nat → Nat) (col : Nat) : min (KS G s st 0 z col) (KS G s st 1 z col) = der G z s st col := by
  unfold der
  rw [if_neg h3, minN_s, minN_s]
  have e0 : minN (fun v => if cn G s v st then tgt z (G 4 s v) (sa G s v st) col else 536870912) 0 = 536870912 := rfl
  rw [e0, sm_min, sm_min, sm_inf1, Nat.min_eq_right (sm_le_inf _ _)]
  unfold KS
  by_cases c0 : cn G s 0 st = true <;> by_cases c1 : cn G s 1 st = true
  · rw [if_pos c0, if_pos c1, if_pos c0, if_pos c1, smc, smc (b := 1)]
  · rw [if_pos c0, if_neg c1, if_pos c0, if_neg c1, smc, sm_inf1]
  · rw [if_neg c0, if_pos c1, if_neg c0, if_pos c1, smc (b := 1), sm_inf1]
  · rw [if_neg c0, if_neg c1, if_neg c0, if_neg c1, sm_inf1]
theorem c_byStep {G : Nat → Nat → Nat → Nat} {C : Nat → Nat → Int32} {value : Nat → Int64} (h : okPg G) (hc : cPg G C value) {s st : Nat} (hs : s < G 7 0 0) (hst : st < 32) (h3 : ¬ G 0 s 0 = 3) {x : Nat → Nat} {c : Nat → Int32} (ht : tbS (288 * G 7 0 0) x c) :
    ∃ (b : Int32) (x2 : Nat → Nat) (d : Nat → Int32), fX0_lowerByStep (nI s) (nI st) value (C 1) (C 6) (C 3) (C 4) c = some (b, d) ∧ tbS (288 * G 7 0 0) x2 d ∧ rowOk (288 * G 7 0 0) (rI s st 0) x x2 0 b (fun z col => der G z s st col) := by
  obtain ⟨fu, hfu, hg⟩ := fu_any
  have hS := h.1
  obtain ⟨k0, k1, k2, k3, k4, k5⟩ := h.2.2.2.2 s hs
  have hr : rI s st 0 + 9 ≤ 288 * G 7 0 0 := by unfold rI; omega
  have one : ∀ (v : Nat) (f : Int32) (x : Nat → Nat) (c : Nat → Int32) (k5' : Int32 → Int32 → Int32 → Int32 → (Nat → Int32) → Option (Int32 × (Nat → Int32))), v < 2 → (f = 0 ∨ f = 1) → tbS (288 * G 7 0 0) x c →
      ∃ (b : Int32) (x2 : Nat → Nat) (d : Nat → Int32), fX0_lowerByStep_b5 value (C 1) (C 6) (C 3) (C 4) k5' (nI s) (nI st) f (nI v) c = k5' (nI s) (nI st) b (nI (v + 1)) d ∧ tbS (288 * G 7 0 0) x2 d ∧ rowOk (288 * G 7 0 0) (rI s st 0) x x2 f b (KS G s st v) := by
    intro v f x c k5' hv hf ht
    obtain ⟨z, hz1, hz2⟩ := c_settingsFor h hc hs hv
    have n1 : ¬ (1 : Int32) < nI v := nI_nlt (a := 1) (b := v) (by omega) (by decide)
    have hb := bi_sh z hst
    unfold fX0_lowerByStep_b5 fX0_lowerByStep_p66
    rw [if_neg n1, hz1, ob_s, nm_q, nm_q]
    by_cases h0 : ((z.toUInt32 >>> ((nI st).toUInt32 &&& Int32.toUInt32 31)).toInt32 &&& 1) = 0
    · rw [if_pos h0, nm_q, nI_1]
      have hcn : ¬ cn G s v st = true := fun y => by rw [← hz2 st hst, hb.mp h0] at y; cases y
      exact ⟨f, x, c, rfl, ht, rowOk_K (rowOk_refl hf (fun j hj => (ht j hj).2) hr) (fun z col _ => by unfold KS; rw [if_neg hcn])⟩
    · rw [if_neg h0, c_settingAfter h hc hs hv hst, ob_s, e0_row, ob_s, c_pointAfter h hc hs hv, ob_s]
      have hcn : cn G s v st = true := by
        rw [← hz2 st hst]
        cases hq : bi z st with
        | true => rfl
        | false => exact absurd (hb.mpr hq) h0
      obtain ⟨b1, x2, d1, r1, r2, r3⟩ := c_lowRow (more := 1) hS hr (k5 v hv).1 (fun q => ((k5 v hv).2.1 q).1) (sa_lt (v := v) k1 hst) (by decide) ht
      have r1' : fX0_lowerRow (nI (rI s st 0)) (pI (G 4 s v)) (nI (sa G s v st)) 1 c = some (b1, d1) := r1
      rw [r1', ob_s, nm_q, nm_q, nI_1]
      exact ⟨f ||| b1, x2, d1, rfl, r2, rowOk_K (rowOk_or hf r3) (fun z col _ => by unfold KS; rw [if_pos hcn])⟩
  obtain ⟨fu2, hfu2⟩ : ∃ z, fu = z + 3 := ⟨fu - 3, by omega⟩
  subst hfu2
  obtain ⟨b1, x1, d1, r1, r2, r3⟩ := one 0 0 x c (fX0_lowerByStep_l5 value (C 1) (C 6) (C 3) (C 4) (fu2 + 2)) (by decide) (Or.inl rfl) ht
  obtain ⟨b2, x2, d2, s1, s2, s3⟩ := one 1 b1 x1 d1 (fX0_lowerByStep_l5 value (C 1) (C 6) (C 3) (C 4) (fu2 + 1)) (by decide) r3.2.2.1 r2
  have mon : monK (288 * G 7 0 0) (KS G s st 1) := by
    intro y z hyz col hcol
    unfold KS
    by_cases q : cn G s 1 st = true
    · rw [if_pos q, if_pos q]
      exact sm_mono (tgt_mono hyz (fun w => ((k5 1 (by decide)).2.1 w).1) (sa_lt k1 hst) hcol) (Nat.le_refl _)
    · rw [if_neg q, if_neg q]; exact Nat.le_refl _
  refine ⟨b2, x2, d2, ?_, s2, rowOk_K (rowOk_trans hr mon r3 s3) (fun z col _ => KS_der h3 z col)⟩
  unfold fX0_lowerByStep
  rw [hfu]
  show fX0_lowerByStep_b5 value (C 1) (C 6) (C 3) (C 4) (fX0_lowerByStep_l5 value (C 1) (C 6) (C 3) (C 4) (fu2 + 2)) (nI s) (nI st) 0 (nI 0) c = _
  rw [r1]
  show fX0_lowerByStep_b5 value (C 1) (C 6) (C 3) (C 4) (fX0_lowerByStep_l5 value (C 1) (C 6) (C 3) (C 4) (fu2 + 1)) (nI s) (nI st) b1 (nI 1) d1 = _
  rw [s1]
  show fX0_lowerByStep_b5 value (C 1) (C 6) (C 3) (C 4) (fX0_lowerByStep_l5 value (C 1) (C 6) (C 3) (C 4) fu2) (nI s) (nI st) b2 (nI 2) d2 = _
  unfold fX0_lowerByStep_b5
  rw [if_pos (by decide)]
  rcases s3.2.2.1 with z | z <;> rw [z] <;> rfl
theorem or_loc : ∀ l : Nat, l < 4 → ∀ m : Nat, m < 8 → nI (8 * l) ||| nI m = nI (m + 8 * l) := by decide +kernel
def KC (G : Nat → Nat → Nat → Nat) (s st m : Nat) (z : Nat → Nat) (col : Nat) : Nat := sm 1 (sm (tgt z (G 5 (G 2 s 0) 0) (st % 8) m) (tgt z (G 4 s 1) (m + 8 * (st / 8)) col))
theorem sm_call {a b : Nat} (ha : a ≤ 1000000) : sm b (a + 1) = sm 1 (sm a b) := by
  by_cases hb : b < 536870912
  · rw [sm_fin hb (by omega), sm_fin (by omega) hb, sm_fin (by decide) (min_inf _)]
    generalize 1000000 = M
    omega
  · have e1 : sm b (a + 1) = 536870912 := by unfold sm; rw [if_neg (fun q => hb q.1)]
    have e2 : sm a b = 536870912 := by unfold sm; rw [if_neg (fun q => hb q.2)]
    rw [e1, e2, sm_inf1]
theorem min_comm3 (a b c : Nat) : min (min a b) c = min a (min b c) := by omega
theorem c_byCall {G : Nat → Nat → Nat → Nat} {C : Nat → Nat → Int32} {value : Nat → Int64} (h : okPg G) (hc : cPg G C value) {s st : Nat} (hs : s < G 7 0 0) (hst : st < 32) (h3 : G 0 s 0 = 3) {x : Nat → Nat} {c : Nat → Int32} (ht : tbS (288 * G 7 0 0) x c) :
    ∃ (b : Int32) (x2 : Nat → Nat) (d : Nat → Int32), fX0_lowerByCall (nI s) (nI st) (C 3) (C 4) (C 2) (C 0) c = some (b, d) ∧ tbS (288 * G 7 0 0) x2 d ∧ rowOk (288 * G 7 0 0) (rI s st 0) x x2 0 b (fun z col => der G z s st col) := by
  obtain ⟨fu, hfu, hg⟩ := fu_any
  have hS := h.1
  have hP := h.2.2.1
  obtain ⟨k0, k1, k2, k3, k4, k5⟩ := h.2.2.2.2 s hs
  obtain ⟨c0, c1, c2', c3, c4, c5, c6⟩ := hc.2 s hs
  have hcl := k2 h3
  have hr : rI s st 0 + 9 ≤ 288 * G 7 0 0 := by unfold rI; omega
  have bs := inb_nI (j := s) (n := 40) (by omega) (by decide)
  have ks := nI_clamp (n := s) (by omega)
  have bc := inb_nI (j := G 2 s 0) (n := 6) (by omega) (by decide)
  have kc := nI_clamp (n := G 2 s 0) (by omega)
  have hpt := c_pointAfter h hc hs (v := 1) (by decide)
  have e1' : nI 1 = 1 := rfl
  rw [e1'] at hpt
  have hn : G 4 s 1 < 40 → G 4 s 1 < G 7 0 0 := fun z => ((k5 1 (by decide)).2.1 z).1
  have hn42 := (k5 1 (by decide)).1
  have bzb : ∀ b : Int32, (b = 0 ∨ b = 1) → bz b = true := fun b h => by rcases h with rfl | rfl <;> rfl
  unfold fX0_lowerByCall
  rw [e0_row, ob_s, hpt, ob_s, bd_eq _ bs, nm_q, ks, c2' h3, bd_eq _ bc, nm_q, kc, hc.1 _ hcl]
  have derE : ∀ z col, der G z s st col = sm 1 (min (if col = 8 then tgt z (G 5 (G 2 s 0) 0) (st % 8) 8 else 536870912) (minN (fun m => sm (tgt z (G 5 (G 2 s 0) 0) (st % 8) m) (tgt z (G 4 s 1) (m + 8 * (st / 8)) col)) 8)) := fun z col => by unfold der; rw [if_pos h3]
  rcases h.2.2.2.1 _ hcl with he | ⟨he, -⟩
  · rw [he, pI_40, if_neg (by decide)]
    obtain ⟨b1, x2, d1, r1, r2, r3⟩ := c_lowRow (p := G 4 s 1) (st := st) (more := 1) hS hr hn42 hn hst (by decide) ht
    have r1' : fX0_lowerRow (nI (rI s st 0)) (pI (G 4 s 1)) (nI st) 1 c = some (b1, d1) := r1
    rw [r1', ob_s, bd_eq _ (bzb b1 r3.2.2.1)]
    refine ⟨b1, x2, d1, rfl, r2, ?_⟩
    -- an empty procedure: as if it were a step
    have eq : ∀ z col, (∀ j, j < 288 * G 7 0 0 → vl (z j)) → col < 9 → sm (tgt z (G 4 s 1) st col) 1 = der G z s st col := by
      intro z col hz hcol
      have hvt : vl (tgt z (G 4 s 1) st col) := by
        by_cases q : G 4 s 1 < 40
        · rw [tgt_lt q]; exact hz _ (rI_lt (hn q) hst hcol)
        · have : G 4 s 1 = 40 ∨ G 4 s 1 = 41 ∨ G 4 s 1 = 42 := by omega
          rcases this with q | q | q
          · rw [q, tgt_40]
            by_cases w : col = st % 8
            · rw [if_pos w]; exact Or.inl (by decide)
            · rw [if_neg w]; exact Or.inr rfl
          · rw [q, tgt_41]
            by_cases w : col = 8
            · rw [if_pos w]; exact Or.inl (by decide)
            · rw [if_neg w]; exact Or.inr rfl
          · rw [q, tgt_42]; exact Or.inr rfl
      rw [derE z col, he, smc]
      congr 1
      have a1 : (if col = 8 then tgt z 40 (st % 8) 8 else 536870912) = 536870912 := by
        by_cases w : col = 8
        · rw [if_pos w, tgt_40, if_neg (by omega)]
        · rw [if_neg w]
      rw [a1]
      have a2 : minN (fun m => sm (tgt z 40 (st % 8) m) (tgt z (G 4 s 1) (m + 8 * (st / 8)) col)) 8 = tgt z (G 4 s 1) st col := by
        apply Nat.le_antisymm
        · refine Nat.le_trans (minN_le (f := fun m => sm (tgt z 40 (st % 8) m) (tgt z (G 4 s 1) (m + 8 * (st / 8)) col)) 8 (st % 8) (by omega)) ?_
          show sm (tgt z 40 (st % 8) (st % 8)) (tgt z (G 4 s 1) (st % 8 + 8 * (st / 8)) col) ≤ _
          rw [tgt_40, if_pos (by omega), show st % 8 + 8 * (st / 8) = st by omega]
          unfold sm
          by_cases w : tgt z (G 4 s 1) st col < 536870912
          · rw [if_pos ⟨by decide, w⟩]; exact Nat.le_trans (Nat.min_le_left _ _) (by omega)
          · rw [if_neg (fun q => w q.2)]; omega
        · rcases minN_at (f := fun m => sm (tgt z 40 (st % 8) m) (tgt z (G 4 s 1) (m + 8 * (st / 8)) col)) 8 with e | ⟨m, hm, e⟩
          · rw [e]; exact vl_lt hvt
          · rw [e]
            by_cases w : m = st % 8
            · show _ ≤ sm (tgt z 40 (st % 8) m) (tgt z (G 4 s 1) (m + 8 * (st / 8)) col)
              rw [w, show st % 8 + 8 * (st / 8) = st by omega, smc]
              exact sm_ge hvt
            · show _ ≤ sm (tgt z 40 (st % 8) m) (tgt z (G 4 s 1) (m + 8 * (st / 8)) col)
              rw [tgt_40, if_neg (by omega)]
              have : sm 536870912 (tgt z (G 4 s 1) (m + 8 * (st / 8)) col) = 536870912 := by unfold sm; rw [if_neg (by omega)]
              rw [this]; exact vl_lt hvt
      rw [a2, Nat.min_eq_right (vl_lt hvt)]
    have hvx : ∀ j, j < 288 * G 7 0 0 → vl (x j) := fun j hj => (ht j hj).2
    obtain ⟨u1, u2, u3, u4, u5, u6⟩ := r3
    refine ⟨u1, u2, u3, u4, fun col hcol => (by show x2 (rI s st 0 + col) ≤ der G x s st col; rw [← eq x col hvx hcol]; exact u5 col hcol), fun y y1 y2 => u6 y y1 (fun col hcol => Nat.le_trans (y2 col hcol) ?_)⟩
    -- y need not be steps: its own target bounds what it derives
    show der G y s st col ≤ sm (tgt y (G 4 s 1) st col) 1
    rw [derE y col, he, smc (a := tgt y (G 4 s 1) st col)]
    refine sm_mono (Nat.le_refl _) (Nat.le_trans (Nat.min_le_right _ _) (Nat.le_trans (minN_le (f := fun m => sm (tgt y 40 (st % 8) m) (tgt y (G 4 s 1) (m + 8 * (st / 8)) col)) 8 (st % 8) (by omega)) ?_))
    show sm (tgt y 40 (st % 8) (st % 8)) (tgt y (G 4 s 1) (st % 8 + 8 * (st / 8)) col) ≤ _
    have hle : tgt y (G 4 s 1) st col ≤ 536870912 := by
      by_cases q : G 4 s 1 < 40
      · rw [tgt_lt q]; exact Nat.le_trans (y1 _ (rI_lt (hn q) hst hcol)) (vl_lt (hvx _ (rI_lt (hn q) hst hcol)))
      · unfold tgt
        rw [if_neg q]
        by_cases q2 : G 4 s 1 = 40
        · rw [if_pos q2]
          by_cases w : col = st % 8
          · rw [if_pos w]; omega
          · rw [if_neg w]; omega
        · rw [if_neg q2]
          by_cases q3 : G 4 s 1 = 41
          · rw [if_pos q3]
            by_cases w : col = 8
            · rw [if_pos w]; omega
            · rw [if_neg w]; omega
          · rw [if_neg q3]; omega
    rw [tgt_40, if_pos (by omega), show st % 8 + 8 * (st / 8) = st by omega]
    unfold sm
    by_cases w : tgt y (G 4 s 1) st col < 536870912
    · rw [if_pos ⟨by decide, w⟩]; exact Nat.le_trans (Nat.min_le_left _ _) (by omega)
    · rw [if_neg (fun q => w q.2)]; omega
  · have he40 : G 5 (G 2 s 0) 0 < 40 := by omega
    have hE : rI (G 5 (G 2 s 0) 0) (st % 8) 0 + 9 ≤ 288 * G 7 0 0 := by unfold rI; omega
    have e8 : nI (rI s st 0) + 8 = nI (rI s st 0 + 8) := nI_add _ 8
    have e8' : nI (rI (G 5 (G 2 s 0) 0) (st % 8) 0) + 8 = nI (rI (G 5 (G 2 s 0) 0) (st % 8) 0 + 8) := nI_add _ 8
    obtain ⟨s1, s2⟩ := ht (rI (G 5 (G 2 s 0) 0) (st % 8) 0 + 8) (by omega)
    have s3 := vl_lt s2
    rw [pI_lt he40, if_pos (nI_pos' (by omega)), nm_q, and7 st hst, e0_row, ob_s, nm_q, and24 st hst, nm_q, e8, nm_q, e8', bd_eq _ (inb_nI (j := rI (G 5 (G 2 s 0) 0) (st % 8) 0 + 8) (n := 11520) (by omega) (by decide)), nm_q, nI_clamp (n := rI (G 5 (G 2 s 0) 0) (st % 8) 0 + 8) (by omega), s1, nm_q, nI_1]
    obtain ⟨b1, x1, d1, r1, r2, r3⟩ := c_low (r := rI s st 0) (col := 8) (v := x (rI (G 5 (G 2 s 0) 0) (st % 8) 0 + 8) + 1) (by omega) hr (by decide) (by omega) ht
    rw [r1, ob_s, hfu]
    -- the failing column, as a contribution that grows with the table
    have r3' : rowOk (288 * G 7 0 0) (rI s st 0) x x1 0 b1 (fun z col => sm 1 (if col = 8 then tgt z (G 5 (G 2 s 0) 0) (st % 8) 8 else 536870912)) := by
      obtain ⟨u1, u2, u3, u4, u5, u6⟩ := r3
      have esm : sm (x (rI (G 5 (G 2 s 0) 0) (st % 8) 0 + 8) + 1) 0 = sm 1 (x (rI (G 5 (G 2 s 0) 0) (st % 8) 8)) := by
        rw [← rI_col]
        rw [← rI_col] at s2
        rcases s2 with q | q
        · rw [sm_fin (by omega) (by decide), sm_fin (by decide) (by omega), Nat.add_comm 1]
        · rw [q, sm_inf1]; decide
      refine ⟨u1, u2, u3, u4, fun col hcol => ?_, fun y y1 y2 => u6 y y1 (fun col hcol => ?_)⟩
      · have w := u5 col hcol
        by_cases q : col = 8
        · simp only [if_pos q] at w ⊢
          rw [tgt_lt he40, ← esm]; exact w
        · simp only [if_neg q] at w ⊢
          rw [sm_inf1]; exact w
      · have w := y2 col hcol
        by_cases q : col = 8
        · simp only [if_pos q] at w ⊢
          rw [esm]
          rw [tgt_lt he40] at w
          exact Nat.le_trans w (sm_mono (Nat.le_refl _) (y1 _ (by rw [rI_col]; omega)))
        · simp only [if_neg q] at w ⊢
          rw [sm_inf1] at w; exact w
    have loop : ∀ (k m n : Nat) (f : Int32) (xa : Nat → Nat) (ca : Nat → Int32), m + k = 8 → k < n → (f = 0 ∨ f = 1) → tbS (288 * G 7 0 0) xa ca →
        ∃ (b : Int32) (x2 : Nat → Nat) (d : Nat → Int32), fX0_lowerByCall_l93 (C 3) (C 4) (C 2) (C 0) n (nI (rI s st 0)) (pI (G 4 s 1)) (nI (rI (G 5 (G 2 s 0) 0) (st % 8) 0)) (nI (8 * (st / 8))) f (nI m) ca = some (b, d) ∧ tbS (288 * G 7 0 0) x2 d ∧ rowOk (288 * G 7 0 0) (rI s st 0) xa x2 f b (fun z col => minN (fun i => KC G s st (m + i) z col) k) := by
      intro k
      induction k with
      | zero =>
        intro m n f xa ca g1 g2 hf hta
        obtain ⟨n, rfl⟩ : ∃ z, n = z + 1 := ⟨n - 1, by omega⟩
        refine ⟨f, xa, ca, ?_, hta, rowOk_K (rowOk_refl hf (fun j hj => (hta j hj).2) hr) (fun z col hcol => rfl)⟩
        show fX0_lowerByCall_b93 (C 3) (C 4) (C 2) (C 0) _ (nI (rI s st 0)) (pI (G 4 s 1)) (nI (rI (G 5 (G 2 s 0) 0) (st % 8) 0)) (nI (8 * (st / 8))) f (nI m) ca = _
        unfold fX0_lowerByCall_b93
        have h8 : (8 : Int32) ≤ nI m := nI_le (a := 8) (b := m) (by omega) (by omega)
        rw [if_pos h8, bd_eq _ (bzb f hf)]
      | succ k ih =>
        intro m n f xa ca g1 g2 hf hta
        obtain ⟨n, rfl⟩ : ∃ z, n = z + 1 := ⟨n - 1, by omega⟩
        have h8 : ¬ (8 : Int32) ≤ nI m := nI_ge (a := m) (b := 8) (by omega) (by omega)
        obtain ⟨t1, t2⟩ := hta (rI (G 5 (G 2 s 0) 0) (st % 8) 0 + m) (by omega)
        have t3 := vl_lt t2
        have eT : ∀ z : Nat → Nat, tgt z (G 5 (G 2 s 0) 0) (st % 8) m = z (rI (G 5 (G 2 s 0) 0) (st % 8) 0 + m) := fun z => by rw [tgt_lt he40, rI_col]
        have hmin : ∀ (z : Nat → Nat) (col : Nat), minN (fun i => KC G s st (m + i) z col) (k + 1) = min (KC G s st m z col) (minN (fun i => KC G s st (m + 1 + i) z col) k) := by
          intro z col
          have hvK : ∀ i, vl (KC G s st i z col) := fun i => sm_vl
          have gen : ∀ j, minN (fun i => KC G s st (m + i) z col) (j + 1) = min (KC G s st m z col) (minN (fun i => KC G s st (m + 1 + i) z col) j) := by
            intro j
            induction j with
            | zero =>
              rw [minN_s]
              show min 536870912 (KC G s st (m + 0) z col) = min (KC G s st m z col) 536870912
              rw [Nat.add_zero, Nat.min_eq_right (vl_lt (hvK m)), Nat.min_eq_left (vl_lt (hvK m))]
            | succ j ihj =>
              rw [minN_s, ihj, minN_s, min_comm3, show m + (j + 1) = m + 1 + j by omega]
          exact gen k
        -- one setting of the globals
        obtain ⟨f1, x1', c1', hrun, hf1, ht1, hok1⟩ : ∃ (f1 : Int32) (x1' : Nat → Nat) (c1' : Nat → Int32), fX0_lowerByCall_l93 (C 3) (C 4) (C 2) (C 0) (n + 1) (nI (rI s st 0)) (pI (G 4 s 1)) (nI (rI (G 5 (G 2 s 0) 0) (st % 8) 0)) (nI (8 * (st / 8))) f (nI m) ca = fX0_lowerByCall_l93 (C 3) (C 4) (C 2) (C 0) n (nI (rI s st 0)) (pI (G 4 s 1)) (nI (rI (G 5 (G 2 s 0) 0) (st % 8) 0)) (nI (8 * (st / 8))) f1 (nI (m + 1)) c1' ∧ (f1 = 0 ∨ f1 = 1) ∧ tbS (288 * G 7 0 0) x1' c1' ∧ rowOk (288 * G 7 0 0) (rI s st 0) xa x1' f f1 (KC G s st m) := by
          show ∃ (f1 : Int32) (x1' : Nat → Nat) (c1' : Nat → Int32), fX0_lowerByCall_b93 (C 3) (C 4) (C 2) (C 0) (fX0_lowerByCall_l93 (C 3) (C 4) (C 2) (C 0) n) (nI (rI s st 0)) (pI (G 4 s 1)) (nI (rI (G 5 (G 2 s 0) 0) (st % 8) 0)) (nI (8 * (st / 8))) f (nI m) ca = _ ∧ _
          unfold fX0_lowerByCall_b93 fX0_lowerByCall_p140
          rw [if_neg h8, nm_q, nI_add, bd_eq _ (inb_nI (j := rI (G 5 (G 2 s 0) 0) (st % 8) 0 + m) (n := 11520) (by omega) (by decide)), nm_q, nI_clamp (n := rI (G 5 (G 2 s 0) 0) (st % 8) 0 + m) (by omega), t1]
          rcases t2 with q | q
          · have kI : ¬ (536870912 : Int32) ≤ nI (xa (rI (G 5 (G 2 s 0) 0) (st % 8) 0 + m)) := nI_ge (a := xa (rI (G 5 (G 2 s 0) 0) (st % 8) 0 + m)) (b := 536870912) (by omega) (by decide)
            obtain ⟨b2, x3, d3, v1, v2, v3⟩ := c_lowRow (p := G 4 s 1) (st := m + 8 * (st / 8)) (more := xa (rI (G 5 (G 2 s 0) 0) (st % 8) 0 + m) + 1) hS hr hn42 hn (by omega) (by omega) hta
            rw [if_neg kI, nm_q, or_loc (st / 8) (by omega) m (by omega), nm_q, nI_1, v1, ob_s, nm_q, nm_q, nI_1]
            refine ⟨f ||| b2, x3, d3, rfl, (rowOk_or hf v3).2.2.1, v2, ?_⟩
            obtain ⟨u1, u2, u3, u4, u5, u6⟩ := rowOk_or hf v3
            refine ⟨u1, u2, u3, u4, fun col hcol => ?_, fun y y1 y2 => u6 y y1 (fun col hcol => ?_)⟩
            · unfold KC
              rw [eT, ← sm_call q]
              exact u5 col hcol
            · have w := y2 col hcol
              unfold KC at w
              rw [eT] at w
              have hyq := y1 (rI (G 5 (G 2 s 0) 0) (st % 8) 0 + m) (by omega)
              rw [← sm_call (by omega)] at w
              exact Nat.le_trans w (sm_mono (Nat.le_refl _) (by omega))
          · have kI : (536870912 : Int32) ≤ nI (xa (rI (G 5 (G 2 s 0) 0) (st % 8) 0 + m)) := nI_le (a := 536870912) (b := xa (rI (G 5 (G 2 s 0) 0) (st % 8) 0 + m)) (by omega) (by omega)
            rw [if_pos kI, nm_q, nI_1]
            refine ⟨f, xa, ca, rfl, hf, hta, ?_⟩
            obtain ⟨u1, u2, u3, u4, u5, u6⟩ := rowOk_refl (N := 288 * G 7 0 0) (r := rI s st 0) (x := xa) hf (fun j hj => (hta j hj).2) hr
            refine ⟨u1, u2, u3, u4, fun col hcol => ?_, fun y y1 y2 => y1⟩
            unfold KC
            rw [eT, q]
            have e3 : sm 536870912 (tgt xa (G 4 s 1) (m + 8 * (st / 8)) col) = 536870912 := by unfold sm; rw [if_neg (by omega)]
            rw [e3, sm_inf1]
            exact u5 col hcol
        obtain ⟨b, x2, d, w1, w2, w3⟩ := ih (m + 1) n f1 x1' c1' (by omega) (by omega) hf1 ht1
        have mon : monK (288 * G 7 0 0) (fun z col => minN (fun i => KC G s st (m + 1 + i) z col) k) := by
          intro y z hyz col hcol
          refine minN_mono k (fun i hi => ?_)
          unfold KC
          exact sm_mono (Nat.le_refl _) (sm_mono (tgt_mono hyz (fun _ => he) (by omega) (by omega)) (tgt_mono hyz hn (by omega) hcol))
        exact ⟨b, x2, d, hrun.trans w1, w2, rowOk_K (rowOk_trans hr mon hok1 w3) (fun z col _ => (hmin z col).symm)⟩
    obtain ⟨b, x2, d, w1, w2, w3⟩ := loop 8 0 fu b1 x1 d1 (by omega) (by omega) r3'.2.2.1 r2
    have mon : monK (288 * G 7 0 0) (fun z col => minN (fun i => KC G s st (0 + i) z col) 8) := by
      intro y z hyz col hcol
      refine minN_mono 8 (fun i hi => ?_)
      unfold KC
      exact sm_mono (Nat.le_refl _) (sm_mono (tgt_mono hyz (fun _ => he) (by omega) (by omega)) (tgt_mono hyz hn (by omega) hcol))
    refine ⟨b, x2, d, w1, w2, rowOk_K (rowOk_trans hr mon r3' w3) (fun z col _ => ?_)⟩
    have gen : ∀ j, minN (fun i => KC G s st (0 + i) z col) j = sm 1 (minN (fun m => sm (tgt z (G 5 (G 2 s 0) 0) (st % 8) m) (tgt z (G 4 s 1) (m + 8 * (st / 8)) col)) j) := by
      intro j
      induction j with
      | zero => exact sm_inf1.symm
      | succ j ihj =>
        have e1 : KC G s st (0 + j) z col = sm 1 (sm (tgt z (G 5 (G 2 s 0) 0) (st % 8) j) (tgt z (G 4 s 1) (j + 8 * (st / 8)) col)) := by rw [Nat.zero_add]; rfl
        rw [minN_s, minN_s, sm_min, ihj, e1]
    rw [derE z col, sm_min, ← gen 8]
