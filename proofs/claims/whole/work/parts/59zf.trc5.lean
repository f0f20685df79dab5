/-! ===== pure rows 59b: a step of the record, and all steps ===== -/
theorem c_recStep {G : Nat → Nat → Nat → Nat} {C : Nat → Nat → Int32} {value : Nat → Int64} (h : okPg G) (hc : cPg G C value) {re ex : Nat → Int32} (hr : isRe G re ex) {X Y : Nat → Nat} (hX : isL (288 * G 7 0 0) (opA G (fun s st => bi (re s) st)) (fun _ => 536870912) X) (hY : isL (288 * G 7 0 0) (opA G allA) (fun _ => 536870912) Y) {cost c3 c4 c5 c6 c7 c13 c14 : Nat → Int32} (hcost : tbS (288 * G 7 0 0) X cost) {n k lf p st o : Nat} {BP BL : Nat → Nat} {W : Nat → Nat → Nat} {Q : Nat → Nat} (hn : n ≤ 2000) (hlf : n = lf + 1 + k) (ho : o ≤ k) (hT : okT G re ex Y (lf + 1) (p, st, o, BP, BL, W, Q)) (hf : cfr ex o BP BL W Q c3 c13 c14) (pr : Int32)
    (k50 : Int32 → Int32 → Int32 → Int32 → Int32 → Int32 → (Nat → Int32) → (Nat → Int32) → (Nat → Int32) → (Nat → Int32) → (Nat → Int32) → (Nat → Int32) → (Nat → Int32) → Option (Int32 × Int32 × Int32 × Int32 × (Nat → Int32) × (Nat → Int32) × (Nat → Int32) × (Nat → Int32) × (Nat → Int32) × (Nat → Int32) × (Nat → Int32))) :
    ∃ d3 d7 d13 d14 : Nat → Int32, fX8_record_b50 pr (C 0) (C 1) (C 3) (C 4) cost (C 2) value (C 6) k50 (nI n) (nI k) (nI k) (nI o) (pI p) (nI st) c3 c4 c5 c6 c7 c13 c14 =
      k50 (nI n) (nI (k + 1)) (nI (k + 1)) (nI (nxT G Y lf (p, st, o, BP, BL, W, Q)).2.2.1) (pI (nxT G Y lf (p, st, o, BP, BL, W, Q)).1) (nI (nxT G Y lf (p, st, o, BP, BL, W, Q)).2.1) d3 (upd c4 k (nI p)) (upd c5 k (nI (o + 1))) (upd c6 k (nI st)) d7 d13 d14 ∧
      cfr ex (nxT G Y lf (p, st, o, BP, BL, W, Q)).2.2.1 (nxT G Y lf (p, st, o, BP, BL, W, Q)).2.2.2.1 (nxT G Y lf (p, st, o, BP, BL, W, Q)).2.2.2.2.1 (nxT G Y lf (p, st, o, BP, BL, W, Q)).2.2.2.2.2.1 (nxT G Y lf (p, st, o, BP, BL, W, Q)).2.2.2.2.2.2 d3 d13 d14 ∧ d7 k = tvT G Y lf (p, st, o, BP, BL, W, Q) ∧ ∀ j, j ≠ k → d7 j = c7 j := by
  obtain ⟨fu, hfu, hg⟩ := fu_any
  have hcc := hT
  obtain ⟨c1, c2, cF, cV⟩ := hT
  simp only at c1 c2 cF cV
  have hS := h.1
  have hst := c2.2.1
  obtain ⟨k0, k1, k2, k3, k4, k5⟩ := h.2.2.2.2 p c1
  have hact := c2.2.2.2.1 (show p < 40 by omega)
  have hown := (c2.2.2.1 (show p < 40 by omega)).2
  have bk := inb_nI (j := k) (n := 2000) (by omega) (by decide)
  have kk := nI_clamp (n := k) (by omega)
  have bp := inb_nI (j := p) (n := 40) (by omega) (by decide)
  have kp := nI_clamp (n := p) (by omega)
  have z3 : nI (G 0 p 0) = 3 ↔ G 0 p 0 = 3 := nI_eq (a := G 0 p 0) (b := 3) (by omega) (by decide)
  have hwv : ∀ m, m < 8 → vl (wOf c3 o m) := fun m hm => (wOf_ok hf (Nat.le_refl _) hm).2.1
  have hWv : ∀ m, m < 8 → vl (W o m) := fun m hm => frT_vl hY.1 cF (Nat.le_refl _) hm
  have hlow : ∀ i, 1 ≤ i → i ≤ o → BP i ≤ 42 ∧ (∃ l, l < 4 ∧ BL i = 8 * l) ∧ c13 i = pI (BP i) ∧ c14 i = nI (BL i) := fun i h1 h2 => ⟨Nat.le_trans (cF.2 i h1 h2).1 (by decide), (cF.2 i h1 h2).2.2.1, hf.2 i h1 h2⟩
  unfold fX8_record_b50 fX8_record_p155
  rw [pI_lt (show p < 40 by omega), if_neg (nI_ge (a := k) (b := n) (by omega) (by omega)), if_neg (show ¬ (2000 : Int32) ≤ nI k from nI_ge (a := k) (b := 2000) (by omega) (by omega)), if_neg (nI_pos (n := p) (by omega)), bd_eq _ bk, nm_q, kk, nm_q, nI_1, bd_eq _ bk, nm_q, bd_eq _ bk, nm_q, bd_eq _ bk, nm_q, nm_q, nI_1, bd_eq _ bp, nm_q, kp, (hc.2 p c1).1]
  by_cases h3 : G 0 p 0 = 3
  · obtain ⟨d, d1, d2, d3⟩ := c_openCall (c13 := c13) (c14 := c14) h hc hcost c1 h3 hst (show o < 2000 by omega) (wC := wOf c3 o) (fun m hm => ⟨(wOf_ok hf (Nat.le_refl _) hm).1, hwv m hm⟩)
    have hn1 := k5 1 (by decide)
    have hE : G 5 (G 2 p 0) 0 ≤ 42 := by
      rcases h.2.2.2.1 _ (k2 h3) with z | z <;> omega
    have lv := c_leave (BP := fset BP (o + 1) (G 4 p 1)) (BL := fset BL (o + 1) (8 * (st / 8))) (c13 := upd c13 (o + 1) (pI (G 4 p 1))) (c14 := upd c14 (o + 1) (nI (8 * (st / 8)))) (o + 1) fu (G 5 (G 2 p 0) 0) (st % 8) (by omega) (by omega) hE (by omega) (fun i h1 h2 => by
      by_cases q : i = o + 1
      · rw [q, fset_at, fset_at, upd_at, upd_at]
        exact ⟨by have := hn1.2.2 h3; omega, ⟨st / 8, by omega, rfl⟩, rfl, rfl⟩
      · rw [fset_ne q, fset_ne q, upd_ne q, upd_ne q]
        exact hlow i h1 (by omega))
    rw [if_pos (z3.mpr h3), d1, ob_s]
    unfold fX8_leaveEndedCalls
    rw [hfu, lv, ob_s, nm_q]
    have eN : nxT G Y lf (p, st, o, BP, BL, W, Q) = ((popT (fset BP (o + 1) (G 4 p 1)) (fset BL (o + 1) (8 * (st / 8))) (o + 1) (G 5 (G 2 p 0) 0) (st % 8)).1, (popT (fset BP (o + 1) (G 4 p 1)) (fset BL (o + 1) (8 * (st / 8))) (o + 1) (G 5 (G 2 p 0) 0) (st % 8)).2.1, (popT (fset BP (o + 1) (G 4 p 1)) (fset BL (o + 1) (8 * (st / 8))) (o + 1) (G 5 (G 2 p 0) 0) (st % 8)).2.2, fset BP (o + 1) (G 4 p 1), fset BL (o + 1) (8 * (st / 8)), fset W (o + 1) (fun m => VP Y (W o) (G 4 p 1) (m + 8 * (st / 8))), fset Q (o + 1) (G 2 p 0)) := by
      unfold nxT
      exact if_pos h3
    rw [eN]
    refine ⟨d, upd c7 k (-1), upd c13 (o + 1) (pI (G 4 p 1)), upd c14 (o + 1) (nI (8 * (st / 8))), rfl, ?_, ?_, fun j hj => upd_ne hj⟩
    · show cfr ex (popT (fset BP (o + 1) (G 4 p 1)) (fset BL (o + 1) (8 * (st / 8))) (o + 1) (G 5 (G 2 p 0) 0) (st % 8)).2.2 (fset BP (o + 1) (G 4 p 1)) (fset BL (o + 1) (8 * (st / 8))) (fset W (o + 1) (fun m => VP Y (W o) (G 4 p 1) (m + 8 * (st / 8)))) (fset Q (o + 1) (G 2 p 0)) d (upd c13 (o + 1) (pI (G 4 p 1))) (upd c14 (o + 1) (nI (8 * (st / 8))))
      have lowf := cfr_fset (k := o + 1) (a := G 4 p 1) (b := 8 * (st / 8)) (e := G 2 p 0) (f := fun m => VP Y (W o) (G 4 p 1) (m + 8 * (st / 8))) (x := pI (G 4 p 1)) (y := nI (8 * (st / 8))) (by omega) d2 hf
      by_cases he : G 5 (G 2 p 0) 0 < 40
      · refine cfr_low (popT_le _ _ _) ⟨fun i hi m hm => ?_, fun i h1 h2 => ?_⟩
        · by_cases q : i = o + 1
          · rw [q, d3 m hm, fset_at, fset_at]
            refine ⟨_, rfl, VP_vl hX.1 (fun z => (hn1.2.1 z).1) (by omega), fun w => ?_⟩
            have wx : bi (ex (G 2 p 0)) m = true := w.elim (fun y => absurd y (by omega)) id
            obtain ⟨r1, r2⟩ := (hr.2 p c1).2 h3 st hact
            have r3 := (r2 he).2 m hm wx
            rw [hown] at r3
            exact vp_same h hr hX hY (q := Q o) ⟨hn1.1, by omega, fun z => ⟨(hn1.2.1 z).1, (hn1.2.1 z).2.trans hown⟩, r3⟩ hwv hWv (fun m hm hb => (wOf_ok hf (Nat.le_refl _) hm).2.2 (Or.inr hb))
          · exact lowf.1 i (by omega) m hm
        · by_cases q : i = o + 1
          · rw [q, upd_at, upd_at, fset_at, fset_at]; exact ⟨rfl, rfl⟩
          · exact lowf.2 i h1 (by omega)
      · have he40 : G 5 (G 2 p 0) 0 = 40 := by
          rcases h.2.2.2.1 _ (k2 h3) with z | z <;> omega
        refine cfr_low (o := o) ?_ lowf
        rw [he40]
        show (if (40 : Nat) = 40 then popT (fset BP (o + 1) (G 4 p 1)) (fset BL (o + 1) (8 * (st / 8))) o (fset BP (o + 1) (G 4 p 1) (o + 1)) (st % 8 % 8 + fset BL (o + 1) (8 * (st / 8)) (o + 1)) else (40, st % 8, o + 1)).2.2 ≤ o
        rw [if_pos rfl]
        exact popT_le _ _ _
    · rw [upd_at]
      unfold tvT
      rw [if_pos (Or.inl h3)]
  · have ts := c_takeStep (c7 := upd c7 k (-1)) h hc hr hX hY hcost (k := k) (lf := lf) (by omega) (by omega) (by omega) hcc hf h3
    obtain ⟨v1, v2, v3⟩ := vT_ok h hY (by omega) hcc h3
    have hn1 := k5 _ v1
    have lv := c_leave (BP := BP) (BL := BL) (c13 := c13) (c14 := c14) o fu (G 4 p (vT G Y lf (p, st, o, BP, BL, W, Q))) (sa G p (vT G Y lf (p, st, o, BP, BL, W, Q)) st) (by omega) (by omega) hn1.1 (sa_lt k1 hst) hlow
    have ed : nI n - nI k - 1 = nI lf := by rw [nI_dif (by omega), show n - k = lf + 1 by omega, nI_pred]
    rw [if_neg (fun z => h3 (z3.mp z)), nm_q, nm_q, ed, ts, ob_s]
    unfold fX8_leaveEndedCalls
    rw [hfu, lv, ob_s, nm_q]
    have eN : nxT G Y lf (p, st, o, BP, BL, W, Q) = ((popT BP BL o (G 4 p (vT G Y lf (p, st, o, BP, BL, W, Q))) (sa G p (vT G Y lf (p, st, o, BP, BL, W, Q)) st)).1, (popT BP BL o (G 4 p (vT G Y lf (p, st, o, BP, BL, W, Q))) (sa G p (vT G Y lf (p, st, o, BP, BL, W, Q)) st)).2.1, (popT BP BL o (G 4 p (vT G Y lf (p, st, o, BP, BL, W, Q))) (sa G p (vT G Y lf (p, st, o, BP, BL, W, Q)) st)).2.2, BP, BL, W, Q) := by
      unfold nxT
      exact if_neg h3
    rw [eN]
    refine ⟨c3, upd (upd c7 k (-1)) k (tvT G Y lf (p, st, o, BP, BL, W, Q)), c13, c14, rfl, cfr_low (popT_le _ _ _) hf, upd_at _ _ _, fun j hj => ?_⟩
    rw [upd_ne hj, upd_ne hj]
/-- the rows of the record up to k -/
def rcd (G : Nat → Nat → Nat → Nat) (Y : Nat → Nat) (n k : Nat) (c4 c5 c6 c7 : Nat → Int32) : Prop :=
  ∀ j, j < k → c4 j = nI (cfT G Y n j).1 ∧ c5 j = nI ((cfT G Y n j).2.2.1 + 1) ∧ c6 j = nI (cfT G Y n j).2.1 ∧ c7 j = tvT G Y (n - (j + 1)) (cfT G Y n j)
def cfrC (ex : Nat → Int32) (c : CfT) (c3 c13 c14 : Nat → Int32) : Prop := cfr ex c.2.2.1 c.2.2.2.1 c.2.2.2.2.1 c.2.2.2.2.2.1 c.2.2.2.2.2.2 c3 c13 c14
theorem c_recStep2 {G : Nat → Nat → Nat → Nat} {C : Nat → Nat → Int32} {value : Nat → Int64} (h : okPg G) (hc : cPg G C value) {re ex : Nat → Int32} (hr : isRe G re ex) {X Y : Nat → Nat} (hX : isL (288 * G 7 0 0) (opA G (fun s st => bi (re s) st)) (fun _ => 536870912) X) (hY : isL (288 * G 7 0 0) (opA G allA) (fun _ => 536870912) Y) {cost c3 c4 c5 c6 c7 c13 c14 : Nat → Int32} (hcost : tbS (288 * G 7 0 0) X cost) {n k lf : Nat} {c : CfT} (hn : n ≤ 2000) (hlf : n = lf + 1 + k) (ho : c.2.2.1 ≤ k) (hT : okT G re ex Y (lf + 1) c) (hf : cfrC ex c c3 c13 c14) (pr : Int32)
    (k50 : Int32 → Int32 → Int32 → Int32 → Int32 → Int32 → (Nat → Int32) → (Nat → Int32) → (Nat → Int32) → (Nat → Int32) → (Nat → Int32) → (Nat → Int32) → (Nat → Int32) → Option (Int32 × Int32 × Int32 × Int32 × (Nat → Int32) × (Nat → Int32) × (Nat → Int32) × (Nat → Int32) × (Nat → Int32) × (Nat → Int32) × (Nat → Int32))) :
    ∃ d3 d7 d13 d14 : Nat → Int32, fX8_record_b50 pr (C 0) (C 1) (C 3) (C 4) cost (C 2) value (C 6) k50 (nI n) (nI k) (nI k) (nI c.2.2.1) (pI c.1) (nI c.2.1) c3 c4 c5 c6 c7 c13 c14 =
      k50 (nI n) (nI (k + 1)) (nI (k + 1)) (nI (nxT G Y lf c).2.2.1) (pI (nxT G Y lf c).1) (nI (nxT G Y lf c).2.1) d3 (upd c4 k (nI c.1)) (upd c5 k (nI (c.2.2.1 + 1))) (upd c6 k (nI c.2.1)) d7 d13 d14 ∧
      cfrC ex (nxT G Y lf c) d3 d13 d14 ∧ d7 k = tvT G Y lf c ∧ ∀ j, j ≠ k → d7 j = c7 j := by
  obtain ⟨p, st, o, BP, BL, W, Q⟩ := c
  exact c_recStep h hc hr hX hY hcost hn hlf ho hT hf pr k50
theorem c_l50 {G : Nat → Nat → Nat → Nat} {C : Nat → Nat → Int32} {value : Nat → Int64} (h : okPg G) (hc : cPg G C value) {re ex : Nat → Int32} (hr : isRe G re ex) {X Y : Nat → Nat} (hX : isL (288 * G 7 0 0) (opA G (fun s st => bi (re s) st)) (fun _ => 536870912) X) (hY : isL (288 * G 7 0 0) (opA G allA) (fun _ => 536870912) Y) {cost : Nat → Int32} (hcost : tbS (288 * G 7 0 0) X cost) {n : Nat} (hn : n ≤ 2000) (h0 : G 5 0 0 < 40) (hv : Y (rI (G 5 0 0) 0 8) = n) (pr : Int32) :
    ∀ (kk k f : Nat) (c3 c4 c5 c6 c7 c13 c14 : Nat → Int32), k + kk = n → kk < f → cfrC ex (cfT G Y n k) c3 c13 c14 → rcd G Y n k c4 c5 c6 c7 →
      Wq (fX8_record_l50 pr (C 0) (C 1) (C 3) (C 4) cost (C 2) value (C 6) f (nI n) (nI k) (nI k) (nI (cfT G Y n k).2.2.1) (pI (cfT G Y n k).1) (nI (cfT G Y n k).2.1) c3 c4 c5 c6 c7 c13 c14) (fun r => r.1 = nI n ∧ rcd G Y n n r.2.2.2.2.2.1 r.2.2.2.2.2.2.1 r.2.2.2.2.2.2.2.1 r.2.2.2.2.2.2.2.2.1) := by
  intro kk
  induction kk with
  | zero =>
    intro k f c3 c4 c5 c6 c7 c13 c14 g1 g2 hf hd
    obtain ⟨f, rfl⟩ : ∃ z, f = z + 1 := ⟨f - 1, by omega⟩
    have ek : k = n := by omega
    subst ek
    show Wq (fX8_record_b50 pr (C 0) (C 1) (C 3) (C 4) cost (C 2) value (C 6) _ (nI k) (nI k) (nI k) (nI (cfT G Y k k).2.2.1) (pI (cfT G Y k k).1) (nI (cfT G Y k k).2.1) c3 c4 c5 c6 c7 c13 c14) _
    unfold fX8_record_b50 fX8_record_p165
    rw [if_pos (nI_le (a := k) (b := k) (Nat.le_refl _) (by omega))]
    exact Wq_some ⟨rfl, hd⟩
  | succ kk ih =>
    intro k f c3 c4 c5 c6 c7 c13 c14 g1 g2 hf hd
    obtain ⟨f, rfl⟩ : ∃ z, f = z + 1 := ⟨f - 1, by omega⟩
    obtain ⟨o1, o2⟩ := cfT_ok h hr hY hn h0 hv k (by omega)
    rw [show n - k = (n - (k + 1)) + 1 by omega] at o1
    obtain ⟨d3, d7, d13, d14, e1, e2, e3, e4⟩ := c_recStep2 (c4 := c4) (c5 := c5) (c6 := c6) (c7 := c7) h hc hr hX hY hcost (k := k) (lf := n - (k + 1)) hn (by omega) o2 o1 hf pr (fX8_record_l50 pr (C 0) (C 1) (C 3) (C 4) cost (C 2) value (C 6) f)
    show Wq (fX8_record_b50 pr (C 0) (C 1) (C 3) (C 4) cost (C 2) value (C 6) (fX8_record_l50 pr (C 0) (C 1) (C 3) (C 4) cost (C 2) value (C 6) f) (nI n) (nI k) (nI k) (nI (cfT G Y n k).2.2.1) (pI (cfT G Y n k).1) (nI (cfT G Y n k).2.1) c3 c4 c5 c6 c7 c13 c14) _
    rw [e1]
    refine ih (k + 1) f d3 _ _ _ d7 d13 d14 (by omega) (by omega) e2 (fun j hj => ?_)
    by_cases q : j = k
    · rw [q, upd_at, upd_at, upd_at, e3]
      exact ⟨rfl, rfl, rfl, rfl⟩
    · rw [upd_ne q, upd_ne q, upd_ne q, e4 j q]
      exact hd j (by omega)
theorem c_record {G : Nat → Nat → Nat → Nat} {C : Nat → Nat → Int32} {value : Nat → Int64} (h : okPg G) (hc : cPg G C value) {re ex : Nat → Int32} (hr : isRe G re ex) {X Y : Nat → Nat} (hX : isL (288 * G 7 0 0) (opA G (fun s st => bi (re s) st)) (fun _ => 536870912) X) (hY : isL (288 * G 7 0 0) (opA G allA) (fun _ => 536870912) Y) {cost : Nat → Int32} (hcost : tbS (288 * G 7 0 0) X cost) {n : Nat} (hn : n ≤ 2000) (h0 : G 5 0 0 < 40) (hv : Y (rI (G 5 0 0) 0 8) = n) (x1 x2 x3 x4 : Int32) (c3 c4 c5 c6 c7 c13 c14 : Nat → Int32) :
    Wq (fX8_record (nI n) x1 x2 x3 x4 (nI (G 8 0 0)) (C 0) c3 c4 c5 c6 c7 (C 1) (C 3) (C 4) cost c13 c14 (C 2) value (C 6)) (fun r => r.1 = nI n ∧ rcd G Y n n r.2.2.2.2.2.1 r.2.2.2.2.2.2.1 r.2.2.2.2.2.2.2.1 r.2.2.2.2.2.2.2.2.1) := by
  obtain ⟨fu, hfu, hg⟩ := fu_any
  have key : ∀ (k i f : Nat) (c : Nat → Int32), i + k = 8 → k < f → (∀ j, j < i → c j = 536870912) → Wq (fX8_record_l28 (nI (G 8 0 0)) (C 0) (C 1) (C 3) (C 4) cost (C 2) value (C 6) f (nI n) (nI i) 0 0 (pI (G 5 0 0)) 0 c c4 c5 c6 c7 c13 c14) (fun r => r.1 = nI n ∧ rcd G Y n n r.2.2.2.2.2.1 r.2.2.2.2.2.2.1 r.2.2.2.2.2.2.2.1 r.2.2.2.2.2.2.2.2.1) := by
    intro k
    induction k with
    | zero =>
      intro i f c g1 g2 hcl
      obtain ⟨f, rfl⟩ : ∃ z, f = z + 1 := ⟨f - 1, by omega⟩
      show Wq (fX8_record_b28 (nI (G 8 0 0)) (C 0) (C 1) (C 3) (C 4) cost (C 2) value (C 6) _ (nI n) (nI i) 0 0 (pI (G 5 0 0)) 0 c c4 c5 c6 c7 c13 c14) _
      unfold fX8_record_b28
      rw [if_pos (show (8 : Int32) ≤ nI i from nI_le (a := 8) (b := i) (by omega) (by omega)), hfu]
      refine c_l50 h hc hr hX hY hcost hn h0 hv _ n 0 fu c c4 c5 c6 c7 c13 c14 (by omega) (by omega) ⟨fun a ha m hm => ?_, fun a h1 h2 => ?_⟩ (fun j hj => absurd hj (by omega))
      · have ha' : a ≤ 0 := ha
        have ea : a = 0 := by omega
        subst ea
        rw [show 8 * 0 + m = m by omega, hcl m (by omega)]
        exact ⟨536870912, rfl, Or.inr rfl, fun _ => rfl⟩
      · have h2' : a ≤ 0 := h2
        omega
    | succ k ih =>
      intro i f c g1 g2 hcl
      obtain ⟨f, rfl⟩ : ∃ z, f = z + 1 := ⟨f - 1, by omega⟩
      show Wq (fX8_record_b28 (nI (G 8 0 0)) (C 0) (C 1) (C 3) (C 4) cost (C 2) value (C 6) (fX8_record_l28 (nI (G 8 0 0)) (C 0) (C 1) (C 3) (C 4) cost (C 2) value (C 6) f) (nI n) (nI i) 0 0 (pI (G 5 0 0)) 0 c c4 c5 c6 c7 c13 c14) _
      unfold fX8_record_b28
      rw [if_neg (show ¬ (8 : Int32) ≤ nI i from nI_ge (a := i) (b := 8) (by omega) (by omega)), bd_eq _ (inb_nI (j := i) (n := 16008) (by omega) (by decide)), nm_q, nI_clamp (n := i) (by omega), nm_q, nI_1]
      refine ih (i + 1) f _ (by omega) (by omega) (fun j hj => ?_)
      by_cases q : j = i
      · rw [q, upd_at]
      · rw [upd_ne q]; exact hcl j (by omega)
  unfold fX8_record
  rw [c_firstPoint h hc, ob_s, hfu]
  exact key 8 0 fu c3 (by omega) (by omega) (fun j hj => absurd hj (by omega))
