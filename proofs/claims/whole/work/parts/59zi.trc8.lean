/-! ===== pure rows 59e: a step of the reference's run, and all steps ===== -/
def row5 (t u : Nat → Int32) (k : Nat) (a b c d e : Int32) : Prop := u (5 * k) = a ∧ u (5 * k + 1) = b ∧ u (5 * k + 2) = c ∧ u (5 * k + 3) = d ∧ u (5 * k + 4) = e ∧ ∀ j, j < 5 * k → u j = t j
theorem row5_ok (t : Nat → Int32) (k : Nat) (a b c d e : Int32) : row5 t (upd (upd (upd (upd (upd t (5 * k) a) (5 * k + 1) b) (5 * k + 2) c) (5 * k + 3) d) (5 * k + 4) e) k a b c d e := by
  refine ⟨?_, ?_, ?_, ?_, upd_at _ _ _, fun j hj => ?_⟩
  · rw [upd_ne (by omega), upd_ne (by omega), upd_ne (by omega), upd_ne (by omega), upd_at]
  · rw [upd_ne (by omega), upd_ne (by omega), upd_ne (by omega), upd_at]
  · rw [upd_ne (by omega), upd_ne (by omega), upd_at]
  · rw [upd_ne (by omega), upd_at]
  · rw [upd_ne (by omega), upd_ne (by omega), upd_ne (by omega), upd_ne (by omega), upd_ne (by omega)]
theorem row5_v {t u : Nat → Int32} {k : Nat} {a b c d e f : Int32} (h : row5 t u k a b c d e) : row5 t (upd u (5 * k + 4) f) k a b c d f := by
  obtain ⟨h1, h2, h3, h4, h5, h6⟩ := h
  refine ⟨?_, ?_, ?_, ?_, upd_at _ _ _, fun j hj => ?_⟩
  · rw [upd_ne (by omega)]; exact h1
  · rw [upd_ne (by omega)]; exact h2
  · rw [upd_ne (by omega)]; exact h3
  · rw [upd_ne (by omega)]; exact h4
  · rw [upd_ne (by omega)]; exact h6 j hj
def mfrC (c : CfT) (cB cT cL : Nat → Int32) : Prop := mfr c.2.2.1 c.2.2.2.1 c.2.2.2.2.1 c.2.2.2.2.2.1 cB cT cL
theorem mfr_low {o o2 : Nat} {BP BL : Nat → Nat} {W : Nat → Nat → Nat} {cB cT cL : Nat → Int32} (ho : o2 ≤ o) (h : mfr o BP BL W cB cT cL) : mfr o2 BP BL W cB cT cL := fun i hi => h i (by omega)
theorem r_folStep {G : Nat → Nat → Nat → Nat} {M : Nat → Nat → Int32} (h : okPg G) (hm : mPg G M) {re ex : Nat → Int32} {Y : Nat → Nat} (hY : isL (288 * G 7 0 0) (opA G allA) (fun _ => 536870912) Y) {cE cF cB cT cL c2 c14 : Nat → Int32} (hE : tmE (G 7 0 0) Y cE) (hF : tmF (G 7 0 0) Y cF) {n k lf p st o : Nat} {BP BL : Nat → Nat} {W : Nat → Nat → Nat} {Q : Nat → Nat} (hn : n ≤ 2000) (hlf : n = lf + 1 + k) (ho : o ≤ k) (hT : okT G re ex Y (lf + 1) (p, st, o, BP, BL, W, Q)) (hf : mfr o BP BL W cB cT cL) (n1 n2 n3 tl : Int32) (k25 : KF) :
    ∃ (z2 z3 z4 m1 m2 m3 z5 : Int32) (d2 dB dT dL d14 : Nat → Int32), fX11_follow_b25 (M 3) (M 1) (M 0) cF cE (M 2) (M 5) (M 6) (M 7) (M 4) k25 (nI n) (pM p) (nI (st % 8)) (nI (st / 8)) (nI k) n1 n2 n3 tl (nI o) c2 cB cT cL c14 = k25 (nI n) z2 z3 z4 (nI (k + 1)) m1 m2 m3 tl z5 d2 dB dT dL d14 ∧
      row5 c2 d2 k (nI p) (nI (o + 1)) (nI (st % 8)) (nI (st / 8)) (tvT G Y lf (p, st, o, BP, BL, W, Q)) ∧
      (lf ≠ 0 → z2 = pM (nxT G Y lf (p, st, o, BP, BL, W, Q)).1 ∧ z3 = nI ((nxT G Y lf (p, st, o, BP, BL, W, Q)).2.1 % 8) ∧ z4 = nI ((nxT G Y lf (p, st, o, BP, BL, W, Q)).2.1 / 8) ∧ z5 = nI (nxT G Y lf (p, st, o, BP, BL, W, Q)).2.2.1 ∧ mfrC (nxT G Y lf (p, st, o, BP, BL, W, Q)) dB dT dL) := by
  obtain ⟨fu, hfu, hfg⟩ := fu_any
  have hcc := hT
  obtain ⟨c1, cR, cFr, cV⟩ := hT
  simp only at c1 cR cFr cV
  have hS := h.1
  have hst := cR.2.1
  obtain ⟨k0, k1, k2, k3, k4, k5⟩ := h.2.2.2.2 p c1
  obtain ⟨q0, q1, q1a, q1b, qA, qI, qC, q4, q5, q6, q7, qX⟩ := hm.2 p c1
  have bp := inb_nI (j := p) (n := 40) (by omega) (by decide)
  have kp := nI_clamp (n := p) (by omega)
  have z3 : nI (G 0 p 0) = 3 ↔ G 0 p 0 = 3 := nI_eq (a := G 0 p 0) (b := 3) (by omega) (by decide)
  have z6 : nI (G 0 p 0) = 6 ↔ G 0 p 0 = 6 := nI_eq (a := G 0 p 0) (b := 6) (by omega) (by decide)
  have hWv : ∀ m, m < 8 → vl (W o m) := fun m hm => frT_vl hY.1 cFr (Nat.le_refl _) hm
  have hlow : ∀ i, i < o → BP (i + 1) ≤ 40 ∧ (∃ l, l < 4 ∧ BL (i + 1) = 8 * l) ∧ cT i = pM (BP (i + 1)) ∧ cL i = nI (BL (i + 1) / 8) := fun i hi => ⟨(cFr.2 (i + 1) (by omega) (by omega)).1, (cFr.2 (i + 1) (by omega) (by omega)).2.2.1, (hf i hi).2⟩
  have e5 : (5 : Int32) * nI k = nI (5 * k) := pk_mul 5 _
  have b0 := inb_nI (j := 5 * k) (n := 10000) (by omega) (by decide)
  have b1 := inb_nI (j := 5 * k + 1) (n := 10000) (by omega) (by decide)
  have b2 := inb_nI (j := 5 * k + 2) (n := 10000) (by omega) (by decide)
  have b3 := inb_nI (j := 5 * k + 3) (n := 10000) (by omega) (by decide)
  have b4 := inb_nI (j := 5 * k + 4) (n := 10000) (by omega) (by decide)
  have j0 := nI_clamp (n := 5 * k) (by omega)
  have j1 := nI_clamp (n := 5 * k + 1) (by omega)
  have j2 := nI_clamp (n := 5 * k + 2) (by omega)
  have j3 := nI_clamp (n := 5 * k + 3) (by omega)
  have j4 := nI_clamp (n := 5 * k + 4) (by omega)
  have i2 : nI (5 * k) + 2 = nI (5 * k + 2) := nI_add _ 2
  have i3 : nI (5 * k) + 3 = nI (5 * k + 3) := nI_add _ 3
  have i4 : nI (5 * k) + 4 = nI (5 * k + 4) := nI_add _ 4
  have hsx : sa G p (vT G Y lf (p, st, o, BP, BL, W, Q)) st < 32 := sa_lt k1 hst
  -- what comes behind the step, where it is no call
  have fin : ∀ (m1 m2 m3 : Int32) (d2 d14 : Nat → Int32), ¬ G 0 p 0 = 3 → G 4 p (vT G Y lf (p, st, o, BP, BL, W, Q)) ≤ 40 →
      row5 c2 d2 k (nI p) (nI (o + 1)) (nI (st % 8)) (nI (st / 8)) (tvT G Y lf (p, st, o, BP, BL, W, Q)) →
      m1 = nI (sa G p (vT G Y lf (p, st, o, BP, BL, W, Q)) st % 8) → m2 = nI (sa G p (vT G Y lf (p, st, o, BP, BL, W, Q)) st / 8) → m3 = pM (G 4 p (vT G Y lf (p, st, o, BP, BL, W, Q))) →
      ∃ (z2 z3 z4 n1 n2 n3 z5 : Int32) (e2 dB dT dL e14 : Nat → Int32), fX11_follow_l314 (M 3) (M 1) (M 0) cF cE (M 2) (M 5) (M 6) (M 7) (M 4) k25 FU (nI n) m3 m1 m2 (nI k) m1 m2 m3 tl (nI o) d2 cB cT cL d14 = k25 (nI n) z2 z3 z4 (nI (k + 1)) n1 n2 n3 tl z5 e2 dB dT dL e14 ∧
        row5 c2 e2 k (nI p) (nI (o + 1)) (nI (st % 8)) (nI (st / 8)) (tvT G Y lf (p, st, o, BP, BL, W, Q)) ∧
        (lf ≠ 0 → z2 = pM (nxT G Y lf (p, st, o, BP, BL, W, Q)).1 ∧ z3 = nI ((nxT G Y lf (p, st, o, BP, BL, W, Q)).2.1 % 8) ∧ z4 = nI ((nxT G Y lf (p, st, o, BP, BL, W, Q)).2.1 / 8) ∧ z5 = nI (nxT G Y lf (p, st, o, BP, BL, W, Q)).2.2.1 ∧ mfrC (nxT G Y lf (p, st, o, BP, BL, W, Q)) dB dT dL) := by
    intro m1 m2 m3 d2 d14 h3 hle hrow e1 e2 e3
    subst e1 e2 e3
    have lv := (r_leave (BP := BP) (BL := BL) (c1 := M 3) (c3 := M 1) (c4 := M 0) (c6 := cF) (c7 := cE) (c10 := M 2) (c11 := M 5) (c12 := M 6) (c13 := M 7) (c15 := M 4) (cT := cT) (cL := cL) k25 (nI n) (nI k) (nI (sa G p (vT G Y lf (p, st, o, BP, BL, W, Q)) st % 8)) (nI (sa G p (vT G Y lf (p, st, o, BP, BL, W, Q)) st / 8)) (pM (G 4 p (vT G Y lf (p, st, o, BP, BL, W, Q)))) tl d2 cB d14 o fu (G 4 p (vT G Y lf (p, st, o, BP, BL, W, Q))) (sa G p (vT G Y lf (p, st, o, BP, BL, W, Q)) st) (by omega) (by omega) hle hsx hlow).1
    rw [nI_1] at lv
    rw [hfu, lv]
    have eN : nxT G Y lf (p, st, o, BP, BL, W, Q) = ((popT BP BL o (G 4 p (vT G Y lf (p, st, o, BP, BL, W, Q))) (sa G p (vT G Y lf (p, st, o, BP, BL, W, Q)) st)).1, (popT BP BL o (G 4 p (vT G Y lf (p, st, o, BP, BL, W, Q))) (sa G p (vT G Y lf (p, st, o, BP, BL, W, Q)) st)).2.1, (popT BP BL o (G 4 p (vT G Y lf (p, st, o, BP, BL, W, Q))) (sa G p (vT G Y lf (p, st, o, BP, BL, W, Q)) st)).2.2, BP, BL, W, Q) := by
      unfold nxT
      exact if_neg h3
    rw [eN]
    exact ⟨_, _, _, _, _, _, _, _, _, _, _, _, rfl, hrow, fun _ => ⟨rfl, rfl, rfl, rfl, mfr_low (popT_le _ _ _) hf⟩⟩
  have sa1 : ¬ G 0 p 0 = 0 → sa G p (vT G Y lf (p, st, o, BP, BL, W, Q)) st = st := fun z => by unfold sa; rw [if_neg z]
  unfold fX11_follow_b25
  rw [pM_lt (show p < 40 by omega), if_neg (nI_ge (a := k) (b := n) (by omega) (by omega)), nm_q, nI_dif (by omega), show n - k = lf + 1 by omega]
  rw [nm_q, e5, bd_eq _ b0, nm_q, j0]
  rw [nm_q, nm_q, nI_1, nm_q, nI_1, bd_eq _ b1, nm_q, j1]
  rw [nm_q, nm_q, i2, bd_eq _ b2, nm_q, j2]
  rw [nm_q, nm_q, i3, bd_eq _ b3, nm_q, j3]
  rw [nm_q, nm_q, i4, bd_eq _ b4, nm_q, j4]
  rw [bd_eq _ bp, nm_q, kp, q1, bd_eq _ bp, nm_q, q0]
  have hrow := row5_ok c2 k (nI p) (nI (o + 1)) (nI (st % 8)) (nI (st / 8)) (-1)
  generalize upd (upd (upd (upd (upd c2 (5 * k) (nI p)) (5 * k + 1) (nI (o + 1))) (5 * k + 2) (nI (st % 8))) (5 * k + 3) (nI (st / 8))) (5 * k + 4) (-1) = t5 at hrow
  by_cases h3 : G 0 p 0 = 3
  · rw [if_pos (z3.mpr h3)]
    have hn1 := k5 1 (by decide)
    have hE5 : G 5 (G 2 p 0) 0 ≤ 40 := by
      rcases h.2.2.2.1 _ (k2 h3) with z | z <;> omega
    obtain ⟨d, d1, d2, d3⟩ := r_call (cT := cT) (cL := cL) (c14 := c14) (c2 := t5) (c11 := M 5) (c12 := M 6) (c13 := M 7) (c15 := M 4) (cB := cB) (w := W o) h hm hY.1 hE hF c1 h3 hst (show o ≤ 2000 by omega) hWv (fun z => by rw [z]; exact cFr.1) (fun i hi m hm => by rw [hi]; exact (hf i (by omega)).1 m hm) k25 (nI n) (nI k) (nI (st % 8)) (nI (st / 8)) (pM (G 9 p 0)) tl
    rw [d1]
    have lv := (r_leave (BP := fset BP (o + 1) (G 4 p 1)) (BL := fset BL (o + 1) (8 * (st / 8))) (c1 := M 3) (c3 := M 1) (c4 := M 0) (c6 := cF) (c7 := cE) (c10 := M 2) (c11 := M 5) (c12 := M 6) (c13 := M 7) (c15 := M 4) (cT := upd cT o (pM (G 4 p 1))) (cL := upd cL o (nI (st / 8))) k25 (nI n) (nI k) (nI (st % 8)) 0 (pM (G 5 (G 2 p 0) 0)) tl t5 d c14 (o + 1) fu (G 5 (G 2 p 0) 0) (st % 8) (by omega) (by omega) hE5 (by omega) (fun i hi => by
      by_cases q : i = o
      · rw [q, fset_at, fset_at, upd_at, upd_at]
        exact ⟨hn1.2.2 h3, ⟨st / 8, by omega, rfl⟩, rfl, by rw [show 8 * (st / 8) / 8 = st / 8 by omega]⟩
      · rw [fset_ne (show i + 1 ≠ o + 1 by omega), fset_ne (show i + 1 ≠ o + 1 by omega), upd_ne q, upd_ne q]
        exact hlow i (by omega))).1
    rw [nI_1, show st % 8 % 8 = st % 8 by omega, show st % 8 / 8 = 0 by omega] at lv
    rw [hfu, show (0 : Int32) = nI 0 from rfl]
    rw [show (0 : Int32) = nI 0 from rfl] at lv
    rw [lv]
    have eN : nxT G Y lf (p, st, o, BP, BL, W, Q) = ((popT (fset BP (o + 1) (G 4 p 1)) (fset BL (o + 1) (8 * (st / 8))) (o + 1) (G 5 (G 2 p 0) 0) (st % 8)).1, (popT (fset BP (o + 1) (G 4 p 1)) (fset BL (o + 1) (8 * (st / 8))) (o + 1) (G 5 (G 2 p 0) 0) (st % 8)).2.1, (popT (fset BP (o + 1) (G 4 p 1)) (fset BL (o + 1) (8 * (st / 8))) (o + 1) (G 5 (G 2 p 0) 0) (st % 8)).2.2, fset BP (o + 1) (G 4 p 1), fset BL (o + 1) (8 * (st / 8)), fset W (o + 1) (fun m => VP Y (W o) (G 4 p 1) (m + 8 * (st / 8))), fset Q (o + 1) (G 2 p 0)) := by
      unfold nxT
      exact if_pos h3
    have etv : tvT G Y lf (p, st, o, BP, BL, W, Q) = -1 := by
      unfold tvT
      rw [if_pos (Or.inl h3)]
    rw [eN, etv]
    have mf : mfr (o + 1) (fset BP (o + 1) (G 4 p 1)) (fset BL (o + 1) (8 * (st / 8))) (fset W (o + 1) (fun m => VP Y (W o) (G 4 p 1) (m + 8 * (st / 8)))) d (upd cT o (pM (G 4 p 1))) (upd cL o (nI (st / 8))) := by
      intro i hi
      by_cases q : i = o
      · rw [q, fset_at, fset_at, fset_at, upd_at, upd_at, show 8 * (st / 8) / 8 = st / 8 by omega]
        exact ⟨d3, rfl, rfl⟩
      · rw [fset_ne (show i + 1 ≠ o + 1 by omega), fset_ne (show i + 1 ≠ o + 1 by omega), fset_ne (show i + 1 ≠ o + 1 by omega), upd_ne q, upd_ne q]
        exact ⟨fun m hm => by rw [d2 _ (by omega)]; exact (hf i (by omega)).1 m hm, (hf i (by omega)).2⟩
    exact ⟨_, _, _, _, _, _, _, _, _, _, _, _, rfl, hrow, fun _ => ⟨rfl, rfl, rfl, rfl, mfr_low (popT_le _ _ _) mf⟩⟩
  · rw [if_neg (fun z => h3 (z3.mp z)), bd_eq _ bp, nm_q]
    unfold fX11_follow_p298
    by_cases h6 : G 0 p 0 = 6
    · rw [if_pos (z6.mpr h6)]
      obtain ⟨a1, a2⟩ := q6 h6
      have ev : vT G Y lf (p, st, o, BP, BL, W, Q) = 1 := by
        unfold vT
        exact if_neg (fun z => by have y : cn G p 0 st = true := z.1; rw [(a2 st).1] at y; cases y)
      have etv : tvT G Y lf (p, st, o, BP, BL, W, Q) = -1 := by
        unfold tvT
        rw [if_pos (Or.inr (show 5 < G 0 p 0 by omega))]
      have es := sa1 (by omega)
      rw [← etv] at hrow
      rw [ev] at es
      refine fin _ _ _ t5 c14 h3 (by rw [ev, a1]; exact Nat.le_refl _) hrow ?_ ?_ ?_
      · rw [ev, es]
      · rw [ev, es]
      · rw [ev, a1, pM_40]
    · rw [if_neg (fun z => h6 (z6.mp z)), r_chooses h hm c1, ob_s]
      by_cases hch : G 0 p 0 < 3 ∨ G 0 p 0 = 4 ∨ G 0 p 0 = 5
      · simp only [if_pos hch]
        obtain ⟨m1, m2, m3, va2, ta⟩ := r_takes (cB := cB) (cT := cT) (cL := cL) (re := re) (ex := ex) h hm hY hE hF (show lf + 1 ≤ 2000 by omega) (show o ≤ 2000 by omega) hcc hf hch (nI (st % 8)) (nI (st / 8)) (pM (G 9 p 0)) c14
        rw [if_neg n10, ta, ob_s, nm_q, nm_q, i4, bd_eq _ b4, nm_q, j4]
        have etv : tvT G Y lf (p, st, o, BP, BL, W, Q) = nI (vT G Y lf (p, st, o, BP, BL, W, Q)) := by
          unfold tvT
          rw [if_neg (show ¬ (G 0 p 0 = 3 ∨ 5 < G 0 p 0) by omega)]
        have hrow2 := row5_v (f := tvT G Y lf (p, st, o, BP, BL, W, Q)) hrow
        rw [etv] at hrow2
        obtain ⟨v1, v2, v3⟩ := vT_ok h hY (by omega) hcc h3
        by_cases hgo : G 0 p 0 < 3 ∨ ((G 0 p 0 = 4 ∨ G 0 p 0 = 5) ∧ vT G Y lf (p, st, o, BP, BL, W, Q) = 1)
        · obtain ⟨g2, l2, hg2, hl2, esa, hle, ego⟩ := r_go h hm c1 (g := st % 8) (l := st / 8) (v := vT G Y lf (p, st, o, BP, BL, W, Q)) (by omega) (by omega) v1 hgo m1 m2 m3
          rw [show st % 8 + 8 * (st / 8) = st by omega] at esa
          rw [ego, ob_s]
          refine fin _ _ _ _ va2 h3 hle (by rw [etv]; exact hrow2) ?_ ?_ rfl
          · rw [esa, show (g2 + 8 * l2) % 8 = g2 by omega]
          · rw [esa, show (g2 + 8 * l2) / 8 = l2 by omega]
        · -- the step that fails: the last
          have ev : vT G Y lf (p, st, o, BP, BL, W, Q) = 0 := by omega
          have hk4 : G 0 p 0 = 4 ∨ G 0 p 0 = 5 := by omega
          have hlf0 : lf = 0 := by
            rw [ev] at v3
            simp only at v3
            rcases hk4 with w | w
            · rw [(q4 w).2, VP_41] at v3; exact v3.symm
            · rw [(q5 w).2, VP_42] at v3; omega
          have ego : fX11_go (nI p) (nI (st % 8)) (nI (st / 8)) (nI (vT G Y lf (p, st, o, BP, BL, W, Q))) m1 m2 m3 (M 1) (M 0) (M 2) (M 4) = some (nI (st % 8), nI (st / 8), pM (G 9 p 0)) := by
            have w0 : nI (G 0 p 0) = 0 ↔ G 0 p 0 = 0 := nI_eq (a := G 0 p 0) (b := 0) (by omega) (by decide)
            have w1 : nI (G 0 p 0) = 1 ↔ G 0 p 0 = 1 := nI_eq (a := G 0 p 0) (b := 1) (by omega) (by decide)
            have w2 : nI (G 0 p 0) = 2 ↔ G 0 p 0 = 2 := nI_eq (a := G 0 p 0) (b := 2) (by omega) (by decide)
            unfold fX11_go fX11_go_p184
            rw [bd_eq _ bp, nm_q, kp, q1, bd_eq _ bp, nm_q, q0, if_neg (fun z => by have := w0.mp z; omega), bd_eq _ bp, nm_q, if_neg (fun z => by have := w1.mp z; omega), bd_eq _ bp, nm_q, if_neg (fun z => by have := w2.mp z; omega)]
          rw [ego, ob_s]
          have lv := (r_leave (BP := BP) (BL := BL) (c1 := M 3) (c3 := M 1) (c4 := M 0) (c6 := cF) (c7 := cE) (c10 := M 2) (c11 := M 5) (c12 := M 6) (c13 := M 7) (c15 := M 4) (cT := cT) (cL := cL) k25 (nI n) (nI k) (nI (st % 8)) (nI (st / 8)) (pM (G 9 p 0)) tl (upd t5 (5 * k + 4) (nI (vT G Y lf (p, st, o, BP, BL, W, Q)))) cB va2 o fu (G 9 p 0) st (by omega) (by omega) q1a hst hlow).1
          rw [nI_1] at lv
          rw [hfu]
          refine ⟨_, _, _, _, _, _, _, _, _, _, _, _, lv, by rw [etv]; exact hrow2, fun z => absurd hlf0 z⟩
      · simp only [if_neg hch]
        have h7 : G 0 p 0 = 7 := by omega
        obtain ⟨a1, a2⟩ := q7 h7
        have ev : vT G Y lf (p, st, o, BP, BL, W, Q) = 1 := by
          unfold vT
          exact if_neg (fun z => by have y : cn G p 0 st = true := z.1; rw [(a2 st).1] at y; cases y)
        have etv : tvT G Y lf (p, st, o, BP, BL, W, Q) = -1 := by
          unfold tvT
          rw [if_pos (Or.inr (show 5 < G 0 p 0 by omega))]
        have es := sa1 (by omega)
        rw [← etv] at hrow
        rw [ev] at es
        rw [if_pos trivial]
        refine fin _ _ _ t5 c14 h3 (by rw [ev, a1]; exact q1a) hrow ?_ ?_ ?_
        · rw [ev, es]
        · rw [ev, es]
        · rw [ev, a1]
