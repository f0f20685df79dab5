/-! ===== pure rows 59c: the reference's choice of a value ===== -/
theorem r_costOf {S g p l o : Nat} (hS : S ≤ 40) {Y w : Nat → Nat} {cB cF cE : Nat → Int32} (hE : tmE S Y cE) (hF : tmF S Y cF) (ho : o ≤ 2001) (hw : ∀ m, m < 8 → vl (w m)) (h0 : o = 0 → ∀ m, m < 8 → w m = 536870912) (hB : ∀ i, o = i + 1 → ∀ m, m < 8 → cB (8 * i + m) = mI (w m)) (hg : g < 8) (hl : l < 4) (hp : p ≤ 40) (hpS : p < 40 → p < S) : fX11_costOf (nI g) (pM p) (nI l) (nI o) cB cF cE = some (mI (VP Y w p (g + 8 * l)), ()) := by
  obtain ⟨fu, hfu, hfg⟩ := fu_any
  unfold fX11_costOf fX11_costOf_p33
  by_cases h : p < 40
  · have hpp := hpS h
    have hb : atI g p l < 1280 := by unfold atI; omega
    obtain ⟨f1, f2⟩ := hF g p l hg hpp hl
    have eV : VP Y w p (g + 8 * l) = min (Y (rI p (g + 8 * l) 8)) (minN (fun m => sm (Y (rI p (g + 8 * l) m)) (w m)) 8) := by
      unfold VP
      rw [tgt_lt h, minN_congr 8 (fun m hm => by rw [tgt_lt h])]
    have key : ∀ (k i n : Nat), i + k = 8 → k < n → fX11_costOf_l50 (nI o) cB cF cE n (nI g) (nI p) (nI l) (mI (min (Y (rI p (g + 8 * l) 8)) (minN (fun m => sm (Y (rI p (g + 8 * l) m)) (w m)) i))) (nI i) = some (mI (min (Y (rI p (g + 8 * l) 8)) (minN (fun m => sm (Y (rI p (g + 8 * l) m)) (w m)) 8)), ()) := by
      intro k
      induction k with
      | zero =>
        intro i n g1 g2
        obtain ⟨n, rfl⟩ : ∃ z, n = z + 1 := ⟨n - 1, by omega⟩
        have ei : i = 8 := by omega
        subst ei
        show fX11_costOf_b50 (nI o) cB cF cE _ (nI g) (nI p) (nI l) _ (nI 8) = _
        unfold fX11_costOf_b50 fX11_costOf_p125
        rw [if_pos (by decide)]
      | succ k ih =>
        intro i n g1 g2
        obtain ⟨n, rfl⟩ : ∃ z, n = z + 1 := ⟨n - 1, by omega⟩
        show fX11_costOf_b50 (nI o) cB cF cE (fX11_costOf_l50 (nI o) cB cF cE n) (nI g) (nI p) (nI l) _ (nI i) = _
        unfold fX11_costOf_b50 fX11_costOf_p125 fX11_costOf_p117
        rw [if_neg (show ¬ (8 : Int32) ≤ nI i from nI_ge (a := i) (b := 8) (by omega) (by omega))]
        cases o with
        | zero =>
          rw [if_pos (by decide)]
          have e : ∀ i, minN (fun m => sm (Y (rI p (g + 8 * l) m)) (w m)) (min i 8) = 536870912 := by
            intro i
            apply eq_le
            intro c
            rw [le_minN]
            exact ⟨fun q => q.1, fun q => ⟨q, fun j hj => by rw [h0 rfl j (by omega), sm_infr]; exact q⟩⟩
          have e1 := e i
          have e2 := e 8
          rw [Nat.min_eq_left (by omega)] at e1
          rw [Nat.min_self] at e2
          rw [e1, e2]
        | succ o =>
          obtain ⟨t1, t2⟩ := hE g p l i hg hpp hl (by omega)
          have e8 : (8 : Int32) * nI (atI g p l) = nI (8 * atI g p l) := pk_mul 8 _
          have eo : (8 : Int32) * nI o = nI (8 * o) := pk_mul 8 _
          have hbb : 8 * atI g p l + i < 10240 := by unfold atI; omega
          have hvm : vl (min (Y (rI p (g + 8 * l) 8)) (minN (fun m => sm (Y (rI p (g + 8 * l) m)) (w m)) i)) := vl_min f2 (minN_vl (fun _ => sm_vl) i)
          have e := ih (i + 1) n (by omega) (by omega)
          rw [minN_s, ← min_comm3] at e
          rw [if_neg (nI_nle (by omega) (by omega)), r_at, ob_s, nm_q, e8, nm_q, nI_add, bd_eq _ (inb_nI (j := 8 * atI g p l + i) (n := 10240) hbb (by decide)), nm_q, nI_clamp (n := 8 * atI g p l + i) (by omega), t1, nm_q, nI_pred, nm_q, eo, nm_q, nI_add, bd_eq _ (inb_nI (j := 8 * o + i) (n := 16016) (by omega) (by decide)), nm_q, nI_clamp (n := 8 * o + i) (by omega), hB o rfl i (by omega), r_sum t2 (hw i (by omega)), ob_s]
          by_cases q : min (Y (rI p (g + 8 * l) 8)) (minN (fun m => sm (Y (rI p (g + 8 * l) m)) (w m)) i) ≤ sm (Y (rI p (g + 8 * l) i)) (w i)
          · rw [if_pos ((mI_le hvm sm_vl).mpr q), nm_q, nI_1]
            rw [Nat.min_eq_left q] at e
            exact e
          · rw [if_neg (fun z => q ((mI_le hvm sm_vl).mp z)), nm_q, nI_1]
            rw [Nat.min_eq_right (by omega)] at e
            exact e
    have k0 := key 8 0 fu (by omega) (by omega)
    have e0 : min (Y (rI p (g + 8 * l) 8)) (minN (fun m => sm (Y (rI p (g + 8 * l) m)) (w m)) 0) = Y (rI p (g + 8 * l) 8) := Nat.min_eq_left (vl_lt f2)
    rw [e0] at k0
    rw [pM_lt h, if_neg (nI_m1 (by omega)), r_at, ob_s, bd_eq _ (inb_nI (j := atI g p l) (n := 1280) hb (by decide)), nm_q, nI_clamp (n := atI g p l) (by omega), f1, hfu, eV]
    exact k0
  · have h40 : p = 40 := by omega
    subst h40
    rw [pM_40, if_pos rfl, VP_40 hw, show (g + 8 * l) % 8 = g by omega]
    cases o with
    | zero => rw [if_pos (by decide), h0 rfl g hg, mI_inf]
    | succ o =>
      have eo : (8 : Int32) * nI o = nI (8 * o) := pk_mul 8 _
      rw [if_neg (nI_ne0 (by omega) (by omega)), nm_q, nI_pred, nm_q, eo, nm_q, nI_add, bd_eq _ (inb_nI (j := 8 * o + g) (n := 16016) (by omega) (by decide)), nm_q, nI_clamp (n := 8 * o + g) (by omega), hB o rfl g hg]
theorem can_bit0 {G : Nat → Nat → Nat → Nat} {s st : Nat} : (nI (canN G s st) &&& 1) = 0 ↔ ¬ cn G s 0 st = true := by
  unfold canN
  cases cn G s 0 st <;> cases cn G s 1 st <;> decide
theorem mI_lf {v lf : Nat} (hv : vl v) (hl : lf ≤ 2000) : mI v = nI lf ↔ v = lf := by
  have e : nI lf = mI lf := (mI_fin (by omega)).symm
  rw [e]
  exact mI_eq hv (Or.inl (by omega))
/-- what the reference keeps of the open calls -/
def mfr (o : Nat) (BP BL : Nat → Nat) (W : Nat → Nat → Nat) (cB cT cL : Nat → Int32) : Prop := ∀ i, i < o → (∀ m, m < 8 → cB (8 * i + m) = mI (W (i + 1) m)) ∧ cT i = pM (BP (i + 1)) ∧ cL i = nI (BL (i + 1) / 8)
theorem r_takes {G : Nat → Nat → Nat → Nat} {M : Nat → Nat → Int32} (h : okPg G) (hm : mPg G M) {re ex : Nat → Int32} {Y : Nat → Nat} (hY : isL (288 * G 7 0 0) (opA G allA) (fun _ => 536870912) Y) {cE cF cB cT cL : Nat → Int32} (hE : tmE (G 7 0 0) Y cE) (hF : tmF (G 7 0 0) Y cF) {lf p st o : Nat} {BP BL : Nat → Nat} {W : Nat → Nat → Nat} {Q : Nat → Nat} (hl : lf + 1 ≤ 2000) (ho : o ≤ 2000) (hT : okT G re ex Y (lf + 1) (p, st, o, BP, BL, W, Q)) (hf : mfr o BP BL W cB cT cL) (hk : G 0 p 0 < 3 ∨ G 0 p 0 = 4 ∨ G 0 p 0 = 5) (n1 n2 n3 : Int32) (va : Nat → Int32) :
    ∃ (m1 m2 m3 : Int32) (va2 : Nat → Int32), fX11_takes (nI p) (nI (st % 8)) (nI (st / 8)) (nI (lf + 1)) n1 n2 n3 (nI o) (M 5) (M 6) (M 7) va (M 0) (M 1) (M 2) (M 4) cB cF cE = some (nI (vT G Y lf (p, st, o, BP, BL, W, Q)), (m1, m2, m3, va2)) := by
  obtain ⟨c1, c2, cF2, cV⟩ := hT
  simp only at c1 c2 cF2 cV
  have hS := h.1
  have hst := c2.2.1
  obtain ⟨k0, k1, k2, k3, k4, k5⟩ := h.2.2.2.2 p c1
  obtain ⟨q0, q1, q1a, q1b, qA, qI, qC, q4, q5, q6, q7, qX⟩ := hm.2 p c1
  obtain ⟨va2, eva⟩ := qX hk (st % 8) (st / 8) va (by omega) (by omega)
  rw [show st % 8 + 8 * (st / 8) = st by omega] at eva
  have bs := inb_nI (j := p) (n := 40) (by omega) (by decide)
  have ks := nI_clamp (n := p) (by omega)
  have z4 : nI (G 0 p 0) = 4 ↔ G 0 p 0 = 4 := nI_eq (a := G 0 p 0) (b := 4) (by omega) (by decide)
  have z5 : nI (G 0 p 0) = 5 ↔ G 0 p 0 = 5 := nI_eq (a := G 0 p 0) (b := 5) (by omega) (by decide)
  have hWv : ∀ m, m < 8 → vl (W o m) := fun m hm => frT_vl hY.1 cF2 (Nat.le_refl _) hm
  unfold fX11_takes fX11_takes_p88 fX11_takes_p39
  rw [eva, ob_s, nm_q]
  by_cases hcn : cn G p 0 st = true
  · rw [if_neg (fun z => can_bit0.mp z hcn), bd_eq _ bs, nm_q, ks, q0]
    by_cases h4 : G 0 p 0 = 4
    · rw [if_pos (z4.mpr h4)]
      have e41 := (q4 h4).2
      by_cases hlf : lf = 0
      · have ev : vT G Y lf (p, st, o, BP, BL, W, Q) = 0 := by
          unfold vT
          simp only
          rw [e41, VP_41]
          exact if_pos ⟨hcn, hlf.symm⟩
        rw [if_pos (by rw [hlf]; rfl), ev]
        exact ⟨_, _, _, _, rfl⟩
      · have ev : vT G Y lf (p, st, o, BP, BL, W, Q) = 1 := by
          unfold vT
          simp only
          rw [e41, VP_41]
          exact if_neg (fun z => hlf z.2.symm)
        have z1 : nI (lf + 1) = 1 ↔ lf + 1 = 1 := nI_eq (a := lf + 1) (b := 1) (by omega) (by decide)
        rw [if_neg (fun z => hlf (by have := z1.mp z; omega)), ev]
        exact ⟨_, _, _, _, rfl⟩
    · rw [if_neg (fun z => h4 (z4.mp z)), bd_eq _ bs, nm_q]
      by_cases h5 : G 0 p 0 = 5
      · have e42 := (q5 h5).2
        have ev : vT G Y lf (p, st, o, BP, BL, W, Q) = 1 := by
          unfold vT
          simp only
          rw [e42, VP_42]
          exact if_neg (fun z => by have := z.2; omega)
        rw [if_pos (z5.mpr h5), ev]
        exact ⟨_, _, _, _, rfl⟩
      · rw [if_neg (fun z => h5 (z5.mp z))]
        have hk3 : G 0 p 0 < 3 := by omega
        obtain ⟨g2, l2, hg2, hl2, esa, hle, ego⟩ := r_go h hm c1 (g := st % 8) (l := st / 8) (v := 0) (by omega) (by omega) (by decide) (Or.inl hk3) n1 n2 n3
        rw [show st % 8 + 8 * (st / 8) = st by omega] at esa
        have hn := k5 0 (by decide)
        have eco := r_costOf (g := g2) (l := l2) (p := G 4 p 0) (o := o) (w := W o) hS hE hF (by omega) hWv (fun z => by rw [z]; exact cF2.1) (fun i hi m hm => by rw [hi]; exact (hf i (by omega)).1 m hm) hg2 hl2 hle (fun z => (hn.2.1 z).1)
        have hvl : vl (VP Y (W o) (G 4 p 0) (sa G p 0 st)) := VP_vl hY.1 (fun z => (hn.2.1 z).1) (sa_lt k1 hst)
        rw [← esa] at eco
        rw [show (0 : Int32) = nI 0 from rfl, ego, ob_s, eco, ob_s, nm_q, nI_pred]
        by_cases hq : VP Y (W o) (G 4 p 0) (sa G p 0 st) = lf
        · have ev : vT G Y lf (p, st, o, BP, BL, W, Q) = 0 := by
            unfold vT
            exact if_pos ⟨hcn, hq⟩
          rw [if_pos ((mI_lf hvl (by omega)).mpr hq), ev]
          exact ⟨_, _, _, _, rfl⟩
        · have ev : vT G Y lf (p, st, o, BP, BL, W, Q) = 1 := by
            unfold vT
            exact if_neg (fun z => hq z.2)
          rw [if_neg (fun z => hq ((mI_lf hvl (by omega)).mp z)), ev]
          exact ⟨_, _, _, _, rfl⟩
  · have ev : vT G Y lf (p, st, o, BP, BL, W, Q) = 1 := by
      unfold vT
      exact if_neg (fun z => hcn z.1)
    rw [if_pos (can_bit0.mpr hcn), ev]
    exact ⟨_, _, _, _, rfl⟩
theorem r_chooses {G : Nat → Nat → Nat → Nat} {M : Nat → Nat → Int32} (h : okPg G) (hm : mPg G M) {p : Nat} (hp : p < G 7 0 0) : fX11_chooses (nI p) (M 0) = some (if G 0 p 0 < 3 ∨ G 0 p 0 = 4 ∨ G 0 p 0 = 5 then 1 else 0, ()) := by
  have hS := h.1
  have k0 := (h.2.2.2.2 p hp).1
  have q0 := (hm.2 p hp).1
  have bs := inb_nI (j := p) (n := 40) (by omega) (by decide)
  have ks := nI_clamp (n := p) (by omega)
  have z3 : nI (G 0 p 0) < 3 ↔ G 0 p 0 < 3 := nI_ltI (a := G 0 p 0) (b := 3) (by omega) (by decide)
  have z4 : nI (G 0 p 0) = 4 ↔ G 0 p 0 = 4 := nI_eq (a := G 0 p 0) (b := 4) (by omega) (by decide)
  have z5 : nI (G 0 p 0) = 5 ↔ G 0 p 0 = 5 := nI_eq (a := G 0 p 0) (b := 5) (by omega) (by decide)
  unfold fX11_chooses fX11_chooses_p30 fX11_chooses_p35
  rw [bd_eq _ bs, nm_q, ks, q0]
  by_cases h3 : G 0 p 0 < 3
  · rw [if_pos (z3.mpr h3), if_pos (Or.inl h3), bd_eq _ (by decide)]
  · rw [if_neg (fun z => h3 (z3.mp z)), bd_eq _ bs, nm_q]
    by_cases h4 : G 0 p 0 = 4
    · rw [if_pos (z4.mpr h4), if_pos (Or.inr (Or.inl h4)), bd_eq _ (by decide)]
    · rw [if_neg (fun z => h4 (z4.mp z)), bd_eq _ bs, nm_q]
      by_cases h5 : G 0 p 0 = 5
      · rw [if_pos (z5.mpr h5), if_pos (Or.inr (Or.inr h5)), bd_eq _ (by decide)]
      · rw [if_neg (fun z => h5 (z5.mp z)), if_neg (fun z => z.elim h3 (fun y => y.elim h4 h5)), bd_eq _ (by decide)]
