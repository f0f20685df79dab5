/-! ===== pure rows 59f: the reference's run and check ===== -/
theorem isL_same {N : Nat} {F : (Nat → Nat) → Nat → Nat} {y0 D E : Nat → Nat} (h1 : isL N F y0 D) (h2 : isL N F y0 E) : ∀ j, j < N → D j = E j := fun j hj => Nat.le_antisymm (h2.2.2.2.2 D h1.2.1 h1.2.2.1 j hj) (h1.2.2.2.2 E h2.2.1 h2.2.2.1 j hj)
theorem tmE_same {S : Nat} {x y : Nat → Nat} {c : Nat → Int32} (h : ∀ j, j < 288 * S → x j = y j) (hx : tmE S x c) : tmE S y c := fun g s l t hg hs hl ht => by
  rw [← h _ (rI_lt hs (by omega) (by omega))]
  exact hx g s l t hg hs hl ht
theorem tmF_same {S : Nat} {x y : Nat → Nat} {c : Nat → Int32} (h : ∀ j, j < 288 * S → x j = y j) (hx : tmF S x c) : tmF S y c := fun g s l hg hs hl => by
  rw [← h _ (rI_lt hs (by omega) (by omega))]
  exact hx g s l hg hs hl
theorem r_folStep2 {G : Nat → Nat → Nat → Nat} {M : Nat → Nat → Int32} (h : okPg G) (hm : mPg G M) {re ex : Nat → Int32} {Y : Nat → Nat} (hY : isL (288 * G 7 0 0) (opA G allA) (fun _ => 536870912) Y) {cE cF cB cT cL c2 c14 : Nat → Int32} (hE : tmE (G 7 0 0) Y cE) (hF : tmF (G 7 0 0) Y cF) {n k lf : Nat} {c : CfT} (hn : n ≤ 2000) (hlf : n = lf + 1 + k) (ho : c.2.2.1 ≤ k) (hT : okT G re ex Y (lf + 1) c) (hf : mfrC c cB cT cL) (n1 n2 n3 tl : Int32) (k25 : KF) :
    ∃ (z2 z3 z4 m1 m2 m3 z5 : Int32) (d2 dB dT dL d14 : Nat → Int32), fX11_follow_b25 (M 3) (M 1) (M 0) cF cE (M 2) (M 5) (M 6) (M 7) (M 4) k25 (nI n) (pM c.1) (nI (c.2.1 % 8)) (nI (c.2.1 / 8)) (nI k) n1 n2 n3 tl (nI c.2.2.1) c2 cB cT cL c14 = k25 (nI n) z2 z3 z4 (nI (k + 1)) m1 m2 m3 tl z5 d2 dB dT dL d14 ∧
      row5 c2 d2 k (nI c.1) (nI (c.2.2.1 + 1)) (nI (c.2.1 % 8)) (nI (c.2.1 / 8)) (tvT G Y lf c) ∧
      (lf ≠ 0 → z2 = pM (nxT G Y lf c).1 ∧ z3 = nI ((nxT G Y lf c).2.1 % 8) ∧ z4 = nI ((nxT G Y lf c).2.1 / 8) ∧ z5 = nI (nxT G Y lf c).2.2.1 ∧ mfrC (nxT G Y lf c) dB dT dL) := by
  obtain ⟨p, st, o, BP, BL, W, Q⟩ := c
  exact r_folStep h hm hY hE hF hn hlf ho hT hf n1 n2 n3 tl k25
theorem r_l25 {G : Nat → Nat → Nat → Nat} {M : Nat → Nat → Int32} (h : okPg G) (hm : mPg G M) {re ex : Nat → Int32} (hr : isRe G re ex) {Y : Nat → Nat} (hY : isL (288 * G 7 0 0) (opA G allA) (fun _ => 536870912) Y) {cE cF : Nat → Int32} (hE : tmE (G 7 0 0) Y cE) (hF : tmF (G 7 0 0) Y cF) {n : Nat} (hn : n ≤ 2000) (h0 : G 5 0 0 < 40) (hv : Y (rI (G 5 0 0) 0 8) = n) (tl : Int32) :
    ∀ (kk k f : Nat) (y2 y3 y4 n1 n2 n3 z5 : Int32) (c2 cB cT cL c14 : Nat → Int32), k + kk = n → kk < f → trM G Y n k c2 →
      (k < n → y2 = pM (cfT G Y n k).1 ∧ y3 = nI ((cfT G Y n k).2.1 % 8) ∧ y4 = nI ((cfT G Y n k).2.1 / 8) ∧ z5 = nI (cfT G Y n k).2.2.1 ∧ mfrC (cfT G Y n k) cB cT cL) →
      Wq (fX11_follow_l25 (M 3) (M 1) (M 0) cF cE (M 2) (M 5) (M 6) (M 7) (M 4) f (nI n) y2 y3 y4 (nI k) n1 n2 n3 tl z5 c2 cB cT cL c14) (fun r => r.2.2.2.1 = tl ∧ trM G Y n n r.2.2.2.2.2.1) := by
  intro kk
  induction kk with
  | zero =>
    intro k f y2 y3 y4 n1 n2 n3 z5 c2 cB cT cL c14 g1 g2 ht hc
    obtain ⟨f, rfl⟩ : ∃ z, f = z + 1 := ⟨f - 1, by omega⟩
    have ek : k = n := by omega
    subst ek
    show Wq (fX11_follow_b25 (M 3) (M 1) (M 0) cF cE (M 2) (M 5) (M 6) (M 7) (M 4) _ (nI k) y2 y3 y4 (nI k) n1 n2 n3 tl z5 c2 cB cT cL c14) _
    unfold fX11_follow_b25
    rw [if_pos (nI_le (a := k) (b := k) (Nat.le_refl _) (by omega))]
    exact Wq_some ⟨rfl, ht⟩
  | succ kk ih =>
    intro k f y2 y3 y4 n1 n2 n3 z5 c2 cB cT cL c14 g1 g2 ht hc
    obtain ⟨f, rfl⟩ : ∃ z, f = z + 1 := ⟨f - 1, by omega⟩
    obtain ⟨e1, e2, e3, e4, e5⟩ := hc (by omega)
    subst e1 e2 e3 e4
    obtain ⟨o1, o2⟩ := cfT_ok h hr hY hn h0 hv k (by omega)
    rw [show n - k = (n - (k + 1)) + 1 by omega] at o1
    obtain ⟨z2, z3, z4, m1, m2, m3, z5, d2, dB, dT, dL, d14, s1, s2, s3⟩ := r_folStep2 (c2 := c2) (c14 := c14) h hm hY hE hF (k := k) (lf := n - (k + 1)) hn (by omega) o2 o1 e5 n1 n2 n3 tl (fX11_follow_l25 (M 3) (M 1) (M 0) cF cE (M 2) (M 5) (M 6) (M 7) (M 4) f)
    show Wq (fX11_follow_b25 (M 3) (M 1) (M 0) cF cE (M 2) (M 5) (M 6) (M 7) (M 4) (fX11_follow_l25 (M 3) (M 1) (M 0) cF cE (M 2) (M 5) (M 6) (M 7) (M 4) f) (nI n) (pM (cfT G Y n k).1) (nI ((cfT G Y n k).2.1 % 8)) (nI ((cfT G Y n k).2.1 / 8)) (nI k) n1 n2 n3 tl (nI (cfT G Y n k).2.2.1) c2 cB cT cL c14) _
    rw [s1]
    refine ih (k + 1) f _ _ _ _ _ _ _ d2 dB dT dL d14 (by omega) (by omega) (fun j hj => ?_) (fun hk => s3 (by omega))
    obtain ⟨t0, t1, t2, t3, t4, t5⟩ := s2
    by_cases q : j = k
    · subst q
      exact ⟨t0, t1, t2, t3, t4⟩
    · rw [t5 (5 * j) (by omega), t5 (5 * j + 1) (by omega), t5 (5 * j + 2) (by omega), t5 (5 * j + 3) (by omega), t5 (5 * j + 4) (by omega)]
      exact ht j (by omega)
theorem r_follow {G : Nat → Nat → Nat → Nat} {M : Nat → Nat → Int32} (h : okPg G) (hm : mPg G M) {re ex : Nat → Int32} (hr : isRe G re ex) {Y : Nat → Nat} (hY : isL (288 * G 7 0 0) (opA G allA) (fun _ => 536870912) Y) {cE cF : Nat → Int32} (hE : tmE (G 7 0 0) Y cE) (hF : tmF (G 7 0 0) Y cF) {n : Nat} (hn : n ≤ 2000) (h0 : G 5 0 0 < 40) (hv : Y (rI (G 5 0 0) 0 8) = n) (n1 n2 n3 tl z5 : Int32) (c2 cB cT cL c14 : Nat → Int32) :
    Wq (fX11_follow (nI n) n1 n2 n3 tl z5 (M 3) c2 (M 1) (M 0) cB cF cE cT cL (M 2) (M 5) (M 6) (M 7) c14 (M 4)) (fun r => r.2.2.2.1 = nI n ∧ trM G Y n n r.2.2.2.2.2.1) := by
  obtain ⟨fu, hfu, hg⟩ := fu_any
  have hP := h.2.1
  unfold fX11_follow
  have e3 : M 3 ((0 : Int32).toNatClampNeg) = pM (G 5 0 0) := hm.1 0 (by omega)
  rw [bd_eq _ (by decide), nm_q, e3, hfu]
  exact r_l25 h hm hr hY hE hF hn h0 hv _ n 0 fu _ _ _ _ _ _ _ c2 cB cT cL c14 (by omega) (by omega) (fun j hj => absurd hj (by omega)) (fun _ => ⟨rfl, show (0 : Int32) = nI (0 % 8) from by decide, show (0 : Int32) = nI (0 / 8) from by decide, show (0 : Int32) = nI 0 from rfl, fun i hi => absurd hi (Nat.not_lt_zero _)⟩)
/-- how many steps until it fails -/
def ansN (G : Nat → Nat → Nat → Nat) (Y : Nat → Nat) : Nat := if G 5 0 0 < 40 then Y (rI (G 5 0 0) 0 8) else 536870912
def ansI (v : Nat) : Int32 := if v = 536870912 then -1 else nI v
theorem ansN_vl {G : Nat → Nat → Nat → Nat} (h : okPg G) {Y : Nat → Nat} (hY : ∀ j, j < 288 * G 7 0 0 → vl (Y j)) : vl (ansN G Y) := by
  unfold ansN
  by_cases q : G 5 0 0 < 40
  · rw [if_pos q]
    refine hY _ (rI_lt ?_ (by decide) (by decide))
    rcases h.2.2.2.1 0 h.2.1 with z | z
    · omega
    · exact z.1
  · rw [if_neg q]; exact Or.inr rfl
/-- the reference's trace behind a check -/
def trR (G : Nat → Nat → Nat → Nat) (Y : Nat → Nat) (tl : Int32) (t : Nat → Int32) : Prop := (ansN G Y ≤ 2000 → tl = nI (ansN G Y) ∧ trM G Y (ansN G Y) (ansN G Y) t) ∧ (2000 < ansN G Y → tl = 0)
theorem mI_ans {v : Nat} (h : vl v) : (if mI v = 2000000 then (-1 : Int32) else mI v) = ansI v := by
  unfold ansI
  rcases h with q | q
  · rw [mI_fin q, if_neg (nI_n2m q), if_neg (by omega)]
  · rw [q, mI_inf, if_pos rfl, if_pos rfl]
theorem r_check {G : Nat → Nat → Nat → Nat} {M : Nat → Nat → Int32} (h : okPg G) (hm : mPg G M) {re ex : Nat → Int32} (hr : isRe G re ex) {Y : Nat → Nat} (hY : isL (288 * G 7 0 0) (opA G allA) (fun _ => 536870912) Y) (th n1 n2 n3 tl z5 : Int32) (ce cf va c12 c13 c14 c15 : Nat → Int32) :
    Wq (fX11_check th 1 (nI (G 7 0 0)) n1 n2 n3 tl z5 ce cf (M 0) (M 1) (M 2) (M 3) (M 5) (M 6) (M 7) va (M 4) c12 c13 c14 c15) (fun r => r.1 = ansI (ansN G Y) ∧ r.2.1 = 0 ∧ trR G Y r.2.2.2.2.2.1 r.2.2.2.2.2.2.2.2.2.2.1) := by
  have hP := h.2.1
  have hv := ansN_vl h hY.1
  have e3 : M 3 ((0 : Int32).toNatClampNeg) = pM (G 5 0 0) := hm.1 0 (by omega)
  unfold fX11_check
  rw [if_neg n10]
  refine Wq_ob (r_solve h hm n1 n2 n3 ce cf va) (fun r hq => ?_)
  obtain ⟨x, x1, x2, x3⟩ := hq
  have hxY := isL_same x3 hY
  have y1 := tmE_same hxY x1
  have y2 := tmF_same hxY x2
  have core : ∀ (m1 m2 m3 w5 : Int32) (z0 : Int32) (va2 : Nat → Int32), z0 = mI (ansN G Y) → Wq (fX11_check_p50 1 (nI (G 7 0 0)) (M 0) (M 1) (M 2) (M 3) (M 5) (M 6) (M 7) (M 4) z0 0 m1 m2 m3 tl w5 r.2.2.2.1 r.2.2.2.2.1 va2 c12 c13 c14 c15) (fun r => r.1 = ansI (ansN G Y) ∧ r.2.1 = 0 ∧ trR G Y r.2.2.2.2.2.1 r.2.2.2.2.2.2.2.2.2.2.1) := by
    intro m1 m2 m3 w5 z0 va2 hz
    subst hz
    have ans := mI_ans hv
    have z2 : (2000 : Int32) < mI (ansN G Y) ↔ ¬ ansN G Y ≤ 2000 := by
      rw [← mI_2000 hv]
      exact Int32.not_le.symm
    have p68 : ∀ (a1 a2 a3 a4 a5 : Int32) (e1 e2 e10 e12 e13 e14 e15 : Nat → Int32), trR G Y a4 e12 → Wq (fX11_check_p68 1 (nI (G 7 0 0)) (M 0) (M 1) (M 2) (M 3) (M 5) (M 6) (M 7) (M 4) (mI (ansN G Y)) 0 a1 a2 a3 a4 a5 e1 e2 e10 e12 e13 e14 e15) (fun r => r.1 = ansI (ansN G Y) ∧ r.2.1 = 0 ∧ trR G Y r.2.2.2.2.2.1 r.2.2.2.2.2.2.2.2.2.2.1) := by
      intro a1 a2 a3 a4 a5 e1 e2 e10 e12 e13 e14 e15 ht
      unfold fX11_check_p68 fX11_check_p79
      by_cases q : mI (ansN G Y) = 2000000
      · rw [if_pos q]
        rw [if_pos q] at ans
        exact Wq_some ⟨ans, rfl, ht⟩
      · rw [if_neg q]
        rw [if_neg q] at ans
        exact Wq_some ⟨ans, rfl, ht⟩
    unfold fX11_check_p50
    by_cases q : ansN G Y ≤ 2000
    · rw [if_neg (fun z => z2.mp z q), mI_fin (show ansN G Y ≤ 1000000 by omega)]
      have h0 : G 5 0 0 < 40 := by
        by_cases z : G 5 0 0 < 40
        · exact z
        · unfold ansN at q; rw [if_neg z] at q; omega
      have hvv : Y (rI (G 5 0 0) 0 8) = ansN G Y := by unfold ansN; rw [if_pos h0]
      refine Wq_ob (r_follow h hm hr hY y1 y2 q h0 hvv _ _ _ _ _ _ _ _ _ _) (fun b hb => ?_)
      rw [← mI_fin (show ansN G Y ≤ 1000000 by omega)]
      exact p68 _ _ _ _ _ _ _ _ _ _ _ _ ⟨fun _ => hb, fun z => by omega⟩
    · rw [if_pos (z2.mpr q)]
      exact p68 _ _ _ _ _ _ _ _ _ _ _ _ ⟨fun z => absurd z q, fun _ => rfl⟩
  rw [bd_eq _ (by decide), nm_q, e3]
  by_cases h0 : G 5 0 0 < 40
  · have hen : G 5 0 0 < G 7 0 0 := by
      rcases h.2.2.2.1 0 h.2.1 with z | z
      · omega
      · exact z.1
    have hS := h.1
    have hb : atI 0 (G 5 0 0) 0 < 1280 := by unfold atI; omega
    obtain ⟨f1, f2⟩ := y2 0 (G 5 0 0) 0 (by decide) hen (by decide)
    have ra := r_at 0 (G 5 0 0) 0
    rw [pM_lt h0, if_neg (nI_m1 (by omega)), bd_eq _ (by decide), nm_q, show (0 : Int32) = nI 0 from rfl, ra, ob_s, bd_eq _ (inb_nI (j := atI 0 (G 5 0 0) 0) (n := 1280) hb (by decide)), nm_q, nI_clamp (n := atI 0 (G 5 0 0) 0) (by omega), f1]
    exact core _ _ _ _ _ _ (by unfold ansN; rw [if_pos h0])
  · rw [if_pos (by unfold pM; rw [if_neg h0])]
    exact core _ _ _ _ _ _ (by unfold ansN; rw [if_neg h0, mI_inf])
