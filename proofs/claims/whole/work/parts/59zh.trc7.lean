/-! ===== pure rows 59d: the reference's run ===== -/
abbrev KF : Type := Int32 → Int32 → Int32 → Int32 → Int32 → Int32 → Int32 → Int32 → Int32 → Int32 → (Nat → Int32) → (Nat → Int32) → (Nat → Int32) → (Nat → Int32) → (Nat → Int32) → Option (Int32 × Int32 × Int32 × Int32 × Int32 × (Nat → Int32) × (Nat → Int32) × (Nat → Int32) × (Nat → Int32) × (Nat → Int32))
theorem r_leave {BP BL : Nat → Nat} {c1 c3 c4 c6 c7 c10 c11 c12 c13 c15 cT cL : Nat → Int32} (k25 : KF) (y1 y5 n1 n2 n3 tl : Int32) (c2 c5 c14 : Nat → Int32) : ∀ (o n p st : Nat), o ≤ 2001 → o < n → p ≤ 40 → st < 32 → (∀ i, i < o → BP (i + 1) ≤ 40 ∧ (∃ l, l < 4 ∧ BL (i + 1) = 8 * l) ∧ cT i = pM (BP (i + 1)) ∧ cL i = nI (BL (i + 1) / 8)) →
    fX11_follow_l314 c1 c3 c4 c6 c7 c10 c11 c12 c13 c15 k25 n y1 (pM p) (nI (st % 8)) (nI (st / 8)) y5 n1 n2 n3 tl (nI o) c2 c5 cT cL c14 = k25 y1 (pM (popT BP BL o p st).1) (nI ((popT BP BL o p st).2.1 % 8)) (nI ((popT BP BL o p st).2.1 / 8)) (y5 + 1) n1 n2 n3 tl (nI (popT BP BL o p st).2.2) c2 c5 cT cL c14 ∧ (popT BP BL o p st).1 ≤ 40 := by
  intro o
  induction o with
  | zero =>
    intro n p st g1 g2 hp hst hr
    obtain ⟨n, rfl⟩ : ∃ z, n = z + 1 := ⟨n - 1, by omega⟩
    refine ⟨?_, hp⟩
    show fX11_follow_b314 c1 c3 c4 c6 c7 c10 c11 c12 c13 c15 k25 _ y1 (pM p) (nI (st % 8)) (nI (st / 8)) y5 n1 n2 n3 tl (nI 0) c2 c5 cT cL c14 = _
    unfold fX11_follow_b314 fX11_follow_p360
    by_cases h : pM p = -1
    · rw [if_pos h, if_pos (by decide), nm_q]; rfl
    · rw [if_neg h, nm_q]; rfl
  | succ o ih =>
    intro n p st g1 g2 hp hst hr
    obtain ⟨n, rfl⟩ : ∃ z, n = z + 1 := ⟨n - 1, by omega⟩
    show fX11_follow_b314 c1 c3 c4 c6 c7 c10 c11 c12 c13 c15 k25 (fX11_follow_l314 c1 c3 c4 c6 c7 c10 c11 c12 c13 c15 k25 n) y1 (pM p) (nI (st % 8)) (nI (st / 8)) y5 n1 n2 n3 tl (nI (o + 1)) c2 c5 cT cL c14 = _ ∧ _
    have e : popT BP BL (o + 1) p st = if p = 40 then popT BP BL o (BP (o + 1)) (st % 8 + BL (o + 1)) else (p, st, o + 1) := rfl
    obtain ⟨r1, ⟨l, r2, r3⟩, r4, r5⟩ := hr o (Nat.lt_succ_self _)
    unfold fX11_follow_b314 fX11_follow_p360
    by_cases h : p = 40
    · have bo := inb_nI (j := o) (n := 2002) (by omega) (by decide)
      have ko := nI_clamp (n := o) (by omega)
      have i0 := ih n (BP (o + 1)) (st % 8 + 8 * l) (by omega) (by omega) r1 (by omega) (fun i hi => hr i (by omega))
      rw [show (st % 8 + 8 * l) % 8 = st % 8 by omega, show (st % 8 + 8 * l) / 8 = l by omega] at i0
      rw [e, if_pos h, r3, if_pos (by rw [h]; exact pM_40), if_neg (nI_nle (by omega) (by omega)), nm_q, nI_pred, bd_eq _ bo, nm_q, ko, r4, bd_eq _ bo, nm_q, r5, r3, show 8 * l / 8 = l by omega]
      exact i0
    · have hne : ¬ pM p = -1 := by rw [pM_lt (by omega)]; exact nI_m1 (by omega)
      rw [if_neg hne, e, if_neg h, nm_q]
      exact ⟨rfl, hp⟩
/-- the rows of the trace up to k -/
def trM (G : Nat → Nat → Nat → Nat) (Y : Nat → Nat) (n k : Nat) (t : Nat → Int32) : Prop :=
  ∀ j, j < k → t (5 * j) = nI (cfT G Y n j).1 ∧ t (5 * j + 1) = nI ((cfT G Y n j).2.2.1 + 1) ∧ t (5 * j + 2) = nI ((cfT G Y n j).2.1 % 8) ∧ t (5 * j + 3) = nI ((cfT G Y n j).2.1 / 8) ∧ t (5 * j + 4) = tvT G Y (n - (j + 1)) (cfT G Y n j)
/-- a call of the reference -/
theorem r_call {G : Nat → Nat → Nat → Nat} {M : Nat → Nat → Int32} (h : okPg G) (hm : mPg G M) {Y w : Nat → Nat} {cE cF cB cT cL c14 c2 c11 c12 c13 c15 : Nat → Int32} (hY : ∀ j, j < 288 * G 7 0 0 → vl (Y j)) (hE : tmE (G 7 0 0) Y cE) (hF : tmF (G 7 0 0) Y cF) {p st o : Nat} (hp : p < G 7 0 0) (h3 : G 0 p 0 = 3) (hst : st < 32) (ho : o ≤ 2000) (hw : ∀ m, m < 8 → vl (w m)) (h0 : o = 0 → ∀ m, m < 8 → w m = 536870912) (hB : ∀ i, o = i + 1 → ∀ m, m < 8 → cB (8 * i + m) = mI (w m)) (k25 : KF) (y1 y5 n1 n2 n3 tl : Int32) :
    ∃ d : Nat → Int32, fX11_follow_l135 (M 3) (M 1) (M 0) cF cE (M 2) c11 c12 c13 c15 k25 FU y1 (nI p) (nI (st / 8)) y5 0 n1 n2 n3 tl (nI o) c2 cB cT cL c14 = fX11_follow_l314 (M 3) (M 1) (M 0) cF cE (M 2) c11 c12 c13 c15 k25 FU y1 (pM (G 5 (G 2 p 0) 0)) n1 0 y5 n1 0 (pM (G 5 (G 2 p 0) 0)) tl (nI (o + 1)) c2 d (upd cT o (pM (G 4 p 1))) (upd cL o (nI (st / 8))) c14 ∧ (∀ j, j < 8 * o → d j = cB j) ∧ ∀ m, m < 8 → d (8 * o + m) = mI (VP Y w (G 4 p 1) (m + 8 * (st / 8))) := by
  obtain ⟨fu, hfu, hg⟩ := fu_any
  have hS := h.1
  have hP := h.2.2.1
  obtain ⟨k0, k1, k2, k3, k4, k5⟩ := h.2.2.2.2 p hp
  obtain ⟨q0, q1, q1a, q1b, qA, qI, qC, q4, q5, q6, q7, qX⟩ := hm.2 p hp
  obtain ⟨t1, t2⟩ := qC h3
  have hn := k5 1 (by decide)
  have hcl := k2 h3
  rw [← t2] at q1 q1a
  have bp := inb_nI (j := p) (n := 40) (by omega) (by decide)
  have kp := nI_clamp (n := p) (by omega)
  have bo := inb_nI (j := o) (n := 2002) (by omega) (by decide)
  have ko := nI_clamp (n := o) (by omega)
  have eo : (8 : Int32) * nI o = nI (8 * o) := pk_mul 8 _
  have key : ∀ (k i n : Nat) (c : Nat → Int32), i + k = 8 → k < n → (∀ j, j < 8 * o → c j = cB j) → (∀ m, m < i → c (8 * o + m) = mI (VP Y w (G 4 p 1) (m + 8 * (st / 8)))) →
      ∃ d : Nat → Int32, fX11_follow_l135 (M 3) (M 1) (M 0) cF cE (M 2) c11 c12 c13 c15 k25 n y1 (nI p) (nI (st / 8)) y5 (nI i) n1 n2 n3 tl (nI o) c2 c cT cL c14 = fX11_follow_l314 (M 3) (M 1) (M 0) cF cE (M 2) c11 c12 c13 c15 k25 FU y1 (pM (G 5 (G 2 p 0) 0)) n1 0 y5 n1 0 (pM (G 5 (G 2 p 0) 0)) tl (nI (o + 1)) c2 d (upd cT o (pM (G 4 p 1))) (upd cL o (nI (st / 8))) c14 ∧ (∀ j, j < 8 * o → d j = cB j) ∧ ∀ m, m < 8 → d (8 * o + m) = mI (VP Y w (G 4 p 1) (m + 8 * (st / 8))) := by
    intro k
    induction k with
    | zero =>
      intro i n c g1 g2 hc1 hc2
      obtain ⟨n, rfl⟩ : ∃ z, n = z + 1 := ⟨n - 1, by omega⟩
      refine ⟨c, ?_, hc1, fun m hm => hc2 m (by omega)⟩
      show fX11_follow_b135 (M 3) (M 1) (M 0) cF cE (M 2) c11 c12 c13 c15 k25 _ y1 (nI p) (nI (st / 8)) y5 (nI i) n1 n2 n3 tl (nI o) c2 c cT cL c14 = _
      unfold fX11_follow_b135 fX11_follow_p298
      rw [if_pos (show (8 : Int32) ≤ nI i from nI_le (a := 8) (b := i) (by omega) (by omega)), bd_eq _ bp, nm_q, kp, q1, bd_eq _ bo, nm_q, ko, bd_eq _ bo, nm_q, nm_q, nI_1, bd_eq _ bp, nm_q, t1, bd_eq _ (inb_nI (j := G 2 p 0) (n := 6) (by omega) (by decide)), nm_q, nI_clamp (n := G 2 p 0) (by omega), hm.1 _ hcl]
    | succ k ih =>
      intro i n c g1 g2 hc1 hc2
      obtain ⟨n, rfl⟩ : ∃ z, n = z + 1 := ⟨n - 1, by omega⟩
      show ∃ d : Nat → Int32, fX11_follow_b135 (M 3) (M 1) (M 0) cF cE (M 2) c11 c12 c13 c15 k25 (fX11_follow_l135 (M 3) (M 1) (M 0) cF cE (M 2) c11 c12 c13 c15 k25 n) y1 (nI p) (nI (st / 8)) y5 (nI i) n1 n2 n3 tl (nI o) c2 c cT cL c14 = _ ∧ _
      have eco := r_costOf (g := i) (l := st / 8) (p := G 4 p 1) (o := o) (w := w) (cB := c) hS hE hF (by omega) hw h0 (fun a ha m hm => by rw [hc1 _ (by omega)]; exact hB a ha m hm) (by omega) (by omega) q1a (fun z => (hn.2.1 z).1)
      unfold fX11_follow_b135
      rw [if_neg (show ¬ (8 : Int32) ≤ nI i from nI_ge (a := i) (b := 8) (by omega) (by omega)), nm_q, eo, nm_q, nI_add, bd_eq _ bp, nm_q, kp, q1, eco, ob_s, bd_eq _ (inb_nI (j := 8 * o + i) (n := 16016) (by omega) (by decide)), nm_q, nI_clamp (n := 8 * o + i) (by omega), nm_q, nI_1]
      refine ih (i + 1) n _ (by omega) (by omega) (fun j hj => ?_) (fun m hm => ?_)
      · rw [upd_ne (by omega)]; exact hc1 j hj
      · by_cases q : m = i
        · rw [q, upd_at]
        · rw [upd_ne (by omega)]; exact hc2 m (by omega)
  have := key 8 0 fu cB (by omega) (by omega) (fun _ _ => rfl) (fun m hm => absurd hm (by omega))
  rw [hfu]
  rw [hfu] at this
  exact this
