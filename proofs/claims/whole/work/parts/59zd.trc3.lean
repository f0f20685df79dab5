/-! ===== pure rows 58: the class's record of the run ===== -/
theorem or_loc2 : ∀ l : Nat, l < 4 → ∀ m : Nat, m < 8 → nI m ||| nI (8 * l) = nI (m + 8 * l) := by decide +kernel
theorem c_leave {BP BL : Nat → Nat} {c13 c14 : Nat → Int32} : ∀ (o n p st : Nat), o ≤ 2000 → o < n → p ≤ 42 → st < 32 → (∀ i, 1 ≤ i → i ≤ o → BP i ≤ 42 ∧ (∃ l, l < 4 ∧ BL i = 8 * l) ∧ c13 i = pI (BP i) ∧ c14 i = nI (BL i)) → fX8_leaveEndedCalls_l0 c13 c14 n (nI o) (pI p) (nI st) = some (nI (popT BP BL o p st).2.2, pI (popT BP BL o p st).1, nI (popT BP BL o p st).2.1) := by
  intro o
  induction o with
  | zero =>
    intro n p st g1 g2 hp hst hr
    obtain ⟨n, rfl⟩ : ∃ z, n = z + 1 := ⟨n - 1, by omega⟩
    show fX8_leaveEndedCalls_b0 c13 c14 _ (nI 0) (pI p) (nI st) = _
    unfold fX8_leaveEndedCalls_b0 fX8_leaveEndedCalls_p62
    by_cases h : pI p = -1
    · rw [if_pos h, if_pos (by decide)]; rfl
    · rw [if_neg h]; rfl
  | succ o ih =>
    intro n p st g1 g2 hp hst hr
    obtain ⟨n, rfl⟩ : ∃ z, n = z + 1 := ⟨n - 1, by omega⟩
    show fX8_leaveEndedCalls_b0 c13 c14 (fX8_leaveEndedCalls_l0 c13 c14 n) (nI (o + 1)) (pI p) (nI st) = _
    have e : popT BP BL (o + 1) p st = if p = 40 then popT BP BL o (BP (o + 1)) (st % 8 + BL (o + 1)) else (p, st, o + 1) := rfl
    have hp40 : pI p = -1 ↔ p = 40 := by
      constructor
      · intro z
        by_cases q : p < 40
        · rw [pI_lt q] at z; exact absurd z (nI_m1 (by omega))
        · have : p = 40 ∨ p = 41 ∨ p = 42 := by omega
          rcases this with w | w | w
          · exact w
          · rw [w, pI_41] at z; exact absurd z (by decide)
          · rw [w, pI_42] at z; exact absurd z (by decide)
      · intro z; rw [z, pI_40]
    obtain ⟨r1, ⟨l, r2, r3⟩, r4, r5⟩ := hr (o + 1) (by omega) (Nat.le_refl _)
    unfold fX8_leaveEndedCalls_b0 fX8_leaveEndedCalls_p62
    by_cases h : p = 40
    · have bo := inb_nI (j := o + 1) (n := 2001) (by omega) (by decide)
      have ko := nI_clamp (n := o + 1) (by omega)
      rw [if_pos (hp40.mpr h), if_neg (nI_nle (by omega) (by omega)), bd_eq _ bo, nm_q, ko, r4, nm_q, and7 st hst, bd_eq _ bo, nm_q, r5, nm_q, r3, or_loc2 l r2 (st % 8) (by omega), nm_q, nI_pred, e, if_pos h, r3]
      exact ih n (BP (o + 1)) (st % 8 + 8 * l) (by omega) (by omega) r1 (by omega) (fun i h1 h2 => hr i h1 (by omega))
    · rw [if_neg (fun z => h (hp40.mp z)), e, if_neg h]
theorem c_toFail {S p st o : Nat} {X wC : Nat → Nat} {c3 cost : Nat → Int32} (hS : S ≤ 40) (hX : tbS (288 * S) X cost) (hW : ∀ m, m < 8 → c3 (8 * o + m) = nI (wC m) ∧ vl (wC m)) (ho : o ≤ 2000) (hp : p ≤ 42) (hpS : p < 40 → p < S) (hst : st < 32) : fX8_stepsToFail (pI p) (nI st) (nI o) c3 cost = some (nI (VP X wC p st), ()) := by
  obtain ⟨fu, hfu, hg⟩ := fu_any
  have e8 : nI o * 8 = nI (8 * o) := by rw [Nat.mul_comm 8 o]; exact pk_mul o 8
  unfold fX8_stepsToFail fX8_stepsToFail_p41
  rw [nm_q, e8, hfu]
  by_cases h : p < 40
  · have hneg := nI_pos (n := p) (by omega)
    have hrow : rI p st 0 + 9 ≤ 288 * S := by have := hpS h; unfold rI; omega
    have e8' : nI (rI p st 0) + 8 = nI (rI p st 0 + 8) := nI_add _ 8
    obtain ⟨s1, s2⟩ := hX (rI p st 0 + 8) (by omega)
    rw [pI_lt h, if_neg (nI_m1 (by omega)), if_pos (nI_pos' (by omega)), e0_row, ob_s, nm_q, e8', bd_eq _ (inb_nI (j := rI p st 0 + 8) (n := 11520) (by omega) (by decide)), nm_q, nI_clamp (n := rI p st 0 + 8) (by omega), s1]
    have key : ∀ (k i n : Nat), i + k = 8 → k < n → fX8_stepsToFail_l67 (nI o) c3 cost n (nI (8 * o)) (nI (rI p st 0)) (nI (min (X (rI p st 0 + 8)) (minN (fun m => sm (X (rI p st 0 + m)) (wC m)) i))) (nI i) = some (nI (min (X (rI p st 0 + 8)) (minN (fun m => sm (X (rI p st 0 + m)) (wC m)) 8)), ()) := by
      intro k
      induction k with
      | zero =>
        intro i n g1 g2
        obtain ⟨n, rfl⟩ : ∃ z, n = z + 1 := ⟨n - 1, by omega⟩
        show fX8_stepsToFail_b67 (nI o) c3 cost _ (nI (8 * o)) (nI (rI p st 0)) _ (nI i) = _
        unfold fX8_stepsToFail_b67
        have h8 : (8 : Int32) ≤ nI i := nI_le (a := 8) (b := i) (by omega) (by omega)
        have ei : i = 8 := by omega
        subst ei
        rw [if_pos h8]
      | succ k ih =>
        intro i n g1 g2
        obtain ⟨n, rfl⟩ : ∃ z, n = z + 1 := ⟨n - 1, by omega⟩
        have h8 : ¬ (8 : Int32) ≤ nI i := nI_ge (a := i) (b := 8) (by omega) (by omega)
        obtain ⟨t1, t2⟩ := hX (rI p st 0 + i) (by omega)
        obtain ⟨w1, w2⟩ := hW i (by omega)
        have hvm : vl (min (X (rI p st 0 + 8)) (minN (fun m => sm (X (rI p st 0 + m)) (wC m)) i)) := vl_min s2 (minN_vl (fun _ => sm_vl) i)
        have e := ih (i + 1) n (by omega) (by omega)
        rw [minN_s, ← min_comm3] at e
        show fX8_stepsToFail_b67 (nI o) c3 cost _ (nI (8 * o)) (nI (rI p st 0)) _ (nI i) = _
        unfold fX8_stepsToFail_b67
        rw [if_neg h8, nm_q, nI_add, bd_eq _ (inb_nI (j := rI p st 0 + i) (n := 11520) (by omega) (by decide)), nm_q, nI_clamp (n := rI p st 0 + i) (by omega), t1, nm_q, nI_add, bd_eq _ (inb_nI (j := 8 * o + i) (n := 16008) (by omega) (by decide)), nm_q, nI_clamp (n := 8 * o + i) (by omega), w1, c_sum t2 w2, ob_s, nm_q, minI sm_vl hvm, nm_q, nI_1]
        exact e
    have k0 := key 8 0 fu (by omega) (by omega)
    have e0 : min (X (rI p st 0 + 8)) (minN (fun m => sm (X (rI p st 0 + m)) (wC m)) 0) = X (rI p st 0 + 8) := Nat.min_eq_left (vl_lt s2)
    rw [e0] at k0
    have eV : VP X wC p st = min (X (rI p st 0 + 8)) (minN (fun m => sm (X (rI p st 0 + m)) (wC m)) 8) := by
      unfold VP
      rw [tgt_lt h, ← rI_col, minN_congr 8 (fun m hm => by rw [tgt_lt h, rI_col])]
    rw [eV]
    exact k0
  · have : p = 40 ∨ p = 41 ∨ p = 42 := by omega
    rcases this with w | w | w
    · subst w
      rw [pI_40, if_pos rfl, nm_q, and7 st hst, nm_q, nI_add, bd_eq _ (inb_nI (j := 8 * o + st % 8) (n := 16008) (by omega) (by decide)), nm_q, nI_clamp (n := 8 * o + st % 8) (by omega), (hW (st % 8) (by omega)).1, VP_40 (fun m hm => (hW m hm).2)]
    · subst w
      rw [pI_41, if_neg (by decide), if_neg (by decide), if_pos rfl, VP_41]; rfl
    · subst w
      rw [pI_42, if_neg (by decide), if_neg (by decide), if_neg (by decide), VP_42]; rfl
theorem vp_same {G : Nat → Nat → Nat → Nat} (h : okPg G) {re ex : Nat → Int32} (hr : isRe G re ex) {X Y : Nat → Nat} (hX : isL (288 * G 7 0 0) (opA G (fun s st => bi (re s) st)) (fun _ => 536870912) X) (hY : isL (288 * G 7 0 0) (opA G allA) (fun _ => 536870912) Y) {p st q : Nat} (hp : ptR G re ex p st q) {wC W : Nat → Nat} (hv : ∀ m, m < 8 → vl (wC m)) (hv2 : ∀ m, m < 8 → vl (W m)) (hw : ∀ m, m < 8 → bi (ex q) m = true → wC m = W m) : VP X wC p st = VP Y W p st := by
  obtain ⟨p1, p2, p3, p4⟩ := hp
  by_cases h40 : p < 40
  · have hact := p4.1 h40
    have hs := (p3 h40).1
    unfold VP
    rw [tgt_lt h40, tgt_lt h40, same_steps h hr hX hY hs p2 (by decide) hact]
    rw [minN_congr 8 (f := fun m => sm (tgt X p st m) (wC m)) (g := fun m => sm (tgt Y p st m) (W m)) (fun m hm => ?_)]
    rw [tgt_lt h40, tgt_lt h40]
    have e := same_steps h hr hX hY hs p2 (show m < 9 by omega) hact
    by_cases w : bi (ex q) m = true
    · rw [e, hw m hm w]
    · have hi := ex_exit h hr hX hs p2 hm hact (by rw [(p3 h40).2]; exact w)
      rw [← e, hi, sm_infl, sm_infl]
  · have : p = 40 ∨ p = 41 ∨ p = 42 := by omega
    rcases this with z | z | z
    · rw [z, VP_40 hv, VP_40 hv2]
      exact hw _ (by omega) (p4.2 z)
    · rw [z, VP_41, VP_41]
    · rw [z, VP_42, VP_42]
theorem c_takesValue {G : Nat → Nat → Nat → Nat} {C : Nat → Nat → Int32} {value : Nat → Int64} (h : okPg G) (hc : cPg G C value) {s : Nat} (hs : s < G 7 0 0) : fX3_takesValue (nI s) (C 1) = some (if G 0 s 0 = 3 ∨ 5 < G 0 s 0 then 0 else 1, ()) := by
  have hS := h.1
  have k0 := (h.2.2.2.2 s hs).1
  have c0 := (hc.2 s hs).1
  have bs := inb_nI (j := s) (n := 40) (by omega) (by decide)
  have ks := nI_clamp (n := s) (by omega)
  have z3 : nI (G 0 s 0) = 3 ↔ G 0 s 0 = 3 := nI_eq (a := G 0 s 0) (b := 3) (by omega) (by decide)
  have z5 : (5 : Int32) < nI (G 0 s 0) ↔ 5 < G 0 s 0 := nI_ltI (a := 5) (b := G 0 s 0) (by decide) (by omega)
  unfold fX3_takesValue fX3_takesValue_p24 fX3_takesValue_p25
  rw [bd_eq _ bs, nm_q, ks, c0]
  by_cases h3 : G 0 s 0 = 3
  · rw [if_pos (z3.mpr h3), if_pos (Or.inl h3)]; rfl
  · rw [if_neg (fun z => h3 (z3.mp z)), bd_eq _ bs, nm_q]
    by_cases h5 : 5 < G 0 s 0
    · rw [if_pos (z5.mpr h5), if_pos (Or.inr h5)]; rfl
    · rw [if_neg (fun z => h5 (z5.mp z)), if_neg (fun z => z.elim h3 h5)]; rfl
def tvT (G : Nat → Nat → Nat → Nat) (Y : Nat → Nat) (lf : Nat) (c : CfT) : Int32 := if G 0 c.1 0 = 3 ∨ 5 < G 0 c.1 0 then -1 else nI (vT G Y lf c)
/-- the rows of the open calls (class) -/
def cfr (ex : Nat → Int32) (o : Nat) (BP BL : Nat → Nat) (W : Nat → Nat → Nat) (Q : Nat → Nat) (c3 c13 c14 : Nat → Int32) : Prop :=
  (∀ i, i ≤ o → ∀ m, m < 8 → ∃ w, c3 (8 * i + m) = nI w ∧ vl w ∧ (i = 0 ∨ bi (ex (Q i)) m = true → w = W i m)) ∧ ∀ i, 1 ≤ i → i ≤ o → c13 i = pI (BP i) ∧ c14 i = nI (BL i)
noncomputable def wOf (c3 : Nat → Int32) (o m : Nat) : Nat := (c3 (8 * o + m)).toNatClampNeg
theorem wOf_ok {ex : Nat → Int32} {o : Nat} {BP BL : Nat → Nat} {W : Nat → Nat → Nat} {Q : Nat → Nat} {c3 c13 c14 : Nat → Int32} (h : cfr ex o BP BL W Q c3 c13 c14) {i m : Nat} (hi : i ≤ o) (hm : m < 8) : c3 (8 * i + m) = nI (wOf c3 i m) ∧ vl (wOf c3 i m) ∧ (i = 0 ∨ bi (ex (Q i)) m = true → wOf c3 i m = W i m) := by
  obtain ⟨w, h1, h2, h3⟩ := h.1 i hi m hm
  have e : wOf c3 i m = w := by unfold wOf; rw [h1]; exact nI_clamp (by have := vl_lt h2; omega)
  rw [e]
  exact ⟨h1, h2, h3⟩
theorem c_takeStep {G : Nat → Nat → Nat → Nat} {C : Nat → Nat → Int32} {value : Nat → Int64} (h : okPg G) (hc : cPg G C value) {re ex : Nat → Int32} (hr : isRe G re ex) {X Y : Nat → Nat} (hX : isL (288 * G 7 0 0) (opA G (fun s st => bi (re s) st)) (fun _ => 536870912) X) (hY : isL (288 * G 7 0 0) (opA G allA) (fun _ => 536870912) Y) {cost c3 c7 c13 c14 : Nat → Int32} (hcost : tbS (288 * G 7 0 0) X cost) {k lf p st o : Nat} {BP BL : Nat → Nat} {W : Nat → Nat → Nat} {Q : Nat → Nat} (hk : k < 2000) (hl : lf + 1 ≤ 2000) (ho : o ≤ 2000) (hT : okT G re ex Y (lf + 1) (p, st, o, BP, BL, W, Q)) (hf : cfr ex o BP BL W Q c3 c13 c14) (h3 : ¬ G 0 p 0 = 3) :
    fX8_takeStep (nI k) (nI lf) (nI o) (nI p) (nI st) value (C 1) (C 6) (C 3) (C 4) c3 cost c7 = some (pI (G 4 p (vT G Y lf (p, st, o, BP, BL, W, Q))), nI (sa G p (vT G Y lf (p, st, o, BP, BL, W, Q)) st), upd c7 k (tvT G Y lf (p, st, o, BP, BL, W, Q))) := by
  obtain ⟨fu, hfu, hg⟩ := fu_any
  obtain ⟨v1, v2, v3⟩ := vT_ok h hY hl hT h3
  simp only at v2 v3
  obtain ⟨c1, c2, cF, c4⟩ := hT
  simp only at c1 c2 cF c4
  have hS := h.1
  have hst := c2.2.1
  obtain ⟨k0, k1, k2, k3, k4, k5⟩ := h.2.2.2.2 p c1
  have hact := c2.2.2.2.1 (show p < 40 by omega)
  have hown := (c2.2.2.1 (show p < 40 by omega)).2
  have hwv : ∀ m, m < 8 → vl (wOf c3 o m) := fun m hm => (wOf_ok hf (Nat.le_refl _) hm).2.1
  have hWv : ∀ m, m < 8 → vl (W o m) := fun m hm => frT_vl hY.1 cF (Nat.le_refl _) hm
  have cst : ∀ v, v < 2 → cn G p v st = true → fX8_stepsToFail (pI (G 4 p v)) (nI (sa G p v st)) (nI o) c3 cost = some (nI (VP Y (W o) (G 4 p v) (sa G p v st)), ()) := by
    intro v hv hcn
    have hn := k5 v hv
    have r1 := (hr.2 p c1).1 h3 v st hv hact hcn
    rw [hown] at r1
    rw [c_toFail (wC := wOf c3 o) hS hcost (fun m hm => ⟨(wOf_ok hf (Nat.le_refl _) hm).1, hwv m hm⟩) ho hn.1 (fun z => (hn.2.1 z).1) (sa_lt k1 hst), vp_same h hr hX hY (q := Q o) ⟨hn.1, sa_lt k1 hst, fun z => ⟨(hn.2.1 z).1, (hn.2.1 z).2.trans hown⟩, r1⟩ hwv hWv (fun m hm hb => (wOf_ok hf (Nat.le_refl _) hm).2.2 (Or.inr hb))]
  -- one value
  have one : ∀ (v : Nat) (k8 : Int32 → Int32 → Int32 → Int32 → Int32 → Int32 → (Nat → Int32) → Option (Int32 × Int32 × (Nat → Int32))), v < 2 → fX8_takeStep_b8 (nI o) value (C 1) (C 6) (C 3) (C 4) c3 cost k8 (nI k) (nI lf) (nI p) (nI v) (nI p) (nI st) c7 = if cn G p v st = true ∧ VP Y (W o) (G 4 p v) (sa G p v st) = lf then some (pI (G 4 p v), nI (sa G p v st), upd c7 k (if G 0 p 0 = 3 ∨ 5 < G 0 p 0 then -1 else nI v)) else k8 (nI k) (nI lf) (nI p) (nI (v + 1)) (nI p) (nI st) c7 := by
    intro v k8 hv
    obtain ⟨z, hz1, hz2⟩ := c_settingsFor h hc c1 hv
    have n1 : ¬ (1 : Int32) < nI v := nI_nlt (a := 1) (b := v) (by omega) (by decide)
    have hb := bi_sh z hst
    have bk := inb_nI (j := k) (n := 2000) hk (by decide)
    have kk := nI_clamp (n := k) (by omega)
    unfold fX8_takeStep_b8 fX8_takeStep_p39 fX8_takeStep_p126 fX8_takeStep_p104
    rw [if_neg n1, hz1, ob_s, nm_q, nm_q]
    by_cases h0 : ((z.toUInt32 >>> ((nI st).toUInt32 &&& Int32.toUInt32 31)).toInt32 &&& 1) = 0
    · have hcn : ¬ cn G p v st = true := fun y => by rw [← hz2 st hst, hb.mp h0] at y; cases y
      rw [if_pos h0, c_settingAfter h hc c1 hv hst, ob_s, if_pos rfl, nm_q, nI_1, if_neg (fun y => hcn y.1)]
    · have hcn : cn G p v st = true := by
        rw [← hz2 st hst]
        cases hq : bi z st with
        | true => rfl
        | false => exact absurd (hb.mpr hq) h0
      have hvl : VP Y (W o) (G 4 p v) (sa G p v st) ≤ 536870912 := vl_lt (VP_vl hY.1 (fun z => ((k5 v hv).2.1 z).1) (sa_lt k1 hst))
      have zc : nI (VP Y (W o) (G 4 p v) (sa G p v st)) = nI lf ↔ VP Y (W o) (G 4 p v) (sa G p v st) = lf := nI_eq (by omega) (by omega)
      rw [if_neg h0, c_settingAfter h hc c1 hv hst, ob_s, if_neg n10, c_pointAfter h hc c1 hv, ob_s, cst v hv hcn, ob_s]
      by_cases hq : VP Y (W o) (G 4 p v) (sa G p v st) = lf
      · rw [if_pos (zc.mpr hq), c_takesValue h hc c1, ob_s]
        by_cases ht : G 0 p 0 = 3 ∨ 5 < G 0 p 0
        · simp only [if_pos ht]
          rw [if_pos trivial, bd_eq _ bk, nm_q, kk, ob_s, if_pos (And.intro hcn hq)]
        · simp only [if_neg ht]
          rw [if_neg n10, bd_eq _ bk, nm_q, kk, ob_s, if_pos (And.intro hcn hq)]
      · rw [if_neg (fun y => hq (zc.mp y)), nm_q, nI_1, if_neg (fun y => hq y.2)]
  obtain ⟨fu2, hfu2⟩ : ∃ z, fu = z + 2 := ⟨fu - 2, by omega⟩
  subst hfu2
  unfold fX8_takeStep
  rw [hfu]
  show fX8_takeStep_b8 (nI o) value (C 1) (C 6) (C 3) (C 4) c3 cost (fX8_takeStep_l8 (nI o) value (C 1) (C 6) (C 3) (C 4) c3 cost (fu2 + 1)) (nI k) (nI lf) (nI p) (nI 0) (nI p) (nI st) c7 = _
  rw [one 0 _ (by decide)]
  unfold tvT
  by_cases q : cn G p 0 st = true ∧ VP Y (W o) (G 4 p 0) (sa G p 0 st) = lf
  · have ev : vT G Y lf (p, st, o, BP, BL, W, Q) = 0 := by unfold vT; exact if_pos q
    rw [if_pos q, ev]
  · have ev : vT G Y lf (p, st, o, BP, BL, W, Q) = 1 := by unfold vT; exact if_neg q
    rw [ev] at v2 v3
    rw [if_neg q, ev]
    show fX8_takeStep_b8 (nI o) value (C 1) (C 6) (C 3) (C 4) c3 cost (fX8_takeStep_l8 (nI o) value (C 1) (C 6) (C 3) (C 4) c3 cost fu2) (nI k) (nI lf) (nI p) (nI 1) (nI p) (nI st) c7 = _
    rw [one 1 _ (by decide), if_pos ⟨v2, v3⟩]
