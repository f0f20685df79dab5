/-! ===== pure rows 18: all rounds (class) ===== -/
theorem clAll_congr {x x2 : Nat → Nat} {R : Nat} {pr : Nat → Nat → Nat} (hP : okPr R pr) (h : ∀ j, j < 3072 → x2 j = x j) (hc : clAll x2 R pr) : clAll x R pr := by
  intro r hr
  obtain ⟨r1, r2, r3, r4, r5, r6⟩ := hP.2 r hr
  exact clR_congr r1 r2 r3 r5 r6 h (hc r hr)
theorem ruN_ok {R : Nat} {c4 c5 c6 c7 c8 c9 : Nat → Int32} {pr : Nat → Nat → Nat} (hR : ruN R c4 c5 c6 c7 c8 c9 pr) : okPr R pr := ⟨hR.1, fun r hr => (hR.2 r hr).1⟩
def invR (y0 D : Nat → Nat) (R : Nat) (pr : Nat → Nat → Nat) (x : Nat → Nat) (f : Int32) (m : Nat) : Prop :=
  (∀ j, j < 3072 → x j ≤ y0 j) ∧ (∀ y : Nat → Nat, (∀ j, j < 3072 → y j ≤ y0 j) → clAll y R pr → ∀ j, j < 3072 → y j ≤ x j) ∧ sup y0 x R pr ∧ (f = 0 ∨ f = 1) ∧ (f = 0 → clAll x R pr) ∧ (f ≠ 0 → 3072 - cntD D x + 1 ≤ m)
theorem invR_step {y0 D : Nat → Nat} {R : Nat} {pr : Nat → Nat → Nat} (hP : okPr R pr) (hD : isD y0 R pr D) (hDs : sup y0 D R pr) {x x2 : Nat → Nat} {f b : Int32} {m : Nat} (h : invR y0 D R pr x f m) (hf : f ≠ 0) (vx : vals x) (v2 : vals x2) (le2 : ∀ j, x2 j ≤ x j) (hb : b = 0 ∨ b = 1) (hb0 : b = 0 ↔ ∀ j, j < 3072 → x2 j = x j)
    (hcl : b = 0 → clAll x R pr) (hsd : ∀ y : Nat → Nat, (∀ j, j < 3072 → y j ≤ x j) → clAll y R pr → ∀ j, j < 3072 → y j ≤ x2 j) (hs2 : sup y0 x2 R pr) (hpr : ∀ r, r < R → prR x x2 (pr 0 r) (pr 1 r) (pr 2 r) (pr 3 r) (pr 4 r) (pr 5 r)) : m ≠ 0 ∧ invR y0 D R pr x2 b (m - 1) := by
  obtain ⟨h1, h2, h3, h4, h5, h6⟩ := h
  have hm := h6 hf
  refine ⟨by omega, fun j hj => Nat.le_trans (le2 j) (h1 j hj), fun y a c => hsd y (h2 y a c) c, hs2, hb, fun k => clAll_congr hP (fun j hj => (hb0.mp k j hj).symm) (hcl k), fun k => ?_⟩
  have hlow : ∃ j, j < 3072 ∧ x2 j < x j := by
    apply Classical.byContradiction
    intro hn
    exact k (hb0.mpr (fun j hj => Nat.le_antisymm (le2 j) (Nat.not_lt.mp (fun z => hn ⟨j, hj, z⟩))))
  have hD2 : ∀ j, j < 3072 → D j ≤ x2 j := hsd D (h2 D hD.2.1 hD.2.2.1) hD.2.2.1
  have hg := grow hP.2 hD.1 vx v2 hD2 le2 h1 hDs hpr hlow
  have := cntD_lt hD2 le2 hg
  have := cntD_le D x2
  omega
theorem e_l34 {R : Nat} {chg sa : Int32} {c2 c4 c5 c6 c7 c8 c9 : Nat → Int32} {pr : Nat → Nat → Nat} (hR : ruN R c4 c5 c6 c7 c8 c9 pr) {y0 : Nat → Nat} {c : Nat → Int32} (ht : tb y0 c) :
    Wq (fX1_bringUpToDate_l34 (nI R) chg c2 c4 c5 c6 c7 c8 c9 FU 1 0 sa c) (fun r => r.1 = sa ∧ ∃ x, tb x r.2 ∧ isD y0 R pr x) := by
  have hv : vals y0 := fun j hj => (ht j hj).2
  have hP := ruN_ok hR
  obtain ⟨D, hD, hDs⟩ := ex_D hP hv
  refine Wq_wh (F := fun n (s : Int32 × Int32 × Int32 × (Nat → Int32)) => fX1_bringUpToDate_l34 (nI R) chg c2 c4 c5 c6 c7 c8 c9 n s.1 s.2.1 s.2.2.1 s.2.2.2)
    (B := fun k s => fX1_bringUpToDate_b34 (nI R) chg c2 c4 c5 c6 c7 c8 c9 (fun a b c d => k (a, b, c, d)) s.1 s.2.1 s.2.2.1 s.2.2.2) (fun _ _ => rfl)
    (fun m s => ∃ x z, tb x s.2.2.2 ∧ s.2.2.1 = sa ∧ s.2.1 = nI z ∧ z + m ≤ 3100 ∧ invR y0 D R pr x s.1 m) ?_ FU 3073 (1, 0, sa, c) (FU_gt (by decide)) ?_
  · rintro m ⟨f, y2, sa', c'⟩ k ⟨x, z, t1, e1, e2, hz, hi⟩ ih
    simp only at t1 e1 e2 hi
    subst e1 e2
    show Wq (fX1_bringUpToDate_b34 (nI R) chg c2 c4 c5 c6 c7 c8 c9 (fun a b c d => k (a, b, c, d)) f (nI z) sa' c') _
    unfold fX1_bringUpToDate_b34
    have hz2 : ¬ (1000000 : Int32) ≤ nI z := nI_ge (a := z) (b := 1000000) (by omega) (by decide)
    rw [if_neg hz2]
    refine Wq_if (fun h0 => ?_) (fun h0 => ?_)
    · exact Wq_some ⟨rfl, x, t1, fun j hj => (t1 j hj).2, hi.1, hi.2.2.2.2.1 h0, hi.2.1⟩
    · obtain ⟨b, x2, d, e, t2, le2, hb, hb0, hcl, hsd, hinv, hpr⟩ := l48_l (chg := chg) (c2 := c2) hR (fun a b c d => k (a, b, c, d)) (nI z) sa' R 0 FU 0 x c' (by omega) (FU_gt (by have := hR.1; omega)) (Or.inl rfl) t1
      have hst := invR_step hP hD hDs hi h0 (fun j hj => (t1 j hj).2) (fun j hj => (t2 j hj).2) le2 hb ⟨fun q => (hb0.mp q).2, fun q => hb0.mpr ⟨rfl, q⟩⟩ (fun q r hr => hcl q r (Nat.zero_le _) hr) hsd (hinv (fun z => sup y0 z R pr) hi.2.2.1 (fun r x' x'' a b c => sup_step r x' x'' a b c)) (fun r hr => hpr r (Nat.zero_le _) hr)
      have e' : fX1_bringUpToDate_l48 (nI R) chg c2 c4 c5 c6 c7 c8 c9 (fun a b c d => k (a, b, c, d)) FU 0 (nI z) 0 sa' c' = k (b, nI z + 1, sa', d) := e
      rw [e', nI_1]
      exact ih (m - 1) _ (by omega) ⟨x2, z + 1, t2, rfl, rfl, by omega, hst.2⟩
  · have hc := cntD_le D y0
    exact ⟨y0, 0, ht, rfl, rfl, by omega, fun _ _ => Nat.le_refl _, fun _ h _ => h, sup_start _ _ _, Or.inr rfl, fun q => absurd q n10, fun _ => by omega⟩
/-- the table of the class, brought up to date -/
theorem e_upToDate {R : Nat} {chg : Int32} {c2 c3 c4 c5 c6 c7 c8 c9 : Nat → Int32} {pr : Nat → Nat → Nat} (hR : ruN R c4 c5 c6 c7 c8 c9 pr) {K : Nat → Nat} (hK : ∀ i, i < 192 → K i < 65536 ∧ c2 i = nI (K i)) {so : Int32} (hso : so = chg → ∃ x, tb x c3 ∧ isD (x0 K) R pr x) :
    Wq (fX1_bringUpToDate so (nI R) chg c2 c3 c4 c5 c6 c7 c8 c9) (fun r => r.1 = chg ∧ ∃ x, tb x r.2 ∧ isD (x0 K) R pr x) := by
  unfold fX1_bringUpToDate
  refine Wq_if (fun h => Wq_some ⟨h, hso h⟩) (fun _ => ?_)
  obtain ⟨d, e, ht⟩ := e_start hK c3
  rw [e, ob_s]
  exact e_l34 hR ht
