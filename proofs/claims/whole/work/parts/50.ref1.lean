/-! ===== pure rows 21: sum, byRule (reference) ===== -/
theorem fu_any : ∃ fu, FU = fu ∧ 1999999 < fu := ⟨FU, rfl, FU_gt (by decide)⟩
def mI (v : Nat) : Int32 := nI (min v 2000000)
theorem mI_inf : mI 536870912 = 2000000 := by decide
theorem mI_fin {v : Nat} (h : v ≤ 1000000) : mI v = nI v := by unfold mI; rw [Nat.min_eq_left (by omega)]
theorem vl_cases {v : Nat} (h : vl v) : v ≤ 1000000 ∨ v = 536870912 := h
theorem nI_n2m {v : Nat} (h : v ≤ 1000000) : ¬ nI v = 2000000 := fun k => absurd ((nI_eq (a := v) (b := 2000000) (by omega) (by decide)).mp k) (by omega)
theorem r_sum {a b : Nat} (ha : vl a) (hb : vl b) : fX11_sum (mI a) (mI b) = some (mI (sm a b), ()) := by
  unfold fX11_sum fX11_sum_p12 fX11_sum_p33
  rcases vl_cases ha with h1 | h1
  · rw [mI_fin h1, if_neg (nI_n2m h1)]
    rcases vl_cases hb with h2 | h2
    · rw [mI_fin h2, if_neg (nI_n2m h2)]
      unfold sm
      rw [if_pos ⟨by omega, by omega⟩]
      simp only [nm, nI_add]
      by_cases h3 : a + b ≤ 1000000
      · have k3 : nI (a + b) ≤ (1000000 : Int32) := nI_le (a := a + b) (b := 1000000) h3 (by decide)
        rw [if_pos k3, Nat.min_eq_left h3, mI_fin h3]
      · have k3 : ¬ nI (a + b) ≤ (1000000 : Int32) := nI_ge (a := 1000000) (b := a + b) (by omega) (by omega)
        rw [if_neg k3, Nat.min_eq_right (by omega)]; rfl
    · subst h2
      rw [mI_inf, if_pos rfl]
      unfold sm
      rw [if_neg (by omega)]; rfl
  · subst h1
    rw [mI_inf, if_pos rfl]
    unfold sm
    rw [if_neg (by omega)]; rfl
theorem mI_le {a b : Nat} (ha : vl a) (hb : vl b) : mI a ≤ mI b ↔ a ≤ b := by
  unfold mI
  rw [nI_leI (by omega) (by omega)]
  unfold vl at ha hb
  omega
theorem mI_eq {a b : Nat} (ha : vl a) (hb : vl b) : mI a = mI b ↔ a = b := by
  unfold mI
  rw [nI_eq (by omega) (by omega)]
  unfold vl at ha hb
  omega
def tm (x : Nat → Nat) (c : Nat → Int32) : Prop := ∀ j, j < 3072 → c j = mI (x j) ∧ vl (x j)
/-- the rules of the reference as numbers -/
def rmN (R : Nat) (m : Nat → Int32) (pr : Nat → Nat → Nat) : Prop := ∀ r, r < R → m (6 * r) = nI (pr 0 r) ∧ m (6 * r + 1) = nI (pr 1 r) ∧ m (6 * r + 2) = nI (pr 2 r) ∧ m (6 * r + 3) = nI (pr 3 r) ∧ (pr 3 r ≠ 0 → m (6 * r + 4) = nI (pr 4 r)) ∧ (pr 3 r = 2 → m (6 * r + 5) = nI (pr 5 r))
/-- what a rule derives at its target's column t -/
def byR (x : Nat → Nat) (q n w1 w2 t : Nat) : Nat :=
  if n = 0 then (if q = t then 1 else 536870912) else if n = 1 then sm 1 (x (rw16 q w1 + t)) else sm 1 (minN (fun m => sm (x (rw16 q w1 + m)) (x (rw16 m w2 + t))) 16)
theorem vl1 : vl 1 := Or.inl (by decide)
theorem mI1 : mI 1 = 1 := by decide
theorem byR_vl {x : Nat → Nat} {q n w1 w2 t : Nat} : vl (byR x q n w1 w2 t) := by
  unfold byR
  by_cases h : n = 0
  · rw [if_pos h]
    by_cases h2 : q = t
    · rw [if_pos h2]; exact vl1
    · rw [if_neg h2]; exact Or.inr rfl
  · rw [if_neg h]
    by_cases h2 : n = 1
    · rw [if_pos h2]; exact sm_vl
    · rw [if_neg h2]; exact sm_vl
theorem r_min {a b : Nat} (ha : vl a) (hb : vl b) : (if mI a ≤ mI b then mI a else mI b) = mI (min a b) := by
  by_cases h : a ≤ b
  · rw [if_pos ((mI_le ha hb).mpr h), Nat.min_eq_left h]
  · rw [if_neg (fun k => h ((mI_le ha hb).mp k)), Nat.min_eq_right (by omega)]
theorem r_byRule {R r t : Nat} {m c : Nat → Int32} {pr : Nat → Nat → Nat} (hP : okPr R pr) (hm : rmN R m pr) (hr : r < R) (ht : t < 16) {x : Nat → Nat} (hx : tm x c) :
    fX11_byRule (nI (6 * r)) (nI t) m c = some (mI (byR x (pr 2 r) (pr 3 r) (pr 4 r) (pr 5 r) t), ()) := by
  obtain ⟨p0, p1, p2, p3, p4, p5⟩ := hP.2 r hr
  have hR := hP.1
  obtain ⟨m0, m1, m2, m3, m4, m5⟩ := hm r hr
  have a2 : nI (6 * r) + 2 = nI (6 * r + 2) := nI_add _ 2
  have a3 : nI (6 * r) + 3 = nI (6 * r + 3) := nI_add _ 3
  have a4 : nI (6 * r) + 4 = nI (6 * r + 4) := nI_add _ 4
  have a5 : nI (6 * r) + 5 = nI (6 * r + 5) := nI_add _ 5
  have i2 : (192 : Int32) * nI (pr 2 r) = nI (192 * pr 2 r) := pk_mul 192 _
  have i4 : (16 : Int32) * nI (pr 4 r) = nI (16 * pr 4 r) := pk_mul 16 _
  have hA := rw16_le (a := pr 2 r) (s := pr 4 r) (by omega) p4
  have eA : 192 * pr 2 r + 16 * pr 4 r = rw16 (pr 2 r) (pr 4 r) := by unfold rw16; omega
  obtain ⟨fu, hfu, hg⟩ := fu_any
  have z0 : ∀ v : Nat, v < 100 → (nI v = 0 ↔ v = 0) := fun v hv => nI_eq (a := v) (b := 0) (by omega) (by decide)
  have z1 : ∀ v : Nat, v < 100 → (nI v = 1 ↔ v = 1) := fun v hv => nI_eq (a := v) (b := 1) (by omega) (by decide)
  have zq : nI (pr 2 r) = nI t ↔ pr 2 r = t := nI_eq (by omega) (by omega)
  unfold fX11_byRule fX11_byRule_p35 byR
  rw [hfu]
  simp only [nm, a2, inb_nI (j := 6 * r + 2) (n := 288) (by omega) (by decide), bd, nI_clamp (n := 6 * r + 2) (by omega), m2, a3, inb_nI (j := 6 * r + 3) (n := 288) (by omega) (by decide), nI_clamp (n := 6 * r + 3) (by omega), m3, z0 (pr 3 r) (by omega), z1 (pr 3 r) (by omega), zq]
  by_cases h0 : pr 3 r = 0
  · simp only [if_pos h0]
    by_cases hq : pr 2 r = t
    · rw [if_pos hq, if_pos hq]; rfl
    · rw [if_neg hq, if_neg hq]; rfl
  · simp only [if_neg h0, i2, a4, inb_nI (j := 6 * r + 4) (n := 288) (by omega) (by decide), nI_clamp (n := 6 * r + 4) (by omega), m4 h0, i4, nI_add, eA]
    by_cases h1 : pr 3 r = 1
    · simp only [if_pos h1]
      obtain ⟨x1, x2⟩ := hx (rw16 (pr 2 r) (pr 4 r) + t) (by omega)
      have hs := r_sum vl1 x2
      rw [mI1] at hs
      simp only [inb_nI (j := rw16 (pr 2 r) (pr 4 r) + t) (n := 3072) (by omega) (by decide), nI_clamp (n := rw16 (pr 2 r) (pr 4 r) + t) (by omega), x1, hs, ob_s]
    · simp only [if_neg h1]
      have h2 : pr 3 r = 2 := by omega
      have key : ∀ (k i n : Nat), i + k = 16 → k < n → fX11_byRule_l82 m c n (nI (6 * r)) (nI t) (nI (rw16 (pr 2 r) (pr 4 r))) (mI (minN (fun z => sm (x (rw16 (pr 2 r) (pr 4 r) + z)) (x (rw16 z (pr 5 r) + t))) i)) (nI i) = some (mI (sm 1 (minN (fun z => sm (x (rw16 (pr 2 r) (pr 4 r) + z)) (x (rw16 z (pr 5 r) + t))) 16)), ()) := by
        intro k
        induction k with
        | zero =>
          intro i n g1 g2
          obtain ⟨n, rfl⟩ : ∃ z, n = z + 1 := ⟨n - 1, by omega⟩
          show fX11_byRule_b82 m c _ (nI (6 * r)) (nI t) (nI (rw16 (pr 2 r) (pr 4 r))) _ (nI i) = _
          unfold fX11_byRule_b82
          have h16 : (16 : Int32) ≤ nI i := nI_le (a := 16) (b := i) (by omega) (by omega)
          have e : i = 16 := by omega
          subst e
          have hs := r_sum vl1 (minN_vl (f := fun z => sm (x (rw16 (pr 2 r) (pr 4 r) + z)) (x (rw16 z (pr 5 r) + t))) (fun _ => sm_vl) 16)
          rw [mI1] at hs
          rw [if_pos h16, hs, ob_s]
        | succ k ih =>
          intro i n g1 g2
          obtain ⟨n, rfl⟩ : ∃ z, n = z + 1 := ⟨n - 1, by omega⟩
          have h16 : ¬ (16 : Int32) ≤ nI i := nI_ge (a := i) (b := 16) (by omega) (by omega)
          have hvm : vl (minN (fun z => sm (x (rw16 (pr 2 r) (pr 4 r) + z)) (x (rw16 z (pr 5 r) + t))) i) := minN_vl (fun _ => sm_vl) i
          obtain ⟨s1, s2⟩ := hx (rw16 (pr 2 r) (pr 4 r) + i) (by omega)
          have hB := rw16_le (a := i) (s := pr 5 r) (by omega) p5
          have eB : 192 * i + 16 * pr 5 r = rw16 i (pr 5 r) := by unfold rw16; omega
          obtain ⟨t1, t2⟩ := hx (rw16 i (pr 5 r) + t) (by omega)
          have i6 : (192 : Int32) * nI i = nI (192 * i) := pk_mul 192 _
          have i5 : (16 : Int32) * nI (pr 5 r) = nI (16 * pr 5 r) := pk_mul 16 _
          have rm := r_min hvm (sm_vl (a := x (rw16 (pr 2 r) (pr 4 r) + i)) (b := x (rw16 i (pr 5 r) + t)))
          have e := ih (i + 1) n (by omega) (by omega)
          rw [minN_s, ← rm] at e
          show fX11_byRule_b82 m c _ (nI (6 * r)) (nI t) (nI (rw16 (pr 2 r) (pr 4 r))) _ (nI i) = _
          unfold fX11_byRule_b82 fX11_byRule_p143
          simp only [if_neg h16, nm, nI_add, inb_nI (j := rw16 (pr 2 r) (pr 4 r) + i) (n := 3072) (by omega) (by decide), bd, nI_clamp (n := rw16 (pr 2 r) (pr 4 r) + i) (by omega), s1, i6, a5, inb_nI (j := 6 * r + 5) (n := 288) (by omega) (by decide), nI_clamp (n := 6 * r + 5) (by omega), m5 h2, i5, eB, inb_nI (j := rw16 i (pr 5 r) + t) (n := 3072) (by omega) (by decide), nI_clamp (n := rw16 i (pr 5 r) + t) (by omega), t1, r_sum s2 t2, ob_s, nI_1]
          by_cases hc : mI (minN (fun z => sm (x (rw16 (pr 2 r) (pr 4 r) + z)) (x (rw16 z (pr 5 r) + t))) i) ≤ mI (sm (x (rw16 (pr 2 r) (pr 4 r) + i)) (x (rw16 i (pr 5 r) + t)))
          · rw [if_pos hc] at e ⊢; exact e
          · rw [if_neg hc] at e ⊢; exact e
      have k0 := key 16 0 fu (by omega) (by omega)
      have e5 : (2000000 : Int32) = mI (minN (fun z => sm (x (rw16 (pr 2 r) (pr 4 r) + z)) (x (rw16 z (pr 5 r) + t))) 0) := mI_inf.symm
      rw [← e5] at k0
      exact k0
