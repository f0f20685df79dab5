/-! ===== pure rows 23: all rounds of the reference's reckon ===== -/
theorem r_l59 {R : Nat} {kn : Int32} {m c1 : Nat → Int32} {pr : Nat → Nat → Nat} {y0 : Nat → Nat} (hP : okPr R pr) (hm : rmN R m pr) (k51 : Int32 → Int32 → (Nat → Int32) → Option (Int32 × (Nat → Int32))) :
    ∀ (k i n : Nat) (f : Int32) (x : Nat → Nat) (c : Nat → Int32), i + k = R → k < n → (f = 0 ∨ f = 1) → tm x c →
      ∃ (b : Int32) (x2 : Nat → Nat) (d : Nat → Int32), fX11_reckon_l59 (nI R) c1 m k51 n f (nI i) kn c = k51 b kn d ∧ tm x2 d ∧ (∀ j, x2 j ≤ x j) ∧ (b = 0 ∨ b = 1) ∧ (b = 0 ↔ (f = 0 ∧ ∀ j, j < 3072 → x2 j = x j)) ∧
        (∀ r, i ≤ r → r < R → prR x x2 (pr 0 r) (pr 1 r) (pr 2 r) (pr 3 r) (pr 4 r) (pr 5 r)) ∧ (b = 0 → ∀ r, i ≤ r → r < R → clR x (pr 0 r) (pr 1 r) (pr 2 r) (pr 3 r) (pr 4 r) (pr 5 r)) ∧ (∀ y : Nat → Nat, (∀ j, j < 3072 → y j ≤ x j) → clAll y R pr → ∀ j, j < 3072 → y j ≤ x2 j) ∧ (sup y0 x R pr → sup y0 x2 R pr) := by
  have hR48 := hP.1
  obtain ⟨fu, hfu, hg⟩ := fu_any
  intro k
  induction k with
  | zero =>
    intro i n f x c g1 g2 hf ht
    obtain ⟨n, rfl⟩ : ∃ z, n = z + 1 := ⟨n - 1, by omega⟩
    refine ⟨f, x, c, ?_, ht, fun j => Nat.le_refl _, hf, ⟨fun k => ⟨k, fun _ _ => rfl⟩, fun k => k.1⟩, fun t z1 z2 => by omega, fun _ t z1 z2 => by omega, fun y hy _ => hy, id⟩
    show fX11_reckon_b59 (nI R) c1 m k51 _ f (nI i) kn c = _
    unfold fX11_reckon_b59
    rw [if_pos (nI_le (by omega) (by omega))]
  | succ k ih =>
    intro i n f x c g1 g2 hf ht
    obtain ⟨n, rfl⟩ : ∃ z, n = z + 1 := ⟨n - 1, by omega⟩
    obtain ⟨p0, p1, p2, p3, p4, p5⟩ := hP.2 i (by omega)
    have hA := rw16_le (a := pr 0 i) (s := pr 1 i) (by omega) p1
    obtain ⟨b1, x1, d1, e1, t1, le1, z1, w1, pr1, sd1, sp1⟩ := r_l75 (kn := kn) (c1 := c1) (y0 := y0) hP hm (show i < R by omega) k51 (fX11_reckon_l59 (nI R) c1 m k51 n) 16 0 fu f x c (by omega) (by omega) hf ht
    obtain ⟨b, x2, d, e2, t2, le2, hb, hb0, hpr, hcl, hsd, hsp⟩ := ih (i + 1) n b1 x1 d1 (by omega) (by omega) z1 t1
    have cl0 : b1 = 0 → clR x (pr 0 i) (pr 1 i) (pr 2 i) (pr 3 i) (pr 4 i) (pr 5 i) := fun q => clR_by (by omega) (fun t ht2 => by
      have := pr1 t (Nat.zero_le _) ht2
      rw [(w1.mp q).2 _ (by omega)] at this
      exact this)
    refine ⟨b, x2, d, ?_, t2, fun j => Nat.le_trans (le2 j) (le1 j), hb, ?_, ?_, ?_, ?_, fun hs => hsp (sp1 hs)⟩
    · show fX11_reckon_b59 (nI R) c1 m k51 _ f (nI i) kn c = _
      unfold fX11_reckon_b59
      have e6 : (6 : Int32) * nI i = nI (6 * i) := pk_mul 6 i
      rw [if_neg (nI_ge (by omega) (by omega)), hfu, nm_q, e6]
      exact e1.trans e2
    · constructor
      · intro h0
        obtain ⟨q1, q2⟩ := hb0.mp h0
        obtain ⟨q3, q4⟩ := w1.mp q1
        exact ⟨q3, fun j hj => (q2 j hj).trans (q4 j hj)⟩
      · rintro ⟨q3, q4⟩
        have hs : ∀ j, j < 3072 → x1 j = x j := fun j hj => Nat.le_antisymm (le1 j) (by rw [← q4 j hj]; exact le2 j)
        exact hb0.mpr ⟨w1.mpr ⟨q3, hs⟩, fun j hj => (q4 j hj).trans (hs j hj).symm⟩
    · intro r z2 z3
      by_cases e : r = i
      · subst e; exact prR_mono (fun j => Nat.le_refl _) le2 (prR_by (by omega) (fun t ht2 => pr1 t (Nat.zero_le _) ht2))
      · exact prR_mono le1 (fun j => Nat.le_refl _) (hpr r (by omega) z3)
    · intro h0 r z2 z3
      obtain ⟨q1, q2⟩ := hb0.mp h0
      by_cases e : r = i
      · subst e; exact cl0 q1
      · obtain ⟨r1, r2, r3, r4, r5, r6⟩ := hP.2 r z3
        exact clR_congr r1 r2 r3 r5 r6 (fun j hj => (w1.mp q1).2 j hj) (hcl h0 r (by omega) z3)
    · intro y hy hcy
      exact hsd y (sd1 y hy (hcy i (by omega))) hcy
theorem r_l51 {R : Nat} {kn : Int32} {m c1 : Nat → Int32} {pr : Nat → Nat → Nat} (hP : okPr R pr) (hm : rmN R m pr) {y0 : Nat → Nat} {c : Nat → Int32} (ht : tm y0 c) {fu : Nat} (hg : 1999999 < fu) :
    Wq (fX11_reckon_l51 (nI R) c1 m fu 1 kn c) (fun r => r.1 = kn ∧ ∃ x, tm x r.2 ∧ isD y0 R pr x) := by
  have hv : vals y0 := fun j hj => (ht j hj).2
  obtain ⟨D, hD, hDs⟩ := ex_D hP hv
  obtain ⟨fu2, hfu, hg2⟩ := fu_any
  refine Wq_wh (F := fun n (s : Int32 × Int32 × (Nat → Int32)) => fX11_reckon_l51 (nI R) c1 m n s.1 s.2.1 s.2.2)
    (B := fun k s => fX11_reckon_b51 (nI R) c1 m (fun a b c => k (a, b, c)) s.1 s.2.1 s.2.2) (fun _ _ => rfl)
    (fun m s => ∃ x, tm x s.2.2 ∧ s.2.1 = kn ∧ invR y0 D R pr x s.1 m) ?_ fu 3073 (1, kn, c) (by omega) ?_
  · rintro m2 ⟨f, kn', c'⟩ k ⟨x, t1, e1, hi⟩ ih
    simp only at t1 e1 hi
    subst e1
    show Wq (fX11_reckon_b51 (nI R) c1 m (fun a b c => k (a, b, c)) f kn' c') _
    unfold fX11_reckon_b51
    refine Wq_if (fun h0 => ?_) (fun h0 => ?_)
    · exact Wq_some ⟨rfl, x, t1, fun j hj => (t1 j hj).2, hi.1, hi.2.2.2.2.1 h0, hi.2.1⟩
    · obtain ⟨b, x2, d, e, t2, le2, hb, hb0, hpr, hcl, hsd, hsp⟩ := r_l59 (kn := kn') (c1 := c1) (y0 := y0) hP hm (fun a b c => k (a, b, c)) R 0 fu2 0 x c' (by omega) (by have := hP.1; omega) (Or.inl rfl) t1
      have hst := invR_step hP hD hDs hi h0 (fun j hj => (t1 j hj).2) (fun j hj => (t2 j hj).2) le2 hb ⟨fun q => (hb0.mp q).2, fun q => hb0.mpr ⟨rfl, q⟩⟩ (fun q r hr => hcl q r (Nat.zero_le _) hr) hsd (hsp hi.2.2.1) (fun r hr => hpr r (Nat.zero_le _) hr)
      rw [hfu]
      have e' : fX11_reckon_l59 (nI R) c1 m (fun a b c => k (a, b, c)) fu2 0 0 kn' c' = k (b, kn', d) := e
      rw [e']
      exact ih (m2 - 1) _ (by omega) ⟨x2, t2, rfl, hst.2⟩
  · have hc := cntD_le D y0
    exact ⟨y0, ht, rfl, fun _ _ => Nat.le_refl _, fun _ h _ => h, sup_start _ _ _, Or.inr rfl, fun q => absurd q n10, fun _ => by omega⟩
/-- the reference's table, reckoned -/
theorem r_reckon {R : Nat} {kn : Int32} {m c1 c2 : Nat → Int32} {pr : Nat → Nat → Nat} (hP : okPr R pr) (hm : rmN R m pr) {K : Nat → Nat} (hK : ∀ i b, i < 192 → b < 16 → c1 (16 * i + b) = if (K i).testBit b then 1 else 0) (hkn : kn = 0 ∨ ∃ x, tm x c2 ∧ isD (x0 K) R pr x) :
    Wq (fX11_reckon (nI R) kn c1 c2 m) (fun r => r.1 ≠ 0 ∧ ∃ x, tm x r.2 ∧ isD (x0 K) R pr x) := by
  unfold fX11_reckon
  obtain ⟨fu, hfu, hg⟩ := fu_any
  refine Wq_if (fun h0 => ?_) (fun h0 => ?_)
  · have key : ∀ (k i n : Nat) (c : Nat → Int32), i + k = 3072 → k < n → (∀ j, j < i → c j = mI (x0 K j)) → Wq (fX11_reckon_l15 (nI R) c1 m n (nI i) 1 c) (fun r => r.1 ≠ 0 ∧ ∃ x, tm x r.2 ∧ isD (x0 K) R pr x) := by
      intro k
      induction k with
      | zero =>
        intro i n c g1 g2 hc
        obtain ⟨n, rfl⟩ : ∃ z, n = z + 1 := ⟨n - 1, by omega⟩
        show Wq (fX11_reckon_b15 (nI R) c1 m _ (nI i) 1 c) _
        unfold fX11_reckon_b15
        have h3 : (3072 : Int32) ≤ nI i := nI_le (a := 3072) (b := i) (by omega) (by omega)
        rw [if_pos h3, hfu]
        refine Wq_mono (r_l51 hP hm (y0 := x0 K) (fun j hj => ⟨hc j (by omega), ?_⟩) hg) (fun r hr => ⟨by rw [hr.1]; exact n10, hr.2⟩)
        unfold x0
        by_cases h : (K (j / 16)).testBit (j % 16) = true
        · rw [if_pos h]; exact Or.inl (by decide)
        · rw [if_neg h]; exact Or.inr rfl
      | succ k ih =>
        intro i n c g1 g2 hc
        obtain ⟨n, rfl⟩ : ∃ z, n = z + 1 := ⟨n - 1, by omega⟩
        show Wq (fX11_reckon_b15 (nI R) c1 m _ (nI i) 1 c) _
        unfold fX11_reckon_b15 fX11_reckon_p42
        have h3 : ¬ (3072 : Int32) ≤ nI i := nI_ge (a := i) (b := 3072) (by omega) (by omega)
        have hk := hK (i / 16) (i % 16) (by omega) (by omega)
        rw [show 16 * (i / 16) + i % 16 = i by omega] at hk
        have hx : x0 K i = if (K (i / 16)).testBit (i % 16) then 0 else 536870912 := rfl
        have step : ∀ v : Int32, v = mI (x0 K i) → Wq (fX11_reckon_l15 (nI R) c1 m n (nI (i + 1)) 1 (upd c i v)) (fun r => r.1 ≠ 0 ∧ ∃ x, tm x r.2 ∧ isD (x0 K) R pr x) := by
          intro v hv
          refine ih (i + 1) n _ (by omega) (by omega) (fun j hj => ?_)
          unfold upd
          by_cases z : j = i
          · rw [if_pos z, z]; exact hv
          · rw [if_neg z]; exact hc j (by omega)
        simp only [if_neg h3, inb_nI (j := i) (n := 3072) (by omega) (by decide), bd, nm, nI_clamp (n := i) (by omega), hk, nI_1]
        by_cases hb : (K (i / 16)).testBit (i % 16) = true
        · simp only [hb, if_true, if_neg n10]
          exact step 0 (by rw [hx, if_pos hb]; rfl)
        · have hb0 : (K (i / 16)).testBit (i % 16) = false := by simpa using hb
          simp only [hb0, Bool.false_eq_true, if_false, if_true]
          exact step 2000000 (by rw [hx, if_neg hb]; exact mI_inf.symm)
    rw [hfu]
    exact key 3072 0 fu c2 (by omega) (by omega) (fun j hj => absurd hj (by omega))
  · exact Wq_some ⟨h0, hkn.resolve_left h0⟩
