/-! ===== pure rows 43: all that is reached (class) ===== -/
def cntB (c : Nat → Int32) (n : Nat) : Nat := sumN (fun i => if bi (c (i / 32)) (i % 32) = true then 1 else 0) (32 * n)
theorem cntB_le (c : Nat → Int32) (n : Nat) : cntB c n ≤ 32 * n := sumN_bd _ (fun i _ => by by_cases h : bi (c (i / 32)) (i % 32) = true <;> simp [h])
theorem cntB_mono {c c2 : Nat → Int32} (n : Nat) (h : ∀ j i, bi (c j) i = true → bi (c2 j) i = true) : cntB c n ≤ cntB c2 n := by
  refine sumN_le _ (fun i _ => ?_)
  by_cases e : bi (c (i / 32)) (i % 32) = true
  · simp [e, h _ _ e]
  · simp [e]
theorem cntB_lt {c c2 : Nat → Int32} {n : Nat} (h : ∀ j i, bi (c j) i = true → bi (c2 j) i = true) {j : Nat} (hj : j < n) (hne : ¬ c2 j = c j) : cntB c n < cntB c2 n := by
  have hd : ∃ i, i < 32 ∧ bi (c2 j) i = true ∧ ¬ bi (c j) i = true := by
    apply Classical.byContradiction
    intro hn
    apply hne
    apply bi_ext
    intro i hi
    cases h1 : bi (c j) i with
    | true => exact h j i h1
    | false =>
      cases h2 : bi (c2 j) i with
      | false => rfl
      | true => exact absurd ⟨i, hi, h2, by rw [h1]; decide⟩ hn
  obtain ⟨i, hi, h1, h2⟩ := hd
  refine sumN_lt _ (fun k _ => ?_) ⟨32 * j + i, by omega, ?_⟩
  · by_cases e : bi (c (k / 32)) (k % 32) = true
    · simp [e, h _ _ e]
    · simp [e]
  · rw [show (32 * j + i) / 32 = j by omega, show (32 * j + i) % 32 = i by omega]
    simp [h1, h2]
def isRe (G : Nat → Nat → Nat → Nat) (c e : Nat → Int32) : Prop := (G 5 0 0 < 40 → bi (c (G 5 0 0)) 0 = true) ∧ ∀ s, s < G 7 0 0 → clS G c e c e s
theorem l55_l {G : Nat → Nat → Nat → Nat} {C : Nat → Nat → Int32} {value : Nat → Int64} (h : okPg G) (hc : cPg G C value) {pc yr : Int32} (k40 : Int32 → Int32 → (Nat → Int32) → (Nat → Int32) → Option ((Nat → Int32) × (Nat → Int32))) :
    ∀ (k i n : Nat) (f : Int32) (c e : Nat → Int32), i + k = G 7 0 0 → k < n → (f = 0 ∨ f = 1) → ∃ (b : Int32) (c2 e2 : Nat → Int32), fX0_reachAll_l55 pc (nI (G 7 0 0)) (C 0) (C 1) (C 2) (C 3) (C 4) (C 5) value (C 6) k40 n f yr (nI i) c e = k40 b (yr + 1) c2 e2 ∧ okR c e f c2 e2 b ∧ ∀ s, i ≤ s → s < G 7 0 0 → clS G c e c2 e2 s := by
  have hS := h.1
  intro k
  induction k with
  | zero =>
    intro i n f c e g1 g2 hf
    obtain ⟨n, rfl⟩ : ∃ z, n = z + 1 := ⟨n - 1, by omega⟩
    refine ⟨f, c, e, ?_, okR_refl c e f, fun s z1 z2 => by omega⟩
    show fX0_reachAll_b55 pc (nI (G 7 0 0)) (C 0) (C 1) (C 2) (C 3) (C 4) (C 5) value (C 6) k40 _ f yr (nI i) c e = _
    unfold fX0_reachAll_b55
    rw [if_pos (nI_le (by omega) (by omega)), nm_q]
  | succ k ih =>
    intro i n f c e g1 g2 hf
    obtain ⟨n, rfl⟩ : ∃ z, n = z + 1 := ⟨n - 1, by omega⟩
    have hi : i < G 7 0 0 := by omega
    obtain ⟨k0, k1, k2, k3, k4, k5⟩ := h.2.2.2.2 i hi
    obtain ⟨c0, c1, c2', c3, c4, c5, c6⟩ := hc.2 i hi
    have bs := inb_nI (j := i) (n := 40) (by omega) (by decide)
    have ks := nI_clamp (n := i) (by omega)
    have z3 : nI (G 0 i 0) = 3 ↔ G 0 i 0 = 3 := nI_eq (a := G 0 i 0) (b := 3) (by omega) (by decide)
    have go : ∀ (b1 : Int32) (c1 e1 : Nat → Int32), okR c e 0 c1 e1 b1 → clS G c e c1 e1 i → ∃ (b : Int32) (c2 e2 : Nat → Int32), fX0_reachAll_l55 pc (nI (G 7 0 0)) (C 0) (C 1) (C 2) (C 3) (C 4) (C 5) value (C 6) k40 n (f ||| b1) yr (nI (i + 1)) c1 e1 = k40 b (yr + 1) c2 e2 ∧ okR c e f c2 e2 b ∧ ∀ s, i ≤ s → s < G 7 0 0 → clS G c e c2 e2 s := by
      intro b1 c1 e1 r1 r2
      have r3 := okR_or hf r1
      obtain ⟨b, c2, e2, t1, t2, t3⟩ := ih (i + 1) n (f ||| b1) c1 e1 (by omega) (by omega) (r3.1 hf)
      refine ⟨b, c2, e2, t1, okR_trans r3 t2, fun s z1 z2 => ?_⟩
      by_cases es : s = i
      · subst es
        exact clS_mono r2 (fun _ _ h => h) (fun _ _ h => h) t2.2.1 t2.2.2.1
      · exact clS_mono (t3 s (by omega) z2) r1.2.1 r1.2.2.1 (fun _ _ h => h) (fun _ _ h => h)
    show ∃ (b : Int32) (c2 e2 : Nat → Int32), fX0_reachAll_b55 pc (nI (G 7 0 0)) (C 0) (C 1) (C 2) (C 3) (C 4) (C 5) value (C 6) k40 (fX0_reachAll_l55 pc (nI (G 7 0 0)) (C 0) (C 1) (C 2) (C 3) (C 4) (C 5) value (C 6) k40 n) f yr (nI i) c e = _ ∧ _
    unfold fX0_reachAll_b55 fX0_reachAll_p97
    rw [if_neg (nI_ge (by omega) (by omega)), bd_eq _ bs, nm_q, ks, c0]
    by_cases h3 : G 0 i 0 = 3
    · obtain ⟨b1, d1, d2, r1, r2, r3⟩ := c_reachByCall h hc hi h3 c e
      rw [if_pos (z3.mpr h3), r1, ob_s, nm_q, nm_q, nI_1]
      exact go b1 d1 d2 r2 r3
    · obtain ⟨b1, d1, d2, r1, r2, r3⟩ := c_reachFrom h hc hi h3 c e
      rw [if_neg (fun z => h3 (z3.mp z)), r1, ob_s, nm_q, nm_q, nI_1]
      exact go b1 d1 d2 r2 r3
theorem c_firstPoint {G : Nat → Nat → Nat → Nat} {C : Nat → Nat → Int32} {value : Nat → Int64} (h : okPg G) (hc : cPg G C value) : fX3_firstPoint (nI (G 8 0 0)) (C 0) = some (pI (G 5 0 0), ()) := by
  have h1 := h.2.1
  have h2 := h.2.2.1
  unfold fX3_firstPoint fX3_firstPoint_p17
  rw [if_neg (nI_nle (by omega) (by omega)), bd_eq _ (by decide), nm_q]
  show some (C 0 0, ()) = _
  rw [hc.1 0 (by omega)]
theorem pI_neg {p : Nat} (h : p < 40) : (0 : Int32) ≤ pI p := by rw [pI_lt h]; exact nI_pos' (by omega)
theorem c_reachAll {G : Nat → Nat → Nat → Nat} {C : Nat → Nat → Int32} {value : Nat → Int64} (h : okPg G) (hc : cPg G C value) (c e : Nat → Int32) :
    Wq (fX0_reachAll c e (nI (G 8 0 0)) (nI (G 7 0 0)) (C 0) (C 1) (C 2) (C 3) (C 4) (C 5) value (C 6)) (fun r => isRe G r.1 r.2) := by
  obtain ⟨fu, hfu, hg⟩ := fu_any
  have hS := h.1
  obtain ⟨d1, e1, hd1⟩ := e_fill (N := 40) (by decide) 0 c
  obtain ⟨d2, e2, -⟩ := e_fill (N := 6) (by decide) 0 e
  unfold fX0_reachAll
  rw [e1, ob_s, e2, ob_s, c_firstPoint h hc, ob_s, hfu]
  have h0 := h.2.2.2.1 0 h.2.1
  rcases h0 with h0 | ⟨h0, -⟩
  · rw [h0, pI_40, if_neg (by decide)]
    refine Wq_some ⟨fun z => by omega, fun s hs => ?_⟩
    have hz : ∀ st, bi (d1 s) st = false := fun st => by rw [hd1 s, if_pos (by omega), bi_0]
    exact ⟨fun _ v st _ q => (by rw [hz] at q; cases q), fun _ st q => (by rw [hz] at q; cases q)⟩
  · have h40 : G 5 0 0 < 40 := by omega
    rw [if_pos (pI_neg h40), pI_lt h40, bd_eq _ (inb_nI (j := G 5 0 0) (n := 40) h40 (by decide)), nm_q, nI_clamp (n := G 5 0 0) (by omega)]
    refine Wq_wh (F := fun n (s : Int32 × Int32 × (Nat → Int32) × (Nat → Int32)) => fX0_reachAll_l40 (nI (G 8 0 0)) (nI (G 7 0 0)) (C 0) (C 1) (C 2) (C 3) (C 4) (C 5) value (C 6) n s.1 s.2.1 s.2.2.1 s.2.2.2)
      (B := fun k s => fX0_reachAll_b40 (nI (G 8 0 0)) (nI (G 7 0 0)) (C 0) (C 1) (C 2) (C 3) (C 4) (C 5) value (C 6) (fun a b c d => k (a, b, c, d)) s.1 s.2.1 s.2.2.1 s.2.2.2) (fun _ _ => rfl)
      (fun m s => (s.1 = 0 ∨ s.1 = 1) ∧ (∃ z, s.2.1 = nI z ∧ z + m ≤ 1500) ∧ bi (s.2.2.1 (G 5 0 0)) 0 = true ∧ (s.1 = 0 → ∀ t, t < G 7 0 0 → clS G s.2.2.1 s.2.2.2 s.2.2.1 s.2.2.2 t) ∧ (s.1 ≠ 0 → 1472 - (cntB s.2.2.1 40 + cntB s.2.2.2 6) + 1 ≤ m)) ?_ fu 1473 (1, 0, upd d1 (G 5 0 0) 1, d2) (by omega) ?_
    · rintro m ⟨f, yr, c', e'⟩ k ⟨q1, ⟨z, q2, q3⟩, q4, q5, q6⟩ ih
      simp only at q1 q2 q3 q4 q5 q6
      subst q2
      show Wq (fX0_reachAll_b40 (nI (G 8 0 0)) (nI (G 7 0 0)) (C 0) (C 1) (C 2) (C 3) (C 4) (C 5) value (C 6) (fun a b c d => k (a, b, c, d)) f (nI z) c' e') _
      unfold fX0_reachAll_b40
      have hz2 : ¬ (1000000 : Int32) ≤ nI z := nI_ge (a := z) (b := 1000000) (by omega) (by decide)
      rw [if_neg hz2]
      refine Wq_if (fun f0 => Wq_some ⟨fun _ => q4, q5 f0⟩) (fun f0 => ?_)
      obtain ⟨b, c2, e2, t1, t2, t3⟩ := l55_l h hc (pc := nI (G 8 0 0)) (yr := nI z) (fun a b c d => k (a, b, c, d)) (G 7 0 0) 0 fu 0 c' e' (by omega) (by omega) (Or.inl rfl)
      rw [hfu]
      have t1' : fX0_reachAll_l55 (nI (G 8 0 0)) (nI (G 7 0 0)) (C 0) (C 1) (C 2) (C 3) (C 4) (C 5) value (C 6) (fun a b c d => k (a, b, c, d)) fu 0 (nI z) 0 c' e' = k (b, nI z + 1, c2, e2) := t1
      have hm := q6 f0
      rw [t1', nI_1]
      refine ih (m - 1) _ (by omega) ⟨t2.1 (Or.inl rfl), ⟨z + 1, rfl, by omega⟩, t2.2.1 _ _ q4, fun b0 => ?_, fun b0 => ?_⟩
      · obtain ⟨-, y1, y2⟩ := t2.2.2.2.1 b0
        have hc1 : c2 = c' := funext y1
        have hy1 : e2 = e' := funext y2
        show ∀ t, t < G 7 0 0 → clS G c2 e2 c2 e2 t
        intro t ht
        have := t3 t (Nat.zero_le _) ht
        rw [← hc1, ← hy1] at this
        exact this
      · show 1472 - (cntB c2 40 + cntB e2 6) + 1 ≤ m - 1
        have u1 := cntB_le c2 40
        have u2 := cntB_le e2 6
        have u3 := cntB_mono 40 t2.2.1
        have u4 := cntB_mono 6 t2.2.2.1
        rcases t2.2.2.2.2 b0 with y | ⟨j, y1, y2⟩ | ⟨j, y1, y2⟩
        · exact absurd rfl y
        · have := cntB_lt t2.2.1 y1 y2
          omega
        · have := cntB_lt t2.2.2.1 y1 y2
          omega
    · refine ⟨Or.inr rfl, ⟨0, rfl, by omega⟩, ?_, fun z => absurd z n10, fun _ => by omega⟩
      show bi (upd d1 (G 5 0 0) 1 (G 5 0 0)) 0 = true
      rw [upd_at]
      decide
