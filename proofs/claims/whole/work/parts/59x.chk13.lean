/-! ===== pure rows 53: the reference's rounds (all settings, all statements) ===== -/
theorem glst {st : Nat} (h : st < 32) : ∃ gl, gl < 32 ∧ st = gl / 4 + 8 * (gl % 4) := ⟨4 * (st % 8) + st / 8, by omega, by omega⟩
theorem r_l67 {G : Nat → Nat → Nat → Nat} {M : Nat → Nat → Int32} (h : okPg G) (hm : mPg G M) {s : Nat} (hs : s < G 7 0 0) {cf : Nat → Int32}
    (k48 : Int32 → Int32 → Int32 → Int32 → (Nat → Int32) → (Nat → Int32) → (Nat → Int32) → Option (Int32 × Int32 × Int32 × (Nat → Int32) × (Nat → Int32) × (Nat → Int32)))
    (k61 : Int32 → Int32 → Int32 → Int32 → Int32 → (Nat → Int32) → (Nat → Int32) → (Nat → Int32) → Option (Int32 × Int32 × Int32 × (Nat → Int32) × (Nat → Int32) × (Nat → Int32))) :
    ∀ (k i n : Nat) (f n1 n2 n3 : Int32) (x : Nat → Nat) (c va : Nat → Int32), i + k = 32 → k < n → (f = 0 ∨ f = 1) → (∀ j, j < 288 * G 7 0 0 → vl (x j)) → tmE (G 7 0 0) x c → tmF (G 7 0 0) x cf →
      ∃ (f2 m1 m2 m3 : Int32) (x2 : Nat → Nat) (c2 va2 : Nat → Int32), fX11_solve_l67 (nI (G 7 0 0)) (M 0) (M 1) (M 2) (M 3) (M 5) (M 6) (M 7) (M 4) k48 k61 n f (nI s) (nI i) n1 n2 n3 c cf va = k61 f2 (nI s - 1) m1 m2 m3 c2 cf va2 ∧ tmE (G 7 0 0) x2 c2 ∧ tmF (G 7 0 0) x2 cf ∧ exOk G (fun col => col < 8) x x2 f f2 (fun a b _ => a = s ∧ ∃ gl, i ≤ gl ∧ gl < 32 ∧ b = gl / 4 + 8 * (gl % 4)) := by
  obtain ⟨fu, hfu, hgu⟩ := fu_any
  intro k
  induction k with
  | zero =>
    intro i n f n1 n2 n3 x c va g1 g2 hf hv hc hcf
    obtain ⟨n, rfl⟩ : ∃ z, n = z + 1 := ⟨n - 1, by omega⟩
    refine ⟨f, n1, n2, n3, x, c, va, ?_, hc, hcf, exOk_P (exOk_refl hf hv) (fun a b col _ _ _ q1 q2 => by obtain ⟨_, gl, w1, w2, _⟩ := q2; omega)⟩
    show fX11_solve_b67 (nI (G 7 0 0)) (M 0) (M 1) (M 2) (M 3) (M 5) (M 6) (M 7) (M 4) k48 k61 _ f (nI s) (nI i) n1 n2 n3 c cf va = _
    unfold fX11_solve_b67
    have h32 : (32 : Int32) ≤ nI i := nI_le (a := 32) (b := i) (by omega) (by omega)
    rw [if_pos h32, nm_q, m1_eq]
  | succ k ih =>
    intro i n f n1 n2 n3 x c va g1 g2 hf hv hc hcf
    obtain ⟨n, rfl⟩ : ∃ z, n = z + 1 := ⟨n - 1, by omega⟩
    have h32 : ¬ (32 : Int32) ≤ nI i := nI_ge (a := i) (b := 32) (by omega) (by omega)
    obtain ⟨f1, p1, p2, p3, x1, c1, va1, r1, r2, r3, r4⟩ := r_l76 h hm hs (show i < 32 by omega) (cf := cf) k48 k61 (fX11_solve_l67 (nI (G 7 0 0)) (M 0) (M 1) (M 2) (M 3) (M 5) (M 6) (M 7) (M 4) k48 k61 n) 8 0 fu f n1 n2 n3 x c va (by omega) (by omega) hf hv hc hcf
    obtain ⟨f2, q1, q2, q3, x2, c2, va2, s1, s2, s3, s4⟩ := ih (i + 1) n f1 p1 p2 p3 x1 c1 va1 (by omega) (by omega) r4.2.1 r4.2.2.2.2.2.2 r2 r3
    refine ⟨f2, q1, q2, q3, x2, c2, va2, ?_, s2, s3, exOk_P (exOk_trans h r4 s4) (fun a b col _ _ _ w1 w2 => ?_)⟩
    · show fX11_solve_b67 (nI (G 7 0 0)) (M 0) (M 1) (M 2) (M 3) (M 5) (M 6) (M 7) (M 4) k48 k61 _ f (nI s) (nI i) n1 n2 n3 c cf va = _
      unfold fX11_solve_b67
      rw [if_neg h32, hfu]
      exact r1.trans s1
    · obtain ⟨e1, gl, e2, e3, e4⟩ := w2
      by_cases e : gl = i
      · exact Or.inl ⟨e1, by rw [e4, e], Nat.zero_le _⟩
      · exact Or.inr ⟨e1, gl, by omega, e3, e4⟩
theorem r_l61 {G : Nat → Nat → Nat → Nat} {M : Nat → Nat → Int32} (h : okPg G) (hm : mPg G M) {cf : Nat → Int32}
    (k48 : Int32 → Int32 → Int32 → Int32 → (Nat → Int32) → (Nat → Int32) → (Nat → Int32) → Option (Int32 × Int32 × Int32 × (Nat → Int32) × (Nat → Int32) × (Nat → Int32))) :
    ∀ (j n : Nat) (f n1 n2 n3 : Int32) (x : Nat → Nat) (c va : Nat → Int32), j ≤ G 7 0 0 → j < n → (f = 0 ∨ f = 1) → (∀ j, j < 288 * G 7 0 0 → vl (x j)) → tmE (G 7 0 0) x c → tmF (G 7 0 0) x cf →
      ∃ (f2 m1 m2 m3 : Int32) (x2 : Nat → Nat) (c2 va2 : Nat → Int32), fX11_solve_l61 (nI (G 7 0 0)) (M 0) (M 1) (M 2) (M 3) (M 5) (M 6) (M 7) (M 4) k48 n f (nI j - 1) n1 n2 n3 c cf va = k48 f2 m1 m2 m3 c2 cf va2 ∧ tmE (G 7 0 0) x2 c2 ∧ tmF (G 7 0 0) x2 cf ∧ exOk G (fun col => col < 8) x x2 f f2 (fun a _ _ => a < j) := by
  obtain ⟨fu, hfu, hgu⟩ := fu_any
  have hS := h.1
  intro j
  induction j with
  | zero =>
    intro n f n1 n2 n3 x c va g1 g2 hf hv hc hcf
    obtain ⟨n, rfl⟩ : ∃ z, n = z + 1 := ⟨n - 1, by omega⟩
    refine ⟨f, n1, n2, n3, x, c, va, ?_, hc, hcf, exOk_P (exOk_refl hf hv) (fun a b col _ _ _ q1 q2 => by omega)⟩
    show fX11_solve_b61 (nI (G 7 0 0)) (M 0) (M 1) (M 2) (M 3) (M 5) (M 6) (M 7) (M 4) k48 _ f (nI 0 - 1) n1 n2 n3 c cf va = _
    unfold fX11_solve_b61
    rw [if_pos (by decide)]
  | succ j ih =>
    intro n f n1 n2 n3 x c va g1 g2 hf hv hc hcf
    obtain ⟨n, rfl⟩ : ∃ z, n = z + 1 := ⟨n - 1, by omega⟩
    obtain ⟨f1, p1, p2, p3, x1, c1, va1, r1, r2, r3, r4⟩ := r_l67 h hm (show j < G 7 0 0 by omega) (cf := cf) k48 (fX11_solve_l61 (nI (G 7 0 0)) (M 0) (M 1) (M 2) (M 3) (M 5) (M 6) (M 7) (M 4) k48 n) 32 0 fu f n1 n2 n3 x c va (by omega) (by omega) hf hv hc hcf
    obtain ⟨f2, q1, q2, q3, x2, c2, va2, s1, s2, s3, s4⟩ := ih n f1 p1 p2 p3 x1 c1 va1 (by omega) (by omega) r4.2.1 r4.2.2.2.2.2.2 r2 r3
    refine ⟨f2, q1, q2, q3, x2, c2, va2, ?_, s2, s3, exOk_P (exOk_trans h r4 s4) (fun a b col _ w3 _ w1 w2 => ?_)⟩
    · show fX11_solve_b61 (nI (G 7 0 0)) (M 0) (M 1) (M 2) (M 3) (M 5) (M 6) (M 7) (M 4) k48 _ f (nI (j + 1) - 1) n1 n2 n3 c cf va = _
      unfold fX11_solve_b61
      rw [nI_pred, if_neg (nI_pos (by omega)), hfu]
      exact r1.trans s1
    · by_cases e : a = j
      · obtain ⟨gl, e1, e2⟩ := glst w3
        exact Or.inl ⟨e, gl, Nat.zero_le _, e1, e2⟩
      · exact Or.inr (by show a < j; omega)
theorem r_l211 {G : Nat → Nat → Nat → Nat} {M : Nat → Nat → Int32} (h : okPg G) (hm : mPg G M) {s : Nat} (hs : s < G 7 0 0) {c : Nat → Int32}
    (k192 : Int32 → Int32 → Int32 → Int32 → (Nat → Int32) → (Nat → Int32) → (Nat → Int32) → Option (Int32 × Int32 × Int32 × (Nat → Int32) × (Nat → Int32) × (Nat → Int32)))
    (k205 : Int32 → Int32 → Int32 → Int32 → Int32 → (Nat → Int32) → (Nat → Int32) → (Nat → Int32) → Option (Int32 × Int32 × Int32 × (Nat → Int32) × (Nat → Int32) × (Nat → Int32))) :
    ∀ (k i n : Nat) (f n1 n2 n3 : Int32) (x : Nat → Nat) (cf va : Nat → Int32), i + k = 32 → k < n → (f = 0 ∨ f = 1) → (∀ j, j < 288 * G 7 0 0 → vl (x j)) → tmE (G 7 0 0) x c → tmF (G 7 0 0) x cf →
      ∃ (f2 m1 m2 m3 : Int32) (x2 : Nat → Nat) (cf2 va2 : Nat → Int32), fX11_solve_l211 (nI (G 7 0 0)) (M 0) (M 1) (M 2) (M 3) (M 5) (M 6) (M 7) (M 4) k192 k205 n f (nI s) (nI i) n1 n2 n3 c cf va = k205 f2 (nI s - 1) m1 m2 m3 c cf2 va2 ∧ tmE (G 7 0 0) x2 c ∧ tmF (G 7 0 0) x2 cf2 ∧ exOk G (fun col => col = 8) x x2 f f2 (fun a b _ => a = s ∧ ∃ gl, i ≤ gl ∧ gl < 32 ∧ b = gl / 4 + 8 * (gl % 4)) := by
  have hS := h.1
  intro k
  induction k with
  | zero =>
    intro i n f n1 n2 n3 x cf va g1 g2 hf hv hc hcf
    obtain ⟨n, rfl⟩ : ∃ z, n = z + 1 := ⟨n - 1, by omega⟩
    refine ⟨f, n1, n2, n3, x, cf, va, ?_, hc, hcf, exOk_P (exOk_refl hf hv) (fun a b col _ _ _ q1 q2 => by obtain ⟨_, gl, w1, w2, _⟩ := q2; omega)⟩
    show fX11_solve_b211 (nI (G 7 0 0)) (M 0) (M 1) (M 2) (M 3) (M 5) (M 6) (M 7) (M 4) k192 k205 _ f (nI s) (nI i) n1 n2 n3 c cf va = _
    unfold fX11_solve_b211
    have h32 : (32 : Int32) ≤ nI i := nI_le (a := 32) (b := i) (by omega) (by omega)
    rw [if_pos h32, nm_q, m1_eq]
  | succ k ih =>
    intro i n f n1 n2 n3 x cf va g1 g2 hf hv hc hcf
    obtain ⟨n, rfl⟩ : ∃ z, n = z + 1 := ⟨n - 1, by omega⟩
    have h32 : ¬ (32 : Int32) ≤ nI i := nI_ge (a := i) (b := 32) (by omega) (by omega)
    obtain ⟨gb1, gb2⟩ := gl_bits i (by omega)
    have hg : i / 4 < 8 := by omega
    have hl : i % 4 < 4 := by omega
    have hb : atI (i / 4) s (i % 4) < 1280 := by unfold atI; omega
    have bj := inb_nI (j := atI (i / 4) s (i % 4)) (n := 1280) hb (by decide)
    have kj := nI_clamp (n := atI (i / 4) s (i % 4)) (by omega)
    obtain ⟨⟨o, m1, m2, m3, va2⟩, ho, hor⟩ := r_failCost h hm hs hg hl hv (va := va) hc hcf n1 n2 n3
    simp only at hor
    obtain ⟨s1, s2⟩ := hcf (i / 4) s (i % 4) hg hs hl
    have vd : vl (der G x s (i / 4 + 8 * (i % 4)) 8) := der_vl
    have hle := mI_le s2 vd
    have rm := r_min s2 vd
    obtain ⟨f1, hf1, hfe, hrun⟩ : ∃ f1 : Int32, (f1 = 0 ∨ f1 = 1) ∧ (f1 = 0 ↔ f = 0 ∧ x (rI s (i / 4 + 8 * (i % 4)) 8) ≤ der G x s (i / 4 + 8 * (i % 4)) 8) ∧ fX11_solve_l211 (nI (G 7 0 0)) (M 0) (M 1) (M 2) (M 3) (M 5) (M 6) (M 7) (M 4) k192 k205 (n + 1) f (nI s) (nI i) n1 n2 n3 c cf va = fX11_solve_l211 (nI (G 7 0 0)) (M 0) (M 1) (M 2) (M 3) (M 5) (M 6) (M 7) (M 4) k192 k205 n f1 (nI s) (nI (i + 1)) m1 m2 m3 c (upd cf (atI (i / 4) s (i % 4)) (mI (min (x (rI s (i / 4 + 8 * (i % 4)) 8)) (der G x s (i / 4 + 8 * (i % 4)) 8)))) va2 := by
      refine ⟨if f = 0 then (if x (rI s (i / 4 + 8 * (i % 4)) 8) ≤ der G x s (i / 4 + 8 * (i % 4)) 8 then 0 else 1) else 1, ?_, ?_, ?_⟩
      · by_cases q1 : f = 0 <;> by_cases q2 : x (rI s (i / 4 + 8 * (i % 4)) 8) ≤ der G x s (i / 4 + 8 * (i % 4)) 8 <;> simp [q1, q2]
      · by_cases q1 : f = 0 <;> by_cases q2 : x (rI s (i / 4 + 8 * (i % 4)) 8) ≤ der G x s (i / 4 + 8 * (i % 4)) 8 <;> simp [q1, q2]
      · show fX11_solve_b211 (nI (G 7 0 0)) (M 0) (M 1) (M 2) (M 3) (M 5) (M 6) (M 7) (M 4) k192 k205 (fX11_solve_l211 (nI (G 7 0 0)) (M 0) (M 1) (M 2) (M 3) (M 5) (M 6) (M 7) (M 4) k192 k205 n) f (nI s) (nI i) n1 n2 n3 c cf va = _
        rw [← rm]
        unfold fX11_solve_b211 fX11_solve_p258 fX11_solve_p263 fX11_solve_p294
        rw [if_neg h32, nm_q, gb1, nm_q, gb2, r_at, ob_s, nm_q, nm_q, ho, ob_s]
        simp only [hor]
        rw [bd_eq _ bj]
        simp only [nm_q, kj, s1, hle, nI_1]
        by_cases q1 : f = 0
        · rw [if_pos q1, if_pos q1]
          by_cases q2 : x (rI s (i / 4 + 8 * (i % 4)) 8) ≤ der G x s (i / 4 + 8 * (i % 4)) 8
          · rw [if_pos q2, bd_eq _ bj, if_pos q2, bd_eq _ bj, bd_eq _ bj, if_pos q2, if_pos q2]
          · rw [if_neg q2, bd_eq _ bj, if_neg q2, bd_eq _ bj, if_neg q2, if_neg q2]
        · rw [if_neg q1, if_neg q1, bd_eq _ bj]
          by_cases q2 : x (rI s (i / 4 + 8 * (i % 4)) 8) ≤ der G x s (i / 4 + 8 * (i % 4)) 8
          · rw [if_pos q2, bd_eq _ bj, bd_eq _ bj, if_pos q2]
          · rw [if_neg q2, bd_eq _ bj, if_neg q2]
    have hone := exOk_one (Q := fun col => col = 8) hs (show i / 4 + 8 * (i % 4) < 32 by omega) (show 8 < 9 by omega) rfl hv hf1 hfe h
    obtain ⟨f2, p1, p2, p3, x2, c2, va3, r1, r2, r3, r4⟩ := ih (i + 1) n f1 m1 m2 m3 _ _ va2 (by omega) (by omega) hf1 hone.2.2.2.2.2.2 (tmE_lowF hl hg hc) (tmF_low hS hs hg hl hcf vd)
    refine ⟨f2, p1, p2, p3, x2, c2, va3, hrun.trans r1, r2, r3, exOk_P (exOk_trans h hone r4) (fun a b col _ _ _ q1 q2 => ?_)⟩
    obtain ⟨e1, gl, e2, e3, e4⟩ := q2
    by_cases e : gl = i
    · exact Or.inl ⟨e1, by rw [e4, e], q1⟩
    · exact Or.inr ⟨e1, gl, by omega, e3, e4⟩
theorem r_l205 {G : Nat → Nat → Nat → Nat} {M : Nat → Nat → Int32} (h : okPg G) (hm : mPg G M) {c : Nat → Int32}
    (k192 : Int32 → Int32 → Int32 → Int32 → (Nat → Int32) → (Nat → Int32) → (Nat → Int32) → Option (Int32 × Int32 × Int32 × (Nat → Int32) × (Nat → Int32) × (Nat → Int32))) :
    ∀ (j n : Nat) (f n1 n2 n3 : Int32) (x : Nat → Nat) (cf va : Nat → Int32), j ≤ G 7 0 0 → j < n → (f = 0 ∨ f = 1) → (∀ j, j < 288 * G 7 0 0 → vl (x j)) → tmE (G 7 0 0) x c → tmF (G 7 0 0) x cf →
      ∃ (f2 m1 m2 m3 : Int32) (x2 : Nat → Nat) (cf2 va2 : Nat → Int32), fX11_solve_l205 (nI (G 7 0 0)) (M 0) (M 1) (M 2) (M 3) (M 5) (M 6) (M 7) (M 4) k192 n f (nI j - 1) n1 n2 n3 c cf va = k192 f2 m1 m2 m3 c cf2 va2 ∧ tmE (G 7 0 0) x2 c ∧ tmF (G 7 0 0) x2 cf2 ∧ exOk G (fun col => col = 8) x x2 f f2 (fun a _ _ => a < j) := by
  obtain ⟨fu, hfu, hgu⟩ := fu_any
  have hS := h.1
  intro j
  induction j with
  | zero =>
    intro n f n1 n2 n3 x cf va g1 g2 hf hv hc hcf
    obtain ⟨n, rfl⟩ : ∃ z, n = z + 1 := ⟨n - 1, by omega⟩
    refine ⟨f, n1, n2, n3, x, cf, va, ?_, hc, hcf, exOk_P (exOk_refl hf hv) (fun a b col _ _ _ q1 q2 => by omega)⟩
    show fX11_solve_b205 (nI (G 7 0 0)) (M 0) (M 1) (M 2) (M 3) (M 5) (M 6) (M 7) (M 4) k192 _ f (nI 0 - 1) n1 n2 n3 c cf va = _
    unfold fX11_solve_b205
    rw [if_pos (by decide)]
  | succ j ih =>
    intro n f n1 n2 n3 x cf va g1 g2 hf hv hc hcf
    obtain ⟨n, rfl⟩ : ∃ z, n = z + 1 := ⟨n - 1, by omega⟩
    obtain ⟨f1, p1, p2, p3, x1, c1, va1, r1, r2, r3, r4⟩ := r_l211 h hm (show j < G 7 0 0 by omega) (c := c) k192 (fX11_solve_l205 (nI (G 7 0 0)) (M 0) (M 1) (M 2) (M 3) (M 5) (M 6) (M 7) (M 4) k192 n) 32 0 fu f n1 n2 n3 x cf va (by omega) (by omega) hf hv hc hcf
    obtain ⟨f2, q1, q2, q3, x2, c2, va2, s1, s2, s3, s4⟩ := ih n f1 p1 p2 p3 x1 c1 va1 (by omega) (by omega) r4.2.1 r4.2.2.2.2.2.2 r2 r3
    refine ⟨f2, q1, q2, q3, x2, c2, va2, ?_, s2, s3, exOk_P (exOk_trans h r4 s4) (fun a b col _ w3 _ w1 w2 => ?_)⟩
    · show fX11_solve_b205 (nI (G 7 0 0)) (M 0) (M 1) (M 2) (M 3) (M 5) (M 6) (M 7) (M 4) k192 _ f (nI (j + 1) - 1) n1 n2 n3 c cf va = _
      unfold fX11_solve_b205
      rw [nI_pred, if_neg (nI_pos (by omega)), hfu]
      exact r1.trans s1
    · by_cases e : a = j
      · obtain ⟨gl, e1, e2⟩ := glst w3
        exact Or.inl ⟨e, gl, Nat.zero_le _, e1, e2⟩
      · exact Or.inr (by show a < j; omega)
/-- the operator on the columns that Q names -/
def opQ (G : Nat → Nat → Nat → Nat) (q : Nat → Bool) (x : Nat → Nat) (j : Nat) : Nat := if q (j % 9) then der G x (j / 288) (j / 9 % 32) (j % 9) else 536870912
theorem opQ_ok {G : Nat → Nat → Nat → Nat} (h : okPg G) (q : Nat → Bool) : okOp (288 * G 7 0 0) (opQ G q) := by
  refine ⟨fun x j => ?_, fun x y hxy j hj => ?_, fun D x j hj hM hx => ?_⟩
  · unfold opQ
    by_cases ha : q (j % 9) = true
    · rw [if_pos ha]; exact der_vl
    · rw [if_neg ha]; exact Or.inr rfl
  · unfold opQ
    by_cases ha : q (j % 9) = true
    · rw [if_pos ha, if_pos ha]; exact der_mono h hxy (by omega) (by omega) (by omega)
    · rw [if_neg ha, if_neg ha]; exact Nat.le_refl _
  · unfold opQ at hM hx ⊢
    by_cases ha : q (j % 9) = true
    · rw [if_pos ha] at hM hx ⊢; rw [if_pos ha]
      exact der_loc h (by omega) (by omega) (by omega) hM hx
    · rw [if_neg ha] at hM; omega
theorem opQ_at {G : Nat → Nat → Nat → Nat} {q : Nat → Bool} {x : Nat → Nat} {s st col : Nat} (hst : st < 32) (hcol : col < 9) (ha : q col = true) : opQ G q x (rI s st col) = der G x s st col := by
  obtain ⟨e1, e2, e3⟩ := rI_inv (s := s) hst hcol
  unfold opQ
  rw [e1, e2, e3, if_pos ha]
