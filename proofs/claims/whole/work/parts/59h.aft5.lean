/-! ===== pure rows 37: silent steps of the reference's net; spread ===== -/
theorem r_l357 {R q m0 : Nat} {rl : Nat → Int32} {pr : Nat → Nat → Nat} (hq : q < 8) (hm : m0 < 112) (k261 : Int32 → Int32 → (Nat → Int32) → (Nat → Int32) → Option (Int32 × (Nat → Int32) × (Nat → Int32))) (k269 : Int32 → Int32 → Int32 → (Nat → Int32) → (Nat → Int32) → Option (Int32 × (Nat → Int32) × (Nat → Int32))) :
    ∀ (k i n : Nat) (f : Int32) (c e : Nat → Int32), i + k = 112 → k < n → (f = 0 ∨ f = 1) →
      ∃ (f2 : Int32) (e2 : Nat → Int32), fX11_spread_l357 (nI R) rl k261 k269 n f (nI q) (nI m0) (nI i) c e = k269 f2 (nI q) (nI (m0 + 1)) c e2 ∧ (f2 = 0 ∨ f2 = 1) ∧ okM R pr c e f c e2 f2 ∧ (m0 < 8 → EM e q m0 → ∀ t, i ≤ t → t < 112 → EM e m0 t → EM e2 q t) := by
  have iq : (112 : Int32) * nI q = nI (112 * q) := pk_mul 112 _
  have im : (112 : Int32) * nI m0 = nI (112 * m0) := pk_mul 112 _
  intro k
  induction k with
  | zero =>
    intro i n f c e g1 g2 hf
    obtain ⟨n, rfl⟩ : ∃ z, n = z + 1 := ⟨n - 1, by omega⟩
    refine ⟨f, e, ?_, hf, okM_refl c e f, fun _ _ t h1 h2 => by omega⟩
    show fX11_spread_b357 (nI R) rl k261 k269 _ f (nI q) (nI m0) (nI i) c e = _
    unfold fX11_spread_b357 fX11_spread_p435
    have h112 : (112 : Int32) ≤ nI i := nI_le (a := 112) (b := i) (by omega) (by omega)
    rw [if_pos h112, nm_q, nI_1]
  | succ k ih =>
    intro i n f c e g1 g2 hf
    obtain ⟨n, rfl⟩ : ∃ z, n = z + 1 := ⟨n - 1, by omega⟩
    have h112 : ¬ (112 : Int32) ≤ nI i := nI_ge (a := i) (b := 112) (by omega) (by omega)
    have stop : (m0 < 8 → ¬ EM e q m0) → ∃ (f2 : Int32) (e2 : Nat → Int32), k269 f (nI q) (nI (m0 + 1)) c e = k269 f2 (nI q) (nI (m0 + 1)) c e2 ∧ (f2 = 0 ∨ f2 = 1) ∧ okM R pr c e f c e2 f2 ∧ (m0 < 8 → EM e q m0 → ∀ t, i ≤ t → t < 112 → EM e m0 t → EM e2 q t) := fun h => ⟨f, e, rfl, hf, okM_refl c e f, fun y1 y2 => absurd y2 (h y1)⟩
    have be := inb_nI (j := 112 * q + m0) (n := 896) (by omega) (by decide)
    have ke := nI_clamp (n := 112 * q + m0) (by omega)
    show ∃ (f2 : Int32) (e2 : Nat → Int32), fX11_spread_b357 (nI R) rl k261 k269 (fX11_spread_l357 (nI R) rl k261 k269 n) f (nI q) (nI m0) (nI i) c e = _ ∧ _
    unfold fX11_spread_b357 fX11_spread_p435 fX11_spread_p429
    rw [if_neg h112]
    by_cases h8 : m0 < 8
    · have h8' : ¬ (8 : Int32) ≤ nI m0 := nI_ge (a := m0) (b := 8) h8 (by omega)
      have bm := inb_nI (j := 112 * m0 + i) (n := 896) (by omega) (by decide)
      have km := nI_clamp (n := 112 * m0 + i) (by omega)
      have bi := inb_nI (j := 112 * q + i) (n := 896) (by omega) (by decide)
      have ki := nI_clamp (n := 112 * q + i) (by omega)
      rw [if_neg h8', nm_q, iq, nm_q, nI_add, bd_eq _ be, nm_q, ke]
      by_cases h0 : e (112 * q + m0) = 0
      · rw [if_pos h0, nm_q, nI_1]
        exact stop (fun _ z => z h0)
      · rw [if_neg h0, nm_q, im, nm_q, nI_add, bd_eq _ bm, nm_q, km]
        have next : ∀ (f1 : Int32) (e1 : Nat → Int32), (f1 = 0 ∨ f1 = 1) → okM R pr c e f c e1 f1 → (EM e m0 i → EM e1 q i) → ∃ (f2 : Int32) (e2 : Nat → Int32), fX11_spread_l357 (nI R) rl k261 k269 n f1 (nI q) (nI m0) (nI (i + 1)) c e1 = k269 f2 (nI q) (nI (m0 + 1)) c e2 ∧ (f2 = 0 ∨ f2 = 1) ∧ okM R pr c e f c e2 f2 ∧ (m0 < 8 → EM e q m0 → ∀ t, i ≤ t → t < 112 → EM e m0 t → EM e2 q t) := by
          intro f1 e1 y1 y2 y3
          obtain ⟨f2, e2, r1, r2, r3, r4⟩ := ih (i + 1) n f1 c e1 (by omega) (by omega) y1
          refine ⟨f2, e2, r1, r2, okM_trans y2 r3, fun y4 y5 t z1 z2 z3 => ?_⟩
          by_cases et : t = i
          · subst et; exact r3.2.2.1 _ (y3 z3)
          · exact r4 y4 (y2.2.2.1 _ y5) t (by omega) z2 (y2.2.2.1 _ z3)
        by_cases h1 : e (112 * m0 + i) = 0
        · rw [if_pos h1, nm_q, nI_1]
          exact next f e hf (okM_refl c e f) (fun z => absurd h1 z)
        · rw [if_neg h1, nm_q, nm_q, nI_add, bd_eq _ bi, nm_q, ki]
          by_cases h2 : e (112 * q + i) = 0
          · rw [if_pos h2, nm_q, nm_q, nI_add, bd_eq _ bi, nm_q, ki, nm_q, nI_1, nb1]
            refine next 1 _ (Or.inr rfl) (okM_setE hq (by omega) (Or.inr rfl) ⟨fun z => absurd z n10, fun z => absurd h2 z.2⟩ (fun A S q1 q2 => ?_)) (fun _ => upd1_ne.mpr (Or.inl rfl))
            exact (q1.2 q m0 hq hm (q2.2 q m0 hq hm h0)).2 h8 i (by omega) (q2.2 m0 i h8 (by omega) h1)
          · rw [if_neg h2, nm_q, nI_1]
            exact next f e hf (okM_refl c e f) (fun _ => h2)
    · have h8' : (8 : Int32) ≤ nI m0 := nI_le (a := 8) (b := m0) (by omega) (by omega)
      rw [if_pos h8', nm_q, nI_1]
      exact stop (fun z => absurd z h8)
theorem r_l278 {R q m0 : Nat} {rl : Nat → Int32} {pr : Nat → Nat → Nat} (hq : q < 8) (hm : m0 < 112) (k261 : Int32 → Int32 → (Nat → Int32) → (Nat → Int32) → Option (Int32 × (Nat → Int32) × (Nat → Int32))) (k269 : Int32 → Int32 → Int32 → (Nat → Int32) → (Nat → Int32) → Option (Int32 × (Nat → Int32) × (Nat → Int32))) :
    ∀ (k i n : Nat) (f : Int32) (c e : Nat → Int32), i + k = 1344 → k < n → (f = 0 ∨ f = 1) →
      ∃ (f2 : Int32) (c2 e2 : Nat → Int32), fX11_spread_l278 (nI R) rl k261 k269 n f (nI q) (nI m0) (nI i) c e = k269 f2 (nI q) (nI (m0 + 1)) c2 e2 ∧ (f2 = 0 ∨ f2 = 1) ∧ okM R pr c e f c2 e2 f2 ∧ (EM e q m0 → (∀ t, i ≤ t → t < 1344 → c (1344 * m0 + t) ≠ 0 → c2 (1344 * q + t) ≠ 0) ∧ (m0 < 8 → ∀ t, t < 112 → EM e m0 t → EM e2 q t)) := by
  have iq : (112 : Int32) * nI q = nI (112 * q) := pk_mul 112 _
  have jq : (1344 : Int32) * nI q = nI (1344 * q) := pk_mul 1344 _
  have jm : (1344 : Int32) * nI m0 = nI (1344 * m0) := pk_mul 1344 _
  obtain ⟨fu, hfu, hg⟩ := fu_any
  intro k
  induction k with
  | zero =>
    intro i n f c e g1 g2 hf
    obtain ⟨n, rfl⟩ : ∃ z, n = z + 1 := ⟨n - 1, by omega⟩
    obtain ⟨f2, e2, r1, r2, r3, r4⟩ := r_l357 (R := R) (rl := rl) (pr := pr) hq hm k261 k269 112 0 fu f c e (by omega) (by omega) hf
    refine ⟨f2, c, e2, ?_, r2, r3, fun y1 => ⟨fun t h1 h2 => by omega, fun h8 t ht => r4 h8 y1 t (by omega) ht⟩⟩
    show fX11_spread_b278 (nI R) rl k261 k269 _ f (nI q) (nI m0) (nI i) c e = _
    unfold fX11_spread_b278 fX11_spread_p354
    have h112 : (1344 : Int32) ≤ nI i := nI_le (a := 1344) (b := i) (by omega) (by omega)
    rw [if_pos h112, hfu]
    exact r1
  | succ k ih =>
    intro i n f c e g1 g2 hf
    obtain ⟨n, rfl⟩ : ∃ z, n = z + 1 := ⟨n - 1, by omega⟩
    have h112 : ¬ (1344 : Int32) ≤ nI i := nI_ge (a := i) (b := 1344) (by omega) (by omega)
    have be := inb_nI (j := 112 * q + m0) (n := 896) (by omega) (by decide)
    have ke := nI_clamp (n := 112 * q + m0) (by omega)
    have bm := inb_nI (j := 1344 * m0 + i) (n := 150528) (by omega) (by decide)
    have km := nI_clamp (n := 1344 * m0 + i) (by omega)
    have bi := inb_nI (j := 1344 * q + i) (n := 150528) (by omega) (by decide)
    have ki := nI_clamp (n := 1344 * q + i) (by omega)
    show ∃ (f2 : Int32) (c2 e2 : Nat → Int32), fX11_spread_b278 (nI R) rl k261 k269 (fX11_spread_l278 (nI R) rl k261 k269 n) f (nI q) (nI m0) (nI i) c e = _ ∧ _
    unfold fX11_spread_b278 fX11_spread_p354 fX11_spread_p348
    rw [if_neg h112, nm_q, iq, nm_q, nI_add, bd_eq _ be, nm_q, ke, hfu]
    by_cases h0 : e (112 * q + m0) = 0
    · obtain ⟨f2, e2, r1, r2, r3, r4⟩ := r_l357 (R := R) (rl := rl) (pr := pr) hq hm k261 k269 112 0 fu f c e (by omega) (by omega) hf
      rw [if_pos h0]
      exact ⟨f2, c, e2, r1, r2, r3, fun y1 => absurd h0 y1⟩
    · rw [if_neg h0, nm_q, jm, nm_q, nI_add, bd_eq _ bm, nm_q, km]
      have next : ∀ (f1 : Int32) (c1 : Nat → Int32), (f1 = 0 ∨ f1 = 1) → okM R pr c e f c1 e f1 → (c (1344 * m0 + i) ≠ 0 → c1 (1344 * q + i) ≠ 0) → ∃ (f2 : Int32) (c2 e2 : Nat → Int32), fX11_spread_l278 (nI R) rl k261 k269 n f1 (nI q) (nI m0) (nI (i + 1)) c1 e = k269 f2 (nI q) (nI (m0 + 1)) c2 e2 ∧ (f2 = 0 ∨ f2 = 1) ∧ okM R pr c e f c2 e2 f2 ∧ (EM e q m0 → (∀ t, i ≤ t → t < 1344 → c (1344 * m0 + t) ≠ 0 → c2 (1344 * q + t) ≠ 0) ∧ (m0 < 8 → ∀ t, t < 112 → EM e m0 t → EM e2 q t)) := by
        intro f1 c1 y1 y2 y3
        obtain ⟨f2, c2, e2, r1, r2, r3, r4⟩ := ih (i + 1) n f1 c1 e (by omega) (by omega) y1
        refine ⟨f2, c2, e2, r1, r2, okM_trans y2 r3, fun y5 => ⟨fun t z1 z2 z3 => ?_, (r4 y5).2⟩⟩
        by_cases et : t = i
        · subst et; exact r3.2.1 _ (y3 z3)
        · exact (r4 y5).1 t (by omega) z2 (y2.2.1 _ z3)
      by_cases h1 : c (1344 * m0 + i) = 0
      · rw [if_pos h1, nm_q, nI_1]
        exact next f c hf (okM_refl c e f) (fun z => absurd h1 z)
      · rw [if_neg h1, nm_q, jq, nm_q, nI_add, bd_eq _ bi, nm_q, ki]
        by_cases h2 : c (1344 * q + i) = 0
        · rw [if_pos h2, nm_q, nm_q, nI_add, bd_eq _ bi, nm_q, ki, nm_q, nI_1, nb1]
          have es : 1344 * q + i = 1344 * q + 112 * (i / 112) + i % 112 := by omega
          have em : 1344 * m0 + i = 1344 * m0 + 112 * (i / 112) + i % 112 := by omega
          refine next 1 _ (Or.inr rfl) ?_ (fun _ => upd1_ne.mpr (Or.inl rfl))
          rw [es]
          refine okM_setC (by omega) (by omega) (by omega) (Or.inr rfl) ⟨fun z => absurd z n10, fun z => ?_⟩ (fun A S q1 q2 => ?_)
          · rw [← es] at z; exact absurd h2 z.2
          · rw [em] at h1
            exact (q1.2 q m0 hq hm (q2.2 q m0 hq hm h0)).1 (i / 112) (i % 112) (by omega) (by omega) (q2.1 m0 (i / 112) (i % 112) hm (by omega) (by omega) h1)
        · rw [if_neg h2, nm_q, nI_1]
          exact next f c hf (okM_refl c e f) (fun _ => h2)
def dnE (c e c2 e2 : Nat → Int32) (q m0 : Nat) : Prop := EM e q m0 → (∀ t, t < 1344 → c (1344 * m0 + t) ≠ 0 → c2 (1344 * q + t) ≠ 0) ∧ (m0 < 8 → ∀ t, t < 112 → EM e m0 t → EM e2 q t)
theorem dnE_mono {c e c' e' c2 e2 c3 e3 : Nat → Int32} {q m0 : Nat} (h : dnE c' e' c2 e2 q m0) (hc : ∀ j, c j ≠ 0 → c' j ≠ 0) (he : ∀ j, e j ≠ 0 → e' j ≠ 0) (hc2 : ∀ j, c2 j ≠ 0 → c3 j ≠ 0) (he2 : ∀ j, e2 j ≠ 0 → e3 j ≠ 0) : dnE c e c3 e3 q m0 := by
  intro z
  obtain ⟨a, b⟩ := h (he _ z)
  exact ⟨fun t ht y => hc2 _ (a t ht (hc _ y)), fun h8 t ht y => he2 _ (b h8 t ht (he _ y))⟩
theorem r_l269 {R q : Nat} {rl : Nat → Int32} {pr : Nat → Nat → Nat} (hq : q < 8) (k261 : Int32 → Int32 → (Nat → Int32) → (Nat → Int32) → Option (Int32 × (Nat → Int32) × (Nat → Int32))) :
    ∀ (k i n : Nat) (f : Int32) (c e : Nat → Int32), i + k = 112 → k < n → (f = 0 ∨ f = 1) →
      ∃ (f2 : Int32) (c2 e2 : Nat → Int32), fX11_spread_l269 (nI R) rl k261 n f (nI q) (nI i) c e = k261 f2 (nI (q + 1)) c2 e2 ∧ (f2 = 0 ∨ f2 = 1) ∧ okM R pr c e f c2 e2 f2 ∧ ∀ m0, i ≤ m0 → m0 < 112 → dnE c e c2 e2 q m0 := by
  obtain ⟨fu, hfu, hg⟩ := fu_any
  intro k
  induction k with
  | zero =>
    intro i n f c e g1 g2 hf
    obtain ⟨n, rfl⟩ : ∃ z, n = z + 1 := ⟨n - 1, by omega⟩
    refine ⟨f, c, e, ?_, hf, okM_refl c e f, fun t h1 h2 => by omega⟩
    show fX11_spread_b269 (nI R) rl k261 _ f (nI q) (nI i) c e = _
    unfold fX11_spread_b269
    have h112 : (112 : Int32) ≤ nI i := nI_le (a := 112) (b := i) (by omega) (by omega)
    rw [if_pos h112, nm_q, nI_1]
  | succ k ih =>
    intro i n f c e g1 g2 hf
    obtain ⟨n, rfl⟩ : ∃ z, n = z + 1 := ⟨n - 1, by omega⟩
    have h112 : ¬ (112 : Int32) ≤ nI i := nI_ge (a := i) (b := 112) (by omega) (by omega)
    obtain ⟨f1, c1, e1, r1, r2, r3, r4⟩ := r_l278 (R := R) (rl := rl) (pr := pr) hq (show i < 112 by omega) k261 (fX11_spread_l269 (nI R) rl k261 n) 1344 0 fu f c e (by omega) (by omega) hf
    obtain ⟨f2, c2, e2, s1, s2, s3, s4⟩ := ih (i + 1) n f1 c1 e1 (by omega) (by omega) r2
    refine ⟨f2, c2, e2, ?_, s2, okM_trans r3 s3, fun m0 z1 z2 => ?_⟩
    · show fX11_spread_b269 (nI R) rl k261 _ f (nI q) (nI i) c e = _
      unfold fX11_spread_b269
      rw [if_neg h112, hfu]
      exact r1.trans s1
    · by_cases em : m0 = i
      · subst em
        have t1 : dnE c e c1 e1 q m0 := fun z => ⟨fun t ht => (r4 z).1 t (Nat.zero_le _) ht, (r4 z).2⟩
        exact dnE_mono t1 (fun _ h => h) (fun _ h => h) s3.2.1 s3.2.2.1
      · exact dnE_mono (s4 m0 (by omega) z2) r3.2.1 r3.2.2.1 (fun _ h => h) (fun _ h => h)
theorem r_l261 {R : Nat} {rl : Nat → Int32} {pr : Nat → Nat → Nat} :
    ∀ (k i n : Nat) (f : Int32) (c e : Nat → Int32), i + k = 8 → k < n → (f = 0 ∨ f = 1) →
      ∃ (f2 : Int32) (c2 e2 : Nat → Int32), fX11_spread_l261 (nI R) rl n f (nI i) c e = some (f2, c2, e2) ∧ (f2 = 0 ∨ f2 = 1) ∧ okM R pr c e f c2 e2 f2 ∧ ∀ q, i ≤ q → q < 8 → ∀ m0, m0 < 112 → dnE c e c2 e2 q m0 := by
  obtain ⟨fu, hfu, hg⟩ := fu_any
  intro k
  induction k with
  | zero =>
    intro i n f c e g1 g2 hf
    obtain ⟨n, rfl⟩ : ∃ z, n = z + 1 := ⟨n - 1, by omega⟩
    refine ⟨f, c, e, ?_, hf, okM_refl c e f, fun t h1 h2 => by omega⟩
    show fX11_spread_b261 (nI R) rl _ f (nI i) c e = _
    unfold fX11_spread_b261
    have h8 : (8 : Int32) ≤ nI i := nI_le (a := 8) (b := i) (by omega) (by omega)
    rw [if_pos h8]
    rcases hf with h | h <;> rw [h] <;> rfl
  | succ k ih =>
    intro i n f c e g1 g2 hf
    obtain ⟨n, rfl⟩ : ∃ z, n = z + 1 := ⟨n - 1, by omega⟩
    have h8 : ¬ (8 : Int32) ≤ nI i := nI_ge (a := i) (b := 8) (by omega) (by omega)
    obtain ⟨f1, c1, e1, r1, r2, r3, r4⟩ := r_l269 (R := R) (rl := rl) (pr := pr) (show i < 8 by omega) (fX11_spread_l261 (nI R) rl n) 112 0 fu f c e (by omega) (by omega) hf
    obtain ⟨f2, c2, e2, s1, s2, s3, s4⟩ := ih (i + 1) n f1 c1 e1 (by omega) (by omega) r2
    refine ⟨f2, c2, e2, ?_, s2, okM_trans r3 s3, fun q z1 z2 m0 hm => ?_⟩
    · show fX11_spread_b261 (nI R) rl _ f (nI i) c e = _
      unfold fX11_spread_b261
      rw [if_neg h8, hfu]
      exact r1.trans s1
    · by_cases em : q = i
      · subst em
        exact dnE_mono (r4 m0 (Nat.zero_le _) hm) (fun _ h => h) (fun _ h => h) s3.2.1 s3.2.2.1
      · exact dnE_mono (s4 q (by omega) z2 m0 hm) r3.2.1 r3.2.2.1 (fun _ h => h) (fun _ h => h)
theorem r_l4 {R : Nat} {m : Nat → Int32} {pr : Nat → Nat → Nat} (hP : okPr R pr) (hm : rmN R m pr) :
    ∀ (k i n : Nat) (f : Int32) (c e : Nat → Int32), i + k = R → k < n → (f = 0 ∨ f = 1) →
      ∃ (f2 : Int32) (c2 e2 : Nat → Int32), fX11_spread_l4 (nI R) m n f (nI i) c e = some (f2, c2, e2) ∧ (f2 = 0 ∨ f2 = 1) ∧ okM R pr c e f c2 e2 f2 ∧ (∀ r, i ≤ r → r < R → ∀ t, t < 112 → dnR c c2 e2 (pr 0 r) (pr 1 r) (pr 2 r) (pr 3 r) (pr 4 r) (pr 5 r) t) ∧ ∀ q, q < 8 → ∀ m0, m0 < 112 → dnE c e c2 e2 q m0 := by
  obtain ⟨fu, hfu, hg⟩ := fu_any
  have hR := hP.1
  intro k
  induction k with
  | zero =>
    intro i n f c e g1 g2 hf
    obtain ⟨n, rfl⟩ : ∃ z, n = z + 1 := ⟨n - 1, by omega⟩
    obtain ⟨f2, c2, e2, s1, s2, s3, s4⟩ := r_l261 (R := R) (rl := m) (pr := pr) 8 0 fu f c e (by omega) (by omega) hf
    refine ⟨f2, c2, e2, ?_, s2, s3, fun t h1 h2 => by omega, fun q hq m0 hm0 => s4 q (Nat.zero_le _) hq m0 hm0⟩
    show fX11_spread_b4 (nI R) m _ f (nI i) c e = _
    unfold fX11_spread_b4
    rw [if_pos (nI_le (by omega) (by omega)), hfu]
    exact s1
  | succ k ih =>
    intro i n f c e g1 g2 hf
    obtain ⟨n, rfl⟩ : ∃ z, n = z + 1 := ⟨n - 1, by omega⟩
    obtain ⟨m0, m1, m2, m3, m4, m5⟩ := hm i (by omega)
    have e6 : (6 : Int32) * nI i = nI (6 * i) := pk_mul 6 i
    have a2 : nI (6 * i) + 2 = nI (6 * i + 2) := nI_add _ 2
    obtain ⟨f1, c1, e1, r1, r2, r3, r4⟩ := r_l30 hP hm (show i < R by omega) (fX11_spread_l4 (nI R) m n) 112 0 fu f c e (by omega) (by omega) hf
    obtain ⟨f2, c2, e2, s1, s2, s3, s4, s5⟩ := ih (i + 1) n f1 c1 e1 (by omega) (by omega) r2
    refine ⟨f2, c2, e2, ?_, s2, okM_trans r3 s3, fun r z1 z2 t ht => ?_, fun q hq m0 hm0 => dnE_mono (s5 q hq m0 hm0) r3.2.1 r3.2.2.1 (fun _ h => h) (fun _ h => h)⟩
    · show fX11_spread_b4 (nI R) m _ f (nI i) c e = _
      unfold fX11_spread_b4
      rw [if_neg (nI_ge (by omega) (by omega)), nm_q, e6, nm_q, a2, bd_eq _ (inb_nI (j := 6 * i + 2) (n := 288) (by omega) (by decide)), nm_q, nI_clamp (n := 6 * i + 2) (by omega), m2, hfu]
      exact r1.trans s1
    · by_cases em : r = i
      · subst em
        exact dnR_mono (r4 t (Nat.zero_le _) ht) (fun _ h => h) s3.2.1 s3.2.2.1
      · exact dnR_mono (s4 r (by omega) z2 t ht) r3.2.1 (fun _ h => h) (fun _ h => h)
/-- one spread: nothing new only where all is closed -/
theorem r_spread {R : Nat} {m : Nat → Int32} {pr : Nat → Nat → Nat} (hP : okPr R pr) (hm : rmN R m pr) (c e : Nat → Int32) :
    ∃ (f2 : Int32) (c2 e2 : Nat → Int32), fX11_spread (nI R) m c e = some (f2, c2, e2) ∧ (f2 = 0 ∨ f2 = 1) ∧ okM R pr c e 0 c2 e2 f2 ∧ (f2 = 0 → clMs (GM c2) (EM e2) R pr) := by
  obtain ⟨fu, hfu, hg⟩ := fu_any
  obtain ⟨f2, c2, e2, s1, s2, s3, s4, s5⟩ := r_l4 hP hm R 0 fu 0 c e (by omega) (by have := hP.1; omega) (Or.inl rfl)
  refine ⟨f2, c2, e2, ?_, s2, s3, fun h => ?_⟩
  · unfold fX11_spread
    rw [hfu]
    exact s1
  · obtain ⟨-, b1, b2⟩ := s3.2.2.2.1 h
    refine ⟨fun r hr t ht hg => s4 r (Nat.zero_le _) hr t ht (b1 _ hg), fun q m0 hq hm0 hs => ?_⟩
    obtain ⟨y1, y2⟩ := s5 q hq m0 hm0 (b2 _ hs)
    refine ⟨fun s t hs2 ht hA => ?_, fun h8 t ht hS => y2 h8 t ht (b2 _ hS)⟩
    have hA' : c2 (1344 * m0 + 112 * s + t) ≠ 0 := hA
    show c2 (1344 * q + 112 * s + t) ≠ 0
    rw [Nat.add_assoc] at hA' ⊢
    exact y1 (112 * s + t) (by omega) (b1 _ hA')
