/-! ===== pure rows 36: the reference's net of all that the set comes to ===== -/
def GM (c : Nat → Int32) (a s b : Nat) : Prop := c (1344 * a + 112 * s + b) ≠ 0
def EM (e : Nat → Int32) (q b : Nat) : Prop := e (112 * q + b) ≠ 0
def clM (A : Nat → Nat → Nat → Prop) (S : Nat → Nat → Prop) (p g q n w1 w2 : Nat) : Prop := ∀ b, b < 112 → A p g b → (n = 0 → S q b) ∧ (n = 1 → A q w1 b) ∧ (n = 2 → A q w1 (16 + 12 * q + w1) ∧ A (16 + 12 * q + w1) w2 b)
def epsM (A : Nat → Nat → Nat → Prop) (S : Nat → Nat → Prop) : Prop := ∀ q m, q < 8 → m < 112 → S q m → (∀ s t, s < 12 → t < 112 → A m s t → A q s t) ∧ (m < 8 → ∀ t, t < 112 → S m t → S q t)
def clMs (A : Nat → Nat → Nat → Prop) (S : Nat → Nat → Prop) (R : Nat) (pr : Nat → Nat → Nat) : Prop := (∀ r, r < R → clM A S (pr 0 r) (pr 1 r) (pr 2 r) (pr 3 r) (pr 4 r) (pr 5 r)) ∧ epsM A S
def subM (c e : Nat → Int32) (A : Nat → Nat → Nat → Prop) (S : Nat → Nat → Prop) : Prop := (∀ a s b, a < 112 → s < 12 → b < 112 → GM c a s b → A a s b) ∧ ∀ q b, q < 8 → b < 112 → EM e q b → S q b
def gain (c e c2 e2 : Nat → Int32) : Prop := (∃ j, j < 150528 ∧ c2 j ≠ 0 ∧ c j = 0) ∨ ∃ j, j < 896 ∧ e2 j ≠ 0 ∧ e j = 0
def okM (R : Nat) (pr : Nat → Nat → Nat) (c e : Nat → Int32) (f : Int32) (c2 e2 : Nat → Int32) (f2 : Int32) : Prop :=
  ((f = 0 ∨ f = 1) → (f2 = 0 ∨ f2 = 1)) ∧ (∀ j, c j ≠ 0 → c2 j ≠ 0) ∧ (∀ j, e j ≠ 0 → e2 j ≠ 0) ∧ (f2 = 0 → f = 0 ∧ (∀ j, c2 j ≠ 0 → c j ≠ 0) ∧ ∀ j, e2 j ≠ 0 → e j ≠ 0) ∧ (f2 ≠ 0 → f ≠ 0 ∨ gain c e c2 e2) ∧ ∀ A S, clMs A S R pr → subM c e A S → subM c2 e2 A S
theorem okM_refl {R : Nat} {pr : Nat → Nat → Nat} (c e : Nat → Int32) (f : Int32) : okM R pr c e f c e f :=
  ⟨id, fun _ h => h, fun _ h => h, fun h => ⟨h, fun _ h => h, fun _ h => h⟩, fun h => Or.inl h, fun _ _ _ h => h⟩
theorem okM_trans {R : Nat} {pr : Nat → Nat → Nat} {c e c2 e2 c3 e3 : Nat → Int32} {f f2 f3 : Int32} (h1 : okM R pr c e f c2 e2 f2) (h2 : okM R pr c2 e2 f2 c3 e3 f3) : okM R pr c e f c3 e3 f3 := by
  obtain ⟨a1, a2, a3, a4, a5, a6⟩ := h1
  obtain ⟨b1, b2, b3, b4, b5, b6⟩ := h2
  refine ⟨fun h => b1 (a1 h), fun j h => b2 j (a2 j h), fun j h => b3 j (a3 j h), fun h => ?_, fun h => ?_, fun A S q h => b6 A S q (a6 A S q h)⟩
  · obtain ⟨y1, y2, y3⟩ := b4 h
    obtain ⟨z1, z2, z3⟩ := a4 y1
    exact ⟨z1, fun j h => z2 j (y2 j h), fun j h => z3 j (y3 j h)⟩
  · rcases b5 h with h | h
    · rcases a5 h with h | (⟨j, g1, g2, g3⟩ | ⟨j, g1, g2, g3⟩)
      · exact Or.inl h
      · exact Or.inr (Or.inl ⟨j, g1, b2 j g2, g3⟩)
      · exact Or.inr (Or.inr ⟨j, g1, b3 j g2, g3⟩)
    · rcases h with ⟨j, g1, g2, g3⟩ | ⟨j, g1, g2, g3⟩
      · exact Or.inr (Or.inl ⟨j, g1, g2, Classical.byContradiction (fun z => a2 j z g3)⟩)
      · exact Or.inr (Or.inr ⟨j, g1, g2, Classical.byContradiction (fun z => a3 j z g3)⟩)
theorem upd1_ne {c : Nat → Int32} {k j : Nat} : upd c k 1 j ≠ 0 ↔ j = k ∨ c j ≠ 0 := by
  unfold upd
  by_cases h : j = k
  · rw [if_pos h]; exact ⟨fun _ => Or.inl h, fun _ => n10⟩
  · rw [if_neg h]; exact ⟨Or.inr, fun z => z.resolve_left h⟩
theorem okM_setC {R : Nat} {pr : Nat → Nat → Nat} {c e : Nat → Int32} {f f2 : Int32} {a s b : Nat} (ha : a < 112) (hs : s < 12) (hb : b < 112) (hf2 : f2 = 0 ∨ f2 = 1) (hff : f2 = 0 ↔ f = 0 ∧ c (1344 * a + 112 * s + b) ≠ 0) (hA : ∀ A S, clMs A S R pr → subM c e A S → A a s b) : okM R pr c e f (upd c (1344 * a + 112 * s + b) 1) e f2 := by
  refine ⟨fun _ => hf2, fun j h => upd1_ne.mpr (Or.inr h), fun j h => h, fun h => ⟨(hff.mp h).1, fun j hj => ?_, fun j hj => hj⟩, fun h => ?_, fun A S h1 h2 => ⟨fun a2 s2 b2 ha2 hs2 hb2 hg => ?_, h2.2⟩⟩
  · rcases upd1_ne.mp hj with e | e
    · rw [e]; exact (hff.mp h).2
    · exact e
  · by_cases h0 : f = 0
    · refine Or.inr (Or.inl ⟨1344 * a + 112 * s + b, by omega, upd1_ne.mpr (Or.inl rfl), ?_⟩)
      exact Classical.byContradiction (fun z => h (hff.mpr ⟨h0, z⟩))
    · exact Or.inl h0
  · rcases upd1_ne.mp hg with e | e
    · have e1 : a2 = a := by omega
      have e2 : s2 = s := by omega
      have e3 : b2 = b := by omega
      rw [e1, e2, e3]; exact hA A S h1 h2
    · exact h2.1 a2 s2 b2 ha2 hs2 hb2 e
theorem okM_setE {R : Nat} {pr : Nat → Nat → Nat} {c e : Nat → Int32} {f f2 : Int32} {q b : Nat} (hq : q < 8) (hb : b < 112) (hf2 : f2 = 0 ∨ f2 = 1) (hff : f2 = 0 ↔ f = 0 ∧ e (112 * q + b) ≠ 0) (hA : ∀ A S, clMs A S R pr → subM c e A S → S q b) : okM R pr c e f c (upd e (112 * q + b) 1) f2 := by
  refine ⟨fun _ => hf2, fun j h => h, fun j h => upd1_ne.mpr (Or.inr h), fun h => ⟨(hff.mp h).1, fun j hj => hj, fun j hj => ?_⟩, fun h => ?_, fun A S h1 h2 => ⟨h2.1, fun q2 b2 hq2 hb2 hg => ?_⟩⟩
  · rcases upd1_ne.mp hj with e | e
    · rw [e]; exact (hff.mp h).2
    · exact e
  · by_cases h0 : f = 0
    · refine Or.inr (Or.inr ⟨112 * q + b, by omega, upd1_ne.mpr (Or.inl rfl), ?_⟩)
      exact Classical.byContradiction (fun z => h (hff.mpr ⟨h0, z⟩))
    · exact Or.inl h0
  · rcases upd1_ne.mp hg with e | e
    · have e1 : q2 = q := by omega
      have e3 : b2 = b := by omega
      rw [e1, e3]; exact hA A S h1 h2
    · exact h2.2 q2 b2 hq2 hb2 e
theorem r_add {a s b : Nat} (ha : a < 112) (hs : s < 12) (hb : b < 112) (c : Nat → Int32) : fX11_add (nI a) (nI s) (nI b) c = some (if c (1344 * a + 112 * s + b) = 0 then 1 else 0, upd c (1344 * a + 112 * s + b) 1) := by
  have i1 : (1344 : Int32) * nI a = nI (1344 * a) := pk_mul 1344 a
  have i2 : (112 : Int32) * nI s = nI (112 * s) := pk_mul 112 s
  unfold fX11_add fX11_add_p29
  simp only [nm, i1, i2, nI_add, inb_nI (j := 1344 * a + 112 * s + b) (n := 150528) (by omega) (by decide), bd, nI_clamp (n := 1344 * a + 112 * s + b) (by omega), nb1]
  by_cases h : c (1344 * a + 112 * s + b) = 0
  · simp only [if_pos h]; rfl
  · simp only [if_neg h]; rfl
/-! one rule, all columns -/
def dnR (c c2 e2 : Nat → Int32) (p g q n w1 w2 to' : Nat) : Prop := GM c p g to' → (n = 0 → EM e2 q to') ∧ (n = 1 → GM c2 q w1 to') ∧ (n = 2 → GM c2 q w1 (16 + 12 * q + w1) ∧ GM c2 (16 + 12 * q + w1) w2 to')
theorem dnR_mono {c c' c2 e2 c3 e3 : Nat → Int32} {p g q n w1 w2 t : Nat} (h : dnR c' c2 e2 p g q n w1 w2 t) (h0 : ∀ j, c j ≠ 0 → c' j ≠ 0) (h1 : ∀ j, c2 j ≠ 0 → c3 j ≠ 0) (h2 : ∀ j, e2 j ≠ 0 → e3 j ≠ 0) : dnR c c3 e3 p g q n w1 w2 t := by
  intro hg
  obtain ⟨a, b, d⟩ := h (h0 _ hg)
  exact ⟨fun k => h2 _ (a k), fun k => h1 _ (b k), fun k => ⟨h1 _ (d k).1, h1 _ (d k).2⟩⟩
theorem r_l30 {R r : Nat} {m : Nat → Int32} {pr : Nat → Nat → Nat} (hP : okPr R pr) (hm : rmN R m pr) (hr : r < R) (k4 : Int32 → Int32 → (Nat → Int32) → (Nat → Int32) → Option (Int32 × (Nat → Int32) × (Nat → Int32))) :
    ∀ (k i n : Nat) (f : Int32) (c e : Nat → Int32), i + k = 112 → k < n → (f = 0 ∨ f = 1) →
      ∃ (f2 : Int32) (c2 e2 : Nat → Int32), fX11_spread_l30 (nI R) m k4 n f (nI r) (nI (6 * r)) (nI (pr 2 r)) (nI i) c e = k4 f2 (nI (r + 1)) c2 e2 ∧ (f2 = 0 ∨ f2 = 1) ∧ okM R pr c e f c2 e2 f2 ∧ ∀ t, i ≤ t → t < 112 → dnR c c2 e2 (pr 0 r) (pr 1 r) (pr 2 r) (pr 3 r) (pr 4 r) (pr 5 r) t := by
  obtain ⟨p0, p1, p2, p3, p4, p5⟩ := hP.2 r hr
  have hR := hP.1
  obtain ⟨m0, m1, m2, m3, m4, m5⟩ := hm r hr
  have a1 : nI (6 * r) + 1 = nI (6 * r + 1) := nI_add _ 1
  have a3 : nI (6 * r) + 3 = nI (6 * r + 3) := nI_add _ 3
  have a4 : nI (6 * r) + 4 = nI (6 * r + 4) := nI_add _ 4
  have a5 : nI (6 * r) + 5 = nI (6 * r + 5) := nI_add _ 5
  have b0 := inb_nI (j := 6 * r) (n := 288) (by omega) (by decide)
  have b1 := inb_nI (j := 6 * r + 1) (n := 288) (by omega) (by decide)
  have b3 := inb_nI (j := 6 * r + 3) (n := 288) (by omega) (by decide)
  have b4 := inb_nI (j := 6 * r + 4) (n := 288) (by omega) (by decide)
  have b5 := inb_nI (j := 6 * r + 5) (n := 288) (by omega) (by decide)
  have k0 := nI_clamp (n := 6 * r) (by omega)
  have k1 := nI_clamp (n := 6 * r + 1) (by omega)
  have k3 := nI_clamp (n := 6 * r + 3) (by omega)
  have k4' := nI_clamp (n := 6 * r + 4) (by omega)
  have k5 := nI_clamp (n := 6 * r + 5) (by omega)
  have i0 : (1344 : Int32) * nI (pr 0 r) = nI (1344 * pr 0 r) := pk_mul 1344 _
  have i1 : (112 : Int32) * nI (pr 1 r) = nI (112 * pr 1 r) := pk_mul 112 _
  have iq : (112 : Int32) * nI (pr 2 r) = nI (112 * pr 2 r) := pk_mul 112 _
  have i12 : (12 : Int32) * nI (pr 2 r) = nI (12 * pr 2 r) := pk_mul 12 _
  have i16 : ∀ z, (16 : Int32) + nI z = nI (16 + z) := fun z => nI_add 16 z
  have z0 : nI (pr 3 r) = 0 ↔ pr 3 r = 0 := nI_eq (a := pr 3 r) (b := 0) (by omega) (by decide)
  have z1 : nI (pr 3 r) = 1 ↔ pr 3 r = 1 := nI_eq (a := pr 3 r) (b := 1) (by omega) (by decide)
  intro k
  induction k with
  | zero =>
    intro i n f c e g1 g2 hf
    obtain ⟨n, rfl⟩ : ∃ z, n = z + 1 := ⟨n - 1, by omega⟩
    refine ⟨f, c, e, ?_, hf, okM_refl c e f, fun t h1 h2 => by omega⟩
    show fX11_spread_b30 (nI R) m k4 _ f (nI r) (nI (6 * r)) (nI (pr 2 r)) (nI i) c e = _
    unfold fX11_spread_b30
    have h112 : (112 : Int32) ≤ nI i := nI_le (a := 112) (b := i) (by omega) (by omega)
    rw [if_pos h112, nm_q, nI_1]
  | succ k ih =>
    intro i n f c e g1 g2 hf
    obtain ⟨n, rfl⟩ : ∃ z, n = z + 1 := ⟨n - 1, by omega⟩
    have h112 : ¬ (112 : Int32) ≤ nI i := nI_ge (a := i) (b := 112) (by omega) (by omega)
    -- one column
    obtain ⟨f1, c1, e1, hrun, hf1, hok, hdn⟩ : ∃ (f1 : Int32) (c1 e1 : Nat → Int32), fX11_spread_l30 (nI R) m k4 (n + 1) f (nI r) (nI (6 * r)) (nI (pr 2 r)) (nI i) c e = fX11_spread_l30 (nI R) m k4 n f1 (nI r) (nI (6 * r)) (nI (pr 2 r)) (nI (i + 1)) c1 e1 ∧ (f1 = 0 ∨ f1 = 1) ∧ okM R pr c e f c1 e1 f1 ∧ dnR c c1 e1 (pr 0 r) (pr 1 r) (pr 2 r) (pr 3 r) (pr 4 r) (pr 5 r) i := by
      show ∃ (f1 : Int32) (c1 e1 : Nat → Int32), fX11_spread_b30 (nI R) m k4 (fX11_spread_l30 (nI R) m k4 n) f (nI r) (nI (6 * r)) (nI (pr 2 r)) (nI i) c e = _ ∧ _
      have bg := inb_nI (j := 1344 * pr 0 r + 112 * pr 1 r + i) (n := 150528) (by omega) (by decide)
      have kg := nI_clamp (n := 1344 * pr 0 r + 112 * pr 1 r + i) (by omega)
      unfold fX11_spread_b30 fX11_spread_p101 fX11_spread_p163 fX11_spread_p241 fX11_spread_p106 fX11_spread_p168 fX11_spread_p246 fX11_spread_p247
      rw [if_neg h112, bd_eq _ b0, nm_q, k0, m0, nm_q, i0, nm_q, a1, bd_eq _ b1, nm_q, k1, m1, nm_q, i1, nm_q, nI_add, nm_q, nI_add, bd_eq _ bg, nm_q, kg]
      by_cases hg : c (1344 * pr 0 r + 112 * pr 1 r + i) = 0
      · rw [if_pos hg, nm_q, nI_1]
        exact ⟨f, c, e, rfl, hf, okM_refl c e f, fun h => absurd hg h⟩
      · rw [if_neg hg, nm_q, a3, bd_eq _ b3, nm_q, k3, m3]
        have hcl : ∀ A S, clMs A S R pr → subM c e A S → (pr 3 r = 0 → S (pr 2 r) i) ∧ (pr 3 r = 1 → A (pr 2 r) (pr 4 r) i) ∧ (pr 3 r = 2 → A (pr 2 r) (pr 4 r) (16 + 12 * pr 2 r + pr 4 r) ∧ A (16 + 12 * pr 2 r + pr 4 r) (pr 5 r) i) := fun A S h1 h2 => h1.1 r hr i (by omega) (h2.1 _ _ _ (by omega) p1 (by omega) hg)
        by_cases h0 : pr 3 r = 0
        · rw [if_pos (z0.mpr h0)]
          have be := inb_nI (j := 112 * pr 2 r + i) (n := 896) (by omega) (by decide)
          have ke := nI_clamp (n := 112 * pr 2 r + i) (by omega)
          have fin : ∀ f1 : Int32, (f1 = 0 ∨ f1 = 1) → (f1 = 0 ↔ f = 0 ∧ e (112 * pr 2 r + i) ≠ 0) → ∃ (f2 : Int32) (c1 e1 : Nat → Int32), fX11_spread_l30 (nI R) m k4 n f1 (nI r) (nI (6 * r)) (nI (pr 2 r)) (nI (i + 1)) c (upd e (112 * pr 2 r + i) 1) = fX11_spread_l30 (nI R) m k4 n f2 (nI r) (nI (6 * r)) (nI (pr 2 r)) (nI (i + 1)) c1 e1 ∧ (f2 = 0 ∨ f2 = 1) ∧ okM R pr c e f c1 e1 f2 ∧ dnR c c1 e1 (pr 0 r) (pr 1 r) (pr 2 r) (pr 3 r) (pr 4 r) (pr 5 r) i :=
            fun f1 h1 h2 => ⟨f1, _, _, rfl, h1, okM_setE p2 (by omega) h1 h2 (fun A S q1 q2 => (hcl A S q1 q2).1 h0), fun _ => ⟨fun _ => upd1_ne.mpr (Or.inl rfl), fun z => by omega, fun z => by omega⟩⟩
          by_cases q1 : f = 0
          · rw [if_pos q1, nm_q, iq, nm_q, nI_add, bd_eq _ be, nm_q, ke]
            by_cases q2 : e (112 * pr 2 r + i) = 0
            · rw [if_pos q2, nm_q, nm_q, nI_add, bd_eq _ be, nm_q, ke, nm_q, nI_1, nb1]
              exact fin 1 (Or.inr rfl) ⟨fun z => absurd z n10, fun z => absurd q2 z.2⟩
            · rw [if_neg q2, nm_q, nm_q, nI_add, bd_eq _ be, nm_q, ke, nm_q, nI_1, nb1]
              exact fin 0 (Or.inl rfl) ⟨fun _ => ⟨q1, q2⟩, fun _ => rfl⟩
          · rw [if_neg q1, nm_q, iq, nm_q, nI_add, bd_eq _ be, nm_q, ke, nm_q, nI_1, nb1]
            exact fin 1 (Or.inr rfl) ⟨fun z => absurd z n10, fun z => absurd z.1 q1⟩
        · rw [if_neg (fun z => h0 (z0.mp z)), nm_q, bd_eq _ b3, nm_q, k3, m3]
          by_cases h1 : pr 3 r = 1
          · rw [if_pos (z1.mpr h1), nm_q, a4, bd_eq _ b4, nm_q, k4', m4 h0, r_add (by omega) p4 (by omega), ob_s]
            have fin : ∀ f1 : Int32, (f1 = 0 ∨ f1 = 1) → (f1 = 0 ↔ f = 0 ∧ c (1344 * pr 2 r + 112 * pr 4 r + i) ≠ 0) → ∃ (f2 : Int32) (c1 e1 : Nat → Int32), fX11_spread_l30 (nI R) m k4 n f1 (nI r) (nI (6 * r)) (nI (pr 2 r)) (nI (i + 1)) (upd c (1344 * pr 2 r + 112 * pr 4 r + i) 1) e = fX11_spread_l30 (nI R) m k4 n f2 (nI r) (nI (6 * r)) (nI (pr 2 r)) (nI (i + 1)) c1 e1 ∧ (f2 = 0 ∨ f2 = 1) ∧ okM R pr c e f c1 e1 f2 ∧ dnR c c1 e1 (pr 0 r) (pr 1 r) (pr 2 r) (pr 3 r) (pr 4 r) (pr 5 r) i :=
              fun f1 y1 y2 => ⟨f1, _, _, rfl, y1, okM_setC (by omega) p4 (by omega) y1 y2 (fun A S q1 q2 => (hcl A S q1 q2).2.1 h1), fun _ => ⟨fun z => by omega, fun _ => upd1_ne.mpr (Or.inl rfl), fun z => by omega⟩⟩
            simp only [nm_q, nI_1]
            by_cases q1 : f = 0
            · rw [if_pos q1]
              by_cases q2 : c (1344 * pr 2 r + 112 * pr 4 r + i) = 0
              · rw [if_pos q2, if_neg n10]
                exact fin 1 (Or.inr rfl) ⟨fun z => absurd z n10, fun z => absurd q2 z.2⟩
              · rw [if_neg q2, if_pos rfl]
                exact fin 0 (Or.inl rfl) ⟨fun _ => ⟨q1, q2⟩, fun _ => rfl⟩
            · rw [if_neg q1]
              exact fin 1 (Or.inr rfl) ⟨fun z => absurd z n10, fun z => absurd z.1 q1⟩
          · have h2 : pr 3 r = 2 := by omega
            rw [if_neg (fun z => h1 (z1.mp z)), nm_q, i12, nm_q, i16, nm_q, a4, bd_eq _ b4, nm_q, k4', m4 h0, nm_q, nI_add, nm_q, bd_eq _ b4, nm_q, k4', m4 h0, r_add (by omega) p4 (by omega), ob_s, nm_q, a5, bd_eq _ b5, nm_q, k5, m5 h2, r_add (by omega) p5 (by omega), ob_s]
            simp only [nm_q, nI_1]
            generalize hM : 16 + 12 * pr 2 r + pr 4 r = M at *
            have hM2 : M < 112 := by omega
            have s1 : ∀ fa : Int32, (fa = 0 ∨ fa = 1) → (fa = 0 ↔ f = 0 ∧ c (1344 * pr 2 r + 112 * pr 4 r + M) ≠ 0) → okM R pr c e f (upd c (1344 * pr 2 r + 112 * pr 4 r + M) 1) e fa := fun fa y1 y2 => okM_setC (by omega) p4 hM2 y1 y2 (fun A S q1 q2 => ((hcl A S q1 q2).2.2 h2).1)
            have s2 : ∀ fa fb : Int32, (fa = 0 ∨ fa = 1) → (fb = 0 ∨ fb = 1) → (fa = 0 ↔ f = 0 ∧ c (1344 * pr 2 r + 112 * pr 4 r + M) ≠ 0) → (fb = 0 ↔ fa = 0 ∧ upd c (1344 * pr 2 r + 112 * pr 4 r + M) 1 (1344 * M + 112 * pr 5 r + i) ≠ 0) → ∃ (f2 : Int32) (c1 e1 : Nat → Int32), fX11_spread_l30 (nI R) m k4 n fb (nI r) (nI (6 * r)) (nI (pr 2 r)) (nI (i + 1)) (upd (upd c (1344 * pr 2 r + 112 * pr 4 r + M) 1) (1344 * M + 112 * pr 5 r + i) 1) e = fX11_spread_l30 (nI R) m k4 n f2 (nI r) (nI (6 * r)) (nI (pr 2 r)) (nI (i + 1)) c1 e1 ∧ (f2 = 0 ∨ f2 = 1) ∧ okM R pr c e f c1 e1 f2 ∧ dnR c c1 e1 (pr 0 r) (pr 1 r) (pr 2 r) (pr 3 r) (pr 4 r) (pr 5 r) i := by
              intro fa fb y1 y2 y3 y4
              have t1 := s1 fa y1 y3
              refine ⟨fb, _, _, rfl, y2, okM_trans t1 (okM_setC hM2 p5 (by omega) y2 y4 (fun A S q1 q2 => ?_)), fun _ => ⟨fun z => by omega, fun z => by omega, fun _ => ?_⟩⟩
              · refine (q1.1 r hr i (by omega) (q2.1 _ _ _ (by omega) p1 (by omega) (upd1_ne.mpr (Or.inr hg)))).2.2 h2 |>.2 |> fun z => ?_
                rw [hM] at z
                exact z
              · rw [hM]
                exact ⟨upd1_ne.mpr (Or.inr (upd1_ne.mpr (Or.inl rfl))), upd1_ne.mpr (Or.inl rfl)⟩
            by_cases q1 : f = 0
            · rw [if_pos q1]
              by_cases q2 : c (1344 * pr 2 r + 112 * pr 4 r + M) = 0
              · rw [if_pos q2, if_neg n10]
                exact s2 1 1 (Or.inr rfl) (Or.inr rfl) ⟨fun z => absurd z n10, fun z => absurd q2 z.2⟩ ⟨fun z => absurd z n10, fun z => absurd z.1 n10⟩
              · rw [if_neg q2, if_pos rfl]
                by_cases q3 : upd c (1344 * pr 2 r + 112 * pr 4 r + M) 1 (1344 * M + 112 * pr 5 r + i) = 0
                · rw [if_pos q3, if_neg n10]
                  exact s2 0 1 (Or.inl rfl) (Or.inr rfl) ⟨fun _ => ⟨q1, q2⟩, fun _ => rfl⟩ ⟨fun z => absurd z n10, fun z => absurd q3 z.2⟩
                · rw [if_neg q3, if_pos rfl]
                  exact s2 0 0 (Or.inl rfl) (Or.inl rfl) ⟨fun _ => ⟨q1, q2⟩, fun _ => rfl⟩ ⟨fun _ => ⟨rfl, q3⟩, fun _ => rfl⟩
            · rw [if_neg q1]
              exact s2 1 1 (Or.inr rfl) (Or.inr rfl) ⟨fun z => absurd z n10, fun z => absurd z.1 q1⟩ ⟨fun z => absurd z n10, fun z => absurd z.1 n10⟩
    obtain ⟨f2, c2, e2, hrun2, hf2, hok2, hdn2⟩ := ih (i + 1) n f1 c1 e1 (by omega) (by omega) hf1
    refine ⟨f2, c2, e2, hrun.trans hrun2, hf2, okM_trans hok hok2, fun t z1 z2 => ?_⟩
    by_cases et : t = i
    · subst et
      exact dnR_mono hdn (fun _ h => h) hok2.2.1 hok2.2.2.1
    · exact dnR_mono (hdn2 t (by omega) z2) hok.2.1 (fun _ h => h) (fun _ h => h)
