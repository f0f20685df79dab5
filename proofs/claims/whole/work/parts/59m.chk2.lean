/-! ===== pure rows 42: what is reached (class) ===== -/
/-- what is reached at a statement has been passed on -/
def clS (G : Nat → Nat → Nat → Nat) (c e c2 e2 : Nat → Int32) (s : Nat) : Prop :=
  (¬ G 0 s 0 = 3 → ∀ v st, v < 2 → bi (c s) st = true → cn G s v st = true → ptD (G 4 s v) (sa G s v st) (G 6 s 0) c2 e2) ∧
  (G 0 s 0 = 3 → ∀ st, bi (c s) st = true → (G 5 (G 2 s 0) 0 = 40 → ptD (G 4 s 1) st (G 6 s 0) c2 e2) ∧ (G 5 (G 2 s 0) 0 < 40 → bi (c2 (G 5 (G 2 s 0) 0)) (st % 8) = true ∧ ∀ m, m < 8 → bi (e (G 2 s 0)) m = true → ptD (G 4 s 1) (m + 8 * (st / 8)) (G 6 s 0) c2 e2))
theorem ptD_mono {p st q : Nat} {c e c2 e2 : Nat → Int32} (h : ptD p st q c e) (hc : ∀ j i, bi (c j) i = true → bi (c2 j) i = true) (he : ∀ j i, bi (e j) i = true → bi (e2 j) i = true) : ptD p st q c2 e2 := ⟨fun z => hc _ _ (h.1 z), fun z => he _ _ (h.2 z)⟩
theorem clS_mono {G : Nat → Nat → Nat → Nat} {c e c' e' c2 e2 c3 e3 : Nat → Int32} {s : Nat} (h : clS G c' e' c2 e2 s) (hc : ∀ j i, bi (c j) i = true → bi (c' j) i = true) (he : ∀ j i, bi (e j) i = true → bi (e' j) i = true) (hc2 : ∀ j i, bi (c2 j) i = true → bi (c3 j) i = true) (he2 : ∀ j i, bi (e2 j) i = true → bi (e3 j) i = true) : clS G c e c3 e3 s := by
  refine ⟨fun h3 v st hv hst hn => ptD_mono (h.1 h3 v st hv (hc _ _ hst) hn) hc2 he2, fun h3 st hst => ?_⟩
  obtain ⟨a, b⟩ := h.2 h3 st (hc _ _ hst)
  refine ⟨fun z => ptD_mono (a z) hc2 he2, fun z => ?_⟩
  obtain ⟨b1, b2⟩ := b z
  exact ⟨hc2 _ _ b1, fun m hm hem => ptD_mono (b2 m hm (he _ _ hem)) hc2 he2⟩
theorem c_reachFrom {G : Nat → Nat → Nat → Nat} {C : Nat → Nat → Int32} {value : Nat → Int64} (h : okPg G) (hc : cPg G C value) {s : Nat} (hs : s < G 7 0 0) (h3 : ¬ G 0 s 0 = 3) (c e : Nat → Int32) :
    ∃ (b : Int32) (c2 e2 : Nat → Int32), fX0_reachFrom (nI s) c value (C 1) (C 6) (C 3) (C 4) (C 5) e = some (b, c2, e2) ∧ okR c e 0 c2 e2 b ∧ clS G c e c2 e2 s := by
  obtain ⟨fu, hfu, hg⟩ := fu_any
  have hS := h.1
  obtain ⟨k0, k1, k2, k3, k4, k5⟩ := h.2.2.2.2 s hs
  obtain ⟨c0, c1, c2', c3, c4, c5, c6⟩ := hc.2 s hs
  have hP := h.2.2.1
  have bs := inb_nI (j := s) (n := 40) (by omega) (by decide)
  have ks := nI_clamp (n := s) (by omega)
  -- one value
  have one : ∀ (v : Nat) (y2 : Int32) (c e : Nat → Int32) (k4 : Int32 → Int32 → Int32 → (Nat → Int32) → (Nat → Int32) → Option (Int32 × (Nat → Int32) × (Nat → Int32))), v < 2 → (y2 = 0 ∨ y2 = 1) →
      ∃ (b : Int32) (c2 e2 : Nat → Int32), fX0_reachFrom_b4 value (C 1) (C 6) (C 3) (C 4) (C 5) k4 (nI s) y2 (nI v) c e = k4 (nI s) b (nI (v + 1)) c2 e2 ∧ okR c e y2 c2 e2 b ∧ ∀ st, bi (c s) st = true → cn G s v st = true → ptD (G 4 s v) (sa G s v st) (G 6 s 0) c2 e2 := by
    intro v y2 c e k4 hv hy
    obtain ⟨z, hz1, hz2⟩ := c_settingsFor h hc hs hv
    have n1 : ¬ (1 : Int32) < nI v := nI_nlt (a := 1) (b := v) (by omega) (by decide)
    have fin : ∀ acc : Int32, (∀ st, bi (c s &&& z) st = true → bi acc (sa G s v st) = true) → ∃ (b : Int32) (c2 e2 : Nat → Int32), fX0_reachFrom_p79 value (C 1) (C 6) (C 3) (C 4) (C 5) k4 (nI s) y2 (nI v) acc c e = k4 (nI s) b (nI (v + 1)) c2 e2 ∧ okR c e y2 c2 e2 b ∧ ∀ st, bi (c s) st = true → cn G s v st = true → ptD (G 4 s v) (sa G s v st) (G 6 s 0) c2 e2 := by
      intro acc hacc
      obtain ⟨b, d1, d2, r1, r2, r3⟩ := c_reachPoint (p := G 4 s v) (q := G 6 s 0) (k5 v hv).1 (by omega) acc c e
      refine ⟨y2 ||| b, d1, d2, ?_, okR_or hy r2, fun st q1 q2 => r3 _ (hacc st ?_)⟩
      · unfold fX0_reachFrom_p79
        rw [c_pointAfter h hc hs hv, ob_s, bd_eq _ bs, nm_q, ks, c3, r1, ob_s, nm_q, nm_q, nI_1]
      · rw [bi_and, q1, hz2 st (bi_lt q1), q2]; rfl
    have loop : ∀ (k i n : Nat) (acc : Int32), i + k = 32 → k < n → (∀ st, st < i → bi (c s &&& z) st = true → bi acc (sa G s v st) = true) → ∃ (b : Int32) (c2 e2 : Nat → Int32), fX0_reachFrom_l33 value (C 1) (C 6) (C 3) (C 4) (C 5) k4 n (nI s) y2 (nI v) (c s &&& z) acc (nI i) c e = k4 (nI s) b (nI (v + 1)) c2 e2 ∧ okR c e y2 c2 e2 b ∧ ∀ st, bi (c s) st = true → cn G s v st = true → ptD (G 4 s v) (sa G s v st) (G 6 s 0) c2 e2 := by
      intro k
      induction k with
      | zero =>
        intro i n acc g1 g2 ha
        obtain ⟨n, rfl⟩ : ∃ z, n = z + 1 := ⟨n - 1, by omega⟩
        show ∃ (b : Int32) (c2 e2 : Nat → Int32), fX0_reachFrom_b33 value (C 1) (C 6) (C 3) (C 4) (C 5) k4 _ (nI s) y2 (nI v) (c s &&& z) acc (nI i) c e = _ ∧ _
        unfold fX0_reachFrom_b33
        have h32 : (32 : Int32) ≤ nI i := nI_le (a := 32) (b := i) (by omega) (by omega)
        have f := fin acc (fun st hst => ha st (by have := bi_lt hst; omega) hst)
        by_cases hz : (c s &&& z) = 0
        · rw [if_pos hz]; exact f
        · rw [if_neg hz, if_pos h32]; exact f
      | succ k ih =>
        intro i n acc g1 g2 ha
        obtain ⟨n, rfl⟩ : ∃ z, n = z + 1 := ⟨n - 1, by omega⟩
        show ∃ (b : Int32) (c2 e2 : Nat → Int32), fX0_reachFrom_b33 value (C 1) (C 6) (C 3) (C 4) (C 5) k4 (fX0_reachFrom_l33 value (C 1) (C 6) (C 3) (C 4) (C 5) k4 n) (nI s) y2 (nI v) (c s &&& z) acc (nI i) c e = _ ∧ _
        unfold fX0_reachFrom_b33 fX0_reachFrom_p73
        have h32 : ¬ (32 : Int32) ≤ nI i := nI_ge (a := i) (b := 32) (by omega) (by omega)
        by_cases hz : (c s &&& z) = 0
        · rw [if_pos hz]
          exact fin acc (fun st hst => by rw [hz, bi_0] at hst; cases hst)
        · rw [if_neg hz, if_neg h32, nm_q, nm_q]
          have hb := bi_sh (c s &&& z) (k := i) (by omega)
          by_cases h0 : (((c s &&& z).toUInt32 >>> ((nI i).toUInt32 &&& Int32.toUInt32 31)).toInt32 &&& 1) = 0
          · rw [if_pos h0, nm_q, nI_1]
            refine ih (i + 1) n acc (by omega) (by omega) (fun st hst hb2 => ?_)
            by_cases ei : st = i
            · rw [ei, hb.mp h0] at hb2; cases hb2
            · exact ha st (by omega) hb2
          · rw [if_neg h0, c_settingAfter h hc hs hv (by omega), ob_s, nm_q, nm_q, nm_q, nI_1]
            refine ih (i + 1) n _ (by omega) (by omega) (fun st hst hb2 => ?_)
            rw [bi_or, bi_1 (sa_lt k1 (by omega)), Bool.or_eq_true, decide_eq_true_eq]
            by_cases ei : st = i
            · right; rw [ei]
            · left; exact ha st (by omega) hb2
    unfold fX0_reachFrom_b4
    rw [if_neg n1, bd_eq _ bs, nm_q, ks, hz1, ob_s, nm_q, hfu]
    exact loop 32 0 fu 0 (by omega) (by omega) (fun st hst => absurd hst (by omega))
  obtain ⟨fu2, hfu2⟩ : ∃ z, fu = z + 3 := ⟨fu - 3, by omega⟩
  subst hfu2
  obtain ⟨b1, d1, e1, r1, r2, r3⟩ := one 0 0 c e (fX0_reachFrom_l4 value (C 1) (C 6) (C 3) (C 4) (C 5) (fu2 + 2)) (by decide) (Or.inl rfl)
  obtain ⟨b2, d2, e2, s1, s2, s3⟩ := one 1 b1 d1 e1 (fX0_reachFrom_l4 value (C 1) (C 6) (C 3) (C 4) (C 5) (fu2 + 1)) (by decide) (r2.1 (Or.inl rfl))
  have hb2 := s2.1 (r2.1 (Or.inl rfl))
  refine ⟨b2, d2, e2, ?_, okR_trans r2 s2, fun _ v st hv q1 q2 => ?_, fun z => absurd z h3⟩
  · unfold fX0_reachFrom
    rw [hfu]
    show fX0_reachFrom_b4 value (C 1) (C 6) (C 3) (C 4) (C 5) (fX0_reachFrom_l4 value (C 1) (C 6) (C 3) (C 4) (C 5) (fu2 + 2)) (nI s) 0 (nI 0) c e = _
    rw [r1]
    show fX0_reachFrom_b4 value (C 1) (C 6) (C 3) (C 4) (C 5) (fX0_reachFrom_l4 value (C 1) (C 6) (C 3) (C 4) (C 5) (fu2 + 1)) (nI s) b1 (nI 1) d1 e1 = _
    rw [s1]
    show fX0_reachFrom_b4 value (C 1) (C 6) (C 3) (C 4) (C 5) (fX0_reachFrom_l4 value (C 1) (C 6) (C 3) (C 4) (C 5) fu2) (nI s) b2 (nI 2) d2 e2 = _
    unfold fX0_reachFrom_b4
    rw [if_pos (by decide)]
    rcases hb2 with z | z <;> rw [z] <;> rfl
  · have hv2 : v = 0 ∨ v = 1 := by omega
    rcases hv2 with rfl | rfl
    · exact ptD_mono (r3 st q1 q2) s2.2.1 s2.2.2.1
    · exact s3 st (r2.2.1 _ _ q1) q2
theorem c_reachByCall {G : Nat → Nat → Nat → Nat} {C : Nat → Nat → Int32} {value : Nat → Int64} (h : okPg G) (hc : cPg G C value) {s : Nat} (hs : s < G 7 0 0) (h3 : G 0 s 0 = 3) (c e : Nat → Int32) :
    ∃ (b : Int32) (c2 e2 : Nat → Int32), fX0_reachByCall (nI s) (C 2) (C 3) (C 4) (C 0) c (C 5) e = some (b, c2, e2) ∧ okR c e 0 c2 e2 b ∧ clS G c e c2 e2 s := by
  obtain ⟨fu, hfu, hg⟩ := fu_any
  have hS := h.1
  obtain ⟨k0, k1, k2, k3, k4, k5⟩ := h.2.2.2.2 s hs
  obtain ⟨c0, c1, c2', c3, c4, c5, c6⟩ := hc.2 s hs
  have hP := h.2.2.1
  have hcl := k2 h3
  have bs := inb_nI (j := s) (n := 40) (by omega) (by decide)
  have ks := nI_clamp (n := s) (by omega)
  have bc := inb_nI (j := G 2 s 0) (n := 6) (by omega) (by decide)
  have kc := nI_clamp (n := G 2 s 0) (by omega)
  have hpt := c_pointAfter h hc hs (v := 1) (by decide)
  have e1' : nI 1 = 1 := rfl
  rw [e1'] at hpt
  unfold fX0_reachByCall
  rw [bd_eq _ bs, nm_q, ks, c2' h3, hpt, ob_s, bd_eq _ bc, nm_q, kc, hc.1 _ hcl]
  rcases h.2.2.2.1 _ hcl with he | ⟨he, -⟩
  · rw [he, pI_40, if_neg (by decide), bd_eq _ bs, nm_q, bd_eq _ bs, nm_q, c3]
    obtain ⟨b, d1, d2, r1, r2, r3⟩ := c_reachPoint (p := G 4 s 1) (q := G 6 s 0) (k5 1 (by decide)).1 (by omega) (c s) c e
    rw [r1, ob_s]
    have hb := r2.1 (Or.inl rfl)
    refine ⟨b, d1, d2, ?_, r2, fun z => absurd h3 z, fun _ st hst => ⟨fun _ => r3 st hst, fun z => by omega⟩⟩
    rcases hb with z | z <;> rw [z] <;> rfl
  · have he40 : G 5 (G 2 s 0) 0 < 40 := by omega
    rw [pI_lt he40, if_pos (nI_pos' (by omega)), bd_eq _ bs, nm_q]
    obtain ⟨g, hg1, hg2⟩ := globals_l (c s)
    rw [hg1, ob_s]
    obtain ⟨b, d1, d2, r1, r2, r3⟩ := c_reachPoint (p := G 5 (G 2 s 0) 0) (q := G 2 s 0) (by omega) (by omega) g c e
    rw [pI_lt he40] at r1
    rw [r1, ob_s, hfu]
    have hb := r2.1 (Or.inl rfl)
    have loop : ∀ (k i n : Nat) (acc : Int32), i + k = 4 → k < n → (∀ st m, st / 8 < i → bi (d1 s) st = true → m < 8 → bi (d2 (G 2 s 0)) m = true → bi acc (m + 8 * (st / 8)) = true) →
        ∃ (b2 : Int32) (c2 e2 : Nat → Int32), fX0_reachByCall_l81 (C 2) (C 3) (C 4) (C 0) (C 5) n (nI s) (nI (G 2 s 0)) (pI (G 4 s 1)) b acc (nI (8 * i)) d1 d2 = some (b2, c2, e2) ∧ okR d1 d2 b c2 e2 b2 ∧ ∀ st m, bi (d1 s) st = true → m < 8 → bi (d2 (G 2 s 0)) m = true → ptD (G 4 s 1) (m + 8 * (st / 8)) (G 6 s 0) c2 e2 := by
      intro k
      induction k with
      | zero =>
        intro i n acc g1 g2 ha
        obtain ⟨n, rfl⟩ : ∃ z, n = z + 1 := ⟨n - 1, by omega⟩
        show ∃ (b2 : Int32) (c2 e2 : Nat → Int32), fX0_reachByCall_b81 (C 2) (C 3) (C 4) (C 0) (C 5) _ (nI s) (nI (G 2 s 0)) (pI (G 4 s 1)) b acc (nI (8 * i)) d1 d2 = _ ∧ _
        unfold fX0_reachByCall_b81 fX0_reachByCall_p148 fX0_reachByCall_p153
        have h32 : (32 : Int32) ≤ nI (8 * i) := nI_le (a := 32) (b := 8 * i) (by omega) (by omega)
        obtain ⟨b3, f1, f2, t1, t2, t3⟩ := c_reachPoint (p := G 4 s 1) (q := G 6 s 0) (k5 1 (by decide)).1 (by omega) acc d1 d2
        rw [if_pos h32, bd_eq _ bs, nm_q, ks, c3, t1, ob_s]
        have hb3 := t2.1 (Or.inl rfl)
        have tt := okR_or hb t2
        have pp : ∀ st m, bi (d1 s) st = true → m < 8 → bi (d2 (G 2 s 0)) m = true → ptD (G 4 s 1) (m + 8 * (st / 8)) (G 6 s 0) f1 f2 := fun st m q1 q2 q3 => t3 _ (ha st m (by have := bi_lt q1; omega) q1 q2 q3)
        obtain ⟨o1, o2⟩ := or_bz hb hb3
        by_cases z3 : b3 = 0
        · by_cases z4 : b = 0
          · rw [if_pos z3, if_pos z4]
            refine ⟨0, f1, f2, rfl, ?_, pp⟩
            have e0 : (b ||| b3) = 0 := o2.mpr ⟨z4, z3⟩
            rw [e0] at tt
            exact tt
          · rw [if_pos z3, if_neg z4]
            refine ⟨1, f1, f2, rfl, ?_, pp⟩
            have e0 : (b ||| b3) = 1 := o1.resolve_left (fun z => z4 (o2.mp z).1)
            rw [e0] at tt
            exact tt
        · rw [if_neg z3]
          refine ⟨1, f1, f2, rfl, ?_, pp⟩
          have e0 : (b ||| b3) = 1 := o1.resolve_left (fun z => z3 (o2.mp z).2)
          rw [e0] at tt
          exact tt
      | succ k ih =>
        intro i n acc g1 g2 ha
        obtain ⟨n, rfl⟩ : ∃ z, n = z + 1 := ⟨n - 1, by omega⟩
        show ∃ (b2 : Int32) (c2 e2 : Nat → Int32), fX0_reachByCall_b81 (C 2) (C 3) (C 4) (C 0) (C 5) (fX0_reachByCall_l81 (C 2) (C 3) (C 4) (C 0) (C 5) n) (nI s) (nI (G 2 s 0)) (pI (G 4 s 1)) b acc (nI (8 * i)) d1 d2 = _ ∧ _
        unfold fX0_reachByCall_b81 fX0_reachByCall_p118
        have h32 : ¬ (32 : Int32) ≤ nI (8 * i) := nI_ge (a := 8 * i) (b := 32) (by omega) (by omega)
        have a8 : nI (8 * i) + 8 = nI (8 * (i + 1)) := by
          have : nI (8 * i) + nI 8 = nI (8 * i + 8) := nI_add _ _
          rw [show 8 * (i + 1) = 8 * i + 8 by omega]
          exact this
        rw [if_neg h32, bd_eq _ bs, nm_q, ks, nm_q, nm_q]
        have hbits : ∀ j, bi (((d1 s).toUInt32 >>> ((nI (8 * i)).toUInt32 &&& Int32.toUInt32 31)).toInt32 &&& 255) j = (bi (d1 s) (8 * i + j) && decide (j < 8)) := fun j => by rw [bi_and, bi_shr _ (by omega), bi_255]
        by_cases h0 : (((d1 s).toUInt32 >>> ((nI (8 * i)).toUInt32 &&& Int32.toUInt32 31)).toInt32 &&& 255) = 0
        · rw [if_pos h0, nm_q, a8]
          refine ih (i + 1) n acc (by omega) (by omega) (fun st m q1 q2 q3 q4 => ?_)
          by_cases ei : st / 8 = i
          · exfalso
            have t := hbits (st % 8)
            rw [h0, bi_0, show 8 * i + st % 8 = st by omega, q2] at t
            simp [show st % 8 < 8 by omega] at t
          · exact ha st m (by omega) q2 q3 q4
        · rw [if_neg h0, bd_eq _ bc, nm_q, kc, nm_q, nm_q, nm_q, a8]
          refine ih (i + 1) n _ (by omega) (by omega) (fun st m q1 q2 q3 q4 => ?_)
          have h32' := bi_lt q2
          rw [bi_or, Bool.or_eq_true]
          by_cases ei : st / 8 = i
          · right
            rw [bi_shl _ (by omega) (by omega), ei, show m + 8 * i - 8 * i = m by omega, q4]
            simp
          · left; exact ha st m (by omega) q2 q3 q4
    obtain ⟨b2, c2, e2, t1, t2, t3⟩ := loop 4 0 fu 0 (by omega) (by omega) (fun st m q => absurd q (by omega))
    refine ⟨b2, c2, e2, t1, okR_trans r2 t2, fun z => absurd h3 z, fun _ st hst => ⟨fun z => by omega, fun _ => ⟨t2.2.1 _ _ ((r3 _ (globals_at hg2 hst)).1 he40), fun m hm hem => t3 st m (r2.2.1 _ _ hst) hm (r2.2.2.1 _ _ hem)⟩⟩⟩
