/-! ===== pure rows 39: after (reference), whole ===== -/
theorem m1_eq (j : Nat) : nI j + (-1) = nI j - 1 := by
  apply Int32.toBitVec_inj.mp
  simp [Int32.sub_eq_add_neg]
theorem r_l207 {R L E : Nat} {c3 m c7 c8 : Nat → Int32} {w : Nat → Nat} (hL : L ≤ 30) (hw : ∀ j, j < L → c7 j = nI (w j) ∧ w j < 12) (hE : relEnds E c8) {c1 c2 : Nat → Int32} {N0 : Nat → Prop} {fu : Nat} (hg : 1999999 < fu) (hfu : FU = fu) :
    ∀ (j k n : Nat) (c5 c6 : Nat → Int32), j + k = L → j < n → (∀ t, t < 112 → isB (c5 t) ∧ (c5 t ≠ 0 ↔ runM (GM c1) w N0 L k t)) → Wq (fX11_after_l207 (nI R) (nI L) c3 m c7 c8 n (nI j - 1) 0 c1 c2 c5 c6) (aftP E (runM (GM c1) w N0 L L)) := by
  intro j
  induction j with
  | zero =>
    intro k n c5 c6 g1 g2 hN
    obtain ⟨n, rfl⟩ : ∃ z, n = z + 1 := ⟨n - 1, by omega⟩
    show Wq (fX11_after_b207 (nI R) (nI L) c3 m c7 c8 _ (nI 0 - 1) 0 c1 c2 c5 c6) _
    unfold fX11_after_b207
    have ek : k = L := by omega
    subst ek
    rw [if_pos (by decide), hfu]
    exact r_l367 hE (fun t ht => (hN t ht).2) 16 0 fu 0 (by omega) (by omega) (Or.inl rfl) ⟨fun z => absurd z.symm n10, fun ⟨b, y, _⟩ => absurd y (by omega)⟩
  | succ j ih =>
    intro k n c5 c6 g1 g2 hN
    obtain ⟨n, rfl⟩ : ∃ z, n = z + 1 := ⟨n - 1, by omega⟩
    obtain ⟨w1, w2⟩ := hw j (by omega)
    show Wq (fX11_after_b207 (nI R) (nI L) c3 m c7 c8 (fX11_after_l207 (nI R) (nI L) c3 m c7 c8 n) (nI (j + 1) - 1) 0 c1 c2 c5 c6) _
    unfold fX11_after_b207
    rw [nI_pred, if_neg (nI_pos (by omega)), hfu]
    refine r_signs (s := w j) (by omega) w2 w1 (fun d5 d6 hd => ?_) hg hfu hN
    rw [m1_eq]
    refine ih (k + 1) n d5 d6 (by omega) (by omega) (fun t ht => ⟨(hd t ht).1, (hd t ht).2.trans ?_⟩)
    show _ ↔ stepM (GM c1) (runM (GM c1) w N0 L k) (w (L - (k + 1))) t
    rw [show L - (k + 1) = j by omega]
theorem r_l158 {R L E a : Nat} (ha : a < 8) {c3 m c7 c8 : Nat → Int32} {w : Nat → Nat} (hL : L ≤ 30) (hw : ∀ j, j < L → c7 j = nI (w j) ∧ w j < 12) (hE : relEnds E c8) {c1 c2 c6 : Nat → Int32} {fu : Nat} (hg : 1999999 < fu) (hfu : FU = fu) :
    ∀ (k i n : Nat) (c5 : Nat → Int32), i + k = 112 → k < n → (∀ t, t < i → isB (c5 t) ∧ (c5 t ≠ 0 ↔ (t = a ∨ EM c2 a t))) → Wq (fX11_after_l158 (nI R) (nI L) c3 m c7 c8 n (nI a) (nI i) 0 c1 c2 c5 c6) (aftP E (runM (GM c1) w (fun t => t = a ∨ EM c2 a t) L L)) := by
  intro k
  induction k with
  | zero =>
    intro i n c5 g1 g2 hN
    obtain ⟨n, rfl⟩ : ∃ z, n = z + 1 := ⟨n - 1, by omega⟩
    show Wq (fX11_after_b158 (nI R) (nI L) c3 m c7 c8 _ (nI a) (nI i) 0 c1 c2 c5 c6) _
    unfold fX11_after_b158
    have h112 : (112 : Int32) ≤ nI i := nI_le (a := 112) (b := i) (by omega) (by omega)
    rw [if_pos h112, nm_q, hfu]
    exact r_l207 hL hw hE hg hfu L 0 fu c5 c6 (by omega) (by omega) (fun t ht => hN t (by omega))
  | succ k ih =>
    intro i n c5 g1 g2 hN
    obtain ⟨n, rfl⟩ : ∃ z, n = z + 1 := ⟨n - 1, by omega⟩
    show Wq (fX11_after_b158 (nI R) (nI L) c3 m c7 c8 _ (nI a) (nI i) 0 c1 c2 c5 c6) _
    unfold fX11_after_b158 fX11_after_p188 fX11_after_p193
    have h112 : ¬ (112 : Int32) ≤ nI i := nI_ge (a := i) (b := 112) (by omega) (by omega)
    have ia : (112 : Int32) * nI a = nI (112 * a) := pk_mul 112 a
    have bi := inb_nI (j := i) (n := 112) (by omega) (by decide)
    have ki := nI_clamp (n := i) (by omega)
    have be := inb_nI (j := 112 * a + i) (n := 896) (by omega) (by decide)
    have ke := nI_clamp (n := 112 * a + i) (by omega)
    have go : ∀ v : Int32, isB v → (v ≠ 0 ↔ (i = a ∨ EM c2 a i)) → Wq (fX11_after_l158 (nI R) (nI L) c3 m c7 c8 n (nI a) (nI (i + 1)) 0 c1 c2 (upd c5 i v) c6) (aftP E (runM (GM c1) w (fun t => t = a ∨ EM c2 a t) L L)) := by
      intro v h1 h2
      refine ih (i + 1) n _ (by omega) (by omega) (fun t ht => ?_)
      by_cases e : t = i
      · subst e; rw [upd_at]; exact ⟨h1, h2⟩
      · rw [upd_ne e]; exact hN t (by omega)
    rw [if_neg h112]
    by_cases e : i = a
    · rw [if_pos (by rw [e]), bd_eq _ bi, nm_q, ki, nb1, nm_q, nI_1]
      exact go 1 (Or.inr rfl) ⟨fun _ => Or.inl e, fun _ => n10⟩
    · rw [if_neg (fun z => e ((nI_eq (by omega) (by omega)).mp z)), nm_q, ia, nm_q, nI_add, bd_eq _ be, nm_q, ke]
      by_cases h0 : c2 (112 * a + i) = 0
      · rw [if_pos h0, bd_eq _ bi, nm_q, ki, nb0, nm_q, nI_1]
        exact go 0 (Or.inl rfl) ⟨fun z => absurd rfl z, fun z => z.elim (fun y => absurd y e) (fun y => absurd h0 y)⟩
      · rw [if_neg h0, bd_eq _ bi, nm_q, ki, nb1, nm_q, nI_1]
        exact go 1 (Or.inr rfl) ⟨fun _ => Or.inr h0, fun _ => n10⟩
/-- the reference's answer, with its own net -/
def aftM (K : Nat → Nat) (R : Nat) (pr : Nat → Nat → Nat) (w : Nat → Nat) (E L a : Nat) (r : Int32 × Int32 × (Nat → Int32) × (Nat → Int32) × (Nat → Int32) × (Nat → Int32)) : Prop := ∃ c e, isSM K R pr c e ∧ aftP E (runM (GM c) w (fun t => t = a ∨ EM e a t) L L) r
theorem r_l144 {K : Nat → Nat} {R L E a : Nat} {pr : Nat → Nat → Nat} (hP : okPr R pr) (ha : a < 8) {c3 m c7 c8 : Nat → Int32} (hm : rmN R m pr) {w : Nat → Nat} (hL : L ≤ 30) (hw : ∀ j, j < L → c7 j = nI (w j) ∧ w j < 12) (hE : relEnds E c8) {c1 c2 c5 c6 : Nat → Int32} (hb : baseM K (GM c1)) (hs : ∀ A S, baseM K A → clMs A S R pr → subM c1 c2 A S) {fu : Nat} (hg : 1999999 < fu) (hfu : FU = fu) :
    Wq (fX11_after_l144 (nI R) (nI L) c3 m c7 c8 fu (nI a) 1 0 c1 c2 c5 c6) (aftM K R pr w E L a) := by
  refine Wq_wh (F := fun n (s : Int32 × (Nat → Int32) × (Nat → Int32)) => fX11_after_l144 (nI R) (nI L) c3 m c7 c8 n (nI a) s.1 0 s.2.1 s.2.2 c5 c6)
    (B := fun k s => fX11_after_b144 (nI R) (nI L) c3 m c7 c8 (fun _ b _ d e _ _ => k (b, d, e)) (nI a) s.1 0 s.2.1 s.2.2 c5 c6) ?_
    (fun q s => (s.1 = 0 ∨ s.1 = 1) ∧ baseM K (GM s.2.1) ∧ (∀ A S, baseM K A → clMs A S R pr → subM s.2.1 s.2.2 A S) ∧ (s.1 = 0 → clMs (GM s.2.1) (EM s.2.2) R pr) ∧ (s.1 ≠ 0 → 151424 - (cntI s.2.1 150528 + cntI s.2.2 896) + 1 ≤ q)) ?_ fu 151425 (1, c1, c2) (by omega) ?_
  · intro n s
    show fX11_after_b144 (nI R) (nI L) c3 m c7 c8 (fX11_after_l144 (nI R) (nI L) c3 m c7 c8 n) (nI a) s.1 0 s.2.1 s.2.2 c5 c6 = _
    unfold fX11_after_b144
    by_cases h : s.1 = 0
    · rw [if_pos h]
    · rw [if_neg h]
  · rintro q ⟨f, d1, d2⟩ k ⟨h1, h2, h3, h4, h5⟩ ih
    simp only at h1 h2 h3 h4 h5
    show Wq (fX11_after_b144 (nI R) (nI L) c3 m c7 c8 (fun _ b _ d e _ _ => k (b, d, e)) (nI a) f 0 d1 d2 c5 c6) _
    unfold fX11_after_b144
    rw [hfu]
    refine Wq_if (fun h0 => ?_) (fun h0 => ?_)
    · exact Wq_mono (r_l158 ha hL hw hE hg hfu 112 0 fu c5 (by omega) (by omega) (fun t ht => absurd ht (by omega))) (fun r hr => ⟨d1, d2, ⟨h2, h4 h0, h3⟩, hr⟩)
    · obtain ⟨f2, e1, e2, s1, s2, s3, s4⟩ := r_spread hP hm d1 d2
      rw [s1, ob_s]
      have hq := h5 h0
      refine ih (q - 1) _ (by omega) ⟨s2, fun a s b y1 y2 y3 y4 y5 => s3.2.1 _ (h2 a s b y1 y2 y3 y4 y5), fun A S y1 y2 => s3.2.2.2.2.2 A S y2 (h3 A S y1 y2), s4, fun hf => ?_⟩
      show 151424 - (cntI e1 150528 + cntI e2 896) + 1 ≤ q - 1
      have t1 := cntI_le e1 150528
      have t2 := cntI_le e2 896
      have t3 := cntI_mono 150528 s3.2.1
      have t4 := cntI_mono 896 s3.2.2.1
      rcases s3.2.2.2.2.1 hf with z | z
      · exact absurd rfl z
      · rcases z with z | z
        · have := cntI_lt s3.2.1 z
          omega
        · have := cntI_lt s3.2.2.1 z
          omega
  · exact ⟨Or.inr rfl, hb, hs, fun h => absurd h n10, fun _ => by omega⟩
theorem r_after {K : Nat → Nat} {R L E a : Nat} {pr : Nat → Nat → Nat} (hP : okPr R pr) (ha : a < 8) {c1 c2 c3 m c5 c6 c7 c8 : Nat → Int32} (hm : rmN R m pr) (hK : ∀ i b, i < 192 → b < 16 → c3 (16 * i + b) = if (K i).testBit b then 1 else 0) {w : Nat → Nat} (hL : L ≤ 30) (hw : ∀ j, j < L → c7 j = nI (w j) ∧ w j < 12) (hE : relEnds E c8) (th : Int32) :
    Wq (fX11_after (nI a) th (nI R) (nI L) c1 c2 c3 m c5 c6 c7 c8) (aftM K R pr w E L a) := by
  obtain ⟨fu, hfu, hg⟩ := fu_any
  have h1 : ¬ (nI a < 0 ∨ 7 < nI a) := fun k => k.elim (fun z => nI_pos (n := a) (by omega) z) (fun z => absurd ((nI_ltI (a := 7) (b := a) (by decide) (by omega)).mp z) (by omega))
  unfold fX11_after
  rw [e_in, if_neg h1, ob_s, if_neg n10, hfu]
  -- the arcs of the net
  let Z : Nat → Nat → Nat → Nat → (Nat → Int32) → Prop := fun a1 s1 b1 lim c => ∀ j, j < 150528 → (c j ≠ 0 ↔ ∃ x s b, x < 16 ∧ s < 12 ∧ 8 ≤ b ∧ b < 16 ∧ j = 1344 * x + 112 * s + b ∧ (x < a1 ∨ (x = a1 ∧ (s < s1 ∨ (s = s1 ∧ b < b1)))) ∧ (K (12 * x + s)).testBit b = true)
  have lA : ∀ (k x n : Nat) (d1 d2 : Nat → Int32), x + k = 16 → k < n → (∀ j, j < 896 → d2 j = 0) → Z x 0 8 0 d1 → Wq (fX11_after_l63 (nI R) (nI L) c3 m c7 c8 n (nI a) (nI x) 0 d1 d2 c5 c6) (aftM K R pr w E L a) := by
    intro k
    induction k with
    | zero =>
      intro x n d1 d2 g1 g2 h2 hZ
      obtain ⟨n, rfl⟩ : ∃ z, n = z + 1 := ⟨n - 1, by omega⟩
      show Wq (fX11_after_b63 (nI R) (nI L) c3 m c7 c8 _ (nI a) (nI x) 0 d1 d2 c5 c6) _
      unfold fX11_after_b63
      have h16 : (16 : Int32) ≤ nI x := nI_le (a := 16) (b := x) (by omega) (by omega)
      rw [if_pos h16, hfu]
      refine r_l144 hP ha hm hL hw hE (fun y s b y1 y2 y3 y4 y5 => ?_) (fun A S y1 y2 => ⟨fun y s b z1 z2 z3 z4 => ?_, fun q b z1 z2 z3 => absurd (h2 _ (by omega)) z3⟩) hg hfu
      · exact (hZ (1344 * y + 112 * s + b) (by omega)).mpr ⟨y, s, b, y1, y2, y3, y4, rfl, Or.inl (by omega), y5⟩
      · obtain ⟨x2, s2, b2, e1, e2, e3, e4, e5, e6, e7⟩ := (hZ (1344 * y + 112 * s + b) (by omega)).mp z4
        have k1 : y = x2 := by omega
        have k2 : s = s2 := by omega
        have k3 : b = b2 := by omega
        rw [k1, k2, k3]
        exact y1 x2 s2 b2 e1 e2 e3 e4 e7
    | succ k ih =>
      intro x n d1 d2 g1 g2 h2 hZ
      obtain ⟨n, rfl⟩ : ∃ z, n = z + 1 := ⟨n - 1, by omega⟩
      show Wq (fX11_after_b63 (nI R) (nI L) c3 m c7 c8 (fX11_after_l63 (nI R) (nI L) c3 m c7 c8 n) (nI a) (nI x) 0 d1 d2 c5 c6) _
      unfold fX11_after_b63
      have h16 : ¬ (16 : Int32) ≤ nI x := nI_ge (a := x) (b := 16) (by omega) (by omega)
      rw [if_neg h16, hfu]
      have i1 : (1344 : Int32) * nI x = nI (1344 * x) := pk_mul 1344 x
      have i2 : (192 : Int32) * nI x = nI (192 * x) := pk_mul 192 x
      have lS : ∀ (k2 s n2 : Nat) (d1 : Nat → Int32), s + k2 = 12 → k2 < n2 → Z x s 8 0 d1 → Wq (fX11_after_l71 (nI R) (nI L) c3 m c7 c8 (fX11_after_l63 (nI R) (nI L) c3 m c7 c8 n) n2 (nI a) (nI x) (nI s) 0 d1 d2 c5 c6) (aftM K R pr w E L a) := by
        intro k2
        induction k2 with
        | zero =>
          intro s n2 d1 g3 g4 hZ
          obtain ⟨n2, rfl⟩ : ∃ z, n2 = z + 1 := ⟨n2 - 1, by omega⟩
          show Wq (fX11_after_b71 (nI R) (nI L) c3 m c7 c8 (fX11_after_l63 (nI R) (nI L) c3 m c7 c8 n) _ (nI a) (nI x) (nI s) 0 d1 d2 c5 c6) _
          unfold fX11_after_b71
          have h12 : (12 : Int32) ≤ nI s := nI_le (a := 12) (b := s) (by omega) (by omega)
          rw [if_pos h12, nm_q, nI_1]
          refine ih (x + 1) n d1 d2 (by omega) (by omega) h2 (fun j hj => (hZ j hj).trans ⟨fun h => ?_, fun h => ?_⟩)
          · obtain ⟨x2, s2, b2, e1, e2, e3, e4, e5, e6, e7⟩ := h
            exact ⟨x2, s2, b2, e1, e2, e3, e4, e5, Or.inl (by omega), e7⟩
          · obtain ⟨x2, s2, b2, e1, e2, e3, e4, e5, e6, e7⟩ := h
            exact ⟨x2, s2, b2, e1, e2, e3, e4, e5, by omega, e7⟩
        | succ k2 ih2 =>
          intro s n2 d1 g3 g4 hZ
          obtain ⟨n2, rfl⟩ : ∃ z, n2 = z + 1 := ⟨n2 - 1, by omega⟩
          show Wq (fX11_after_b71 (nI R) (nI L) c3 m c7 c8 (fX11_after_l63 (nI R) (nI L) c3 m c7 c8 n) (fX11_after_l71 (nI R) (nI L) c3 m c7 c8 (fX11_after_l63 (nI R) (nI L) c3 m c7 c8 n) n2) (nI a) (nI x) (nI s) 0 d1 d2 c5 c6) _
          unfold fX11_after_b71
          have h12 : ¬ (12 : Int32) ≤ nI s := nI_ge (a := s) (b := 12) (by omega) (by omega)
          rw [if_neg h12, hfu]
          have i3 : (112 : Int32) * nI s = nI (112 * s) := pk_mul 112 s
          have i4 : (16 : Int32) * nI s = nI (16 * s) := pk_mul 16 s
          have lB : ∀ (k3 b n3 : Nat) (d1 : Nat → Int32), b + k3 = 16 → 8 ≤ b → k3 < n3 → Z x s b 0 d1 → Wq (fX11_after_l81 (nI R) (nI L) c3 m c7 c8 (fX11_after_l63 (nI R) (nI L) c3 m c7 c8 n) (fX11_after_l71 (nI R) (nI L) c3 m c7 c8 (fX11_after_l63 (nI R) (nI L) c3 m c7 c8 n) n2) n3 (nI a) (nI x) (nI s) (nI b) 0 d1 d2 c5 c6) (aftM K R pr w E L a) := by
            intro k3
            induction k3 with
            | zero =>
              intro b n3 d1 g5 g6 g7 hZ
              obtain ⟨n3, rfl⟩ : ∃ z, n3 = z + 1 := ⟨n3 - 1, by omega⟩
              show Wq (fX11_after_b81 (nI R) (nI L) c3 m c7 c8 _ _ _ (nI a) (nI x) (nI s) (nI b) 0 d1 d2 c5 c6) _
              unfold fX11_after_b81
              have hb : (16 : Int32) ≤ nI b := nI_le (a := 16) (b := b) (by omega) (by omega)
              rw [if_pos hb, nm_q, nI_1]
              refine ih2 (s + 1) n2 d1 (by omega) (by omega) (fun j hj => (hZ j hj).trans ⟨fun h => ?_, fun h => ?_⟩)
              · obtain ⟨x2, s2, b2, e1, e2, e3, e4, e5, e6, e7⟩ := h
                exact ⟨x2, s2, b2, e1, e2, e3, e4, e5, by omega, e7⟩
              · obtain ⟨x2, s2, b2, e1, e2, e3, e4, e5, e6, e7⟩ := h
                exact ⟨x2, s2, b2, e1, e2, e3, e4, e5, by omega, e7⟩
            | succ k3 ih3 =>
              intro b n3 d1 g5 g6 g7 hZ
              obtain ⟨n3, rfl⟩ : ∃ z, n3 = z + 1 := ⟨n3 - 1, by omega⟩
              show Wq (fX11_after_b81 (nI R) (nI L) c3 m c7 c8 _ _ _ (nI a) (nI x) (nI s) (nI b) 0 d1 d2 c5 c6) _
              unfold fX11_after_b81
              have hb : ¬ (16 : Int32) ≤ nI b := nI_ge (a := b) (b := 16) (by omega) (by omega)
              have hk := hK (12 * x + s) b (by omega) (by omega)
              rw [show 16 * (12 * x + s) + b = 192 * x + 16 * s + b by omega] at hk
              rw [if_neg hb, nm_q, i1, nm_q, i3, nm_q, nI_add, nm_q, nI_add, nm_q, i2, nm_q, i4, nm_q, nI_add, nm_q, nI_add, bd_eq _ (inb_nI (j := 192 * x + 16 * s + b) (n := 3072) (by omega) (by decide)), nm_q, nI_clamp (n := 192 * x + 16 * s + b) (by omega), hk, bd_eq _ (inb_nI (j := 1344 * x + 112 * s + b) (n := 150528) (by omega) (by decide)), nm_q, nI_clamp (n := 1344 * x + 112 * s + b) (by omega), nm_q, nI_1]
              have hv : vp_nar .boolean (if (K (12 * x + s)).testBit b = true then 1 else 0) = if (K (12 * x + s)).testBit b = true then 1 else 0 := by
                by_cases h : (K (12 * x + s)).testBit b = true
                · rw [if_pos h]; exact nb1
                · rw [if_neg h]; exact nb0
              rw [hv]
              refine ih3 (b + 1) n3 _ (by omega) (by omega) (by omega) (fun j hj => ?_)
              by_cases e : j = 1344 * x + 112 * s + b
              · rw [e, upd_at]
                by_cases h : (K (12 * x + s)).testBit b = true
                · rw [if_pos h]
                  exact ⟨fun _ => ⟨x, s, b, by omega, by omega, g6, by omega, rfl, by omega, h⟩, fun _ => n10⟩
                · rw [if_neg h]
                  refine ⟨fun z => absurd rfl z, fun z => ?_⟩
                  obtain ⟨x2, s2, b2, e1, e2, e3, e4, e5, e6, e7⟩ := z
                  have q1 : x2 = x := by omega
                  have q2 : s2 = s := by omega
                  have q3 : b2 = b := by omega
                  rw [q1, q2, q3] at e7
                  exact absurd e7 h
              · rw [upd_ne e]
                refine (hZ j hj).trans ⟨fun h => ?_, fun h => ?_⟩
                · obtain ⟨x2, s2, b2, e1, e2, e3, e4, e5, e6, e7⟩ := h
                  exact ⟨x2, s2, b2, e1, e2, e3, e4, e5, by omega, e7⟩
                · obtain ⟨x2, s2, b2, e1, e2, e3, e4, e5, e6, e7⟩ := h
                  refine ⟨x2, s2, b2, e1, e2, e3, e4, e5, ?_, e7⟩
                  have : ¬ (x2 = x ∧ s2 = s ∧ b2 = b) := fun z => e (by rw [e5, z.1, z.2.1, z.2.2])
                  omega
          exact lB 8 8 fu d1 (by omega) (by omega) (by omega) hZ
      exact lS 12 0 fu d1 (by omega) (by omega) hZ
  have lE : ∀ (k i n : Nat) (d1 d2 : Nat → Int32), i + k = 896 → k < n → (∀ j, j < i → d2 j = 0) → (∀ j, j < 150528 → d1 j = 0) → Wq (fX11_after_l41 (nI R) (nI L) c3 m c7 c8 n (nI a) (nI i) 0 d1 d2 c5 c6) (aftM K R pr w E L a) := by
    intro k
    induction k with
    | zero =>
      intro i n d1 d2 g1 g2 h2 h1
      obtain ⟨n, rfl⟩ : ∃ z, n = z + 1 := ⟨n - 1, by omega⟩
      show Wq (fX11_after_b41 (nI R) (nI L) c3 m c7 c8 _ (nI a) (nI i) 0 d1 d2 c5 c6) _
      unfold fX11_after_b41
      have h9 : (896 : Int32) ≤ nI i := nI_le (a := 896) (b := i) (by omega) (by omega)
      rw [if_pos h9, hfu]
      refine lA 16 0 fu d1 d2 (by omega) (by omega) (fun j hj => h2 j (by omega)) (fun j hj => ⟨fun z => absurd (h1 j hj) z, fun z => ?_⟩)
      obtain ⟨x2, s2, b2, e1, e2, e3, e4, e5, e6, e7⟩ := z
      omega
    | succ k ih =>
      intro i n d1 d2 g1 g2 h2 h1
      obtain ⟨n, rfl⟩ : ∃ z, n = z + 1 := ⟨n - 1, by omega⟩
      show Wq (fX11_after_b41 (nI R) (nI L) c3 m c7 c8 _ (nI a) (nI i) 0 d1 d2 c5 c6) _
      unfold fX11_after_b41
      have h9 : ¬ (896 : Int32) ≤ nI i := nI_ge (a := i) (b := 896) (by omega) (by omega)
      rw [if_neg h9, bd_eq _ (inb_nI (j := i) (n := 896) (by omega) (by decide)), nm_q, nI_clamp (n := i) (by omega), nb0, nm_q, nI_1]
      refine ih (i + 1) n d1 _ (by omega) (by omega) (fun j hj => ?_) h1
      by_cases e : j = i
      · rw [e, upd_at]
      · rw [upd_ne e]; exact h2 j (by omega)
  have lG : ∀ (k i n : Nat) (d1 : Nat → Int32), i + k = 150528 → k < n → (∀ j, j < i → d1 j = 0) → Wq (fX11_after_l20 (nI R) (nI L) c3 m c7 c8 n (nI a) (nI i) 0 d1 c2 c5 c6) (aftM K R pr w E L a) := by
    intro k
    induction k with
    | zero =>
      intro i n d1 g1 g2 h1
      obtain ⟨n, rfl⟩ : ∃ z, n = z + 1 := ⟨n - 1, by omega⟩
      show Wq (fX11_after_b20 (nI R) (nI L) c3 m c7 c8 _ (nI a) (nI i) 0 d1 c2 c5 c6) _
      unfold fX11_after_b20
      have h9 : (150528 : Int32) ≤ nI i := nI_le (a := 150528) (b := i) (by omega) (by omega)
      rw [if_pos h9, hfu]
      exact lE 896 0 fu d1 c2 (by omega) (by omega) (fun j hj => absurd hj (by omega)) (fun j hj => h1 j (by omega))
    | succ k ih =>
      intro i n d1 g1 g2 h1
      obtain ⟨n, rfl⟩ : ∃ z, n = z + 1 := ⟨n - 1, by omega⟩
      show Wq (fX11_after_b20 (nI R) (nI L) c3 m c7 c8 _ (nI a) (nI i) 0 d1 c2 c5 c6) _
      unfold fX11_after_b20
      have h9 : ¬ (150528 : Int32) ≤ nI i := nI_ge (a := i) (b := 150528) (by omega) (by omega)
      rw [if_neg h9, bd_eq _ (inb_nI (j := i) (n := 150528) (by omega) (by decide)), nm_q, nI_clamp (n := i) (by omega), nb0, nm_q, nI_1]
      refine ih (i + 1) n _ (by omega) (by omega) (fun j hj => ?_)
      by_cases e : j = i
      · rw [e, upd_at]
      · rw [upd_ne e]; exact h1 j (by omega)
  exact lG 150528 0 fu c1 (by omega) (by omega) (fun j hj => absurd hj (by omega))
