/-! ===== pure rows 35: all rounds of the class's spread ===== -/
def cntL (c : Nat → Int64) (n : Nat) : Nat := sumN (fun i => if bt (c (i / 64)) (i % 64) = true then 1 else 0) (64 * n)
theorem cntL_le (c : Nat → Int64) (n : Nat) : cntL c n ≤ 64 * n := sumN_bd _ (fun i _ => by by_cases h : bt (c (i / 64)) (i % 64) = true <;> simp [h])
theorem cntL_mono {c c2 : Nat → Int64} (n : Nat) (h : ∀ j i, bt (c j) i = true → bt (c2 j) i = true) : cntL c n ≤ cntL c2 n := by
  refine sumN_le _ (fun i _ => ?_)
  by_cases e : bt (c (i / 64)) (i % 64) = true
  · simp [e, h _ _ e]
  · simp [e]
theorem cntL_lt {c c2 : Nat → Int64} {n : Nat} (h : ∀ j i, bt (c j) i = true → bt (c2 j) i = true) {j : Nat} (hj : j < n) (hne : ¬ c2 j = c j) : cntL c n < cntL c2 n := by
  have hd : ∃ i, i < 64 ∧ bt (c2 j) i = true ∧ ¬ bt (c j) i = true := by
    apply Classical.byContradiction
    intro hn
    apply hne
    apply bt_ext
    intro i hi
    cases h1 : bt (c j) i with
    | true => exact h j i h1
    | false =>
      cases h2 : bt (c2 j) i with
      | false => rfl
      | true => exact absurd ⟨i, hi, h2, by rw [h1]; decide⟩ hn
  obtain ⟨i, hi, h1, h2⟩ := hd
  refine sumN_lt _ (fun k _ => ?_) ⟨64 * j + i, by omega, ?_⟩
  · by_cases e : bt (c (k / 64)) (k % 64) = true
    · simp [e, h _ _ e]
    · simp [e]
  · rw [show (64 * j + i) / 64 = j by omega, show (64 * j + i) % 64 = i by omega]
    simp [h1, h2]
def baseC (K : Nat → Nat) (A : Nat → Nat → Nat → Prop) : Prop := ∀ a s b, a < 16 → s < 12 → (K (12 * a + s)).testBit b = true → A a s b
def clCs (A : Nat → Nat → Nat → Prop) (S : Nat → Nat → Prop) (R : Nat) (pr : Nat → Nat → Nat) : Prop := ∀ r, r < R → clC A S r (pr 0 r) (pr 1 r) (pr 2 r) (pr 3 r) (pr 4 r) (pr 5 r)
/-- the class's net of all that the set comes to -/
def isSp (K : Nat → Nat) (R : Nat) (pr : Nat → Nat → Nat) (c y : Nat → Int64) : Prop := baseC K (Aof c) ∧ clCs (Aof c) (Sof y) R pr ∧ ∀ A S, baseC K A → clCs A S R pr → subC c y A S
theorem l91_l {R : Nat} {chg sa yr : Int32} {c4 cp cg cq cn cw1 cw2 : Nat → Int32} {pr : Nat → Nat → Nat} (hR : ruN R cp cg cn cq cw1 cw2 pr) (k77 : Int32 → Int32 → Int32 → (Nat → Int64) → (Nat → Int64) → Option (Int32 × (Nat → Int64) × (Nat → Int64))) :
    ∀ (k i n : Nat) (f : Int32) (c y : Nat → Int64), i + k = R → k < n → (f = 0 ∨ f = 1) →
      ∃ (b : Int32) (c2 y2 : Nat → Int64), fX5_bringUpToDate_l91 (nI R) chg c4 cp cg cq cn cw1 cw2 k77 n f yr (nI i) sa c y = k77 b (yr + 1) sa c2 y2 ∧ (b = 0 ∨ b = 1) ∧ (∀ j i, bt (c j) i = true → bt (c2 j) i = true) ∧ (∀ j i, bt (y j) i = true → bt (y2 j) i = true) ∧ (b = 0 ↔ f = 0 ∧ (∀ j, c2 j = c j) ∧ ∀ j, y2 j = y j) ∧
        (b = 0 → ∀ r, i ≤ r → r < R → clC (Aof c) (Sof y) r (pr 0 r) (pr 1 r) (pr 2 r) (pr 3 r) (pr 4 r) (pr 5 r)) ∧ (∀ A S, subC c y A S → clCs A S R pr → subC c2 y2 A S) ∧ ouC c y c2 y2 := by
  have hR48 := hR.1
  intro k
  induction k with
  | zero =>
    intro i n f c y g1 g2 hf
    obtain ⟨n, rfl⟩ : ∃ z, n = z + 1 := ⟨n - 1, by omega⟩
    refine ⟨f, c, y, ?_, hf, fun _ _ h => h, fun _ _ h => h, ⟨fun h => ⟨h, fun _ => rfl, fun _ => rfl⟩, fun h => h.1⟩, fun _ r z1 z2 => by omega, fun _ _ h _ => h, fun _ _ => rfl, fun _ _ => rfl⟩
    show fX5_bringUpToDate_b91 (nI R) chg c4 cp cg cq cn cw1 cw2 k77 _ f yr (nI i) sa c y = _
    unfold fX5_bringUpToDate_b91
    rw [if_pos (nI_le (by omega) (by omega)), nm_q]
  | succ k ih =>
    intro i n f c y g1 g2 hf
    obtain ⟨n, rfl⟩ : ∃ z, n = z + 1 := ⟨n - 1, by omega⟩
    obtain ⟨⟨p0, p1, p2, p3, p4, p5⟩, a0, a1, a2, a3, a4, a5⟩ := hR.2 i (by omega)
    obtain ⟨⟨b1, y1, c1⟩, e1, ⟨u1, u2, u3, u4, u5, u6⟩, u7, u8⟩ := c_useR (c := c) (y := y) (show i < 48 by omega) p0 p1 p2 p3 p4 p5 a0 a1 a2 a3 a4 a5
    simp only at u1 u2 u3 u4 u5 u6 u7 u8
    obtain ⟨o1, o2⟩ := or_bz hf u1
    obtain ⟨b, c2, y2, e2, hb, mc, my, hb0, hcl, hsd, ou1, ou2⟩ := ih (i + 1) n (f ||| b1) c1 y1 (by omega) (by omega) o1
    refine ⟨b, c2, y2, ?_, hb, fun j i h => mc j i (u2 j i h), fun j i h => my j i (u3 j i h), ?_, ?_, fun A S h1 h2 => hsd A S (u6 A S h1 (h2 i (by omega))) h2, fun j hj => (ou1 j hj).trans (u7 j hj), fun j hj => (ou2 j hj).trans (u8 j hj)⟩
    · show fX5_bringUpToDate_b91 (nI R) chg c4 cp cg cq cn cw1 cw2 k77 _ f yr (nI i) sa c y = _
      unfold fX5_bringUpToDate_b91
      rw [if_neg (nI_ge (by omega) (by omega)), e1, ob_s, nm_q, nm_q, nI_1]
      exact e2
    · constructor
      · intro h0
        obtain ⟨q1, q2, q3⟩ := hb0.mp h0
        obtain ⟨q4, q5⟩ := o2.mp q1
        obtain ⟨q6, q7⟩ := u4.mp q5
        exact ⟨q4, fun j => (q2 j).trans (q6 j), fun j => (q3 j).trans (q7 j)⟩
      · rintro ⟨q1, q2, q3⟩
        have same : ∀ (c c1 c2 : Nat → Int64), (∀ j i, bt (c j) i = true → bt (c1 j) i = true) → (∀ j i, bt (c1 j) i = true → bt (c2 j) i = true) → (∀ j, c2 j = c j) → ∀ j, c1 j = c j := by
          intro c c1 c2 m1 m2 e j
          apply bt_ext
          intro i _
          cases h1 : bt (c j) i with
          | true => exact m1 j i h1
          | false =>
            cases h2 : bt (c1 j) i with
            | false => rfl
            | true =>
              have h3 := m2 j i h2
              rw [e j, h1] at h3
              cases h3
        have s1 := same c c1 c2 u2 mc q2
        have s2 := same y y1 y2 u3 my q3
        exact hb0.mpr ⟨o2.mpr ⟨q1, u4.mpr ⟨s1, s2⟩⟩, fun j => (q2 j).trans (s1 j).symm, fun j => (q3 j).trans (s2 j).symm⟩
    · intro h0 r z1 z2
      obtain ⟨q1, q2, q3⟩ := hb0.mp h0
      obtain ⟨q4, q5⟩ := o2.mp q1
      obtain ⟨q6, q7⟩ := u4.mp q5
      by_cases e : r = i
      · subst e; exact u5 q5
      · have hc1 : c1 = c := funext q6
        have hy1 : y1 = y := funext q7
        have := hcl h0 r (by omega) z2
        rw [hc1, hy1] at this
        exact this
theorem e_l77 {K : Nat → Nat} {R : Nat} {chg sa : Int32} {c4 cp cg cq cn cw1 cw2 : Nat → Int32} {pr : Nat → Nat → Nat} (hR : ruN R cp cg cn cq cw1 cw2 pr) {c y : Nat → Int64} (hb : baseC K (Aof c)) (hs : ∀ A S, baseC K A → clCs A S R pr → subC c y A S) {fu : Nat} (hg : 1999999 < fu) :
    Wq (fX5_bringUpToDate_l77 (nI R) chg c4 cp cg cq cn cw1 cw2 fu 1 0 sa c y) (fun r => r.1 = sa ∧ isSp K R pr r.2.1 r.2.2) := by
  obtain ⟨fu2, hfu, hg2⟩ := fu_any
  have hR48 := hR.1
  refine Wq_wh (F := fun n (s : Int32 × Int32 × Int32 × (Nat → Int64) × (Nat → Int64)) => fX5_bringUpToDate_l77 (nI R) chg c4 cp cg cq cn cw1 cw2 n s.1 s.2.1 s.2.2.1 s.2.2.2.1 s.2.2.2.2)
    (B := fun k s => fX5_bringUpToDate_b77 (nI R) chg c4 cp cg cq cn cw1 cw2 (fun a b c d e => k (a, b, c, d, e)) s.1 s.2.1 s.2.2.1 s.2.2.2.1 s.2.2.2.2) (fun _ _ => rfl)
    (fun m s => s.2.2.1 = sa ∧ (s.1 = 0 ∨ s.1 = 1) ∧ (∃ z, s.2.1 = nI z ∧ z + m ≤ 49670) ∧ baseC K (Aof s.2.2.2.1) ∧ (∀ A S, baseC K A → clCs A S R pr → subC s.2.2.2.1 s.2.2.2.2 A S) ∧ (s.1 = 0 → clCs (Aof s.2.2.2.1) (Sof s.2.2.2.2) R pr) ∧ (s.1 ≠ 0 → 49664 - (cntL s.2.2.2.1 768 + cntL s.2.2.2.2 8) + 1 ≤ m)) ?_ fu 49665 (1, 0, sa, c, y) (by omega) ?_
  · rintro m ⟨f, y2, sa', c', y'⟩ k ⟨e1, hf, ⟨z, e2, hz⟩, h1, h2, h3, h4⟩ ih
    simp only at e1 hf e2 h1 h2 h3 h4
    subst e1 e2
    show Wq (fX5_bringUpToDate_b77 (nI R) chg c4 cp cg cq cn cw1 cw2 (fun a b c d e => k (a, b, c, d, e)) f (nI z) sa' c' y') _
    unfold fX5_bringUpToDate_b77
    have hz2 : ¬ (1000000 : Int32) ≤ nI z := nI_ge (a := z) (b := 1000000) (by omega) (by decide)
    rw [if_neg hz2]
    refine Wq_if (fun h0 => ?_) (fun h0 => ?_)
    · exact Wq_some ⟨rfl, h1, h3 h0, h2⟩
    · obtain ⟨b, c2, y2, e, hb, mc, my, hb0, hcl, hsd, ou1, ou2⟩ := l91_l (chg := chg) (sa := sa') (yr := nI z) (c4 := c4) hR (fun a b c d e => k (a, b, c, d, e)) R 0 fu2 0 c' y' (by omega) (by omega) (Or.inl rfl)
      rw [hfu]
      have e' : fX5_bringUpToDate_l91 (nI R) chg c4 cp cg cq cn cw1 cw2 (fun a b c d e => k (a, b, c, d, e)) fu2 0 (nI z) 0 sa' c' y' = k (b, nI z + 1, sa', c2, y2) := e
      have hm := h4 h0
      rw [e', nI_1]
      refine ih (m - 1) _ (by omega) ⟨rfl, hb, ⟨z + 1, rfl, by omega⟩, fun a s i ha hs hi => mc _ _ (h1 a s i ha hs hi), fun A S g1 g2 => hsd A S (h2 A S g1 g2) g2, fun hb1 => ?_, fun hb1 => ?_⟩
      · obtain ⟨-, q1, q2⟩ := hb0.mp hb1
        have hc1 : c2 = c' := funext q1
        have hy1 : y2 = y' := funext q2
        show clCs (Aof c2) (Sof y2) R pr
        rw [hc1, hy1]
        exact fun r hr => hcl hb1 r (Nat.zero_le _) hr
      · show 49664 - (cntL c2 768 + cntL y2 8) + 1 ≤ m - 1
        have t1 := cntL_le c2 768
        have t2 := cntL_le y2 8
        have t3 := cntL_mono 768 mc
        have t4 := cntL_mono 8 my
        by_cases hc : ∃ j, j < 768 ∧ ¬ c2 j = c' j
        · obtain ⟨j, j1, j2⟩ := hc
          have := cntL_lt mc j1 j2
          omega
        · by_cases hy : ∃ j, j < 8 ∧ ¬ y2 j = y' j
          · obtain ⟨j, j1, j2⟩ := hy
            have := cntL_lt my j1 j2
            omega
          · exfalso
            refine hb1 (hb0.mpr ⟨rfl, fun j => ?_, fun j => ?_⟩)
            · by_cases hj : j < 768
              · exact Classical.byContradiction (fun z => hc ⟨j, hj, z⟩)
              · exact ou1 j (by omega)
            · by_cases hj : j < 8
              · exact Classical.byContradiction (fun z => hy ⟨j, hj, z⟩)
              · exact ou2 j (by omega)
  · exact ⟨rfl, Or.inr rfl, ⟨0, rfl, by omega⟩, hb, hs, fun h => absurd h n10, fun _ => by omega⟩
theorem fillL_l {N : Nat} (hN : N < 2 ^ 30) (a : Int64) : ∀ (k i n : Nat) (c : Nat → Int64), i + k = N → k < n → ∃ d, fJ7_fill_d0a16_l6 N n a (nI i) (nI N) c = some d ∧ ∀ j, d j = if i ≤ j ∧ j < N then a else c j := by
  intro k
  induction k with
  | zero =>
    intro i n c g1 g2
    obtain ⟨n, rfl⟩ : ∃ z, n = z + 1 := ⟨n - 1, by omega⟩
    refine ⟨c, ?_, fun j => by rw [if_neg (by omega)]⟩
    show fJ7_fill_d0a16_b6 N _ a (nI i) (nI N) c = _
    unfold fJ7_fill_d0a16_b6
    rw [if_pos (nI_le (by omega) (by omega))]
  | succ k ih =>
    intro i n c g1 g2
    obtain ⟨n, rfl⟩ : ∃ z, n = z + 1 := ⟨n - 1, by omega⟩
    obtain ⟨d, e, hd⟩ := ih (i + 1) n (vp_updL c i a) (by omega) (by omega)
    refine ⟨d, ?_, fun j => ?_⟩
    · show fJ7_fill_d0a16_b6 N _ a (nI i) (nI N) c = _
      unfold fJ7_fill_d0a16_b6
      rw [if_neg (nI_ge (by omega) (by omega)), bd_eq _ (inb_nI (j := i) (n := N) (by omega) (by omega)), nm_q, nI_clamp (n := i) (by omega), nm_q, nI_1]
      exact e
    · rw [hd j]
      by_cases e1 : j = i
      · subst e1; rw [if_neg (by omega), if_pos (by omega), updL_at]
      · by_cases e2 : i + 1 ≤ j ∧ j < N
        · rw [if_pos e2, if_pos (by omega)]
        · rw [if_neg e2, if_neg (by omega), updL_ne e1]
theorem e_fillL {N : Nat} (hN : N < 1000000) (a : Int64) (c : Nat → Int64) : ∃ d, fJ7_fill_d0a16 a N c = some d ∧ ∀ j, d j = if j < N then a else c j := by
  obtain ⟨fu, hfu, hg⟩ := fu_any
  obtain ⟨d, e, hd⟩ := fillL_l (N := N) (by omega) a N 0 fu c (by omega) (by omega)
  refine ⟨d, ?_, fun j => by rw [hd j]; simp⟩
  unfold fJ7_fill_d0a16
  rw [hfu, nm_q]
  exact e
/-- the class's spread, brought up to date -/
theorem e_spread {K : Nat → Nat} {R : Nat} {so chg : Int32} {c4 cp cg cq cn cw1 cw2 : Nat → Int32} {pr : Nat → Nat → Nat} (hR : ruN R cp cg cn cq cw1 cw2 pr) (hK : ∀ i, i < 192 → K i < 65536 ∧ c4 i = nI (K i)) {c y : Nat → Int64} (hso : so = chg → isSp K R pr c y) :
    Wq (fX5_bringUpToDate so (nI R) chg c y c4 cp cg cq cn cw1 cw2) (fun r => r.1 = chg ∧ isSp K R pr r.2.1 r.2.2) := by
  obtain ⟨fu, hfu, hg⟩ := fu_any
  unfold fX5_bringUpToDate
  rw [hfu]
  refine Wq_if (fun h => Wq_some ⟨h, hso h⟩) (fun _ => ?_)
  obtain ⟨d1, e1, h1⟩ := e_fillL (N := 768) (by decide) 0 c
  obtain ⟨d2, e2, h2⟩ := e_fillL (N := 8) (by decide) 0 y
  rw [e1, ob_s, e2, ob_s]
  have key : ∀ (k i n : Nat) (d : Nat → Int64), i + k = 192 → k < n → (∀ j, j < 768 → d j = if j < i then (nI (K j)).toInt64 else 0) → Wq (fX5_bringUpToDate_l44 (nI R) chg c4 cp cg cq cn cw1 cw2 n (nI i) chg d d2) (fun r => r.1 = chg ∧ isSp K R pr r.2.1 r.2.2) := by
    intro k
    induction k with
    | zero =>
      intro i n d g1 g2 hd
      obtain ⟨n, rfl⟩ : ∃ z, n = z + 1 := ⟨n - 1, by omega⟩
      show Wq (fX5_bringUpToDate_b44 (nI R) chg c4 cp cg cq cn cw1 cw2 _ (nI i) chg d d2) _
      unfold fX5_bringUpToDate_b44
      have h192 : (192 : Int32) ≤ nI i := nI_le (a := 192) (b := i) (by omega) (by omega)
      rw [if_pos h192, hfu]
      have ei : i = 192 := by omega
      subst ei
      refine e_l77 hR ?_ ?_ hg
      · intro a s b ha hs hb
        show bt (d (12 * a + s)) b = true
        rw [hd _ (by omega), if_pos (by omega), bt_nI (by have := (hK (12 * a + s) (by omega)).1; omega)]
        exact hb
      · intro A S hA _
        refine ⟨fun a s b ha hs hb hab => ?_, fun q b hq hb hqb => ?_⟩
        · have hab' : bt (d (12 * a + s)) b = true := hab
          rw [hd _ (by omega)] at hab'
          by_cases hl : 12 * a + s < 192
          · rw [if_pos hl, bt_nI (by have := (hK (12 * a + s) (by omega)).1; omega)] at hab'
            exact hA a s b (by omega) hs hab'
          · rw [if_neg hl, bt_0] at hab'; cases hab'
        · have hqb' : bt (d2 q) b = true := hqb
          rw [h2 q, if_pos hq, bt_0] at hqb'; cases hqb'
    | succ k ih =>
      intro i n d g1 g2 hd
      obtain ⟨n, rfl⟩ : ∃ z, n = z + 1 := ⟨n - 1, by omega⟩
      show Wq (fX5_bringUpToDate_b44 (nI R) chg c4 cp cg cq cn cw1 cw2 _ (nI i) chg d d2) _
      unfold fX5_bringUpToDate_b44
      have h192 : ¬ (192 : Int32) ≤ nI i := nI_ge (a := i) (b := 192) (by omega) (by omega)
      rw [if_neg h192, bd_eq _ (inb_nI (j := i) (n := 192) (by omega) (by decide)), nm_q, nI_clamp (n := i) (by omega), (hK i (by omega)).2, nm_q, bd_eq _ (inb_nI (j := i) (n := 768) (by omega) (by decide)), nm_q, nm_q, nI_1]
      refine ih (i + 1) n _ (by omega) (by omega) (fun j hj => ?_)
      by_cases e : j = i
      · subst e; rw [updL_at, if_pos (by omega)]
      · rw [updL_ne e, hd j hj]
        by_cases hl : j < i
        · rw [if_pos hl, if_pos (by omega)]
        · rw [if_neg hl, if_neg (by omega)]
  exact key 192 0 fu d1 (by omega) (by omega) (fun j hj => by rw [h1 j, if_pos hj, if_neg (by omega)])
/-! holdsWord of the class: the nodes behind the word -/
def stepA (A : Nat → Nat → Nat → Prop) (N : Nat → Prop) (s : Nat) (b : Nat) : Prop := ∃ k, k < 64 ∧ N k ∧ A k s b
/-- the nodes behind the top signs of the word, from height L down to j -/
def runA (A : Nat → Nat → Nat → Prop) (w : Nat → Nat) (N0 : Nat → Prop) (L : Nat) : Nat → Nat → Prop
  | 0 => N0
  | k + 1 => stepA A (runA A w N0 L k) (w (L - (k + 1)))
theorem c_holds {K w : Nat → Nat} {R E L a : Nat} {so chg : Int32} {c4 cp cg cq cn cw1 cw2 cw : Nat → Int32} {pr : Nat → Nat → Nat} (ha : a < 8) (hR : ruN R cp cg cn cq cw1 cw2 pr) (hK : ∀ i, i < 192 → K i < 65536 ∧ c4 i = nI (K i)) (hE : E < 65536) (hL : L ≤ 30) (hw : ∀ j, j < L → cw j = nI (w j) ∧ w j < 12) {c y : Nat → Int64} (hso : so = chg → isSp K R pr c y) :
    Wq (fX5_holdsWord (nI a) so (nI R) (nI E) (nI L) chg c y c4 cp cg cq cn cw1 cw2 cw) (fun r => r.2.1 = chg ∧ isSp K R pr r.2.2.1 r.2.2.2 ∧ (r.1 = 0 ∨ r.1 = 1) ∧ (r.1 = 1 ↔ ∃ b, b < 16 ∧ E.testBit b = true ∧ runA (Aof r.2.2.1) w (fun k => k = a ∨ Sof r.2.2.2 a k) L L b)) := by
  obtain ⟨fu, hfu, hg⟩ := fu_any
  unfold fX5_holdsWord
  rw [hfu]
  refine Wq_ob (e_spread hR hK hso) (fun o ho => ?_)
  obtain ⟨os, oc, oy⟩ := o
  obtain ⟨q1, q2⟩ := ho
  simp only at q1 q2
  subst q1
  rw [nm_q, bd_eq _ (inb_nI (j := a) (n := 8) ha (by decide)), nm_q, nI_clamp (n := a) (by omega), nm_q, nm_q]
  have key : ∀ (j k n : Nat) (N : Int64), j + k = L → j < n → (∀ b, bt N b = true ↔ runA (Aof oc) w (fun k => k = a ∨ Sof oy a k) L k b) → Wq (fX5_holdsWord_l26 (nI R) (nI E) (nI L) os c4 cp cg cq cn cw1 cw2 cw n N (nI j - 1) os oc oy) (fun r => r.2.1 = os ∧ isSp K R pr r.2.2.1 r.2.2.2 ∧ (r.1 = 0 ∨ r.1 = 1) ∧ (r.1 = 1 ↔ ∃ b, b < 16 ∧ E.testBit b = true ∧ runA (Aof r.2.2.1) w (fun k => k = a ∨ Sof r.2.2.2 a k) L L b)) := by
    intro j
    induction j with
    | zero =>
      intro k n N g1 g2 hN
      obtain ⟨n, rfl⟩ : ∃ z, n = z + 1 := ⟨n - 1, by omega⟩
      show Wq (fX5_holdsWord_b26 (nI R) (nI E) (nI L) os c4 cp cg cq cn cw1 cw2 cw _ N (nI 0 - 1) os oc oy) _
      unfold fX5_holdsWord_b26 fX5_holdsWord_p73
      rw [if_pos (by decide), nm_q, nm_q, nm_q]
      have ek : k = L := by omega
      subst ek
      have hz : (N &&& (nI E).toInt64) = 0 ↔ ¬ ∃ b, b < 16 ∧ E.testBit b = true ∧ runA (Aof oc) w (fun k => k = a ∨ Sof oy a k) k k b := by
        constructor
        · rintro h ⟨b, h1, h2, h3⟩
          have t : bt (N &&& (nI E).toInt64) b = true := by rw [bt_and, (hN b).mpr h3, bt_nI (by omega), h2]; rfl
          rw [h, bt_0] at t
          cases t
        · intro h
          apply bt_ext
          intro b hb
          rw [bt_0, bt_and, bt_nI (by omega)]
          cases h1 : bt N b with
          | false => rfl
          | true =>
            cases h2 : E.testBit b with
            | false => rfl
            | true =>
              refine absurd ⟨b, ?_, h2, (hN b).mp h1⟩ h
              apply Nat.not_le.mp
              intro hb16
              rw [Nat.testBit_lt_two_pow (Nat.lt_of_lt_of_le hE (Nat.pow_le_pow_right (n := 2) (by decide) hb16))] at h2
              cases h2
      by_cases h0 : (N &&& (nI E).toInt64) = 0
      · rw [if_pos ((lg_cmp_eq _ _).mpr h0)]
        exact Wq_bd rfl (Wq_some ⟨rfl, q2, Or.inl rfl, ⟨fun h => absurd h.symm n10, fun h => absurd h (hz.mp h0)⟩⟩)
      · rw [if_neg (fun h => h0 ((lg_cmp_eq _ _).mp h))]
        exact Wq_bd rfl (Wq_some ⟨rfl, q2, Or.inr rfl, ⟨fun _ => Classical.byContradiction (fun h => h0 (hz.mpr h)), fun _ => rfl⟩⟩)
    | succ j ih =>
      intro k n N g1 g2 hN
      obtain ⟨n, rfl⟩ : ∃ z, n = z + 1 := ⟨n - 1, by omega⟩
      obtain ⟨w1, w2⟩ := hw j (by omega)
      show Wq (fX5_holdsWord_b26 (nI R) (nI E) (nI L) os c4 cp cg cq cn cw1 cw2 cw _ N (nI (j + 1) - 1) os oc oy) _
      unfold fX5_holdsWord_b26
      rw [nI_pred, if_neg (nI_pos (by omega)), bd_eq _ (inb_nI (j := j) (n := 30) (by omega) (by decide)), nm_q, nI_clamp (n := j) (by omega), w1]
      refine Wq_ob (c_nodesB N w2 oc) (fun o2 ho2 => ?_)
      rw [nm_q]
      have em : nI j + (-1) = nI j - 1 := by
        apply Int32.toBitVec_inj.mp
        simp [Int32.sub_eq_add_neg]
      rw [em]
      refine ih (k + 1) n _ (by omega) (by omega) (fun b => ?_)
      rw [ho2 b]
      show _ ↔ stepA (Aof oc) (runA (Aof oc) w (fun k => k = a ∨ Sof oy a k) L k) (w (L - (k + 1))) b
      rw [show L - (k + 1) = j by omega]
      constructor
      · rintro ⟨i, h1, h2, h3⟩; exact ⟨i, h1, (hN i).mp h2, h3⟩
      · rintro ⟨i, h1, h2, h3⟩; exact ⟨i, h1, (hN i).mpr h2, h3⟩
  refine key L 0 fu _ (by omega) (by omega) (fun b => ?_)
  rw [bt_or, bt_1 (by omega), Bool.or_eq_true, decide_eq_true_eq]
  exact ⟨fun h => h.imp (fun k => k.symm) id, fun h => h.imp (fun k => k.symm) id⟩
