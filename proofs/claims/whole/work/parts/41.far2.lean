/-! ===== pure rows 12: useRule (class) ===== -/
def rw16 (a s : Nat) : Nat := (a * 12 + s) * 16
theorem rw16_le {a s : Nat} (ha : a < 16) (hs : s < 12) : rw16 a s + 16 ≤ 3072 := by unfold rw16; omega
theorem e1_row {a s : Nat} : fX1_row (nI a) (nI s) = some (nI (rw16 a s), ()) := by
  unfold fX1_row rw16
  have h1 : nI a * 12 = nI (a * 12) := pk_mul a 12
  have h2 : nI (a * 12 + s) * 16 = nI ((a * 12 + s) * 16) := pk_mul _ 16
  simp only [nm, h1, nI_add, h2]
/-- a table passes no rule -/
def clR (x : Nat → Nat) (p g q n w1 w2 : Nat) : Prop :=
  (n = 0 → x (rw16 p g + q) ≤ 1) ∧ (n = 1 → ∀ t, t < 16 → x (rw16 q w1 + t) < 536870912 → x (rw16 p g + t) ≤ min (x (rw16 q w1 + t) + 1) 1000000) ∧
  (n = 2 → ∀ m, m < 16 → x (rw16 q w1 + m) < 536870912 → ∀ t, t < 16 → x (rw16 m w2 + t) < 536870912 → x (rw16 p g + t) ≤ min (x (rw16 m w2 + t) + (x (rw16 q w1 + m) + 1)) 1000000)
theorem e1_lowerRow {tgt src more : Nat} (h1 : tgt + 16 ≤ 3072) (h2 : src + 16 ≤ 3072) (hm : more ≤ 1000001) {x : Nat → Nat} {c : Nat → Int32} (ht : tb x c) :
    ∃ (b : Int32) (x2 : Nat → Nat) (d : Nat → Int32), fX1_lowerRow (nI tgt) (nI src) (nI more) c = some (b, d) ∧ tb x2 d ∧ (∀ j, x2 j ≤ x j) ∧ (b = 0 ∨ b = 1) ∧ (b = 0 ↔ ∀ j, j < 3072 → x2 j = x j) ∧
      (b = 0 → ∀ t, t < 16 → x (src + t) < 536870912 → x (tgt + t) ≤ min (x (src + t) + more) 1000000) ∧
      (∀ y : Nat → Nat, (∀ j, j < 3072 → y j ≤ x j) → (∀ t v, t < 16 → y (src + t) ≤ v → v < 536870912 → y (tgt + t) ≤ min (v + more) 1000000) → ∀ j, j < 3072 → y j ≤ x2 j) ∧
      (∀ I : (Nat → Nat) → Prop, I x → (∀ (x' : Nat → Nat) (t : Nat), t < 16 → (∀ j, x' j ≤ x j) → x' (src + t) < 536870912 → I x' → I (lowA x' (tgt + t) (x' (src + t) + more))) → I x2) ∧
      (∀ t, t < 16 → x (src + t) < 536870912 → x2 (tgt + t) ≤ min (x (src + t) + more) 1000000) := by
  obtain ⟨b, x2, d, e, t2, le, hb, hb0, hcl, hsd, hinv, hpr⟩ := lowerRow_l h1 h2 hm 16 0 FU 0 x c (by omega) (FU_gt (by decide)) (Or.inl rfl) ht
  exact ⟨b, x2, d, e, t2, le, hb, ⟨fun k => (hb0.mp k).2, fun k => hb0.mpr ⟨rfl, k⟩⟩, fun k t z => hcl k t (Nat.zero_le _) z, hsd, hinv, fun t z => hpr t (Nat.zero_le _) z⟩
theorem l100_l {c2 c3 c4 c5 c7 c8 : Nat → Int32} {r p g q w1 w2 : Nat} (hr : r < 48) (hp : p < 8) (hg : g < 12) (hq : q < 8) (hw1 : w1 < 12) (hw2 : w2 < 12) (e8 : c8 r = nI w2) :
    ∀ (k i n : Nat) (f : Int32) (x : Nat → Nat) (c : Nat → Int32), i + k = 16 → k < n → (f = 0 ∨ f = 1) → tb x c →
      ∃ (b : Int32) (x2 : Nat → Nat) (d : Nat → Int32), fX1_useRule_l100 c2 c3 c4 c5 c7 c8 n (nI r) (nI (rw16 p g)) (nI (rw16 q w1)) f (nI i) c = some (b, d) ∧ tb x2 d ∧ (∀ j, x2 j ≤ x j) ∧ (b = 0 ∨ b = 1) ∧ (b = 0 ↔ (f = 0 ∧ ∀ j, j < 3072 → x2 j = x j)) ∧
        (b = 0 → ∀ m, i ≤ m → m < 16 → x (rw16 q w1 + m) < 536870912 → ∀ t, t < 16 → x (rw16 m w2 + t) < 536870912 → x (rw16 p g + t) ≤ min (x (rw16 m w2 + t) + (x (rw16 q w1 + m) + 1)) 1000000) ∧
        (∀ y : Nat → Nat, (∀ j, j < 3072 → y j ≤ x j) → clR y p g q 2 w1 w2 → ∀ j, j < 3072 → y j ≤ x2 j) ∧
        (∀ I : (Nat → Nat) → Prop, I x → (∀ (x' : Nat → Nat) (m t v : Nat), m < 16 → t < 16 → x' (rw16 q w1 + m) ≤ v → v < 536870912 → x' (rw16 m w2 + t) < 536870912 → I x' → I (lowA x' (rw16 p g + t) (x' (rw16 m w2 + t) + (v + 1)))) → I x2) ∧
        (∀ m, i ≤ m → m < 16 → x (rw16 q w1 + m) < 536870912 → ∀ t, t < 16 → x (rw16 m w2 + t) < 536870912 → x2 (rw16 p g + t) ≤ min (x (rw16 m w2 + t) + (x (rw16 q w1 + m) + 1)) 1000000) := by
  have hA := rw16_le (a := p) (s := g) (by omega) hg
  have hB := rw16_le (a := q) (s := w1) (by omega) hw1
  intro k
  induction k with
  | zero =>
    intro i n f x c g1 g2 hf ht
    obtain ⟨n, rfl⟩ : ∃ z, n = z + 1 := ⟨n - 1, by omega⟩
    refine ⟨f, x, c, ?_, ht, fun j => Nat.le_refl _, hf, ⟨fun k => ⟨k, fun _ _ => rfl⟩, fun k => k.1⟩, fun _ t z1 z2 => by omega, fun y hy _ => hy, fun I hI _ => hI, fun m z1 z2 => by omega⟩
    show fX1_useRule_b100 c2 c3 c4 c5 c7 c8 _ (nI r) (nI (rw16 p g)) (nI (rw16 q w1)) f (nI i) c = _
    unfold fX1_useRule_b100
    have h16 : (16 : Int32) ≤ nI i := nI_le (a := 16) (b := i) (by omega) (by omega)
    rw [if_pos h16]
    rcases hf with rfl | rfl <;> rfl
  | succ k ih =>
    intro i n f x c g1 g2 hf ht
    obtain ⟨n, rfl⟩ : ∃ z, n = z + 1 := ⟨n - 1, by omega⟩
    have h16 : ¬ (16 : Int32) ≤ nI i := nI_ge (a := i) (b := 16) (by omega) (by omega)
    obtain ⟨s1, s2⟩ := ht (rw16 q w1 + i) (by omega)
    have hC := rw16_le (a := i) (s := w2) (by omega) hw2
    by_cases hE : x (rw16 q w1 + i) < 536870912
    · have hE2 : ¬ (536870912 : Int32) ≤ nI (x (rw16 q w1 + i)) := nI_ge (a := x (rw16 q w1 + i)) (b := 536870912) hE (by decide)
      have hxl : x (rw16 q w1 + i) ≤ 1000000 := by omega
      obtain ⟨b1, x1, d1, e1, t1, le1, z1, w3, cl1, sd1, iv1, pr1⟩ := e1_lowerRow (tgt := rw16 p g) (src := rw16 i w2) (more := x (rw16 q w1 + i) + 1) hA hC (by omega) ht
      obtain ⟨o1, o2⟩ := or_bz hf z1
      obtain ⟨b, x2, d, e2, t2, le2, hb, hb0, hcl, hsd, hinv, hpr⟩ := ih (i + 1) n (f ||| b1) x1 d1 (by omega) (by omega) o1 t1
      refine ⟨b, x2, d, ?_, t2, fun j => Nat.le_trans (le2 j) (le1 j), hb, ?_, ?_, ?_, fun I hI hs => hinv I (iv1 I hI (fun x' t q1 q2 q3 q4 => hs x' i t _ (by omega) q1 (q2 _) hE q3 q4)) hs, fun m z2 z3 z4 t z5 z6 => ?_⟩
      · show fX1_useRule_b100 c2 c3 c4 c5 c7 c8 _ (nI r) (nI (rw16 p g)) (nI (rw16 q w1)) f (nI i) c = _
        unfold fX1_useRule_b100 fX1_useRule_p153
        simp only [if_neg h16, nm, nI_add, inb_nI (j := rw16 q w1 + i) (n := 3072) (by omega) (by decide), bd, nI_clamp (n := rw16 q w1 + i) (by omega), s1, if_neg hE2, inb_nI (j := r) (n := 48) hr (by decide), nI_clamp (n := r) (by omega), e8, e1_row, ob_s, nI_1, e1]
        exact e2
      · constructor
        · intro h0
          obtain ⟨q1, q2⟩ := hb0.mp h0
          obtain ⟨q3, q4⟩ := o2.mp q1
          exact ⟨q3, fun j hj => (q2 j hj).trans (w3.mp q4 j hj)⟩
        · rintro ⟨q3, q4⟩
          have hs : ∀ j, j < 3072 → x1 j = x j := fun j hj => Nat.le_antisymm (le1 j) (by rw [← q4 j hj]; exact le2 j)
          exact hb0.mpr ⟨o2.mpr ⟨q3, w3.mpr hs⟩, fun j hj => (q4 j hj).trans (hs j hj).symm⟩
      · intro h0 m z2 z3 z4 t z5 z6
        obtain ⟨q1, q2⟩ := hb0.mp h0
        obtain ⟨q3, q4⟩ := o2.mp q1
        have same := w3.mp q4
        have hM := rw16_le (a := m) (s := w2) z3 hw2
        by_cases e : m = i
        · subst e; exact cl1 q4 t z5 z6
        · have := hcl h0 m (by omega) z3 (by rw [same _ (by omega)]; exact z4) t z5 (by rw [same _ (by omega)]; exact z6)
          rw [same _ (by omega), same _ (by omega), same _ (by omega)] at this
          exact this
      · intro y hy hcy
        refine hsd y (fun j hj => sd1 y hy (fun t v z5 z6 z7 => ?_) j hj) hcy
        have ha := hy (rw16 q w1 + i) (by omega)
        have h9 := hcy.2.2 rfl i (by omega) (Nat.lt_of_le_of_lt ha hE) t z5 (Nat.lt_of_le_of_lt z6 z7)
        exact Nat.le_trans h9 (Nat.le_min.mpr ⟨Nat.le_trans (Nat.min_le_left _ _) (Nat.add_le_add z6 (Nat.add_le_add_right ha 1)), Nat.min_le_right _ _⟩)
      · by_cases e : m = i
        · subst e; exact Nat.le_trans (le2 _) (pr1 t z5 z6)
        · exact Nat.le_trans (hpr m (by omega) z3 (Nat.lt_of_le_of_lt (le1 _) z4) t z5 (Nat.lt_of_le_of_lt (le1 _) z6)) (Nat.le_min.mpr ⟨Nat.le_trans (Nat.min_le_left _ _) (Nat.add_le_add (le1 _) (Nat.add_le_add_right (le1 _) 1)), Nat.min_le_right _ _⟩)
    · have hE2 : (536870912 : Int32) ≤ nI (x (rw16 q w1 + i)) := nI_le (a := 536870912) (b := x (rw16 q w1 + i)) (by omega) (by omega)
      obtain ⟨b, x2, d, e2, t2, le2, hb, hb0, hcl, hsd, hinv, hpr⟩ := ih (i + 1) n f x c (by omega) (by omega) hf ht
      refine ⟨b, x2, d, ?_, t2, le2, hb, hb0, ?_, hsd, hinv, fun m z2 z3 z4 => ?_⟩
      · show fX1_useRule_b100 c2 c3 c4 c5 c7 c8 _ (nI r) (nI (rw16 p g)) (nI (rw16 q w1)) f (nI i) c = _
        unfold fX1_useRule_b100 fX1_useRule_p153
        simp only [if_neg h16, nm, nI_add, inb_nI (j := rw16 q w1 + i) (n := 3072) (by omega) (by decide), bd, nI_clamp (n := rw16 q w1 + i) (by omega), s1, if_pos hE2, nI_1]
        exact e2
      · intro h0 m z2 z3 z4
        by_cases e : m = i
        · subst e; exact absurd z4 hE
        · exact hcl h0 m (by omega) z3 z4
      · by_cases e : m = i
        · subst e; exact absurd z4 hE
        · exact hpr m (by omega) z3 z4
/-- behind a rule's use its target is no more than it derives from the table before -/
def prR (x x2 : Nat → Nat) (p g q n w1 w2 : Nat) : Prop :=
  (n = 0 → x2 (rw16 p g + q) ≤ 1) ∧ (n = 1 → ∀ t, t < 16 → x (rw16 q w1 + t) < 536870912 → x2 (rw16 p g + t) ≤ min (x (rw16 q w1 + t) + 1) 1000000) ∧
  (n = 2 → ∀ m, m < 16 → x (rw16 q w1 + m) < 536870912 → ∀ t, t < 16 → x (rw16 m w2 + t) < 536870912 → x2 (rw16 p g + t) ≤ min (x (rw16 m w2 + t) + (x (rw16 q w1 + m) + 1)) 1000000)
/-- one lowering by a rule -/
def stR (p g q n w1 w2 : Nat) (x x2 : Nat → Nat) : Prop := (n = 0 ∧ x2 = lowA x (rw16 p g + q) 1) ∨ (n = 1 ∧ ∃ t, t < 16 ∧ x (rw16 q w1 + t) < 536870912 ∧ x2 = lowA x (rw16 p g + t) (x (rw16 q w1 + t) + 1)) ∨
  (n = 2 ∧ ∃ m t v, m < 16 ∧ t < 16 ∧ x (rw16 q w1 + m) ≤ v ∧ v < 536870912 ∧ x (rw16 m w2 + t) < 536870912 ∧ x2 = lowA x (rw16 p g + t) (x (rw16 m w2 + t) + (v + 1)))
theorem e1_useRule {c2 c3 c4 c5 c7 c8 : Nat → Int32} {r p g q n w1 w2 : Nat} (hr : r < 48) (hp : p < 8) (hg : g < 12) (hq : q < 8) (hn : n ≤ 2) (hw1 : w1 < 12) (hw2 : w2 < 12) (e2 : c2 r = nI p) (e3 : c3 r = nI g) (e4 : c4 r = nI n) (e5 : c5 r = nI q) (e7 : c7 r = nI w1) (e8 : c8 r = nI w2) {x : Nat → Nat} {c : Nat → Int32} (ht : tb x c) :
    ∃ (b : Int32) (x2 : Nat → Nat) (d : Nat → Int32), fX1_useRule (nI r) c2 c3 c4 c5 c c7 c8 = some (b, d) ∧ tb x2 d ∧ (∀ j, x2 j ≤ x j) ∧ (b = 0 ∨ b = 1) ∧ (b = 0 ↔ ∀ j, j < 3072 → x2 j = x j) ∧ (b = 0 → clR x p g q n w1 w2) ∧
      (∀ y : Nat → Nat, (∀ j, j < 3072 → y j ≤ x j) → clR y p g q n w1 w2 → ∀ j, j < 3072 → y j ≤ x2 j) ∧
      (∀ I : (Nat → Nat) → Prop, I x → (∀ x' x'', stR p g q n w1 w2 x' x'' → I x' → I x'') → I x2) ∧ prR x x2 p g q n w1 w2 := by
  have hA := rw16_le (a := p) (s := g) (by omega) hg
  have hB := rw16_le (a := q) (s := w1) (by omega) hw1
  have hi := inb_nI (j := r) (n := 48) hr (by decide)
  have hc := nI_clamp (n := r) (by omega)
  have bzb : ∀ b : Int32, (b = 0 ∨ b = 1) → bz b = true := fun b h => by rcases h with rfl | rfl <;> rfl
  have hn3 : n = 0 ∨ n = 1 ∨ n = 2 := by omega
  rcases hn3 with rfl | rfl | rfl
  · obtain ⟨b, d, e, t, z, w⟩ := e1_lower (at' := rw16 p g + q) (v := 1) (by omega) (by decide) ht
    refine ⟨b, _, d, ?_, t, fun j => lowA_le _ _ _ _, z, ?_, ?_, ?_, fun I hI hs => hs x _ (Or.inl ⟨rfl, rfl⟩) hI, fun _ => ?_, fun k => absurd k (by decide), fun k => absurd k (by decide)⟩
    · unfold fX1_useRule
      simp only [nm, hi, bd, hc, e2, e3, e1_row, ob_s, e4, if_pos (show nI 0 = 0 from rfl), e5, nI_add]
      have e' : fX1_lower (nI (rw16 p g + q)) 1 c = some (b, d) := e
      rw [e', ob_s]
      simp only [bzb b z]
    · rw [w]
      constructor
      · intro h j _
        unfold lowA
        by_cases k : j = rw16 p g + q
        · subst k; rw [if_pos rfl]; exact Nat.min_eq_left h
        · rw [if_neg k]
      · intro h
        have h2 := h (rw16 p g + q) (by omega)
        unfold lowA at h2
        rw [if_pos rfl] at h2
        rw [← h2]; exact Nat.min_le_right _ _
    · intro h
      exact ⟨fun _ => Nat.le_trans (w.mp h) (Nat.min_le_left _ _), fun k => absurd k (by decide), fun k => absurd k (by decide)⟩
    · intro y hy hcy j hj
      unfold lowA
      by_cases k : j = rw16 p g + q
      · subst k
        rw [if_pos rfl]
        exact Nat.le_min.mpr ⟨hy _ hj, hcy.1 rfl⟩
      · rw [if_neg k]; exact hy j hj
    · unfold lowA
      rw [if_pos rfl]
      exact Nat.le_trans (Nat.min_le_right _ _) (Nat.min_le_left _ _)
  · obtain ⟨b, x2, d, e, t, le, z, w, cl, sd, iv, pr9⟩ := e1_lowerRow (tgt := rw16 p g) (src := rw16 q w1) (more := 1) hA hB (by decide) ht
    refine ⟨b, x2, d, ?_, t, le, z, w, fun h => ⟨fun k => absurd k (by decide), fun _ => cl h, fun k => absurd k (by decide)⟩, fun y hy hcy => sd y hy (fun t v z5 z6 z7 => ?_), fun I hI hs => iv I hI (fun x' t q1 _ q3 q4 => hs x' _ (Or.inr (Or.inl ⟨rfl, t, q1, q3, rfl⟩)) q4), fun k => absurd k (by decide), fun _ => pr9, fun k => absurd k (by decide)⟩
    · unfold fX1_useRule
      simp only [nm, hi, bd, hc, e2, e3, e1_row, ob_s, e4, if_neg (show ¬ nI 1 = 0 by decide), if_pos (show nI 1 = 1 from rfl), e5, e7]
      have e' : fX1_lowerRow (nI (rw16 p g)) (nI (rw16 q w1)) 1 c = some (b, d) := e
      rw [e', ob_s]
      simp only [bzb b z]
    · have h9 := hcy.2.1 rfl t z5 (Nat.lt_of_le_of_lt z6 z7)
      exact Nat.le_trans h9 (Nat.le_min.mpr ⟨Nat.le_trans (Nat.min_le_left _ _) (Nat.add_le_add_right z6 1), Nat.min_le_right _ _⟩)
  · obtain ⟨b, x2, d, e, t, le, z, w, cl, sd, iv, pr9⟩ := l100_l (c2 := c2) (c3 := c3) (c4 := c4) (c5 := c5) (c7 := c7) hr hp hg hq hw1 hw2 e8 16 0 FU 0 x c (by omega) (FU_gt (by decide)) (Or.inl rfl) ht
    refine ⟨b, x2, d, ?_, t, le, z, ⟨fun k => (w.mp k).2, fun k => w.mpr ⟨rfl, k⟩⟩, fun h => ⟨fun k => absurd k (by decide), fun k => absurd k (by decide), fun _ m z1 => cl h m (Nat.zero_le _) z1⟩, sd, fun I hI hs => iv I hI (fun x' m t v q1 q2 q3 q4 q5 q6 => hs x' _ (Or.inr (Or.inr ⟨rfl, m, t, v, q1, q2, q3, q4, q5, rfl⟩)) q6), fun k => absurd k (by decide), fun k => absurd k (by decide), fun _ m z1 => pr9 m (Nat.zero_le _) z1⟩
    unfold fX1_useRule
    simp only [nm, hi, bd, hc, e2, e3, e1_row, ob_s, e4, if_neg (show ¬ nI 2 = 0 by decide), if_neg (show ¬ nI 2 = 1 by decide), e5, e7]
    exact e
