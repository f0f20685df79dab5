/-! ===== pure rows 45: rows of steps are lowered (class) ===== -/
def tbS (N : Nat) (x : Nat → Nat) (c : Nat → Int32) : Prop := ∀ j, j < N → c j = nI (x j) ∧ vl (x j)
/-- a row of nine at r, no higher than what K derives -/
def rowOk (N r : Nat) (x x2 : Nat → Nat) (f f2 : Int32) (K : (Nat → Nat) → Nat → Nat) : Prop :=
  (∀ j, j < N → x2 j ≤ x j) ∧ (∀ j, j < N → (j < r ∨ r + 9 ≤ j) → x2 j = x j) ∧ (f2 = 0 ∨ f2 = 1) ∧ (f2 = 0 ↔ f = 0 ∧ ∀ j, j < N → x2 j = x j) ∧ (∀ col, col < 9 → x2 (r + col) ≤ K x col) ∧ ∀ y : Nat → Nat, (∀ j, j < N → y j ≤ x j) → (∀ col, col < 9 → y (r + col) ≤ K y col) → ∀ j, j < N → y j ≤ x2 j
def monK (N : Nat) (K : (Nat → Nat) → Nat → Nat) : Prop := ∀ x y : Nat → Nat, (∀ j, j < N → x j ≤ y j) → ∀ col, col < 9 → K x col ≤ K y col
theorem rowOk_refl {N r : Nat} {x : Nat → Nat} {f : Int32} (hf : f = 0 ∨ f = 1) (hv : ∀ j, j < N → vl (x j)) (hr : r + 9 ≤ N) : rowOk N r x x f f (fun _ _ => 536870912) :=
  ⟨fun _ _ => Nat.le_refl _, fun _ _ _ => rfl, hf, ⟨fun h => ⟨h, fun _ _ => rfl⟩, fun h => h.1⟩, fun col hc => vl_lt (hv _ (by omega)), fun _ h _ => h⟩
theorem rowOk_trans {N r : Nat} {x x2 x3 : Nat → Nat} {f f2 f3 : Int32} {K K2 : (Nat → Nat) → Nat → Nat} (hr : r + 9 ≤ N) (hK2 : monK N K2) (h1 : rowOk N r x x2 f f2 K) (h2 : rowOk N r x2 x3 f2 f3 K2) : rowOk N r x x3 f f3 (fun z col => min (K z col) (K2 z col)) := by
  obtain ⟨a1, a2, a3, a4, a5, a6⟩ := h1
  obtain ⟨b1, b2, b3, b4, b5, b6⟩ := h2
  refine ⟨fun j hj => Nat.le_trans (b1 j hj) (a1 j hj), fun j hj h => (b2 j hj h).trans (a2 j hj h), b3, ⟨fun h => ?_, fun h => ?_⟩, fun col hc => Nat.le_min.mpr ⟨Nat.le_trans (b1 _ (by omega)) (a5 col hc), Nat.le_trans (b5 col hc) (hK2 x2 x a1 col hc)⟩, fun y h1 h2 => b6 y (a6 y h1 (fun col hc => Nat.le_trans (h2 col hc) (Nat.min_le_left _ _))) (fun col hc => Nat.le_trans (h2 col hc) (Nat.min_le_right _ _))⟩
  · obtain ⟨y1, y2⟩ := b4.mp h
    obtain ⟨z1, z2⟩ := a4.mp y1
    exact ⟨z1, fun j hj => (y2 j hj).trans (z2 j hj)⟩
  · obtain ⟨y1, y2⟩ := h
    have e : ∀ j, j < N → x2 j = x j := fun j hj => Nat.le_antisymm (a1 j hj) (by rw [← y2 j hj]; exact b1 j hj)
    exact b4.mpr ⟨a4.mpr ⟨y1, e⟩, fun j hj => (y2 j hj).trans (e j hj).symm⟩
theorem rowOk_K {N r : Nat} {x x2 : Nat → Nat} {f f2 : Int32} {K K2 : (Nat → Nat) → Nat → Nat} (h : rowOk N r x x2 f f2 K) (hK : ∀ z col, col < 9 → K z col = K2 z col) : rowOk N r x x2 f f2 K2 := by
  obtain ⟨a1, a2, a3, a4, a5, a6⟩ := h
  exact ⟨a1, a2, a3, a4, fun col hc => by rw [← hK x col hc]; exact a5 col hc, fun y h1 h2 => a6 y h1 (fun col hc => by rw [hK y col hc]; exact h2 col hc)⟩
theorem rowOk_or {N r : Nat} {x x2 : Nat → Nat} {f b : Int32} {K : (Nat → Nat) → Nat → Nat} (hf : f = 0 ∨ f = 1) (h : rowOk N r x x2 0 b K) : rowOk N r x x2 f (f ||| b) K := by
  obtain ⟨a1, a2, a3, a4, a5, a6⟩ := h
  obtain ⟨o1, o2⟩ := or_bz hf a3
  refine ⟨a1, a2, o1, ⟨fun h => ?_, fun h => ?_⟩, a5, a6⟩
  · obtain ⟨y1, y2⟩ := o2.mp h
    exact ⟨y1, (a4.mp y2).2⟩
  · exact o2.mpr ⟨h.1, a4.mpr ⟨rfl, h.2⟩⟩
/-- one column -/
theorem c_low {N r col v : Nat} (hN : N ≤ 11520) (hr : r + 9 ≤ N) (hcol : col < 9) (hv : v < 2 ^ 30) {x : Nat → Nat} {c : Nat → Int32} (ht : tbS N x c) :
    ∃ (b : Int32) (x2 : Nat → Nat) (d : Nat → Int32), fX0_lower (nI (r + col)) (nI v) c = some (b, d) ∧ tbS N x2 d ∧ rowOk N r x x2 0 b (fun _ z => if z = col then sm v 0 else 536870912) := by
  obtain ⟨h1, h2⟩ := ht (r + col) (by omega)
  have hvl := vl_lt h2
  unfold fX0_lower
  by_cases hI : v < 536870912
  · have k1 : nI v < (536870912 : Int32) := nI_lt (a := v) (b := 536870912) hI (by decide)
    have esm : sm v 0 = min v 1000000 := by rw [sm_fin hI (by decide)]; rfl
    simp only [if_pos k1, nm, capI hv, inb_nI (j := r + col) (n := 11520) (by omega) (by decide), bd, nI_clamp (n := r + col) (by omega), h1]
    have hm : min v 1000000 ≤ 1000000 := Nat.min_le_right _ _
    by_cases h : min v 1000000 < x (r + col)
    · have h3 : nI (min v 1000000) < nI (x (r + col)) := nI_lt h (by omega)
      rw [if_pos h3]
      refine ⟨1, fun j => if j = r + col then min v 1000000 else x j, _, rfl, fun j hj => ?_, fun j hj => ?_, fun j hj hout => ?_, Or.inr rfl, ⟨fun k => absurd k n10, fun k => ?_⟩, fun z hz => ?_, fun y h1 h2 j hj => ?_⟩
      · by_cases e : j = r + col
        · simp only [e, if_pos, upd_at]
          exact ⟨trivial, Or.inl hm⟩
        · simp only [if_neg e, upd_ne e]
          exact ht j hj
      · by_cases e : j = r + col
        · simp only [e, if_pos]; omega
        · simp only [if_neg e]; exact Nat.le_refl _
      · have e : ¬ j = r + col := by omega
        simp only [if_neg e]
      · have := k.2 (r + col) (by omega)
        simp only [if_pos] at this
        omega
      · by_cases e : z = col
        · simp only [e, if_pos, esm]; exact Nat.le_refl _
        · have e2 : ¬ r + z = r + col := by omega
          simp only [if_neg e, if_neg e2]
          exact vl_lt (ht _ (by omega)).2
      · by_cases e : j = r + col
        · have := h2 col hcol
          simp only [if_pos, esm] at this
          simp only [e, if_pos]
          exact this
        · simp only [if_neg e]; exact h1 j hj
    · have h3 : ¬ nI (min v 1000000) < nI (x (r + col)) := nI_nlt (by omega) (by omega)
      rw [if_neg h3]
      refine ⟨0, x, _, rfl, ht, fun _ _ => Nat.le_refl _, fun _ _ _ => rfl, Or.inl rfl, ⟨fun _ => ⟨rfl, fun _ _ => rfl⟩, fun _ => rfl⟩, fun z hz => ?_, fun y h1 _ => h1⟩
      by_cases e : z = col
      · simp only [e, if_pos, esm]; omega
      · simp only [if_neg e]; exact vl_lt (ht _ (by omega)).2
  · have k1 : ¬ nI v < (536870912 : Int32) := nI_nlt (a := v) (b := 536870912) (by omega) (by omega)
    rw [if_neg k1]
    refine ⟨0, x, _, rfl, ht, fun _ _ => Nat.le_refl _, fun _ _ _ => rfl, Or.inl rfl, ⟨fun _ => ⟨rfl, fun _ _ => rfl⟩, fun _ => rfl⟩, fun z hz => ?_, fun y h1 _ => h1⟩
    by_cases e : z = col
    · have esm : sm v 0 = 536870912 := by unfold sm; rw [if_neg (fun q => hI q.1)]
      simp only [e, if_pos, esm]; exact hvl
    · simp only [if_neg e]; exact vl_lt (ht _ (by omega)).2
theorem smc {a b : Nat} : sm a b = sm b a := by
  unfold sm
  by_cases h : a < 536870912 ∧ b < 536870912
  · rw [if_pos h, if_pos ⟨h.2, h.1⟩, Nat.add_comm]
  · rw [if_neg h, if_neg (fun k => h ⟨k.2, k.1⟩)]
theorem and7 : ∀ st : Nat, st < 32 → nI st &&& 7 = nI (st % 8) := by decide +kernel
theorem and24 : ∀ st : Nat, st < 32 → nI st &&& 24 = nI (8 * (st / 8)) := by decide +kernel
theorem e0_row (s st : Nat) : fX0_row (nI s) (nI st) = some (nI (rI s st 0), ()) := by
  unfold fX0_row rI
  have h1 : nI s * 32 = nI (s * 32) := pk_mul s 32
  have h2 : nI (s * 32 + st) * 9 = nI ((s * 32 + st) * 9) := pk_mul _ 9
  simp only [nm, h1, nI_add, h2, Nat.add_zero]
theorem rI_col (s st col : Nat) : rI s st col = rI s st 0 + col := by unfold rI; omega
theorem tgt_lt {z : Nat → Nat} {p st col : Nat} (h : p < 40) : tgt z p st col = z (rI p st col) := by unfold tgt; rw [if_pos h]
theorem tgt_40 (z : Nat → Nat) (st col : Nat) : tgt z 40 st col = if col = st % 8 then 0 else 536870912 := by unfold tgt; rw [if_neg (by decide), if_pos rfl]
theorem tgt_41 (z : Nat → Nat) (st col : Nat) : tgt z 41 st col = if col = 8 then 0 else 536870912 := by unfold tgt; rw [if_neg (by decide), if_neg (by decide), if_pos rfl]
theorem tgt_42 (z : Nat → Nat) (st col : Nat) : tgt z 42 st col = 536870912 := by unfold tgt; rw [if_neg (by decide), if_neg (by decide), if_neg (by decide)]
/-- lowerRow: no higher than that of the point, and some steps more -/
theorem c_lowRow {S r p st more : Nat} (hS : S ≤ 40) (hr : r + 9 ≤ 288 * S) (hp : p ≤ 42) (hpS : p < 40 → p < S) (hst : st < 32) (hm : more ≤ 1000001) {x : Nat → Nat} {c : Nat → Int32} (ht : tbS (288 * S) x c) :
    ∃ (b : Int32) (x2 : Nat → Nat) (d : Nat → Int32), fX0_lowerRow (nI r) (pI p) (nI st) (nI more) c = some (b, d) ∧ tbS (288 * S) x2 d ∧ rowOk (288 * S) r x x2 0 b (fun z col => sm (tgt z p st col) more) := by
  obtain ⟨fu, hfu, hg⟩ := fu_any
  have hN : 288 * S ≤ 11520 := by omega
  have bzb : ∀ b : Int32, (b = 0 ∨ b = 1) → bz b = true := fun b h => by rcases h with rfl | rfl <;> rfl
  have inf : ∀ z, sm 536870912 z = 536870912 := fun z => by unfold sm; rw [if_neg (by omega)]
  have z0 : ∀ z, sm 0 z = sm z 0 := fun z => smc
  unfold fX0_lowerRow
  by_cases h40 : p < 40
  · have hneg := nI_pos (n := p) (by omega)
    have n1 : ¬ nI p = -1 := fun z => by rw [z] at hneg; exact hneg (by decide)
    have n2 : ¬ nI p = -2 := fun z => by rw [z] at hneg; exact hneg (by decide)
    rw [pI_lt h40, if_neg n1, if_neg n2, if_pos (nI_pos' (by omega)), e0_row, ob_s, hfu]
    have hsrc : rI p st 0 + 9 ≤ 288 * S := by have := hpS h40; unfold rI; omega
    have key : ∀ (k i n : Nat) (f : Int32) (x1 : Nat → Nat) (c1 : Nat → Int32), i + k = 9 → k < n → (f = 0 ∨ f = 1) → tbS (288 * S) x1 c1 →
        ∃ (b : Int32) (x2 : Nat → Nat) (d : Nat → Int32), fX0_lowerRow_l54 n (nI r) (nI more) (nI (rI p st 0)) f (nI i) c1 = some (b, d) ∧ tbS (288 * S) x2 d ∧ rowOk (288 * S) r x1 x2 f b (fun z col => if i ≤ col then sm (z (rI p st 0 + col)) more else 536870912) := by
      intro k
      induction k with
      | zero =>
        intro i n f x1 c1 g1 g2 hf ht1
        obtain ⟨n, rfl⟩ : ∃ z, n = z + 1 := ⟨n - 1, by omega⟩
        refine ⟨f, x1, c1, ?_, ht1, rowOk_K (rowOk_refl hf (fun j hj => (ht1 j hj).2) hr) (fun z col hc => by rw [if_neg (by omega)])⟩
        show fX0_lowerRow_b54 _ (nI r) (nI more) (nI (rI p st 0)) f (nI i) c1 = _
        unfold fX0_lowerRow_b54
        have h9 : (9 : Int32) ≤ nI i := nI_le (a := 9) (b := i) (by omega) (by omega)
        rw [if_pos h9, bd_eq _ (bzb f hf)]
      | succ k ih =>
        intro i n f x1 c1 g1 g2 hf ht1
        obtain ⟨n, rfl⟩ : ∃ z, n = z + 1 := ⟨n - 1, by omega⟩
        have h9 : ¬ (9 : Int32) ≤ nI i := nI_ge (a := i) (b := 9) (by omega) (by omega)
        obtain ⟨s1, s2⟩ := ht1 (rI p st 0 + i) (by omega)
        have s3 := vl_lt s2
        obtain ⟨b1, x2, d1, r1, r2, r3⟩ := c_low (r := r) (col := i) (v := x1 (rI p st 0 + i) + more) hN hr (by omega) (by omega) ht1
        have r4 := rowOk_or hf r3
        obtain ⟨b, x3, d, t1, t2, t3⟩ := ih (i + 1) n (f ||| b1) x2 d1 (by omega) (by omega) r4.2.2.1 r2
        have mon : monK (288 * S) (fun z col => if i + 1 ≤ col then sm (z (rI p st 0 + col)) more else 536870912) := by
          intro y z hyz col hc
          by_cases q : i + 1 ≤ col
          · simp only [if_pos q]; exact sm_mono (hyz _ (by omega)) (Nat.le_refl _)
          · simp only [if_neg q]; exact Nat.le_refl _
        refine ⟨b, x3, d, ?_, t2, ?_⟩
        · show fX0_lowerRow_b54 _ (nI r) (nI more) (nI (rI p st 0)) f (nI i) c1 = _
          unfold fX0_lowerRow_b54
          rw [if_neg h9, nm_q, nI_add, nm_q, nI_add, bd_eq _ (inb_nI (j := rI p st 0 + i) (n := 11520) (by omega) (by decide)), nm_q, nI_clamp (n := rI p st 0 + i) (by omega), s1, nm_q, nI_add, r1, ob_s, nm_q, nm_q, nI_1]
          exact t1
        · obtain ⟨u1, u2, u3, u4, u5, u6⟩ := rowOk_trans hr mon r4 t3
          have esm : sm (x1 (rI p st 0 + i) + more) 0 = sm (x1 (rI p st 0 + i)) more ∨ x1 (rI p st 0 + i) = 536870912 := by
            rcases s2 with q | q
            · left
              rw [sm_fin (by omega) (by decide), sm_fin (by omega) (by omega)]; rfl
            · exact Or.inr q
          refine ⟨u1, u2, u3, u4, fun col hc => ?_, fun y y1 y2 => u6 y y1 (fun col hc => Nat.le_min.mpr ⟨?_, ?_⟩)⟩
          · show x3 (r + col) ≤ if i ≤ col then sm (x1 (rI p st 0 + col)) more else 536870912
            by_cases q : i ≤ col
            · rw [if_pos q]
              by_cases e : col = i
              · have w := Nat.le_trans (u5 col hc) (Nat.min_le_left _ _)
                simp only [e, if_pos] at w ⊢
                rcases esm with q2 | q2
                · rw [q2] at w; exact w
                · rw [q2, inf]
                  have := u1 (r + i) (by omega)
                  exact Nat.le_trans this (vl_lt (ht1 _ (by omega)).2)
              · have w := Nat.le_trans (u5 col hc) (Nat.min_le_right _ _)
                simp only [if_pos (show i + 1 ≤ col by omega)] at w
                exact w
            · rw [if_neg q]
              exact Nat.le_trans (u1 _ (by omega)) (vl_lt (ht1 _ (by omega)).2)
          · by_cases e : col = i
            · simp only [e, if_pos]
              have w := y2 i (by omega)
              simp only [if_pos (Nat.le_refl i)] at w
              rcases esm with q2 | q2
              · rw [q2]
                exact Nat.le_trans w (sm_mono (y1 _ (by omega)) (Nat.le_refl _))
              · have e3 : sm (x1 (rI p st 0 + i) + more) 0 = 536870912 := by rw [q2]; unfold sm; rw [if_neg (by omega)]
                rw [e3]
                exact Nat.le_trans (y1 _ (by omega)) (vl_lt (ht1 _ (by omega)).2)
            · simp only [if_neg e]
              exact Nat.le_trans (y1 _ (by omega)) (vl_lt (ht1 _ (by omega)).2)
          · have w := y2 col hc
            by_cases q : i + 1 ≤ col
            · simp only [if_pos q]
              simp only [if_pos (show i ≤ col by omega)] at w
              exact w
            · simp only [if_neg q]
              exact Nat.le_trans (y1 _ (by omega)) (vl_lt (ht1 _ (by omega)).2)
    obtain ⟨b, x2, d, t1, t2, t3⟩ := key 9 0 fu 0 x c (by omega) (by omega) (Or.inl rfl) ht
    refine ⟨b, x2, d, t1, t2, rowOk_K t3 (fun z col hc => ?_)⟩
    rw [if_pos (Nat.zero_le _), tgt_lt h40, ← rI_col]
  · by_cases h0 : p = 40
    · subst h0
      rw [pI_40, if_pos rfl, nm_q, and7 st hst, nm_q, nI_add]
      obtain ⟨b1, x2, d1, r1, r2, r3⟩ := c_low (r := r) (col := st % 8) (v := more) hN hr (by omega) (by omega) ht
      rw [r1, ob_s, bd_eq _ (bzb b1 r3.2.2.1)]
      refine ⟨b1, x2, d1, rfl, r2, rowOk_K r3 (fun z col hc => ?_)⟩
      rw [tgt_40]
      by_cases e : col = st % 8
      · rw [if_pos e, if_pos e, z0]
      · rw [if_neg e, if_neg e, inf]
    · by_cases h1 : p = 41
      · subst h1
        rw [pI_41, if_neg (by decide), if_pos rfl, nm_q]
        obtain ⟨b1, x2, d1, r1, r2, r3⟩ := c_low (r := r) (col := 8) (v := more) hN hr (by omega) (by omega) ht
        have e8 : nI r + 8 = nI (r + 8) := nI_add r 8
        rw [e8, r1, ob_s, bd_eq _ (bzb b1 r3.2.2.1)]
        refine ⟨b1, x2, d1, rfl, r2, rowOk_K r3 (fun z col hc => ?_)⟩
        rw [tgt_41]
        by_cases e : col = 8
        · rw [if_pos e, if_pos e, z0]
        · rw [if_neg e, if_neg e, inf]
      · have h2 : p = 42 := by omega
        subst h2
        rw [pI_42, if_neg (by decide), if_neg (by decide), if_neg (by decide)]
        refine ⟨0, x, c, rfl, ht, rowOk_K (rowOk_refl (Or.inl rfl) (fun j hj => (ht j hj).2) hr) (fun z col hc => ?_)⟩
        rw [tgt_42, inf]
