/-! ===== pure rows 19: sums and the tower (class) ===== -/
theorem nm_q {α β : Type} (e : α) (k : α → β) : nm e k = k e := Eq.trans rfl rfl
def vl (v : Nat) : Prop := v ≤ 1000000 ∨ v = 536870912
def sm (a b : Nat) : Nat := if a < 536870912 ∧ b < 536870912 then min (a + b) 1000000 else 536870912
theorem sm_vl {a b : Nat} : vl (sm a b) := by
  unfold sm vl
  by_cases h : a < 536870912 ∧ b < 536870912
  · rw [if_pos h]; exact Or.inl (Nat.min_le_right _ _)
  · rw [if_neg h]; exact Or.inr rfl
theorem sm_ge {a b : Nat} (ha : vl a) : a ≤ sm a b := by
  unfold sm vl at *
  by_cases h : a < 536870912 ∧ b < 536870912
  · rw [if_pos h]; exact Nat.le_min.mpr ⟨by omega, by omega⟩
  · rw [if_neg h]; omega
def minN (f : Nat → Nat) : Nat → Nat
  | 0 => 536870912
  | n + 1 => min (minN f n) (f n)
theorem minN_s (f : Nat → Nat) (n : Nat) : minN f (n + 1) = min (minN f n) (f n) := rfl
theorem minN_vl {f : Nat → Nat} (hf : ∀ i, vl (f i)) : ∀ n, vl (minN f n) := by
  intro n
  induction n with
  | zero => exact Or.inr rfl
  | succ n ih =>
    show vl (min (minN f n) (f n))
    rcases Nat.le_total (minN f n) (f n) with h | h
    · rw [Nat.min_eq_left h]; exact ih
    · rw [Nat.min_eq_right h]; exact hf n
theorem minN_congr {f g : Nat → Nat} : ∀ n, (∀ i, i < n → f i = g i) → minN f n = minN g n := by
  intro n
  induction n with
  | zero => intro _; rfl
  | succ n ih =>
    intro h
    show min (minN f n) (f n) = min (minN g n) (g n)
    rw [ih (fun i hi => h i (by omega)), h n (by omega)]
theorem minN_le {f : Nat → Nat} : ∀ n i, i < n → minN f n ≤ f i := by
  intro n
  induction n with
  | zero => intro i h; omega
  | succ n ih =>
    intro i h
    show min (minN f n) (f n) ≤ f i
    by_cases e : i = n
    · subst e; exact Nat.min_le_right _ _
    · exact Nat.le_trans (Nat.min_le_left _ _) (ih i (by omega))
theorem minN_at {f : Nat → Nat} : ∀ n, minN f n = 536870912 ∨ ∃ i, i < n ∧ minN f n = f i := by
  intro n
  induction n with
  | zero => exact Or.inl rfl
  | succ n ih =>
    show min (minN f n) (f n) = _ ∨ ∃ i, i < n + 1 ∧ min (minN f n) (f n) = f i
    rcases Nat.le_total (minN f n) (f n) with h | h
    · rw [Nat.min_eq_left h]
      rcases ih with h2 | ⟨i, h2, h3⟩
      · exact Or.inl h2
      · exact Or.inr ⟨i, by omega, h3⟩
    · rw [Nat.min_eq_right h]; exact Or.inr ⟨n, by omega, rfl⟩
theorem vl_lt {v : Nat} (h : vl v) : v ≤ 536870912 := by unfold vl at h; omega
theorem c_sum {a b : Nat} (ha : vl a) (hb : vl b) : fX10_sum (nI a) (nI b) = some (nI (sm a b), ()) := by
  have a1 := vl_lt ha
  have b1 := vl_lt hb
  unfold fX10_sum fX10_sum_p12 sm
  by_cases h1 : a < 536870912
  · have k1 : ¬ (536870912 : Int32) ≤ nI a := nI_ge (a := a) (b := 536870912) h1 (by decide)
    rw [if_neg k1]
    by_cases h2 : b < 536870912
    · have k2 : nI b < (536870912 : Int32) := nI_lt (a := b) (b := 536870912) h2 (by decide)
      rw [if_pos k2, if_pos ⟨h1, h2⟩]
      unfold vl at ha hb
      simp only [nm, nI_add, capI (show a + b < 2 ^ 30 by omega)]
    · have k2 : ¬ nI b < (536870912 : Int32) := nI_nlt (a := b) (b := 536870912) (by omega) (by omega)
      rw [if_neg k2, if_neg (fun k => h2 k.2)]; rfl
  · have k1 : (536870912 : Int32) ≤ nI a := nI_le (a := 536870912) (b := a) (by omega) (by omega)
    rw [if_pos k1, if_neg (fun k => h1 k.1)]; rfl
theorem tb_vl {x : Nat → Nat} {c : Nat → Int32} (h : tb x c) {j : Nat} (hj : j < 3072) : c j = nI (x j) ∧ vl (x j) := h j hj
def thr (x : Nat → Nat) (t : Nat → Nat) (a s : Nat) : Nat := minN (fun b => sm (x (rw16 a s + b)) (t b)) 16
theorem thr_vl {x t : Nat → Nat} {a s : Nat} : vl (thr x t a s) := minN_vl (fun _ => sm_vl) 16
theorem minI {a b : Nat} (ha : vl a) (hb : vl b) : (if nI a < nI b then nI a else nI b) = nI (min b a) := by
  have a1 := vl_lt ha
  have b1 := vl_lt hb
  by_cases h : a < b
  · rw [if_pos (nI_lt h (by omega)), Nat.min_eq_right (by omega)]
  · rw [if_neg (nI_nlt (by omega) (by omega)), Nat.min_eq_left (by omega)]
theorem c_thr {a s h n3 : Nat} (ha : a < 16) (hs : s < 12) {x t : Nat → Nat} {c2 c3 : Nat → Int32} (hx : tb x c2) (ht : ∀ b, b < 16 → c3 (16 * h + b) = nI (t b) ∧ vl (t b)) (hn : 16 * h + 16 ≤ n3) (hn3 : n3 < 2 ^ 31) :
    fX7_stepsThrough (nI a) (nI s) n3 (nI h) c2 c3 = some (nI (thr x t a s), ()) := by
  have hA := rw16_le ha hs
  have key : ∀ (k i n : Nat), i + k = 16 → k < n → fX7_stepsThrough_l22 n3 (nI h) c2 c3 n (nI (rw16 a s)) (nI (16 * h)) (nI (minN (fun b => sm (x (rw16 a s + b)) (t b)) i)) (nI i) = some (nI (thr x t a s), ()) := by
    intro k
    induction k with
    | zero =>
      intro i n g1 g2
      obtain ⟨n, rfl⟩ : ∃ z, n = z + 1 := ⟨n - 1, by omega⟩
      show fX7_stepsThrough_b22 n3 (nI h) c2 c3 _ (nI (rw16 a s)) (nI (16 * h)) (nI (minN (fun b => sm (x (rw16 a s + b)) (t b)) i)) (nI i) = _
      unfold fX7_stepsThrough_b22
      have h16 : (16 : Int32) ≤ nI i := nI_le (a := 16) (b := i) (by omega) (by omega)
      rw [if_pos h16]
      have e : i = 16 := by omega
      subst e; unfold thr; rfl
    | succ k ih =>
      intro i n g1 g2
      obtain ⟨n, rfl⟩ : ∃ z, n = z + 1 := ⟨n - 1, by omega⟩
      have h16 : ¬ (16 : Int32) ≤ nI i := nI_ge (a := i) (b := 16) (by omega) (by omega)
      have hvm : vl (minN (fun b => sm (x (rw16 a s + b)) (t b)) i) := minN_vl (fun _ => sm_vl) i
      obtain ⟨s1, s2⟩ := tb_vl hx (show rw16 a s + i < 3072 by omega)
      obtain ⟨t1, t2⟩ := ht i (by omega)
      show fX7_stepsThrough_b22 n3 (nI h) c2 c3 _ (nI (rw16 a s)) (nI (16 * h)) (nI (minN (fun b => sm (x (rw16 a s + b)) (t b)) i)) (nI i) = _
      unfold fX7_stepsThrough_b22 fX7_stepsThrough_p78
      simp only [if_neg h16, nm, nI_add, inb_nI (j := rw16 a s + i) (n := 3072) (by omega) (by decide), bd, nI_clamp (n := rw16 a s + i) (by omega), s1]
      by_cases hle : minN (fun b => sm (x (rw16 a s + b)) (t b)) i ≤ x (rw16 a s + i)
      · rw [if_pos (nI_le hle (by have := vl_lt s2; omega)), nI_1]
        have e : minN (fun b => sm (x (rw16 a s + b)) (t b)) i = minN (fun b => sm (x (rw16 a s + b)) (t b)) (i + 1) := by
          rw [minN_s]
          exact (Nat.min_eq_left (Nat.le_trans hle (sm_ge s2))).symm
        rw [e]
        exact ih (i + 1) n (by omega) (by omega)
      · rw [if_neg (nI_ge (by omega) (by have := vl_lt hvm; omega))]
        simp only [inb_nI (j := 16 * h + i) (n := n3) (by omega) hn3, nI_clamp (n := 16 * h + i) (by omega), t1, c_sum s2 t2, ob_s, minI sm_vl hvm, nI_1]
        have e := ih (i + 1) n (by omega) (by omega)
        rw [minN_s] at e
        exact e
  unfold fX7_stepsThrough
  have e16 : nI h * 16 = nI (16 * h) := by rw [Nat.mul_comm 16 h]; exact pk_mul h 16
  have e5 : (536870912 : Int32) = nI (minN (fun b => sm (x (rw16 a s + b)) (t b)) 0) := rfl
  have k0 := key 16 0 FU (by omega) (FU_gt (by decide))
  rw [← e5] at k0
  rw [e1_row, ob_s, nm_q, e16]
  exact k0
/-- the tower's numbers -/
def tw (E : Nat → Bool) (x : Nat → Nat) (w : Nat → Nat) : Nat → Nat → Nat
  | 0 => fun a => if E a then 0 else 536870912
  | k + 1 => fun a => thr x (tw E x w k) a (w k)
theorem tw_vl (E : Nat → Bool) (x w : Nat → Nat) (k a : Nat) : vl (tw E x w k a) := by
  cases k with
  | zero =>
    show vl (if E a then 0 else 536870912)
    by_cases h : E a = true
    · rw [if_pos h]; exact Or.inl (by decide)
    · rw [if_neg h]; exact Or.inr rfl
  | succ k => exact thr_vl
theorem tw_congr {E : Nat → Bool} {x w w2 : Nat → Nat} : ∀ k, (∀ i, i < k → w i = w2 i) → tw E x w k = tw E x w2 k := by
  intro k
  induction k with
  | zero => intro _; rfl
  | succ k ih =>
    intro h
    show (fun a => thr x (tw E x w k) a (w k)) = (fun a => thr x (tw E x w2 k) a (w2 k))
    rw [ih (fun i hi => h i (by omega)), h k (by omega)]
/-- the rows of a tower -/
def TW (E : Nat → Bool) (x w : Nat → Nat) (H : Nat) (c3 c4 : Nat → Int32) : Prop := (∀ h, h ≤ H → ∀ a, a < 16 → c3 (16 * h + a) = nI (tw E x w h a)) ∧ ∀ h, h < H → c4 h = nI (w h) ∧ w h < 12
def wset (w : Nat → Nat) (k s : Nat) : Nat → Nat := fun j => if j = k then s else w j
theorem tw_wset {E : Nat → Bool} {x w : Nat → Nat} {k s h : Nat} (hh : h ≤ k) : tw E x (wset w k s) h = tw E x w h :=
  tw_congr h (fun i hi => by unfold wset; rw [if_neg (by omega)])
theorem TW_low {E : Nat → Bool} {x w : Nat → Nat} {H H2 : Nat} {c3 c4 : Nat → Int32} (h : TW E x w H c3 c4) (hl : H2 ≤ H) : TW E x w H2 c3 c4 := ⟨fun k hk => h.1 k (by omega), fun k hk => h.2 k (by omega)⟩
theorem c_pile {E : Nat → Bool} {x w : Nat → Nat} {s H n3 n4 M : Nat} (hs : s < 12) {c2 c3 c4 : Nat → Int32} (hx : tb x c2) (hT : TW E x w H c3 c4) (hM : H < M) (h4 : H < n4) (hn : 16 * H + 32 ≤ n3) (hn3 : n3 < 2 ^ 30) (hM2 : M < 2 ^ 30) (hn4 : n4 < 2 ^ 30) :
    Wq (fX7_pile (nI s) n3 n4 (nI M) (nI H) c2 c3 c4) (fun r => r.1 = nI (H + 1) ∧ TW E x (wset w H s) (H + 1) r.2.1 r.2.2) := by
  have key : ∀ (k i n : Nat) (c : Nat → Int32), i + k = 16 → k < n → (∀ h, h ≤ H → ∀ a, a < 16 → c (16 * h + a) = nI (tw E x w h a)) → (∀ a, a < i → c (16 * (H + 1) + a) = nI (thr x (tw E x w H) a s)) →
      Wq (fX7_pile_l14 n3 n4 (nI M) c2 n (nI s) (nI i) (nI H) c c4) (fun r => r.1 = nI (H + 1) ∧ TW E x (wset w H s) (H + 1) r.2.1 r.2.2) := by
    intro k
    induction k with
    | zero =>
      intro i n c g1 g2 q1 q2
      obtain ⟨n, rfl⟩ : ∃ z, n = z + 1 := ⟨n - 1, by omega⟩
      show Wq (fX7_pile_b14 n3 n4 (nI M) c2 _ (nI s) (nI i) (nI H) c c4) _
      unfold fX7_pile_b14
      have h16 : (16 : Int32) ≤ nI i := nI_le (a := 16) (b := i) (by omega) (by omega)
      simp only [if_pos h16, inb_nI (j := H) (n := n4) h4 (by omega), bd, nI_clamp (n := H) (by omega), nm, nI_1]
      refine Wq_some ⟨rfl, fun h hh a ha => ?_, fun h hh => ?_⟩
      · by_cases e : h = H + 1
        · subst e
          have e2 : tw E x (wset w H s) (H + 1) a = thr x (tw E x w H) a s := by
            show thr x (tw E x (wset w H s) H) a (wset w H s H) = _
            rw [tw_wset (Nat.le_refl _)]
            unfold wset
            rw [if_pos rfl]
          rw [e2]
          exact q2 a (by omega)
        · rw [tw_wset (by omega)]
          exact q1 h (by omega) a ha
      · by_cases e : h = H
        · subst e; simp [upd, wset, hs]
        · have := hT.2 h (by omega)
          simp only [upd, wset, if_neg e]
          exact this
    | succ k ih =>
      intro i n c g1 g2 q1 q2
      obtain ⟨n, rfl⟩ : ∃ z, n = z + 1 := ⟨n - 1, by omega⟩
      show Wq (fX7_pile_b14 n3 n4 (nI M) c2 _ (nI s) (nI i) (nI H) c c4) _
      unfold fX7_pile_b14
      have h16 : ¬ (16 : Int32) ≤ nI i := nI_ge (a := i) (b := 16) (by omega) (by omega)
      have e16 : nI (H + 1) * 16 = nI (16 * (H + 1)) := by rw [Nat.mul_comm 16 (H + 1)]; exact pk_mul (H + 1) 16
      have hthr := c_thr (a := i) (s := s) (h := H) (n3 := n3) (t := tw E x w H) (by omega) hs hx (fun b hb => ⟨q1 H (Nat.le_refl _) b hb, tw_vl _ _ _ _ _⟩) (by omega) (by omega)
      simp only [if_neg h16, nm, nI_1, e16, nI_add, hthr, ob_s, inb_nI (j := 16 * (H + 1) + i) (n := n3) (by omega) (by omega), bd, nI_clamp (n := 16 * (H + 1) + i) (by omega)]
      refine ih (i + 1) n _ (by omega) (by omega) (fun h hh a ha => ?_) (fun a ha => ?_)
      · unfold upd
        rw [if_neg (by omega)]
        exact q1 h hh a ha
      · unfold upd
        by_cases e : a = i
        · subst e; rw [if_pos rfl]
        · rw [if_neg (by omega)]; exact q2 a (by omega)
  unfold fX7_pile
  rw [if_pos (nI_lt hM (by omega))]
  exact key 16 0 FU c3 (by omega) (FU_gt (by decide)) hT.1 (fun a ha => absurd ha (by omega))
