/-! ===== pure rows 22: a round of the reference's reckon ===== -/
theorem sm_mono {a b a2 b2 : Nat} (h1 : a ≤ a2) (h2 : b ≤ b2) : sm a b ≤ sm a2 b2 := by
  unfold sm
  by_cases h : a2 < 536870912 ∧ b2 < 536870912
  · rw [if_pos h, if_pos ⟨by omega, by omega⟩]
    exact min_mono (by omega)
  · rw [if_neg h]
    by_cases h3 : a < 536870912 ∧ b < 536870912
    · rw [if_pos h3]; exact Nat.le_trans (Nat.min_le_right _ _) (by decide)
    · rw [if_neg h3]; exact Nat.le_refl _
theorem minN_mono {f g : Nat → Nat} : ∀ n, (∀ i, i < n → f i ≤ g i) → minN f n ≤ minN g n := by
  intro n
  induction n with
  | zero => intro _; exact Nat.le_refl _
  | succ n ih =>
    intro h
    rw [minN_s, minN_s]
    exact Nat.le_min.mpr ⟨Nat.le_trans (Nat.min_le_left _ _) (ih (fun i hi => h i (by omega))), Nat.le_trans (Nat.min_le_right _ _) (h n (by omega))⟩
theorem sm_lt {a b : Nat} (h : sm a b < 536870912) : a < 536870912 ∧ b < 536870912 ∧ sm a b = min (a + b) 1000000 := by
  unfold sm at *
  by_cases h2 : a < 536870912 ∧ b < 536870912
  · rw [if_pos h2] at *; exact ⟨h2.1, h2.2, rfl⟩
  · rw [if_neg h2] at h; omega
theorem sm_fin {a b : Nat} (ha : a < 536870912) (hb : b < 536870912) : sm a b = min (a + b) 1000000 := by
  unfold sm; rw [if_pos ⟨ha, hb⟩]
theorem byR_mono {x y : Nat → Nat} {q n w1 w2 t : Nat} (hq : q < 16) (hw1 : w1 < 12) (hw2 : w2 < 12) (ht : t < 16) (h : ∀ j, j < 3072 → y j ≤ x j) : byR y q n w1 w2 t ≤ byR x q n w1 w2 t := by
  have hA := rw16_le hq hw1
  unfold byR
  by_cases h0 : n = 0
  · rw [if_pos h0, if_pos h0]; exact Nat.le_refl _
  · rw [if_neg h0, if_neg h0]
    by_cases h1 : n = 1
    · rw [if_pos h1, if_pos h1]; exact sm_mono (Nat.le_refl _) (h _ (by omega))
    · rw [if_neg h1, if_neg h1]
      refine sm_mono (Nat.le_refl _) (minN_mono 16 (fun i hi => ?_))
      have hB := rw16_le hi hw2
      exact sm_mono (h _ (by omega)) (h _ (by omega))
theorem mm1 (a b M : Nat) : min (b + (a + 1)) M ≤ min (1 + min (a + b) M) M := by omega
theorem mm2 (a b c M : Nat) (h : c ≤ min (a + b) M) : min (1 + c) M ≤ min (b + (a + 1)) M := by omega
theorem byR_at {x : Nat → Nat} {p g q n w1 w2 t : Nat} (hn : n ≤ 2) (ht : t < 16) (h : byR x q n w1 w2 t < 536870912) : dvR p g q n w1 w2 x (rw16 p g + t) (byR x q n w1 w2 t) := by
  unfold byR at *
  by_cases h0 : n = 0
  · rw [if_pos h0] at *
    by_cases h1 : q = t
    · rw [if_pos h1] at *; exact Or.inl ⟨h0, by rw [h1], Nat.le_refl _⟩
    · rw [if_neg h1] at h; omega
  · rw [if_neg h0] at *
    by_cases h1 : n = 1
    · rw [if_pos h1] at *
      obtain ⟨a1, a2, a3⟩ := sm_lt h
      exact Or.inr (Or.inl ⟨h1, t, ht, rfl, a2, by rw [a3, Nat.add_comm]; exact Nat.le_refl _⟩)
    · rw [if_neg h1] at *
      obtain ⟨a1, a2, a3⟩ := sm_lt h
      rcases minN_at (f := fun m => sm (x (rw16 q w1 + m)) (x (rw16 m w2 + t))) 16 with e | ⟨m, hm, e⟩
      · omega
      · rw [a3, e]
        rw [e] at a2
        obtain ⟨b1, b2, b3⟩ := sm_lt a2
        exact Or.inr (Or.inr ⟨by omega, m, t, hm, ht, rfl, b1, b2, by rw [b3]; exact mm1 _ _ _⟩)
theorem byR_le {x : Nat → Nat} {q n w1 w2 : Nat} : (n = 0 → byR x q n w1 w2 q ≤ 1) ∧ (n = 1 → ∀ t, x (rw16 q w1 + t) < 536870912 → byR x q n w1 w2 t ≤ min (x (rw16 q w1 + t) + 1) 1000000) ∧
    (n = 2 → ∀ m, m < 16 → x (rw16 q w1 + m) < 536870912 → ∀ t, x (rw16 m w2 + t) < 536870912 → byR x q n w1 w2 t ≤ min (x (rw16 m w2 + t) + (x (rw16 q w1 + m) + 1)) 1000000) := by
  refine ⟨fun h => ?_, fun h t ht => ?_, fun h m hm h1 t h2 => ?_⟩
  · unfold byR; rw [if_pos h, if_pos rfl]; exact Nat.le_refl _
  · unfold byR
    rw [if_neg (by omega), if_pos h, sm_fin (by decide) ht, Nat.add_comm]; exact Nat.le_refl _
  · unfold byR
    rw [if_neg (by omega), if_neg (by omega)]
    have h3 := minN_le (f := fun m => sm (x (rw16 q w1 + m)) (x (rw16 m w2 + t))) 16 m hm
    rw [sm_fin h1 h2] at h3
    rw [sm_fin (by decide) (by omega)]
    exact mm2 _ _ _ _ h3
theorem clR_by {x : Nat → Nat} {p g q n w1 w2 : Nat} (hq : q < 16) (h : ∀ t, t < 16 → x (rw16 p g + t) ≤ byR x q n w1 w2 t) : clR x p g q n w1 w2 := by
  obtain ⟨b0, b1, b2⟩ := byR_le (x := x) (q := q) (n := n) (w1 := w1) (w2 := w2)
  exact ⟨fun k => Nat.le_trans (h q hq) (b0 k), fun k t ht h3 => Nat.le_trans (h t ht) (b1 k t h3), fun k m hm h3 t ht h4 => Nat.le_trans (h t ht) (b2 k m hm h3 t h4)⟩
theorem prR_by {x x2 : Nat → Nat} {p g q n w1 w2 : Nat} (hq : q < 16) (h : ∀ t, t < 16 → x2 (rw16 p g + t) ≤ byR x q n w1 w2 t) : prR x x2 p g q n w1 w2 := by
  obtain ⟨b0, b1, b2⟩ := byR_le (x := x) (q := q) (n := n) (w1 := w1) (w2 := w2)
  exact ⟨fun k => Nat.le_trans (h q hq) (b0 k), fun k t ht h3 => Nat.le_trans (h t ht) (b1 k t h3), fun k m hm h3 t ht h4 => Nat.le_trans (h t ht) (b2 k m hm h3 t h4)⟩
theorem clR_at {y : Nat → Nat} {p g q n w1 w2 t : Nat} (hn : n ≤ 2) (ht : t < 16) (hc : clR y p g q n w1 w2) (h : byR y q n w1 w2 t < 536870912) : y (rw16 p g + t) ≤ byR y q n w1 w2 t := by
  obtain ⟨c0, c1, c2⟩ := hc
  rcases byR_at (p := p) (g := g) hn ht h with ⟨e, h1, h2⟩ | ⟨e, t2, h1, h2, h3, h4⟩ | ⟨e, m, t2, h1, h2, h3, h4, h5, h6⟩
  · have : t = q := by omega
    rw [this] at h2 ⊢
    exact Nat.le_trans (c0 e) h2
  · have : t = t2 := by omega
    subst this
    exact Nat.le_trans (c1 e t ht h3) h4
  · have : t = t2 := by omega
    subst this
    exact Nat.le_trans (c2 e m h1 h4 t ht h5) h6
def lowB (x : Nat → Nat) (at' v : Nat) : Nat → Nat := fun j => if j = at' then min (x j) v else x j
theorem lowB_le (x : Nat → Nat) (at' v j : Nat) : lowB x at' v j ≤ x j := by
  unfold lowB
  by_cases h : j = at'
  · rw [if_pos h]; exact Nat.min_le_left _ _
  · rw [if_neg h]; exact Nat.le_refl _
theorem sup_lowB {y0 x : Nat → Nat} {R : Nat} {pr : Nat → Nat → Nat} {at' v : Nat} (hs : sup y0 x R pr) (hd : v < x at' → ∃ r, r < R ∧ dvR (pr 0 r) (pr 1 r) (pr 2 r) (pr 3 r) (pr 4 r) (pr 5 r) x at' v) : sup y0 (lowB x at' v) R pr := by
  intro j hj
  have hle : ∀ j, lowB x at' v j ≤ x j := lowB_le x at' v
  by_cases e : j = at'
  · subst e
    by_cases h : v < x j
    · have e1 : lowB x j v j = v := by unfold lowB; rw [if_pos rfl]; exact Nat.min_eq_right (Nat.le_of_lt h)
      obtain ⟨r, hr, hd⟩ := hd h
      rw [e1]
      exact ⟨r, hr, dvR_mono hle hd⟩
    · have e1 : lowB x j v j = x j := by unfold lowB; rw [if_pos rfl]; exact Nat.min_eq_left (Nat.not_lt.mp h)
      rw [e1] at hj ⊢
      obtain ⟨r, hr, hd⟩ := hs j hj
      exact ⟨r, hr, dvR_mono hle hd⟩
  · have e1 : lowB x at' v j = x j := by unfold lowB; rw [if_neg e]
    rw [e1] at hj ⊢
    obtain ⟨r, hr, hd⟩ := hs j hj
    exact ⟨r, hr, dvR_mono hle hd⟩
theorem r_l75 {R r : Nat} {kn : Int32} {m c1 : Nat → Int32} {pr : Nat → Nat → Nat} {y0 : Nat → Nat} (hP : okPr R pr) (hm : rmN R m pr) (hr : r < R) (k51 : Int32 → Int32 → (Nat → Int32) → Option (Int32 × (Nat → Int32))) (k59 : Int32 → Int32 → Int32 → (Nat → Int32) → Option (Int32 × (Nat → Int32))) :
    ∀ (k i n : Nat) (f : Int32) (x : Nat → Nat) (c : Nat → Int32), i + k = 16 → k < n → (f = 0 ∨ f = 1) → tm x c →
      ∃ (b : Int32) (x2 : Nat → Nat) (d : Nat → Int32), fX11_reckon_l75 (nI R) c1 m k51 k59 n f (nI r) (nI (6 * r)) (nI i) kn c = k59 b (nI (r + 1)) kn d ∧ tm x2 d ∧ (∀ j, x2 j ≤ x j) ∧ (b = 0 ∨ b = 1) ∧ (b = 0 ↔ (f = 0 ∧ ∀ j, j < 3072 → x2 j = x j)) ∧
        (∀ t, i ≤ t → t < 16 → x2 (rw16 (pr 0 r) (pr 1 r) + t) ≤ byR x (pr 2 r) (pr 3 r) (pr 4 r) (pr 5 r) t) ∧ (∀ y : Nat → Nat, (∀ j, j < 3072 → y j ≤ x j) → clR y (pr 0 r) (pr 1 r) (pr 2 r) (pr 3 r) (pr 4 r) (pr 5 r) → ∀ j, j < 3072 → y j ≤ x2 j) ∧ (sup y0 x R pr → sup y0 x2 R pr) := by
  obtain ⟨p0, p1, p2, p3, p4, p5⟩ := hP.2 r hr
  have hR := hP.1
  obtain ⟨m0, m1, m2, m3, m4, m5⟩ := hm r hr
  have hA := rw16_le (a := pr 0 r) (s := pr 1 r) (by omega) p1
  intro k
  induction k with
  | zero =>
    intro i n f x c g1 g2 hf ht
    obtain ⟨n, rfl⟩ : ∃ z, n = z + 1 := ⟨n - 1, by omega⟩
    refine ⟨f, x, c, ?_, ht, fun j => Nat.le_refl _, hf, ⟨fun k => ⟨k, fun _ _ => rfl⟩, fun k => k.1⟩, fun t z1 z2 => by omega, fun y hy _ => hy, id⟩
    show fX11_reckon_b75 (nI R) c1 m k51 k59 _ f (nI r) (nI (6 * r)) (nI i) kn c = _
    unfold fX11_reckon_b75
    have h16 : (16 : Int32) ≤ nI i := nI_le (a := 16) (b := i) (by omega) (by omega)
    simp only [if_pos h16, nm, nI_1]
  | succ k ih =>
    intro i n f x c g1 g2 hf ht
    obtain ⟨n, rfl⟩ : ∃ z, n = z + 1 := ⟨n - 1, by omega⟩
    have h16 : ¬ (16 : Int32) ≤ nI i := nI_ge (a := i) (b := 16) (by omega) (by omega)
    have i0 : (192 : Int32) * nI (pr 0 r) = nI (192 * pr 0 r) := pk_mul 192 _
    have i1 : (16 : Int32) * nI (pr 1 r) = nI (16 * pr 1 r) := pk_mul 16 _
    have a1 : nI (6 * r) + 1 = nI (6 * r + 1) := nI_add _ 1
    have eA : 192 * pr 0 r + 16 * pr 1 r = rw16 (pr 0 r) (pr 1 r) := by unfold rw16; omega
    have hby := r_byRule (t := i) hP hm hr (by omega) ht
    obtain ⟨s1, s2⟩ := ht (rw16 (pr 0 r) (pr 1 r) + i) (by omega)
    generalize hv : byR x (pr 2 r) (pr 3 r) (pr 4 r) (pr 5 r) i = v at hby
    have vv : vl v := by rw [← hv]; exact byR_vl
    have hle := mI_le s2 vv
    -- the flag behind this column
    obtain ⟨f2, hf2, hf0, hrun⟩ : ∃ f2 : Int32, (f2 = 0 ∨ f2 = 1) ∧ (f2 = 0 ↔ f = 0 ∧ x (rw16 (pr 0 r) (pr 1 r) + i) ≤ v) ∧ fX11_reckon_l75 (nI R) c1 m k51 k59 (n + 1) f (nI r) (nI (6 * r)) (nI i) kn c = fX11_reckon_l75 (nI R) c1 m k51 k59 n f2 (nI r) (nI (6 * r)) (nI (i + 1)) kn (upd c (rw16 (pr 0 r) (pr 1 r) + i) (mI (min (x (rw16 (pr 0 r) (pr 1 r) + i)) v))) := by
      have rm := r_min s2 vv
      refine ⟨if f = 0 then (if x (rw16 (pr 0 r) (pr 1 r) + i) ≤ v then 0 else 1) else 1, ?_, ?_, ?_⟩
      · by_cases q1 : f = 0 <;> by_cases q2 : x (rw16 (pr 0 r) (pr 1 r) + i) ≤ v <;> simp [q1, q2]
      · by_cases q1 : f = 0 <;> by_cases q2 : x (rw16 (pr 0 r) (pr 1 r) + i) ≤ v <;> simp [q1, q2]
      · show fX11_reckon_b75 (nI R) c1 m k51 k59 _ f (nI r) (nI (6 * r)) (nI i) kn c = _
        rw [← rm]
        unfold fX11_reckon_b75 fX11_reckon_p134 fX11_reckon_p139 fX11_reckon_p170
        simp only [if_neg h16, nm, inb_nI (j := 6 * r) (n := 288) (by omega) (by decide), bd, nI_clamp (n := 6 * r) (by omega), m0, i0, a1, inb_nI (j := 6 * r + 1) (n := 288) (by omega) (by decide), nI_clamp (n := 6 * r + 1) (by omega), m1, i1, nI_add, eA, hby, ob_s, inb_nI (j := rw16 (pr 0 r) (pr 1 r) + i) (n := 3072) (by omega) (by decide), nI_clamp (n := rw16 (pr 0 r) (pr 1 r) + i) (by omega), s1, hle, nI_1]
        by_cases q1 : f = 0 <;> by_cases q2 : x (rw16 (pr 0 r) (pr 1 r) + i) ≤ v <;> simp only [q1, q2, if_true, if_false]
    have t2 : tm (lowB x (rw16 (pr 0 r) (pr 1 r) + i) v) (upd c (rw16 (pr 0 r) (pr 1 r) + i) (mI (min (x (rw16 (pr 0 r) (pr 1 r) + i)) v))) := by
      intro j hj
      unfold lowB upd
      by_cases e : j = rw16 (pr 0 r) (pr 1 r) + i
      · rw [if_pos e, if_pos e, ← e]
        refine ⟨rfl, ?_⟩
        rw [← e] at s2
        rcases Nat.le_total (x j) v with h | h
        · rw [Nat.min_eq_left h]; exact s2
        · rw [Nat.min_eq_right h]; exact vv
      · rw [if_neg e, if_neg e]; exact ht j hj
    obtain ⟨b, x2, d, e2, t3, le2, hb, hb0, hpr, hsd, hsup⟩ := ih (i + 1) n f2 _ _ (by omega) (by omega) hf2 t2
    have same : x (rw16 (pr 0 r) (pr 1 r) + i) ≤ v → ∀ j, lowB x (rw16 (pr 0 r) (pr 1 r) + i) v j = x j := by
      intro h j
      unfold lowB
      by_cases e : j = rw16 (pr 0 r) (pr 1 r) + i
      · rw [if_pos e, e]; exact Nat.min_eq_left h
      · rw [if_neg e]
    refine ⟨b, x2, d, hrun.trans e2, t3, fun j => Nat.le_trans (le2 j) (lowB_le _ _ _ _), hb, ?_, ?_, ?_, ?_⟩
    · constructor
      · intro h0
        obtain ⟨q1, q2⟩ := hb0.mp h0
        obtain ⟨q3, q4⟩ := hf0.mp q1
        exact ⟨q3, fun j hj => (q2 j hj).trans (same q4 j)⟩
      · rintro ⟨q3, q4⟩
        have hq : x (rw16 (pr 0 r) (pr 1 r) + i) ≤ v := by
          have hl := le2 (rw16 (pr 0 r) (pr 1 r) + i)
          rw [q4 _ (by omega)] at hl
          unfold lowB at hl
          rw [if_pos rfl] at hl
          exact Nat.le_trans hl (Nat.min_le_right _ _)
        exact hb0.mpr ⟨hf0.mpr ⟨q3, hq⟩, fun j hj => (q4 j hj).trans (same hq j).symm⟩
    · intro t z1 z2
      by_cases e : t = i
      · subst e
        refine Nat.le_trans (le2 _) ?_
        unfold lowB
        rw [if_pos rfl, hv]
        exact Nat.min_le_right _ _
      · exact Nat.le_trans (hpr t (by omega) z2) (byR_mono (by omega) p4 p5 z2 (fun j _ => lowB_le _ _ _ _))
    · intro y hy hc
      refine hsd y (fun j hj => ?_) hc
      unfold lowB
      by_cases e : j = rw16 (pr 0 r) (pr 1 r) + i
      · rw [if_pos e]
        refine Nat.le_min.mpr ⟨hy j hj, ?_⟩
        by_cases hi : v < 536870912
        · have hm2 := byR_mono (q := pr 2 r) (n := pr 3 r) (w1 := pr 4 r) (w2 := pr 5 r) (t := i) (by omega) p4 p5 (by omega) hy
          rw [hv] at hm2
          rw [e]
          exact Nat.le_trans (clR_at p3 (by omega) hc (Nat.lt_of_le_of_lt hm2 hi)) hm2
        · have h1 := hy j hj
          rw [e] at h1 ⊢
          have h2 := vl_lt s2
          omega
      · rw [if_neg e]; exact hy j hj
    · intro hs
      refine hsup (sup_lowB hs (fun hlt => ⟨r, hr, ?_⟩))
      have h2 := vl_lt s2
      have := byR_at (x := x) (p := pr 0 r) (g := pr 1 r) (q := pr 2 r) (n := pr 3 r) (w1 := pr 4 r) (w2 := pr 5 r) (t := i) p3 (by omega) (by rw [hv]; omega)
      rw [hv] at this
      exact this
