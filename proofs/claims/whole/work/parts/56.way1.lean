/-! ===== pure rows 27: the one table; what lies after a rule ===== -/
theorem x0_vals (K : Nat → Nat) : vals (x0 K) := by
  intro j _
  unfold x0
  by_cases h : (K (j / 16)).testBit (j % 16) = true
  · rw [if_pos h]; exact Or.inl (by decide)
  · rw [if_neg h]; exact Or.inr rfl
noncomputable def DD (K : Nat → Nat) (R : Nat) (pr : Nat → Nat → Nat) : Nat → Nat := @dite _ (okPr R pr) (Classical.propDecidable _) (fun h => Classical.choose (ex_D (y0 := x0 K) h (x0_vals K))) (fun _ => x0 K)
theorem DD_is {K : Nat → Nat} {R : Nat} {pr : Nat → Nat → Nat} (h : okPr R pr) : isD (x0 K) R pr (DD K R pr) ∧ sup (x0 K) (DD K R pr) R pr := by
  unfold DD
  rw [dif_pos h]
  exact Classical.choose_spec (ex_D (y0 := x0 K) h (x0_vals K))
theorem tb_DD {K : Nat → Nat} {R : Nat} {pr : Nat → Nat → Nat} (h : okPr R pr) {x : Nat → Nat} {c : Nat → Int32} (ht : tb x c) (hx : isD (x0 K) R pr x) : tb (DD K R pr) c := by
  intro j hj
  have e := isD_eq hx (DD_is h).1 j hj
  rw [← e]
  exact ht j hj
theorem tm_DD {K : Nat → Nat} {R : Nat} {pr : Nat → Nat → Nat} (h : okPr R pr) {x : Nat → Nat} {c : Nat → Int32} (ht : tm x c) (hx : isD (x0 K) R pr x) : tm (DD K R pr) c := by
  intro j hj
  have e := isD_eq hx (DD_is h).1 j hj
  rw [← e]
  exact ht j hj
/-- the net leads to nodes that are no states -/
def netUp (K : Nat → Nat) : Prop := ∀ i, i < 192 → ∀ b, b < 8 → (K i).testBit b = false
theorem x0_low {K : Nat → Nat} (hK : netUp K) {a s b : Nat} (ha : a < 16) (hs : s < 12) (hb : b < 8) : x0 K (rw16 a s + b) = 536870912 := by
  unfold x0 rw16
  rw [show ((a * 12 + s) * 16 + b) / 16 = a * 12 + s by omega, show ((a * 12 + s) * 16 + b) % 16 = b by omega, hK _ (by omega) b hb]
  rfl
theorem x0_two (K : Nat → Nat) (j : Nat) : x0 K j = 0 ∨ x0 K j = 536870912 := by
  unfold x0
  by_cases h : (K (j / 16)).testBit (j % 16) = true
  · rw [if_pos h]; exact Or.inl rfl
  · rw [if_neg h]; exact Or.inr rfl
theorem dv_pos {p g q n w1 w2 : Nat} {x : Nat → Nat} {j v : Nat} (h : dvR p g q n w1 w2 x j v) : 1 ≤ v ∧ ∃ t, t < 16 + q ∧ j = rw16 p g + t := by
  rcases h with ⟨_, e, h1⟩ | ⟨_, t, h1, e, _, h2⟩ | ⟨_, m, t, _, h1, e, _, _, h2⟩
  · exact ⟨h1, q, by omega, e⟩
  · exact ⟨Nat.le_trans (Nat.le_min.mpr ⟨by omega, by decide⟩) h2, t, by omega, e⟩
  · exact ⟨Nat.le_trans (Nat.le_min.mpr ⟨by omega, by decide⟩) h2, t, by omega, e⟩
theorem DD_high {K : Nat → Nat} {R : Nat} {pr : Nat → Nat → Nat} (h : okPr R pr) {b s t : Nat} (hb : 8 ≤ b) (hb2 : b < 16) (hs : s < 12) (ht : t < 16) : DD K R pr (rw16 b s + t) = x0 K (rw16 b s + t) := by
  obtain ⟨hD, hS⟩ := DD_is (K := K) h
  have hA := rw16_le hb2 hs
  have h1 := hD.2.1 (rw16 b s + t) (by omega)
  apply Nat.le_antisymm h1
  apply Nat.not_lt.mp
  intro hlt
  obtain ⟨r, hr, hd⟩ := hS _ hlt
  obtain ⟨p0, p1, p2, p3, p4, p5⟩ := h.2 r hr
  rcases hd with ⟨_, e, _⟩ | ⟨_, t2, h2, e, _⟩ | ⟨_, m, t2, _, h2, e, _⟩
  · unfold rw16 at e; omega
  · unfold rw16 at e; omega
  · unfold rw16 at e; omega
theorem DD_zero {K : Nat → Nat} (hK : netUp K) {R : Nat} {pr : Nat → Nat → Nat} (h : okPr R pr) {a s b : Nat} (ha : a < 16) (hs : s < 12) (hb : b < 16) (h0 : DD K R pr (rw16 a s + b) = 0) : 8 ≤ b := by
  obtain ⟨hD, hS⟩ := DD_is (K := K) h
  have hA := rw16_le ha hs
  apply Nat.not_lt.mp
  intro hb8
  have hx := x0_low hK ha hs hb8
  obtain ⟨r, hr, hd⟩ := hS (rw16 a s + b) (by rw [h0, hx]; decide)
  have := (dv_pos hd).1
  omega
theorem sm_two {a b : Nat} (ha : a = 0 ∨ a = 536870912) (hb : b = 0 ∨ b = 536870912) : sm a b = 0 ∨ sm a b = 536870912 := by
  rcases ha with rfl | rfl <;> rcases hb with rfl | rfl <;> decide
theorem tw_high {E : Nat → Bool} {K : Nat → Nat} (hK : netUp K) {R : Nat} {pr : Nat → Nat → Nat} (h : okPr R pr) {w : Nat → Nat} : ∀ H, (∀ k, k < H → w k < 12) → ∀ b, 8 ≤ b → b < 16 → tw E (DD K R pr) w H b = 0 ∨ tw E (DD K R pr) w H b = 536870912 := by
  intro H
  induction H with
  | zero =>
    intro _ b _ _
    show (if E b then 0 else 536870912) = 0 ∨ (if E b then 0 else 536870912) = 536870912
    by_cases hE : E b = true
    · rw [if_pos hE]; exact Or.inl rfl
    · rw [if_neg hE]; exact Or.inr rfl
  | succ H ih =>
    intro hw b hb hb2
    have hs := hw H (by omega)
    show thr (DD K R pr) (tw E (DD K R pr) w H) b (w H) = 0 ∨ thr (DD K R pr) (tw E (DD K R pr) w H) b (w H) = 536870912
    unfold thr
    rcases minN_at (f := fun c => sm (DD K R pr (rw16 b (w H) + c)) (tw E (DD K R pr) w H c)) 16 with e | ⟨c, hc, e⟩
    · exact Or.inr e
    · rw [e]
      have e1 := DD_high (K := K) h hb hb2 hs hc
      by_cases h8 : c < 8
      · right
        show sm (DD K R pr (rw16 b (w H) + c)) (tw E (DD K R pr) w H c) = _
        rw [e1, x0_low hK hb2 hs h8]
        unfold sm
        rw [if_neg (by omega)]
      · refine sm_two (by rw [e1]; exact x0_two _ _) (ih (fun k hk => hw k (by omega)) c (by omega) hc)
/-- how far it is behind a rule, on what lies below -/
def aft (x t : Nat → Nat) (q n w1 w2 : Nat) : Nat := if n = 0 then t q else if n = 1 then thr x t q w1 else minN (fun b => sm (x (rw16 q w1 + b)) (thr x t b w2)) 16
theorem mm3 (u v z M : Nat) (h : u ≤ min (v + 1) M) : min (u + z) M ≤ min (1 + min (v + z) M) M := by omega
theorem mm4 (u v y z M : Nat) (h : u ≤ min (v + (y + 1)) M) : min (u + z) M ≤ min (1 + min (y + min (v + z) M) M) M := by omega
theorem min_inf (a : Nat) : min a 1000000 < 536870912 := Nat.lt_of_le_of_lt (Nat.min_le_right _ _) (by decide)
theorem sm_up1 {u v z : Nat} (hv : v < 536870912) (hz : z < 536870912) (h : u ≤ min (v + 1) 1000000) : sm u z ≤ sm 1 (sm v z) := by
  rw [sm_fin (a := u) (b := z) (Nat.lt_of_le_of_lt h (min_inf _)) hz, sm_fin (a := v) (b := z) hv hz, sm_fin (a := 1) (by decide) (min_inf _)]
  exact mm3 _ _ _ _ h
theorem sm_up2 {u v y z : Nat} (hv : v < 536870912) (hy : y < 536870912) (hz : z < 536870912) (h : u ≤ min (v + (y + 1)) 1000000) : sm u z ≤ sm 1 (sm y (sm v z)) := by
  rw [sm_fin (a := u) (b := z) (Nat.lt_of_le_of_lt h (min_inf _)) hz, sm_fin (a := v) (b := z) hv hz, sm_fin (a := y) hy (min_inf _), sm_fin (a := 1) (by decide) (min_inf _)]
  exact mm4 _ _ _ _ _ h
theorem aft_up {K : Nat → Nat} {R : Nat} {pr : Nat → Nat → Nat} (h : okPr R pr) {t : Nat → Nat} {r : Nat} (hr : r < R) : thr (DD K R pr) t (pr 0 r) (pr 1 r) ≤ sm 1 (aft (DD K R pr) t (pr 2 r) (pr 3 r) (pr 4 r) (pr 5 r)) := by
  obtain ⟨p0, p1, p2, p3, p4, p5⟩ := h.2 r hr
  obtain ⟨c0, c1, c2⟩ := (DD_is (K := K) h).1.2.2.1 r hr
  generalize DD K R pr = x at c0 c1 c2 ⊢
  have le : ∀ b, b < 16 → thr x t (pr 0 r) (pr 1 r) ≤ sm (x (rw16 (pr 0 r) (pr 1 r) + b)) (t b) := fun b hb => minN_le (f := fun b => sm (x (rw16 (pr 0 r) (pr 1 r) + b)) (t b)) 16 b hb
  have big : ∀ v, v = 536870912 → thr x t (pr 0 r) (pr 1 r) ≤ sm 1 v := by
    intro v hv
    subst hv
    have := vl_lt (thr_vl (x := x) (t := t) (a := pr 0 r) (s := pr 1 r))
    have e : sm 1 536870912 = 536870912 := by decide
    rw [e]; exact this
  unfold aft
  by_cases h0 : pr 3 r = 0
  · rw [if_pos h0]
    exact Nat.le_trans (le _ (by omega)) (sm_mono (c0 h0) (Nat.le_refl _))
  · rw [if_neg h0]
    by_cases h1 : pr 3 r = 1
    · rw [if_pos h1]
      by_cases hI : thr x t (pr 2 r) (pr 4 r) < 536870912
      · unfold thr at hI ⊢
        rcases minN_at (f := fun b => sm (x (rw16 (pr 2 r) (pr 4 r) + b)) (t b)) 16 with e | ⟨b, hb, e⟩
        · omega
        · rw [e] at hI ⊢
          obtain ⟨a1, a2, a3⟩ := sm_lt hI
          refine Nat.le_trans (le b hb) ?_
          exact sm_up1 a1 a2 (c1 h1 b hb a1)
      · exact big _ (by have := vl_lt (thr_vl (x := x) (t := t) (a := pr 2 r) (s := pr 4 r)); omega)
    · rw [if_neg h1]
      have h2 : pr 3 r = 2 := by omega
      by_cases hI : minN (fun b => sm (x (rw16 (pr 2 r) (pr 4 r) + b)) (thr x t b (pr 5 r))) 16 < 536870912
      · rcases minN_at (f := fun b => sm (x (rw16 (pr 2 r) (pr 4 r) + b)) (thr x t b (pr 5 r))) 16 with e | ⟨m, hm, e⟩
        · omega
        · rw [e] at hI ⊢
          obtain ⟨a1, a2, a3⟩ := sm_lt hI
          have ed : thr x t m (pr 5 r) = minN (fun b => sm (x (rw16 m (pr 5 r) + b)) (t b)) 16 := rfl
          rcases minN_at (f := fun b => sm (x (rw16 m (pr 5 r) + b)) (t b)) 16 with e2 | ⟨b, hb, e2⟩
          · omega
          · rw [ed, e2] at a2 ⊢
            obtain ⟨b1, b2, b3⟩ := sm_lt a2
            exact Nat.le_trans (le b hb) (sm_up2 b1 a1 b2 (c2 h2 m hm a1 b hb b1))
      · exact big _ (by have := vl_lt (minN_vl (f := fun b => sm (x (rw16 (pr 2 r) (pr 4 r) + b)) (thr x t b (pr 5 r))) (fun _ => sm_vl) 16); omega)
/-- from a stack that is not in the set, some rule goes one step nearer -/
theorem aft_ex {E : Nat → Bool} {K : Nat → Nat} (hK : netUp K) {R : Nat} {pr : Nat → Nat → Nat} (h : okPr R pr) {w : Nat → Nat} {H p : Nat} (hw : ∀ k, k < H → w k < 12) (hp : p < 8) {v : Nat} (hv : 1 ≤ v) (hv2 : v ≤ 2000) (e : tw E (DD K R pr) w H p = v) :
    1 ≤ H ∧ ∃ r, r < R ∧ pr 0 r = p ∧ pr 1 r = w (H - 1) ∧ aft (DD K R pr) (tw E (DD K R pr) w (H - 1)) (pr 2 r) (pr 3 r) (pr 4 r) (pr 5 r) = v - 1 := by
  cases H with
  | zero =>
    have e2 : (if E p then 0 else 536870912) = v := e
    by_cases hE : E p = true
    · rw [if_pos hE] at e2; omega
    · rw [if_neg hE] at e2; omega
  | succ H =>
    refine ⟨by omega, ?_⟩
    rw [show H + 1 - 1 = H by omega]
    have hs := hw H (by omega)
    obtain ⟨hD, hS⟩ := DD_is (K := K) h
    have hA := rw16_le (a := p) (s := w H) (by omega) hs
    have e1 : minN (fun b => sm (DD K R pr (rw16 p (w H) + b)) (tw E (DD K R pr) w H b)) 16 = v := e
    rcases minN_at (f := fun b => sm (DD K R pr (rw16 p (w H) + b)) (tw E (DD K R pr) w H b)) 16 with e2 | ⟨b, hb, e2⟩
    · omega
    · rw [e1] at e2
      have h3 : sm (DD K R pr (rw16 p (w H) + b)) (tw E (DD K R pr) w H b) < 536870912 := by rw [← e2]; omega
      obtain ⟨a1, a2, a3⟩ := sm_lt h3
      rw [a3] at e2
      have e3 : DD K R pr (rw16 p (w H) + b) + tw E (DD K R pr) w H b = v := by
        rcases Nat.le_total (DD K R pr (rw16 p (w H) + b) + tw E (DD K R pr) w H b) 1000000 with z | z
        · rw [Nat.min_eq_left z] at e2; exact e2.symm
        · rw [Nat.min_eq_right z] at e2; omega
      have hpos : DD K R pr (rw16 p (w H) + b) ≠ 0 := by
        intro z
        have hb8 := DD_zero hK h (by omega) hs hb z
        rcases tw_high (E := E) hK h H (fun k hk => hw k (by omega)) b hb8 hb with y | y <;> omega
      have hlt : DD K R pr (rw16 p (w H) + b) < x0 K (rw16 p (w H) + b) := by
        rcases x0_two K (rw16 p (w H) + b) with y | y
        · have := hD.2.1 (rw16 p (w H) + b) (by omega); omega
        · omega
      obtain ⟨r, hr, hd⟩ := hS _ hlt
      obtain ⟨p0, p1, p2, p3, p4, p5⟩ := h.2 r hr
      have same : ∀ t, t < 16 → rw16 p (w H) + b = rw16 (pr 0 r) (pr 1 r) + t → pr 0 r = p ∧ pr 1 r = w H ∧ t = b := by
        intro t ht z
        unfold rw16 at z
        refine ⟨?_, ?_, ?_⟩ <;> omega
      have up := aft_up (K := K) h (t := tw E (DD K R pr) w H) hr
      have fin : pr 0 r = p → pr 1 r = w H → aft (DD K R pr) (tw E (DD K R pr) w H) (pr 2 r) (pr 3 r) (pr 4 r) (pr 5 r) + 1 ≤ v → ∃ r, r < R ∧ pr 0 r = p ∧ pr 1 r = w H ∧ aft (DD K R pr) (tw E (DD K R pr) w H) (pr 2 r) (pr 3 r) (pr 4 r) (pr 5 r) = v - 1 := by
        intro q1 q2 q3
        refine ⟨r, hr, q1, q2, ?_⟩
        rw [q1, q2] at up
        have up2 : v ≤ sm 1 (aft (DD K R pr) (tw E (DD K R pr) w H) (pr 2 r) (pr 3 r) (pr 4 r) (pr 5 r)) := by rw [← e]; exact up
        rw [sm_fin (by decide) (by omega)] at up2
        have := Nat.le_trans up2 (Nat.min_le_left _ _)
        omega
      rcases hd with ⟨n0, q1, q2⟩ | ⟨n1, t, ht, q1, q3, q4⟩ | ⟨n2, m, t, hm, ht, q1, q3, q4, q5⟩
      · obtain ⟨s1, s2, s3⟩ := same (pr 2 r) (by omega) q1
        refine fin s1 s2 ?_
        unfold aft
        rw [if_pos n0, s3]
        omega
      · obtain ⟨s1, s2, s3⟩ := same t ht q1
        subst s3
        refine fin s1 s2 ?_
        unfold aft
        rw [if_neg (by omega), if_pos n1]
        have l1 : thr (DD K R pr) (tw E (DD K R pr) w H) (pr 2 r) (pr 4 r) ≤ sm (DD K R pr (rw16 (pr 2 r) (pr 4 r) + t)) (tw E (DD K R pr) w H t) := minN_le (f := fun b => sm (DD K R pr (rw16 (pr 2 r) (pr 4 r) + b)) (tw E (DD K R pr) w H b)) 16 t ht
        rw [sm_fin q3 a2] at l1
        have l2 := Nat.le_trans l1 (Nat.min_le_left _ _)
        have q6 : DD K R pr (rw16 (pr 2 r) (pr 4 r) + t) + 1 ≤ DD K R pr (rw16 p (w H) + t) := by
          rcases Nat.le_total (DD K R pr (rw16 (pr 2 r) (pr 4 r) + t) + 1) 1000000 with z | z
          · rw [Nat.min_eq_left z] at q4; exact q4
          · rw [Nat.min_eq_right z] at q4; omega
        omega
      · obtain ⟨s1, s2, s3⟩ := same t ht q1
        subst s3
        refine fin s1 s2 ?_
        unfold aft
        rw [if_neg (by omega), if_neg (by omega)]
        have l0 : minN (fun b => sm (DD K R pr (rw16 (pr 2 r) (pr 4 r) + b)) (thr (DD K R pr) (tw E (DD K R pr) w H) b (pr 5 r))) 16 ≤ sm (DD K R pr (rw16 (pr 2 r) (pr 4 r) + m)) (thr (DD K R pr) (tw E (DD K R pr) w H) m (pr 5 r)) := minN_le (f := fun b => sm (DD K R pr (rw16 (pr 2 r) (pr 4 r) + b)) (thr (DD K R pr) (tw E (DD K R pr) w H) b (pr 5 r))) 16 m hm
        have l1 : thr (DD K R pr) (tw E (DD K R pr) w H) m (pr 5 r) ≤ sm (DD K R pr (rw16 m (pr 5 r) + t)) (tw E (DD K R pr) w H t) := minN_le (f := fun b => sm (DD K R pr (rw16 m (pr 5 r) + b)) (tw E (DD K R pr) w H b)) 16 t ht
        have l3 := Nat.le_trans l0 (sm_mono (Nat.le_refl _) l1)
        rw [sm_fin (a := DD K R pr (rw16 m (pr 5 r) + t)) q4 a2, sm_fin q3 (min_inf _)] at l3
        have l4 := Nat.le_trans l3 (Nat.min_le_left _ _)
        have l5 : min (DD K R pr (rw16 m (pr 5 r) + t) + tw E (DD K R pr) w H t) 1000000 ≤ DD K R pr (rw16 m (pr 5 r) + t) + tw E (DD K R pr) w H t := Nat.min_le_left _ _
        have q6 : DD K R pr (rw16 m (pr 5 r) + t) + (DD K R pr (rw16 (pr 2 r) (pr 4 r) + m) + 1) ≤ DD K R pr (rw16 p (w H) + t) := by
          rcases Nat.le_total (DD K R pr (rw16 m (pr 5 r) + t) + (DD K R pr (rw16 (pr 2 r) (pr 4 r) + m) + 1)) 1000000 with z | z
          · rw [Nat.min_eq_left z] at q5; exact q5
          · rw [Nat.min_eq_right z] at q5; omega
        omega
