/-! ===== pure rows 28: the shortest way, as both must find it ===== -/
noncomputable def lst (P : Nat → Prop) : Nat := @dite _ (∃ r, P r) (Classical.propDecidable _) (fun h => Classical.choose (pk_least P h)) (fun _ => 0)
theorem lst_spec {P : Nat → Prop} (h : ∃ r, P r) : P (lst P) ∧ ∀ r, r < lst P → ¬ P r := by
  unfold lst
  rw [dif_pos h]
  exact Classical.choose_spec (pk_least P h)
def hit (E : Nat → Bool) (x : Nat → Nat) (R : Nat) (pr : Nat → Nat → Nat) (c : Nat × (Nat → Nat) × Nat) (v r : Nat) : Prop :=
  r < R ∧ pr 0 r = c.1 ∧ pr 1 r = c.2.1 (c.2.2 - 1) ∧ aft x (tw E x c.2.1 (c.2.2 - 1)) (pr 2 r) (pr 3 r) (pr 4 r) (pr 5 r) = v
def nxt (pr : Nat → Nat → Nat) (r : Nat) (c : Nat × (Nat → Nat) × Nat) : Nat × (Nat → Nat) × Nat :=
  (pr 2 r, (if pr 3 r = 0 then c.2.1 else if pr 3 r = 1 then wset c.2.1 (c.2.2 - 1) (pr 4 r) else wset (wset c.2.1 (c.2.2 - 1) (pr 5 r)) (c.2.2 - 1 + 1) (pr 4 r)), c.2.2 - 1 + pr 3 r)
noncomputable def cfW (E : Nat → Bool) (x : Nat → Nat) (R : Nat) (pr : Nat → Nat → Nat) (v : Nat) (c0 : Nat × (Nat → Nat) × Nat) : Nat → Nat × (Nat → Nat) × Nat
  | 0 => c0
  | k + 1 => nxt pr (lst (hit E x R pr (cfW E x R pr v c0 k) (v - (k + 1)))) (cfW E x R pr v c0 k)
noncomputable def rlW (E : Nat → Bool) (x : Nat → Nat) (R : Nat) (pr : Nat → Nat → Nat) (v : Nat) (c0 : Nat × (Nat → Nat) × Nat) (k : Nat) : Nat := lst (hit E x R pr (cfW E x R pr v c0 k) (v - (k + 1)))
theorem cfW_s (E : Nat → Bool) (x : Nat → Nat) (R : Nat) (pr : Nat → Nat → Nat) (v : Nat) (c0 : Nat × (Nat → Nat) × Nat) (k : Nat) : cfW E x R pr v c0 (k + 1) = nxt pr (rlW E x R pr v c0 k) (cfW E x R pr v c0 k) := rfl
def okC (c : Nat × (Nat → Nat) × Nat) : Prop := c.1 < 8 ∧ ∀ k, k < c.2.2 → c.2.1 k < 12
theorem nxt_ok {R : Nat} {pr : Nat → Nat → Nat} (hP : okPr R pr) {r : Nat} (hr : r < R) {c : Nat × (Nat → Nat) × Nat} (hc : okC c) : okC (nxt pr r c) := by
  obtain ⟨p0, p1, p2, p3, p4, p5⟩ := hP.2 r hr
  refine ⟨p2, fun k hk => ?_⟩
  have hk2 : k < c.2.2 - 1 + pr 3 r := hk
  show (if pr 3 r = 0 then c.2.1 else if pr 3 r = 1 then wset c.2.1 (c.2.2 - 1) (pr 4 r) else wset (wset c.2.1 (c.2.2 - 1) (pr 5 r)) (c.2.2 - 1 + 1) (pr 4 r)) k < 12
  have low : k < c.2.2 - 1 → c.2.1 k < 12 := fun h => hc.2 k (by omega)
  by_cases h0 : pr 3 r = 0
  · rw [if_pos h0]; exact low (by omega)
  · rw [if_neg h0]
    by_cases h1 : pr 3 r = 1
    · rw [if_pos h1]
      unfold wset
      by_cases e : k = c.2.2 - 1
      · rw [if_pos e]; exact p4
      · rw [if_neg e]; exact low (by omega)
    · rw [if_neg h1]
      unfold wset
      by_cases e : k = c.2.2 - 1 + 1
      · rw [if_pos e]; exact p4
      · rw [if_neg e]
        by_cases e2 : k = c.2.2 - 1
        · rw [if_pos e2]; exact p5
        · rw [if_neg e2]; exact low (by omega)
theorem wset_at (w : Nat → Nat) (k s : Nat) : wset w k s k = s := by unfold wset; rw [if_pos rfl]
theorem tw_at {E : Nat → Bool} {x w : Nat → Nat} {k s : Nat} : tw E x (wset w k s) (k + 1) = fun a => thr x (tw E x w k) a s := by
  show (fun a => thr x (tw E x (wset w k s) k) a (wset w k s k)) = _
  rw [tw_wset (Nat.le_refl _), wset_at]
theorem nxt_tw {E : Nat → Bool} {x : Nat → Nat} {R : Nat} {pr : Nat → Nat → Nat} (hP : okPr R pr) {r : Nat} (hr : r < R) (c : Nat × (Nat → Nat) × Nat) :
    tw E x (nxt pr r c).2.1 (nxt pr r c).2.2 (nxt pr r c).1 = aft x (tw E x c.2.1 (c.2.2 - 1)) (pr 2 r) (pr 3 r) (pr 4 r) (pr 5 r) := by
  obtain ⟨p0, p1, p2, p3, p4, p5⟩ := hP.2 r hr
  show tw E x (if pr 3 r = 0 then c.2.1 else if pr 3 r = 1 then wset c.2.1 (c.2.2 - 1) (pr 4 r) else wset (wset c.2.1 (c.2.2 - 1) (pr 5 r)) (c.2.2 - 1 + 1) (pr 4 r)) (c.2.2 - 1 + pr 3 r) (pr 2 r) = _
  unfold aft
  by_cases h0 : pr 3 r = 0
  · rw [if_pos h0, if_pos h0, h0]; rfl
  · rw [if_neg h0, if_neg h0]
    by_cases h1 : pr 3 r = 1
    · rw [if_pos h1, if_pos h1, h1, tw_at]
    · have h2 : pr 3 r = 2 := by omega
      rw [if_neg h1, if_neg h1, h2, show c.2.2 - 1 + 2 = (c.2.2 - 1 + 1) + 1 by omega, tw_at, tw_at]
      rfl
theorem cfW_ok {E : Nat → Bool} {K : Nat → Nat} (hK : netUp K) {R : Nat} {pr : Nat → Nat → Nat} (hP : okPr R pr) {v : Nat} (hv : v ≤ 2000) {c0 : Nat × (Nat → Nat) × Nat} (h0 : okC c0) (e0 : tw E (DD K R pr) c0.2.1 c0.2.2 c0.1 = v) :
    ∀ k, k ≤ v → okC (cfW E (DD K R pr) R pr v c0 k) ∧ tw E (DD K R pr) (cfW E (DD K R pr) R pr v c0 k).2.1 (cfW E (DD K R pr) R pr v c0 k).2.2 (cfW E (DD K R pr) R pr v c0 k).1 = v - k ∧ (cfW E (DD K R pr) R pr v c0 k).2.2 ≤ c0.2.2 + k ∧
      (k < v → 1 ≤ (cfW E (DD K R pr) R pr v c0 k).2.2 ∧ hit E (DD K R pr) R pr (cfW E (DD K R pr) R pr v c0 k) (v - (k + 1)) (rlW E (DD K R pr) R pr v c0 k) ∧ ∀ r, r < rlW E (DD K R pr) R pr v c0 k → ¬ hit E (DD K R pr) R pr (cfW E (DD K R pr) R pr v c0 k) (v - (k + 1)) r) := by
  have step : ∀ k, okC (cfW E (DD K R pr) R pr v c0 k) → tw E (DD K R pr) (cfW E (DD K R pr) R pr v c0 k).2.1 (cfW E (DD K R pr) R pr v c0 k).2.2 (cfW E (DD K R pr) R pr v c0 k).1 = v - k → k < v → 1 ≤ (cfW E (DD K R pr) R pr v c0 k).2.2 ∧ hit E (DD K R pr) R pr (cfW E (DD K R pr) R pr v c0 k) (v - (k + 1)) (rlW E (DD K R pr) R pr v c0 k) ∧ ∀ r, r < rlW E (DD K R pr) R pr v c0 k → ¬ hit E (DD K R pr) R pr (cfW E (DD K R pr) R pr v c0 k) (v - (k + 1)) r := by
    intro k h1 h2 hk
    obtain ⟨q1, r, q2, q3, q4, q5⟩ := aft_ex hK hP h1.2 h1.1 (v := v - k) (by omega) (by omega) h2
    exact ⟨q1, lst_spec ⟨r, q2, q3, q4, by rw [q5]; omega⟩⟩
  intro k
  induction k with
  | zero => intro _; exact ⟨h0, by rw [show v - 0 = v by omega]; exact e0, by show c0.2.2 ≤ _; omega, step 0 h0 (by rw [show v - 0 = v by omega]; exact e0)⟩
  | succ k ih =>
    intro hk
    obtain ⟨i1, i2, i3, i4⟩ := ih (by omega)
    obtain ⟨j1, j2, j3⟩ := i4 (by omega)
    have hr := j2.1
    have n1 := nxt_ok hP hr i1
    have n2 := nxt_tw (E := E) (x := DD K R pr) hP hr (cfW E (DD K R pr) R pr v c0 k)
    rw [j2.2.2.2] at n2
    rw [← cfW_s] at n1 n2
    refine ⟨n1, n2, ?_, step (k + 1) n1 n2⟩
    rw [cfW_s]
    show (cfW E (DD K R pr) R pr v c0 k).2.2 - 1 + pr 3 (rlW E (DD K R pr) R pr v c0 k) ≤ _
    have := (hP.2 _ hr).2.2.2.1
    omega
/-! ===== stepsByRule, leastRule, pileSigns (class) ===== -/
theorem c_byRule {E : Nat → Bool} {x w : Nat → Nat} {R r H n4 : Nat} {cp cg c2 c3 c4 c4s c5 c7 c8 : Nat → Int32} {pr : Nat → Nat → Nat} (hR : ruN R cp cg c3 c2 c5 c8 pr) (hr : r < R) (hx : tb x c7) (hT : TW E x w H c4 c4s) (hn : 16 * H + 16 ≤ n4) (hn2 : n4 < 2 ^ 30) :
    fX7_stepsByRule (nI r) n4 (nI H) c2 c3 c4 c5 c7 c8 = some (nI (aft x (tw E x w H) (pr 2 r) (pr 3 r) (pr 4 r) (pr 5 r)), ()) := by
  obtain ⟨⟨p0, p1, p2, p3, p4, p5⟩, a0, a1, a2, a3, a4, a5⟩ := hR.2 r hr
  have hR48 := hR.1
  obtain ⟨fu, hfu, hg⟩ := fu_any
  have hi := inb_nI (j := r) (n := 48) (by omega) (by decide)
  have hc := nI_clamp (n := r) (by omega)
  have hTr : ∀ b, b < 16 → c4 (16 * H + b) = nI (tw E x w H b) ∧ vl (tw E x w H b) := fun b hb => ⟨hT.1 H (Nat.le_refl _) b hb, tw_vl _ _ _ _ _⟩
  have z0 : nI (pr 3 r) = 0 ↔ pr 3 r = 0 := nI_eq (a := pr 3 r) (b := 0) (by omega) (by decide)
  have z1 : nI (pr 3 r) = 1 ↔ pr 3 r = 1 := nI_eq (a := pr 3 r) (b := 1) (by omega) (by decide)
  unfold fX7_stepsByRule aft
  rw [hfu]
  simp only [hi, bd, nm, hc, a2, a3, z0, z1, a4]
  by_cases h0 : pr 3 r = 0
  · simp only [if_pos h0, c_stepsFrom (a := pr 2 r) (by omega) hn hn2 hT, ob_s]
  · simp only [if_neg h0]
    by_cases h1 : pr 3 r = 1
    · simp only [if_pos h1, c_thr (a := pr 2 r) (s := pr 4 r) (by omega) p4 hx hTr hn (by omega), ob_s]
    · simp only [if_neg h1, e1_row, ob_s]
      have hA := rw16_le (a := pr 2 r) (s := pr 4 r) (by omega) p4
      have key : ∀ (k i n : Nat), i + k = 16 → k < n → fX7_stepsByRule_l63 n4 (nI H) c2 c3 c4 c5 c7 c8 n (nI r) (nI (rw16 (pr 2 r) (pr 4 r))) (nI (minN (fun b => sm (x (rw16 (pr 2 r) (pr 4 r) + b)) (thr x (tw E x w H) b (pr 5 r))) i)) (nI i) = some (nI (minN (fun b => sm (x (rw16 (pr 2 r) (pr 4 r) + b)) (thr x (tw E x w H) b (pr 5 r))) 16), ()) := by
        intro k
        induction k with
        | zero =>
          intro i n g1 g2
          obtain ⟨n, rfl⟩ : ∃ z, n = z + 1 := ⟨n - 1, by omega⟩
          show fX7_stepsByRule_b63 n4 (nI H) c2 c3 c4 c5 c7 c8 _ (nI r) _ _ (nI i) = _
          unfold fX7_stepsByRule_b63
          have h16 : (16 : Int32) ≤ nI i := nI_le (a := 16) (b := i) (by omega) (by omega)
          have e : i = 16 := by omega
          subst e
          rw [if_pos h16]
        | succ k ih =>
          intro i n g1 g2
          obtain ⟨n, rfl⟩ : ∃ z, n = z + 1 := ⟨n - 1, by omega⟩
          have h16 : ¬ (16 : Int32) ≤ nI i := nI_ge (a := i) (b := 16) (by omega) (by omega)
          have hvm : vl (minN (fun b => sm (x (rw16 (pr 2 r) (pr 4 r) + b)) (thr x (tw E x w H) b (pr 5 r))) i) := minN_vl (fun _ => sm_vl) i
          obtain ⟨s1, s2⟩ := tb_vl hx (show rw16 (pr 2 r) (pr 4 r) + i < 3072 by omega)
          have e := ih (i + 1) n (by omega) (by omega)
          show fX7_stepsByRule_b63 n4 (nI H) c2 c3 c4 c5 c7 c8 _ (nI r) _ _ (nI i) = _
          unfold fX7_stepsByRule_b63 fX7_stepsByRule_p116
          simp only [if_neg h16, nm, nI_add, inb_nI (j := rw16 (pr 2 r) (pr 4 r) + i) (n := 3072) (by omega) (by decide), bd, nI_clamp (n := rw16 (pr 2 r) (pr 4 r) + i) (by omega), s1, hi, hc, a5, c_thr (a := i) (s := pr 5 r) (by omega) p5 hx hTr hn (by omega), ob_s, c_sum s2 thr_vl, minI sm_vl hvm, nI_1]
          by_cases hle : minN (fun b => sm (x (rw16 (pr 2 r) (pr 4 r) + b)) (thr x (tw E x w H) b (pr 5 r))) i ≤ x (rw16 (pr 2 r) (pr 4 r) + i)
          · rw [if_pos (nI_le hle (by have := vl_lt s2; omega))]
            rw [minN_s, Nat.min_eq_left (Nat.le_trans hle (sm_ge s2))] at e
            exact e
          · rw [if_neg (nI_ge (by omega) (by have := vl_lt hvm; omega))]
            rw [minN_s] at e
            exact e
      have k0 := key 16 0 fu (by omega) (by omega)
      exact k0
theorem c_least {E : Nat → Bool} {x w : Nat → Nat} {R H n7 p v r : Nat} {c2 c3 c5 c6 c7 c7s c8 c10 c11 : Nat → Int32} {pr : Nat → Nat → Nat} (hR : ruN R c2 c3 c6 c5 c8 c11 pr) (hx : tb x c10) (hT : TW E x w H c7 c7s) (hn : 16 * H + 16 ≤ n7) (hn2 : n7 < 2 ^ 30) (hp : p < 8) (hg : w H < 12) (hv : v ≤ 2000) (h1 : hit E x R pr (p, w, H + 1) v r) (h2 : ∀ s, s < r → ¬ hit E x R pr (p, w, H + 1) v s) :
    fX9_leastRule (nI p) (nI (w H)) (nI v) n7 (nI R) c2 c3 (nI H) c5 c6 c7 c8 c10 c11 = some (nI r, ()) := by
  obtain ⟨fu, hfu, hg⟩ := fu_any
  have hR48 := hR.1
  have hrR := h1.1
  unfold fX9_leastRule
  rw [hfu]
  have key : ∀ (k i n : Nat), i + k = r → k < n → fX9_leastRule_l3 n7 (nI R) c2 c3 (nI H) c5 c6 c7 c8 c10 c11 n (nI p) (nI (w H)) (nI v) (nI i) = some (nI r, ()) := by
    intro k
    induction k with
    | zero =>
      intro i n g1 g2
      obtain ⟨n, rfl⟩ : ∃ z, n = z + 1 := ⟨n - 1, by omega⟩
      have e : i = r := by omega
      subst e
      obtain ⟨⟨p0, p1, p2, p3, p4, p5⟩, a0, a1, a2, a3, a4, a5⟩ := hR.2 i hrR
      obtain ⟨-, q1, q2, q3⟩ := h1
      have q2' : pr 1 i = w H := q2
      have q1' : pr 0 i = p := q1
      have q3' : aft x (tw E x w H) (pr 2 i) (pr 3 i) (pr 4 i) (pr 5 i) = v := q3
      show fX9_leastRule_b3 n7 (nI R) c2 c3 (nI H) c5 c6 c7 c8 c10 c11 _ (nI p) (nI (w H)) (nI v) (nI i) = _
      unfold fX9_leastRule_b3
      simp only [if_neg (nI_ge (a := i) (b := R) hrR (by omega)), inb_nI (j := i) (n := 48) (by omega) (by decide), bd, nm, nI_clamp (n := i) (by omega), a0, a1, q1', q2', if_true, c_byRule hR hrR hx hT hn hn2, ob_s, q3']
    | succ k ih =>
      intro i n g1 g2
      obtain ⟨n, rfl⟩ : ∃ z, n = z + 1 := ⟨n - 1, by omega⟩
      have hiR : i < R := by omega
      obtain ⟨⟨p0, p1, p2, p3, p4, p5⟩, a0, a1, a2, a3, a4, a5⟩ := hR.2 i hiR
      have e := ih (i + 1) n (by omega) (by omega)
      have hno := h2 i (by omega)
      have z0 : nI (pr 0 i) = nI p ↔ pr 0 i = p := nI_eq (by omega) (by omega)
      have z1 : nI (pr 1 i) = nI (w H) ↔ pr 1 i = w H := nI_eq (by omega) (by omega)
      have hav : aft x (tw E x w H) (pr 2 i) (pr 3 i) (pr 4 i) (pr 5 i) ≤ 536870912 := by
        unfold aft
        by_cases y0 : pr 3 i = 0
        · rw [if_pos y0]; exact vl_lt (tw_vl _ _ _ _ _)
        · rw [if_neg y0]
          by_cases y1 : pr 3 i = 1
          · rw [if_pos y1]; exact vl_lt thr_vl
          · rw [if_neg y1]; exact vl_lt (minN_vl (fun _ => sm_vl) 16)
      have z2 : nI (aft x (tw E x w H) (pr 2 i) (pr 3 i) (pr 4 i) (pr 5 i)) = nI v ↔ aft x (tw E x w H) (pr 2 i) (pr 3 i) (pr 4 i) (pr 5 i) = v := nI_eq (by omega) (by omega)
      show fX9_leastRule_b3 n7 (nI R) c2 c3 (nI H) c5 c6 c7 c8 c10 c11 _ (nI p) (nI (w H)) (nI v) (nI i) = _
      unfold fX9_leastRule_b3 fX9_leastRule_p63
      simp only [if_neg (nI_ge (a := i) (b := R) hiR (by omega)), inb_nI (j := i) (n := 48) (by omega) (by decide), bd, nm, nI_clamp (n := i) (by omega), a0, a1, z0, z1, c_byRule hR hiR hx hT hn hn2, ob_s, z2, nI_1]
      by_cases q0 : pr 0 i = p
      · rw [if_pos q0]
        by_cases q1 : pr 1 i = w H
        · rw [if_pos q1]
          have q2 : ¬ aft x (tw E x w H) (pr 2 i) (pr 3 i) (pr 4 i) (pr 5 i) = v := fun z => hno ⟨hiR, q0, q1, z⟩
          rw [if_neg q2]; exact e
        · rw [if_neg q1]; exact e
      · rw [if_neg q0]; exact e
  exact key r 0 fu (by omega) (by omega)
