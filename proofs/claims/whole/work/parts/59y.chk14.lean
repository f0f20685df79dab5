/-! ===== pure rows 54: the reference's table of steps ===== -/
/-- rounds with the same bound, for both phases -/
def rInv (G : Nat → Nat → Nat → Nat) (q : Nat → Bool) (y0 D x : Nat → Nat) (f : Int32) (m : Nat) : Prop :=
  (∀ j, j < 288 * G 7 0 0 → vl (x j)) ∧ (∀ j, j < 288 * G 7 0 0 → x j ≤ y0 j) ∧ (f = 0 ∨ f = 1) ∧ (∀ y : Nat → Nat, (∀ j, j < 288 * G 7 0 0 → y j ≤ y0 j) → (∀ s st col, s < G 7 0 0 → st < 32 → col < 9 → q col = true → y (rI s st col) ≤ der G y s st col) → ∀ j, j < 288 * G 7 0 0 → y j ≤ x j) ∧
    (f = 0 → ∀ s st col, s < G 7 0 0 → st < 32 → col < 9 → q col = true → x (rI s st col) ≤ der G x s st col) ∧ (∀ j, j < 288 * G 7 0 0 → ¬ q (j % 9) = true → x j = y0 j) ∧ (f ≠ 0 → 288 * G 7 0 0 - cntN (288 * G 7 0 0) D x + 1 ≤ m)
theorem isL_closed {G : Nat → Nat → Nat → Nat} {q : Nat → Bool} {y0 D : Nat → Nat} (hD : isL (288 * G 7 0 0) (opQ G q) y0 D) : ∀ s st col, s < G 7 0 0 → st < 32 → col < 9 → q col = true → D (rI s st col) ≤ der G D s st col := by
  intro s st col q1 q2 q3 q4
  have := hD.2.2.1 (rI s st col) (rI_lt q1 q2 q3)
  rw [opQ_at q2 q3 q4] at this
  exact this
theorem rInv_step {G : Nat → Nat → Nat → Nat} (h : okPg G) {q : Nat → Bool} {y0 D x x2 : Nat → Nat} (hy0 : ∀ j, j < 288 * G 7 0 0 → y0 j ≤ 536870912) (hD : isL (288 * G 7 0 0) (opQ G q) y0 D) {f b : Int32} {m : Nat} (hi : rInv G q y0 D x f m) (hf : f ≠ 0) (he : exOk G (fun col => q col = true) x x2 0 b (fun a _ _ => a < G 7 0 0)) : m ≠ 0 ∧ rInv G q y0 D x2 b (m - 1) := by
  obtain ⟨i1, i2, i3, i4, i5, i6, i7⟩ := hi
  obtain ⟨e1, e2, e3, e4, e5, e6, e7⟩ := he
  have hm := i7 hf
  have hD2 : ∀ j, j < 288 * G 7 0 0 → D j ≤ x2 j := e5 D (i4 D hD.2.1 (isL_closed hD)) (isL_closed hD)
  refine ⟨by omega, e7, fun j hj => Nat.le_trans (e1 j hj) (i2 j hj), e2, fun y y1 y2 => e5 y (i4 y y1 y2) y2, fun b0 s st col q1 q2 q3 q4 => ?_, fun j hj hq => (e6 j hj hq).trans (i6 j hj hq), fun b0 => ?_⟩
  · have same := (e3.mp b0).2
    have w := e4 s st col q1 q2 q3 q4 q1
    rw [der_dep h q1 q2 q3 (fun j hj _ => (same j hj).symm)] at w
    exact w
  · have hlow : ∃ j, j < 288 * G 7 0 0 ∧ x2 j < x j := by
      apply Classical.byContradiction
      intro hn
      exact b0 (e3.mpr ⟨rfl, fun j hj => Nat.le_antisymm (e1 j hj) (Nat.not_lt.mp (fun w => hn ⟨j, hj, w⟩))⟩)
    have hgr := growL (opQ_ok h q) hD i1 e7 hD2 e1 i2 (fun j hj => ?_) hlow
    · have := cntN_lt hD2 e1 hgr
      have := cntN_le (288 * G 7 0 0) D x2
      omega
    · unfold opQ
      by_cases ha : q (j % 9) = true
      · rw [if_pos ha]
        have := e4 (j / 288) (j / 9 % 32) (j % 9) (by omega) (by omega) (by omega) ha (by omega)
        rw [rI_at] at this
        exact this
      · rw [if_neg ha]; exact vl_lt (e7 j hj)
theorem exOk_Q {G : Nat → Nat → Nat → Nat} {Q Q2 : Nat → Prop} {x x2 : Nat → Nat} {f f2 : Int32} {P : Nat → Nat → Nat → Prop} (h : exOk G Q x x2 f f2 P) (hq : ∀ col, Q col ↔ Q2 col) : exOk G Q2 x x2 f f2 P := by
  obtain ⟨e1, e2, e3, e4, e5, e6, e7⟩ := h
  exact ⟨e1, e2, e3, fun s st col q1 q2 q3 q4 => e4 s st col q1 q2 q3 ((hq col).mpr q4), fun y y1 y2 => e5 y y1 (fun s st col q1 q2 q3 q4 => y2 s st col q1 q2 q3 ((hq col).mp q4)), fun j hj hn => e6 j hj (fun z => hn ((hq _).mp z)), e7⟩
def qE (col : Nat) : Bool := decide (col < 8)
def qF (col : Nat) : Bool := decide (col = 8)
theorem qE_i (col : Nat) : col < 8 ↔ qE col = true := by unfold qE; rw [decide_eq_true_eq]
theorem qF_i (col : Nat) : col = 8 ↔ qF col = true := by unfold qF; rw [decide_eq_true_eq]
/-- what the ends' columns derive comes from the ends' columns alone -/
theorem der_cols {G : Nat → Nat → Nat → Nat} (h : okPg G) {x y : Nat → Nat} {s st col : Nat} (hs : s < G 7 0 0) (hst : st < 32) (hcol : col < 8) (hd : ∀ j, j < 288 * G 7 0 0 → j % 9 < 8 → x j = y j) : der G x s st col = der G y s st col := by
  obtain ⟨k0, k1, k2, k3, k4, k5⟩ := h.2.2.2.2 s hs
  have tg : ∀ p st' col', (p < 40 → p < G 7 0 0) → st' < 32 → col' < 8 → tgt x p st' col' = tgt y p st' col' := by
    intro p st' col' hp h1 h2
    by_cases q : p < 40
    · rw [tgt_lt q, tgt_lt q]
      obtain ⟨e1, e2, e3⟩ := rI_inv (s := p) h1 (show col' < 9 by omega)
      exact hd _ (rI_lt (hp q) h1 (by omega)) (by rw [e3]; exact h2)
    · unfold tgt
      rw [if_neg q, if_neg q]
  have hn : ∀ v, v < 2 → G 4 s v < 40 → G 4 s v < G 7 0 0 := fun v hv q => ((k5 v hv).2.1 q).1
  unfold der
  by_cases h3 : G 0 s 0 = 3
  · rw [if_pos h3, if_pos h3, if_neg (by omega), if_neg (by omega)]
    have he := en_ok h hs h3
    rw [minN_congr 8 (fun m hm => by rw [tg _ _ _ he (by omega) hm, tg _ _ _ (hn 1 (by decide)) (by omega) hcol])]
  · rw [if_neg h3, if_neg h3]
    rw [minN_congr 2 (fun v hv => by rw [tg _ _ _ (hn v hv) (sa_lt k1 hst) hcol])]
def allA : Nat → Nat → Bool := fun _ _ => true
theorem opA_all {G : Nat → Nat → Nat → Nat} {x : Nat → Nat} {j : Nat} : opA G allA x j = der G x (j / 288) (j / 9 % 32) (j % 9) := by unfold opA allA; rw [if_pos rfl]
theorem r_solve {G : Nat → Nat → Nat → Nat} {M : Nat → Nat → Int32} (h : okPg G) (hm : mPg G M) (n1 n2 n3 : Int32) (ce cf va : Nat → Int32) :
    Wq (fX11_solve (nI (G 7 0 0)) n1 n2 n3 ce cf (M 0) (M 1) (M 2) (M 3) (M 5) (M 6) (M 7) va (M 4)) (fun r => ∃ x, tmE (G 7 0 0) x r.2.2.2.1 ∧ tmF (G 7 0 0) x r.2.2.2.2.1 ∧ isL (288 * G 7 0 0) (opA G allA) (fun _ => 536870912) x) := by
  obtain ⟨fu, hfu, hgu⟩ := fu_any
  have hS := h.1
  obtain ⟨D1, hD1⟩ := ex_L (N := 288 * G 7 0 0) (opQ_ok h qE) (y0 := fun _ => 536870912) (fun j _ => Or.inr rfl)
  obtain ⟨D, hD⟩ := ex_L (N := 288 * G 7 0 0) (opA_ok h allA) (y0 := fun _ => 536870912) (fun j _ => Or.inr rfl)
  have hDcl : ∀ s st col, s < G 7 0 0 → st < 32 → col < 9 → D (rI s st col) ≤ der G D s st col := by
    intro s st col q1 q2 q3
    have := hD.2.2.1 (rI s st col) (rI_lt q1 q2 q3)
    rw [opA_at q2 q3 rfl] at this
    exact this
  -- the second phase
  have two : ∀ (m1 m2 m3 : Int32) (x1 : Nat → Nat) (c cf va : Nat → Int32), (∀ j, j < 288 * G 7 0 0 → vl (x1 j)) → tmE (G 7 0 0) x1 c → tmF (G 7 0 0) x1 cf → (∀ j, j < 288 * G 7 0 0 → D j ≤ x1 j) → (∀ s st col, s < G 7 0 0 → st < 32 → col < 9 → qE col = true → x1 (rI s st col) ≤ der G x1 s st col) → Wq (fX11_solve_l192 (nI (G 7 0 0)) (M 0) (M 1) (M 2) (M 3) (M 5) (M 6) (M 7) (M 4) fu 1 m1 m2 m3 c cf va) (fun r => ∃ x, tmE (G 7 0 0) x r.2.2.2.1 ∧ tmF (G 7 0 0) x r.2.2.2.2.1 ∧ isL (288 * G 7 0 0) (opA G allA) (fun _ => 536870912) x) := by
    intro m1 m2 m3 x1 c cf va hv hE hF hDx hcl1
    obtain ⟨D2, hD2⟩ := ex_L (N := 288 * G 7 0 0) (opQ_ok h qF) (y0 := x1) hv
    refine Wq_wh (F := fun n (s : Int32 × Int32 × Int32 × Int32 × (Nat → Int32) × (Nat → Int32) × (Nat → Int32)) => fX11_solve_l192 (nI (G 7 0 0)) (M 0) (M 1) (M 2) (M 3) (M 5) (M 6) (M 7) (M 4) n s.1 s.2.1 s.2.2.1 s.2.2.2.1 s.2.2.2.2.1 s.2.2.2.2.2.1 s.2.2.2.2.2.2)
      (B := fun k s => fX11_solve_b192 (nI (G 7 0 0)) (M 0) (M 1) (M 2) (M 3) (M 5) (M 6) (M 7) (M 4) (fun a b c d e f g => k (a, b, c, d, e, f, g)) s.1 s.2.1 s.2.2.1 s.2.2.2.1 s.2.2.2.2.1 s.2.2.2.2.2.1 s.2.2.2.2.2.2) (fun _ _ => rfl)
      (fun m s => ∃ x, s.2.2.2.2.1 = c ∧ tmE (G 7 0 0) x c ∧ tmF (G 7 0 0) x s.2.2.2.2.2.1 ∧ rInv G qF x1 D2 x s.1 m) ?_ fu 11521 (1, m1, m2, m3, c, cf, va) (by omega) ?_
    · rintro m ⟨f, p1, p2, p3, c', cf', va'⟩ k ⟨x, w1, w2, w3, w4⟩ ih
      simp only at w1 w3 w4
      subst w1
      show Wq (fX11_solve_b192 (nI (G 7 0 0)) (M 0) (M 1) (M 2) (M 3) (M 5) (M 6) (M 7) (M 4) (fun a b c d e f g => k (a, b, c, d, e, f, g)) f p1 p2 p3 c' cf' va') _
      unfold fX11_solve_b192
      refine Wq_if (fun f0 => ?_) (fun f0 => ?_)
      · obtain ⟨i1, i2, i3, i4, i5, i6, i7⟩ := w4
        refine Wq_some ⟨x, w2, w3, ?_⟩
        have hx1 : ∀ j, j < 288 * G 7 0 0 → j % 9 < 8 → x j = x1 j := fun j hj hc => i6 j hj (fun z => by have := (qF_i _).mpr z; omega)
        have hcl : ∀ j, j < 288 * G 7 0 0 → x j ≤ opA G allA x j := by
          intro j hj
          rw [opA_all]
          by_cases hc : j % 9 < 8
          · have a1 := hcl1 (j / 288) (j / 9 % 32) (j % 9) (by omega) (by omega) (by omega) ((qE_i _).mp hc)
            rw [rI_at] at a1
            rw [hx1 j hj hc, der_cols h (by omega) (by omega) hc hx1]
            exact a1
          · have a1 := i5 f0 (j / 288) (j / 9 % 32) (j % 9) (by omega) (by omega) (by omega) ((qF_i _).mp (by omega))
            rw [rI_at] at a1
            exact a1
        have hxv : ∀ j, j < 288 * G 7 0 0 → x j ≤ 536870912 := fun j hj => vl_lt (i1 j hj)
        have hge : ∀ j, j < 288 * G 7 0 0 → D j ≤ x j := i4 D hDx (fun s st col q1 q2 q3 _ => hDcl s st col q1 q2 q3)
        have hxD := isL_eq hD hxv hcl hge
        have hop : ∀ j, j < 288 * G 7 0 0 → opA G allA x j = opA G allA D j := fun j hj => Nat.le_antisymm ((opA_ok h _).2.1 x D (fun i hi => Nat.le_of_eq (hxD i hi)) j hj) ((opA_ok h _).2.1 D x (fun i hi => Nat.le_of_eq (hxD i hi).symm) j hj)
        exact ⟨i1, hxv, hcl, fun j hj hlt => by rw [hop j hj, hxD j hj]; exact hD.2.2.2.1 j hj (by rw [← hxD j hj]; exact hlt), fun y y1 y2 j hj => by rw [hxD j hj]; exact hD.2.2.2.2 y y1 y2 j hj⟩
      · obtain ⟨f2, q1, q2, q3, x2, cf2, va2, r1, r2, r3, r4⟩ := r_l205 h hm (c := c') (fun a b c d e f g => k (a, b, c, d, e, f, g)) (G 7 0 0) fu 0 p1 p2 p3 x cf' va' (Nat.le_refl _) (by omega) (Or.inl rfl) w4.1 w2 w3
        obtain ⟨z1, z2⟩ := rInv_step h (fun j hj => vl_lt (hv j hj)) hD2 w4 f0 (exOk_Q r4 qF_i)
        rw [nm_q, hfu]
        have r1' : fX11_solve_l205 (nI (G 7 0 0)) (M 0) (M 1) (M 2) (M 3) (M 5) (M 6) (M 7) (M 4) (fun a b c d e f g => k (a, b, c, d, e, f, g)) fu 0 (nI (G 7 0 0) - 1) p1 p2 p3 c' cf' va' = k (f2, q1, q2, q3, c', cf2, va2) := r1
        rw [r1']
        exact ih (m - 1) _ (by omega) ⟨x2, rfl, r2, r3, z2⟩
    · have hcn := cntN_le (288 * G 7 0 0) D2 x1
      exact ⟨x1, rfl, hE, hF, hv, fun _ _ => Nat.le_refl _, Or.inr rfl, fun y y1 _ => y1, fun z => absurd z n10, fun _ _ _ => rfl, fun _ => by omega⟩
  -- the first phase
  have one : ∀ (c cf va : Nat → Int32), (∀ j, j < 10240 → c j = 2000000) → (∀ j, j < 1280 → cf j = 2000000) → Wq (fX11_solve_l48 (nI (G 7 0 0)) (M 0) (M 1) (M 2) (M 3) (M 5) (M 6) (M 7) (M 4) fu 1 n1 n2 n3 c cf va) (fun r => ∃ x, tmE (G 7 0 0) x r.2.2.2.1 ∧ tmF (G 7 0 0) x r.2.2.2.2.1 ∧ isL (288 * G 7 0 0) (opA G allA) (fun _ => 536870912) x) := by
    intro c cf va hc hcf
    refine Wq_wh (F := fun n (s : Int32 × Int32 × Int32 × Int32 × (Nat → Int32) × (Nat → Int32) × (Nat → Int32)) => fX11_solve_l48 (nI (G 7 0 0)) (M 0) (M 1) (M 2) (M 3) (M 5) (M 6) (M 7) (M 4) n s.1 s.2.1 s.2.2.1 s.2.2.2.1 s.2.2.2.2.1 s.2.2.2.2.2.1 s.2.2.2.2.2.2)
      (B := fun k s => fX11_solve_b48 (nI (G 7 0 0)) (M 0) (M 1) (M 2) (M 3) (M 5) (M 6) (M 7) (M 4) (fun a b c d e f g => k (a, b, c, d, e, f, g)) s.1 s.2.1 s.2.2.1 s.2.2.2.1 s.2.2.2.2.1 s.2.2.2.2.2.1 s.2.2.2.2.2.2) (fun _ _ => rfl)
      (fun m s => ∃ x, s.2.2.2.2.2.1 = cf ∧ tmE (G 7 0 0) x s.2.2.2.2.1 ∧ tmF (G 7 0 0) x cf ∧ rInv G qE (fun _ => 536870912) D1 x s.1 m) ?_ fu 11521 (1, n1, n2, n3, c, cf, va) (by omega) ?_
    · rintro m ⟨f, p1, p2, p3, c', cf', va'⟩ k ⟨x, w1, w2, w3, w4⟩ ih
      simp only at w1 w2 w4
      subst w1
      show Wq (fX11_solve_b48 (nI (G 7 0 0)) (M 0) (M 1) (M 2) (M 3) (M 5) (M 6) (M 7) (M 4) (fun a b c d e f g => k (a, b, c, d, e, f, g)) f p1 p2 p3 c' cf' va') _
      unfold fX11_solve_b48
      rw [hfu]
      refine Wq_if (fun f0 => ?_) (fun f0 => ?_)
      · exact two p1 p2 p3 x c' cf' va' w4.1 w2 w3 (w4.2.2.2.1 D hD.2.1 (fun s st col q1 q2 q3 _ => hDcl s st col q1 q2 q3)) (w4.2.2.2.2.1 f0)
      · obtain ⟨f2, q1, q2, q3, x2, c2, va2, r1, r2, r3, r4⟩ := r_l61 h hm (cf := cf') (fun a b c d e f g => k (a, b, c, d, e, f, g)) (G 7 0 0) fu 0 p1 p2 p3 x c' va' (Nat.le_refl _) (by omega) (Or.inl rfl) w4.1 w2 w3
        obtain ⟨z1, z2⟩ := rInv_step h (fun j hj => Nat.le_refl _) hD1 w4 f0 (exOk_Q r4 qE_i)
        rw [nm_q]
        have r1' : fX11_solve_l61 (nI (G 7 0 0)) (M 0) (M 1) (M 2) (M 3) (M 5) (M 6) (M 7) (M 4) (fun a b c d e f g => k (a, b, c, d, e, f, g)) fu 0 (nI (G 7 0 0) - 1) p1 p2 p3 c' cf' va' = k (f2, q1, q2, q3, c2, cf', va2) := r1
        rw [r1']
        exact ih (m - 1) _ (by omega) ⟨x2, rfl, r2, r3, z2⟩
    · have hcn := cntN_le (288 * G 7 0 0) D1 (fun _ => 536870912)
      refine ⟨fun _ => 536870912, rfl, fun g s l t a1 a2 a3 a4 => ⟨?_, Or.inr rfl⟩, fun g s l a1 a2 a3 => ⟨?_, Or.inr rfl⟩, fun _ _ => Or.inr rfl, fun _ _ => Nat.le_refl _, Or.inr rfl, fun y y1 _ => y1, fun z => absurd z n10, fun _ _ _ => rfl, fun _ => by omega⟩
      · rw [mI_inf]; exact hc _ (by unfold atI; omega)
      · rw [mI_inf]; exact hcf _ (by unfold atI; omega)
  have fillF : ∀ (k i n : Nat) (c cf : Nat → Int32), i + k = 1280 → k < n → (∀ j, j < 10240 → c j = 2000000) → (∀ j, j < i → cf j = 2000000) → Wq (fX11_solve_l25 (nI (G 7 0 0)) (M 0) (M 1) (M 2) (M 3) (M 5) (M 6) (M 7) (M 4) n (nI i) n1 n2 n3 c cf va) (fun r => ∃ x, tmE (G 7 0 0) x r.2.2.2.1 ∧ tmF (G 7 0 0) x r.2.2.2.2.1 ∧ isL (288 * G 7 0 0) (opA G allA) (fun _ => 536870912) x) := by
    intro k
    induction k with
    | zero =>
      intro i n c cf g1 g2 hc hcf
      obtain ⟨n, rfl⟩ : ∃ z, n = z + 1 := ⟨n - 1, by omega⟩
      show Wq (fX11_solve_b25 (nI (G 7 0 0)) (M 0) (M 1) (M 2) (M 3) (M 5) (M 6) (M 7) (M 4) _ (nI i) n1 n2 n3 c cf va) _
      unfold fX11_solve_b25
      have h9 : (1280 : Int32) ≤ nI i := nI_le (a := 1280) (b := i) (by omega) (by omega)
      rw [if_pos h9, hfu]
      exact one c cf va hc (fun j hj => hcf j (by omega))
    | succ k ih =>
      intro i n c cf g1 g2 hc hcf
      obtain ⟨n, rfl⟩ : ∃ z, n = z + 1 := ⟨n - 1, by omega⟩
      show Wq (fX11_solve_b25 (nI (G 7 0 0)) (M 0) (M 1) (M 2) (M 3) (M 5) (M 6) (M 7) (M 4) _ (nI i) n1 n2 n3 c cf va) _
      unfold fX11_solve_b25
      have h9 : ¬ (1280 : Int32) ≤ nI i := nI_ge (a := i) (b := 1280) (by omega) (by omega)
      rw [if_neg h9, bd_eq _ (inb_nI (j := i) (n := 1280) (by omega) (by decide)), nm_q, nI_clamp (n := i) (by omega), nm_q, nI_1]
      refine ih (i + 1) n c _ (by omega) (by omega) hc (fun j hj => ?_)
      by_cases e : j = i
      · rw [e, upd_at]
      · rw [upd_ne e]; exact hcf j (by omega)
  have fillE : ∀ (k i n : Nat) (c : Nat → Int32), i + k = 10240 → k < n → (∀ j, j < i → c j = 2000000) → Wq (fX11_solve_l2 (nI (G 7 0 0)) (M 0) (M 1) (M 2) (M 3) (M 5) (M 6) (M 7) (M 4) n (nI i) n1 n2 n3 c cf va) (fun r => ∃ x, tmE (G 7 0 0) x r.2.2.2.1 ∧ tmF (G 7 0 0) x r.2.2.2.2.1 ∧ isL (288 * G 7 0 0) (opA G allA) (fun _ => 536870912) x) := by
    intro k
    induction k with
    | zero =>
      intro i n c g1 g2 hc
      obtain ⟨n, rfl⟩ : ∃ z, n = z + 1 := ⟨n - 1, by omega⟩
      show Wq (fX11_solve_b2 (nI (G 7 0 0)) (M 0) (M 1) (M 2) (M 3) (M 5) (M 6) (M 7) (M 4) _ (nI i) n1 n2 n3 c cf va) _
      unfold fX11_solve_b2
      have h9 : (10240 : Int32) ≤ nI i := nI_le (a := 10240) (b := i) (by omega) (by omega)
      rw [if_pos h9, hfu]
      exact fillF 1280 0 fu c cf (by omega) (by omega) (fun j hj => hc j (by omega)) (fun j hj => absurd hj (by omega))
    | succ k ih =>
      intro i n c g1 g2 hc
      obtain ⟨n, rfl⟩ : ∃ z, n = z + 1 := ⟨n - 1, by omega⟩
      show Wq (fX11_solve_b2 (nI (G 7 0 0)) (M 0) (M 1) (M 2) (M 3) (M 5) (M 6) (M 7) (M 4) _ (nI i) n1 n2 n3 c cf va) _
      unfold fX11_solve_b2
      have h9 : ¬ (10240 : Int32) ≤ nI i := nI_ge (a := i) (b := 10240) (by omega) (by omega)
      rw [if_neg h9, bd_eq _ (inb_nI (j := i) (n := 10240) (by omega) (by decide)), nm_q, nI_clamp (n := i) (by omega), nm_q, nI_1]
      refine ih (i + 1) n _ (by omega) (by omega) (fun j hj => ?_)
      by_cases e : j = i
      · rw [e, upd_at]
      · rw [upd_ne e]; exact hc j (by omega)
  unfold fX11_solve
  rw [hfu]
  exact fillE 10240 0 fu ce (by omega) (by omega) (fun j hj => absurd hj (by omega))
