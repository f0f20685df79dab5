/-! ===== pure rows 26: far of the class ===== -/
theorem thr_x {x x2 t t2 : Nat → Nat} {a s : Nat} (ha : a < 16) (hs : s < 12) (h : ∀ j, j < 3072 → x j = x2 j) (ht : ∀ b, b < 16 → t b = t2 b) : thr x t a s = thr x2 t2 a s := by
  have hA := rw16_le ha hs
  unfold thr
  exact minN_congr 16 (fun i hi => by rw [h _ (by omega), ht i hi])
theorem tw_x {E : Nat → Bool} {x x2 w : Nat → Nat} (h : ∀ j, j < 3072 → x j = x2 j) : ∀ k, (∀ i, i < k → w i < 12) → ∀ a, a < 16 → tw E x w k a = tw E x2 w k a := by
  intro k
  induction k with
  | zero => intro _ a _; rfl
  | succ k ih =>
    intro hw a ha
    exact thr_x ha (hw k (by omega)) h (fun b hb => ih (fun i hi => hw i (by omega)) b hb)
theorem st_in {a : Nat} (ha : a < 8) : ¬ (nI a < 0 ∨ 8 ≤ nI a) := fun k => k.elim (fun z => nI_pos (n := a) (by omega) z) (fun z => absurd ((nI_leI (a := 8) (b := a) (by decide) (by omega)).mp z) (by omega))
theorem st_out {a : Int32} (h : ¬ (a < 0 ∨ 8 ≤ a)) : ∃ j : Nat, j < 8 ∧ a = nI j := by
  obtain ⟨j, -, h1, h2⟩ := rng (l := 0) (h := 7) rfl rfl (by decide) (by omega) (fun k => h (k.imp id (lt_7_8 a).mp))
  exact ⟨j, by omega, h2⟩
theorem c_far_x {a : Nat} (ha : a < 8) {E R L : Nat} {so chg ht0 : Int32} {c2 c3 c4 c5 c6 c7 c8 c9 cw d1 d2 : Nat → Int32} {pr : Nat → Nat → Nat} {K w : Nat → Nat} (hR : ruN R c4 c5 c6 c7 c8 c9 pr) (hK : ∀ i, i < 192 → K i < 65536 ∧ c2 i = nI (K i)) (hso : okTab so chg c3 K R pr) (hE : E < 65536) (hL : L ≤ 30) (hw : ∀ j, j < L → cw j = nI (w j) ∧ w j < 12) :
    Wq (fX10_far_x (nI a) so (nI R) (nI E) (nI L) chg c2 c3 c4 c5 c6 c7 c8 c9 30 ht0 d1 cw d2) (fun r => r.1 = 0 ∧ r.2.2.1 = chg ∧ ∃ x, tb x r.2.2.2.1 ∧ isD (x0 K) R pr x ∧ r.2.1 = farA (tw E.testBit x w L a)) := by
  unfold fX10_far_x fX10_far_x_p27
  refine Wq_tg ?_
  rw [e_isState, if_neg (st_in ha), ob_s, if_neg n10]
  refine Wq_ob (c_steps ha hR hK hso hE hL hw) (fun o ho => ?_)
  obtain ⟨q0, q1, x, q2, q3, q4, q5⟩ := ho
  have cf := c_farA (tw_vl E.testBit x w L a)
  rw [if_pos q0, q4]
  by_cases hc : (536870912 : Int32) ≤ nI (tw E.testBit x w L a)
  · rw [if_pos hc] at cf ⊢
    exact Wq_some ⟨rfl, q1, x, q2, q3, cf⟩
  · rw [if_neg hc] at cf ⊢
    exact Wq_some ⟨rfl, q1, x, q2, q3, cf⟩
theorem c_far_x_bad {a : Int32} (ha : a < 0 ∨ 8 ≤ a) (so R E L chg ht0 : Int32) (c2 c3 c4 c5 c6 c7 c8 c9 cw d1 d2 : Nat → Int32) : fX10_far_x a so R E L chg c2 c3 c4 c5 c6 c7 c8 c9 30 ht0 d1 cw d2 = some (0, -2, so, c3, ht0, d1, d2) := by
  unfold fX10_far_x
  rw [e_isState, if_pos ha, ob_s, if_pos rfl]; rfl
theorem c_far_dt {a : Nat} (ha : a < 8) {E R L : Nat} {chg : Int32} {c2 c4 c5 c6 c7 c8 c9 cw : Nat → Int32} {pr : Nat → Nat → Nat} {K w : Nat → Nat} (hR : ruN R c4 c5 c6 c7 c8 c9 pr) (hK : ∀ i, i < 192 → K i < 65536 ∧ c2 i = nI (K i)) (hso : ¬ chg = -1) (hE : E < 65536) (hL : L ≤ 30) (hw : ∀ j, j < L → cw j = nI (w j) ∧ w j < 12) :
    Wq (fX10_far_dt (nI a) (nI R) (nI E) (nI L) chg c2 c4 c5 c6 c7 c8 c9 cw) (fun r => r.1 = 1 ∧ r.2.2.1 = chg ∧ ∃ x, tb x r.2.2.2.1 ∧ isD (x0 K) R pr x ∧ r.2.1 = farA (tw E.testBit x w L a) ∧ r.2.2.2.2.1 = 30) := by
  unfold fX10_far_dt fX10_far_dt_p100027
  rw [e_isState, if_neg (st_in ha), ob_s, if_neg n10]
  refine Wq_tg ?_
  refine Wq_ob (c_steps_dt ha hR hK hso hE hL hw) (fun o ho => ?_)
  obtain ⟨q0, q1, x, q2, q3, q4, q5, q6⟩ := ho
  have cf := c_farA (tw_vl E.testBit x w L a)
  rw [if_pos q0, q4]
  by_cases hc : (536870912 : Int32) ≤ nI (tw E.testBit x w L a)
  · rw [if_pos hc] at cf ⊢
    exact Wq_some ⟨rfl, q1, x, q2, q3, cf, q5⟩
  · rw [if_neg hc] at cf ⊢
    exact Wq_some ⟨rfl, q1, x, q2, q3, cf, q5⟩
theorem c_far_dt_bad {a : Int32} (ha : a < 0 ∨ 8 ≤ a) (R E L chg : Int32) (c2 c4 c5 c6 c7 c8 c9 cw : Nat → Int32) : ∃ o, fX10_far_dt a R E L chg c2 c4 c5 c6 c7 c8 c9 cw = some o ∧ o.1 = 0 ∧ o.2.1 = -2 := by
  unfold fX10_far_dt
  rw [e_isState, if_pos ha, ob_s, if_pos rfl]
  exact ⟨_, rfl, rfl, rfl⟩
theorem r_far_bad {a : Int32} (ha : a < 0 ∨ 8 ≤ a) (thr R L kn : Int32) (c1 c2 m c4 c5 c6 c7 : Nat → Int32) : fX11_far a thr R L kn c1 c2 m c4 c5 c6 c7 = some (-2, 0, kn, c2, c5, c7) := by
  unfold fX11_far
  have h : a < 0 ∨ 7 < a := ha.imp id (lt_7_8 a).mpr
  rw [e_in, if_pos h, ob_s, if_pos rfl]
