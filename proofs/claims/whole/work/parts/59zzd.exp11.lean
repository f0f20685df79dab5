/-! ===== pure rows 77: the class's expressions: a fault stays ===== -/
theorem c_failF {a : Int32} {t b fl fa : Int32} (h : ¬ fl = 0) : fX4_failHere a t b fl fa = some (257, fl, fa) := by
  unfold fX4_failHere fX4_fail fX4_fail_p17
  rw [if_neg h, ob_s]
theorem c_failN {a : Int32} {t b fa : Int32} : fX4_failHere a t b 0 fa = some (257, a, b) := by
  unfold fX4_failHere fX4_fail fX4_fail_p17
  rw [if_pos rfl, ob_s]
theorem c_skipF {w a fl fa sz nx : Int32} {nm0 : Int64} {c : Nat → Int32} (h : ¬ fl = 0) (hw : ¬ (257 : Int32) = w) : fX4_skipToken w 257 a nm0 fl fa sz nx c = some (0, (257, a, nm0, fl, fa, nx)) := by
  unfold fX4_skipToken
  rw [if_neg hw, c_failF h, ob_s]
theorem c_factorF {k : Nat} {d lo a fl fa sz nx gl : Int32} {nm0 : Int64} {c3 : Nat → Int64} {c4 : Nat → Int32} (h : ¬ fl = 0) : fX2_readFactor_n (k + 1) d lo 257 a nm0 fl fa sz nx gl c3 c4 = some (0, (257, a, nm0, fl, fa, nx)) := by
  rw [fX2_readFactor_n_s]
  unfold fX2_readFactor_o
  rw [if_neg (by decide), if_neg (by decide), if_neg (by decide), if_neg (by decide), if_neg (by decide), if_neg (by decide), c_failF h, ob_s]
theorem c_termF {k : Nat} {d lo a fl fa sz nx gl : Int32} {nm0 : Int64} {c3 : Nat → Int64} {c4 : Nat → Int32} (h : ¬ fl = 0) : fX2_readTerm_o (fX2_readFactor_n (k + 1)) d lo 257 a nm0 fl fa sz nx gl c3 c4 = some (0, (257, a, nm0, fl, fa, nx)) := by
  obtain ⟨fu, hfu, hg⟩ := fu_any
  obtain ⟨fu2, hf2⟩ : ∃ z, fu = z + 1 := ⟨fu - 1, by omega⟩
  unfold fX2_readTerm_o
  rw [c_factorF h, ob_s, hfu, hf2]
  show fX2_readTerm_o_b9 _ _ _ _ _ _ _ _ _ _ _ _ _ _ _ _ = _
  unfold fX2_readTerm_o_b9 fX2_readTerm_o_p67
  rw [if_neg (by decide), if_neg (show ¬ (257 : Int32) = 38 by decide)]
theorem c_expF {k : Nat} {d lo a fl fa sz nx gl : Int32} {nm0 : Int64} {c3 : Nat → Int64} {c4 : Nat → Int32} (h : ¬ fl = 0) : fX2_readExpression_o (fX2_readTerm_o (fX2_readFactor_n (k + 1))) d lo 257 a nm0 fl fa sz nx gl c3 c4 = some (0, (257, a, nm0, fl, fa, nx)) := by
  obtain ⟨fu, hfu, hg⟩ := fu_any
  obtain ⟨fu2, hf2⟩ : ∃ z, fu = z + 1 := ⟨fu - 1, by omega⟩
  unfold fX2_readExpression_o
  rw [c_termF h, ob_s, hfu, hf2]
  show fX2_readExpression_o_b9 _ _ _ _ _ _ _ _ _ _ _ _ _ _ _ _ = _
  unfold fX2_readExpression_o_b9 fX2_readExpression_o_p67
  rw [if_neg (by decide), if_neg (show ¬ (257 : Int32) = 124 by decide)]
/-- the class's scanner at the token f; and behind a fault -/
def scC (B : Nat → Nat) (N f : Nat) (t a : Int32) (nm0 : Int64) (fl fa nx : Int32) : Prop := if tK B N f = 257 then t = 257 ∧ fl = 1 ∧ fa = nI f else t = nI (tK B N f) ∧ a = nI f ∧ fl = 0 ∧ nx = nI (tE B N f) ∧ (258 ≤ tK B N f → nm0 = nC (wj B f (tL B N f)))
def scF (e : Nat × Nat) (t fl fa : Int32) : Prop := t = 257 ∧ fl = nI e.1 ∧ fa = nI e.2 ∧ ¬ fl = 0
theorem c_adv {B : Nat → Nat} {N : Nat} {c m : Nat → Int32} (h : txt B N c m) (t0 a0 fa : Int32) (nm0 : Int64) {f : Nat} (hf : f ≤ N) : ∃ (t a : Int32) (nm1 : Int64) (fl fa2 nx : Int32), fX4_advance t0 a0 nm0 0 fa (nI N) (nI (tE B N f)) c = some (t, a, nm1, fl, fa2, nx) ∧ scC B N (tX B N f) t a nm1 fl fa2 nx := by
  obtain ⟨nm1, nx, e1, e2⟩ := c_advance h t0 a0 fa nm0 (tE_le (B := B) hf).1
  rw [e1]
  unfold scC tX
  by_cases q : tK B N (tF B N (tE B N f)) = 257
  · rw [advO_bad q]
    refine ⟨_, _, _, _, _, _, rfl, ?_⟩
    rw [if_pos q]
    exact ⟨rfl, rfl, rfl⟩
  · rw [advO_ok q]
    refine ⟨_, _, _, _, _, _, rfl, ?_⟩
    rw [if_neg q]
    exact ⟨rfl, rfl, rfl, rfl, e2⟩
