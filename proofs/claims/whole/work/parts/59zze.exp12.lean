/-! ===== pure rows 78: the class's values of expressions ===== -/
/-- the long v holds for each setting what a value can be -/
def vB (v : Int64) (w : Nat → Nat) : Prop := ∀ st, st < 32 → bt v st = (w st).testBit 0 ∧ bt v (32 + st) = (w st).testBit 1
theorem tb_n : ∀ a : Nat, a < 4 → (a % 2 * 2 + a / 2).testBit 0 = a.testBit 1 ∧ (a % 2 * 2 + a / 2).testBit 1 = a.testBit 0 := by decide +kernel
theorem tb_a : ∀ a : Nat, a < 4 → ∀ b : Nat, b < 4 → ((a ||| b) % 2 + (a / 2 &&& b / 2) * 2).testBit 0 = (a.testBit 0 || b.testBit 0) ∧ ((a ||| b) % 2 + (a / 2 &&& b / 2) * 2).testBit 1 = (a.testBit 1 && b.testBit 1) := by decide +kernel
theorem tb_o : ∀ a : Nat, a < 4 → ∀ b : Nat, b < 4 → ((a ||| b) / 2 * 2 + (a &&& b) % 2).testBit 0 = (a.testBit 0 && b.testBit 0) ∧ ((a ||| b) / 2 * 2 + (a &&& b) % 2).testBit 1 = (a.testBit 1 || b.testBit 1) := by decide +kernel
theorem bt_lo32 : ∀ i : Nat, i < 64 → bt 4294967295 i = decide (i < 32) ∧ bt (-4294967296) i = decide (32 ≤ i) ∧ bt (-1) i = true := by decide +kernel
theorem vB_0 : vB 4294967295 (fun _ => 1) := fun st h => by
  rw [(bt_lo32 st (by omega)).1, (bt_lo32 (32 + st) (by omega)).1, decide_eq_true h, decide_eq_false (by omega)]
  exact ⟨(by decide : true = (1 : Nat).testBit 0), (by decide : false = (1 : Nat).testBit 1)⟩
theorem vB_1 : vB (-4294967296) (fun _ => 2) := fun st h => by
  rw [(bt_lo32 st (by omega)).2.1, (bt_lo32 (32 + st) (by omega)).2.1, decide_eq_false (by omega), decide_eq_true (by omega)]
  exact ⟨(by decide : false = (2 : Nat).testBit 0), (by decide : true = (2 : Nat).testBit 1)⟩
theorem vB_2 : vB (-1) (fun _ => 3) := fun st h => by
  rw [(bt_lo32 st (by omega)).2.2, (bt_lo32 (32 + st) (by omega)).2.2]
  exact ⟨(by decide : true = (3 : Nat).testBit 0), (by decide : true = (3 : Nat).testBit 1)⟩
theorem bt_shl32 (z : Int64) {i : Nat} (hi : i < 64) : bt (z <<< ((32 : Int32).toInt64 &&& 63)) i = (decide (32 ≤ i) && bt z (i - 32)) := by
  unfold bt
  show (z.toBitVec <<< (((32 : Int32).toInt64 &&& 63).toBitVec.smod 64).toNat).getLsbD i = _
  rw [show (((32 : Int32).toInt64 &&& 63).toBitVec.smod 64).toNat = 32 from by decide, BitVec.getLsbD_shiftLeft]
  by_cases q : i < 32
  · rw [decide_eq_true q, decide_eq_false (show ¬ 32 ≤ i by omega)]; simp
  · rw [decide_eq_false q, decide_eq_true (show 32 ≤ i by omega)]; simp [hi]
theorem vB_not {v : Int64} {w : Nat → Nat} (h : vB v w) (hw : ∀ st, w st < 4) : vB ((v <<< ((32 : Int32).toInt64 &&& 63)) ||| (v.toUInt64 >>> ((32 : Int32).toInt64.toUInt64 &&& Int64.toUInt64 63)).toInt64) (fun st => w st % 2 * 2 + w st / 2) := by
  intro st hst
  obtain ⟨h1, h2⟩ := h st hst
  obtain ⟨t1, t2⟩ := tb_n (w st) (hw st)
  rw [bt_or, bt_or, bt_shl32 v (by omega), bt_shl32 v (by omega), bt_shr32, bt_shr32, decide_eq_false (show ¬ 32 ≤ st by omega), decide_eq_true (show 32 ≤ 32 + st by omega), show 32 + st - 32 = st by omega, h1, h2, t1, t2, bt_hi v (show 64 ≤ 32 + (32 + st) by omega)]
  exact ⟨Bool.false_or _, by rw [Bool.true_and, Bool.or_false]⟩
theorem vB_and {v u : Int64} {w x : Nat → Nat} (h : vB v w) (hu : vB u x) (hw : ∀ st, w st < 4) (hx : ∀ st, x st < 4) : vB (((v &&& u) &&& (-4294967296)) ||| ((v ||| u) &&& 4294967295)) (fun st => (w st ||| x st) % 2 + (w st / 2 &&& x st / 2) * 2) := by
  intro st hst
  obtain ⟨h1, h2⟩ := h st hst
  obtain ⟨u1, u2⟩ := hu st hst
  obtain ⟨t1, t2⟩ := tb_a (w st) (hw st) (x st) (hx st)
  rw [bt_or, bt_or, bt_and, bt_and, bt_and, bt_and, bt_and, bt_and, bt_or, bt_or, h1, h2, u1, u2, (bt_lo32 st (by omega)).1, (bt_lo32 (32 + st) (by omega)).1, (bt_lo32 st (by omega)).2.1, (bt_lo32 (32 + st) (by omega)).2.1, decide_eq_true hst, decide_eq_false (show ¬ 32 + st < 32 by omega), decide_eq_false (show ¬ 32 ≤ st by omega), decide_eq_true (show 32 ≤ 32 + st by omega), t1, t2]
  simp
theorem vB_or {v u : Int64} {w x : Nat → Nat} (h : vB v w) (hu : vB u x) (hw : ∀ st, w st < 4) (hx : ∀ st, x st < 4) : vB (((v &&& u) &&& 4294967295) ||| ((v ||| u) &&& (-4294967296))) (fun st => (w st ||| x st) / 2 * 2 + (w st &&& x st) % 2) := by
  intro st hst
  obtain ⟨h1, h2⟩ := h st hst
  obtain ⟨u1, u2⟩ := hu st hst
  obtain ⟨t1, t2⟩ := tb_o (w st) (hw st) (x st) (hx st)
  rw [bt_or, bt_or, bt_and, bt_and, bt_and, bt_and, bt_and, bt_and, bt_or, bt_or, h1, h2, u1, u2, (bt_lo32 st (by omega)).1, (bt_lo32 (32 + st) (by omega)).1, (bt_lo32 st (by omega)).2.1, (bt_lo32 (32 + st) (by omega)).2.1, decide_eq_true hst, decide_eq_false (show ¬ 32 + st < 32 by omega), decide_eq_false (show ¬ 32 ≤ st by omega), decide_eq_true (show 32 ≤ 32 + st by omega), t1, t2]
  simp
def varL (r : Nat) : Int64 := (((xBits.getD r 0).toInt64 <<< ((32 : Int32).toInt64 &&& 63)) ||| ((((xBits.getD r 0).toInt64 <<< ((32 : Int32).toInt64 &&& 63)) ^^^ (-1)).toUInt64 >>> ((32 : Int32).toInt64.toUInt64 &&& Int64.toUInt64 63)).toInt64)
theorem var_b : ∀ r : Nat, r < 5 → ∀ st : Nat, st < 32 → bt (varL r) st = (if st.testBit r then 2 else 1).testBit 0 ∧ bt (varL r) (32 + st) = (if st.testBit r then 2 else 1).testBit 1 := by decide +kernel
theorem vB_var {r : Nat} (hr : r < 5) : vB (varL r) (fun st => if st.testBit r then 2 else 1) := fun st hst => var_b r hr st hst
