/-! ===== pure rows 59g: the class's check ===== -/
/-- the class's trace behind a check -/
def trC (G : Nat → Nat → Nat → Nat) (Y : Nat → Nat) (lg : Int32) (c4 c5 c6 c7 : Nat → Int32) : Prop := (ansN G Y ≤ 2000 → lg = nI (ansN G Y) ∧ rcd G Y (ansN G Y) (ansN G Y) c4 c5 c6 c7) ∧ (2000 < ansN G Y → lg = 0)
theorem c_stepsToFail {G : Nat → Nat → Nat → Nat} {C : Nat → Nat → Int32} {value : Nat → Int64} (h : okPg G) (hc : cPg G C value) {Y : Nat → Nat} (hY : isL (288 * G 7 0 0) (opA G allA) (fun _ => 536870912) Y) {re ex : Nat → Int32} (hr : isRe G re ex) {X : Nat → Nat} {cost : Nat → Int32} (hX : isL (288 * G 7 0 0) (opA G (fun s st => bi (re s) st)) (fun _ => 536870912) X) (hcost : tbS (288 * G 7 0 0) X cost) : fX0_stepsToFail (nI (G 8 0 0)) (C 0) cost = some (nI (ansN G Y), ()) := by
  have hS := h.1
  unfold fX0_stepsToFail fX0_stepsToFail_p30 ansN
  rw [c_firstPoint h hc, ob_s]
  by_cases h0 : G 5 0 0 < 40
  · have hen : G 5 0 0 < G 7 0 0 := by
      rcases h.2.2.2.1 0 h.2.1 with z | z
      · omega
      · exact z.1
    have er := e0_row (G 5 0 0) 0
    have hb : rI (G 5 0 0) 0 0 + 8 < 11520 := by unfold rI; omega
    have e8 : nI (rI (G 5 0 0) 0 0) + 8 = nI (rI (G 5 0 0) 0 0 + 8) := nI_add _ 8
    have ex := (hcost (rI (G 5 0 0) 0 8) (rI_lt hen (by decide) (by decide))).1
    rw [rI_col (G 5 0 0) 0 8] at ex
    have es := same_steps h hr hX hY hen (st := 0) (col := 8) (by decide) (by decide) (hr.1 h0)
    rw [if_pos h0, if_pos (by rw [pI_lt h0]; exact nI_pos' (by omega)), pI_lt h0, show (0 : Int32) = nI 0 from rfl, er, ob_s, nm_q, e8, bd_eq _ (inb_nI (j := rI (G 5 0 0) 0 0 + 8) (n := 11520) hb (by decide)), nm_q, nI_clamp (n := rI (G 5 0 0) 0 0 + 8) (by omega), ex, ← rI_col (G 5 0 0) 0 8, es]
  · have h40 : G 5 0 0 = 40 := by
      rcases h.2.2.2.1 0 h.2.1 with z | z <;> omega
    rw [if_neg h0, h40, if_neg (by decide)]; rfl
theorem ans_le {v : Nat} (h : vl v) : nI v ≤ 2000 ↔ v ≤ 2000 := by
  have := vl_lt h
  exact nI_leI (a := v) (b := 2000) (by omega) (by decide)
theorem ans_inf {v : Nat} (h : vl v) : (if (536870912 : Int32) ≤ nI v then (-1 : Int32) else nI v) = ansI v := by
  unfold ansI
  have z : (536870912 : Int32) ≤ nI v ↔ 536870912 ≤ v := nI_leI (a := 536870912) (b := v) (by decide) (by have := vl_lt h; omega)
  rcases h with q | q
  · rw [if_neg (fun y => by have := z.mp y; omega), if_neg (by omega)]
  · rw [if_pos (z.mpr (by omega)), if_pos q]
theorem ans_fin {v : Nat} (h : v ≤ 2000) : nI v = ansI v := by unfold ansI; rw [if_neg (by omega)]
theorem ans_h0 {G : Nat → Nat → Nat → Nat} {Y : Nat → Nat} (q : ansN G Y ≤ 2000) : G 5 0 0 < 40 ∧ Y (rI (G 5 0 0) 0 8) = ansN G Y := by
  unfold ansN at q ⊢
  by_cases z : G 5 0 0 < 40
  · rw [if_pos z]; exact ⟨z, rfl⟩
  · rw [if_neg z] at q; omega
theorem c_find_cf {G : Nat → Nat → Nat → Nat} {C : Nat → Nat → Int32} {value : Nat → Int64} (h : okPg G) (hc : cPg G C value) {Y : Nat → Nat} (hY : isL (288 * G 7 0 0) (opA G allA) (fun _ => 536870912) Y) : Wq (fX10_findFailure_cf (nI (G 8 0 0)) (nI (G 7 0 0)) (C 0) (C 1) (C 2) (C 3) (C 4) (C 5) value (C 6)) (fun r => r.2.1 = ansI (ansN G Y) ∧ ((r.1 = 1 ∧ trC G Y r.2.2.2.2.2.2.2.2.1 r.2.2.2.2.2.2.2.2.2.2.2.2.1 r.2.2.2.2.2.2.2.2.2.2.2.2.2.1 r.2.2.2.2.2.2.2.2.2.2.2.2.2.2.1 r.2.2.2.2.2.2.2.2.2.2.2.2.2.2.2.1) ∨ (r.1 = 0 ∧ 2000 < ansN G Y))) := by
  have hv := ansN_vl h hY.1
  have ai := ans_inf hv
  unfold fX10_findFailure_cf fX10_findFailure_cf_p100069
  refine Wq_ob (c_solve h hc _ _ _ _ _ _) (fun b hb => ?_)
  obtain ⟨b1, x, b2, b3⟩ := hb
  rw [c_stepsToFail h hc hY b1 b3 b2, ob_s]
  by_cases q : ansN G Y ≤ 2000
  · rw [if_pos ((ans_le hv).mpr q)]
    obtain ⟨h0, hvv⟩ := ans_h0 q
    refine Wq_tg (Wq_ob (c_record h hc b1 b3 hY b2 q h0 hvv _ _ _ _ _ _ _ _ _ _ _) (fun d hd => Wq_some ⟨ans_fin q, Or.inl ⟨rfl, fun _ => hd, fun z => by omega⟩⟩))
  · rw [if_neg (fun z => q ((ans_le hv).mp z))]
    refine Wq_tg ?_
    by_cases w : (536870912 : Int32) ≤ nI (ansN G Y)
    · rw [if_pos w] at ai ⊢
      exact Wq_some ⟨ai, Or.inr ⟨rfl, by omega⟩⟩
    · rw [if_neg w] at ai ⊢
      exact Wq_some ⟨ai, Or.inr ⟨rfl, by omega⟩⟩
theorem c_find_f {G : Nat → Nat → Nat → Nat} {C : Nat → Nat → Int32} {value : Nat → Int64} (h : okPg G) (hc : cPg G C value) {Y : Nat → Nat} (hY : isL (288 * G 7 0 0) (opA G allA) (fun _ => 536870912) Y) (lk : Int32) (e2 e3 e13 e14 e15 : Nat → Int32) : Wq (fX10_findFailure_f lk e2 e3 (nI (G 8 0 0)) (nI (G 7 0 0)) (C 0) (C 1) (C 2) (C 3) (C 4) (C 5) value (C 6) e13 e14 e15) (fun r => r.2.1 = ansI (ansN G Y) ∧ ((r.1 = 1 ∧ trC G Y r.2.2.2.2.2.2.2.2.1 r.2.2.2.2.2.2.2.2.2.2.2.2.1 r.2.2.2.2.2.2.2.2.2.2.2.2.2.1 r.2.2.2.2.2.2.2.2.2.2.2.2.2.2.1 r.2.2.2.2.2.2.2.2.2.2.2.2.2.2.2.1) ∨ (r.1 = 0 ∧ 2000 < ansN G Y))) := by
  have hv := ansN_vl h hY.1
  have ai := ans_inf hv
  unfold fX10_findFailure_f fX10_findFailure_f_p69
  refine Wq_ob (c_solve h hc _ _ _ _ _ _) (fun b hb => ?_)
  obtain ⟨b1, x, b2, b3⟩ := hb
  rw [c_stepsToFail h hc hY b1 b3 b2, ob_s]
  by_cases q : ansN G Y ≤ 2000
  · rw [if_pos ((ans_le hv).mpr q)]
    obtain ⟨h0, hvv⟩ := ans_h0 q
    refine Wq_tg (Wq_ob (c_record h hc b1 b3 hY b2 q h0 hvv _ _ _ _ _ _ _ _ _ _ _) (fun d hd => Wq_some ⟨ans_fin q, Or.inl ⟨rfl, fun _ => hd, fun z => by omega⟩⟩))
  · rw [if_neg (fun z => q ((ans_le hv).mp z))]
    refine Wq_tg ?_
    by_cases w : (536870912 : Int32) ≤ nI (ansN G Y)
    · rw [if_pos w] at ai ⊢
      exact Wq_some ⟨ai, Or.inr ⟨rfl, by omega⟩⟩
    · rw [if_neg w] at ai ⊢
      exact Wq_some ⟨ai, Or.inr ⟨rfl, by omega⟩⟩
theorem c_find_x {G : Nat → Nat → Nat → Nat} {C : Nat → Nat → Int32} {value : Nat → Int64} (h : okPg G) (hc : cPg G C value) {Y : Nat → Nat} (hY : isL (288 * G 7 0 0) (opA G allA) (fun _ => 536870912) Y) (lk lg op pt se : Int32) (e2 e3 e13 e14 e15 e17 e18 e19 e20 e21 e22 e23 : Nat → Int32) : Wq (fX10_findFailure_x lk e2 e3 (nI (G 8 0 0)) (nI (G 7 0 0)) (C 0) (C 1) (C 2) (C 3) (C 4) (C 5) value (C 6) e13 e14 e15 lg op pt se e17 e18 e19 e20 e21 e22 e23) (fun r => r.1 = 0 ∧ r.2.1 = ansI (ansN G Y) ∧ trC G Y r.2.2.2.2.2.2.2.2.1 r.2.2.2.2.2.2.2.2.2.2.2.2.2.1 r.2.2.2.2.2.2.2.2.2.2.2.2.2.2.1 r.2.2.2.2.2.2.2.2.2.2.2.2.2.2.2.1 r.2.2.2.2.2.2.2.2.2.2.2.2.2.2.2.2.1) := by
  have hv := ansN_vl h hY.1
  have ai := ans_inf hv
  unfold fX10_findFailure_x fX10_findFailure_x_p69 fX8_forget
  refine Wq_tg (Wq_ob (c_solve h hc _ _ _ _ _ _) (fun b hb => ?_))
  obtain ⟨b1, x, b2, b3⟩ := hb
  rw [c_stepsToFail h hc hY b1 b3 b2, ob_s, ob_s]
  by_cases q : ansN G Y ≤ 2000
  · rw [if_pos ((ans_le hv).mpr q)]
    obtain ⟨h0, hvv⟩ := ans_h0 q
    exact Wq_ob (c_record h hc b1 b3 hY b2 q h0 hvv _ _ _ _ _ _ _ _ _ _ _) (fun d hd => Wq_some ⟨rfl, ans_fin q, fun _ => hd, fun z => by omega⟩)
  · rw [if_neg (fun z => q ((ans_le hv).mp z))]
    by_cases w : (536870912 : Int32) ≤ nI (ansN G Y)
    · rw [if_pos w] at ai ⊢
      exact Wq_some ⟨rfl, ai, fun z => absurd z q, fun _ => rfl⟩
    · rw [if_neg w] at ai ⊢
      exact Wq_some ⟨rfl, ai, fun z => absurd z q, fun _ => rfl⟩
theorem c_check_cf {G : Nat → Nat → Nat → Nat} {C : Nat → Nat → Int32} {value : Nat → Int64} (h : okPg G) (hc : cPg G C value) {Y : Nat → Nat} (hY : isL (288 * G 7 0 0) (opA G allA) (fun _ => 536870912) Y) (ca : Int32) : Wq (fX10_check_cf 0 ca 1 (nI (G 8 0 0)) (nI (G 7 0 0)) (C 0) (C 1) (C 2) (C 3) (C 4) (C 5) value (C 6)) (fun r => r.2.1 = ansI (ansN G Y) ∧ r.2.2.1 = 1 ∧ r.2.2.2.1 = ansI (ansN G Y) ∧ ((r.1 = 1 ∧ trC G Y r.2.2.2.2.2.2.2.2.2.2.1 r.2.2.2.2.2.2.2.2.2.2.2.2.2.2.1 r.2.2.2.2.2.2.2.2.2.2.2.2.2.2.2.1 r.2.2.2.2.2.2.2.2.2.2.2.2.2.2.2.2.1 r.2.2.2.2.2.2.2.2.2.2.2.2.2.2.2.2.2.1) ∨ (r.1 = 2 ∧ 2000 < ansN G Y))) := by
  unfold fX10_check_cf
  rw [if_neg n10, if_pos rfl]
  refine Wq_tgn (Wq_ob (c_find_cf h hc hY) (fun b hb => ?_))
  obtain ⟨b1, b2 | b2⟩ := hb
  · rw [if_neg (by rw [b2.1]; decide), if_pos b2.1]
    exact Wq_tg (Wq_some ⟨show 1 ∈ [1, 2] by decide, b1, rfl, b1, Or.inl ⟨rfl, b2.2⟩⟩)
  · rw [if_pos b2.1]
    exact Wq_tg (Wq_some ⟨show 2 ∈ [1, 2] by decide, b1, rfl, b1, Or.inr ⟨rfl, b2.2⟩⟩)
theorem c_check_f {G : Nat → Nat → Nat → Nat} {C : Nat → Nat → Int32} {value : Nat → Int64} (h : okPg G) (hc : cPg G C value) {Y : Nat → Nat} (hY : isL (288 * G 7 0 0) (opA G allA) (fun _ => 536870912) Y) (ca lk : Int32) (e2 e3 e13 e14 e15 : Nat → Int32) : Wq (fX10_check_f 0 ca 1 (nI (G 8 0 0)) (nI (G 7 0 0)) lk e2 e3 (C 0) (C 1) (C 2) (C 3) (C 4) (C 5) value (C 6) e13 e14 e15) (fun r => r.2.1 = ansI (ansN G Y) ∧ r.2.2.1 = 1 ∧ r.2.2.2.1 = ansI (ansN G Y) ∧ ((r.1 = 1 ∧ trC G Y r.2.2.2.2.2.2.2.2.2.2.1 r.2.2.2.2.2.2.2.2.2.2.2.2.2.2.1 r.2.2.2.2.2.2.2.2.2.2.2.2.2.2.2.1 r.2.2.2.2.2.2.2.2.2.2.2.2.2.2.2.2.1 r.2.2.2.2.2.2.2.2.2.2.2.2.2.2.2.2.2.1) ∨ (r.1 = 0 ∧ 2000 < ansN G Y))) := by
  unfold fX10_check_f fX10_check_f_p33
  rw [if_neg n10, if_pos rfl]
  refine Wq_ob (c_find_f h hc hY lk e2 e3 e13 e14 e15) (fun b hb => ?_)
  obtain ⟨b1, b2 | b2⟩ := hb
  · rw [if_neg (by rw [b2.1]; decide), if_pos b2.1]
    exact Wq_tg (Wq_some ⟨b1, rfl, b1, Or.inl ⟨rfl, b2.2⟩⟩)
  · rw [if_pos b2.1]
    exact Wq_tg (Wq_some ⟨b1, rfl, b1, Or.inr ⟨rfl, b2.2⟩⟩)
theorem c_check_x {G : Nat → Nat → Nat → Nat} {C : Nat → Nat → Int32} {value : Nat → Int64} (h : okPg G) (hc : cPg G C value) {Y : Nat → Nat} (hY : isL (288 * G 7 0 0) (opA G allA) (fun _ => 536870912) Y) (ca lk lg op pt se : Int32) (e2 e3 e13 e14 e15 e17 e18 e19 e20 e21 e22 e23 : Nat → Int32) : Wq (fX10_check_x 0 ca 1 (nI (G 8 0 0)) (nI (G 7 0 0)) lk e2 e3 (C 0) (C 1) (C 2) (C 3) (C 4) (C 5) value (C 6) e13 e14 e15 lg op pt se e17 e18 e19 e20 e21 e22 e23) (fun r => r.1 = 0 ∧ r.2.1 = ansI (ansN G Y) ∧ r.2.2.1 = 1 ∧ r.2.2.2.1 = ansI (ansN G Y) ∧ trC G Y r.2.2.2.2.2.2.2.2.2.2.1 r.2.2.2.2.2.2.2.2.2.2.2.2.2.2.2.1 r.2.2.2.2.2.2.2.2.2.2.2.2.2.2.2.2.1 r.2.2.2.2.2.2.2.2.2.2.2.2.2.2.2.2.2.1 r.2.2.2.2.2.2.2.2.2.2.2.2.2.2.2.2.2.2.1) := by
  unfold fX10_check_x fX10_check_x_p33
  rw [if_neg n10, if_pos rfl]
  refine Wq_tg (Wq_ob (c_find_x h hc hY lk lg op pt se e2 e3 e13 e14 e15 e17 e18 e19 e20 e21 e22 e23) (fun b hb => ?_))
  obtain ⟨b1, b2, b3⟩ := hb
  rw [if_pos b1]
  exact Wq_some ⟨rfl, b2, rfl, b2, b3⟩
/-! the trace: what the class tells and what the reference tells -/
def trOk (lg : Int32) (c4 c5 c6 c7 : Nat → Int32) (tl : Int32) (t : Nat → Int32) : Prop := ∃ n, n ≤ 2000 ∧ lg = nI n ∧ tl = nI n ∧ ∀ j, j < n → t (5 * j) = c4 j ∧ t (5 * j + 1) = c5 j ∧ (∃ st, st < 32 ∧ c6 j = nI st ∧ t (5 * j + 2) = nI (st % 8) ∧ t (5 * j + 3) = nI (st / 8)) ∧ t (5 * j + 4) = c7 j
theorem tr_same {G : Nat → Nat → Nat → Nat} (h : okPg G) {re ex : Nat → Int32} (hr : isRe G re ex) {Y : Nat → Nat} (hY : isL (288 * G 7 0 0) (opA G allA) (fun _ => 536870912) Y) {lg tl : Int32} {c4 c5 c6 c7 t : Nat → Int32} (hc : trC G Y lg c4 c5 c6 c7) (hm : trR G Y tl t) : trOk lg c4 c5 c6 c7 tl t := by
  by_cases q : ansN G Y ≤ 2000
  · obtain ⟨a1, a2⟩ := hc.1 q
    obtain ⟨b1, b2⟩ := hm.1 q
    obtain ⟨h0, hvv⟩ := ans_h0 q
    refine ⟨_, q, a1, b1, fun j hj => ?_⟩
    obtain ⟨c1, c2, c3, c4⟩ := a2 j hj
    obtain ⟨d1, d2, d3, d4, d5⟩ := b2 j hj
    have st := (cfT_ok h hr hY q h0 hvv j hj).1.2.1.2.1
    exact ⟨d1.trans c1.symm, d2.trans c2.symm, ⟨_, st, c3, d3, d4⟩, d5.trans c4.symm⟩
  · exact ⟨0, by decide, hc.2 (by omega), hm.2 (by omega), fun j hj => absurd hj (by omega)⟩
