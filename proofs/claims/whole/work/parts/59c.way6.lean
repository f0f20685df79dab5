/-! ===== pure rows 32: way (class) ===== -/
def okTD (so chg : Int32) (c : Nat → Int32) (K : Nat → Nat) (R : Nat) (pr : Nat → Nat → Nat) : Prop := so = chg → tb (DD K R pr) c
theorem c_stepsD {a : Nat} (ha : a < 8) {E R L : Nat} {so chg ht0 : Int32} {c2 c3 c4 c5 c6 c7 c8 c9 cw d1 d2 : Nat → Int32} {pr : Nat → Nat → Nat} {K w : Nat → Nat} (hR : ruN R c4 c5 c6 c7 c8 c9 pr) (hK : ∀ i, i < 192 → K i < 65536 ∧ c2 i = nI (K i)) (hso : okTD so chg c3 K R pr) (hE : E < 65536) (hL : L ≤ 30) (hw : ∀ j, j < L → cw j = nI (w j) ∧ w j < 12) :
    Wq (fX10_stepsFrom_x (nI a) so (nI R) (nI E) (nI L) chg c2 c3 c4 c5 c6 c7 c8 c9 30 ht0 d1 cw d2) (fun r => r.1 = 0 ∧ r.2.2.1 = chg ∧ tb (DD K R pr) r.2.2.2.1 ∧ r.2.1 = nI (tw E.testBit (DD K R pr) w L a) ∧ r.2.2.2.2.1 = nI L) := by
  have hP := ruN_ok hR
  refine Wq_mono (c_steps ha hR hK (fun h => ⟨_, hso h, (DD_is hP).1⟩) hE hL hw) (fun r hr => ?_)
  obtain ⟨h0, h1, x, h2, h3, h4, h5⟩ := hr
  refine ⟨h0, h1, tb_DD hP h2 h3, ?_, h5⟩
  rw [h4, tw_x (isD_eq h3 (DD_is hP).1) L (fun i hi => (hw i hi).2) a (by omega)]
theorem c_steps_dtD {a : Nat} (ha : a < 8) {E R L : Nat} {chg : Int32} {c2 c4 c5 c6 c7 c8 c9 cw : Nat → Int32} {pr : Nat → Nat → Nat} {K w : Nat → Nat} (hR : ruN R c4 c5 c6 c7 c8 c9 pr) (hK : ∀ i, i < 192 → K i < 65536 ∧ c2 i = nI (K i)) (hso : ¬ chg = -1) (hE : E < 65536) (hL : L ≤ 30) (hw : ∀ j, j < L → cw j = nI (w j) ∧ w j < 12) :
    Wq (fX10_stepsFrom_dt (nI a) (nI R) (nI E) (nI L) chg c2 c4 c5 c6 c7 c8 c9 cw) (fun r => r.1 = 0 ∧ r.2.2.1 = chg ∧ tb (DD K R pr) r.2.2.2.1 ∧ r.2.1 = nI (tw E.testBit (DD K R pr) w L a) ∧ r.2.2.2.2.1 = 30 ∧ r.2.2.2.2.2.1 = nI L) := by
  have hP := ruN_ok hR
  refine Wq_mono (c_steps_dt ha hR hK hso hE hL hw) (fun r hr => ?_)
  obtain ⟨h0, h1, x, h2, h3, h4, h5, h6⟩ := hr
  refine ⟨h0, h1, tb_DD hP h2 h3, ?_, h5, h6⟩
  rw [h4, tw_x (isD_eq h3 (DD_is hP).1) L (fun i hi => (hw i hi).2) a (by omega)]
theorem c_ruleAt {E : Nat → Bool} {K : Nat → Nat} {R : Nat} {pr : Nat → Nat → Nat} {w : Nat → Nat} {L a : Nat} {len : Int32} {c : Nat → Int32} (h : okWayM E K R pr w L a len c) (k : Int32) : fX9_ruleAt k len c = some (wayA E K R pr w L a k, ()) := by
  unfold okWayM at h
  unfold fX9_ruleAt fX9_ruleAt_p21 fX9_ruleAt_p22 wayA
  generalize tw E (DD K R pr) w L a = v at *
  by_cases hk0 : k < 0
  · rw [if_pos hk0, if_neg (fun z => z.2.1 hk0)]
  · rw [if_neg hk0]
    by_cases hv2 : v ≤ 2000
    · rw [if_pos hv2] at h
      obtain ⟨h1, h2⟩ := h
      rw [h1]
      by_cases hkv : k < nI v
      · obtain ⟨j, hj, rfl⟩ := nI_of hk0
        have hjv : j < v := (nI_ltI (by omega) (by omega)).mp hkv
        rw [if_neg (Int32.not_le.mpr hkv), bd_eq _ (inb_nI (j := j) (n := 2000) (by omega) (by decide)), nm_q, nI_clamp (n := j) (by omega), h2 j hjv, if_pos ⟨hv2, hk0, hkv⟩]
      · rw [if_pos (Int32.not_lt.mp hkv), if_neg (fun z => hkv z.2.2)]
    · rw [if_neg hv2] at h
      rw [h, if_pos (Int32.not_lt.mp hk0), if_neg (fun z => hv2 z.1)]
theorem e_isOf (a fs fa fw chg wch : Int32) : fX9_isOf a fs fa fw chg wch = some (if fs = a ∧ fa = chg ∧ fw = wch then 1 else 0, ()) := by
  unfold fX9_isOf fX9_isOf_p40 fX9_isOf_p41
  by_cases h1 : fs = a <;> by_cases h2 : fa = chg <;> by_cases h3 : fw = wch <;> simp [h1, h2, h3, bd, bz]
/-- what the class keeps of a way -/
def okWayC (E : Nat → Bool) (K : Nat → Nat) (R : Nat) (pr : Nat → Nat → Nat) (w : Nat → Nat) (L : Nat) (chg wch len fs fa fw : Int32) (c : Nat → Int32) : Prop := ∀ a, a < 8 → fs = nI a → fa = chg → fw = wch → okWayM E K R pr w L a len c
theorem okC_of {E : Nat → Bool} {K : Nat → Nat} {R : Nat} {pr : Nat → Nat → Nat} {w : Nat → Nat} {L a : Nat} {chg wch len fs fa fw : Int32} {c : Nat → Int32} (ha : a < 8) (e : fs = nI a) (h : okWayM E K R pr w L a len c) : okWayC E K R pr w L chg wch len fs fa fw c := by
  intro b hb e2 _ _
  have : a = b := (nI_eq (by omega) (by omega)).mp (e.symm.trans e2)
  rw [← this]; exact h
theorem c_way_x {a E R L : Nat} (k : Int32) {so chg wch ht0 ht1 len fs fa fw : Int32} {c2 c3 c4 c5 c6 c7 c8 c9 cw d1 d2 d17 d18 d19 : Nat → Int32} {pr : Nat → Nat → Nat} {K w : Nat → Nat} (hN : netUp K) (ha : a < 8) (hR : ruN R c4 c5 c6 c7 c8 c9 pr) (hK : ∀ i, i < 192 → K i < 65536 ∧ c2 i = nI (K i)) (hso : okTD so chg c3 K R pr) (hE : E < 65536) (hL : L ≤ 30) (hw : ∀ j, j < L → cw j = nI (w j) ∧ w j < 12) (hway : okWayC E.testBit K R pr w L chg wch len fs fa fw d19) :
    Wq (fX10_way_x (nI a) k len fs fa fw (nI R) (nI E) (nI L) chg wch so c2 c3 c4 c5 c6 c7 c8 c9 30 ht0 d1 cw d2 2030 ht1 d17 d18 d19) (fun r => r.1 = 0 ∧ r.2.1 = wayA E.testBit K R pr w L a k ∧ okWayC E.testBit K R pr w L chg wch r.2.2.1 r.2.2.2.1 r.2.2.2.2.1 r.2.2.2.2.2.1 r.2.2.2.2.2.2.2.2.2.2.2.2.2.2 ∧ (r.2.2.2.2.1 = fa ∨ r.2.2.2.2.1 = chg) ∧ (r.2.2.2.2.2.1 = fw ∨ r.2.2.2.2.2.1 = wch) ∧ ((r.2.2.2.2.2.2.1 = so ∧ r.2.2.2.2.2.2.2.1 = c3) ∨ (r.2.2.2.2.2.2.1 = chg ∧ tb (DD K R pr) r.2.2.2.2.2.2.2.1))) := by
  have hP := ruN_ok hR
  unfold fX10_way_x fX10_way_x_p38
  refine Wq_tg ?_
  rw [e_isState, if_neg (st_in ha), ob_s, if_neg n10, e_isOf]
  by_cases h : fs = nI a ∧ fa = chg ∧ fw = wch
  · rw [if_pos h, ob_s, if_neg n10, c_ruleAt (hway a ha h.1 h.2.1 h.2.2), ob_s]
    exact Wq_some ⟨rfl, rfl, hway, Or.inl rfl, Or.inl rfl, Or.inl ⟨rfl, rfl⟩⟩
  · rw [if_neg h, ob_s, if_pos rfl]
    refine Wq_ob (c_stepsD ha hR hK hso hE hL hw) (fun o ho => ?_)
    obtain ⟨q0, q1, q2, q3, q4⟩ := ho
    rw [if_pos q0, q3]
    unfold fX10_findWay_x
    have hf := c_find (K := K) (R := R) (a := a) (chg := chg) (wch := wch) (len := len) (fs := fs) (fa := fa) (fw := fw) (ht0 := ht1) (c3 := d17) (c7 := d18) (c14 := d19) hN hR q2 hE hL hw ha rfl
    refine Wq_ob (Q := fun o2 => o2.1 = 0 ∧ o2.2.2.1 = nI a ∧ o2.2.2.2.1 = chg ∧ o2.2.2.2.2.1 = wch ∧ okWayM E.testBit K R pr w L a o2.2.1 o2.2.2.2.2.2.2.2.2) (Wq_tg (Wq_ob hf (fun o2 ho2 => ?_))) (fun o3 ho3 => ?_)
    · obtain ⟨y1, y2, y3, y4⟩ := ho2
      exact Wq_some ⟨rfl, y1, y2, y3, y4⟩
    · obtain ⟨y0, y1, y2, y3, y4⟩ := ho3
      rw [if_pos y0, c_ruleAt y4, ob_s]
      exact Wq_some ⟨rfl, rfl, okC_of ha y1 y4, Or.inr y2, Or.inr y3, Or.inr ⟨q1, q2⟩⟩
theorem lt_one {v : Nat} (hv : vl v) : nI v < 1 ↔ v < 1 := by
  have := vl_lt hv
  exact nI_ltI (a := v) (b := 1) (by omega) (by decide)
theorem le_2000 {v : Nat} (hv : vl v) : nI v ≤ 2000 ↔ v ≤ 2000 := by
  have := vl_lt hv
  exact nI_leI (a := v) (b := 2000) (by omega) (by decide)
theorem c_findWay_w {a E R L : Nat} {chg wch : Int32} {c4 c5 c6 c7 c8 c9 cc cw : Nat → Int32} {pr : Nat → Nat → Nat} {K w : Nat → Nat} (hN : netUp K) (ha : a < 8) (hR : ruN R c4 c5 c6 c7 c8 c9 pr) (hx : tb (DD K R pr) cc) (hE : E < 65536) (hL : L ≤ 30) (hw : ∀ j, j < L → cw j = nI (w j) ∧ w j < 12) :
    Wq (fX10_findWay_w (nI a) (nI (tw E.testBit (DD K R pr) w L a)) (nI R) (nI E) (nI L) chg wch cw cc c4 c5 c7 c6 c8 c9) (fun r => (r.1 = 0 ∧ (tw E.testBit (DD K R pr) w L a < 1 ∨ ¬ tw E.testBit (DD K R pr) w L a ≤ 2000)) ∨ (r.1 = 1 ∧ r.2.2.1 = nI a ∧ r.2.2.2.1 = chg ∧ r.2.2.2.2.1 = wch ∧ okWayM E.testBit K R pr w L a r.2.1 r.2.2.2.2.2.1 ∧ r.2.2.2.2.2.2.1 = 2030)) := by
  have hvl := tw_vl E.testBit (DD K R pr) w L a
  unfold fX10_findWay_w fX10_findWay_w_p26
  refine Wq_if (fun h => Wq_tg (Wq_some (Or.inl ⟨rfl, Or.inl ((lt_one hvl).mp h)⟩))) (fun h1 => ?_)
  refine Wq_if (fun h => Wq_tg ?_) (fun h => Wq_tg (Wq_some (Or.inl ⟨rfl, Or.inr (fun z => h ((le_2000 hvl).mpr z))⟩)))
  refine Wq_ob (c_find hN hR hx hE hL hw ha rfl) (fun o ho => ?_)
  obtain ⟨y1, y2, y3, y4⟩ := ho
  exact Wq_some (Or.inr ⟨rfl, y1, y2, y3, y4, rfl⟩)
theorem wayA_none {E : Nat → Bool} {K : Nat → Nat} {R : Nat} {pr : Nat → Nat → Nat} {w : Nat → Nat} {L a : Nat} (h : tw E (DD K R pr) w L a < 1 ∨ ¬ tw E (DD K R pr) w L a ≤ 2000) (k : Int32) : wayA E K R pr w L a k = -1 := by
  unfold wayA
  rw [if_neg ?_]
  rintro ⟨h1, h2, h3⟩
  rcases h with h | h
  · have e : tw E (DD K R pr) w L a = 0 := by omega
    rw [e] at h3
    exact h2 h3
  · exact h h1
theorem tgn_s {α : Type} {l : List Nat} {t : Nat} {a : α} (h : t ∈ l) : tgn l (some (t, a)) = some (t, a) := by
  show (if t ∈ l then some (t, a) else none) = _
  rw [if_pos h]
theorem Wq_tgn {α : Type} {l : List Nat} {x : Option (Nat × α)} {P : Nat × α → Prop} (h : Wq x (fun a => a.1 ∈ l ∧ P a)) : Wq (tgn l x) P := by
  obtain ⟨⟨t, a⟩, rfl, h1, h2⟩ := h
  exact ⟨_, tgn_s h1, h2⟩
theorem c_way_w {a E R L : Nat} (k : Int32) {so chg wch ht0 : Int32} {c2 c3 c4 c5 c6 c7 c8 c9 cw d1 d2 : Nat → Int32} {pr : Nat → Nat → Nat} {K w : Nat → Nat} (hN : netUp K) (ha : a < 8) (hR : ruN R c4 c5 c6 c7 c8 c9 pr) (hK : ∀ i, i < 192 → K i < 65536 ∧ c2 i = nI (K i)) (hso : okTD so chg c3 K R pr) (hE : E < 65536) (hL : L ≤ 30) (hw : ∀ j, j < L → cw j = nI (w j) ∧ w j < 12) :
    Wq (fX10_way_w (nI a) k so (nI R) (nI E) (nI L) chg wch c2 c3 c4 c5 c6 c7 c8 c9 30 ht0 d1 cw d2) (fun r => r.2.1 = wayA E.testBit K R pr w L a k ∧ r.2.2.1 = chg ∧ tb (DD K R pr) r.2.2.2.1 ∧ (r.1 = 0 ∨ (r.1 = 1 ∧ okWayC E.testBit K R pr w L chg wch r.2.2.2.2.2.2.2.1 r.2.2.2.2.2.2.2.2.1 r.2.2.2.2.2.2.2.2.2.1 r.2.2.2.2.2.2.2.2.2.2.1 r.2.2.2.2.2.2.2.2.2.2.2.1 ∧ r.2.2.2.2.2.2.2.2.2.1 = chg ∧ r.2.2.2.2.2.2.2.2.2.2.1 = wch ∧ r.2.2.2.2.2.2.2.2.2.2.2.2.1 = 2030))) := by
  have hP := ruN_ok hR
  unfold fX10_way_w
  rw [e_isState, if_neg (st_in ha), ob_s, if_neg n10]
  refine Wq_ob (c_stepsD ha hR hK hso hE hL hw) (fun o ho => ?_)
  obtain ⟨q0, q1, q2, q3, q4⟩ := ho
  rw [if_pos q0, q3]
  refine Wq_ob (c_findWay_w hN ha hR q2 hE hL hw) (fun o2 ho2 => ?_)
  rcases ho2 with ⟨y0, y1⟩ | ⟨y0, y1, y2, y3, y4, y5⟩
  · rw [if_pos y0]
    exact Wq_tg (Wq_some ⟨(wayA_none y1 k).symm, q1, q2, Or.inl rfl⟩)
  · rw [if_neg (by rw [y0]; decide), if_pos y0]
    refine Wq_tg ?_
    rw [c_ruleAt y4, ob_s]
    exact Wq_some ⟨rfl, q1, q2, Or.inr ⟨rfl, okC_of ha y1 y4, y2, y3, y5⟩⟩
theorem c_way_dtw {a E R L : Nat} (k : Int32) {chg wch : Int32} {c2 c4 c5 c6 c7 c8 c9 cw : Nat → Int32} {pr : Nat → Nat → Nat} {K w : Nat → Nat} (hN : netUp K) (ha : a < 8) (hR : ruN R c4 c5 c6 c7 c8 c9 pr) (hK : ∀ i, i < 192 → K i < 65536 ∧ c2 i = nI (K i)) (hso : ¬ chg = -1) (hE : E < 65536) (hL : L ≤ 30) (hw : ∀ j, j < L → cw j = nI (w j) ∧ w j < 12) :
    Wq (fX10_way_dtw (nI a) k (nI R) (nI E) (nI L) chg wch c2 c4 c5 c6 c7 c8 c9 cw) (fun r => r.2.1 = wayA E.testBit K R pr w L a k ∧ r.2.2.1 = chg ∧ tb (DD K R pr) r.2.2.2.1 ∧ r.2.2.2.2.1 = 30 ∧ (r.1 = 2 ∨ (r.1 = 1 ∧ okWayC E.testBit K R pr w L chg wch r.2.2.2.2.2.2.2.2.1 r.2.2.2.2.2.2.2.2.2.1 r.2.2.2.2.2.2.2.2.2.2.1 r.2.2.2.2.2.2.2.2.2.2.2.1 r.2.2.2.2.2.2.2.2.2.2.2.2.1 ∧ r.2.2.2.2.2.2.2.2.2.2.1 = chg ∧ r.2.2.2.2.2.2.2.2.2.2.2.1 = wch ∧ r.2.2.2.2.2.2.2.2.2.2.2.2.2.1 = 2030))) := by
  have hP := ruN_ok hR
  unfold fX10_way_dtw
  rw [e_isState, if_neg (st_in ha), ob_s, if_neg n10]
  refine Wq_tgn ?_
  refine Wq_ob (c_steps_dtD ha hR hK hso hE hL hw) (fun o ho => ?_)
  obtain ⟨q0, q1, q2, q3, q4, q5⟩ := ho
  rw [if_pos q0, q3]
  refine Wq_ob (c_findWay_w hN ha hR q2 hE hL hw) (fun o2 ho2 => ?_)
  rcases ho2 with ⟨y0, y1⟩ | ⟨y0, y1, y2, y3, y4, y5⟩
  · rw [if_pos y0]
    exact Wq_tg (Wq_some ⟨show 2 ∈ [1, 2] by decide, (wayA_none y1 k).symm, q1, q2, q4, Or.inl rfl⟩)
  · rw [if_neg (by rw [y0]; decide), if_pos y0]
    refine Wq_tg ?_
    rw [c_ruleAt y4, ob_s]
    exact Wq_some ⟨show 1 ∈ [1, 2] by decide, rfl, q1, q2, q4, Or.inr ⟨rfl, okC_of ha y1 y4, y2, y3, y5⟩⟩
