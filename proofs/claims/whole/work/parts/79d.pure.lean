/-! ===== pure rows 113: the systems of both sides ===== -/
def Kf (net : Nat → Int32) : Nat → Nat := fun i => (net i).toNatClampNeg
def sysR (R E L A : Nat) (p g q n w1 w2 net cw m mn me mw : Nat → Int32) : Prop := relRules R p g q n w1 w2 m ∧ relNet net mn ∧ relEnds E me ∧ L ≤ 30 ∧ A ≤ 64 ∧ ∀ j, j < L → cw j = mw j ∧ ∃ s, s < 12 ∧ cw j = nI s
theorem sys_K {net mn : Nat → Int32} (h : relNet net mn) : (∀ i, i < 192 → Kf net i < 65536 ∧ net i = nI (Kf net i)) ∧ netUp (Kf net) ∧ ∀ i b, i < 192 → b < 16 → mn (16 * i + b) = if (Kf net i).testBit b then 1 else 0 := by
  have key : ∀ i, i < 192 → Kf net i < 65536 ∧ net i = nI (Kf net i) ∧ (∀ b, b < 16 → mn (16 * i + b) = if (Kf net i).testBit b then 1 else 0) ∧ ∀ b, b < 8 → (Kf net i).testBit b = false := by
    intro i hi
    obtain ⟨k, k1, k2, k3, k4⟩ := h i hi
    have e : Kf net i = k := by unfold Kf; rw [k2, nI_clamp (n := k) (by omega)]
    rw [e]
    exact ⟨k1, k2, k3, k4⟩
  exact ⟨fun i hi => ⟨(key i hi).1, (key i hi).2.1⟩, fun i hi => (key i hi).2.2.2, fun i b hi hb => (key i hi).2.2.1 b hb⟩
theorem sys_w {L : Nat} {cw mw : Nat → Int32} (h : ∀ j, j < L → cw j = mw j ∧ ∃ s, s < 12 ∧ cw j = nI s) : (∀ j, j < L → cw j = nI (Kf cw j) ∧ Kf cw j < 12) ∧ ∀ j, j < L → mw j = nI (Kf cw j) ∧ Kf cw j < 12 := by
  have key : ∀ j, j < L → cw j = nI (Kf cw j) ∧ Kf cw j < 12 := by
    intro j hj
    obtain ⟨-, s, s1, s2⟩ := h j hj
    have e : Kf cw j = s := by unfold Kf; rw [s2, nI_clamp (n := s) (by omega)]
    rw [e]
    exact ⟨s2, s1⟩
  exact ⟨key, fun j hj => ⟨(h j hj).1 ▸ (key j hj).1, (key j hj).2⟩⟩
/-- a counter that has been told is no later one -/
def lt1 (k : Nat) (so : Int32) : Prop := so = -1 ∨ ∃ j, j ≤ k ∧ so = nI j
theorem lt1_ne {k : Nat} {so : Int32} (hk : k < 2000) (h : lt1 k so) : ¬ so = nI (k + 1) := by
  rcases h with h | ⟨j, j1, j2⟩
  · rw [h]; exact fun z => nI_m1 (by omega) z.symm
  · rw [j2]; exact fun z => absurd ((nI_eq (a := j) (b := k + 1) (by omega) (by omega)).mp z) (by omega)
theorem lt1_s {k : Nat} {so : Int32} (h : lt1 k so) : lt1 (k + 1) so := h.imp id (fun ⟨j, j1, j2⟩ => ⟨j, by omega, j2⟩)
theorem lt1_k (k : Nat) : lt1 k (nI k) := Or.inr ⟨k, Nat.le_refl _, rfl⟩
def dI (k R : Nat) (p g q n w1 w2 net : Nat → Int32) (so : Int32) (c3 : Nat → Int32) : Prop := okTD so (nI k) c3 (Kf net) R (prOf p g q n w1 w2) ∧ lt1 k so
def wI (k kw R E L : Nat) (p g q n w1 w2 net cw : Nat → Int32) (len fs fa fw : Int32) (d19 : Nat → Int32) : Prop := okWayC E.testBit (Kf net) R (prOf p g q n w1 w2) (Kf cw) L (nI k) (nI kw) len fs fa fw d19 ∧ lt1 k fa ∧ lt1 kw fw
def sI (k R : Nat) (p g q n w1 w2 net : Nat → Int32) (so2 : Int32) (cS yS : Nat → Int64) : Prop := (so2 = nI k → isSp (Kf net) R (prOf p g q n w1 w2) cS yS) ∧ lt1 k so2
def mmI (R E L : Nat) (p g q n w1 w2 net cw : Nat → Int32) (kn : Int32) (mt : Nat → Int32) (ws wl : Int32) (mwy : Nat → Int32) : Prop := (kn = 0 ∨ tm (DD (Kf net) R (prOf p g q n w1 w2)) mt) ∧ ∀ a, a < 8 → ws = nI a → okWayM E.testBit (Kf net) R (prOf p g q n w1 w2) (Kf cw) L a wl mwy
def sysI (T k kw R E L A : Nat) (p g q n w1 w2 net cw m mn me mw : Nat → Int32) (kn : Int32) (mt : Nat → Int32) (ws wl : Int32) (mwy : Nat → Int32) (dv : Nat) (so : Int32) (c3 : Nat → Int32) (wv : Nat) (len fs fa fw : Int32) (d19 : Nat → Int32) (sv : Nat) (so2 : Int32) (cS yS : Nat → Int64) : Prop := sysR R E L A p g q n w1 w2 net cw m mn me mw ∧ k ≤ T ∧ kw ≤ T ∧ mmI R E L p g q n w1 w2 net cw kn mt ws wl mwy ∧ (dv = 1 → dI k R p g q n w1 w2 net so c3) ∧ (wv = 1 → wI k kw R E L p g q n w1 w2 net cw len fs fa fw d19) ∧ (sv = 1 → sI k R p g q n w1 w2 net so2 cS yS)
theorem m1_n {a : Nat} (ha : a < 8) : ¬ (-1 : Int32) = nI a := fun z => nI_m1 (by omega) z.symm
/-- the system has changed -/
theorem sysI_k {T k kw R E L A : Nat} {p g q n w1 w2 net cw m mn me mw : Nat → Int32} {kn : Int32} {mt : Nat → Int32} {ws wl : Int32} {mwy : Nat → Int32} {dv : Nat} {so : Int32} {c3 : Nat → Int32} {wv : Nat} {len fs fa fw : Int32} {d19 : Nat → Int32} {sv : Nat} {so2 : Int32} {cS yS : Nat → Int64} (h : sysI T k kw R E L A p g q n w1 w2 net cw m mn me mw kn mt ws wl mwy dv so c3 wv len fs fa fw d19 sv so2 cS yS) (hT : T < 1000) {R2 E2 A2 : Nat} {p2 g2 q2 n2 x1 x2 net2 m2 mn2 me2 : Nat → Int32} (hr : sysR R2 E2 L A2 p2 g2 q2 n2 x1 x2 net2 cw m2 mn2 me2 mw) : sysI (T + 1) (k + 1) kw R2 E2 L A2 p2 g2 q2 n2 x1 x2 net2 cw m2 mn2 me2 mw 0 mt (-1) wl mwy dv so c3 wv len fs fa fw d19 sv so2 cS yS := by
  obtain ⟨h1, h2, h3, h4, h5, h6, h7⟩ := h
  refine ⟨hr, by omega, by omega, ⟨Or.inl rfl, fun a ha z => absurd z (m1_n ha)⟩, fun z => ?_, fun z => ?_, fun z => ?_⟩
  · obtain ⟨a1, a2⟩ := h5 z
    exact ⟨fun w => absurd w (lt1_ne (by omega) a2), lt1_s a2⟩
  · obtain ⟨a1, a2, a3⟩ := h6 z
    exact ⟨fun a ha w1 w2 w3 => absurd w2 (lt1_ne (by omega) a2), lt1_s a2, a3⟩
  · obtain ⟨a1, a2⟩ := h7 z
    exact ⟨fun w => absurd w (lt1_ne (by omega) a2), lt1_s a2⟩
/-- the word has changed -/
theorem sysI_w {T k kw R E L A : Nat} {p g q n w1 w2 net cw m mn me mw : Nat → Int32} {kn : Int32} {mt : Nat → Int32} {ws wl : Int32} {mwy : Nat → Int32} {dv : Nat} {so : Int32} {c3 : Nat → Int32} {wv : Nat} {len fs fa fw : Int32} {d19 : Nat → Int32} {sv : Nat} {so2 : Int32} {cS yS : Nat → Int64} (h : sysI T k kw R E L A p g q n w1 w2 net cw m mn me mw kn mt ws wl mwy dv so c3 wv len fs fa fw d19 sv so2 cS yS) (hT : T < 1000) {L2 : Nat} {cw2 mw2 : Nat → Int32} (hr : sysR R E L2 A p g q n w1 w2 net cw2 m mn me mw2) : sysI (T + 1) k (kw + 1) R E L2 A p g q n w1 w2 net cw2 m mn me mw2 kn mt (-1) wl mwy dv so c3 wv len fs fa fw d19 sv so2 cS yS := by
  obtain ⟨h1, h2, h3, h4, h5, h6, h7⟩ := h
  refine ⟨hr, by omega, by omega, ⟨h4.1, fun a ha z => absurd z (m1_n ha)⟩, h5, fun z => ?_, h7⟩
  obtain ⟨a1, a2, a3⟩ := h6 z
  exact ⟨fun a ha y1 y2 y3 => absurd y3 (lt1_ne (by omega) a3), a2, lt1_s a3⟩
/-- nothing has changed but what the reference knows -/
theorem sysI_m {T k kw R E L A : Nat} {p g q n w1 w2 net cw m mn me mw : Nat → Int32} {kn : Int32} {mt : Nat → Int32} {ws wl : Int32} {mwy : Nat → Int32} {dv : Nat} {so : Int32} {c3 : Nat → Int32} {wv : Nat} {len fs fa fw : Int32} {d19 : Nat → Int32} {sv : Nat} {so2 : Int32} {cS yS : Nat → Int64} (h : sysI T k kw R E L A p g q n w1 w2 net cw m mn me mw kn mt ws wl mwy dv so c3 wv len fs fa fw d19 sv so2 cS yS) {m2 mn2 me2 mw2 : Nat → Int32} {kn2 ws2 : Int32} (hr : sysR R E L A p g q n w1 w2 net cw m2 mn2 me2 mw2) (hk : (kn2 = kn ∧ ws2 = ws) ∨ (kn2 = 0 ∧ ws2 = -1)) : sysI (T + 1) k kw R E L A p g q n w1 w2 net cw m2 mn2 me2 mw2 kn2 mt ws2 wl mwy dv so c3 wv len fs fa fw d19 sv so2 cS yS := by
  obtain ⟨h1, h2, h3, h4, h5, h6, h7⟩ := h
  refine ⟨hr, by omega, by omega, ?_, h5, h6, h7⟩
  rcases hk with ⟨a1, a2⟩ | ⟨a1, a2⟩
  · rw [a1, a2]; exact h4
  · rw [a1, a2]; exact ⟨Or.inl rfl, fun a ha z => absurd z (m1_n ha)⟩
