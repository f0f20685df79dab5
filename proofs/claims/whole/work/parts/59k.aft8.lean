/-! ===== pure rows 40: both nets read the same words ===== -/
theorem aft_CM {K : Nat → Nat} (hK : ∀ i, i < 192 → K i < 65536) (hN : netUp K) {R : Nat} {pr : Nat → Nat → Nat} (hP : okPr R pr) {c y : Nat → Int64} {c' e' : Nat → Int32} (h1 : isSp K R pr c y) (h2 : isSM K R pr c' e') {w : Nat → Nat} {L a : Nat} (hw : ∀ j, j < L → w j < 12) (ha : a < 8) {b : Nat} (hb : b < 16) (h : runA (Aof c) w (fun k => k = a ∨ Sof y a k) L L b) : runM (GM c') w (fun t => t = a ∨ EM e' a t) L L b := by
  have hR := hP.1
  let hN' : Nat → Nat := fun z => if z < 16 then z else if z - 16 < R then 16 + 12 * pr 2 (z - 16) + pr 4 (z - 16) else 0
  have hl : ∀ z, hN' z < 112 := by
    intro z
    show (if z < 16 then z else if z - 16 < R then 16 + 12 * pr 2 (z - 16) + pr 4 (z - 16) else 0) < 112
    by_cases q1 : z < 16
    · rw [if_pos q1]; omega
    · rw [if_neg q1]
      by_cases q2 : z - 16 < R
      · rw [if_pos q2]
        obtain ⟨p0, p1, p2, p3, p4, p5⟩ := hP.2 _ q2
        omega
      · rw [if_neg q2]; omega
  have hlo : ∀ z, z < 16 → hN' z = z := fun z hz => by show (if z < 16 then z else _) = z; rw [if_pos hz]
  have hmid : ∀ r, r < R → hN' (16 + r) = 16 + 12 * pr 2 r + pr 4 r := fun r hr => by
    show (if 16 + r < 16 then 16 + r else if 16 + r - 16 < R then 16 + 12 * pr 2 (16 + r - 16) + pr 4 (16 + r - 16) else 0) = _
    rw [if_neg (by omega), show 16 + r - 16 = r by omega, if_pos hr]
  obtain ⟨m1, ⟨m2, m3⟩, -⟩ := h2
  have sub := h1.2.2 (fun α s β => GM c' (hN' α) s (hN' β)) (fun q β => EM e' q (hN' β)) (by
    intro x s b hx hs hbit
    have hb16 : b < 16 := by
      apply Nat.not_le.mp
      intro hge
      rw [Nat.testBit_lt_two_pow (Nat.lt_of_lt_of_le (hK (12 * x + s) (by omega)) (Nat.pow_le_pow_right (n := 2) (by decide) hge))] at hbit
      cases hbit
    have hb8 : 8 ≤ b := by
      apply Nat.not_lt.mp
      intro hlt
      rw [hN (12 * x + s) (by omega) b hlt] at hbit
      cases hbit
    show GM c' (hN' x) s (hN' b)
    rw [hlo x hx, hlo b hb16]
    exact m1 x s b hx hs hb8 hb16 hbit) (by
    intro r hr β hβ hsc
    obtain ⟨p0, p1, p2, p3, p4, p5⟩ := hP.2 r hr
    have hG : GM c' (pr 0 r) (pr 1 r) (hN' β) := by
      rcases hsc with z | ⟨k, k1, k2, k3⟩
      · have z' : GM c' (hN' (pr 0 r)) (pr 1 r) (hN' β) := z
        rw [hlo _ (by omega)] at z'
        exact z'
      · exact (m3 (pr 0 r) (hN' k) p0 (hl k) k2).1 (pr 1 r) (hN' β) p1 (hl β) k3
    obtain ⟨c0, c1, c2⟩ := m2 r hr (hN' β) (hl β) hG
    refine ⟨c0, fun z => ?_, fun z => ⟨?_, ?_⟩⟩
    · show GM c' (hN' (pr 2 r)) (pr 4 r) (hN' β)
      rw [hlo _ (by omega)]; exact c1 z
    · show GM c' (hN' (pr 2 r)) (pr 4 r) (hN' (16 + r))
      rw [hlo _ (by omega), hmid r hr]; exact (c2 z).1
    · show GM c' (hN' (16 + r)) (pr 5 r) (hN' β)
      rw [hmid r hr]; exact (c2 z).2)
  have run : ∀ k, k ≤ L → ∀ β, runA (Aof c) w (fun k => k = a ∨ Sof y a k) L k β → runM (GM c') w (fun t => t = a ∨ EM e' a t) L k (hN' β) := by
    intro k
    induction k with
    | zero =>
      intro _ β hβ
      rcases hβ with z | z
      · left
        show hN' β = a
        rw [z]; exact hlo a (by omega)
      · exact Or.inr (sub.2 a β ha (bt_lt z) z)
    | succ k ih =>
      intro hk β hβ
      obtain ⟨α, q1, q2, q3⟩ := hβ
      exact ⟨hN' α, hl α, ih (by omega) α q2, sub.1 α _ β q1 (hw _ (by omega)) (bt_lt q3) q3⟩
  have fin := run L (Nat.le_refl _) b h
  rw [hlo b hb] at fin
  exact fin
theorem noState {K : Nat → Nat} (hN : netUp K) {R : Nat} {pr : Nat → Nat → Nat} (hP : okPr R pr) {c y : Nat → Int64} (h1 : isSp K R pr c y) : (∀ x s b, x < 64 → s < 12 → Aof c x s b → 8 ≤ b) ∧ ∀ q b, q < 8 → Sof y q b → 8 ≤ b := by
  have sub := h1.2.2 (fun _ _ b => 8 ≤ b) (fun _ b => 8 ≤ b) (by
    intro x s b hx hs hbit
    apply Nat.not_lt.mp
    intro hlt
    rw [hN (12 * x + s) (by omega) b hlt] at hbit
    cases hbit) (by
    intro r hr β hβ hsc
    have h8 : 8 ≤ β := by
      rcases hsc with z | ⟨k, k1, k2, k3⟩
      · exact z
      · exact k3
    exact ⟨fun _ => h8, fun _ => h8, fun _ => ⟨show 8 ≤ 16 + r by omega, h8⟩⟩)
  exact ⟨fun x s b h1 h2 h3 => sub.1 x s b h1 h2 (bt_lt h3) h3, fun q b h1 h3 => sub.2 q b h1 (bt_lt h3) h3⟩
theorem aft_MC {K : Nat → Nat} (hN : netUp K) {R : Nat} {pr : Nat → Nat → Nat} (hP : okPr R pr) {c y : Nat → Int64} {c' e' : Nat → Int32} (h1 : isSp K R pr c y) (h2 : isSM K R pr c' e') {w : Nat → Nat} {L a : Nat} (hw : ∀ j, j < L → w j < 12) (ha : a < 8) {b : Nat} (hb : b < 16) (h : runM (GM c') w (fun t => t = a ∨ EM e' a t) L L b) : runA (Aof c) w (fun k => k = a ∨ Sof y a k) L L b := by
  have hR := hP.1
  obtain ⟨ns1, ns2⟩ := noState hN hP h1
  obtain ⟨b1, b2, -⟩ := h1
  let fired : Nat → Prop := fun r => r < R ∧ pr 3 r = 2 ∧ ∃ β, β < 64 ∧ sc (Aof c) (Sof y) (pr 0 r) (pr 1 r) β
  let rep : Nat → Nat → Prop := fun x β => (x < 16 ∧ β = x) ∨ (16 ≤ x ∧ ∃ r, fired r ∧ x = 16 + 12 * pr 2 r + pr 4 r ∧ β = 16 + r)
  let full : Nat → (Nat → Prop) → Prop := fun x P => (∃ β, rep x β) ∧ ∀ β, rep x β → P β
  let scN : Nat → Nat → Nat → Prop := fun x s β => Aof c x s β ∨ (x < 8 ∧ ∃ k, k < 64 ∧ Sof y x k ∧ Aof c k s β)
  let A' : Nat → Nat → Nat → Prop := fun x s t => (x < 16 → full t (scN x s)) ∧ (16 ≤ x → ∃ α, rep x α ∧ full t (fun β => Aof c α s β))
  let S' : Nat → Nat → Prop := fun q t => full t (Sof y q)
  have repLo : ∀ x, x < 16 → rep x x := fun x hx => Or.inl ⟨hx, rfl⟩
  have repLo2 : ∀ x β, x < 16 → rep x β → β = x := by
    intro x β hx hr
    rcases hr with ⟨_, z⟩ | ⟨z, _⟩
    · exact z
    · omega
  have base : baseM K A' := by
    intro x s t hx hs h8 h16 hbit
    refine ⟨fun _ => ⟨⟨t, repLo t h16⟩, fun β hr => ?_⟩, fun z => by omega⟩
    rw [repLo2 t β h16 hr]
    exact Or.inl (b1 x s t hx hs hbit)
  have cls : clMs A' S' R pr := by
    refine ⟨fun r hr t ht hA => ?_, fun q m0 hq hm0 hS => ?_⟩
    · obtain ⟨p0, p1, p2, p3, p4, p5⟩ := hP.2 r hr
      have cl := b2 r hr
      obtain ⟨⟨β0, hβ0⟩, hall⟩ := hA.1 (by omega)
      have toSc : ∀ β, rep t β → β < 64 ∧ sc (Aof c) (Sof y) (pr 0 r) (pr 1 r) β := by
        intro β hβ
        rcases hall β hβ with z | ⟨_, k, k1, k2, k3⟩
        · exact ⟨bt_lt z, Or.inl z⟩
        · exact ⟨bt_lt k3, Or.inr ⟨k, k1, k2, k3⟩⟩
      refine ⟨fun z => ⟨⟨β0, hβ0⟩, fun β hβ => ?_⟩, fun z => ⟨fun _ => ⟨⟨β0, hβ0⟩, fun β hβ => ?_⟩, fun y => by omega⟩, fun z => ?_⟩
      · obtain ⟨q1, q2⟩ := toSc β hβ
        exact (cl β q1 q2).1 z
      · obtain ⟨q1, q2⟩ := toSc β hβ
        exact Or.inl ((cl β q1 q2).2.1 z)
      · have hf : fired r := ⟨hr, z, β0, toSc β0 hβ0⟩
        refine ⟨⟨fun _ => ⟨⟨16 + r, Or.inr ⟨by omega, r, hf, rfl, rfl⟩⟩, fun β hβ => ?_⟩, fun y => by omega⟩, fun y => by omega, fun _ => ⟨16 + r, Or.inr ⟨by omega, r, hf, rfl, rfl⟩, ⟨β0, hβ0⟩, fun β hβ => ?_⟩⟩
        · rcases hβ with ⟨y1, _⟩ | ⟨_, r2, ⟨f1, f2, β2, f3, f4⟩, e1, e2⟩
          · omega
          · obtain ⟨s0, s1, s2, s3, s4, s5⟩ := hP.2 r2 f1
            have k1 : pr 2 r2 = pr 2 r := by omega
            have k2 : pr 4 r2 = pr 4 r := by omega
            left
            rw [e2, ← k1, ← k2]
            exact ((b2 r2 f1 β2 f3 f4).2.2 f2).1
        · obtain ⟨q1, q2⟩ := toSc β hβ
          exact ((cl β q1 q2).2.2 z).2
    · obtain ⟨⟨β0, hβ0⟩, hall⟩ := hS
      have hm8 : 8 ≤ m0 := by
        apply Nat.not_lt.mp
        intro hlt
        have := ns2 q m0 hq (hall m0 (repLo m0 (by omega)))
        omega
      refine ⟨fun s t hs ht hA => ⟨fun _ => ?_, fun z => by omega⟩, fun z => by omega⟩
      by_cases hm16 : m0 < 16
      · obtain ⟨q1, q2⟩ := hA.1 hm16
        refine ⟨q1, fun β hβ => ?_⟩
        rcases q2 β hβ with z | ⟨z, _⟩
        · exact Or.inr ⟨hq, m0, by omega, hall m0 (repLo m0 hm16), z⟩
        · omega
      · obtain ⟨α, q0, q1, q2⟩ := hA.2 (by omega)
        have hα := hall α q0
        exact ⟨q1, fun β hβ => Or.inr ⟨hq, α, bt_lt hα, hα, q2 β hβ⟩⟩
  have sub := h2.2.2 A' S' base cls
  have run : ∀ k, k ≤ L → ∀ t, t < 112 → runM (GM c') w (fun t => t = a ∨ EM e' a t) L k t → full t (runA (Aof c) w (fun k => k = a ∨ Sof y a k) L k) ∧ (t < 8 → ∀ β, Sof y t β → runA (Aof c) w (fun k => k = a ∨ Sof y a k) L k β) := by
    intro k
    induction k with
    | zero =>
      intro _ t ht hr
      rcases hr with z | z
      · subst z
        refine ⟨⟨⟨t, repLo t (by omega)⟩, fun β hβ => ?_⟩, fun _ β hβ => Or.inr hβ⟩
        rw [repLo2 t β (by omega) hβ]
        exact Or.inl rfl
      · have hS := sub.2 a t ha ht z
        refine ⟨⟨hS.1, fun β hβ => Or.inr (hS.2 β hβ)⟩, fun h8 => ?_⟩
        have := ns2 a t ha (hS.2 t (repLo t (by omega)))
        omega
    | succ k ih =>
      intro hk t ht hr
      obtain ⟨m0, q1, q2, q3⟩ := hr
      have hs := hw (L - (k + 1)) (by omega)
      have hA := sub.1 m0 _ t q1 hs ht q3
      obtain ⟨⟨i1, i2⟩, i3⟩ := ih (by omega) m0 q1 q2
      have key : full t (runA (Aof c) w (fun k => k = a ∨ Sof y a k) L (k + 1)) := by
        by_cases hm16 : m0 < 16
        · obtain ⟨z1, z2⟩ := hA.1 hm16
          refine ⟨z1, fun β hβ => ?_⟩
          rcases z2 β hβ with z | ⟨h8, k', k1, k2, k3⟩
          · exact ⟨m0, by omega, i2 m0 (repLo m0 hm16), z⟩
          · exact ⟨k', k1, i3 h8 k' k2, k3⟩
        · obtain ⟨α, z0, z1, z2⟩ := hA.2 (by omega)
          refine ⟨z1, fun β hβ => ⟨α, ?_, i2 α z0, z2 β hβ⟩⟩
          rcases z0 with ⟨y1, _⟩ | ⟨_, r2, ⟨f1, _⟩, _, e2⟩
          · omega
          · omega
      refine ⟨key, fun h8 => ?_⟩
      obtain ⟨α, y1, y2, y3⟩ := key.2 t (repLo t (by omega))
      have := ns1 α _ t y1 hs y3
      omega
  exact (run L (Nat.le_refl _) b (by omega) h).1.2 b (repLo b hb)
/-- after: class and reference answer the same -/
theorem after_same {K : Nat → Nat} (hK : ∀ i, i < 192 → K i < 65536) (hN : netUp K) {R : Nat} {pr : Nat → Nat → Nat} (hP : okPr R pr) {c y : Nat → Int64} (h1 : isSp K R pr c y) {w : Nat → Nat} {E L a : Nat} (hw : ∀ j, j < L → w j < 12) (ha : a < 8) {r : Int32 × Int32 × (Nat → Int32) × (Nat → Int32) × (Nat → Int32) × (Nat → Int32)} (hr : aftM K R pr w E L a r) {f : Int32} (hf : f = 0 ∨ f = 1) (hff : f = 1 ↔ ∃ b, b < 16 ∧ E.testBit b = true ∧ runA (Aof c) w (fun k => k = a ∨ Sof y a k) L L b) : r.1 = f := by
  obtain ⟨c', e', h2, -, r2, r3⟩ := hr
  have eq : f = 1 ↔ r.1 = 1 := by
    rw [hff, r3]
    constructor
    · rintro ⟨b, q1, q2, q3⟩
      exact ⟨b, q1, q2, aft_CM hK hN hP h1 h2 hw ha q1 q3⟩
    · rintro ⟨b, q1, q2, q3⟩
      exact ⟨b, q1, q2, aft_MC hN hP h1 h2 hw ha q1 q3⟩
  rcases hf with z | z
  · rcases r2 with y | y
    · rw [y, z]
    · exact absurd ((eq.mpr y).symm.trans z) n10
  · rw [eq.mp z, z]
theorem c_after_x {K w : Nat → Nat} {R E L a : Nat} {so chg : Int32} {c4 cp cg cq cn cw1 cw2 cw : Nat → Int32} {pr : Nat → Nat → Nat} (ha : a < 8) (hR : ruN R cp cg cn cq cw1 cw2 pr) (hK : ∀ i, i < 192 → K i < 65536 ∧ c4 i = nI (K i)) (hE : E < 65536) (hL : L ≤ 30) (hw : ∀ j, j < L → cw j = nI (w j) ∧ w j < 12) {c y : Nat → Int64} (hso : so = chg → isSp K R pr c y) :
    Wq (fX10_after_x (nI a) so (nI R) (nI E) (nI L) chg c y c4 cp cg cq cn cw1 cw2 cw) (fun r => r.1 = 0 ∧ r.2.2.1 = chg ∧ isSp K R pr r.2.2.2.1 r.2.2.2.2 ∧ (r.2.1 = 0 ∨ r.2.1 = 1) ∧ (r.2.1 = 1 ↔ ∃ b, b < 16 ∧ E.testBit b = true ∧ runA (Aof r.2.2.2.1) w (fun k => k = a ∨ Sof r.2.2.2.2 a k) L L b)) := by
  unfold fX10_after_x fX10_after_x_p48
  refine Wq_tg ?_
  rw [e_isState, if_neg (st_in ha), ob_s, if_neg n10]
  refine Wq_ob (c_holds ha hR hK hE hL hw hso) (fun o ho => ?_)
  obtain ⟨q1, q2, q3, q4⟩ := ho
  refine Wq_if (fun h => Wq_some ⟨rfl, q1, q2, Or.inl rfl, ?_⟩) (fun h => Wq_some ⟨rfl, q1, q2, Or.inr rfl, ?_⟩)
  · exact ⟨fun z => absurd z.symm n10, fun z => absurd ((q4.mpr z).symm.trans h) n10⟩
  · exact ⟨fun _ => q4.mp (q3.resolve_left h), fun _ => rfl⟩
theorem c_after_s {K w : Nat → Nat} {R E L a : Nat} {chg : Int32} {c4 cp cg cq cn cw1 cw2 cw : Nat → Int32} {pr : Nat → Nat → Nat} (ha : a < 8) (hR : ruN R cp cg cn cq cw1 cw2 pr) (hK : ∀ i, i < 192 → K i < 65536 ∧ c4 i = nI (K i)) (hE : E < 65536) (hL : L ≤ 30) (hw : ∀ j, j < L → cw j = nI (w j) ∧ w j < 12) (hso : ¬ chg = -1) :
    Wq (fX10_after_s (nI a) (nI R) (nI E) (nI L) chg c4 cp cg cq cn cw1 cw2 cw) (fun r => r.1 = 1 ∧ r.2.2.1 = chg ∧ isSp K R pr r.2.2.2.1 r.2.2.2.2 ∧ (r.2.1 = 0 ∨ r.2.1 = 1) ∧ (r.2.1 = 1 ↔ ∃ b, b < 16 ∧ E.testBit b = true ∧ runA (Aof r.2.2.2.1) w (fun k => k = a ∨ Sof r.2.2.2.2 a k) L L b)) := by
  unfold fX10_after_s fX10_after_s_p100048
  rw [e_isState, if_neg (st_in ha), ob_s, if_neg n10]
  refine Wq_tg ?_
  refine Wq_ob (c_holds ha hR hK hE hL hw (fun h => absurd h.symm hso)) (fun o ho => ?_)
  obtain ⟨q1, q2, q3, q4⟩ := ho
  refine Wq_if (fun h => Wq_some ⟨rfl, q1, q2, Or.inl rfl, ?_⟩) (fun h => Wq_some ⟨rfl, q1, q2, Or.inr rfl, ?_⟩)
  · exact ⟨fun z => absurd z.symm n10, fun z => absurd ((q4.mpr z).symm.trans h) n10⟩
  · exact ⟨fun _ => q4.mp (q3.resolve_left h), fun _ => rfl⟩
