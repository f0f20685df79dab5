/-! ===== pure rows 115: far ===== -/
/-- more calls have been made -/
theorem sysI_T {T k kw R E L A : Nat} {p g q n w1 w2 net cw m mn me mw : Nat → Int32} {kn : Int32} {mt : Nat → Int32} {ws wl : Int32} {mwy : Nat → Int32} {dv : Nat} {so : Int32} {c3 : Nat → Int32} {wv : Nat} {len fs fa fw : Int32} {d19 : Nat → Int32} {sv : Nat} {so2 : Int32} {cS yS : Nat → Int64} (h : sysI T k kw R E L A p g q n w1 w2 net cw m mn me mw kn mt ws wl mwy dv so c3 wv len fs fa fw d19 sv so2 cS yS) : sysI (T + 1) k kw R E L A p g q n w1 w2 net cw m mn me mw kn mt ws wl mwy dv so c3 wv len fs fa fw d19 sv so2 cS yS := sysI_m h h.1 (Or.inl ⟨rfl, rfl⟩)
theorem st_bad {a : Int32} (h : ¬ (a < 0 ∨ 8 ≤ a)) : ∃ j : Nat, j < 8 ∧ a = nI j := by
  obtain ⟨j, -, j1, j2⟩ := rng (a := a) (l := 0) (h := 7) rfl rfl (by decide) (by omega) (fun z => h (z.imp id (lt_7_8 a).mp))
  exact ⟨j, by omega, j2⟩
theorem law_far_x {T k kw R E L A : Nat} {p g q n w1 w2 net cw m mn me mw : Nat → Int32} {kn : Int32} {mt : Nat → Int32} {ws wl : Int32} {mwy : Nat → Int32} {dv : Nat} {so : Int32} {c3 : Nat → Int32} {wv : Nat} {len fs fa fw : Int32} {d19 : Nat → Int32} {sv : Nat} {so2 : Int32} {cS yS : Nat → Int64} (h : sysI T k kw R E L A p g q n w1 w2 net cw m mn me mw kn mt ws wl mwy dv so c3 wv len fs fa fw d19 sv so2 cS yS) (hdv : dv = 1) (a0 thr ht0 : Int32) (d1 d2 c5 c7 : Nat → Int32) : ∃ (v so3 ht1 : Int32) (c4 e1 e2 : Nat → Int32) (kn2 : Int32) (mt2 c8 c9 : Nat → Int32), fX10_far_x a0 so (nI R) (nI E) (nI L) (nI k) net c3 p g n q w1 w2 30 ht0 d1 cw d2 = some (0, v, so3, c4, ht1, e1, e2) ∧ fX11_far a0 thr (nI R) (nI L) kn mn mt m me c5 mw c7 = some (v, 0, kn2, mt2, c8, c9) ∧ sysI (T + 1) k kw R E L A p g q n w1 w2 net cw m mn me mw kn2 mt2 ws wl mwy dv so3 c4 wv len fs fa fw d19 sv so2 cS yS := by
  obtain ⟨r1, r2, r3, r4, r5, r6⟩ := h.1
  by_cases ha : a0 < 0 ∨ 8 ≤ a0
  · exact ⟨_, _, _, _, _, _, _, _, _, _, c_far_x_bad ha so (nI R) (nI E) (nI L) (nI k) ht0 net c3 p g n q w1 w2 cw d1 d2, r_far_bad ha thr (nI R) (nI L) kn mn mt m me c5 mw c7, sysI_T h⟩
  · obtain ⟨j, hj, rfl⟩ := st_bad ha
    obtain ⟨k1, k2, k3⟩ := sys_K r2
    obtain ⟨u1, u2⟩ := sys_w r6
    obtain ⟨f1, f2⟩ := rel_pr r1
    have f3 := ruN_ok f1
    have hD := DD_is (K := Kf net) f3
    obtain ⟨hh1, hh2, hh3, hh4, hh5, hh6, hh7⟩ := h
    obtain ⟨o, eo, a1, a2, x, a3, a4, a5⟩ := c_far_x hj f1 k1 (fun z => ⟨_, (hh5 hdv).1 z, hD.1⟩) r3.1 r4 u1 (ht0 := ht0) (d1 := d1) (d2 := d2) (so := so) (chg := nI k)
    obtain ⟨o2, eo2, b1, b2, x2, b3, b4, b5⟩ := r_far hj f3 f2 k3 (hh4.1.imp id (fun z => ⟨_, z, hD.1⟩)) r3 r4 u2 (thr := thr) (kn := kn) (c2 := mt) (c5 := c5) (c7 := c7)
    obtain ⟨o1, ov, os3, oc4, oh, oe1, oe2⟩ := o
    obtain ⟨qv, qt, qk, qm, q8, q9⟩ := o2
    have a1 : o1 = 0 := a1
    have a2 : os3 = nI k := a2
    have a5 : ov = farA (tw E.testBit x (Kf cw) L j) := a5
    have b1 : qt = 0 := b1
    have b5 : qv = farA (tw E.testBit x2 (Kf cw) L j) := b5
    have hv : qv = ov := by rw [b5, a5, tw_x (isD_eq b4 a4) L (fun i hi => (u1 i hi).2) j (by omega)]
    subst a1 b1 hv
    have hlt : lt1 k os3 := by
      have z : os3 = nI k := a2
      rw [z]
      exact lt1_k k
    exact ⟨_, _, _, _, _, _, _, _, _, _, eo, eo2, hh1, by omega, by omega, ⟨Or.inr (tm_DD f3 b3 b4), hh4.2⟩, fun _ => ⟨fun _ => tb_DD f3 a3 a4, hlt⟩, hh6, hh7⟩
theorem law_far_dt {T k kw R E L A : Nat} {p g q n w1 w2 net cw m mn me mw : Nat → Int32} {kn : Int32} {mt : Nat → Int32} {ws wl : Int32} {mwy : Nat → Int32} {dv : Nat} {so : Int32} {c3 : Nat → Int32} {wv : Nat} {len fs fa fw : Int32} {d19 : Nat → Int32} {sv : Nat} {so2 : Int32} {cS yS : Nat → Int64} (h : sysI T k kw R E L A p g q n w1 w2 net cw m mn me mw kn mt ws wl mwy dv so c3 wv len fs fa fw d19 sv so2 cS yS) (h9 : T < 1000) (a0 thr : Int32) (c5 c7 : Nat → Int32) : ∃ (o : Nat × Int32 × Int32 × (Nat → Int32) × Int32 × Int32 × (Nat → Int32) × (Nat → Int32)) (v kn2 : Int32) (mt2 c8 c9 : Nat → Int32), fX10_far_dt a0 (nI R) (nI E) (nI L) (nI k) net p g n q w1 w2 cw = some o ∧ o.2.1 = v ∧ fX11_far a0 thr (nI R) (nI L) kn mn mt m me c5 mw c7 = some (v, 0, kn2, mt2, c8, c9) ∧ ((o.1 = 0 ∧ sysI (T + 1) k kw R E L A p g q n w1 w2 net cw m mn me mw kn2 mt2 ws wl mwy dv so c3 wv len fs fa fw d19 sv so2 cS yS) ∨ (o.1 = 1 ∧ o.2.2.2.2.1 = 30 ∧ sysI (T + 1) k kw R E L A p g q n w1 w2 net cw m mn me mw kn2 mt2 ws wl mwy 1 o.2.2.1 o.2.2.2.1 wv len fs fa fw d19 sv so2 cS yS)) := by
  obtain ⟨r1, r2, r3, r4, r5, r6⟩ := h.1
  by_cases ha : a0 < 0 ∨ 8 ≤ a0
  · obtain ⟨o, eo, o1, o2⟩ := c_far_dt_bad ha (nI R) (nI E) (nI L) (nI k) net p g n q w1 w2 cw
    exact ⟨o, _, _, _, _, _, eo, o2, r_far_bad ha thr (nI R) (nI L) kn mn mt m me c5 mw c7, Or.inl ⟨o1, sysI_T h⟩⟩
  · obtain ⟨j, hj, rfl⟩ := st_bad ha
    obtain ⟨k1, k2, k3⟩ := sys_K r2
    obtain ⟨u1, u2⟩ := sys_w r6
    obtain ⟨f1, f2⟩ := rel_pr r1
    have f3 := ruN_ok f1
    have hD := DD_is (K := Kf net) f3
    obtain ⟨hh1, hh2, hh3, hh4, hh5, hh6, hh7⟩ := h
    obtain ⟨o, eo, a1, a2, x, a3, a4, a5, a6⟩ := c_far_dt hj f1 k1 (nI_m1 (p := k) (by have := h9; omega)) r3.1 r4 u1
    obtain ⟨o2, eo2, b1, b2, x2, b3, b4, b5⟩ := r_far hj f3 f2 k3 (hh4.1.imp id (fun z => ⟨_, z, hD.1⟩)) r3 r4 u2 (thr := thr) (kn := kn) (c2 := mt) (c5 := c5) (c7 := c7)
    obtain ⟨qv, qt, qk, qm, q8, q9⟩ := o2
    have b1 : qt = 0 := b1
    have b5 : qv = farA (tw E.testBit x2 (Kf cw) L j) := b5
    have hv : o.2.1 = qv := by rw [b5, a5, tw_x (isD_eq b4 a4) L (fun i hi => (u1 i hi).2) j (by omega)]
    subst b1
    exact ⟨o, qv, _, _, _, _, eo, hv, eo2, Or.inr ⟨a1, a6, hh1, by omega, by omega, ⟨Or.inr (tm_DD f3 b3 b4), hh4.2⟩, fun _ => ⟨fun _ => tb_DD f3 a3 a4, by rw [a2]; exact lt1_k k⟩, hh6, hh7⟩⟩
