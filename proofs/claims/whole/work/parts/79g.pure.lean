/-! ===== pure rows 116: way and after ===== -/
theorem r_way_bad {a : Int32} (ha : a < 0 ∨ 8 ≤ a) (a1 thr R L kn ws wl : Int32) (c1 c2 c3 c4 c5 c6 c7 c8 : Nat → Int32) : fX11_way a a1 thr R L kn ws wl c1 c2 c3 c4 c5 c6 c7 c8 = some (-2, 0, kn, ws, wl, c2, c5, c7, c8) := by
  unfold fX11_way
  rw [e_in, if_pos (ha.imp id (lt_7_8 a).mpr), ob_s, if_pos rfl]
theorem law_way_x {T k kw R E L A : Nat} {p g q n w1 w2 net cw m mn me mw : Nat → Int32} {kn : Int32} {mt : Nat → Int32} {ws wl : Int32} {mwy : Nat → Int32} {dv : Nat} {so : Int32} {c3 : Nat → Int32} {wv : Nat} {len fs fa fw : Int32} {d19 : Nat → Int32} {sv : Nat} {so2 : Int32} {cS yS : Nat → Int64} (h : sysI T k kw R E L A p g q n w1 w2 net cw m mn me mw kn mt ws wl mwy dv so c3 wv len fs fa fw d19 sv so2 cS yS) (hdv : dv = 1) (hwv : wv = 1) (a0 a1 thr ht0 ht1 : Int32) (d1 d2 d17 d18 c5 c7 : Nat → Int32) : Wq (fX10_way_x a0 a1 len fs fa fw (nI R) (nI E) (nI L) (nI k) (nI kw) so net c3 p g n q w1 w2 30 ht0 d1 cw d2 2030 ht1 d17 d18 d19) (fun r => r.1 = 0 ∧ Wq (fX11_way a0 a1 thr (nI R) (nI L) kn ws wl mn mt m me c5 mw c7 mwy) (fun qq => qq.1 = r.2.1 ∧ sysI (T + 1) k kw R E L A p g q n w1 w2 net cw m mn me mw qq.2.2.1 qq.2.2.2.2.2.1 qq.2.2.2.1 qq.2.2.2.2.1 qq.2.2.2.2.2.2.2.2 dv r.2.2.2.2.2.2.1 r.2.2.2.2.2.2.2.1 wv r.2.2.1 r.2.2.2.1 r.2.2.2.2.1 r.2.2.2.2.2.1 r.2.2.2.2.2.2.2.2.2.2.2.2.2.2 sv so2 cS yS)) := by
  obtain ⟨r1, r2, r3, r4, r5, r6⟩ := h.1
  by_cases ha : a0 < 0 ∨ 8 ≤ a0
  · unfold fX10_way_x
    rw [e_isState, if_pos ha, ob_s, if_pos rfl]
    exact Wq_tg (Wq_some ⟨rfl, _, r_way_bad ha a1 thr (nI R) (nI L) kn ws wl mn mt m me c5 mw c7 mwy, rfl, sysI_T h⟩)
  · obtain ⟨j, hj, rfl⟩ := st_bad ha
    obtain ⟨k1, k2, k3⟩ := sys_K r2
    obtain ⟨u1, u2⟩ := sys_w r6
    obtain ⟨f1, f2⟩ := rel_pr r1
    have f3 := ruN_ok f1
    obtain ⟨hh1, hh2, hh3, hh4, hh5, hh6, hh7⟩ := h
    obtain ⟨qq, eq, b1, b2, b3, b4, b5⟩ := r_way a1 k2 hj f3 f2 k3 hh4.1 r3 r4 u2 (hh4.2 j hj) (thr := thr) (c5 := c5) (c7 := c7)
    have hm : mmI R E L p g q n w1 w2 net cw qq.2.2.1 qq.2.2.2.2.2.1 qq.2.2.2.1 qq.2.2.2.2.1 qq.2.2.2.2.2.2.2.2 := ⟨b3, fun x hx z => by
      have hxj : x = j := (nI_eq (a := x) (b := j) (by omega) (by omega)).mp (z.symm.trans b4)
      rw [hxj]
      exact b5⟩
    obtain ⟨r, er, a2, a3, a4, a5, a6, a7⟩ := c_way_x a1 k2 hj f1 k1 (hh5 hdv).1 r3.1 r4 u1 (hh6 hwv).1 (ht0 := ht0) (ht1 := ht1) (d1 := d1) (d2 := d2) (d17 := d17) (d18 := d18)
    refine ⟨r, er, a2, qq, eq, b1.trans a3.symm, hh1, by omega, by omega, hm, fun _ => ?_, fun _ => ⟨a4, ?_, ?_⟩, hh7⟩
    · rcases a7 with ⟨z1, z2⟩ | ⟨z1, z2⟩
      · rw [z1, z2]; exact hh5 hdv
      · rw [z1]; exact ⟨fun _ => z2, lt1_k k⟩
    · rcases a5 with z | z
      · rw [z]; exact (hh6 hwv).2.1
      · rw [z]; exact lt1_k k
    · rcases a6 with z | z
      · rw [z]; exact (hh6 hwv).2.2
      · rw [z]; exact lt1_k kw
theorem law_way_w {T k kw R E L A : Nat} {p g q n w1 w2 net cw m mn me mw : Nat → Int32} {kn : Int32} {mt : Nat → Int32} {ws wl : Int32} {mwy : Nat → Int32} {dv : Nat} {so : Int32} {c3 : Nat → Int32} {wv : Nat} {len fs fa fw : Int32} {d19 : Nat → Int32} {sv : Nat} {so2 : Int32} {cS yS : Nat → Int64} (h : sysI T k kw R E L A p g q n w1 w2 net cw m mn me mw kn mt ws wl mwy dv so c3 wv len fs fa fw d19 sv so2 cS yS) (hdv : dv = 1) (a0 a1 thr ht0 : Int32) (d1 d2 c5 c7 : Nat → Int32) : Wq (fX10_way_w a0 a1 so (nI R) (nI E) (nI L) (nI k) (nI kw) net c3 p g n q w1 w2 30 ht0 d1 cw d2) (fun r => Wq (fX11_way a0 a1 thr (nI R) (nI L) kn ws wl mn mt m me c5 mw c7 mwy) (fun qq => qq.1 = r.2.1 ∧ ((r.1 = 0 ∧ sysI (T + 1) k kw R E L A p g q n w1 w2 net cw m mn me mw qq.2.2.1 qq.2.2.2.2.2.1 qq.2.2.2.1 qq.2.2.2.2.1 qq.2.2.2.2.2.2.2.2 dv r.2.2.1 r.2.2.2.1 wv len fs fa fw d19 sv so2 cS yS) ∨ (r.1 = 1 ∧ r.2.2.2.2.2.2.2.2.2.2.2.2.1 = 2030 ∧ sysI (T + 1) k kw R E L A p g q n w1 w2 net cw m mn me mw qq.2.2.1 qq.2.2.2.2.2.1 qq.2.2.2.1 qq.2.2.2.2.1 qq.2.2.2.2.2.2.2.2 dv r.2.2.1 r.2.2.2.1 1 r.2.2.2.2.2.2.2.1 r.2.2.2.2.2.2.2.2.1 r.2.2.2.2.2.2.2.2.2.1 r.2.2.2.2.2.2.2.2.2.2.1 r.2.2.2.2.2.2.2.2.2.2.2.1 sv so2 cS yS)))) := by
  obtain ⟨r1, r2, r3, r4, r5, r6⟩ := h.1
  by_cases ha : a0 < 0 ∨ 8 ≤ a0
  · unfold fX10_way_w
    rw [e_isState, if_pos ha, ob_s, if_pos rfl]
    exact Wq_tg (Wq_some ⟨_, r_way_bad ha a1 thr (nI R) (nI L) kn ws wl mn mt m me c5 mw c7 mwy, rfl, Or.inl ⟨rfl, sysI_T h⟩⟩)
  · obtain ⟨j, hj, rfl⟩ := st_bad ha
    obtain ⟨k1, k2, k3⟩ := sys_K r2
    obtain ⟨u1, u2⟩ := sys_w r6
    obtain ⟨f1, f2⟩ := rel_pr r1
    have f3 := ruN_ok f1
    obtain ⟨hh1, hh2, hh3, hh4, hh5, hh6, hh7⟩ := h
    obtain ⟨qq, eq, b1, b2, b3, b4, b5⟩ := r_way a1 k2 hj f3 f2 k3 hh4.1 r3 r4 u2 (hh4.2 j hj) (thr := thr) (c5 := c5) (c7 := c7)
    have hm : mmI R E L p g q n w1 w2 net cw qq.2.2.1 qq.2.2.2.2.2.1 qq.2.2.2.1 qq.2.2.2.2.1 qq.2.2.2.2.2.2.2.2 := ⟨b3, fun x hx z => by
      have hxj : x = j := (nI_eq (a := x) (b := j) (by omega) (by omega)).mp (z.symm.trans b4)
      rw [hxj]
      exact b5⟩
    obtain ⟨r, er, a3, a4, a5, a6⟩ := c_way_w a1 k2 hj f1 k1 (hh5 hdv).1 r3.1 r4 u1 (wch := nI kw) (ht0 := ht0) (d1 := d1) (d2 := d2)
    have hd : dI k R p g q n w1 w2 net r.2.2.1 r.2.2.2.1 := ⟨fun _ => a5, by rw [a4]; exact lt1_k k⟩
    refine ⟨r, er, qq, eq, b1.trans a3.symm, ?_⟩
    rcases a6 with a6 | ⟨a6, z1, z2, z3, z4⟩
    · exact Or.inl ⟨a6, hh1, by omega, by omega, hm, fun _ => hd, hh6, hh7⟩
    · exact Or.inr ⟨a6, z4, hh1, by omega, by omega, hm, fun _ => hd, fun _ => ⟨z1, by rw [z2]; exact lt1_k k, by rw [z3]; exact lt1_k kw⟩, hh7⟩
theorem law_way_dtw {T k kw R E L A : Nat} {p g q n w1 w2 net cw m mn me mw : Nat → Int32} {kn : Int32} {mt : Nat → Int32} {ws wl : Int32} {mwy : Nat → Int32} {dv : Nat} {so : Int32} {c3 : Nat → Int32} {wv : Nat} {len fs fa fw : Int32} {d19 : Nat → Int32} {sv : Nat} {so2 : Int32} {cS yS : Nat → Int64} (h : sysI T k kw R E L A p g q n w1 w2 net cw m mn me mw kn mt ws wl mwy dv so c3 wv len fs fa fw d19 sv so2 cS yS) (h9 : T < 1000) (a0 a1 thr : Int32) (c5 c7 : Nat → Int32) : Wq (fX10_way_dtw a0 a1 (nI R) (nI E) (nI L) (nI k) (nI kw) net p g n q w1 w2 cw) (fun r => Wq (fX11_way a0 a1 thr (nI R) (nI L) kn ws wl mn mt m me c5 mw c7 mwy) (fun qq => qq.1 = r.2.1 ∧ ((r.1 = 0 ∧ sysI (T + 1) k kw R E L A p g q n w1 w2 net cw m mn me mw qq.2.2.1 qq.2.2.2.2.2.1 qq.2.2.2.1 qq.2.2.2.2.1 qq.2.2.2.2.2.2.2.2 dv so c3 wv len fs fa fw d19 sv so2 cS yS) ∨ (r.1 = 2 ∧ r.2.2.2.2.1 = 30 ∧ sysI (T + 1) k kw R E L A p g q n w1 w2 net cw m mn me mw qq.2.2.1 qq.2.2.2.2.2.1 qq.2.2.2.1 qq.2.2.2.2.1 qq.2.2.2.2.2.2.2.2 1 r.2.2.1 r.2.2.2.1 wv len fs fa fw d19 sv so2 cS yS) ∨ (r.1 = 1 ∧ r.2.2.2.2.1 = 30 ∧ r.2.2.2.2.2.2.2.2.2.2.2.2.2.1 = 2030 ∧ sysI (T + 1) k kw R E L A p g q n w1 w2 net cw m mn me mw qq.2.2.1 qq.2.2.2.2.2.1 qq.2.2.2.1 qq.2.2.2.2.1 qq.2.2.2.2.2.2.2.2 1 r.2.2.1 r.2.2.2.1 1 r.2.2.2.2.2.2.2.2.1 r.2.2.2.2.2.2.2.2.2.1 r.2.2.2.2.2.2.2.2.2.2.1 r.2.2.2.2.2.2.2.2.2.2.2.1 r.2.2.2.2.2.2.2.2.2.2.2.2.1 sv so2 cS yS)))) := by
  obtain ⟨r1, r2, r3, r4, r5, r6⟩ := h.1
  by_cases ha : a0 < 0 ∨ 8 ≤ a0
  · unfold fX10_way_dtw
    rw [e_isState, if_pos ha, ob_s, if_pos rfl]
    exact Wq_tg (Wq_some ⟨_, r_way_bad ha a1 thr (nI R) (nI L) kn ws wl mn mt m me c5 mw c7 mwy, rfl, Or.inl ⟨rfl, sysI_T h⟩⟩)
  · obtain ⟨j, hj, rfl⟩ := st_bad ha
    obtain ⟨k1, k2, k3⟩ := sys_K r2
    obtain ⟨u1, u2⟩ := sys_w r6
    obtain ⟨f1, f2⟩ := rel_pr r1
    have f3 := ruN_ok f1
    obtain ⟨hh1, hh2, hh3, hh4, hh5, hh6, hh7⟩ := h
    obtain ⟨qq, eq, b1, b2, b3, b4, b5⟩ := r_way a1 k2 hj f3 f2 k3 hh4.1 r3 r4 u2 (hh4.2 j hj) (thr := thr) (c5 := c5) (c7 := c7)
    have hm : mmI R E L p g q n w1 w2 net cw qq.2.2.1 qq.2.2.2.2.2.1 qq.2.2.2.1 qq.2.2.2.2.1 qq.2.2.2.2.2.2.2.2 := ⟨b3, fun x hx z => by
      have hxj : x = j := (nI_eq (a := x) (b := j) (by omega) (by omega)).mp (z.symm.trans b4)
      rw [hxj]
      exact b5⟩
    obtain ⟨r, er, a3, a4, a5, a6, a7⟩ := c_way_dtw a1 k2 hj f1 k1 (nI_m1 (p := k) (by have := h9; omega)) r3.1 r4 u1 (wch := nI kw)
    have hd : dI k R p g q n w1 w2 net r.2.2.1 r.2.2.2.1 := ⟨fun _ => a5, by rw [a4]; exact lt1_k k⟩
    refine ⟨r, er, qq, eq, b1.trans a3.symm, ?_⟩
    rcases a7 with a7 | ⟨a7, z1, z2, z3, z4⟩
    · exact Or.inr (Or.inl ⟨a7, a6, hh1, by omega, by omega, hm, fun _ => hd, hh6, hh7⟩)
    · exact Or.inr (Or.inr ⟨a7, a6, z4, hh1, by omega, by omega, hm, fun _ => hd, fun _ => ⟨z1, by rw [z2]; exact lt1_k k, by rw [z3]; exact lt1_k kw⟩, hh7⟩)
theorem r_after_bad {a : Int32} (ha : a < 0 ∨ 8 ≤ a) (thr R L : Int32) (c1 c2 c3 c4 c5 c6 c7 c8 : Nat → Int32) : fX11_after a thr R L c1 c2 c3 c4 c5 c6 c7 c8 = some (-2, 0, c1, c2, c5, c6) := by
  unfold fX11_after
  rw [e_in, if_pos (ha.imp id (lt_7_8 a).mpr), ob_s, if_pos rfl]
theorem law_after_x {T k kw R E L A : Nat} {p g q n w1 w2 net cw m mn me mw : Nat → Int32} {kn : Int32} {mt : Nat → Int32} {ws wl : Int32} {mwy : Nat → Int32} {dv : Nat} {so : Int32} {c3 : Nat → Int32} {wv : Nat} {len fs fa fw : Int32} {d19 : Nat → Int32} {sv : Nat} {so2 : Int32} {cS yS : Nat → Int64} (h : sysI T k kw R E L A p g q n w1 w2 net cw m mn me mw kn mt ws wl mwy dv so c3 wv len fs fa fw d19 sv so2 cS yS) (hsv : sv = 1) (a0 thr : Int32) (m1 m2 m5 m6 : Nat → Int32) : Wq (fX10_after_x a0 so2 (nI R) (nI E) (nI L) (nI k) cS yS net p g q n w1 w2 cw) (fun r => r.1 = 0 ∧ Wq (fX11_after a0 thr (nI R) (nI L) m1 m2 mn m m5 m6 mw me) (fun qq => qq.1 = r.2.1) ∧ sysI (T + 1) k kw R E L A p g q n w1 w2 net cw m mn me mw kn mt ws wl mwy dv so c3 wv len fs fa fw d19 sv r.2.2.1 r.2.2.2.1 r.2.2.2.2) := by
  obtain ⟨r1, r2, r3, r4, r5, r6⟩ := h.1
  by_cases ha : a0 < 0 ∨ 8 ≤ a0
  · unfold fX10_after_x
    rw [e_isState, if_pos ha, ob_s, if_pos rfl]
    exact Wq_tg (Wq_some ⟨rfl, ⟨_, r_after_bad ha thr (nI R) (nI L) m1 m2 mn m m5 m6 mw me, rfl⟩, sysI_T h⟩)
  · obtain ⟨j, hj, rfl⟩ := st_bad ha
    obtain ⟨k1, k2, k3⟩ := sys_K r2
    obtain ⟨u1, u2⟩ := sys_w r6
    obtain ⟨f1, f2⟩ := rel_pr r1
    have f3 := ruN_ok f1
    obtain ⟨hh1, hh2, hh3, hh4, hh5, hh6, hh7⟩ := h
    obtain ⟨r, er, a2, a3, a4, a5, a6⟩ := c_after_x hj f1 k1 r3.1 r4 u1 (hh7 hsv).1
    obtain ⟨qq, eq, b1⟩ := r_after f3 hj f2 k3 r4 u2 r3 thr (c1 := m1) (c2 := m2) (c5 := m5) (c6 := m6)
    have hv := after_same (fun i hi => (k1 i hi).1) k2 f3 a4 (fun j hj => (u1 j hj).2) hj b1 a5 a6
    exact ⟨r, er, a2, ⟨qq, eq, hv⟩, hh1, by omega, by omega, hh4, hh5, hh6, fun _ => ⟨fun _ => a4, by rw [a3]; exact lt1_k k⟩⟩
theorem law_after_s {T k kw R E L A : Nat} {p g q n w1 w2 net cw m mn me mw : Nat → Int32} {kn : Int32} {mt : Nat → Int32} {ws wl : Int32} {mwy : Nat → Int32} {dv : Nat} {so : Int32} {c3 : Nat → Int32} {wv : Nat} {len fs fa fw : Int32} {d19 : Nat → Int32} {sv : Nat} {so2 : Int32} {cS yS : Nat → Int64} (h : sysI T k kw R E L A p g q n w1 w2 net cw m mn me mw kn mt ws wl mwy dv so c3 wv len fs fa fw d19 sv so2 cS yS) (h9 : T < 1000) (a0 thr : Int32) (m1 m2 m5 m6 : Nat → Int32) : Wq (fX10_after_s a0 (nI R) (nI E) (nI L) (nI k) net p g q n w1 w2 cw) (fun r => Wq (fX11_after a0 thr (nI R) (nI L) m1 m2 mn m m5 m6 mw me) (fun qq => qq.1 = r.2.1) ∧ ((r.1 = 0 ∧ sysI (T + 1) k kw R E L A p g q n w1 w2 net cw m mn me mw kn mt ws wl mwy dv so c3 wv len fs fa fw d19 sv so2 cS yS) ∨ (r.1 = 1 ∧ sysI (T + 1) k kw R E L A p g q n w1 w2 net cw m mn me mw kn mt ws wl mwy dv so c3 wv len fs fa fw d19 1 r.2.2.1 r.2.2.2.1 r.2.2.2.2))) := by
  obtain ⟨r1, r2, r3, r4, r5, r6⟩ := h.1
  by_cases ha : a0 < 0 ∨ 8 ≤ a0
  · unfold fX10_after_s
    rw [e_isState, if_pos ha, ob_s, if_pos rfl]
    exact Wq_tg (Wq_some ⟨⟨_, r_after_bad ha thr (nI R) (nI L) m1 m2 mn m m5 m6 mw me, rfl⟩, Or.inl ⟨rfl, sysI_T h⟩⟩)
  · obtain ⟨j, hj, rfl⟩ := st_bad ha
    obtain ⟨k1, k2, k3⟩ := sys_K r2
    obtain ⟨u1, u2⟩ := sys_w r6
    obtain ⟨f1, f2⟩ := rel_pr r1
    have f3 := ruN_ok f1
    obtain ⟨hh1, hh2, hh3, hh4, hh5, hh6, hh7⟩ := h
    obtain ⟨r, er, a2, a3, a4, a5, a6⟩ := c_after_s hj f1 k1 r3.1 r4 u1 (nI_m1 (p := k) (by have := h9; omega))
    obtain ⟨qq, eq, b1⟩ := r_after f3 hj f2 k3 r4 u2 r3 thr (c1 := m1) (c2 := m2) (c5 := m5) (c6 := m6)
    have hv := after_same (fun i hi => (k1 i hi).1) k2 f3 a4 (fun j hj => (u1 j hj).2) hj b1 a5 a6
    exact ⟨r, er, ⟨qq, eq, hv⟩, Or.inr ⟨a2, hh1, by omega, by omega, hh4, hh5, hh6, fun _ => ⟨fun _ => a4, by rw [a3]; exact lt1_k k⟩⟩⟩
