/-! ===== pure rows 114: the calls that change a system ===== -/
theorem law_rule {T k kw R E L A : Nat} {p g q n w1 w2 net cw m mn me mw : Nat → Int32} {kn : Int32} {mt : Nat → Int32} {ws wl : Int32} {mwy : Nat → Int32} {dv : Nat} {so : Int32} {c3 : Nat → Int32} {wv : Nat} {len fs fa fw : Int32} {d19 : Nat → Int32} {sv : Nat} {so2 : Int32} {cS yS : Nat → Int64} (h : sysI T k kw R E L A p g q n w1 w2 net cw m mn me mw kn mt ws wl mwy dv so c3 wv len fs fa fw d19 sv so2 cS yS) (hT : T < 1000) (a0 a1 a2 a3 a4 a5 thr : Int32) : ∃ (v : Int32) (k2 R2 : Nat) (d2 d3 d4 d5 d6 d7 m2 : Nat → Int32) (kn2 ws2 : Int32), fX10_rule a0 a1 a2 a3 a4 a5 (nI R) (nI k) p g q n w1 w2 = some (v, nI R2, nI k2, d2, d3, d4, d5, d6, d7) ∧ fX11_rule a0 a1 a2 a3 a4 a5 thr (nI R) kn ws m = some (v, 0, nI R2, kn2, ws2, m2) ∧ sysI (T + 1) k2 kw R2 E L A d2 d3 d4 d5 d6 d7 net cw m2 mn me mw kn2 mt ws2 wl mwy dv so c3 wv len fs fa fw d19 sv so2 cS yS := by
  obtain ⟨r1, r2, r3, r4, r5, r6⟩ := h.1
  obtain ⟨v, chg2, kn2, ws2, R2, d2, d3, d4, d5, d6, d7, m2, e1, e2, e3, e4⟩ := pu_rule a0 a1 a2 a3 a4 a5 (nI k) thr kn ws r1
  rcases e4 with ⟨x1, x2, x3, x4, x5, x6, x7, x8, x9, x10, x11⟩ | ⟨x1, x2, x3, x4⟩
  · subst x1 x2 x3 x4 x5 x6 x7 x8 x9 x10 x11
    exact ⟨v, k, R2, d2, d3, d4, d5, d6, d7, m2, kn2, ws2, e1, e2, sysI_m h h.1 (Or.inl ⟨rfl, rfl⟩)⟩
  · subst x2 x3
    rw [x1, show nI k + 1 = nI (k + 1) from nI_add _ 1] at e1
    exact ⟨v, k + 1, R2, d2, d3, d4, d5, d6, d7, m2, 0, -1, e1, e2, sysI_k h hT ⟨e3, r2, r3, r4, r5, r6⟩⟩
theorem law_arc {T k kw R E L A : Nat} {p g q n w1 w2 net cw m mn me mw : Nat → Int32} {kn : Int32} {mt : Nat → Int32} {ws wl : Int32} {mwy : Nat → Int32} {dv : Nat} {so : Int32} {c3 : Nat → Int32} {wv : Nat} {len fs fa fw : Int32} {d19 : Nat → Int32} {sv : Nat} {so2 : Int32} {cS yS : Nat → Int64} (h : sysI T k kw R E L A p g q n w1 w2 net cw m mn me mw kn mt ws wl mwy dv so c3 wv len fs fa fw d19 sv so2 cS yS) (hT : T < 1000) (a0 a1 a2 thr : Int32) : ∃ (v : Int32) (k2 A2 : Nat) (d mn2 : Nat → Int32) (kn2 ws2 : Int32), fX10_arc a0 a1 a2 (nI k) (nI A) net = some (v, nI k2, nI A2, d) ∧ fX11_arc a0 a1 a2 thr (nI A) kn ws mn = some (v, 0, nI A2, kn2, ws2, mn2) ∧ sysI (T + 1) k2 kw R E L A2 p g q n w1 w2 d cw m mn2 me mw kn2 mt ws2 wl mwy dv so c3 wv len fs fa fw d19 sv so2 cS yS := by
  obtain ⟨r1, r2, r3, r4, r5, r6⟩ := h.1
  obtain ⟨v, chg2, kn2, ws2, A2, d, mn2, e1, e2, e3, e4, e5⟩ := pu_arc a0 a1 a2 (nI k) thr kn ws r5 r2
  rcases e5 with ⟨x1, x2, x3, x4, x5, x6⟩ | ⟨x1, x2, x3⟩
  · subst x1 x2 x3 x4 x5 x6
    exact ⟨v, k, A2, d, mn2, kn2, ws2, e1, e2, sysI_m h h.1 (Or.inl ⟨rfl, rfl⟩)⟩
  · subst x2 x3
    rw [x1, show nI k + 1 = nI (k + 1) from nI_add _ 1] at e1
    exact ⟨v, k + 1, A2, d, mn2, 0, -1, e1, e2, sysI_k h hT ⟨r1, e4, r3, r4, e3, r6⟩⟩
theorem law_end {T k kw R E L A : Nat} {p g q n w1 w2 net cw m mn me mw : Nat → Int32} {kn : Int32} {mt : Nat → Int32} {ws wl : Int32} {mwy : Nat → Int32} {dv : Nat} {so : Int32} {c3 : Nat → Int32} {wv : Nat} {len fs fa fw : Int32} {d19 : Nat → Int32} {sv : Nat} {so2 : Int32} {cS yS : Nat → Int64} (h : sysI T k kw R E L A p g q n w1 w2 net cw m mn me mw kn mt ws wl mwy dv so c3 wv len fs fa fw d19 sv so2 cS yS) (hT : T < 1000) (a0 a1 thr : Int32) : ∃ (v : Int32) (k2 E2 : Nat) (me2 : Nat → Int32) (kn2 ws2 : Int32), fX10_end a0 a1 (nI E) (nI k) = some (v, nI E2, nI k2) ∧ fX11_end a0 a1 thr kn ws me = some (v, 0, kn2, ws2, me2) ∧ sysI (T + 1) k2 kw R E2 L A p g q n w1 w2 net cw m mn me2 mw kn2 mt ws2 wl mwy dv so c3 wv len fs fa fw d19 sv so2 cS yS := by
  obtain ⟨r1, r2, r3, r4, r5, r6⟩ := h.1
  obtain ⟨v, chg2, kn2, ws2, E2, me2, e1, e2, e3, e4⟩ := pu_end a0 a1 (nI k) thr kn ws r3
  rcases e4 with ⟨x1, x2, x3⟩ | ⟨x1, x2, x3⟩
  · subst x1 x2
    exact ⟨v, k, E2, me2, kn2, ws2, e1, e2, sysI_m h ⟨r1, r2, e3, r4, r5, r6⟩ x3⟩
  · subst x2 x3
    rw [x1, show nI k + 1 = nI (k + 1) from nI_add _ 1] at e1
    exact ⟨v, k + 1, E2, me2, 0, -1, e1, e2, sysI_k h hT ⟨r1, r2, e3, r4, r5, r6⟩⟩
theorem law_clear {T k kw R E L A : Nat} {p g q n w1 w2 net cw m mn me mw : Nat → Int32} {kn : Int32} {mt : Nat → Int32} {ws wl : Int32} {mwy : Nat → Int32} {dv : Nat} {so : Int32} {c3 : Nat → Int32} {wv : Nat} {len fs fa fw : Int32} {d19 : Nat → Int32} {sv : Nat} {so2 : Int32} {cS yS : Nat → Int64} (h : sysI T k kw R E L A p g q n w1 w2 net cw m mn me mw kn mt ws wl mwy dv so c3 wv len fs fa fw d19 sv so2 cS yS) (hT : T < 1000) (thr : Int32) : ∃ (d mn2 me2 : Nat → Int32), fX10_clear (nI R) (nI E) (nI k) (nI A) net = some (nI R, nI 0, nI 0, nI (k + 1), nI 0, d) ∧ fX11_clear thr (nI R) (nI A) kn ws mn me = some (nI R, 0, nI 0, nI 0, 0, -1, mn2, me2) ∧ sysI (T + 1) (k + 1) kw 0 0 L 0 p g q n w1 w2 d cw m mn2 me2 mw 0 mt (-1) wl mwy dv so c3 wv len fs fa fw d19 sv so2 cS yS := by
  obtain ⟨r1, r2, r3, r4, r5, r6⟩ := h.1
  obtain ⟨d, mn2, me2, e1, e2, e3, e4⟩ := pu_clear (nI R) (nI k) thr kn ws (nI E) (nI A) (nI A) net mn me
  rw [show nI k + 1 = nI (k + 1) from nI_add _ 1] at e1
  exact ⟨d, mn2, me2, e1, e2, sysI_k h hT ⟨⟨by omega, fun k hk => absurd hk (Nat.not_lt_zero k)⟩, e3, e4, r4, by decide, r6⟩⟩
theorem law_push {T k kw R E L A : Nat} {p g q n w1 w2 net cw m mn me mw : Nat → Int32} {kn : Int32} {mt : Nat → Int32} {ws wl : Int32} {mwy : Nat → Int32} {dv : Nat} {so : Int32} {c3 : Nat → Int32} {wv : Nat} {len fs fa fw : Int32} {d19 : Nat → Int32} {sv : Nat} {so2 : Int32} {cS yS : Nat → Int64} (h : sysI T k kw R E L A p g q n w1 w2 net cw m mn me mw kn mt ws wl mwy dv so c3 wv len fs fa fw d19 sv so2 cS yS) (hT : T < 1000) (a0 thr : Int32) : ∃ (v : Int32) (kw2 L2 : Nat) (cw2 mw2 : Nat → Int32) (ws2 : Int32), fX10_push a0 (nI L) (nI kw) cw = some (v, nI L2, nI kw2, cw2) ∧ fX11_push a0 thr (nI L) ws mw = some (v, 0, nI L2, ws2, mw2) ∧ sysI (T + 1) k kw2 R E L2 A p g q n w1 w2 net cw2 m mn me mw2 kn mt ws2 wl mwy dv so c3 wv len fs fa fw d19 sv so2 cS yS := by
  obtain ⟨r1, r2, r3, r4, r5, r6⟩ := h.1
  obtain ⟨v, chg2, ws2, L2, cw2, mw2, e1, e2, e3, e4, e5, e6⟩ := pu_push a0 r4 (fun j hj => (r6 j hj).1) (nI kw) thr ws
  by_cases hL : L2 = L
  · obtain ⟨x1, x2, x3⟩ := e5 hL
    subst x1 x2 x3 hL
    exact ⟨v, kw, L2, cw2, mw2, ws2, e1, e2, sysI_m h ⟨r1, r2, r3, r4, r5, fun j hj => ⟨e4 j hj, (r6 j hj).2⟩⟩ (Or.inl ⟨rfl, rfl⟩)⟩
  · obtain ⟨x1, x2, x3, x4, x5, x6, x7, x8⟩ := e6 hL
    subst x2
    rw [x1, show nI kw + 1 = nI (kw + 1) from nI_add _ 1] at e1
    refine ⟨v, kw + 1, L2, cw2, mw2, -1, e1, e2, sysI_w h hT ⟨r1, r2, r3, e3, r5, fun j hj => ⟨e4 j hj, ?_⟩⟩⟩
    by_cases hj2 : j = L
    · obtain ⟨s, -, s1, s2⟩ := rng (a := a0) (l := 0) (h := 11) rfl rfl (by decide) (by omega) (fun z => z.elim x4 (fun y => x5 ((lt_11_12 _).mp y)))
      rw [hj2, x6]
      exact ⟨s, by omega, s2⟩
    · rw [x8 j (by omega)]
      exact (r6 j (by omega)).2
theorem law_drop {T k kw R E L A : Nat} {p g q n w1 w2 net cw m mn me mw : Nat → Int32} {kn : Int32} {mt : Nat → Int32} {ws wl : Int32} {mwy : Nat → Int32} {dv : Nat} {so : Int32} {c3 : Nat → Int32} {wv : Nat} {len fs fa fw : Int32} {d19 : Nat → Int32} {sv : Nat} {so2 : Int32} {cS yS : Nat → Int64} (h : sysI T k kw R E L A p g q n w1 w2 net cw m mn me mw kn mt ws wl mwy dv so c3 wv len fs fa fw d19 sv so2 cS yS) (hT : T < 1000) (thr : Int32) : fX10_drop (nI L) (nI kw) = some (nI L, nI 0, nI (kw + 1)) ∧ fX11_drop thr (nI L) ws = some (nI L, 0, nI 0, -1) ∧ sysI (T + 1) k (kw + 1) R E 0 A p g q n w1 w2 net cw m mn me mw kn mt (-1) wl mwy dv so c3 wv len fs fa fw d19 sv so2 cS yS := by
  obtain ⟨r1, r2, r3, r4, r5, r6⟩ := h.1
  obtain ⟨e1, e2⟩ := pu_drop (nI L) (nI kw) thr ws
  rw [show nI kw + 1 = nI (kw + 1) from nI_add _ 1] at e1
  exact ⟨e1, e2, sysI_w h hT ⟨r1, r2, r3, by decide, r5, fun j hj => absurd hj (Nat.not_lt_zero j)⟩⟩
theorem law_lies {T k kw R E L A : Nat} {p g q n w1 w2 net cw m mn me mw : Nat → Int32} {kn : Int32} {mt : Nat → Int32} {ws wl : Int32} {mwy : Nat → Int32} {dv : Nat} {so : Int32} {c3 : Nat → Int32} {wv : Nat} {len fs fa fw : Int32} {d19 : Nat → Int32} {sv : Nat} {so2 : Int32} {cS yS : Nat → Int64} (h : sysI T k kw R E L A p g q n w1 w2 net cw m mn me mw kn mt ws wl mwy dv so c3 wv len fs fa fw d19 sv so2 cS yS) (a0 thr : Int32) : ∃ v : Int32, fX10_lies a0 (nI E) (nI L) cw net = some (v, ()) ∧ fX11_lies a0 thr (nI L) mw mn me = some (v, 0) := by
  obtain ⟨r1, r2, r3, r4, r5, r6⟩ := h.1
  obtain ⟨k1, k2, k3⟩ := sys_K r2
  exact pu_lies a0 k1 k2 (fun i hi b hb => k3 i b hi hb) r3 r4 r6 thr
