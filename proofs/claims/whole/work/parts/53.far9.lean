/-! ===== pure rows 24: the rules as numbers; lay, layWord, far ===== -/
def prOf (p g q n w1 w2 : Nat → Int32) (i r : Nat) : Nat :=
  if i = 0 then (p r).toNatClampNeg else if i = 1 then (g r).toNatClampNeg else if i = 2 then (q r).toNatClampNeg else if i = 3 then (n r).toNatClampNeg else if i = 4 then (w1 r).toNatClampNeg else (w2 r).toNatClampNeg
theorem rel_pr {R : Nat} {p g q n w1 w2 m : Nat → Int32} (h : relRules R p g q n w1 w2 m) : ruN R p g n q w1 w2 (prOf p g q n w1 w2) ∧ rmN R m (prOf p g q n w1 w2) := by
  have key : ∀ r, r < R → ∃ a b c d e f : Nat, a < 8 ∧ b < 12 ∧ c < 8 ∧ d ≤ 2 ∧ e < 12 ∧ f < 12 ∧ p r = nI a ∧ g r = nI b ∧ q r = nI c ∧ n r = nI d ∧ w1 r = nI e ∧ w2 r = nI f := by
    intro r hr
    obtain ⟨⟨o1, o2, o3, o4, o5, o6⟩, z1, z2, -⟩ := h.2 r hr
    obtain ⟨a, -, a1, a2⟩ := rng (l := 0) (h := 7) rfl rfl (by decide) (by omega) (fun k => o1 (k.imp id (lt_7_8 _).mp))
    obtain ⟨b, -, b1, b2⟩ := rng (l := 0) (h := 11) rfl rfl (by decide) (by omega) (fun k => o2 (k.imp id (lt_11_12 _).mp))
    obtain ⟨c, -, c1, c2⟩ := rng (l := 0) (h := 7) rfl rfl (by decide) (by omega) (fun k => o3 (k.imp id (lt_7_8 _).mp))
    obtain ⟨d, -, d1, d2⟩ := rng (l := 0) (h := 2) rfl rfl (by decide) (by omega) (fun k => o4 (k.imp id (fun z => Int32.not_le.mpr z)))
    have he : ∃ e, e < 12 ∧ w1 r = nI e := by
      by_cases hn : n r < 1
      · exact ⟨0, by decide, z1 hn⟩
      · obtain ⟨e, -, e1, e2⟩ := rng (l := 0) (h := 11) rfl rfl (by decide) (by omega) (fun k => o5 hn (k.imp id (lt_11_12 _).mp))
        exact ⟨e, by omega, e2⟩
    have hf : ∃ f, f < 12 ∧ w2 r = nI f := by
      by_cases hn : n r = 2
      · obtain ⟨e, -, e1, e2⟩ := rng (l := 0) (h := 11) rfl rfl (by decide) (by omega) (fun k => o6 hn (k.imp id (lt_11_12 _).mp))
        exact ⟨e, by omega, e2⟩
      · exact ⟨0, by decide, z2 hn⟩
    obtain ⟨e, e1, e2⟩ := he
    obtain ⟨f, f1, f2⟩ := hf
    exact ⟨a, b, c, d, e, f, by omega, by omega, by omega, d1, e1, f1, a2, b2, c2, d2, e2, f2⟩
  have key2 : ∀ r, r < R → (prOf p g q n w1 w2 0 r < 8 ∧ prOf p g q n w1 w2 1 r < 12 ∧ prOf p g q n w1 w2 2 r < 8 ∧ prOf p g q n w1 w2 3 r ≤ 2 ∧ prOf p g q n w1 w2 4 r < 12 ∧ prOf p g q n w1 w2 5 r < 12) ∧ p r = nI (prOf p g q n w1 w2 0 r) ∧ g r = nI (prOf p g q n w1 w2 1 r) ∧ q r = nI (prOf p g q n w1 w2 2 r) ∧ n r = nI (prOf p g q n w1 w2 3 r) ∧ w1 r = nI (prOf p g q n w1 w2 4 r) ∧ w2 r = nI (prOf p g q n w1 w2 5 r) := by
    intro r hr
    obtain ⟨a, b, c, d, e, f, h1, h2, h3, h4, h5, h6, e1, e2, e3, e4, e5, e6⟩ := key r hr
    have k0 : prOf p g q n w1 w2 0 r = a := by show (p r).toNatClampNeg = a; rw [e1]; exact nI_clamp (by omega)
    have k1 : prOf p g q n w1 w2 1 r = b := by show (g r).toNatClampNeg = b; rw [e2]; exact nI_clamp (by omega)
    have k2 : prOf p g q n w1 w2 2 r = c := by show (q r).toNatClampNeg = c; rw [e3]; exact nI_clamp (by omega)
    have k3 : prOf p g q n w1 w2 3 r = d := by show (n r).toNatClampNeg = d; rw [e4]; exact nI_clamp (by omega)
    have k4 : prOf p g q n w1 w2 4 r = e := by show (w1 r).toNatClampNeg = e; rw [e5]; exact nI_clamp (by omega)
    have k5 : prOf p g q n w1 w2 5 r = f := by show (w2 r).toNatClampNeg = f; rw [e6]; exact nI_clamp (by omega)
    rw [k0, k1, k2, k3, k4, k5]
    exact ⟨⟨h1, h2, h3, h4, h5, h6⟩, e1, e2, e3, e4, e5, e6⟩
  refine ⟨⟨h.1, fun r hr => ?_⟩, fun r hr => ?_⟩
  · obtain ⟨b, e1, e2, e3, e4, e5, e6⟩ := key2 r hr
    exact ⟨b, e1, e2, e3, e4, e5, e6⟩
  · obtain ⟨b, e1, e2, e3, e4, e5, e6⟩ := key2 r hr
    obtain ⟨-, -, -, m0, m1, m2, m3, m4, m5⟩ := h.2 r hr
    refine ⟨m0.trans e1, m1.trans e2, m2.trans e3, m3.trans e4, fun k => (m4 ?_).trans e5, fun k => (m5 ?_).trans e6⟩
    · rw [e4]
      exact fun z => absurd ((nI_ltI (a := prOf p g q n w1 w2 3 r) (b := 1) (by omega) (by decide)).mp z) (by omega)
    · rw [e4, k]; rfl
/-- the rows of the reference's tower -/
def TM (E : Nat → Bool) (x w : Nat → Nat) (H : Nat) (c3 c4 : Nat → Int32) : Prop := (∀ h, h ≤ H → ∀ a, a < 16 → c3 (16 * h + a) = mI (tw E x w h a)) ∧ ∀ h, h < H → c4 h = nI (w h) ∧ w h < 12
theorem TM_low {E : Nat → Bool} {x w : Nat → Nat} {H H2 : Nat} {c3 c4 : Nat → Int32} (h : TM E x w H c3 c4) (hl : H2 ≤ H) : TM E x w H2 c3 c4 := ⟨fun k hk => h.1 k (by omega), fun k hk => h.2 k (by omega)⟩
theorem r_lay {E : Nat → Bool} {x w : Nat → Nat} {s H : Nat} (hs : s < 12) {st c2 c3 : Nat → Int32} (hx : tm x c2) (hT : TM E x w H c3 st) (hH : H < 4007) :
    Wq (fX11_lay (nI H) (nI s) st c2 c3) (fun r => TM E x (wset w H s) (H + 1) r.2 r.1) := by
  obtain ⟨fu, hfu, hg⟩ := fu_any
  have i1 : (16 : Int32) * nI s = nI (16 * s) := pk_mul 16 _
  have i2 : (16 : Int32) * nI H = nI (16 * H) := pk_mul 16 _
  have i3 : (16 : Int32) * nI (H + 1) = nI (16 * (H + 1)) := pk_mul 16 _
  have key : ∀ (k i n : Nat) (c : Nat → Int32), i + k = 16 → k < n → (∀ h, h ≤ H → ∀ a, a < 16 → c (16 * h + a) = mI (tw E x w h a)) → (∀ a, a < i → c (16 * (H + 1) + a) = mI (thr x (tw E x w H) a s)) →
      Wq (fX11_lay_l9 c2 n (nI H) (nI s) (nI i) (upd st H (nI s)) c) (fun r => TM E x (wset w H s) (H + 1) r.2 r.1) := by
    intro k
    induction k with
    | zero =>
      intro i n c g1 g2 q1 q2
      obtain ⟨n, rfl⟩ : ∃ z, n = z + 1 := ⟨n - 1, by omega⟩
      show Wq (fX11_lay_b9 c2 _ (nI H) (nI s) (nI i) (upd st H (nI s)) c) _
      unfold fX11_lay_b9
      have h16 : (16 : Int32) ≤ nI i := nI_le (a := 16) (b := i) (by omega) (by omega)
      rw [if_pos h16]
      refine Wq_some ⟨fun h hh a ha => ?_, fun h hh => ?_⟩
      · show c (16 * h + a) = _
        by_cases e : h = H + 1
        · subst e
          have e2 : tw E x (wset w H s) (H + 1) a = thr x (tw E x w H) a s := by
            show thr x (tw E x (wset w H s) H) a (wset w H s H) = _
            rw [tw_wset (Nat.le_refl _)]
            unfold wset
            rw [if_pos rfl]
          rw [e2]
          exact q2 a (by omega)
        · rw [tw_wset (by omega)]
          exact q1 h (by omega) a ha
      · show upd st H (nI s) h = _ ∧ _
        by_cases e : h = H
        · subst e; simp [upd, wset, hs]
        · have := hT.2 h (by omega)
          simp only [upd, wset, if_neg e]
          exact this
    | succ k ih =>
      intro i n c g1 g2 q1 q2
      obtain ⟨n, rfl⟩ : ∃ z, n = z + 1 := ⟨n - 1, by omega⟩
      have hA := rw16_le (a := i) (s := s) (by omega) hs
      have i4 : (192 : Int32) * nI i = nI (192 * i) := pk_mul 192 _
      have eA : 192 * i + 16 * s = rw16 i s := by unfold rw16; omega
      have key2 : ∀ (k2 b n2 : Nat), b + k2 = 16 → k2 < n2 → fX11_lay_l22 c2 (fX11_lay_l9 c2 n) n2 (nI H) (nI s) (nI i) (mI (minN (fun b => sm (x (rw16 i s + b)) (tw E x w H b)) b)) (nI b) (upd st H (nI s)) c = fX11_lay_l9 c2 n (nI H) (nI s) (nI (i + 1)) (upd st H (nI s)) (upd c (16 * (H + 1) + i) (mI (thr x (tw E x w H) i s))) := by
        intro k2
        induction k2 with
        | zero =>
          intro b n2 g3 g4
          obtain ⟨n2, rfl⟩ : ∃ z, n2 = z + 1 := ⟨n2 - 1, by omega⟩
          show fX11_lay_b22 c2 (fX11_lay_l9 c2 n) _ (nI H) (nI s) (nI i) _ (nI b) (upd st H (nI s)) c = _
          unfold fX11_lay_b22
          have h16 : (16 : Int32) ≤ nI b := nI_le (a := 16) (b := b) (by omega) (by omega)
          have eb : b = 16 := by omega
          subst eb
          simp only [if_pos h16, nm, nI_1, i3, nI_add, inb_nI (j := 16 * (H + 1) + i) (n := 64128) (by omega) (by decide), bd, nI_clamp (n := 16 * (H + 1) + i) (by omega)]
          rfl
        | succ k2 ih2 =>
          intro b n2 g3 g4
          obtain ⟨n2, rfl⟩ : ∃ z, n2 = z + 1 := ⟨n2 - 1, by omega⟩
          have h16 : ¬ (16 : Int32) ≤ nI b := nI_ge (a := b) (b := 16) (by omega) (by omega)
          have hvm : vl (minN (fun b => sm (x (rw16 i s + b)) (tw E x w H b)) b) := minN_vl (fun _ => sm_vl) b
          obtain ⟨s1, s2⟩ := hx (rw16 i s + b) (by omega)
          have t1 := q1 H (Nat.le_refl _) b (by omega)
          have t2 := tw_vl E x w H b
          have rm := r_min hvm (sm_vl (a := x (rw16 i s + b)) (b := tw E x w H b))
          have e := ih2 (b + 1) n2 (by omega) (by omega)
          rw [minN_s, ← rm] at e
          show fX11_lay_b22 c2 (fX11_lay_l9 c2 n) _ (nI H) (nI s) (nI i) _ (nI b) (upd st H (nI s)) c = _
          unfold fX11_lay_b22 fX11_lay_p78
          simp only [if_neg h16, nm, i4, i1, nI_add, eA, inb_nI (j := rw16 i s + b) (n := 3072) (by omega) (by decide), bd, nI_clamp (n := rw16 i s + b) (by omega), s1, i2, inb_nI (j := 16 * H + b) (n := 64128) (by omega) (by decide), nI_clamp (n := 16 * H + b) (by omega), t1, r_sum s2 t2, ob_s, nI_1]
          by_cases hc : mI (minN (fun b => sm (x (rw16 i s + b)) (tw E x w H b)) b) ≤ mI (sm (x (rw16 i s + b)) (tw E x w H b))
          · rw [if_pos hc] at e ⊢; exact e
          · rw [if_neg hc] at e ⊢; exact e
      show Wq (fX11_lay_b9 c2 _ (nI H) (nI s) (nI i) (upd st H (nI s)) c) _
      unfold fX11_lay_b9
      have h16 : ¬ (16 : Int32) ≤ nI i := nI_ge (a := i) (b := 16) (by omega) (by omega)
      have k0 := key2 16 0 fu (by omega) (by omega)
      have e5 : (2000000 : Int32) = mI (minN (fun b => sm (x (rw16 i s + b)) (tw E x w H b)) 0) := mI_inf.symm
      rw [← e5] at k0
      rw [if_neg h16, hfu]
      have e0 : (0 : Int32) = nI 0 := rfl
      rw [e0, k0]
      refine ih (i + 1) n _ (by omega) (by omega) (fun h hh a ha => ?_) (fun a ha => ?_)
      · unfold upd
        rw [if_neg (by omega)]
        exact q1 h hh a ha
      · unfold upd
        by_cases e : a = i
        · subst e; rw [if_pos rfl]
        · rw [if_neg (by omega)]; exact q2 a (by omega)
  unfold fX11_lay
  rw [hfu]
  simp only [inb_nI (j := H) (n := 4008) (by omega) (by decide), bd, nm, nI_clamp (n := H) (by omega)]
  exact key 16 0 fu c3 (by omega) (by omega) hT.1 (fun a ha => absurd ha (by omega))
