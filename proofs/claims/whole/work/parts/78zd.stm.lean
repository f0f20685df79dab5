/-! ===== pure rows 105: the called procedures of the reference, and what stands behind ===== -/
theorem pM_m {n : Nat} (h : n < 40) : ¬ pM n = -1 := by rw [pM_n h]; exact nI_m1 (by omega)
theorem r_b29 {np s : Nat} {PN : Nat → List Nat} {W : List Nat} {c3 c4 : Nat → Int64} (hs : s < 40) (hP : pNm PN np) (hc3 : ∀ q, q < np → c3 q = nM (PN q)) (hc4 : c4 s = nM W) (hW : nameOk W) (st : Int32) (c1 c5 c6 c7 c9 c10 : Nat → Int32) (k2 : Int32 → Int32 → Int32 → (Nat → Int32) → (Nat → Int32) → Option (Int32 × Int32 × Int32 × (Nat → Int32) × (Nat → Int32))) (wa : Int32) (e8 : Nat → Int32) : ∀ (r i u : Nat) (e2 : Nat → Int32), i + r = np → r < u → ((e2 s = -1 ∧ ∀ q, q < i → ¬ PN q = W) ∨ ∃ q, q < i ∧ PN q = W ∧ e2 s = nI q) →
    ∃ d2, fX11_bind_l29 (nI np) st c1 c3 c4 c5 c6 c7 c9 c10 k2 u (nI s) (nI i) 0 wa e2 e8 = (if d2 s = -1 then some (0, 4, c5 s, d2, e8) else k2 (nI (s + 1)) 0 wa d2 e8) ∧ ((d2 s = -1 ∧ ∀ q, q < np → ¬ PN q = W) ∨ ∃ q, q < np ∧ PN q = W ∧ d2 s = nI q) ∧ ∀ x, ¬ x = s → d2 x = e2 x := by
  have h6 := hP.1
  have b40 := inb_nI (j := s) (n := 40) hs (by decide)
  have e1 : nI s + 1 = nI (s + 1) := nI_add _ 1
  intro r
  induction r with
  | zero =>
    intro i u e2 hi hu h0
    obtain ⟨u, rfl⟩ : ∃ v, u = v + 1 := ⟨u - 1, by omega⟩
    have : i = np := by omega
    subst this
    refine ⟨e2, ?_, h0, fun _ _ => rfl⟩
    show fX11_bind_b29 (nI i) st c1 c3 c4 c5 c6 c7 c9 c10 k2 _ (nI s) (nI i) 0 wa e2 e8 = _
    unfold fX11_bind_b29 fX11_bind_p97 fX11_fail fX11_fail_p17
    rw [if_pos (nI_le (a := i) (b := i) (Nat.le_refl _) (by omega)), bd_eq _ b40, nm_q, nI_clamp (n := s) (by omega)]
    by_cases hm : e2 s = -1
    · rw [if_pos hm, if_pos hm, bd_eq _ b40, nm_q, if_pos rfl, ob_s, bd_eq _ (show bz (0 : Int32) = true by decide)]
    · rw [if_neg hm, if_neg hm, nm_q, e1]
  | succ r ih =>
    intro i u e2 hi hu h0
    obtain ⟨u, rfl⟩ : ∃ v, u = v + 1 := ⟨u - 1, by omega⟩
    have hk := hP.2.1 i (by omega)
    have e3 : nI i + 1 = nI (i + 1) := nI_add _ 1
    have un : fX11_bind_l29 (nI np) st c1 c3 c4 c5 c6 c7 c9 c10 k2 (u + 1) (nI s) (nI i) 0 wa e2 e8 = fX11_bind_b29 (nI np) st c1 c3 c4 c5 c6 c7 c9 c10 k2 (fX11_bind_l29 (nI np) st c1 c3 c4 c5 c6 c7 c9 c10 k2 u) (nI s) (nI i) 0 wa e2 e8 := rfl
    rw [un]
    unfold fX11_bind_b29 fX11_bind_p68
    rw [if_neg (Int32.not_le.mpr (nI_lt (a := i) (b := np) (by omega) (by omega))), bd_eq _ (inb_nI (j := i) (n := 6) (by omega) (by decide)), nm_q, nI_clamp (n := i) (by omega), hc3 i (by omega), bd_eq _ b40, nm_q, nI_clamp (n := s) (by omega), hc4, nm_q]
    by_cases hq : PN i = W
    · rw [if_pos ((lg_cmp_eq _ _).mpr (congrArg nM hq)), bd_eq _ b40, nm_q, nm_q, e3]
      obtain ⟨d2, a1, a2, a3⟩ := ih (i + 1) u (upd e2 s (nI i)) (by omega) (by omega) (Or.inr ⟨i, Nat.lt_succ_self i, hq, upd_at _ _ _⟩)
      exact ⟨d2, a1, a2, fun x hx => (a3 x hx).trans (upd_ne hx)⟩
    · rw [if_neg (fun z => hq ((nM_eq hk.1 hk.2 hW.1 hW.2).mp ((lg_cmp_eq _ _).mp z))), bd_eq _ b40, nm_q, bd_eq _ b40, nm_q, nm_q, e3]
      obtain ⟨d2, a1, a2, a3⟩ := ih (i + 1) u (upd e2 s (e2 s)) (by omega) (by omega) (by
        rw [upd_at]
        rcases h0 with ⟨z1, z2⟩ | ⟨q, z1, z2, z3⟩
        · refine Or.inl ⟨z1, fun q hq2 => ?_⟩
          by_cases hqi : q = i
          · rw [hqi]; exact hq
          · exact z2 q (by omega)
        · exact Or.inr ⟨q, by omega, z2, z3⟩)
      exact ⟨d2, a1, a2, fun x hx => (a3 x hx).trans (upd_ne hx)⟩
theorem r_bind {B : Nat → Nat} {N np n f bl : Nat} {PN : Nat → List Nat} {P : Nat → Nat → Nat} {L : Nat → List Nat} {ow E : Nat → Nat} {Q : List Nat} {c2 : Nat → Int64} {M : MT} (hP : pNm PN np) (hn : n ≤ 40) (hw : wfP B N np n P L ow E) (hR : rPR B N np n f PN P L ow E Q bl c2 M) (hnm : ∀ s, s < n → P 0 s = 3 → nameOk (wdS B N P s)) (wa : Int32) (c24 : Nat → Int32) :
    (∃ d2 d8, fX11_bind 0 wa (nI np) (nI n) M.2.1 M.2.2.2.2.2.2.2.2.2.2.2.2.2.1 c2 M.2.2.2.2.2.2.2.2.2.2.2.2.2.2.2.2.1 M.2.2.2.2.2.2.2.2.2.2.2.2.2.2.2.2.2 M.2.2.2.2.2.1 M.2.2.2.2.1 c24 M.2.2.2.2.2.2.2.2.2.2.1 M.2.2.2.2.2.2.2.2.2.2.2.2.1 = some (1, 0, wa, d2, d8) ∧ (∀ s, s < n → P 0 s = 3 → ∃ q, q < np ∧ PN q = wdS B N P s ∧ d2 s = nI q) ∧ (∀ s, s < n → ¬ P 0 s = 3 → d2 s = M.2.2.2.2.2.2.2.2.2.2.2.2.2.1 s) ∧ ∀ s, s < n → d8 s = pM (bh P s)) ∨ (∃ s d2 d8, bdS B N np n PN P s ∧ fX11_bind 0 wa (nI np) (nI n) M.2.1 M.2.2.2.2.2.2.2.2.2.2.2.2.2.1 c2 M.2.2.2.2.2.2.2.2.2.2.2.2.2.2.2.2.1 M.2.2.2.2.2.2.2.2.2.2.2.2.2.2.2.2.2 M.2.2.2.2.2.1 M.2.2.2.2.1 c24 M.2.2.2.2.2.2.2.2.2.2.1 M.2.2.2.2.2.2.2.2.2.2.2.2.1 = some (0, 4, nI (P 7 s), d2, d8)) := by
  have h6 := hP.1
  have hbl := hR.2.2.2.2
  have hp : ∀ s, s < n → P 2 s = 40 ∨ P 2 s < s := fun s hs => by
    rcases (hw.1 s hs).2.2.2.2.1 with z | z
    · exact Or.inl z
    · exact Or.inr z.1
  -- the points behind
  have key2 : ∀ (r s u : Nat) (e2 e8 : Nat → Int32), s + r = n → r < u → (∀ x, x < s → e8 x = pM (bh P x)) → ∃ d8, fX11_bind_l105 (nI np) (nI n) M.2.1 c2 M.2.2.2.2.2.2.2.2.2.2.2.2.2.2.2.2.1 M.2.2.2.2.2.2.2.2.2.2.2.2.2.2.2.2.2 M.2.2.2.2.2.1 M.2.2.2.2.1 M.2.2.2.2.2.2.2.2.2.2.1 M.2.2.2.2.2.2.2.2.2.2.2.2.1 u (nI s) 0 wa e2 e8 = some (1, 0, wa, e2, d8) ∧ ∀ x, x < n → d8 x = pM (bh P x) := by
    intro r
    induction r with
    | zero =>
      intro s u e2 e8 hs hu h0
      obtain ⟨u, rfl⟩ : ∃ v, u = v + 1 := ⟨u - 1, by omega⟩
      refine ⟨e8, ?_, fun x hx => h0 x (by omega)⟩
      show fX11_bind_b105 (nI np) (nI n) M.2.1 c2 M.2.2.2.2.2.2.2.2.2.2.2.2.2.2.2.2.1 M.2.2.2.2.2.2.2.2.2.2.2.2.2.2.2.2.2 M.2.2.2.2.2.1 M.2.2.2.2.1 M.2.2.2.2.2.2.2.2.2.2.1 M.2.2.2.2.2.2.2.2.2.2.2.2.1 _ (nI s) 0 wa e2 e8 = _
      unfold fX11_bind_b105
      rw [if_pos (nI_le (a := n) (b := s) (by omega) (by omega))]
    | succ r ih =>
      intro s u e2 e8 hs hu h0
      obtain ⟨u, rfl⟩ : ∃ v, u = v + 1 := ⟨u - 1, by omega⟩
      have b40 := inb_nI (j := s) (n := 40) (by omega) (by decide)
      have e1 : nI s + 1 = nI (s + 1) := nI_add _ 1
      obtain ⟨x1, x2, x3, x4, x5, x6, x7, x8, x9, b, hb, x10, x11⟩ := hR.1 s (by omega)
      have b90 := inb_nI (j := b) (n := 90) (by omega) (by decide)
      have hbe := bh_eq hp (show s < n by omega)
      have hx6 := (hw.1 s (by omega)).2.2.2.2.2.1 3 (Or.inl rfl)
      have un : fX11_bind_l105 (nI np) (nI n) M.2.1 c2 M.2.2.2.2.2.2.2.2.2.2.2.2.2.2.2.2.1 M.2.2.2.2.2.2.2.2.2.2.2.2.2.2.2.2.2 M.2.2.2.2.2.1 M.2.2.2.2.1 M.2.2.2.2.2.2.2.2.2.2.1 M.2.2.2.2.2.2.2.2.2.2.2.2.1 (u + 1) (nI s) 0 wa e2 e8 = fX11_bind_b105 (nI np) (nI n) M.2.1 c2 M.2.2.2.2.2.2.2.2.2.2.2.2.2.2.2.2.1 M.2.2.2.2.2.2.2.2.2.2.2.2.2.2.2.2.2 M.2.2.2.2.2.1 M.2.2.2.2.1 M.2.2.2.2.2.2.2.2.2.2.1 M.2.2.2.2.2.2.2.2.2.2.2.2.1 (fX11_bind_l105 (nI np) (nI n) M.2.1 c2 M.2.2.2.2.2.2.2.2.2.2.2.2.2.2.2.2.1 M.2.2.2.2.2.2.2.2.2.2.2.2.2.2.2.2.2 M.2.2.2.2.2.1 M.2.2.2.2.1 M.2.2.2.2.2.2.2.2.2.2.1 M.2.2.2.2.2.2.2.2.2.2.2.2.1 u) (nI s) 0 wa e2 e8 := rfl
      have fin : ∀ v : Int32, v = pM (bh P s) → ∃ d8, fX11_bind_l105 (nI np) (nI n) M.2.1 c2 M.2.2.2.2.2.2.2.2.2.2.2.2.2.2.2.2.1 M.2.2.2.2.2.2.2.2.2.2.2.2.2.2.2.2.2 M.2.2.2.2.2.1 M.2.2.2.2.1 M.2.2.2.2.2.2.2.2.2.2.1 M.2.2.2.2.2.2.2.2.2.2.2.2.1 u (nI (s + 1)) 0 wa e2 (upd e8 s v) = some (1, 0, wa, e2, d8) ∧ ∀ x, x < n → d8 x = pM (bh P x) := by
        intro v hv
        refine ih (s + 1) u e2 (upd e8 s v) (by omega) (by omega) (fun x hx => ?_)
        by_cases hxs : x = s
        · rw [hxs, upd_at]; exact hv
        · rw [upd_ne hxs]; exact h0 x (by omega)
      rw [un]
      unfold fX11_bind_b105 fX11_bind_p187
      rw [if_neg (Int32.not_le.mpr (nI_lt (a := s) (b := n) (by omega) (by omega))), bd_eq _ b40, nm_q, nI_clamp (n := s) (by omega), x10, bd_eq _ b40, nm_q, x4, bd_eq _ b90, nm_q, nI_clamp (n := b) (by omega)]
      simp only [nm_q, bd_eq _ b40, bd_eq _ b90, e1, x4]
      by_cases q3 : P 3 s = 40
      · rw [if_pos q3] at hbe
        rw [q3, if_pos pM_40]
        rcases x11 with ⟨g1, g2⟩ | ⟨g1, g2, g3⟩
        · rw [if_pos g1] at hbe
          rw [g2, if_pos rfl]
          exact fin (-1) (by rw [hbe]; exact pM_40.symm)
        · rw [if_neg (by omega)] at hbe
          rw [x1] at *
          have hpk := (hR.1 (P 2 s) (by omega)).1
          have hpk7 := (hw.1 (P 2 s) (by omega)).1
          rw [hpk] at g3
          rcases g3 with ⟨g4, g5⟩ | ⟨g4, g5⟩
          · have : P 0 (P 2 s) = 2 := (nI_eq (a := P 0 (P 2 s)) (b := 2) (by omega) (by decide)).mp g4
            rw [if_pos this] at hbe
            rw [g5, if_neg (by decide), if_pos rfl, g2]
            exact fin (nI (P 2 s)) (by rw [hbe, pM_n (by omega)])
          · have : P 0 (P 2 s) = 1 := (nI_eq (a := P 0 (P 2 s)) (b := 1) (by omega) (by decide)).mp g4
            rw [if_neg (by omega)] at hbe
            have n0 : ¬ M.2.2.2.2.2.2.2.2.2.2.1 b = 0 := by rcases g5 with g5 | g5 <;> rw [g5] <;> decide
            have n3 : ¬ M.2.2.2.2.2.2.2.2.2.2.1 b = 3 := by rcases g5 with g5 | g5 <;> rw [g5] <;> decide
            rw [if_neg n0, if_neg n3, g2, bd_eq _ (inb_nI (j := P 2 s) (n := 40) (by omega) (by decide)), nI_clamp (n := P 2 s) (by omega)]
            exact fin (e8 (P 2 s)) (by rw [hbe]; exact h0 (P 2 s) g1)
      · rw [if_neg q3] at hbe
        have hlt := hx6.resolve_left q3
        rw [if_neg (pM_m (by omega))]
        exact fin (pM (P 3 s)) (by rw [hbe])
  have key : ∀ (r s u : Nat) (e2 : Nat → Int32), s + r = n → r + 1 < u → (∀ x, x < s → P 0 x = 3 → ∃ q, q < np ∧ PN q = wdS B N P x ∧ e2 x = nI q) → (∀ x, x < n → ¬ P 0 x = 3 → e2 x = M.2.2.2.2.2.2.2.2.2.2.2.2.2.1 x) →
      (∃ d2 d8, fX11_bind_l2 (nI np) (nI n) M.2.1 c2 M.2.2.2.2.2.2.2.2.2.2.2.2.2.2.2.2.1 M.2.2.2.2.2.2.2.2.2.2.2.2.2.2.2.2.2 M.2.2.2.2.2.1 M.2.2.2.2.1 M.2.2.2.2.2.2.2.2.2.2.1 M.2.2.2.2.2.2.2.2.2.2.2.2.1 u (nI s) 0 wa e2 c24 = some (1, 0, wa, d2, d8) ∧ (∀ s, s < n → P 0 s = 3 → ∃ q, q < np ∧ PN q = wdS B N P s ∧ d2 s = nI q) ∧ (∀ s, s < n → ¬ P 0 s = 3 → d2 s = M.2.2.2.2.2.2.2.2.2.2.2.2.2.1 s) ∧ ∀ s, s < n → d8 s = pM (bh P s)) ∨ (∃ x d2 d8, bdS B N np n PN P x ∧ fX11_bind_l2 (nI np) (nI n) M.2.1 c2 M.2.2.2.2.2.2.2.2.2.2.2.2.2.2.2.2.1 M.2.2.2.2.2.2.2.2.2.2.2.2.2.2.2.2.2 M.2.2.2.2.2.1 M.2.2.2.2.1 M.2.2.2.2.2.2.2.2.2.2.1 M.2.2.2.2.2.2.2.2.2.2.2.2.1 u (nI s) 0 wa e2 c24 = some (0, 4, nI (P 7 x), d2, d8)) := by
    intro r
    induction r with
    | zero =>
      intro s u e2 hs hu h0 h1
      obtain ⟨u, rfl⟩ : ∃ v, u = v + 1 := ⟨u - 1, by omega⟩
      obtain ⟨fu, hfu, hfg⟩ := fu_any
      obtain ⟨d8, a1, a2⟩ := key2 n 0 fu e2 c24 (by omega) (by omega) (fun x hx => by omega)
      refine Or.inl ⟨e2, d8, ?_, fun x hx => h0 x (by omega), h1, a2⟩
      show fX11_bind_b2 (nI np) (nI n) M.2.1 c2 M.2.2.2.2.2.2.2.2.2.2.2.2.2.2.2.2.1 M.2.2.2.2.2.2.2.2.2.2.2.2.2.2.2.2.2 M.2.2.2.2.2.1 M.2.2.2.2.1 M.2.2.2.2.2.2.2.2.2.2.1 M.2.2.2.2.2.2.2.2.2.2.2.2.1 _ (nI s) 0 wa e2 c24 = _
      unfold fX11_bind_b2
      rw [if_pos (nI_le (a := n) (b := s) (by omega) (by omega)), hfu]
      exact a1
    | succ r ih =>
      intro s u e2 hs hu h0 h1
      obtain ⟨u, rfl⟩ : ∃ v, u = v + 1 := ⟨u - 1, by omega⟩
      have b40 := inb_nI (j := s) (n := 40) (by omega) (by decide)
      have e1 : nI s + 1 = nI (s + 1) := nI_add _ 1
      obtain ⟨x1, x2, x3, x4, x5, x6, x7, x8, x9, b, hb, x10, x11⟩ := hR.1 s (by omega)
      have hk7 := (hw.1 s (by omega)).1
      have un : fX11_bind_l2 (nI np) (nI n) M.2.1 c2 M.2.2.2.2.2.2.2.2.2.2.2.2.2.2.2.2.1 M.2.2.2.2.2.2.2.2.2.2.2.2.2.2.2.2.2 M.2.2.2.2.2.1 M.2.2.2.2.1 M.2.2.2.2.2.2.2.2.2.2.1 M.2.2.2.2.2.2.2.2.2.2.2.2.1 (u + 1) (nI s) 0 wa e2 c24 = fX11_bind_b2 (nI np) (nI n) M.2.1 c2 M.2.2.2.2.2.2.2.2.2.2.2.2.2.2.2.2.1 M.2.2.2.2.2.2.2.2.2.2.2.2.2.2.2.2.2 M.2.2.2.2.2.1 M.2.2.2.2.1 M.2.2.2.2.2.2.2.2.2.2.1 M.2.2.2.2.2.2.2.2.2.2.2.2.1 (fX11_bind_l2 (nI np) (nI n) M.2.1 c2 M.2.2.2.2.2.2.2.2.2.2.2.2.2.2.2.2.1 M.2.2.2.2.2.2.2.2.2.2.2.2.2.2.2.2.2 M.2.2.2.2.2.1 M.2.2.2.2.1 M.2.2.2.2.2.2.2.2.2.2.1 M.2.2.2.2.2.2.2.2.2.2.2.2.1 u) (nI s) 0 wa e2 c24 := rfl
      rw [un]
      unfold fX11_bind_b2 fX11_bind_p97
      rw [if_neg (Int32.not_le.mpr (nI_lt (a := s) (b := n) (by omega) (by omega))), bd_eq _ b40, nm_q, nI_clamp (n := s) (by omega), x1]
      by_cases h3 : P 0 s = 3
      · obtain ⟨g1, g2⟩ := x9 h3
        obtain ⟨fu, hfu, hfg⟩ := fu_any
        obtain ⟨d2, a1, a2, a3⟩ := r_b29 (s := s) (W := wdS B N P s) (by omega) hP (fun q hq => (hR.2.1 q hq).1) g1 (hnm s (by omega) h3) (nI n) M.2.1 M.2.2.2.2.2.2.2.2.2.2.2.2.2.2.2.2.2 M.2.2.2.2.2.1 M.2.2.2.2.1 M.2.2.2.2.2.2.2.2.2.2.1 M.2.2.2.2.2.2.2.2.2.2.2.2.1 (fX11_bind_l2 (nI np) (nI n) M.2.1 c2 M.2.2.2.2.2.2.2.2.2.2.2.2.2.2.2.2.1 M.2.2.2.2.2.2.2.2.2.2.2.2.2.2.2.2.2 M.2.2.2.2.2.1 M.2.2.2.2.1 M.2.2.2.2.2.2.2.2.2.2.1 M.2.2.2.2.2.2.2.2.2.2.2.2.1 u) wa c24 np 0 fu (upd e2 s (-1)) (by omega) (by omega) (Or.inl ⟨upd_at _ _ _, fun q hq => by omega⟩)
        have a1' : fX11_bind_l29 (nI np) (nI n) M.2.1 c2 M.2.2.2.2.2.2.2.2.2.2.2.2.2.2.2.2.1 M.2.2.2.2.2.2.2.2.2.2.2.2.2.2.2.2.2 M.2.2.2.2.2.1 M.2.2.2.2.1 M.2.2.2.2.2.2.2.2.2.2.1 M.2.2.2.2.2.2.2.2.2.2.2.2.1 (fX11_bind_l2 (nI np) (nI n) M.2.1 c2 M.2.2.2.2.2.2.2.2.2.2.2.2.2.2.2.2.1 M.2.2.2.2.2.2.2.2.2.2.2.2.2.2.2.2.2 M.2.2.2.2.2.1 M.2.2.2.2.1 M.2.2.2.2.2.2.2.2.2.2.1 M.2.2.2.2.2.2.2.2.2.2.2.2.1 u) fu (nI s) 0 0 wa (upd e2 s (-1)) c24 = _ := a1
        rw [if_pos (show nI (P 0 s) = 3 from congrArg nI h3), bd_eq _ b40, nm_q, hfu, a1']
        rcases a2 with ⟨q1, q2⟩ | ⟨q, q1, q2, q3⟩
        · rw [if_pos q1, g2]
          refine Or.inr ⟨s, d2, c24, ⟨by omega, fun w => ?_, fun x hx hx3 => ?_⟩, rfl⟩
          · obtain ⟨q, w1, w2⟩ := w h3
            exact q2 q w1 w2
          · obtain ⟨q, w1, w2, -⟩ := h0 x hx hx3
            exact ⟨q, w1, w2⟩
        · rw [if_neg (by rw [q3]; exact nI_m1 (by omega))]
          refine ih (s + 1) u d2 (by omega) (by omega) (fun x hx hx3 => ?_) (fun x hx hx3 => ?_)
          · by_cases hxs : x = s
            · rw [hxs]; exact ⟨q, q1, q2, q3⟩
            · rw [a3 x hxs, upd_ne hxs]; exact h0 x (by omega) hx3
          · have hxs : ¬ x = s := fun z => hx3 (by rw [z]; exact h3)
            rw [a3 x hxs, upd_ne hxs]; exact h1 x hx hx3
      · rw [if_neg (show ¬ nI (P 0 s) = 3 from fun z => h3 ((nI_eq (a := P 0 s) (b := 3) (by omega) (by decide)).mp z)), nm_q, e1]
        refine ih (s + 1) u e2 (by omega) (by omega) (fun x hx hx3 => ?_) h1
        by_cases hxs : x = s
        · rw [hxs] at hx3; exact absurd hx3 h3
        · exact h0 x (by omega) hx3
  obtain ⟨fu, hfu, hfg⟩ := fu_any
  unfold fX11_bind
  rw [hfu]
  exact key n 0 fu M.2.2.2.2.2.2.2.2.2.2.2.2.2.1 (by omega) (by omega) (fun x hx => by omega) (fun _ _ _ => rfl)
/-- where a statement goes on that took v -/
def g4 (P : Nat → Nat → Nat) (s v : Nat) : Nat := if v = 1 then (if P 0 s = 6 then 40 else if P 0 s = 1 then (if P 4 s = 40 then bh P s else P 4 s) else if P 0 s = 2 then (if P 4 s = 40 then s else P 4 s) else bh P s) else (if P 0 s = 1 then (if P 5 s = 40 then bh P s else P 5 s) else if P 0 s = 4 then 41 else if P 0 s = 5 then 42 else bh P s)
theorem c_link {P : Nat → Nat → Nat} {n : Nat} {k3 k9 k10 k11 k12 : Nat → Int32} (hn : n ≤ 40) (h2 : ∀ s, s < n → P 2 s = 40 ∨ P 2 s < s) (h3 : ∀ s, s < n → ∀ a, a = 3 ∨ a = 4 ∨ a = 5 → P a s = 40 ∨ P a s < n) (hr : ∀ s, s < n → P 0 s ≤ 7 ∧ k3 s = nI (P 0 s) ∧ k9 s = pI (P 2 s) ∧ k10 s = pI (P 3 s) ∧ k11 s = pI (P 4 s) ∧ k12 s = pI (P 5 s)) (c19 c20 c21 : Nat → Int32) :
    ∃ d4 d5 d6, fX3_link (nI n) k10 k9 k3 c19 c20 c21 k11 k12 = some (d4, d5, d6) ∧ ∀ s, s < n → d5 s = pI (g4 P s 1) ∧ d6 s = pI (g4 P s 0) := by
  have key : ∀ (r s u : Nat) (e4 e5 e6 : Nat → Int32), s + r = n → r < u → (∀ x, x < s → e4 x = pI (bh P x) ∧ e5 x = pI (g4 P x 1) ∧ e6 x = pI (g4 P x 0)) → ∃ d4 d5 d6, fX3_link_l2 (nI n) k10 k9 k3 k11 k12 u (nI s) e4 e5 e6 = some (d4, d5, d6) ∧ ∀ x, x < n → d5 x = pI (g4 P x 1) ∧ d6 x = pI (g4 P x 0) := by
    intro r
    induction r with
    | zero =>
      intro s u e4 e5 e6 hs hu h0
      obtain ⟨u, rfl⟩ : ∃ v, u = v + 1 := ⟨u - 1, by omega⟩
      refine ⟨e4, e5, e6, ?_, fun x hx => (h0 x (by omega)).2⟩
      show fX3_link_b2 (nI n) k10 k9 k3 k11 k12 _ (nI s) e4 e5 e6 = _
      unfold fX3_link_b2
      rw [if_pos (nI_le (a := n) (b := s) (by omega) (by omega))]
    | succ r ih =>
      intro s u e4 e5 e6 hs hu h0
      obtain ⟨u, rfl⟩ : ∃ v, u = v + 1 := ⟨u - 1, by omega⟩
      have b40 := inb_nI (j := s) (n := 40) (by omega) (by decide)
      have ks := nI_clamp (n := s) (by omega)
      have e1 : nI s + 1 = nI (s + 1) := nI_add _ 1
      obtain ⟨x0, x1, x2, x3, x4, x5⟩ := hr s (by omega)
      have hbe := bh_eq h2 (show s < n by omega)
      have p3 := h3 s (by omega) 3 (Or.inl rfl)
      have p4 := h3 s (by omega) 4 (Or.inr (Or.inl rfl))
      have p5 := h3 s (by omega) 5 (Or.inr (Or.inr rfl))
      have epb : fX3_pointBehind (nI s) k10 k9 k3 e4 = some (pI (bh P s), ()) := by
        unfold fX3_pointBehind fX3_pointBehind_p51
        rw [bd_eq _ b40, nm_q, ks, x3]
        by_cases q3 : P 3 s = 40
        · rw [if_pos q3] at hbe
          rw [q3, if_pos pI_40, bd_eq _ b40, nm_q, x2]
          by_cases q2 : P 2 s = 40
          · rw [if_pos q2] at hbe
            rw [q2, if_pos pI_40, hbe, pI_40]
          · rw [if_neg q2] at hbe
            have hlt := (h2 s (by omega)).resolve_left q2
            obtain ⟨y0, y1, -⟩ := hr (P 2 s) (by omega)
            rw [if_neg (pI_m (by omega)), pI_n (by omega), bd_eq _ (inb_nI (j := P 2 s) (n := 40) (by omega) (by decide)), nm_q, nI_clamp (n := P 2 s) (by omega), y1]
            by_cases qk : P 0 (P 2 s) = 2
            · rw [if_pos qk] at hbe
              rw [if_pos (show nI (P 0 (P 2 s)) = 2 from congrArg nI qk), hbe, pI_n (by omega)]
            · rw [if_neg qk] at hbe
              rw [if_neg (show ¬ nI (P 0 (P 2 s)) = 2 from fun z => qk ((nI_eq (a := P 0 (P 2 s)) (b := 2) (by omega) (by decide)).mp z)), bd_eq _ (inb_nI (j := P 2 s) (n := 40) (by omega) (by decide)), nm_q, hbe, (h0 (P 2 s) hlt).1]
        · rw [if_neg q3] at hbe
          rw [if_neg (pI_m (by omega)), bd_eq _ b40, nm_q, hbe]
      have un : fX3_link_l2 (nI n) k10 k9 k3 k11 k12 (u + 1) (nI s) e4 e5 e6 = fX3_link_b2 (nI n) k10 k9 k3 k11 k12 (fX3_link_l2 (nI n) k10 k9 k3 k11 k12 u) (nI s) e4 e5 e6 := rfl
      have fin : ∀ (f5 f6 : Nat → Int32), f5 s = pI (g4 P s 1) → f6 s = pI (g4 P s 0) → (∀ x, ¬ x = s → f5 x = e5 x ∧ f6 x = e6 x) → ∃ d4 d5 d6, fX3_link_l2 (nI n) k10 k9 k3 k11 k12 u (nI (s + 1)) (upd e4 s (pI (bh P s))) f5 f6 = some (d4, d5, d6) ∧ ∀ x, x < n → d5 x = pI (g4 P x 1) ∧ d6 x = pI (g4 P x 0) := by
        intro f5 f6 hf5 hf6 hne
        refine ih (s + 1) u _ f5 f6 (by omega) (by omega) (fun x hx => ?_)
        by_cases hxs : x = s
        · rw [hxs, upd_at]; exact ⟨rfl, hf5, hf6⟩
        · rw [upd_ne hxs, (hne x hxs).1, (hne x hxs).2]; exact h0 x (by omega)
      have kn : ∀ z : Nat, z ≤ 7 → ¬ P 0 s = z → ¬ nI (P 0 s) = nI z := fun z hz hne w => hne ((nI_eq (a := P 0 s) (b := z) (by omega) (by omega)).mp w)
      rw [un]
      unfold fX3_link_b2 fX3_link_p47 fX3_link_p100 fX3_link_p170 fX3_link_p131 fX3_link_p213
      rw [if_neg (Int32.not_le.mpr (nI_lt (a := s) (b := n) (by omega) (by omega))), epb, ob_s]
      simp only [nm_q, bd_eq _ b40, ks, e1, x1, x4, x5, upd_at]
      by_cases c6 : P 0 s = 6
      · have ga : g4 P s 1 = 40 := by unfold g4; rw [if_pos rfl, if_pos c6]
        have gb : g4 P s 0 = bh P s := by unfold g4; rw [if_neg (by decide), if_neg (by omega), if_neg (by omega), if_neg (by omega)]
        rw [if_pos (show nI (P 0 s) = 6 from congrArg nI c6), if_neg (show ¬ nI (P 0 s) = 1 from kn 1 (by decide) (by omega)), if_neg (show ¬ nI (P 0 s) = 2 from kn 2 (by decide) (by omega)), if_neg (show ¬ nI (P 0 s) = 4 from kn 4 (by decide) (by omega)), if_neg (show ¬ nI (P 0 s) = 5 from kn 5 (by decide) (by omega))]
        exact fin _ _ (by rw [upd_at, ga, pI_40]) (by rw [upd_at, gb]) (fun x hx => ⟨upd_ne hx, upd_ne hx⟩)
      · rw [if_neg (show ¬ nI (P 0 s) = 6 from kn 6 (by decide) c6)]
        by_cases c1 : P 0 s = 1
        · have ga : g4 P s 1 = if P 4 s = 40 then bh P s else P 4 s := by unfold g4; rw [if_pos rfl, if_neg c6, if_pos c1]
          have gb : g4 P s 0 = if P 5 s = 40 then bh P s else P 5 s := by unfold g4; rw [if_neg (by decide), if_pos c1]
          rw [if_pos (show nI (P 0 s) = 1 from congrArg nI c1)]
          by_cases q4 : P 4 s = 40
          · rw [if_pos q4] at ga
            rw [q4, if_pos pI_40]
            by_cases q5 : P 5 s = 40
            · rw [if_pos q5] at gb
              rw [q5, if_pos pI_40]
              exact fin _ _ (by rw [upd_at, ga]) (by rw [upd_at, gb]) (fun x hx => ⟨(upd_ne hx).trans (upd_ne hx), (upd_ne hx).trans (upd_ne hx)⟩)
            · rw [if_neg q5] at gb
              rw [if_neg (pI_m (by omega))]
              exact fin _ _ (by rw [upd_at, ga]) (by rw [upd_at, gb]) (fun x hx => ⟨(upd_ne hx).trans (upd_ne hx), (upd_ne hx).trans (upd_ne hx)⟩)
          · rw [if_neg q4] at ga
            rw [if_neg (pI_m (by omega))]
            by_cases q5 : P 5 s = 40
            · rw [if_pos q5] at gb
              rw [q5, if_pos pI_40]
              exact fin _ _ (by rw [upd_at, ga]) (by rw [upd_at, gb]) (fun x hx => ⟨(upd_ne hx).trans (upd_ne hx), (upd_ne hx).trans (upd_ne hx)⟩)
            · rw [if_neg q5] at gb
              rw [if_neg (pI_m (by omega))]
              exact fin _ _ (by rw [upd_at, ga]) (by rw [upd_at, gb]) (fun x hx => ⟨(upd_ne hx).trans (upd_ne hx), (upd_ne hx).trans (upd_ne hx)⟩)
        · rw [if_neg (show ¬ nI (P 0 s) = 1 from kn 1 (by decide) c1)]
          by_cases c2 : P 0 s = 2
          · have ga : g4 P s 1 = if P 4 s = 40 then s else P 4 s := by unfold g4; rw [if_pos rfl, if_neg c6, if_neg c1, if_pos c2]
            have gb : g4 P s 0 = bh P s := by unfold g4; rw [if_neg (by decide), if_neg c1, if_neg (by omega), if_neg (by omega)]
            rw [if_pos (show nI (P 0 s) = 2 from congrArg nI c2)]
            by_cases q4 : P 4 s = 40
            · rw [if_pos q4] at ga
              rw [q4, if_pos pI_40]
              exact fin _ _ (by rw [upd_at, ga, pI_n (by omega)]) (by rw [upd_at, gb]) (fun x hx => ⟨(upd_ne hx).trans (upd_ne hx), upd_ne hx⟩)
            · rw [if_neg q4] at ga
              rw [if_neg (pI_m (by omega))]
              exact fin _ _ (by rw [upd_at, ga]) (by rw [upd_at, gb]) (fun x hx => ⟨(upd_ne hx).trans (upd_ne hx), upd_ne hx⟩)
          · have ga : g4 P s 1 = bh P s := by unfold g4; rw [if_pos rfl, if_neg c6, if_neg c1, if_neg c2]
            rw [if_neg (show ¬ nI (P 0 s) = 2 from kn 2 (by decide) c2)]
            by_cases c4 : P 0 s = 4
            · have gb : g4 P s 0 = 41 := by unfold g4; rw [if_neg (by decide), if_neg c1, if_pos c4]
              rw [if_pos (show nI (P 0 s) = 4 from congrArg nI c4)]
              exact fin _ _ (by rw [upd_at, ga]) (by rw [upd_at, gb]; decide) (fun x hx => ⟨upd_ne hx, (upd_ne hx).trans (upd_ne hx)⟩)
            · rw [if_neg (show ¬ nI (P 0 s) = 4 from kn 4 (by decide) c4)]
              by_cases c5 : P 0 s = 5
              · have gb : g4 P s 0 = 42 := by unfold g4; rw [if_neg (by decide), if_neg c1, if_neg c4, if_pos c5]
                rw [if_pos (show nI (P 0 s) = 5 from congrArg nI c5)]
                exact fin _ _ (by rw [upd_at, ga]) (by rw [upd_at, gb]; decide) (fun x hx => ⟨upd_ne hx, (upd_ne hx).trans (upd_ne hx)⟩)
              · have gb : g4 P s 0 = bh P s := by unfold g4; rw [if_neg (by decide), if_neg c1, if_neg c4, if_neg c5]
                rw [if_neg (show ¬ nI (P 0 s) = 5 from kn 5 (by decide) c5)]
                exact fin _ _ (by rw [upd_at, ga]) (by rw [upd_at, gb]) (fun x hx => ⟨upd_ne hx, upd_ne hx⟩)
  obtain ⟨fu, hfu, hfg⟩ := fu_any
  unfold fX3_link
  rw [hfu]
  exact key n 0 fu c19 c20 c21 (by omega) (by omega) (fun x hx => by omega)
