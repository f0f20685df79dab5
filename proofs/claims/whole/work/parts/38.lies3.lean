/-! ===== pure rows 9: lies, class and reference alike ===== -/
theorem me_l {E N : Nat} {m : Nat → Int32} (hr : relEnds E m) (hN : N < 65536) :
    ∀ (k i n : Nat) (y : Int32), i + k = 16 → k < n → (y = 0 ∨ y = 1) → ∃ z : Int32, fX11_meetsEnd_l4 m n (nI N) y (nI i) = some (z, ()) ∧ (z = 0 ∨ z = 1) ∧ (z = 1 ↔ (y = 1 ∨ ∃ b, i ≤ b ∧ b < 16 ∧ N.testBit b = true ∧ E.testBit b = true)) := by
  intro k
  induction k with
  | zero =>
    intro i n y h1 h2 hy
    obtain ⟨n, rfl⟩ : ∃ z, n = z + 1 := ⟨n - 1, by omega⟩
    refine ⟨y, ?_, hy, ⟨Or.inl, fun h => h.elim id (fun ⟨b, z1, z2, _⟩ => by omega)⟩⟩
    show fX11_meetsEnd_b4 m _ (nI N) y (nI i) = _
    unfold fX11_meetsEnd_b4
    have h16 : (16 : Int32) ≤ nI i := nI_le (a := 16) (b := i) (by omega) (by omega)
    rw [if_pos h16]
    rcases hy with rfl | rfl <;> rfl
  | succ k ih =>
    intro i n y h1 h2 hy
    obtain ⟨n, rfl⟩ : ∃ z, n = z + 1 := ⟨n - 1, by omega⟩
    have h16 : ¬ (16 : Int32) ≤ nI i := nI_ge (a := i) (b := 16) (by omega) (by omega)
    by_cases hset : y = 1 ∨ (N.testBit i = true ∧ E.testBit i = true)
    · obtain ⟨z, e, hz, hz1⟩ := ih (i + 1) n 1 (by omega) (by omega) (Or.inr rfl)
      refine ⟨z, ?_, hz, ?_⟩
      · show fX11_meetsEnd_b4 m _ (nI N) y (nI i) = _
        unfold fX11_meetsEnd_b4 fX11_meetsEnd_p32 fX11_meetsEnd_p37
        rw [if_neg h16]
        by_cases hy0 : y = 0
        · obtain ⟨g1, g2⟩ := hset.resolve_left (fun h => by rw [hy0] at h; exact n01 h)
          simp only [if_pos hy0, nm, nx_valS hN (show i < 16 by omega), g1, if_true, inb_nI (j := i) (n := 16) (by omega) (by decide), bd, nI_clamp (n := i) (by omega), hr.2 i (by omega), g2, if_neg n10, nI_1]
          exact e
        · simp only [if_neg hy0, nm, nI_1]
          exact e
      · have hz2 : z = 1 := hz1.mpr (Or.inl rfl)
        refine ⟨fun _ => ?_, fun _ => hz2⟩
        rcases hset with h | ⟨g1, g2⟩
        · exact Or.inl h
        · exact Or.inr ⟨i, Nat.le_refl _, by omega, g1, g2⟩
    · have hy0 : y = 0 := hy.resolve_right (fun h => hset (Or.inl h))
      obtain ⟨z, e, hz, hz1⟩ := ih (i + 1) n 0 (by omega) (by omega) (Or.inl rfl)
      refine ⟨z, ?_, hz, ?_⟩
      · show fX11_meetsEnd_b4 m _ (nI N) y (nI i) = _
        unfold fX11_meetsEnd_b4 fX11_meetsEnd_p36 fX11_meetsEnd_p37
        rw [if_neg h16, if_pos hy0]
        by_cases hn : N.testBit i = true
        · have he0 : E.testBit i = false := by
            cases hh : E.testBit i with
            | false => rfl
            | true => exact absurd (Or.inr ⟨hn, hh⟩) hset
          simp only [nm, nx_valS hN (show i < 16 by omega), hn, if_true, inb_nI (j := i) (n := 16) (by omega) (by decide), bd, nI_clamp (n := i) (by omega), hr.2 i (by omega), he0, Bool.false_eq_true, if_false, nI_1]
          exact e
        · have hn0 : N.testBit i = false := by simpa using hn
          simp only [nm, nx_valS hN (show i < 16 by omega), hn0, Bool.false_eq_true, if_false, if_neg n01, nI_1]
          exact e
      · rw [hz1]
        constructor
        · rintro (h | ⟨b, z1, z2, z3, z4⟩)
          · exact absurd h n01
          · exact Or.inr ⟨b, by omega, z2, z3, z4⟩
        · rintro (h | ⟨b, z1, z2, z3, z4⟩)
          · exact absurd (Or.inl h) hset
          · by_cases e1 : b = i
            · subst e1; exact absurd (Or.inr ⟨z3, z4⟩) hset
            · exact Or.inr ⟨b, by omega, z2, z3, z4⟩
theorem and0 {a b : Nat} (ha : a < 65536) (hb : b < 65536) : (nI a &&& nI b) = 0 ↔ ¬ ∃ i, i < 16 ∧ a.testBit i = true ∧ b.testBit i = true := by
  rw [nx_and, ← nI_0, nI_eq (Nat.lt_of_le_of_lt Nat.and_le_left (by omega)) (by decide)]
  constructor
  · rintro h ⟨i, hi, h1, h2⟩
    have h3 : (a &&& b).testBit i = true := by rw [Nat.testBit_and, h1, h2]; rfl
    rw [h, Nat.zero_testBit] at h3
    cases h3
  · intro h
    apply Nat.eq_of_testBit_eq
    intro i
    rw [Nat.testBit_and, Nat.zero_testBit]
    by_cases hi : i < 16
    · cases h1 : a.testBit i with
      | false => rfl
      | true =>
        cases h2 : b.testBit i with
        | false => rfl
        | true => exact absurd ⟨i, hi, h1, h2⟩ h
    · have : a.testBit i = false := Nat.testBit_lt_two_pow (Nat.lt_of_lt_of_le ha (show 2 ^ 16 ≤ 2 ^ i from Nat.pow_le_pow_right (by omega) (by omega)))
      rw [this]; rfl
/-- the index of a loop that goes down: r signs are left -/
def dn (r : Nat) : Int32 := nI r - 1
theorem dn_0 : dn 0 < 0 := by decide
theorem dn_s (r : Nat) : dn (r + 1) = nI r := nI_pred r
theorem dn_m (r : Nat) : nI r + (-1) = dn r := by
  unfold dn
  rw [Int32.sub_eq_add_neg]
theorem lies_l {K : Nat → Nat} {cw cn mw mn me : Nat → Int32} {E n0 : Nat} {hC hM : Int32} (hK : ∀ i, i < 192 → K i < 65536 ∧ cn i = nI (K i)) (hL : ∀ i, i < 192 → ∀ b, b < 8 → (K i).testBit b = false) (hm : ∀ i, i < 192 → ∀ b, b < 16 → mn (16 * i + b) = if (K i).testBit b then 1 else 0) (hr : relEnds E me) (h30 : n0 ≤ 30) (hw : ∀ j, j < n0 → cw j = mw j ∧ ∃ s, s < 12 ∧ cw j = nI s) (t : Int32) :
    ∀ (r n N : Nat), r ≤ n0 → r < n → N < 65536 → ∃ z : Int32, (z = 0 ∨ z = 1) ∧ fX6_holdsWord_l11 (nI E) hC cw cn n (nI N) (dn r) = some (z, ()) ∧ fX11_lies_l29 hM mw mn me n (nI N) (dn r) t = some (z, t) := by
  intro r
  induction r with
  | zero =>
    intro n N hr0 hn hN
    obtain ⟨n, rfl⟩ : ∃ z, n = z + 1 := ⟨n - 1, by omega⟩
    obtain ⟨z, e, hz, hz1⟩ := me_l hr hN 16 0 FU 0 (by omega) (FU_gt (by decide)) (Or.inl rfl)
    have hzz : z = 1 ↔ ∃ i, i < 16 ∧ N.testBit i = true ∧ E.testBit i = true := by
      rw [hz1]
      exact ⟨fun h => h.elim (fun k => absurd k n01) (fun ⟨b, _, z2, z3, z4⟩ => ⟨b, z2, z3, z4⟩), fun ⟨b, z2, z3, z4⟩ => Or.inr ⟨b, Nat.zero_le _, z2, z3, z4⟩⟩
    have e2 : fX11_meetsEnd (nI N) me = some (z, ()) := e
    refine ⟨z, hz, ?_, ?_⟩
    · show fX6_holdsWord_b11 (nI E) hC cw cn _ (nI N) (dn 0) = _
      unfold fX6_holdsWord_b11 fX6_holdsWord_p47
      rw [if_pos dn_0]
      simp only [nm]
      by_cases h0 : (nI N &&& nI E) = 0
      · have hz0 : z = 0 := hz.resolve_right (fun k => (and0 hN hr.1).mp h0 (hzz.mp k))
        rw [if_pos h0, hz0]; rfl
      · have hz0 : z = 1 := hzz.mpr (Decidable.byContradiction (fun k => h0 ((and0 hN hr.1).mpr k)))
        rw [if_neg h0, hz0]; rfl
    · show fX11_lies_b29 hM mw mn me _ (nI N) (dn 0) t = _
      unfold fX11_lies_b29 fX11_lies_p141
      rw [if_pos dn_0, e2, ob_s]
      rcases hz with rfl | rfl
      · rw [if_pos rfl]
      · rw [if_neg n10]
  | succ r ih =>
    intro n N hr0 hn hN
    obtain ⟨n, rfl⟩ : ∃ z, n = z + 1 := ⟨n - 1, by omega⟩
    obtain ⟨hcm, s, hs, hcs⟩ := hw r (by omega)
    obtain ⟨M, e1, hM1, hb1⟩ := e_nodesBehind hK hN hs
    obtain ⟨M2, e2, hM2, hb2⟩ := l39_l (sz := hM) (c3 := me) hm hN hs (show r < 30 by omega) (hcm.symm.trans hcs) (fX11_lies_l29 hM mw mn me n) t 16 0 FU 0 (by omega) (FU_gt (by decide)) (by decide)
    have hMM : M2 = M := by
      apply Nat.eq_of_testBit_eq
      intro x
      apply Bool.eq_iff_iff.mpr
      rw [hb2 x, hb1 x]
      constructor
      · rintro (h | ⟨z1, z2, a, z3, z4, z5, z6⟩)
        · rw [Nat.zero_testBit] at h; cases h
        · exact ⟨a, z4, z5, z6⟩
      · rintro ⟨a, z4, z5, z6⟩
        refine Or.inr ⟨?_, ?_, a, Nat.zero_le _, z4, z5, z6⟩
        · exact Decidable.byContradiction (fun k => by rw [hL (a * 12 + s) (by omega) x (by omega)] at z6; cases z6)
        · refine Decidable.byContradiction (fun k => ?_)
          have h9 := (hK (a * 12 + s) (by omega)).1
          rw [Nat.testBit_lt_two_pow (Nat.lt_of_lt_of_le h9 (show 2 ^ 16 ≤ 2 ^ x from Nat.pow_le_pow_right (by omega) (by omega)))] at z6
          cases z6
    subst hMM
    obtain ⟨z, hz, g1, g2⟩ := ih n M2 (by omega) (by omega) hM2
    have hneg : ¬ dn (r + 1) < 0 := by rw [dn_s]; exact nI_pos (by omega)
    refine ⟨z, hz, ?_, ?_⟩
    · show fX6_holdsWord_b11 (nI E) hC cw cn _ (nI N) (dn (r + 1)) = _
      unfold fX6_holdsWord_b11
      rw [if_neg hneg, dn_s]
      simp only [nm, inb_nI (j := r) (n := 30) (by omega) (by decide), bd, nI_clamp (n := r) (by omega), hcs, e1, ob_s, dn_m]
      exact g1
    · show fX11_lies_b29 hM mw mn me _ (nI N) (dn (r + 1)) t = _
      unfold fX11_lies_b29
      rw [if_neg hneg, dn_s]
      rw [dn_m] at e2
      exact e2.trans g2
/-- lies: class and reference answer alike -/
theorem pu_lies (a : Int32) {K : Nat → Nat} {cw cn mw mn me : Nat → Int32} {E n0 : Nat} (hK : ∀ i, i < 192 → K i < 65536 ∧ cn i = nI (K i)) (hL : ∀ i, i < 192 → ∀ b, b < 8 → (K i).testBit b = false) (hm : ∀ i, i < 192 → ∀ b, b < 16 → mn (16 * i + b) = if (K i).testBit b then 1 else 0) (hr : relEnds E me) (h30 : n0 ≤ 30) (hw : ∀ j, j < n0 → cw j = mw j ∧ ∃ s, s < 12 ∧ cw j = nI s) (thr : Int32) :
    ∃ z : Int32, fX10_lies a (nI E) (nI n0) cw cn = some (z, ()) ∧ fX11_lies a thr (nI n0) mw mn me = some (z, 0) := by
  by_cases h : a < 0 ∨ 7 < a
  · have h' : a < 0 ∨ 8 ≤ a := h.imp id (lt_7_8 a).mp
    refine ⟨-2, ?_, ?_⟩
    · unfold fX10_lies; rw [e_isState, if_pos h', ob_s, if_pos rfl]
    · unfold fX11_lies; rw [e_in, if_pos h, ob_s, if_pos rfl]
  · have h' : ¬ (a < 0 ∨ 8 ≤ a) := fun k => h (k.imp id (lt_7_8 a).mpr)
    obtain ⟨p, -, hp, rfl⟩ := rng (l := 0) (h := 7) rfl rfl (by decide) (by omega) h
    have h2p : 2 ^ p < 65536 := Nat.pow_lt_pow_right (a := 2) (m := p) (n := 16) (by omega) (by omega)
    obtain ⟨z, hz, g1, g2⟩ := lies_l (hC := nI n0) (hM := nI n0) hK hL hm hr h30 hw 0 n0 FU (2 ^ p) (Nat.le_refl _) (FU_gt (by omega)) h2p
    have e6 : fX6_holdsWord (nI p) (nI E) (nI n0) cw cn = some (z, ()) := by
      unfold fX6_holdsWord
      simp only [nm, nx_one p (by omega)]
      exact g1
    refine ⟨z, ?_, ?_⟩
    · unfold fX10_lies fX10_lies_p26
      rw [e_isState, if_neg h', ob_s, if_neg n10, e6, ob_s]
      rcases hz with rfl | rfl
      · rw [if_pos rfl]
      · rw [if_neg n10]
    · unfold fX11_lies
      rw [e_in, if_neg h, ob_s, if_neg n10]
      simp only [nm, nx_one p (by omega)]
      exact g2
