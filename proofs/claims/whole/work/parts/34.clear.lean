/-! ===== pure rows 5: Arrays.fill, clear, drop, end ===== -/
theorem FU_gt {k : Nat} (h : k < 2000000) : k < FU := h
theorem fill_l {N : Nat} (hN : N < 2 ^ 31) (a : Int32) : ∀ (k i n : Nat) (c : Nat → Int32), i + k = N → k < n → ∃ d, fJ7_fill_53178_l5 N n a (nI i) (nI N) c = some d ∧ ∀ j, d j = if i ≤ j ∧ j < N then a else c j := by
  intro k
  induction k with
  | zero =>
    intro i n c h1 h2
    obtain ⟨n, rfl⟩ : ∃ z, n = z + 1 := ⟨n - 1, by omega⟩
    refine ⟨c, ?_, fun j => by rw [if_neg (by omega)]⟩
    show fJ7_fill_53178_b5 N _ a (nI i) (nI N) c = some c
    unfold fJ7_fill_53178_b5
    rw [if_pos (nI_le (by omega) (by omega))]
  | succ k ih =>
    intro i n c h1 h2
    obtain ⟨n, rfl⟩ : ∃ z, n = z + 1 := ⟨n - 1, by omega⟩
    obtain ⟨d, e, hd⟩ := ih (i + 1) n (upd c i a) (by omega) (by omega)
    refine ⟨d, ?_, fun j => ?_⟩
    · show fJ7_fill_53178_b5 N _ a (nI i) (nI N) c = some d
      unfold fJ7_fill_53178_b5
      rw [if_neg (nI_ge (by omega) (by omega)), inb_nI (by omega) hN]
      simp only [bd, nm, nI_clamp (n := i) (by omega), nI_1]
      exact e
    · rw [hd j]
      by_cases e1 : j = i
      · subst e1; rw [if_neg (by omega), if_pos (by omega)]; simp [upd]
      · by_cases e2 : i + 1 ≤ j ∧ j < N
        · rw [if_pos e2, if_pos (by omega)]
        · rw [if_neg e2, if_neg (by omega)]; simp [upd, e1]
theorem e_fill {N : Nat} (hN : N < 2000000) (a : Int32) (c : Nat → Int32) : ∃ d, fJ7_fill_53178 a N c = some d ∧ ∀ j, d j = if j < N then a else c j := by
  obtain ⟨d, e, hd⟩ := fill_l (N := N) (by omega) a N 0 FU c (by omega) (FU_gt hN)
  refine ⟨d, ?_, fun j => by rw [hd j]; simp⟩
  unfold fJ7_fill_53178
  simp only [nm]
  exact e
theorem nb0 : vp_nar .boolean 0 = 0 := by decide
theorem nb1 : vp_nar .boolean 1 = 1 := by decide
theorem clear_l44 : ∀ (k i n : Nat) (c2 : Nat → Int32) (y t r a kn w : Int32) (c1 : Nat → Int32), i + k = 16 → k < n → ∃ d, fX11_clear_l44 n y (nI i) t r a kn w c1 c2 = some (y, t, r, a, 0, -1, c1, d) ∧ ∀ j, d j = if i ≤ j ∧ j < 16 then 0 else c2 j := by
  intro k
  induction k with
  | zero =>
    intro i n c2 y t r a kn w c1 h1 h2
    obtain ⟨n, rfl⟩ : ∃ z, n = z + 1 := ⟨n - 1, by omega⟩
    refine ⟨c2, ?_, fun j => by rw [if_neg (by omega)]⟩
    show fX11_clear_b44 _ y (nI i) t r a kn w c1 c2 = _
    unfold fX11_clear_b44
    have h16 : (16 : Int32) ≤ nI i := nI_le (a := 16) (b := i) (by omega) (by omega)
    rw [if_pos h16]; rfl
  | succ k ih =>
    intro i n c2 y t r a kn w c1 h1 h2
    obtain ⟨n, rfl⟩ : ∃ z, n = z + 1 := ⟨n - 1, by omega⟩
    obtain ⟨d, e, hd⟩ := ih (i + 1) n (upd c2 i 0) y t r a kn w c1 (by omega) (by omega)
    refine ⟨d, ?_, fun j => ?_⟩
    · show fX11_clear_b44 _ y (nI i) t r a kn w c1 c2 = _
      unfold fX11_clear_b44
      have h16 : ¬ (16 : Int32) ≤ nI i := nI_ge (a := i) (b := 16) (by omega) (by omega)
      rw [if_neg h16, inb_nI (n := 16) (by omega) (by decide)]
      simp only [bd, nm, nI_clamp (n := i) (by omega), nI_1, nb0]
      exact e
    · rw [hd j]
      by_cases e1 : j = i
      · subst e1; rw [if_neg (by omega), if_pos (by omega)]; simp [upd]
      · by_cases e2 : i + 1 ≤ j ∧ j < 16
        · rw [if_pos e2, if_pos (by omega)]
        · rw [if_neg e2, if_neg (by omega)]; simp [upd, e1]
theorem clear_l22 : ∀ (k i n : Nat) (c1 : Nat → Int32) (y t r a kn w : Int32) (c2 : Nat → Int32), i + k = 3072 → k < n → ∃ d1 d2, fX11_clear_l22 n y (nI i) t r a kn w c1 c2 = some (y, t, r, a, 0, -1, d1, d2) ∧ (∀ j, d1 j = if i ≤ j ∧ j < 3072 then 0 else c1 j) ∧ ∀ j, d2 j = if j < 16 then 0 else c2 j := by
  intro k
  induction k with
  | zero =>
    intro i n c1 y t r a kn w c2 h1 h2
    obtain ⟨n, rfl⟩ : ∃ z, n = z + 1 := ⟨n - 1, by omega⟩
    obtain ⟨d, e, hd⟩ := clear_l44 16 0 FU c2 y t r a kn w c1 (by omega) (FU_gt (by decide))
    refine ⟨c1, d, ?_, fun j => by rw [if_neg (by omega)], fun j => by rw [hd j]; simp⟩
    show fX11_clear_b22 _ y (nI i) t r a kn w c1 c2 = _
    unfold fX11_clear_b22
    have h16 : (3072 : Int32) ≤ nI i := nI_le (a := 3072) (b := i) (by omega) (by omega)
    rw [if_pos h16]; exact e
  | succ k ih =>
    intro i n c1 y t r a kn w c2 h1 h2
    obtain ⟨n, rfl⟩ : ∃ z, n = z + 1 := ⟨n - 1, by omega⟩
    obtain ⟨d1, d2, e, hd, hd2⟩ := ih (i + 1) n (upd c1 i 0) y t r a kn w c2 (by omega) (by omega)
    refine ⟨d1, d2, ?_, fun j => ?_, hd2⟩
    · show fX11_clear_b22 _ y (nI i) t r a kn w c1 c2 = _
      unfold fX11_clear_b22
      have h16 : ¬ (3072 : Int32) ≤ nI i := nI_ge (a := i) (b := 3072) (by omega) (by omega)
      rw [if_neg h16, inb_nI (n := 3072) (by omega) (by decide)]
      simp only [bd, nm, nI_clamp (n := i) (by omega), nI_1, nb0]
      exact e
    · rw [hd j]
      by_cases e1 : j = i
      · subst e1; rw [if_neg (by omega), if_pos (by omega)]; simp [upd]
      · by_cases e2 : i + 1 ≤ j ∧ j < 3072
        · rw [if_pos e2, if_pos (by omega)]
        · rw [if_neg e2, if_neg (by omega)]; simp [upd, e1]
/-- the ends: bits of the class, truth values of the reference -/
def relEnds (E : Nat) (m : Nat → Int32) : Prop := E < 65536 ∧ ∀ b, b < 16 → m b = if E.testBit b then 1 else 0
theorem pu_clear (R chg thr known ws ends arcs arcs2 : Int32) (c m me : Nat → Int32) :
    ∃ d m2 me2, fX10_clear R ends chg arcs c = some (R, 0, 0, chg + 1, 0, d) ∧ fX11_clear thr R arcs2 known ws m me = some (R, 0, 0, 0, 0, -1, m2, me2) ∧ relNet d m2 ∧ relEnds 0 me2 := by
  obtain ⟨d, e, hd⟩ := e_fill (N := 192) (by decide) 0 c
  obtain ⟨d1, d2, e2, h1, h2⟩ := clear_l22 3072 0 FU m R 0 0 0 known ws me (by omega) (FU_gt (by decide))
  refine ⟨d, d1, d2, ?_, e2, fun i hi => ⟨0, by decide, ?_, fun b hb => ?_, fun b _ => Nat.zero_testBit b⟩, by decide, fun b hb => ?_⟩
  · unfold fX10_clear fX6_removeAll
    rw [e, ob_s]; rfl
  · rw [hd i, if_pos hi]; rfl
  · rw [h1, if_pos (by omega)]; simp
  · rw [h2, if_pos hb]; simp
theorem pu_drop (n chg thr ws : Int32) : fX10_drop n chg = some (n, 0, chg + 1) ∧ fX11_drop thr n ws = some (n, 0, 0, -1) := ⟨rfl, rfl⟩
