/-! ===== pure rows 64: the class's tokens ===== -/
def cB (b : Nat) : Int32 := (nI b).toInt8.toInt32
theorem cB_f : ∀ b : Nat, b < 256 → (cB b = 32 ↔ b = 32) ∧ (cB b = 10 ↔ b = 10) ∧ cB b &&& 255 = nI b ∧ ((cB b < 97 ∨ 122 < cB b) ↔ ¬ isLt b = true) ∧ ((cB b < 48 ∨ 57 < cB b) ↔ ¬ (48 ≤ b ∧ b ≤ 57)) ∧ (isNB b = true → (cB b).toInt64 = lN b) ∧ ((nI b).toUInt32 % 65536).toInt32 = nI b := by decide +kernel
theorem c_isLt {x : Int32} {b : Nat} (h : (x < 97 ∨ 122 < x) ↔ ¬ isLt b = true) : fX4_isLetter x = some (if isLt b = true then 1 else 0, ()) := by
  have b1 : bz 1 = true := by decide
  have b0 : bz 0 = true := by decide
  unfold fX4_isLetter fX4_isLetter_p16 fX4_isLetter_p17
  rw [bd_eq _ b0, bd_eq _ b1]
  by_cases q : isLt b = true
  · have hn : ¬ (x < 97 ∨ 122 < x) := fun z => h.mp z q
    rw [if_neg (fun z => hn (Or.inl z)), if_neg (fun z => hn (Or.inr z)), if_pos q]
  · rw [if_neg q]
    by_cases w : x < 97
    · rw [if_pos w]
    · rw [if_neg w, if_pos ((h.mpr q).elim (fun z => absurd z w) id)]
theorem c_isDg {x : Int32} {b : Nat} (h : (x < 48 ∨ 57 < x) ↔ ¬ (48 ≤ b ∧ b ≤ 57)) : fX4_isDigit x = some (if 48 ≤ b ∧ b ≤ 57 then 1 else 0, ()) := by
  have b1 : bz 1 = true := by decide
  have b0 : bz 0 = true := by decide
  unfold fX4_isDigit fX4_isDigit_p16 fX4_isDigit_p17
  rw [bd_eq _ b0, bd_eq _ b1]
  by_cases q : 48 ≤ b ∧ b ≤ 57
  · have hn : ¬ (x < 48 ∨ 57 < x) := fun z => h.mp z q
    rw [if_neg (fun z => hn (Or.inl z)), if_neg (fun z => hn (Or.inr z)), if_pos q]
  · rw [if_neg q]
    by_cases w : x < 48
    · rw [if_pos w]
    · rw [if_neg w, if_pos ((h.mpr q).elim (fun z => absurd z w) id)]
theorem mk_f : ∀ b : Nat, b < 256 → ((∀ i : Nat, i < 13 → ¬ xMarks.getD i 0 = cB b) ↔ ¬ isMk b = true) := by decide +kernel
theorem c_idx {b : Nat} (hb : b < 256) : ∃ v, fJ0_indexOf_0f7a4 (nI b) = some (v, ()) ∧ (v < 0 ↔ ¬ isMk b = true) := by
  obtain ⟨fu, hfu, hg⟩ := fu_any
  have key : ∀ (k i n : Nat), i + k = 13 → k < n → ∃ v, fJ1_indexOfChar_4cfef_l7 n 13 (cB b) (nI i) = some (v, ()) ∧ (v < 0 ↔ ∀ i2 : Nat, i ≤ i2 → i2 < 13 → ¬ xMarks.getD i2 0 = cB b) := by
    intro k
    induction k with
    | zero =>
      intro i n g1 g2
      obtain ⟨n, rfl⟩ : ∃ z, n = z + 1 := ⟨n - 1, by omega⟩
      refine ⟨-1, ?_, ⟨fun _ i2 h1 h2 => by omega, fun _ => by decide⟩⟩
      show fJ1_indexOfChar_4cfef_b7 _ 13 (cB b) (nI i) = _
      unfold fJ1_indexOfChar_4cfef_b7
      rw [if_pos (show (13 : Int32) ≤ nI i from nI_le (a := 13) (b := i) (by omega) (by omega))]
    | succ k ih =>
      intro i n g1 g2
      obtain ⟨n, rfl⟩ : ∃ z, n = z + 1 := ⟨n - 1, by omega⟩
      show ∃ v, fJ1_indexOfChar_4cfef_b7 (fJ1_indexOfChar_4cfef_l7 n) 13 (cB b) (nI i) = some (v, ()) ∧ _
      unfold fJ1_indexOfChar_4cfef_b7
      rw [if_neg (show ¬ (13 : Int32) ≤ nI i from nI_ge (a := i) (b := 13) (by omega) (by omega)), bd_eq _ (inb_nI (j := i) (n := 13) (by omega) (by decide)), nm_q, nI_clamp (n := i) (by omega)]
      by_cases q : xMarks.getD i 0 = cB b
      · rw [if_pos q]
        exact ⟨nI i, rfl, ⟨fun z => absurd z (nI_pos (by omega)), fun z => absurd q (z i (Nat.le_refl _) (by omega))⟩⟩
      · rw [if_neg q, nm_q, nI_1]
        obtain ⟨v, v1, v2⟩ := ih (i + 1) n (by omega) (by omega)
        refine ⟨v, v1, v2.trans ⟨fun z i2 h1 h2 => ?_, fun z i2 h1 h2 => z i2 (by omega) h2⟩⟩
        by_cases w : i2 = i
        · rw [w]; exact q
        · exact z i2 (by omega) h2
  obtain ⟨v, v1, v2⟩ := key 13 0 fu (by omega) (by omega)
  refine ⟨v, ?_, v2.trans ⟨fun z => (mk_f b hb).mp (fun i hi => z i (by omega) hi), fun z i _ hi => (mk_f b hb).mpr z i hi⟩⟩
  have e1 : fJ0_isLatin1_aae02 = some (1, ()) := by
    unfold fJ0_isLatin1_aae02 fJ0_isLatin1_aae02_p17 fJ0_isLatin1_aae02_p18
    rw [if_neg n10, if_pos rfl, bd_eq _ (by decide)]
  have e2 : fJ0_length_8abf5 = some (13, ()) := by
    unfold fJ0_length_8abf5 fJ0_coder_7d493 fJ0_coder_7d493_p14
    rw [if_neg n10, bd_eq _ (by decide), ob_s, nm_q]
    rfl
  have e3 : fJ1_canEncode_9a6ad (nI b) = some (1, ()) := by
    unfold fJ1_canEncode_9a6ad fJ1_canEncode_9a6ad_p15 fJ1_canEncode_9a6ad_p16
    rw [if_neg (nI_pos (by omega)), if_neg (show ¬ (255 : Int32) < nI b from nI_nlt (a := 255) (b := b) (by omega) (by decide)), bd_eq _ (by decide)]
  unfold fJ0_indexOf_0f7a4 fJ0_indexOf_7cf53 fJ1_indexOf_4cfef fJ1_indexOfChar_4cfef
  rw [e1, ob_s, if_neg n10, e2, ob_s, e3, ob_s, if_neg n10, nm_q, if_neg (show ¬ (0 : Int32) < 0 by decide), nm_q, if_neg (show ¬ (13 : Int32) < 13 by decide), if_pos (show (0 : Int32) < 13 by decide), nm_q, hfu]
  have v1' : fJ1_indexOfChar_4cfef_l7 fu 13 (nI b).toInt8.toInt32 0 = some (v, ()) := v1
  rw [v1', ob_s, ob_s, ob_s]
theorem c_kw {W : List Nat} (hW : okB W) (hl : W.length ≤ 8) (ta sz : Int32) (c : Nat → Int32) (fl fa nx : Int32) : ∀ (k i n : Nat), i + k = 10 → k < n → fX4_scanWord_l132 ta sz c n (nI i) (nI (kwF W i)) (nC W) fl fa nx = some (nI (kwc W), nC W, fl, fa, nx) := by
  intro k
  induction k with
  | zero =>
    intro i n g1 g2
    obtain ⟨n, rfl⟩ : ∃ z, n = z + 1 := ⟨n - 1, by omega⟩
    show fX4_scanWord_b132 ta sz c _ (nI i) (nI (kwF W i)) (nC W) fl fa nx = _
    unfold fX4_scanWord_b132
    rw [if_pos (show (10 : Int32) ≤ nI i from nI_le (a := 10) (b := i) (by omega) (by omega)), show i = 10 by omega]
    rfl
  | succ k ih =>
    intro i n g1 g2
    obtain ⟨n, rfl⟩ : ∃ z, n = z + 1 := ⟨n - 1, by omega⟩
    show fX4_scanWord_b132 ta sz c (fX4_scanWord_l132 ta sz c n) (nI i) (nI (kwF W i)) (nC W) fl fa nx = _
    have hi : i < 10 := by omega
    have e : lg_cmp (nC (kw i)) (nC W) = 0 ↔ W = kw i := by
      rw [lg_cmp_eq, nC_eq (kw_ok hi).1 (kw_ok hi).2 hW hl]
      exact ⟨fun z => z.symm, fun z => z.symm⟩
    have e259 : (259 : Int32) + nI i = nI (259 + i) := nI_add 259 i
    have ek : kwF W (i + 1) = if W = kw i then 259 + i else kwF W i := rfl
    have i0 := ih (i + 1) n (by omega) (by omega)
    unfold fX4_scanWord_b132 fX4_scanWord_p162
    rw [if_neg (show ¬ (10 : Int32) ≤ nI i from nI_ge (a := i) (b := 10) (by omega) (by omega)), bd_eq _ (inb_nI (j := i) (n := 10) hi (by decide)), nm_q, nI_clamp (n := i) (by omega), kw_c i hi, nm_q]
    by_cases q : W = kw i
    · rw [ek, if_pos q] at i0
      rw [if_pos (e.mpr q), nm_q, e259, nm_q, nI_1]
      exact i0
    · rw [ek, if_neg q] at i0
      rw [if_neg (fun z => q (e.mp z)), nm_q, nI_1]
      exact i0
theorem c_word {B : Nat → Nat} {N : Nat} {c m : Nat → Int32} (h : txt B N c m) {f : Nat} (hf : f ≤ N) (tk fa : Int32) : ∀ (k j n : Nat) (nm0 : Int64), f + j + k = N → k < n → okB (wj B f j) → (j ≤ 8 → nm0 = nC (wj B f j)) →
    okB (wj B f (ln B f k j)) ∧ ∃ (nm1 : Int64) (nx : Int32), fX4_scanWord_l5 (nI f) (nI N) c n tk nm0 0 fa (nI (f + j)) = some (if ln B f k j ≤ 8 then (nI (kwc (wj B f (ln B f k j))), nC (wj B f (ln B f k j)), 0, fa, nI (f + ln B f k j)) else (257, nm1, 1, nI f, nx)) := by
  obtain ⟨fu, hfu, hg⟩ := fu_any
  have hN := h.1
  have stop : ∀ (j : Nat) (nm0 : Int64), f + j ≤ N → okB (wj B f j) → (j ≤ 8 → nm0 = nC (wj B f j)) → ∃ (nm1 : Int64) (nx : Int32), fX4_scanWord_p99 (nI f) (nI N) c tk nm0 0 fa (nI (f + j)) = some (if j ≤ 8 then (nI (kwc (wj B f j)), nC (wj B f j), 0, fa, nI (f + j)) else (257, nm1, 1, nI f, nx)) := by
    intro j nm0 hj ho hnm
    have z8 : nI j ≤ 8 ↔ j ≤ 8 := nI_leI (a := j) (b := 8) (by omega) (by decide)
    unfold fX4_scanWord_p99 fX4_fail fX4_fail_p17
    rw [nm_q, nI_dif (by omega), show f + j - f = j by omega]
    by_cases q : j ≤ 8
    · simp only [if_pos q]
      rw [if_pos (z8.mpr q), hfu, hnm q]
      exact ⟨0, 0, c_kw ho (by rw [wj_len]; exact q) _ _ _ _ _ _ 10 0 fu (by omega) (by omega)⟩
    · simp only [if_neg q]
      rw [if_neg (fun z => q (z8.mp z)), if_pos trivial, ob_s]
      exact ⟨nm0, nI (f + j), rfl⟩
  intro k
  induction k with
  | zero =>
    intro j n nm0 g1 g2 ho hnm
    obtain ⟨n, rfl⟩ : ∃ z, n = z + 1 := ⟨n - 1, by omega⟩
    refine ⟨ho, ?_⟩
    show ∃ (nm1 : Int64) (nx : Int32), fX4_scanWord_b5 (nI f) (nI N) c _ tk nm0 0 fa (nI (f + j)) = _
    unfold fX4_scanWord_b5
    rw [if_pos (nI_le (a := N) (b := f + j) (by omega) (by omega))]
    exact stop j nm0 (by omega) ho hnm
  | succ k ih =>
    intro j n nm0 g1 g2 ho hnm
    obtain ⟨n, rfl⟩ : ∃ z, n = z + 1 := ⟨n - 1, by omega⟩
    obtain ⟨hb, -, hcb⟩ := h.2 (f + j) (by omega)
    obtain ⟨-, -, -, f4, f5, f6, -⟩ := cB_f (B (f + j)) hb
    have bj := inb_nI (j := f + j) (n := 600) (by omega) (by decide)
    have kj := nI_clamp (n := f + j) (by omega)
    have el : ln B f (k + 1) j = if isNB (B (f + j)) = true then ln B f k (j + 1) else j := rfl
    have hcb' : c (f + j) = cB (B (f + j)) := hcb
    show _ ∧ ∃ (nm1 : Int64) (nx : Int32), fX4_scanWord_b5 (nI f) (nI N) c (fX4_scanWord_l5 (nI f) (nI N) c n) tk nm0 0 fa (nI (f + j)) = _
    have go : isNB (B (f + j)) = true → okB (wj B f (ln B f k (j + 1))) ∧ ∃ (nm1 : Int64) (nx : Int32), fX4_scanWord_p46 (nI f) (nI N) c (fX4_scanWord_l5 (nI f) (nI N) c n) tk nm0 0 fa (nI (f + j)) = some (if ln B f k (j + 1) ≤ 8 then (nI (kwc (wj B f (ln B f k (j + 1)))), nC (wj B f (ln B f k (j + 1))), 0, fa, nI (f + ln B f k (j + 1))) else (257, nm1, 1, nI f, nx)) := by
      intro q
      have z8 : (8 : Int32) ≤ nI j ↔ 8 ≤ j := nI_leI (a := 8) (b := j) (by decide) (by omega)
      unfold fX4_scanWord_p46 fX4_scanWord_p86
      rw [nm_q, nI_dif (by omega), show f + j - f = j by omega]
      by_cases w : 8 ≤ j
      · rw [if_pos (z8.mpr w), nm_q, nI_1]
        exact ih (j + 1) n nm0 (by omega) (by omega) (okB_s ho q) (fun z => by omega)
      · have e8 : (8 : Int32) * nI j = nI (8 * j) := pk_mul 8 j
        have esn := nC_snoc (W := wj B f j) (b := B (f + j)) ho (by rw [wj_len]; omega) (by have := nb_ok q; omega)
        rw [wj_len, ← wj_s] at esn
        rw [if_neg (fun z => w (z8.mp z)), bd_eq _ bj, nm_q, kj, hcb', nm_q, f6 q, nm_q, e8, nm_q, nm_q, nm_q, nI_1, hnm (by omega), esn]
        exact ih (j + 1) n _ (by omega) (by omega) (okB_s ho q) (fun _ => rfl)
    unfold fX4_scanWord_b5
    rw [if_neg (nI_ge (a := f + j) (b := N) (by omega) (by omega)), bd_eq _ bj, nm_q, kj, hcb', c_isLt f4, ob_s, el]
    by_cases w : isLt (B (f + j)) = true
    · have q : isNB (B (f + j)) = true := by unfold isNB; rw [w]; rfl
      simp only [if_pos w, if_pos q]
      rw [if_neg n10]
      exact go q
    · simp only [if_neg w]
      rw [if_pos trivial, bd_eq _ bj, nm_q, c_isDg f5, ob_s]
      by_cases v : 48 ≤ B (f + j) ∧ B (f + j) ≤ 57
      · have q : isNB (B (f + j)) = true := by unfold isNB; simp [v]
        simp only [if_pos v, if_pos q]
        rw [if_neg n10]
        exact go q
      · have q : ¬ isNB (B (f + j)) = true := by
          unfold isNB
          simp only [Bool.or_eq_true, Bool.and_eq_true, decide_eq_true_eq]
          exact fun z => z.elim w v
        simp only [if_neg v, if_neg q]
        rw [if_pos trivial]
        exact ⟨ho, stop j nm0 (by omega) ho hnm⟩
