/-! ===== pure rows 62: the reference's tokens ===== -/
def sk (B : Nat → Nat) : Nat → Nat → Nat
  | 0 => fun i => i
  | k + 1 => fun i => if B i = 32 ∨ B i = 10 then sk B k (i + 1) else i
def ln (B : Nat → Nat) (f : Nat) : Nat → Nat → Nat
  | 0 => fun j => j
  | k + 1 => fun j => if isNB (B (f + j)) = true then ln B f k (j + 1) else j
def wj (B : Nat → Nat) (f j : Nat) : List Nat := (List.range j).map (fun d => B (f + d))
theorem wj_s (B : Nat → Nat) (f j : Nat) : wj B f (j + 1) = wj B f j ++ [B (f + j)] := by
  unfold wj
  rw [List.range_succ, List.map_append]
  rfl
theorem wj_len (B : Nat → Nat) (f j : Nat) : (wj B f j).length = j := by unfold wj; rw [List.length_map, List.length_range]
/-- where the token begins, its kind (the class's numbers), its end -/
def tF (B : Nat → Nat) (N i : Nat) : Nat := sk B (N - i) i
def tL (B : Nat → Nat) (N f : Nat) : Nat := ln B f (N - f) 0
def tK (B : Nat → Nat) (N f : Nat) : Nat := if f < N then (if isLt (B f) = true then (if tL B N f ≤ 8 then kwc (wj B f (tL B N f)) else 257) else if isMk (B f) = true then B f else 257) else 256
def tE (B : Nat → Nat) (N f : Nat) : Nat := if f < N then (if isLt (B f) = true then f + tL B N f else f + 1) else f
/-- the reference's kinds -/
def kM (k : Nat) : Nat := if k = 256 then 0 else if k = 257 then 4 else if k = 258 then 1 else if k < 256 then 3 else 2
theorem r_byteAt {B : Nat → Nat} {N : Nat} {c m : Nat → Int32} (h : txt B N c m) {i : Nat} (hi : i ≤ N) : fX11_byteAt (nI i) (nI N) m = some (if i < N then nI (B i) else -1, ()) := by
  have hN := h.1
  unfold fX11_byteAt fX11_byteAt_p18
  by_cases q : i < N
  · rw [if_neg (nI_ge (a := i) (b := N) (by omega) (by omega)), if_pos q, bd_eq _ (inb_nI (j := i) (n := 600) (by omega) (by decide)), nm_q, nI_clamp (n := i) (by omega), (h.2 i q).2.1]
  · rw [if_pos (nI_le (a := N) (b := i) (by omega) (by omega)), if_neg q]
theorem r_inL {b : Nat} (hb : b < 256) : fX11_in (nI b) 97 122 = some (if isLt b = true then 1 else 0, ()) := by
  have z1 : nI b < 97 ↔ b < 97 := nI_ltI (a := b) (b := 97) (by omega) (by decide)
  have z2 : (122 : Int32) < nI b ↔ 122 < b := nI_ltI (a := 122) (b := b) (by decide) (by omega)
  rw [e_in]
  unfold isLt
  simp only [z1, z2, Bool.and_eq_true, decide_eq_true_eq]
  by_cases q : b < 97 ∨ 122 < b
  · rw [if_pos q, if_neg (by omega)]
  · rw [if_neg q, if_pos (by omega)]
theorem r_isNB {b : Nat} (hb : b < 256) : fX11_isNameByte (nI b) = some (if isNB b = true then 1 else 0, ()) := by
  have z1 : nI b < 48 ↔ b < 48 := nI_ltI (a := b) (b := 48) (by omega) (by decide)
  have z2 : (57 : Int32) < nI b ↔ 57 < b := nI_ltI (a := 57) (b := b) (by decide) (by omega)
  unfold fX11_isNameByte fX11_isNameByte_p22 fX11_isNameByte_p27
  rw [r_inL hb, ob_s, e_in, ob_s]
  simp only [z1, z2]
  unfold isNB
  have b1 : bz 1 = true := by decide
  have b0 : bz 0 = true := by decide
  by_cases q : isLt b = true
  · simp [q, bd_eq _ b1]
  · by_cases w : b < 48 ∨ 57 < b
    · have w2 : ¬ (48 ≤ b ∧ b ≤ 57) := by omega
      simp [q, w, w2, bd_eq _ b0]
    · have w2 : 48 ≤ b ∧ b ≤ 57 := by omega
      simp [q, w, w2, bd_eq _ b1]
theorem r_isNBm : fX11_isNameByte (-1) = some (0, ()) := by
  unfold fX11_isNameByte fX11_isNameByte_p22 fX11_isNameByte_p27
  rw [e_in, ob_s, e_in, ob_s, if_pos (by decide), if_pos (by decide), bd_eq _ (by decide)]
theorem r_isSign {b : Nat} (hb : b < 256) : fX11_isSign (nI b) = some (if isMk b = true then 1 else 0, ()) := by
  have z : ∀ v : Nat, v < 256 → (nI b = nI v ↔ b = v) := fun v hv => nI_eq (by omega) (by omega)
  have z1 : nI b = 48 ↔ b = 48 := z 48 (by decide)
  have z2 : nI b = 49 ↔ b = 49 := z 49 (by decide)
  have z3 : nI b = 42 ↔ b = 42 := z 42 (by decide)
  have z4 : nI b = 61 ↔ b = 61 := z 61 (by decide)
  have z5 : nI b = 59 ↔ b = 59 := z 59 (by decide)
  have z6 : nI b = 44 ↔ b = 44 := z 44 (by decide)
  have z7 : nI b = 123 ↔ b = 123 := z 123 (by decide)
  have z8 : nI b = 125 ↔ b = 125 := z 125 (by decide)
  have z9 : nI b = 40 ↔ b = 40 := z 40 (by decide)
  have za : nI b = 41 ↔ b = 41 := z 41 (by decide)
  have zb : nI b = 33 ↔ b = 33 := z 33 (by decide)
  have zc : nI b = 38 ↔ b = 38 := z 38 (by decide)
  have zd : nI b = 124 ↔ b = 124 := z 124 (by decide)
  have b1 : bz 1 = true := by decide
  have b0 : bz 0 = true := by decide
  unfold fX11_isSign fX11_isSign_p78 fX11_isSign_p83
  rw [bd_eq _ b1, bd_eq _ b0]
  simp only [z1, z2, z3, z4, z5, z6, z7, z8, z9, za, zb, zc, zd]
  unfold isMk
  simp only [Bool.or_eq_true, decide_eq_true_eq]
  by_cases q : ((((((((((((b = 48 ∨ b = 49) ∨ b = 42) ∨ b = 61) ∨ b = 59) ∨ b = 44) ∨ b = 123) ∨ b = 125) ∨ b = 40) ∨ b = 41) ∨ b = 33) ∨ b = 38) ∨ b = 124)
  · rw [if_pos q]
    have hc : b = 48 ∨ b = 49 ∨ b = 42 ∨ b = 61 ∨ b = 59 ∨ b = 44 ∨ b = 123 ∨ b = 125 ∨ b = 40 ∨ b = 41 ∨ b = 33 ∨ b = 38 ∨ b = 124 := by omega
    rcases hc with w | w | w | w | w | w | w | w | w | w | w | w | w <;> simp [w]
  · rw [if_neg q, if_neg (by omega), if_neg (by omega), if_neg (by omega), if_neg (by omega), if_neg (by omega), if_neg (by omega), if_neg (by omega), if_neg (by omega), if_neg (by omega), if_neg (by omega), if_neg (by omega), if_neg (by omega), if_neg (by omega)]
theorem sk_le {B : Nat → Nat} : ∀ k i, sk B k i ≤ i + k ∧ i ≤ sk B k i := by
  intro k
  induction k with
  | zero => intro i; exact ⟨Nat.le_refl _, Nat.le_refl _⟩
  | succ k ih =>
    intro i
    show (if B i = 32 ∨ B i = 10 then sk B k (i + 1) else i) ≤ i + (k + 1) ∧ i ≤ (if B i = 32 ∨ B i = 10 then sk B k (i + 1) else i)
    by_cases h : B i = 32 ∨ B i = 10
    · rw [if_pos h]; have := ih (i + 1); omega
    · rw [if_neg h]; omega
theorem ln_le {B : Nat → Nat} {f : Nat} : ∀ k j, ln B f k j ≤ j + k ∧ j ≤ ln B f k j := by
  intro k
  induction k with
  | zero => intro i; exact ⟨Nat.le_refl _, Nat.le_refl _⟩
  | succ k ih =>
    intro i
    show (if isNB (B (f + i)) = true then ln B f k (i + 1) else i) ≤ i + (k + 1) ∧ i ≤ (if isNB (B (f + i)) = true then ln B f k (i + 1) else i)
    by_cases h : isNB (B (f + i)) = true
    · rw [if_pos h]; have := ih (i + 1); omega
    · rw [if_neg h]; omega
theorem okB_s {B : Nat → Nat} {f j : Nat} (h : okB (wj B f j)) (hb : isNB (B (f + j)) = true) : okB (wj B f (j + 1)) := by
  rw [wj_s]
  intro c hc
  rcases List.mem_append.mp hc with z | z
  · exact h c z
  · rw [List.mem_singleton.mp z]; have := nb_ok hb; omega
/-- a word of the reference -/
theorem r_word {B : Nat → Nat} {N : Nat} {c m : Nat → Int32} (h : txt B N c m) {f : Nat} (hf : f ≤ N) (tk : Int32) : ∀ (k j n : Nat) (nm0 : Int64), f + j + k = N → k < n → okB (wj B f j) → (j ≤ 8 → nm0 = nM (wj B f j)) →
    ∃ nm1, fX11_next_l92 (nI N) m n (nI f) (nI (f + j)) tk nm0 = some (nI f, nI (f + ln B f k j), nI (if ln B f k j ≤ 8 then (if kwc (wj B f (ln B f k j)) = 258 then 1 else 2) else 4), nm1) ∧ okB (wj B f (ln B f k j)) ∧ (ln B f k j ≤ 8 → nm1 = nM (wj B f (ln B f k j))) := by
  have hN := h.1
  have stop : ∀ (j : Nat) (nm0 : Int64) (w : Int32) (k92 : Int32 → Int32 → Int32 → Int64 → Option (Int32 × Int32 × Int32 × Int64)), f + j ≤ N → okB (wj B f j) → (j ≤ 8 → nm0 = nM (wj B f j)) → fX11_byteAt (nI (f + j)) (nI N) m = some (w, ()) → fX11_isNameByte w = some (0, ()) →
      fX11_next_b92 (nI N) m k92 (nI f) (nI (f + j)) tk nm0 = some (nI f, nI (f + j), nI (if j ≤ 8 then (if kwc (wj B f j) = 258 then 1 else 2) else 4), nm0) := by
    intro j nm0 w k92 hj ho hnm e1 e2
    have z8 : nI j ≤ 8 ↔ j ≤ 8 := nI_leI (a := j) (b := 8) (by omega) (by decide)
    unfold fX11_next_b92 fX11_next_p195 fX11_next_p227
    rw [e1, ob_s, e2, ob_s, if_pos rfl, nm_q, nI_dif (by omega), show f + j - f = j by omega]
    by_cases q : j ≤ 8
    · rw [if_pos (z8.mpr q), if_pos q, hnm q, r_isWord ho (by rw [wj_len]; exact q), ob_s]
      by_cases w : kwc (wj B f j) = 258
      · simp only [if_pos w]; rw [if_pos trivial]; rfl
      · simp only [if_neg w]; rw [if_neg n10]; rfl
    · rw [if_neg (fun z => q (z8.mp z)), if_neg q]; rfl
  intro k
  induction k with
  | zero =>
    intro j n nm0 g1 g2 ho hnm
    obtain ⟨n, rfl⟩ : ∃ z, n = z + 1 := ⟨n - 1, by omega⟩
    have eb := r_byteAt h (i := f + j) (by omega)
    rw [if_neg (by omega)] at eb
    exact ⟨nm0, stop j nm0 (-1) _ (by omega) ho hnm eb r_isNBm, ho, hnm⟩
  | succ k ih =>
    intro j n nm0 g1 g2 ho hnm
    obtain ⟨n, rfl⟩ : ∃ z, n = z + 1 := ⟨n - 1, by omega⟩
    have eb := r_byteAt h (i := f + j) (by omega)
    rw [if_pos (by omega)] at eb
    have hb := (h.2 (f + j) (by omega)).1
    have en := r_isNB hb
    show ∃ nm1, fX11_next_b92 (nI N) m (fX11_next_l92 (nI N) m n) (nI f) (nI (f + j)) tk nm0 = _ ∧ _
    have el : ln B f (k + 1) j = if isNB (B (f + j)) = true then ln B f k (j + 1) else j := rfl
    by_cases q : isNB (B (f + j)) = true
    · rw [if_pos q] at en
      rw [el, if_pos q]
      have z8 : (8 : Int32) ≤ nI j ↔ 8 ≤ j := nI_leI (a := 8) (b := j) (by decide) (by omega)
      unfold fX11_next_b92 fX11_next_p145
      rw [eb, ob_s, en, ob_s, if_neg n10, nm_q, nI_dif (by omega), show f + j - f = j by omega]
      by_cases w : 8 ≤ j
      · rw [if_pos (z8.mpr w), nm_q, nI_1]
        exact ih (j + 1) n nm0 (by omega) (by omega) (okB_s ho q) (fun z => by omega)
      · have e64 : (nI (B (f + j))).toInt64 = lN (B (f + j)) := by
          have : ∀ b : Nat, b < 256 → (nI b).toInt64 = lN b := by decide +kernel
          exact this _ hb
        have esn := nM_snoc (W := wj B f j) (b := B (f + j)) ho (by rw [wj_len]; omega) (by have := nb_ok q; omega)
        rw [if_neg (fun z => w (z8.mp z)), nm_q, ob_s, nm_q, nm_q, nm_q, nI_1, e64, hnm (by omega), esn, ← wj_s]
        exact ih (j + 1) n _ (by omega) (by omega) (okB_s ho q) (fun _ => rfl)
    · rw [if_neg q] at en
      rw [el, if_neg q]
      exact ⟨nm0, stop j nm0 _ _ (by omega) ho hnm eb en, ho, hnm⟩
