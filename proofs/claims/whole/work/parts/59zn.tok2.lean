/-! ===== pure rows 61: bytes and words ===== -/
def txt (B : Nat → Nat) (N : Nat) (c m : Nat → Int32) : Prop := N ≤ 600 ∧ ∀ j, j < N → B j < 256 ∧ m j = nI (B j) ∧ c j = (nI (B j)).toInt8.toInt32
theorem txt_of {N : Nat} {c m : Nat → Int32} (h : relText N c m) : txt (fun j => (m j).toNatClampNeg) N c m := by
  refine ⟨h.1, fun j hj => ?_⟩
  obtain ⟨b, h1, h2, h3⟩ := h.2 j hj
  have e : (m j).toNatClampNeg = b := by rw [h2]; exact nI_clamp (by omega)
  simp only [e]
  exact ⟨h1, h2, h3⟩
def isLt (b : Nat) : Bool := decide (97 ≤ b) && decide (b ≤ 122)
def isNB (b : Nat) : Bool := isLt b || (decide (48 ≤ b) && decide (b ≤ 57))
def isMk (b : Nat) : Bool := decide (b = 48) || decide (b = 49) || decide (b = 42) || decide (b = 61) || decide (b = 59) || decide (b = 44) || decide (b = 123) || decide (b = 125) || decide (b = 40) || decide (b = 41) || decide (b = 33) || decide (b = 38) || decide (b = 124)
theorem nb_ok {b : Nat} (h : isNB b = true) : 0 < b ∧ b < 128 := by
  unfold isNB isLt at h
  simp only [Bool.or_eq_true, Bool.and_eq_true, decide_eq_true_eq] at h
  omega
def kw : Nat → List Nat
  | 0 => [118, 97, 114]
  | 1 => [112, 114, 111, 99]
  | 2 => [101, 108, 115, 101]
  | 3 => [105, 102]
  | 4 => [119, 104, 105, 108, 101]
  | 5 => [99, 97, 108, 108]
  | 6 => [97, 115, 115, 101, 114, 116]
  | 7 => [97, 115, 115, 117, 109, 101]
  | 8 => [114, 101, 116, 117, 114, 110]
  | _ => [115, 107, 105, 112]
theorem kw_all : ∀ i, i < 10 → (kw i).all (fun b => decide (0 < b) && decide (b < 256)) = true ∧ (kw i).length ≤ 8 := by decide +kernel
theorem kw_ok {i : Nat} (h : i < 10) : okB (kw i) ∧ (kw i).length ≤ 8 := by
  obtain ⟨h1, h2⟩ := kw_all i h
  refine ⟨fun b hb => ?_, h2⟩
  have := List.all_eq_true.mp h1 b hb
  simp only [Bool.and_eq_true, decide_eq_true_eq] at this
  exact this
theorem kw_inj : ∀ i, i < 10 → ∀ j, j < 10 → kw i = kw j → i = j := by decide +kernel
theorem kw_c : ∀ i, i < 10 → xWords.getD i 0 = nC (kw i) := by decide +kernel
def kwF (W : List Nat) : Nat → Nat
  | 0 => 258
  | i + 1 => if W = kw i then 259 + i else kwF W i
def kwc (W : List Nat) : Nat := kwF W 10
theorem kwF_lt (W : List Nat) : ∀ n, kwF W n = 258 ∨ ∃ i, i < n ∧ W = kw i ∧ kwF W n = 259 + i := by
  intro n
  induction n with
  | zero => exact Or.inl rfl
  | succ n ih =>
    show (if W = kw n then 259 + n else kwF W n) = 258 ∨ ∃ i, i < n + 1 ∧ W = kw i ∧ (if W = kw n then 259 + n else kwF W n) = 259 + i
    by_cases h : W = kw n
    · rw [if_pos h]; exact Or.inr ⟨n, Nat.lt_succ_self _, h, rfl⟩
    · rw [if_neg h]
      rcases ih with z | ⟨i, z1, z2, z3⟩
      · exact Or.inl z
      · exact Or.inr ⟨i, by omega, z2, z3⟩
theorem kwc_kw {W : List Nat} {i : Nat} (hi : i < 10) : W = kw i ↔ kwc W = 259 + i := by
  constructor
  · intro h
    have key : ∀ n, i < n → n ≤ 10 → kwF W n = 259 + i := by
      intro n
      induction n with
      | zero => intro h1; omega
      | succ n ih =>
        intro h1 h2
        show (if W = kw n then 259 + n else kwF W n) = 259 + i
        by_cases q : W = kw n
        · rw [if_pos q]
          have := kw_inj i hi n (by omega) (h.symm.trans q)
          omega
        · rw [if_neg q]
          refine ih ?_ (by omega)
          by_cases z : i = n
          · rw [z] at h; exact absurd h q
          · omega
    exact key 10 hi (Nat.le_refl _)
  · intro h
    rcases kwF_lt W 10 with z | ⟨j, z1, z2, z3⟩
    · have : kwF W 10 = 259 + i := h
      omega
    · have : kwF W 10 = 259 + i := h
      have e : j = i := by omega
      rw [← e]; exact z2
theorem kwc_rng (W : List Nat) : 258 ≤ kwc W ∧ kwc W ≤ 268 := by
  rcases kwF_lt W 10 with z | ⟨j, z1, z2, z3⟩ <;> unfold kwc <;> omega
theorem r_isWord {W : List Nat} (hW : okB W) (hl : W.length ≤ 8) : fX11_isWord (nM W) = some (if kwc W = 258 then 0 else 1, ()) := by
  have key : ∀ (i : Nat), i < 10 → ∀ (v : Int64), v = nM (kw i) → (lg_cmp (nM W) v = 0 ↔ kwc W = 259 + i) := by
    intro i hi v hv
    rw [lg_cmp_eq, hv, nM_eq hW hl (kw_ok hi).1 (kw_ok hi).2]
    exact kwc_kw hi
  have c0 := key 0 (by decide) 7758194 (by decide +kernel)
  have c1 := key 1 (by decide) 1886547811 (by decide +kernel)
  have c3 := key 3 (by decide) 26982 (by decide +kernel)
  have c2 := key 2 (by decide) 1701606245 (by decide +kernel)
  have c4 := key 4 (by decide) 512852847717 (by decide +kernel)
  have c5 := key 5 (by decide) 1667329132 (by decide +kernel)
  have c6 := key 6 (by decide) 107148485161588 (by decide +kernel)
  have c7 := key 7 (by decide) 107148486208869 (by decide +kernel)
  have c8 := key 8 (by decide) 125780071117422 (by decide +kernel)
  have c9 := key 9 (by decide) 1936419184 (by decide +kernel)
  have hr := kwc_rng W
  unfold fX11_isWord fX11_isWord_p80 fX11_isWord_p85
  simp only [nm, c0, c1, c2, c3, c4, c5, c6, c7, c8, c9]
  have b1 : bz 1 = true := by decide
  have b0 : bz 0 = true := by decide
  by_cases h : kwc W = 258
  · rw [if_neg (by omega), if_neg (by omega), if_neg (by omega), if_neg (by omega), if_neg (by omega), if_neg (by omega), if_neg (by omega), if_neg (by omega), if_neg (by omega), if_neg (by omega), if_pos h, bd_eq _ b0]
  · rw [if_neg h]
    have hc : kwc W = 259 + 0 ∨ kwc W = 259 + 1 ∨ kwc W = 259 + 3 ∨ kwc W = 259 + 2 ∨ kwc W = 259 + 4 ∨ kwc W = 259 + 5 ∨ kwc W = 259 + 6 ∨ kwc W = 259 + 7 ∨ kwc W = 259 + 8 ∨ kwc W = 259 + 9 := by omega
    rcases hc with z | z | z | z | z | z | z | z | z | z <;> simp [z, bd_eq _ b1]
