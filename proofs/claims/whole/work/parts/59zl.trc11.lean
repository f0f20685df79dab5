/-! ===== pure rows 59h: trace ===== -/
theorem sh3 : ∀ st : Nat, st < 32 → ((nI st).toUInt32 >>> ((3 : Int32).toUInt32 &&& Int32.toUInt32 31)).toInt32 = nI (st / 8) := by decide +kernel
theorem t_f (k w th : Int32) (t : Nat → Int32) : ∃ v, fX10_trace_f k w = some (0, v, ()) ∧ fX11_trace k w th 0 t = some (v, 0) := by
  unfold fX10_trace_f fX10_trace_f_p9 fX11_trace fX11_trace_p45
  rw [e_in, ob_s]
  by_cases h0 : w < 0
  · rw [if_pos h0, if_pos (Or.inl h0 : w < 0 ∨ 4 < w)]
    exact ⟨-2, rfl, rfl⟩
  · by_cases h4 : w ≤ 4
    · have hn : ¬ (w < 0 ∨ 4 < w) := fun z => z.elim h0 (fun y => Int32.not_le.mpr y h4)
      rw [if_neg h0, if_pos h4, if_neg hn]
      simp only [if_neg n10]
      rw [nm_q, show (0 : Int32) - 1 = -1 from by decide, e_in, ob_s]
      have hk : k < 0 ∨ (-1 : Int32) < k := by
        rcases Int32.lt_or_le k 0 with z | z
        · exact Or.inl z
        · exact Or.inr (Int32.lt_of_lt_of_le (show (-1 : Int32) < 0 by decide) z)
      rw [if_pos hk]
      exact ⟨-1, rfl, rfl⟩
    · have hn : w < 0 ∨ 4 < w := Or.inr (Int32.not_le.mp h4)
      rw [if_neg h0, if_neg h4, if_pos hn]
      exact ⟨-2, rfl, rfl⟩
theorem t_x {lg tl : Int32} {c4 c5 c6 c7 t : Nat → Int32} (h : trOk lg c4 c5 c6 c7 tl t) (k w th : Int32) : ∃ v, fX10_trace_x k w lg c7 c6 c5 c4 = some (0, v, ()) ∧ fX11_trace k w th tl t = some (v, 0) := by
  obtain ⟨n, hn, e1, e2, hj⟩ := h
  subst e1 e2
  unfold fX10_trace_x fX10_trace_x_p9 fX11_trace fX11_trace_p45
  rw [e_in, ob_s]
  by_cases h0 : w < 0
  · rw [if_pos h0, if_pos (Or.inl h0 : w < 0 ∨ 4 < w)]
    exact ⟨-2, rfl, rfl⟩
  · by_cases h4 : w ≤ 4
    · have hnn : ¬ (w < 0 ∨ 4 < w) := fun z => z.elim h0 (fun y => Int32.not_le.mpr y h4)
      obtain ⟨x, -, hx, ew⟩ := rng (l := 0) (h := 4) rfl rfl (by decide) (by decide) hnn
      rw [if_neg h0, if_pos h4, if_neg hnn]
      simp only [if_neg n10]
      rw [nm_q, e_in, ob_s]
      unfold fX8_aboutStep fX8_aboutStep_p12
      by_cases k0 : k < 0
      · rw [if_pos k0, if_pos (Or.inl k0 : k < 0 ∨ nI n - 1 < k)]
        exact ⟨-1, rfl, rfl⟩
      · rw [if_neg k0]
        cases n with
        | zero =>
          have hk1 : nI 0 - 1 < k := Int32.lt_of_lt_of_le (show nI 0 - 1 < 0 by decide) (Int32.not_lt.mp k0)
          rw [if_neg (show ¬ k < nI 0 from k0), if_pos (Or.inr hk1 : k < 0 ∨ nI 0 - 1 < k)]
          exact ⟨-1, rfl, rfl⟩
        | succ n =>
          rw [nI_pred]
          by_cases kn : nI n < k
          · have hk2 : ¬ k < nI (n + 1) := by
              intro z
              have q := Int32.lt_iff_toInt_lt.mp kn
              have q2 := Int32.lt_iff_toInt_lt.mp z
              rw [nI_toInt (by omega)] at q
              rw [nI_toInt (by omega)] at q2
              omega
            rw [if_neg hk2, if_pos (Or.inr kn : k < 0 ∨ nI n < k)]
            exact ⟨-1, rfl, rfl⟩
          · have hk3 : ¬ (k < 0 ∨ nI n < k) := fun z => z.elim k0 kn
            obtain ⟨j, -, hjn, ek⟩ := rng (l := 0) (h := n) rfl rfl (by omega) (by omega) hk3
            subst ek
            rw [if_pos (nI_lt (a := j) (b := n + 1) (by omega) (by omega)), if_neg hk3]
            simp only [if_neg n10]
            obtain ⟨r0, r1, ⟨st, hst, r2, r2a, r3⟩, r4⟩ := hj j (by omega)
            have bj := inb_nI (j := j) (n := 2000) (by omega) (by decide)
            have kj := nI_clamp (n := j) (by omega)
            have e5 : (5 : Int32) * nI j = nI (5 * j) := pk_mul 5 _
            subst ew
            have rr : (nm ((5 : Int32) * nI j) fun x6 => nm (x6 + nI x) fun x7 => bd (inb x7 10000) (nm (t x7.toNatClampNeg) fun x9 => (some (x9, 0) : Option (Int32 × Int32)))) = some (t (5 * j + x), 0) := by
              rw [nm_q, e5, nm_q, nI_add, bd_eq _ (inb_nI (j := 5 * j + x) (n := 10000) (by omega) (by decide)), nm_q, nI_clamp (n := 5 * j + x) (by omega)]
            rw [rr]
            have hx5 : x = 0 ∨ x = 1 ∨ x = 2 ∨ x = 3 ∨ x = 4 := by omega
            rcases hx5 with z | z | z | z | z
            · subst z
              rw [if_pos (by decide), bd_eq _ bj, nm_q, kj]
              exact ⟨c4 j, rfl, by rw [show 5 * j + 0 = 5 * j from rfl, r0]⟩
            · subst z
              rw [if_neg (by decide), if_pos (by decide), bd_eq _ bj, nm_q, kj]
              exact ⟨c5 j, rfl, by rw [r1]⟩
            · subst z
              rw [if_neg (by decide), if_neg (by decide), if_pos (by decide), bd_eq _ bj, nm_q, kj, nm_q, r2, and7 st hst]
              exact ⟨nI (st % 8), rfl, by rw [r2a]⟩
            · subst z
              rw [if_neg (by decide), if_neg (by decide), if_neg (by decide), if_pos (by decide), bd_eq _ bj, nm_q, kj, nm_q, r2, sh3 st hst]
              exact ⟨nI (st / 8), rfl, by rw [r3]⟩
            · subst z
              rw [if_neg (by decide), if_neg (by decide), if_neg (by decide), if_neg (by decide), bd_eq _ bj, nm_q, kj]
              exact ⟨c7 j, rfl, by rw [r4]⟩
    · have hnn : w < 0 ∨ 4 < w := Or.inr (Int32.not_le.mp h4)
      rw [if_neg h0, if_neg h4, if_pos hnn]
      exact ⟨-2, rfl, rfl⟩
