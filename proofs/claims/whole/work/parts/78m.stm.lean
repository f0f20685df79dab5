/-! ===== pure rows 89: statements: the reference's words and marks ===== -/
theorem tK_kwc {B : Nat → Nat} {N f : Nat} (h : 258 ≤ tK B N f) : tK B N f = kwc (wj B f (tL B N f)) := by
  by_cases q : f < N
  · by_cases z : isLt (B f) = true
    · have e := (tK_word q z).1
      by_cases y : tL B N f ≤ 8
      · rw [if_pos y] at e; exact e
      · rw [if_neg y] at e; omega
    · have e := (tK_mark q z).1
      by_cases x : isMk (B f) = true
      · rw [if_pos x] at e
        unfold isMk at x
        simp only [Bool.or_eq_true, decide_eq_true_eq] at x
        omega
      · rw [if_neg x] at e; omega
  · have := (tK_out (B := B) q).1; omega
theorem kM_2 (k : Nat) : kM k = 2 ↔ 259 ≤ k := by
  unfold kM
  by_cases h1 : k = 256
  · rw [if_pos h1]; omega
  · rw [if_neg h1]
    by_cases h2 : k = 257
    · rw [if_pos h2]; omega
    · rw [if_neg h2]
      by_cases h3 : k = 258
      · rw [if_pos h3]; omega
      · rw [if_neg h3]
        by_cases h4 : k < 256
        · rw [if_pos h4]; omega
        · rw [if_neg h4]; omega
theorem r_isThe {B : Nat → Nat} {N f : Nat} {nm0 : Int64} (hn : nmAt B N f nm0) {i : Nat} (hi : i < 10) : fX11_isThe (nM (kw i)) (nI (kM (tK B N f))) nm0 = some (if tK B N f = 259 + i then 1 else 0, ()) := by
  unfold fX11_isThe fX11_isThe_p21 fX11_isThe_p22
  have hk := kM_lt (tK B N f)
  by_cases h : 259 ≤ tK B N f
  · obtain ⟨o1, o2, o3⟩ := hn (by omega)
    have e2 : nI (kM (tK B N f)) = 2 := congrArg nI ((kM_2 _).mpr h)
    obtain ⟨w1, w2⟩ := kw_ok hi
    have hl : (wj B f (tL B N f)).length ≤ 8 := by rw [wj_len]; exact o2
    have key : nm0 = nM (kw i) ↔ tK B N f = 259 + i := by
      rw [o3, nM_eq o1 hl w1 w2, kwc_kw hi, ← tK_kwc (show 258 ≤ tK B N f by omega)]
    rw [if_pos e2, nm_q]
    by_cases hq : tK B N f = 259 + i
    · rw [if_pos ((lg_cmp_eq _ _).mpr (key.mpr hq)), bd_eq _ (by decide), if_pos hq]
    · rw [if_neg (fun z => hq (key.mp ((lg_cmp_eq _ _).mp z))), bd_eq _ (by decide), if_neg hq]
  · have n2 : ¬ nI (kM (tK B N f)) = 2 := fun z => h ((kM_2 _).mp ((nI_eq (a := kM (tK B N f)) (b := 2) (by omega) (by decide)).mp z))
    rw [if_neg n2, bd_eq _ (by decide), if_neg (by omega)]
theorem kw_m : nM (kw 0) = 7758194 ∧ nM (kw 1) = 1886547811 ∧ nM (kw 2) = 1701606245 ∧ nM (kw 3) = 26982 ∧ nM (kw 4) = 512852847717 ∧ nM (kw 5) = 1667329132 ∧ nM (kw 6) = 107148485161588 ∧ nM (kw 7) = 107148486208869 ∧ nM (kw 8) = 125780071117422 ∧ nM (kw 9) = 1936419184 := by decide +kernel
theorem r_kindOf {B : Nat → Nat} {N f : Nat} {nm0 : Int64} (hn : nmAt B N f nm0) : (bgS (tK B N f) → fX11_kindOf (nI (kM (tK B N f))) nm0 = some (nI (kdT (tK B N f)), ())) ∧ (¬ bgS (tK B N f) → fX11_kindOf (nI (kM (tK B N f))) nm0 = some (-1, ())) := by
  obtain ⟨m0, m1, m2, m3, m4, m5, m6, m7, m8, m9⟩ := kw_m
  have i3 := r_isThe hn (i := 3) (by decide)
  have i4 := r_isThe hn (i := 4) (by decide)
  have i5 := r_isThe hn (i := 5) (by decide)
  have i6 := r_isThe hn (i := 6) (by decide)
  have i7 := r_isThe hn (i := 7) (by decide)
  have i8 := r_isThe hn (i := 8) (by decide)
  have i9 := r_isThe hn (i := 9) (by decide)
  rw [m3] at i3
  rw [m4] at i4
  rw [m5] at i5
  rw [m6] at i6
  rw [m7] at i7
  rw [m8] at i8
  rw [m9] at i9
  have hk := kM_lt (tK B N f)
  have hle := tK_le B N f
  unfold fX11_kindOf fX11_kindOf_p113 bgS kdT
  by_cases h1 : tK B N f = 258
  · have e1 : nI (kM (tK B N f)) = 1 := congrArg nI ((kM_1 _).mpr h1)
    rw [if_pos e1, if_pos h1]
    exact ⟨fun _ => rfl, fun z => absurd (Or.inl h1) z⟩
  · have n1 : ¬ nI (kM (tK B N f)) = 1 := fun z => h1 ((kM_1 _).mp ((nI_eq (a := kM (tK B N f)) (b := 1) (by omega) (by decide)).mp z))
    rw [if_neg n1, if_neg h1, i3, ob_s, i4, i5, i6, i7, i8, i9]
    by_cases h2 : 262 ≤ tK B N f
    · refine ⟨fun _ => ?_, fun z => absurd (Or.inr ⟨h2, hle⟩) z⟩
      have hc : tK B N f = 262 ∨ tK B N f = 263 ∨ tK B N f = 264 ∨ tK B N f = 265 ∨ tK B N f = 266 ∨ tK B N f = 267 ∨ tK B N f = 268 := by omega
      rcases hc with q | q | q | q | q | q | q <;> rw [q] <;> rfl
    · refine ⟨fun z => by omega, fun _ => ?_⟩
      simp only [show ¬ tK B N f = 259 + 3 by omega, show ¬ tK B N f = 259 + 4 by omega, show ¬ tK B N f = 259 + 5 by omega, show ¬ tK B N f = 259 + 6 by omega, show ¬ tK B N f = 259 + 7 by omega, show ¬ tK B N f = 259 + 8 by omega, show ¬ tK B N f = 259 + 9 by omega, if_false, if_true, ob_s]
/-- the reference's scanner at a token -/
def rsO (B : Nat → Nat) (N f : Nat) (fr to tk : Int32) (nm0 : Int64) : Prop := fr = nI f ∧ to = nI (tE B N f) ∧ tk = nI (kM (tK B N f)) ∧ nmAt B N f nm0
theorem r_nxt {B : Nat → Nat} {N : Nat} {c m : Nat → Int32} (h : txt B N c m) {f : Nat} (hf : f ≤ N) {fr to tk : Int32} {nm0 : Int64} (hs : rsO B N f fr to tk nm0) : ∃ (fr2 to2 tk2 : Int32) (nm2 : Int64), fX11_next (nI N) fr to tk nm0 m = some (fr2, to2, tk2, nm2) ∧ rsO B N (tX B N f) fr2 to2 tk2 nm2 := by
  obtain ⟨h1, h2, h3, h4⟩ := hs
  subst h2
  obtain ⟨nm1, e, hn⟩ := r_next h fr tk nm0 (tE_le hf).1
  exact ⟨_, _, _, _, e, rfl, rfl, rfl, hn⟩
/-- a mark is taken -/
theorem r_take {B : Nat → Nat} {N : Nat} {c m : Nat → Int32} (h : txt B N c m) {f : Nat} (hf : f ≤ N) {fr to tk : Int32} {nm0 : Int64} (hs : rsO B N f fr to tk nm0) {w : Nat} (hw : w < 256) (wa : Int32) :
    ∃ (z fr2 to2 tk2 : Int32) (nm2 : Int64) (wr2 wa2 : Int32), fX11_take (nI w) (nI N) fr to tk nm0 0 wa m = some (z, fr2, to2, tk2, nm2, wr2, wa2) ∧ ((tK B N f = w ∧ z = 1 ∧ rsO B N (tX B N f) fr2 to2 tk2 nm2 ∧ wr2 = 0 ∧ wa2 = wa) ∨ (¬ tK B N f = w ∧ z = 0 ∧ wr2 = nI (bdK (tK B N f)) ∧ wa2 = nI f)) := by
  have hs0 := hs
  obtain ⟨h1, h2, h3, h4⟩ := hs
  have es := r_sees (f := f) h hw
  unfold fX11_take fX11_take_p18
  rw [h1, h3, es, ob_s, r_may, ob_s]
  dsimp only
  by_cases h7 : tK B N f = 257
  · have hnw : ¬ tK B N f = w := by omega
    rw [if_pos h7]
    rw [if_pos rfl, bd_eq _ (show bz (0 : Int32) = true by decide)]
    exact ⟨_, _, _, _, _, _, _, rfl, Or.inr ⟨hnw, rfl, by unfold bdK; rw [if_pos h7]; exact (by decide : (1 : Int32) = nI 1), rfl⟩⟩
  · rw [if_neg h7]
    by_cases hq : tK B N f = w
    · rw [if_pos hq, if_neg n10]
      obtain ⟨fr2, to2, tk2, nm2, e2, hs2⟩ := r_nxt h hf hs0
      rw [h1, h3] at e2
      rw [if_neg n10, e2, ob_s, bd_eq _ (show bz (1 : Int32) = true by decide)]
      exact ⟨_, _, _, _, _, _, _, rfl, Or.inl ⟨hq, rfl, hs2, rfl, rfl⟩⟩
    · rw [if_neg hq, if_pos rfl, if_pos rfl, bd_eq _ (show bz (0 : Int32) = true by decide)]
      exact ⟨_, _, _, _, _, _, _, rfl, Or.inr ⟨hq, rfl, by unfold bdK; rw [if_neg h7]; exact (by decide : (2 : Int32) = nI 2), rfl⟩⟩
