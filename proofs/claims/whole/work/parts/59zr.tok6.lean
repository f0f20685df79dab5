/-! ===== pure rows 65: the class's advance ===== -/
def advO (B : Nat → Nat) (N f : Nat) (nm1 : Int64) (fa nx : Int32) : Int32 × Int32 × Int64 × Int32 × Int32 × Int32 := if tK B N f = 257 then (257, nI f, nm1, 1, nI f, nx) else (nI (tK B N f), nI f, nm1, 0, fa, nI (tE B N f))
theorem advO_ok {B : Nat → Nat} {N f : Nat} {nm1 : Int64} {fa nx : Int32} (h : ¬ tK B N f = 257) : advO B N f nm1 fa nx = (nI (tK B N f), nI f, nm1, 0, fa, nI (tE B N f)) := by unfold advO; rw [if_neg h]
theorem advO_bad {B : Nat → Nat} {N f : Nat} {nm1 : Int64} {fa nx : Int32} (h : tK B N f = 257) : advO B N f nm1 fa nx = (257, nI f, nm1, 1, nI f, nx) := by unfold advO; rw [if_pos h]
theorem c_advance {B : Nat → Nat} {N : Nat} {c m : Nat → Int32} (h : txt B N c m) (t0 a0 fa : Int32) (nm0 : Int64) {i : Nat} (hi : i ≤ N) :
    ∃ nm1 nx, fX4_advance t0 a0 nm0 0 fa (nI N) (nI i) c = some (advO B N (tF B N i) nm1 fa nx) ∧ (258 ≤ tK B N (tF B N i) → nm1 = nC (wj B (tF B N i) (tL B N (tF B N i)))) := by
  obtain ⟨fu, hfu, hg⟩ := fu_any
  have hN := h.1
  have stop : ∀ (f : Nat) (ta : Int32), f ≤ N → ∃ nm1 nx, fX4_advance_p60 (nI N) c t0 ta nm0 0 fa (nI f) = some (advO B N f nm1 fa nx) ∧ (258 ≤ tK B N f → nm1 = nC (wj B f (tL B N f))) := by
    intro f ta hf
    unfold fX4_advance_p60 fX4_advance_p152
    by_cases q : f < N
    · obtain ⟨hb, -, hcb⟩ := h.2 f q
      obtain ⟨-, -, f3, f4, -, -, f7⟩ := cB_f (B f) hb
      have hcb' : c f = cB (B f) := hcb
      have z1 : nI (B f) < 97 ↔ B f < 97 := nI_ltI (a := B f) (b := 97) (by omega) (by decide)
      have z2 : (122 : Int32) < nI (B f) ↔ 122 < B f := nI_ltI (a := 122) (b := B f) (by decide) (by omega)
      have hlt : (nI (B f) < 97 ∨ 122 < nI (B f)) ↔ ¬ isLt (B f) = true := by
        rw [z1, z2]
        unfold isLt
        simp only [Bool.and_eq_true, decide_eq_true_eq]
        omega
      rw [if_pos (nI_lt (a := f) (b := N) q (by omega)), bd_eq _ (inb_nI (j := f) (n := 600) (by omega) (by decide)), nm_q, nI_clamp (n := f) (by omega), hcb', nm_q, f3, c_isLt hlt, ob_s]
      by_cases w : isLt (B f) = true
      · simp only [if_pos w]
        obtain ⟨e1, e2⟩ := tK_word q w
        rw [if_neg n10]
        obtain ⟨r2, nm1, nx, r1⟩ := c_word h hf t0 fa (N - f) 0 fu 0 (by omega) (by omega) (fun b hb => by cases hb) (fun _ => rfl)
        have r1' : fX4_scanWord t0 (nI f) nm0 0 fa (nI N) (nI f) c = some (if tL B N f ≤ 8 then (nI (kwc (wj B f (tL B N f))), nC (wj B f (tL B N f)), 0, fa, nI (f + tL B N f)) else (257, nm1, 1, nI f, nx)) := by
          unfold fX4_scanWord
          rw [hfu]
          exact r1
        rw [r1', ob_s]
        have hr := kwc_rng (wj B f (tL B N f))
        by_cases a : tL B N f ≤ 8
        · rw [if_pos a] at e1
          simp only [if_pos a]
          refine ⟨nC (wj B f (tL B N f)), 0, ?_, fun _ => rfl⟩
          rw [advO_ok (by omega), e1, e2]
        · rw [if_neg a] at e1
          simp only [if_neg a]
          refine ⟨nm1, nx, ?_, fun z => by omega⟩
          rw [advO_bad e1]
      · simp only [if_neg w]
        obtain ⟨e1, e2⟩ := tK_mark q w
        obtain ⟨v, v1, v2⟩ := c_idx hb
        rw [if_pos trivial, nm_q, f7, v1, ob_s]
        by_cases a : isMk (B f) = true
        · rw [if_pos a] at e1
          rw [if_neg (fun z => v2.mp z a), nm_q, nI_1]
          refine ⟨nm0, 0, ?_, fun z => by omega⟩
          rw [advO_ok (by omega), e1, e2]
        · rw [if_neg a] at e1
          unfold fX4_fail fX4_fail_p17
          rw [if_pos (v2.mpr a), if_pos rfl, ob_s]
          refine ⟨nm0, nI f, ?_, fun z => by omega⟩
          rw [advO_bad e1]
    · obtain ⟨e1, e2⟩ := tK_out (B := B) q
      rw [if_neg (show ¬ nI f < nI N from nI_nlt (a := f) (b := N) (by omega) (by omega))]
      refine ⟨nm0, 0, ?_, fun z => by omega⟩
      rw [advO_ok (by omega), e1, e2]
      rfl
  have key : ∀ (k i n : Nat), i + k = N → k < n → ∃ nm1 nx, fX4_advance_l8 (nI N) c n t0 a0 nm0 0 fa (nI i) = some (advO B N (sk B k i) nm1 fa nx) ∧ (258 ≤ tK B N (sk B k i) → nm1 = nC (wj B (sk B k i) (tL B N (sk B k i)))) := by
    intro k
    induction k with
    | zero =>
      intro i n g1 g2
      obtain ⟨n, rfl⟩ : ∃ z, n = z + 1 := ⟨n - 1, by omega⟩
      show ∃ nm1 nx, fX4_advance_b8 (nI N) c _ t0 a0 nm0 0 fa (nI i) = some (advO B N i nm1 fa nx) ∧ _
      unfold fX4_advance_b8
      rw [if_pos (nI_le (a := N) (b := i) (by omega) (by omega))]
      exact stop i _ (by omega)
    | succ k ih =>
      intro i n g1 g2
      obtain ⟨n, rfl⟩ : ∃ z, n = z + 1 := ⟨n - 1, by omega⟩
      have es : sk B (k + 1) i = if B i = 32 ∨ B i = 10 then sk B k (i + 1) else i := rfl
      obtain ⟨hb, -, hcb⟩ := h.2 i (by omega)
      obtain ⟨f1, f2, -, -, -, -, -⟩ := cB_f (B i) hb
      have hcb' : c i = cB (B i) := hcb
      have bi := inb_nI (j := i) (n := 600) (by omega) (by decide)
      show ∃ nm1 nx, fX4_advance_b8 (nI N) c (fX4_advance_l8 (nI N) c n) t0 a0 nm0 0 fa (nI i) = _ ∧ _
      unfold fX4_advance_b8 fX4_advance_p47
      rw [if_neg (nI_ge (a := i) (b := N) (by omega) (by omega)), bd_eq _ bi, nm_q, nI_clamp (n := i) (by omega), hcb', es]
      by_cases w : B i = 32
      · rw [if_pos (f1.mpr w), nm_q, nI_1, if_pos (Or.inl w)]
        exact ih (i + 1) n (by omega) (by omega)
      · rw [if_neg (fun z => w (f1.mp z)), bd_eq _ bi, nm_q]
        by_cases w2 : B i = 10
        · rw [if_pos (f2.mpr w2), nm_q, nI_1, if_pos (Or.inr w2)]
          exact ih (i + 1) n (by omega) (by omega)
        · rw [if_neg (fun z => w2 (f2.mp z)), if_neg (fun z => z.elim w w2)]
          exact stop i _ (by omega)
  unfold fX4_advance tF
  rw [if_pos rfl, hfu]
  exact key (N - i) i fu (by omega) (by omega)
/-- where a fault is, nothing is read on -/
theorem c_advF (t0 a0 fl fa sz nx : Int32) (nm0 : Int64) (c : Nat → Int32) (h : ¬ fl = 0) : fX4_advance t0 a0 nm0 fl fa sz nx c = some (t0, a0, nm0, fl, fa, nx) := by
  unfold fX4_advance
  rw [if_neg h]
