/-! ===== pure rows 63: next of the reference, advance of the class ===== -/
theorem tK_out {B : Nat → Nat} {N f : Nat} (h : ¬ f < N) : tK B N f = 256 ∧ tE B N f = f := by unfold tK tE; rw [if_neg h, if_neg h]; exact ⟨rfl, rfl⟩
theorem tK_word {B : Nat → Nat} {N f : Nat} (h : f < N) (hl : isLt (B f) = true) : tK B N f = (if tL B N f ≤ 8 then kwc (wj B f (tL B N f)) else 257) ∧ tE B N f = f + tL B N f := by unfold tK tE; rw [if_pos h, if_pos h, if_pos hl, if_pos hl]; exact ⟨rfl, rfl⟩
theorem tK_mark {B : Nat → Nat} {N f : Nat} (h : f < N) (hl : ¬ isLt (B f) = true) : tK B N f = (if isMk (B f) = true then B f else 257) ∧ tE B N f = f + 1 := by unfold tK tE; rw [if_pos h, if_pos h, if_neg hl, if_neg hl]; exact ⟨rfl, rfl⟩
theorem r_next {B : Nat → Nat} {N : Nat} {c m : Nat → Int32} (h : txt B N c m) (t0 tk : Int32) (nm0 : Int64) {i : Nat} (hi : i ≤ N) :
    ∃ nm1, fX11_next (nI N) t0 (nI i) tk nm0 m = some (nI (tF B N i), nI (tE B N (tF B N i)), nI (kM (tK B N (tF B N i))), nm1) ∧ (258 ≤ tK B N (tF B N i) → okB (wj B (tF B N i) (tL B N (tF B N i))) ∧ tL B N (tF B N i) ≤ 8 ∧ nm1 = nM (wj B (tF B N i) (tL B N (tF B N i)))) := by
  obtain ⟨fu, hfu, hg⟩ := fu_any
  have hN := h.1
  have stop : ∀ (f : Nat) (t1 : Int32) (k8 : Int32 → Int32 → Int32 → Int64 → Option (Int32 × Int32 × Int32 × Int64)), f ≤ N → (f < N → ¬ (B f = 32 ∨ B f = 10)) → ∃ nm1, fX11_next_b8 (nI N) m k8 (nI f) t1 tk nm0 = some (nI f, nI (tE B N f), nI (kM (tK B N f)), nm1) ∧ (258 ≤ tK B N f → okB (wj B f (tL B N f)) ∧ tL B N f ≤ 8 ∧ nm1 = nM (wj B f (tL B N f))) := by
    intro f t1 k8 hf hs
    have eb := r_byteAt h hf
    unfold fX11_next_b8 fX11_next_p227 fX11_next_p214 fX11_next_p227
    by_cases q : f < N
    · rw [if_pos q] at eb
      have hb := (h.2 f q).1
      have z32 : nI (B f) = 32 ↔ B f = 32 := nI_eq (a := B f) (b := 32) (by omega) (by decide)
      have z10 : nI (B f) = 10 ↔ B f = 10 := nI_eq (a := B f) (b := 10) (by omega) (by decide)
      have hns := hs q
      rw [eb, ob_s, if_neg (fun z => hns (Or.inl (z32.mp z))), ob_s, if_neg (fun z => hns (Or.inr (z10.mp z))), ob_s, if_pos (nI_pos' (by omega)), r_inL hb, ob_s]
      by_cases w : isLt (B f) = true
      · simp only [if_pos w]
        obtain ⟨e1, e2⟩ := tK_word q w
        rw [if_neg n10, hfu]
        obtain ⟨nm1, r1, r2, r3⟩ := r_word h hf tk (N - f) 0 fu 0 (by omega) (by omega) (fun b hb => by cases hb) (fun _ => rfl)
        have r1' : fX11_next_l92 (nI N) m fu (nI f) (nI f) tk 0 = some (nI f, nI (f + tL B N f), nI (if tL B N f ≤ 8 then (if kwc (wj B f (tL B N f)) = 258 then 1 else 2) else 4), nm1) := r1
        have hr := kwc_rng (wj B f (tL B N f))
        have ek : (if tL B N f ≤ 8 then (if kwc (wj B f (tL B N f)) = 258 then 1 else 2) else 4) = kM (tK B N f) := by
          rw [e1]
          unfold kM
          by_cases a : tL B N f ≤ 8
          · rw [if_pos a, if_pos a]
            generalize kwc (wj B f (tL B N f)) = K at hr
            rw [if_neg (show ¬ K = 256 by omega), if_neg (show ¬ K = 257 by omega)]
            by_cases b : K = 258
            · rw [if_pos b, if_pos b]
            · rw [if_neg b, if_neg b, if_neg (show ¬ K < 256 by omega)]
          · rw [if_neg a, if_neg a, if_neg (by decide), if_pos rfl]
        rw [r1', ek, e2]
        refine ⟨nm1, rfl, fun z => ?_⟩
        have a : tL B N f ≤ 8 := by
          by_cases a : tL B N f ≤ 8
          · exact a
          · rw [e1, if_neg a] at z; omega
        exact ⟨r2, a, r3 a⟩
      · simp only [if_neg w]
        obtain ⟨e1, e2⟩ := tK_mark q w
        rw [if_pos trivial, r_isSign hb, ob_s]
        by_cases a : isMk (B f) = true
        · simp only [if_pos a]
          rw [if_pos a] at e1
          rw [if_neg n10, nm_q, nI_1, e1, e2]
          have ek : kM (B f) = 3 := by unfold kM; rw [if_neg (by omega), if_neg (by omega), if_neg (by omega), if_pos hb]
          rw [ek]
          exact ⟨nm0, rfl, fun z => by omega⟩
        · simp only [if_neg a]
          rw [if_neg a] at e1
          rw [if_pos trivial, nm_q, nI_1, e1, e2]
          exact ⟨nm0, rfl, fun z => by omega⟩
    · rw [if_neg q] at eb
      obtain ⟨e1, e2⟩ := tK_out (B := B) q
      rw [eb, ob_s, if_neg (by decide), ob_s, if_neg (by decide), ob_s, if_neg (by decide), e1, e2]
      exact ⟨nm0, rfl, fun z => by omega⟩
  have key : ∀ (k i n : Nat) (t1 : Int32), i + k = N → k < n → ∃ nm1, fX11_next_l8 (nI N) m n (nI i) t1 tk nm0 = some (nI (sk B k i), nI (tE B N (sk B k i)), nI (kM (tK B N (sk B k i))), nm1) ∧ (258 ≤ tK B N (sk B k i) → okB (wj B (sk B k i) (tL B N (sk B k i))) ∧ tL B N (sk B k i) ≤ 8 ∧ nm1 = nM (wj B (sk B k i) (tL B N (sk B k i)))) := by
    intro k
    induction k with
    | zero =>
      intro i n t1 g1 g2
      obtain ⟨n, rfl⟩ : ∃ z, n = z + 1 := ⟨n - 1, by omega⟩
      exact stop i t1 _ (by omega) (fun z => by omega)
    | succ k ih =>
      intro i n t1 g1 g2
      obtain ⟨n, rfl⟩ : ∃ z, n = z + 1 := ⟨n - 1, by omega⟩
      have es : sk B (k + 1) i = if B i = 32 ∨ B i = 10 then sk B k (i + 1) else i := rfl
      by_cases q : B i = 32 ∨ B i = 10
      · rw [es, if_pos q]
        have eb := r_byteAt h (i := i) (by omega)
        rw [if_pos (by omega)] at eb
        have hb := (h.2 i (by omega)).1
        show ∃ nm1, fX11_next_b8 (nI N) m (fX11_next_l8 (nI N) m n) (nI i) t1 tk nm0 = _ ∧ _
        unfold fX11_next_b8 fX11_next_p34
        have z32 : nI (B i) = 32 ↔ B i = 32 := nI_eq (a := B i) (b := 32) (by omega) (by decide)
        have z10 : nI (B i) = 10 ↔ B i = 10 := nI_eq (a := B i) (b := 10) (by omega) (by decide)
        by_cases w : B i = 32
        · rw [eb, ob_s, if_pos (z32.mpr w), nm_q, nI_1]
          exact ih (i + 1) n t1 (by omega) (by omega)
        · have w2 : B i = 10 := q.elim (fun z => absurd z w) id
          rw [eb, ob_s, if_neg (fun z => w (z32.mp z)), ob_s, if_pos (z10.mpr w2), nm_q, nI_1]
          exact ih (i + 1) n t1 (by omega) (by omega)
      · rw [es, if_neg q]
        exact stop i t1 _ (by omega) (fun _ => q)
  unfold fX11_next tF
  rw [hfu]
  exact key (N - i) i fu (nI i) (by omega) (by omega)
