/-! ===== pure rows 72: the machine ends, and its end does not hang on the rounds ===== -/
def isFin (r : PX) : Prop := match r with
  | .error e => ¬ e.1 = 9
  | .ok _ => True
theorem run_more {K X V : Nat → Nat} : ∀ (n : Nat) (op : Bool) (f : Nat) (S L : List Nat) (d : Nat), isFin (run K X V n op f S L d) → run K X V (n + 1) op f S L d = run K X V n op f S L d := by
  intro n
  induction n with
  | zero => intro op f S L d h; exact absurd rfl h
  | succ n ih =>
    intro op f S L d h
    cases op with
    | true =>
      rw [run_t] at h
      have e1 := run_t (K := K) (X := X) (V := V) (m := n + 1) (f := f) (S := S) (L := L) (d := d)
      have e2 := run_t (K := K) (X := X) (V := V) (m := n) (f := f) (S := S) (L := L) (d := d)
      rw [e1, e2]
      by_cases c1 : K f = 40 ∨ K f = 33
      · rw [if_pos c1] at h ⊢
        rw [if_pos c1]
        by_cases c2 : d = 10
        · rw [if_pos c2, if_pos c2]
        · rw [if_neg c2] at h ⊢
          rw [if_neg c2]
          exact ih _ _ _ _ _ h
      · rw [if_neg c1] at h ⊢
        rw [if_neg c1]
        by_cases c3 : K f = 48
        · rw [if_pos c3] at h ⊢
          rw [if_pos c3]
          exact ih _ _ _ _ _ h
        · rw [if_neg c3] at h ⊢
          rw [if_neg c3]
          by_cases c4 : K f = 49
          · rw [if_pos c4] at h ⊢
            rw [if_pos c4]
            exact ih _ _ _ _ _ h
          · rw [if_neg c4] at h ⊢
            rw [if_neg c4]
            by_cases c5 : K f = 42
            · rw [if_pos c5] at h ⊢
              rw [if_pos c5]
              exact ih _ _ _ _ _ h
            · rw [if_neg c5] at h ⊢
              rw [if_neg c5]
              by_cases c6 : K f = 258
              · rw [if_pos c6] at h ⊢
                rw [if_pos c6]
                by_cases c7 : V f = 99
                · rw [if_pos c7, if_pos c7]
                · rw [if_neg c7] at h ⊢
                  rw [if_neg c7]
                  exact ih _ _ _ _ _ h
              · rw [if_neg c6, if_neg c6]
    | false =>
      rw [run_f] at h
      have e1 := run_f (K := K) (X := X) (V := V) (m := n + 1) (f := f) (S := S) (L := L) (d := d)
      have e2 := run_f (K := K) (X := X) (V := V) (m := n) (f := f) (S := S) (L := L) (d := d)
      rw [e1, e2]
      by_cases c1 : K f = 38
      · rw [if_pos c1] at h ⊢
        rw [if_pos c1]
        exact ih _ _ _ _ _ h
      · rw [if_neg c1] at h ⊢
        rw [if_neg c1]
        by_cases c2 : K f = 124
        · rw [if_pos c2] at h ⊢
          rw [if_pos c2]
          exact ih _ _ _ _ _ h
        · rw [if_neg c2] at h ⊢
          rw [if_neg c2]
          cases hs : redS true S with
          | nil => rfl
          | cons a t =>
            rw [hs] at h
            have h' : isFin (if K f = 41 then run K X V n false (X f) (noBang t) (L ++ redC true S ++ List.replicate (bangs t) 3) (d - 1 - bangs t) else .error (bdK (K f), f)) := h
            show (if K f = 41 then run K X V (n + 1) false (X f) (noBang t) (L ++ redC true S ++ List.replicate (bangs t) 3) (d - 1 - bangs t) else .error (bdK (K f), f)) = if K f = 41 then run K X V n false (X f) (noBang t) (L ++ redC true S ++ List.replicate (bangs t) 3) (d - 1 - bangs t) else .error (bdK (K f), f)
            by_cases c3 : K f = 41
            · rw [if_pos c3] at h'
              rw [if_pos c3, if_pos c3]
              exact ih _ _ _ _ _ h'
            · rw [if_neg c3, if_neg c3]
theorem run_any {K X V : Nat → Nat} {n : Nat} {op : Bool} {f : Nat} {S L : List Nat} {d : Nat} (h : isFin (run K X V n op f S L d)) : ∀ k, run K X V (n + k) op f S L d = run K X V n op f S L d := by
  intro k
  induction k with
  | zero => rfl
  | succ k ih =>
    show run K X V (n + k + 1) op f S L d = _
    rw [run_more (n + k) op f S L d (by rw [ih]; exact h), ih]
theorem run_end {K X V : Nat → Nat} {N : Nat} (h : adv K X N) : ∀ (n : Nat) (op : Bool) (f : Nat) (S L : List Nat) (d : Nat), f ≤ N → N - f < n → isFin (run K X V n op f S L d) := by
  intro n
  induction n with
  | zero => intro op f S L d _ h2; omega
  | succ n ih =>
    intro op f S L d hf hn
    have go : ∀ (op : Bool) (S L : List Nat) (d : Nat), ¬ K f = 256 → isFin (run K X V n op (X f) S L d) := fun op S L d hk => ih op (X f) S L d (h f hf hk).2 (by have := h f hf hk; omega)
    cases op with
    | true =>
      rw [run_t]
      by_cases c1 : K f = 40 ∨ K f = 33
      · rw [if_pos c1]
        by_cases c2 : d = 10
        · rw [if_pos c2]; exact (by decide : ¬ 3 = 9)
        · rw [if_neg c2]; exact go _ _ _ _ (by omega)
      · rw [if_neg c1]
        by_cases c3 : K f = 48
        · rw [if_pos c3]; exact go _ _ _ _ (by omega)
        · rw [if_neg c3]
          by_cases c4 : K f = 49
          · rw [if_pos c4]; exact go _ _ _ _ (by omega)
          · rw [if_neg c4]
            by_cases c5 : K f = 42
            · rw [if_pos c5]; exact go _ _ _ _ (by omega)
            · rw [if_neg c5]
              by_cases c6 : K f = 258
              · rw [if_pos c6]
                by_cases c7 : V f = 99
                · rw [if_pos c7]; exact (by decide : ¬ 3 = 9)
                · rw [if_neg c7]; exact go _ _ _ _ (by omega)
              · rw [if_neg c6]; exact bdK_9 _
    | false =>
      rw [run_f]
      by_cases c1 : K f = 38
      · rw [if_pos c1]; exact go _ _ _ _ (by omega)
      · rw [if_neg c1]
        by_cases c2 : K f = 124
        · rw [if_pos c2]; exact go _ _ _ _ (by omega)
        · rw [if_neg c2]
          cases hs : redS true S with
          | nil =>
            show isFin (if K f = 257 then .error (1, f) else .ok (L ++ redC true S, f))
            by_cases c3 : K f = 257
            · rw [if_pos c3]; exact (by decide : ¬ 1 = 9)
            · rw [if_neg c3]; exact trivial
          | cons a t =>
            show isFin (if K f = 41 then run K X V n false (X f) (noBang t) (L ++ redC true S ++ List.replicate (bangs t) 3) (d - 1 - bangs t) else .error (bdK (K f), f))
            by_cases c3 : K f = 41
            · rw [if_pos c3]; exact go _ _ _ _ (by omega)
            · rw [if_neg c3]; exact bdK_9 _
/-- a whole expression: the machine ends as the descent does -/
theorem run_px {K X V : Nat → Nat} {N : Nat} (h : adv K X N) {f n n2 : Nat} (hf : f ≤ N) (hn : needX N 3 f ≤ n) (hn2 : N - f < n2) : run K X V n2 true f [] [] 0 = match px K X V n 3 0 [] f with
    | .error e => .error e
    | .ok q => if K q.2 = 257 then .error (1, q.2) else .ok q := by
  have e0 := px_end (V := V) h n 3 0 [] f hf (by decide) hn
  have s0 := (sim (K := K) (X := X) (V := V) n).2.2.2.1 0 f (by decide) [] [] rfl rfl rfl
  have fin := run_end (V := V) h n2 true f [] [] 0 hf hn2
  cases hp : px K X V n 3 0 [] f with
  | error e =>
    rw [hp] at e0 s0
    obtain ⟨k, hk⟩ := s0 e0.1
    have a := run_any fin k
    rw [← a]
    exact hk n2
  | ok q =>
    rw [hp] at s0
    obtain ⟨n38, n124, k, S2, L2, s1, s2, hk⟩ := s0
    have a := run_any fin (1 + k)
    rw [← Nat.add_assoc] at a
    rw [← a, hk (n2 + 1), run_f, if_neg n38, if_neg n124, s1]
    show (if K q.2 = 257 then (.error (1, q.2) : PX) else .ok (L2 ++ redC true S2, q.2)) = if K q.2 = 257 then (.error (1, q.2) : PX) else .ok q
    rw [s2]
    rfl
