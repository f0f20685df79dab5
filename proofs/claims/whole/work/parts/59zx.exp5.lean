/-! ===== pure rows 71: enough rounds for both ===== -/
def adv (K X : Nat → Nat) (N : Nat) : Prop := ∀ f, f ≤ N → ¬ K f = 256 → f < X f ∧ X f ≤ N
theorem bdK_9 (k : Nat) : ¬ bdK k = 9 := by
  unfold bdK
  by_cases h : k = 257
  · rw [if_pos h]; decide
  · rw [if_neg h]; decide
def needX (N md f : Nat) : Nat := 4 * (N - f) + (if md = 0 then 1 else if md = 1 then 2 else if md = 3 then 3 else 1)
def endX (N md f : Nat) (r : PX) : Prop := match r with
  | .error e => ¬ e.1 = 9 ∧ e.2 ≤ N
  | .ok q => q.2 ≤ N ∧ f ≤ q.2 ∧ (md = 0 ∨ md = 1 ∨ md = 3 → f < q.2)
theorem px_end {K X V : Nat → Nat} {N : Nat} (h : adv K X N) : ∀ n md d L f, f ≤ N → md ≤ 4 → needX N md f ≤ n → endX N md f (px K X V n md d L f) := by
  intro n
  induction n with
  | zero =>
    intro md d L f hf hm hn
    exfalso
    unfold needX at hn
    by_cases h0 : md = 0
    · rw [if_pos h0] at hn; omega
    · rw [if_neg h0] at hn
      by_cases h1 : md = 1
      · rw [if_pos h1] at hn; omega
      · rw [if_neg h1] at hn
        by_cases h3 : md = 3
        · rw [if_pos h3] at hn; omega
        · rw [if_neg h3] at hn; omega
  | succ n ih =>
    intro md d L f hf hm hn
    have n0 : ∀ f, needX N 0 f = 4 * (N - f) + 1 := fun f => rfl
    have n1 : ∀ f, needX N 1 f = 4 * (N - f) + 2 := fun f => rfl
    have n2 : ∀ f, needX N 2 f = 4 * (N - f) + 1 := fun f => rfl
    have n3 : ∀ f, needX N 3 f = 4 * (N - f) + 3 := fun f => rfl
    have n4 : ∀ f, needX N 4 f = 4 * (N - f) + 1 := fun f => rfl
    have hc : md = 0 ∨ md = 1 ∨ md = 2 ∨ md = 3 ∨ md = 4 := by omega
    rcases hc with c | c | c | c | c
    · subst c
      rw [n0] at hn
      rw [px_0]
      have one : ∀ M : List Nat, ¬ K f = 256 → endX N 0 f (.ok (M, X f)) := fun M hk => ⟨(h f hf hk).2, Nat.le_of_lt (h f hf hk).1, fun _ => (h f hf hk).1⟩
      by_cases c48 : K f = 48
      · rw [if_pos c48]; exact one _ (by omega)
      · rw [if_neg c48]
        by_cases c49 : K f = 49
        · rw [if_pos c49]; exact one _ (by omega)
        · rw [if_neg c49]
          by_cases c42 : K f = 42
          · rw [if_pos c42]; exact one _ (by omega)
          · rw [if_neg c42]
            by_cases c258 : K f = 258
            · rw [if_pos c258]
              by_cases hv : V f = 99
              · rw [if_pos hv]; exact ⟨(by decide : ¬ 3 = 9), hf⟩
              · rw [if_neg hv]; exact one _ (by omega)
            · rw [if_neg c258]
              by_cases c33 : K f = 33
              · rw [if_pos c33]
                obtain ⟨x1, x2⟩ := h f hf (by omega)
                by_cases hd : 10 ≤ d
                · rw [if_pos hd]; exact ⟨(by decide : ¬ 3 = 9), hf⟩
                · rw [if_neg hd]
                  have i0 := ih 0 (d + 1) [] (X f) x2 (by decide) (by rw [n0]; omega)
                  cases hp : px K X V n 0 (d + 1) [] (X f) with
                  | error e => rw [hp] at i0; exact i0
                  | ok q =>
                    rw [hp] at i0
                    obtain ⟨a, b, c⟩ := i0
                    exact ⟨a, by show f ≤ q.2; omega, fun _ => by show f < q.2; omega⟩
              · rw [if_neg c33]
                by_cases c40 : K f = 40
                · rw [if_pos c40]
                  obtain ⟨x1, x2⟩ := h f hf (by omega)
                  by_cases hd : 10 ≤ d
                  · rw [if_pos hd]; exact ⟨(by decide : ¬ 3 = 9), hf⟩
                  · rw [if_neg hd]
                    have i0 := ih 3 (d + 1) [] (X f) x2 (by decide) (by rw [n3]; omega)
                    cases hp : px K X V n 3 (d + 1) [] (X f) with
                    | error e => rw [hp] at i0; exact i0
                    | ok q =>
                      rw [hp] at i0
                      obtain ⟨a, b, c⟩ := i0
                      show endX N 0 f (if K q.2 = 41 then .ok (q.1, X q.2) else .error (bdK (K q.2), q.2))
                      by_cases c41 : K q.2 = 41
                      · rw [if_pos c41]
                        obtain ⟨y1, y2⟩ := h q.2 a (by omega)
                        exact ⟨y2, by show f ≤ X q.2; omega, fun _ => by show f < X q.2; omega⟩
                      · rw [if_neg c41]; exact ⟨bdK_9 _, a⟩
                · rw [if_neg c40]; exact ⟨bdK_9 _, hf⟩
    · subst c
      rw [n1] at hn
      rw [px_1]
      have i0 := ih 0 d [] f hf (by decide) (by rw [n0]; omega)
      cases hp : px K X V n 0 d [] f with
      | error e => rw [hp] at i0; exact i0
      | ok q =>
        rw [hp] at i0
        obtain ⟨a, b, c⟩ := i0
        have c' := c (Or.inl rfl)
        have i1 := ih 2 d q.1 q.2 a (by decide) (by rw [n2]; omega)
        show endX N 1 f (px K X V n 2 d q.1 q.2)
        cases hp2 : px K X V n 2 d q.1 q.2 with
        | error e => rw [hp2] at i1; exact i1
        | ok q2 =>
          rw [hp2] at i1
          obtain ⟨a1, b1, -⟩ := i1
          exact ⟨a1, by omega, fun _ => by omega⟩
    · subst c
      rw [n2] at hn
      rw [px_2]
      by_cases c38 : K f = 38
      · rw [if_pos c38]
        obtain ⟨x1, x2⟩ := h f hf (by omega)
        have i0 := ih 0 d [] (X f) x2 (by decide) (by rw [n0]; omega)
        cases hp : px K X V n 0 d [] (X f) with
        | error e => rw [hp] at i0; exact i0
        | ok q =>
          rw [hp] at i0
          obtain ⟨a, b, c⟩ := i0
          have c' := c (Or.inl rfl)
          have i1 := ih 2 d (L ++ q.1 ++ [4]) q.2 a (by decide) (by rw [n2]; omega)
          show endX N 2 f (px K X V n 2 d (L ++ q.1 ++ [4]) q.2)
          cases hp2 : px K X V n 2 d (L ++ q.1 ++ [4]) q.2 with
          | error e => rw [hp2] at i1; exact i1
          | ok q2 =>
            rw [hp2] at i1
            obtain ⟨a1, b1, -⟩ := i1
            exact ⟨a1, by omega, fun z => by omega⟩
      · rw [if_neg c38]; exact ⟨hf, Nat.le_refl _, fun z => by omega⟩
    · subst c
      rw [n3] at hn
      rw [px_3]
      have i0 := ih 1 d [] f hf (by decide) (by rw [n1]; omega)
      cases hp : px K X V n 1 d [] f with
      | error e => rw [hp] at i0; exact i0
      | ok q =>
        rw [hp] at i0
        obtain ⟨a, b, c⟩ := i0
        have c' := c (Or.inr (Or.inl rfl))
        have i1 := ih 4 d q.1 q.2 a (by decide) (by rw [n4]; omega)
        show endX N 3 f (px K X V n 4 d q.1 q.2)
        cases hp2 : px K X V n 4 d q.1 q.2 with
        | error e => rw [hp2] at i1; exact i1
        | ok q2 =>
          rw [hp2] at i1
          obtain ⟨a1, b1, -⟩ := i1
          exact ⟨a1, by omega, fun _ => by omega⟩
    · subst c
      rw [n4] at hn
      rw [px_4]
      by_cases c124 : K f = 124
      · rw [if_pos c124]
        obtain ⟨x1, x2⟩ := h f hf (by omega)
        have i0 := ih 1 d [] (X f) x2 (by decide) (by rw [n1]; omega)
        cases hp : px K X V n 1 d [] (X f) with
        | error e => rw [hp] at i0; exact i0
        | ok q =>
          rw [hp] at i0
          obtain ⟨a, b, c⟩ := i0
          have c' := c (Or.inr (Or.inl rfl))
          have i1 := ih 4 d (L ++ q.1 ++ [5]) q.2 a (by decide) (by rw [n4]; omega)
          show endX N 4 f (px K X V n 4 d (L ++ q.1 ++ [5]) q.2)
          cases hp2 : px K X V n 4 d (L ++ q.1 ++ [5]) q.2 with
          | error e => rw [hp2] at i1; exact i1
          | ok q2 =>
            rw [hp2] at i1
            obtain ⟨a1, b1, -⟩ := i1
            exact ⟨a1, by omega, fun z => by omega⟩
      · rw [if_neg c124]; exact ⟨hf, Nat.le_refl _, fun z => by omega⟩
