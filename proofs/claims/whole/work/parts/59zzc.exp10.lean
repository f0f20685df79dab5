/-! ===== pure rows 76: the code of an expression can be reckoned ===== -/
/-- a code that puts one value on the stack -/
def cv (L : List Nat) : Prop := (∀ M n, vd M (n + 1) → vd (L ++ M) n) ∧ ∀ st S, ∃ v, v < 4 ∧ evL st L S = v :: S
theorem cv_op {v : Nat} (h3 : ¬ v = 3) (h45 : ¬ (v = 4 ∨ v = 5)) (hr : v < 3 ∨ (16 ≤ v ∧ v < 19) ∨ (24 ≤ v ∧ v < 26)) : cv [v] := by
  refine ⟨fun M n h => ?_, fun st S => ?_⟩
  · show if v = 3 then 1 ≤ n ∧ vd M n else if v = 4 ∨ v = 5 then 2 ≤ n ∧ vd M (n - 1) else (v < 3 ∨ (16 ≤ v ∧ v < 19) ∨ (24 ≤ v ∧ v < 26)) ∧ vd M (n + 1)
    rw [if_neg h3, if_neg h45]
    exact ⟨hr, h⟩
  · have h4 : ¬ v = 4 := fun z => h45 (Or.inl z)
    have h5 : ¬ v = 5 := fun z => h45 (Or.inr z)
    have e : evL st [v] S = evI st v S := rfl
    rw [e]
    unfold evI
    rw [if_neg h3, if_neg h4, if_neg h5]
    refine ⟨_, ?_, rfl⟩
    have b21 : ∀ c : Bool, (if c = true then 2 else 1) < 4 := by decide
    by_cases a0 : v = 0
    · rw [if_pos a0]; decide
    · rw [if_neg a0]
      by_cases a1 : v = 1
      · rw [if_pos a1]; decide
      · rw [if_neg a1]
        by_cases a2 : v = 2
        · rw [if_pos a2]; decide
        · rw [if_neg a2]
          by_cases a24 : v < 24
          · rw [if_pos a24]; exact b21 _
          · rw [if_neg a24]; exact b21 _
theorem cv_not {L : List Nat} (h : cv L) : cv (L ++ [3]) := by
  refine ⟨fun M n hM => ?_, fun st S => ?_⟩
  · rw [List.append_assoc]
    apply h.1
    show 1 ≤ n + 1 ∧ vd M (n + 1)
    exact ⟨by omega, hM⟩
  · obtain ⟨v, v1, v2⟩ := h.2 st S
    rw [evL_app, v2]
    refine ⟨v % 2 * 2 + v / 2, by omega, rfl⟩
theorem cv_two {L M : List Nat} {k : Nat} (hk : k = 4 ∨ k = 5) (h : cv L) (hM : cv M) : cv (L ++ M ++ [k]) := by
  refine ⟨fun R n hR => ?_, fun st S => ?_⟩
  · rw [List.append_assoc, List.append_assoc]
    apply h.1
    apply hM.1
    show if k = 3 then 1 ≤ n + 1 + 1 ∧ vd R (n + 1 + 1) else if k = 4 ∨ k = 5 then 2 ≤ n + 1 + 1 ∧ vd R (n + 1 + 1 - 1) else (k < 3 ∨ (16 ≤ k ∧ k < 19) ∨ (24 ≤ k ∧ k < 26)) ∧ vd R (n + 1 + 1 + 1)
    rw [if_neg (by omega), if_pos hk]
    exact ⟨by omega, hR⟩
  · obtain ⟨v, v1, v2⟩ := h.2 st S
    obtain ⟨w, w1, w2⟩ := hM.2 st (v :: S)
    rw [evL_app, evL_app, v2, w2]
    rcases hk with z | z
    · subst z
      exact ⟨(v ||| w) % 2 + (v / 2 &&& w / 2) * 2, (ev_4 v v1 w w1).2, rfl⟩
    · subst z
      exact ⟨(v ||| w) / 2 * 2 + (v &&& w) % 2, (ev_5 v v1 w w1).2, rfl⟩
theorem px_cv {K X V : Nat → Nat} (hV : ∀ f, ¬ V f = 99 → (16 ≤ V f ∧ V f < 19) ∨ (24 ≤ V f ∧ V f < 26)) : ∀ n md d L f q, (md = 2 ∨ md = 4 → cv L) → md ≤ 4 → px K X V n md d L f = .ok q → cv q.1 := by
  intro n
  induction n with
  | zero => intro md d L f q _ _ h; cases h
  | succ n ih =>
    intro md d L f q hL hm h
    have hc : md = 0 ∨ md = 1 ∨ md = 2 ∨ md = 3 ∨ md = 4 := by omega
    rcases hc with c | c | c | c | c
    · subst c
      rw [px_0] at h
      by_cases c48 : K f = 48
      · rw [if_pos c48] at h; cases h; exact cv_op (by decide) (by decide) (Or.inl (by decide))
      · rw [if_neg c48] at h
        by_cases c49 : K f = 49
        · rw [if_pos c49] at h; cases h; exact cv_op (by decide) (by decide) (Or.inl (by decide))
        · rw [if_neg c49] at h
          by_cases c42 : K f = 42
          · rw [if_pos c42] at h; cases h; exact cv_op (by decide) (by decide) (Or.inl (by decide))
          · rw [if_neg c42] at h
            by_cases c258 : K f = 258
            · rw [if_pos c258] at h
              by_cases hv : V f = 99
              · rw [if_pos hv] at h; cases h
              · rw [if_neg hv] at h; cases h
                have := hV f hv
                exact cv_op (by omega) (by omega) (Or.inr this)
            · rw [if_neg c258] at h
              by_cases c33 : K f = 33
              · rw [if_pos c33] at h
                by_cases hd : 10 ≤ d
                · rw [if_pos hd] at h; cases h
                · rw [if_neg hd] at h
                  cases hp : px K X V n 0 (d + 1) [] (X f) with
                  | error e => rw [hp] at h; cases h
                  | ok r =>
                    rw [hp] at h; cases h
                    exact cv_not (ih 0 (d + 1) [] (X f) r (fun z => by omega) (by decide) hp)
              · rw [if_neg c33] at h
                by_cases c40 : K f = 40
                · rw [if_pos c40] at h
                  by_cases hd : 10 ≤ d
                  · rw [if_pos hd] at h; cases h
                  · rw [if_neg hd] at h
                    cases hp : px K X V n 3 (d + 1) [] (X f) with
                    | error e => rw [hp] at h; cases h
                    | ok r =>
                      rw [hp] at h
                      have h' : (if K r.2 = 41 then (.ok (r.1, X r.2) : PX) else .error (bdK (K r.2), r.2)) = .ok q := h
                      by_cases c41 : K r.2 = 41
                      · rw [if_pos c41] at h'; cases h'
                        exact ih 3 (d + 1) [] (X f) r (fun z => by omega) (by decide) hp
                      · rw [if_neg c41] at h'; cases h'
                · rw [if_neg c40] at h; cases h
    · subst c
      rw [px_1] at h
      cases hp : px K X V n 0 d [] f with
      | error e => rw [hp] at h; cases h
      | ok r =>
        rw [hp] at h
        exact ih 2 d r.1 r.2 q (fun _ => ih 0 d [] f r (fun z => by omega) (by decide) hp) (by decide) h
    · subst c
      rw [px_2] at h
      by_cases c38 : K f = 38
      · rw [if_pos c38] at h
        cases hp : px K X V n 0 d [] (X f) with
        | error e => rw [hp] at h; cases h
        | ok r =>
          rw [hp] at h
          exact ih 2 d (L ++ r.1 ++ [4]) r.2 q (fun _ => cv_two (Or.inl rfl) (hL (Or.inl rfl)) (ih 0 d [] (X f) r (fun z => by omega) (by decide) hp)) (by decide) h
      · rw [if_neg c38] at h; cases h; exact hL (Or.inl rfl)
    · subst c
      rw [px_3] at h
      cases hp : px K X V n 1 d [] f with
      | error e => rw [hp] at h; cases h
      | ok r =>
        rw [hp] at h
        exact ih 4 d r.1 r.2 q (fun _ => ih 1 d [] f r (fun z => by omega) (by decide) hp) (by decide) h
    · subst c
      rw [px_4] at h
      by_cases c124 : K f = 124
      · rw [if_pos c124] at h
        cases hp : px K X V n 1 d [] (X f) with
        | error e => rw [hp] at h; cases h
        | ok r =>
          rw [hp] at h
          exact ih 4 d (L ++ r.1 ++ [5]) r.2 q (fun _ => cv_two (Or.inr rfl) (hL (Or.inr rfl)) (ih 1 d [] (X f) r (fun z => by omega) (by decide) hp)) (by decide) h
      · rw [if_neg c124] at h; cases h; exact hL (Or.inr rfl)
