/-! ===== pure rows 70: expressions: the descent and the machine with waiting operators ===== -/
abbrev PX : Type := Except (Nat × Nat) (List Nat × Nat)
def bdK (k : Nat) : Nat := if k = 257 then 1 else 2
/-- modes: 0 a factor, 1 a term, 2 the rest of a term, 3 an expression, 4 the rest of an expression -/
def px (K X V : Nat → Nat) : Nat → Nat → Nat → List Nat → Nat → PX
  | 0 => fun _ _ _ _ => .error (9, 9)
  | n + 1 => fun md d L f =>
    if md = 0 then
      (if K f = 48 then .ok ([0], X f) else if K f = 49 then .ok ([1], X f) else if K f = 42 then .ok ([2], X f)
       else if K f = 258 then (if V f = 99 then .error (3, f) else .ok ([V f], X f))
       else if K f = 33 then (if 10 ≤ d then .error (3, f) else match px K X V n 0 (d + 1) [] (X f) with
         | .error e => .error e
         | .ok r => .ok (r.1 ++ [3], r.2))
       else if K f = 40 then (if 10 ≤ d then .error (3, f) else match px K X V n 3 (d + 1) [] (X f) with
         | .error e => .error e
         | .ok r => if K r.2 = 41 then .ok (r.1, X r.2) else .error (bdK (K r.2), r.2))
       else .error (bdK (K f), f))
    else if md = 1 then (match px K X V n 0 d [] f with
      | .error e => .error e
      | .ok r => px K X V n 2 d r.1 r.2)
    else if md = 2 then (if K f = 38 then (match px K X V n 0 d [] (X f) with
      | .error e => .error e
      | .ok r => px K X V n 2 d (L ++ r.1 ++ [4]) r.2) else .ok (L, f))
    else if md = 3 then (match px K X V n 1 d [] f with
      | .error e => .error e
      | .ok r => px K X V n 4 d r.1 r.2)
    else (if K f = 124 then (match px K X V n 1 d [] (X f) with
      | .error e => .error e
      | .ok r => px K X V n 4 d (L ++ r.1 ++ [5]) r.2) else .ok (L, f))
/-- the machine: operand wanted, token, waiting operators, code, depth -/
def run (K X V : Nat → Nat) : Nat → Bool → Nat → List Nat → List Nat → Nat → PX
  | 0 => fun _ _ _ _ _ => .error (9, 9)
  | n + 1 => fun op f S L d =>
    if op = true then
      (if K f = 40 ∨ K f = 33 then (if d = 10 then .error (3, f) else run K X V n true (X f) (K f :: S) L (d + 1))
       else if K f = 48 then run K X V n false (X f) (noBang S) (L ++ [0] ++ List.replicate (bangs S) 3) (d - bangs S)
       else if K f = 49 then run K X V n false (X f) (noBang S) (L ++ [1] ++ List.replicate (bangs S) 3) (d - bangs S)
       else if K f = 42 then run K X V n false (X f) (noBang S) (L ++ [2] ++ List.replicate (bangs S) 3) (d - bangs S)
       else if K f = 258 then (if V f = 99 then .error (3, f) else run K X V n false (X f) (noBang S) (L ++ [V f] ++ List.replicate (bangs S) 3) (d - bangs S))
       else .error (bdK (K f), f))
    else if K f = 38 then run K X V n true (X f) (38 :: redS false S) (L ++ redC false S) d
    else if K f = 124 then run K X V n true (X f) (124 :: redS true S) (L ++ redC true S) d
    else (match redS true S with
      | [] => if K f = 257 then .error (1, f) else .ok (L ++ redC true S, f)
      | _ :: t => if K f = 41 then run K X V n false (X f) (noBang t) (L ++ redC true S ++ List.replicate (bangs t) 3) (d - 1 - bangs t) else .error (bdK (K f), f))
theorem red_two : ∀ S : List Nat, redS true S = redS true (redS false S) ∧ redC true S = redC false S ++ redC true (redS false S) := by
  intro S
  induction S with
  | nil => exact ⟨rfl, rfl⟩
  | cons a t ih =>
    have e1 : redS false (a :: t) = if a = 38 ∨ (false = true ∧ a = 124) then redS false t else a :: t := rfl
    have e2 : redC false (a :: t) = if a = 38 ∨ (false = true ∧ a = 124) then (if a = 38 then 4 else 5) :: redC false t else [] := rfl
    by_cases h : a = 38
    · have e3 : redS true (a :: t) = redS true t := by show (if a = 38 ∨ (true = true ∧ a = 124) then redS true t else a :: t) = _; rw [if_pos (Or.inl h)]
      have e4 : redC true (a :: t) = 4 :: redC true t := by show (if a = 38 ∨ (true = true ∧ a = 124) then (if a = 38 then 4 else 5) :: redC true t else []) = _; rw [if_pos (Or.inl h), if_pos h]
      rw [e1, e2, if_pos (Or.inl h), if_pos (Or.inl h), if_pos h, e3, e4, ih.1, ih.2]
      exact ⟨rfl, rfl⟩
    · have hn : ¬ (a = 38 ∨ (false = true ∧ a = 124)) := fun z => z.elim h (fun y => by cases y.1)
      rw [e1, e2, if_neg hn, if_neg hn]
      exact ⟨rfl, rfl⟩
theorem red_id {ors : Bool} {S : List Nat} (h : redS ors S = S) : redC ors S = [] := by
  have e := red_len ors S
  rw [h] at e
  exact List.eq_nil_of_length_eq_zero (by omega)
theorem bang_push {a : Nat} {S : List Nat} (h : ¬ a = 33) : bangs (a :: S) = 0 ∧ noBang (a :: S) = a :: S := by
  constructor
  · show (if a = 33 then bangs S + 1 else 0) = 0; rw [if_neg h]
  · show (if a = 33 then noBang S else a :: S) = a :: S; rw [if_neg h]
/-- what the machine does while the descent reads -/
def simF (K X V : Nat → Nat) (r : PX) (d f : Nat) : Prop :=
  d ≤ 10 → ∀ (S L : List Nat), bangs S ≤ d → match r with
    | .error e => ¬ e.1 = 9 → ∃ k, ∀ m, run K X V (m + k) true f S L d = .error e
    | .ok q => ∃ k, ∀ m, run K X V (m + k) true f S L d = run K X V m false q.2 (noBang S) (L ++ q.1 ++ List.replicate (bangs S) 3) (d - bangs S)
def simT (K X V : Nat → Nat) (r : PX) (d f : Nat) : Prop :=
  d ≤ 10 → ∀ (S L : List Nat), bangs S = 0 → noBang S = S → redS false S = S → match r with
    | .error e => ¬ e.1 = 9 → ∃ k, ∀ m, run K X V (m + k) true f S L d = .error e
    | .ok q => ¬ K q.2 = 38 ∧ ∃ k S2 L2, redS false S2 = S ∧ L2 ++ redC false S2 = L ++ q.1 ∧ ∀ m, run K X V (m + k) true f S L d = run K X V m false q.2 S2 L2 d
def simTr (K X V : Nat → Nat) (r : PX) (d : Nat) (M : List Nat) (f : Nat) : Prop :=
  d ≤ 10 → ∀ (S S2 L L2 : List Nat), bangs S = 0 → redS false S = S → redS false S2 = S → L2 ++ redC false S2 = L ++ M → match r with
    | .error e => ¬ e.1 = 9 → ∃ k, ∀ m, run K X V (m + k) false f S2 L2 d = .error e
    | .ok q => ¬ K q.2 = 38 ∧ ∃ k S3 L3, redS false S3 = S ∧ L3 ++ redC false S3 = L ++ q.1 ∧ ∀ m, run K X V (m + k) false f S2 L2 d = run K X V m false q.2 S3 L3 d
def simE (K X V : Nat → Nat) (r : PX) (d f : Nat) : Prop :=
  d ≤ 10 → ∀ (S L : List Nat), bangs S = 0 → noBang S = S → redS true S = S → match r with
    | .error e => ¬ e.1 = 9 → ∃ k, ∀ m, run K X V (m + k) true f S L d = .error e
    | .ok q => ¬ K q.2 = 38 ∧ ¬ K q.2 = 124 ∧ ∃ k S2 L2, redS true S2 = S ∧ L2 ++ redC true S2 = L ++ q.1 ∧ ∀ m, run K X V (m + k) true f S L d = run K X V m false q.2 S2 L2 d
def simEr (K X V : Nat → Nat) (r : PX) (d : Nat) (M : List Nat) (f : Nat) : Prop :=
  d ≤ 10 → ¬ K f = 38 → ∀ (S S2 L L2 : List Nat), bangs S = 0 → redS true S = S → redS true S2 = S → L2 ++ redC true S2 = L ++ M → match r with
    | .error e => ¬ e.1 = 9 → ∃ k, ∀ m, run K X V (m + k) false f S2 L2 d = .error e
    | .ok q => ¬ K q.2 = 38 ∧ ¬ K q.2 = 124 ∧ ∃ k S3 L3, redS true S3 = S ∧ L3 ++ redC true S3 = L ++ q.1 ∧ ∀ m, run K X V (m + k) false f S2 L2 d = run K X V m false q.2 S3 L3 d
theorem run_t {K X V : Nat → Nat} {m f d : Nat} {S L : List Nat} : run K X V (m + 1) true f S L d = (if K f = 40 ∨ K f = 33 then (if d = 10 then .error (3, f) else run K X V m true (X f) (K f :: S) L (d + 1))
       else if K f = 48 then run K X V m false (X f) (noBang S) (L ++ [0] ++ List.replicate (bangs S) 3) (d - bangs S)
       else if K f = 49 then run K X V m false (X f) (noBang S) (L ++ [1] ++ List.replicate (bangs S) 3) (d - bangs S)
       else if K f = 42 then run K X V m false (X f) (noBang S) (L ++ [2] ++ List.replicate (bangs S) 3) (d - bangs S)
       else if K f = 258 then (if V f = 99 then .error (3, f) else run K X V m false (X f) (noBang S) (L ++ [V f] ++ List.replicate (bangs S) 3) (d - bangs S))
       else .error (bdK (K f), f)) := rfl
theorem run_f {K X V : Nat → Nat} {m f d : Nat} {S L : List Nat} : run K X V (m + 1) false f S L d = (if K f = 38 then run K X V m true (X f) (38 :: redS false S) (L ++ redC false S) d
    else if K f = 124 then run K X V m true (X f) (124 :: redS true S) (L ++ redC true S) d
    else (match redS true S with
      | [] => if K f = 257 then .error (1, f) else .ok (L ++ redC true S, f)
      | _ :: t => if K f = 41 then run K X V m false (X f) (noBang t) (L ++ redC true S ++ List.replicate (bangs t) 3) (d - 1 - bangs t) else .error (bdK (K f), f))) := rfl
theorem px_0 {K X V : Nat → Nat} {n d f : Nat} {L : List Nat} : px K X V (n + 1) 0 d L f = (if K f = 48 then .ok ([0], X f) else if K f = 49 then .ok ([1], X f) else if K f = 42 then .ok ([2], X f)
       else if K f = 258 then (if V f = 99 then .error (3, f) else .ok ([V f], X f))
       else if K f = 33 then (if 10 ≤ d then .error (3, f) else match px K X V n 0 (d + 1) [] (X f) with
         | .error e => .error e
         | .ok r => .ok (r.1 ++ [3], r.2))
       else if K f = 40 then (if 10 ≤ d then .error (3, f) else match px K X V n 3 (d + 1) [] (X f) with
         | .error e => .error e
         | .ok r => if K r.2 = 41 then .ok (r.1, X r.2) else .error (bdK (K r.2), r.2))
       else .error (bdK (K f), f)) := rfl
theorem px_1 {K X V : Nat → Nat} {n d f : Nat} {L : List Nat} : px K X V (n + 1) 1 d L f = (match px K X V n 0 d [] f with
      | .error e => .error e
      | .ok r => px K X V n 2 d r.1 r.2) := rfl
theorem px_2 {K X V : Nat → Nat} {n d f : Nat} {L : List Nat} : px K X V (n + 1) 2 d L f = (if K f = 38 then (match px K X V n 0 d [] (X f) with
      | .error e => .error e
      | .ok r => px K X V n 2 d (L ++ r.1 ++ [4]) r.2) else .ok (L, f)) := rfl
theorem px_3 {K X V : Nat → Nat} {n d f : Nat} {L : List Nat} : px K X V (n + 1) 3 d L f = (match px K X V n 1 d [] f with
      | .error e => .error e
      | .ok r => px K X V n 4 d r.1 r.2) := rfl
theorem px_4 {K X V : Nat → Nat} {n d f : Nat} {L : List Nat} : px K X V (n + 1) 4 d L f = (if K f = 124 then (match px K X V n 1 d [] (X f) with
      | .error e => .error e
      | .ok r => px K X V n 4 d (L ++ r.1 ++ [5]) r.2) else .ok (L, f)) := rfl
theorem sim {K X V : Nat → Nat} : ∀ n, (∀ d f, simF K X V (px K X V n 0 d [] f) d f) ∧ (∀ d f, simT K X V (px K X V n 1 d [] f) d f) ∧ (∀ d M f, simTr K X V (px K X V n 2 d M f) d M f) ∧ (∀ d f, simE K X V (px K X V n 3 d [] f) d f) ∧ (∀ d M f, simEr K X V (px K X V n 4 d M f) d M f) := by
  intro n
  induction n with
  | zero =>
    refine ⟨fun d f _ S L _ h => absurd rfl h, fun d f _ S L _ _ _ h => absurd rfl h, fun d M f _ S S2 L L2 _ _ _ _ h => absurd rfl h, fun d f _ S L _ _ _ h => absurd rfl h, fun d M f _ _ S S2 L L2 _ _ _ _ h => absurd rfl h⟩
  | succ n ih =>
    obtain ⟨iF, iT, iTr, iE, iEr⟩ := ih
    refine ⟨?_, ?_, ?_, ?_, ?_⟩
    · intro d f hd S L hb
      rw [px_0]
      by_cases c48 : K f = 48
      · rw [if_pos c48]
        exact ⟨1, fun m => by rw [run_t, if_neg (by omega), if_pos c48]⟩
      · rw [if_neg c48]
        by_cases c49 : K f = 49
        · rw [if_pos c49]
          exact ⟨1, fun m => by rw [run_t, if_neg (by omega), if_neg c48, if_pos c49]⟩
        · rw [if_neg c49]
          by_cases c42 : K f = 42
          · rw [if_pos c42]
            exact ⟨1, fun m => by rw [run_t, if_neg (by omega), if_neg c48, if_neg c49, if_pos c42]⟩
          · rw [if_neg c42]
            by_cases c258 : K f = 258
            · rw [if_pos c258]
              by_cases hv : V f = 99
              · rw [if_pos hv]
                exact fun _ => ⟨1, fun m => by rw [run_t, if_neg (by omega), if_neg c48, if_neg c49, if_neg c42, if_pos c258, if_pos hv]⟩
              · rw [if_neg hv]
                exact ⟨1, fun m => by rw [run_t, if_neg (by omega), if_neg c48, if_neg c49, if_neg c42, if_pos c258, if_neg hv]⟩
            · rw [if_neg c258]
              by_cases c33 : K f = 33
              · rw [if_pos c33]
                by_cases hd10 : 10 ≤ d
                · rw [if_pos hd10]
                  exact fun _ => ⟨1, fun m => by rw [run_t, if_pos (Or.inr c33), if_pos (by omega)]⟩
                · rw [if_neg hd10]
                  have bb : bangs (33 :: S) = bangs S + 1 := rfl
                  have nb : noBang (33 :: S) = noBang S := rfl
                  have i0 := iF (d + 1) (X f) (by omega) (33 :: S) L (by omega)
                  cases hp : px K X V n 0 (d + 1) [] (X f) with
                  | error e =>
                    rw [hp] at i0
                    intro he
                    obtain ⟨k, hk⟩ := i0 he
                    exact ⟨k + 1, fun m => by rw [← Nat.add_assoc, run_t, if_pos (Or.inr c33), if_neg (by omega), c33]; exact hk m⟩
                  | ok q =>
                    rw [hp] at i0
                    obtain ⟨k, hk⟩ := i0
                    refine ⟨k + 1, fun m => ?_⟩
                    rw [← Nat.add_assoc, run_t, if_pos (Or.inr c33), if_neg (by omega), c33, hk m, bb, nb, show d + 1 - (bangs S + 1) = d - bangs S by omega]
                    show run K X V m false q.2 (noBang S) (L ++ q.1 ++ ([3] ++ List.replicate (bangs S) 3)) (d - bangs S) = run K X V m false q.2 (noBang S) (L ++ (q.1 ++ [3]) ++ List.replicate (bangs S) 3) (d - bangs S)
                    rw [List.append_assoc, List.append_assoc, List.append_assoc]
              · rw [if_neg c33]
                by_cases c40 : K f = 40
                · rw [if_pos c40]
                  by_cases hd10 : 10 ≤ d
                  · rw [if_pos hd10]
                    exact fun _ => ⟨1, fun m => by rw [run_t, if_pos (Or.inl c40), if_pos (by omega)]⟩
                  · rw [if_neg hd10]
                    have i0 := iE (d + 1) (X f) (by omega) (40 :: S) L rfl rfl rfl
                    cases hp : px K X V n 3 (d + 1) [] (X f) with
                    | error e =>
                      rw [hp] at i0
                      intro he
                      obtain ⟨k, hk⟩ := i0 he
                      exact ⟨k + 1, fun m => by rw [← Nat.add_assoc, run_t, if_pos (Or.inl c40), if_neg (by omega), c40]; exact hk m⟩
                    | ok q =>
                      rw [hp] at i0
                      obtain ⟨n38, n124, k, S2, L2, s1, s2, hk⟩ := i0
                      show match (if K q.2 = 41 then (.ok (q.1, X q.2) : PX) else .error (bdK (K q.2), q.2)) with
                        | .error e => ¬ e.1 = 9 → ∃ k, ∀ m, run K X V (m + k) true f S L d = .error e
                        | .ok q => ∃ k, ∀ m, run K X V (m + k) true f S L d = run K X V m false q.2 (noBang S) (L ++ q.1 ++ List.replicate (bangs S) 3) (d - bangs S)
                      by_cases c41 : K q.2 = 41
                      · rw [if_pos c41]
                        refine ⟨1 + k + 1, fun m => ?_⟩
                        rw [← Nat.add_assoc, ← Nat.add_assoc, run_t, if_pos (Or.inl c40), if_neg (by omega), c40, hk (m + 1), run_f, if_neg n38, if_neg n124, s1]
                        show (if K q.2 = 41 then run K X V m false (X q.2) (noBang S) (L2 ++ redC true S2 ++ List.replicate (bangs S) 3) (d + 1 - 1 - bangs S) else _) = _
                        rw [if_pos c41, s2, show d + 1 - 1 - bangs S = d - bangs S by omega]
                      · rw [if_neg c41]
                        refine fun _ => ⟨1 + k + 1, fun m => ?_⟩
                        rw [← Nat.add_assoc, ← Nat.add_assoc, run_t, if_pos (Or.inl c40), if_neg (by omega), c40, hk (m + 1), run_f, if_neg n38, if_neg n124, s1]
                        show (if K q.2 = 41 then _ else (.error (bdK (K q.2), q.2) : PX)) = _
                        rw [if_neg c41]
                · rw [if_neg c40]
                  exact fun _ => ⟨1, fun m => by rw [run_t, if_neg (fun z => z.elim c40 c33), if_neg c48, if_neg c49, if_neg c42, if_neg c258]⟩
    · intro d f hd S L hb hnb hr
      rw [px_1]
      have i0 := iF d f hd S L (by omega)
      cases hp : px K X V n 0 d [] f with
      | error e =>
        rw [hp] at i0
        exact i0
      | ok q =>
        rw [hp] at i0
        obtain ⟨k, hk⟩ := i0
        have i1 := iTr d q.1 q.2 hd S S L (L ++ q.1) hb hr hr (by rw [red_id hr, List.append_nil])
        have hk' : ∀ m, run K X V (m + k) true f S L d = run K X V m false q.2 S (L ++ q.1) d := fun m => by
          rw [hk m, hb, hnb]
          show run K X V m false q.2 S (L ++ q.1 ++ []) (d - 0) = _
          rw [List.append_nil]; rfl
        show match px K X V n 2 d q.1 q.2 with
          | .error e => ¬ e.1 = 9 → ∃ k, ∀ m, run K X V (m + k) true f S L d = .error e
          | .ok q => ¬ K q.2 = 38 ∧ ∃ k S2 L2, redS false S2 = S ∧ L2 ++ redC false S2 = L ++ q.1 ∧ ∀ m, run K X V (m + k) true f S L d = run K X V m false q.2 S2 L2 d
        cases hp2 : px K X V n 2 d q.1 q.2 with
        | error e =>
          rw [hp2] at i1
          intro he
          obtain ⟨k2, hk2⟩ := i1 he
          exact ⟨k2 + k, fun m => by rw [← Nat.add_assoc, hk', hk2]⟩
        | ok q2 =>
          rw [hp2] at i1
          obtain ⟨a1, k2, S3, L3, a2, a3, a4⟩ := i1
          exact ⟨a1, k2 + k, S3, L3, a2, a3, fun m => by rw [← Nat.add_assoc, hk', a4]⟩
    · intro d M f hd S S2 L L2 hb hr hr2 hl
      rw [px_2]
      by_cases c38 : K f = 38
      · rw [if_pos c38]
        have i0 := iF d (X f) hd (38 :: S) (L ++ M) (by show 0 ≤ d; omega)
        cases hp : px K X V n 0 d [] (X f) with
        | error e =>
          rw [hp] at i0
          intro he
          obtain ⟨k, hk⟩ := i0 he
          exact ⟨k + 1, fun m => by rw [← Nat.add_assoc, run_f, if_pos c38, hr2, hl]; exact hk m⟩
        | ok q =>
          rw [hp] at i0
          obtain ⟨k, hk⟩ := i0
          have hk' : ∀ m, run K X V (m + k + 1) false f S2 L2 d = run K X V m false q.2 (38 :: S) (L ++ M ++ q.1) d := fun m => by
            rw [run_f, if_pos c38, hr2, hl, hk m]
            show run K X V m false q.2 (38 :: S) (L ++ M ++ q.1 ++ []) (d - 0) = _
            rw [List.append_nil]; rfl
          have e1 : redS false (38 :: S) = S := hr
          have e2 : redC false (38 :: S) = [4] := by show 4 :: redC false S = [4]; rw [red_id hr]
          have i1 := iTr d (M ++ q.1 ++ [4]) q.2 hd S (38 :: S) L (L ++ M ++ q.1) hb hr e1 (by rw [e2]; simp only [List.append_assoc])
          show match px K X V n 2 d (M ++ q.1 ++ [4]) q.2 with
            | .error e => ¬ e.1 = 9 → ∃ k, ∀ m, run K X V (m + k) false f S2 L2 d = .error e
            | .ok q => ¬ K q.2 = 38 ∧ ∃ k S3 L3, redS false S3 = S ∧ L3 ++ redC false S3 = L ++ q.1 ∧ ∀ m, run K X V (m + k) false f S2 L2 d = run K X V m false q.2 S3 L3 d
          cases hp2 : px K X V n 2 d (M ++ q.1 ++ [4]) q.2 with
          | error e =>
            rw [hp2] at i1
            intro he
            obtain ⟨k2, hk2⟩ := i1 he
            exact ⟨k2 + k + 1, fun m => by rw [← Nat.add_assoc, ← Nat.add_assoc, hk', hk2]⟩
          | ok q2 =>
            rw [hp2] at i1
            obtain ⟨a1, k2, S3, L3, a2, a3, a4⟩ := i1
            exact ⟨a1, k2 + k + 1, S3, L3, a2, a3, fun m => by rw [← Nat.add_assoc, ← Nat.add_assoc, hk', a4]⟩
      · rw [if_neg c38]
        exact ⟨c38, 0, S2, L2, hr2, hl, fun m => rfl⟩
    · intro d f hd S L hb hnb hr
      rw [px_3]
      have hrf : redS false S = S := by
        cases S with
        | nil => rfl
        | cons a t =>
          show (if a = 38 ∨ (false = true ∧ a = 124) then redS false t else a :: t) = a :: t
          by_cases z : a = 38
          · exfalso
            have e : redS true (a :: t) = redS true t := by show (if a = 38 ∨ (true = true ∧ a = 124) then redS true t else a :: t) = _; rw [if_pos (Or.inl z)]
            have l := red_len true t
            have l2 := congrArg List.length (e.symm.trans hr)
            rw [List.length_cons] at l2
            omega
          · rw [if_neg (fun y => y.elim z (fun w => by cases w.1))]
      have i0 := iT d f hd S L hb hnb hrf
      cases hp : px K X V n 1 d [] f with
      | error e =>
        rw [hp] at i0
        exact i0
      | ok q =>
        rw [hp] at i0
        obtain ⟨b1, k, S2, L2, b2, b3, hk⟩ := i0
        have t2 := red_two S2
        have e1 : redS true S2 = S := by rw [t2.1, b2, hr]
        have e2 : L2 ++ redC true S2 = L ++ q.1 := by rw [t2.2, b2, red_id hr, List.append_nil, b3]
        have i1 := iEr d q.1 q.2 hd b1 S S2 L L2 hb hr e1 e2
        show match px K X V n 4 d q.1 q.2 with
          | .error e => ¬ e.1 = 9 → ∃ k, ∀ m, run K X V (m + k) true f S L d = .error e
          | .ok q => ¬ K q.2 = 38 ∧ ¬ K q.2 = 124 ∧ ∃ k S2 L2, redS true S2 = S ∧ L2 ++ redC true S2 = L ++ q.1 ∧ ∀ m, run K X V (m + k) true f S L d = run K X V m false q.2 S2 L2 d
        cases hp2 : px K X V n 4 d q.1 q.2 with
        | error e =>
          rw [hp2] at i1
          intro he
          obtain ⟨k2, hk2⟩ := i1 he
          exact ⟨k2 + k, fun m => by rw [← Nat.add_assoc, hk, hk2]⟩
        | ok q2 =>
          rw [hp2] at i1
          obtain ⟨a1, a1b, k2, S3, L3, a2, a3, a4⟩ := i1
          exact ⟨a1, a1b, k2 + k, S3, L3, a2, a3, fun m => by rw [← Nat.add_assoc, hk, a4]⟩
    · intro d M f hd h38 S S2 L L2 hb hr hr2 hl
      rw [px_4]
      by_cases c124 : K f = 124
      · rw [if_pos c124]
        have i0 := iT d (X f) hd (124 :: S) (L ++ M) rfl rfl rfl
        cases hp : px K X V n 1 d [] (X f) with
        | error e =>
          rw [hp] at i0
          intro he
          obtain ⟨k, hk⟩ := i0 he
          exact ⟨k + 1, fun m => by rw [← Nat.add_assoc, run_f, if_neg h38, if_pos c124, hr2, hl]; exact hk m⟩
        | ok q =>
          rw [hp] at i0
          obtain ⟨b1, k, S4, L4, b2, b3, hk⟩ := i0
          have t2 := red_two S4
          have e0 : redS true (124 :: S) = S := hr
          have e0c : redC true (124 :: S) = [5] := by show 5 :: redC true S = [5]; rw [red_id hr]
          have e1 : redS true S4 = S := by rw [t2.1, b2, e0]
          have e2 : L4 ++ redC true S4 = L ++ (M ++ q.1 ++ [5]) := by
            rw [t2.2, b2, e0c, ← List.append_assoc, b3]
            simp only [List.append_assoc]
          have i1 := iEr d (M ++ q.1 ++ [5]) q.2 hd b1 S S4 L L4 hb hr e1 e2
          have hk' : ∀ m, run K X V (m + k + 1) false f S2 L2 d = run K X V m false q.2 S4 L4 d := fun m => by
            rw [run_f, if_neg h38, if_pos c124, hr2, hl, hk m]
          show match px K X V n 4 d (M ++ q.1 ++ [5]) q.2 with
            | .error e => ¬ e.1 = 9 → ∃ k, ∀ m, run K X V (m + k) false f S2 L2 d = .error e
            | .ok q => ¬ K q.2 = 38 ∧ ¬ K q.2 = 124 ∧ ∃ k S3 L3, redS true S3 = S ∧ L3 ++ redC true S3 = L ++ q.1 ∧ ∀ m, run K X V (m + k) false f S2 L2 d = run K X V m false q.2 S3 L3 d
          cases hp2 : px K X V n 4 d (M ++ q.1 ++ [5]) q.2 with
          | error e =>
            rw [hp2] at i1
            intro he
            obtain ⟨k2, hk2⟩ := i1 he
            exact ⟨k2 + k + 1, fun m => by rw [← Nat.add_assoc, ← Nat.add_assoc, hk', hk2]⟩
          | ok q2 =>
            rw [hp2] at i1
            obtain ⟨a1, a1b, k2, S3, L3, a2, a3, a4⟩ := i1
            exact ⟨a1, a1b, k2 + k + 1, S3, L3, a2, a3, fun m => by rw [← Nat.add_assoc, ← Nat.add_assoc, hk', a4]⟩
      · rw [if_neg c124]
        exact ⟨h38, c124, 0, S2, L2, hr2, hl, fun m => rfl⟩
