/-! ===== pure rows 68: reduce; the code's value ===== -/
/-- which waiting operators reduce takes, what it emits, what is left -/
def redC (ors : Bool) : List Nat → List Nat
  | [] => []
  | a :: t => if a = 38 ∨ (ors = true ∧ a = 124) then (if a = 38 then 4 else 5) :: redC ors t else []
def redS (ors : Bool) : List Nat → List Nat
  | [] => []
  | a :: t => if a = 38 ∨ (ors = true ∧ a = 124) then redS ors t else a :: t
theorem red_len (ors : Bool) : ∀ S : List Nat, (redC ors S).length + (redS ors S).length = S.length := by
  intro S
  induction S with
  | nil => rfl
  | cons a t ih =>
    show (if a = 38 ∨ (ors = true ∧ a = 124) then (if a = 38 then 4 else 5) :: redC ors t else []).length + (if a = 38 ∨ (ors = true ∧ a = 124) then redS ors t else a :: t).length = t.length + 1
    by_cases h : a = 38 ∨ (ors = true ∧ a = 124)
    · rw [if_pos h, if_pos h, List.length_cons]; omega
    · rw [if_neg h, if_neg h]; exact Nat.zero_add _
theorem stk_red {c : Nat → Int32} (ors : Bool) : ∀ S : List Nat, stkIs c S → stkIs c (redS ors S) := by
  intro S
  induction S with
  | nil => intro _; exact trivial
  | cons a t ih =>
    intro h
    show stkIs c (if a = 38 ∨ (ors = true ∧ a = 124) then redS ors t else a :: t)
    by_cases q : a = 38 ∨ (ors = true ∧ a = 124)
    · rw [if_pos q]; exact ih h.2
    · rw [if_neg q]; exact h
theorem stk_noBang {c : Nat → Int32} : ∀ S : List Nat, stkIs c S → stkIs c (noBang S) := by
  intro S
  induction S with
  | nil => intro _; exact trivial
  | cons a t ih =>
    intro h
    show stkIs c (if a = 33 then noBang t else a :: t)
    by_cases q : a = 33
    · rw [if_pos q]; exact ih h.2
    · rw [if_neg q]; exact h
theorem r_reduce {ops : Nat → Int32} (ors : Bool) : ∀ (S : List Nat) (n : Nat) (c : Nat → Int32) (L : List Nat), stkIs ops S → (∀ a, a ∈ S → a < 256) → S.length < n → S.length ≤ 700 → L.length + S.length ≤ 700 → codeIs c L →
    ∃ c2, fX11_reduce_l0 ops n (if ors = true then 1 else 0) (nI L.length) (nI S.length) c = some (nI (L ++ redC ors S).length, nI (redS ors S).length, c2) ∧ codeIs c2 (L ++ redC ors S) := by
  intro S
  induction S with
  | nil =>
    intro n c L _ _ hn _ _ hc
    obtain ⟨n, rfl⟩ : ∃ z, n = z + 1 := ⟨n - 1, by have : 0 < n := hn; omega⟩
    refine ⟨c, ?_, by show codeIs c (L ++ []); rw [List.append_nil]; exact hc⟩
    show fX11_reduce_b0 ops _ _ (nI L.length) (nI 0) c = some (nI (L ++ []).length, nI 0, c)
    unfold fX11_reduce_b0 fX11_reduce_p79
    rw [if_pos (by decide), List.append_nil]
  | cons a t ih =>
    intro n c L hs ha hn h7 hl hc
    have hn' : t.length + 1 < n := hn
    have h7' : t.length + 1 ≤ 700 := h7
    have hl' : L.length + (t.length + 1) ≤ 700 := hl
    obtain ⟨n, rfl⟩ : ∃ z, n = z + 1 := ⟨n - 1, by omega⟩
    have ha1 := ha a List.mem_cons_self
    have z38 : nI a = 38 ↔ a = 38 := nI_eq (a := a) (b := 38) (by omega) (by decide)
    have z124 : nI a = 124 ↔ a = 124 := nI_eq (a := a) (b := 124) (by omega) (by decide)
    have bt := inb_nI (j := t.length) (n := 700) (by omega) (by decide)
    have kt := nI_clamp (n := t.length) (by omega)
    have eC : redC ors (a :: t) = if a = 38 ∨ (ors = true ∧ a = 124) then (if a = 38 then 4 else 5) :: redC ors t else [] := rfl
    have eS : redS ors (a :: t) = if a = 38 ∨ (ors = true ∧ a = 124) then redS ors t else a :: t := rfl
    have take : a = 38 ∨ (ors = true ∧ a = 124) → ∃ c2, fX11_reduce_p43 ops (fX11_reduce_l0 ops n) (if ors = true then 1 else 0) (nI L.length) (nI (t.length + 1)) c = some (nI (L ++ redC ors (a :: t)).length, nI (redS ors (a :: t)).length, c2) ∧ codeIs c2 (L ++ redC ors (a :: t)) := by
      intro q
      unfold fX11_reduce_p43 fX11_reduce_p73
      rw [eC, eS, if_pos q, if_pos q, nm_q, nI_pred, bd_eq _ bt, nm_q, kt, hs.1]
      by_cases w : a = 38
      · rw [if_pos (z38.mpr w), if_pos w]
        obtain ⟨d1, e1, e2⟩ := r_emit (L := L) 4 hc (by omega)
        have e1' : fX11_emit 4 (nI L.length) c = some (nI (L ++ [4]).length, d1) := e1
        rw [e1', ob_s]
        have := ih n d1 (L ++ [4]) hs.2 (fun b hb => ha b (List.mem_cons_of_mem a hb)) (by omega) (by omega) (by rw [List.length_append]; show L.length + 1 + t.length ≤ 700; omega) e2
        rw [List.append_assoc] at this
        exact this
      · rw [if_neg (fun z => w (z38.mp z)), if_neg w]
        obtain ⟨d1, e1, e2⟩ := r_emit (L := L) 5 hc (by omega)
        have e1' : fX11_emit 5 (nI L.length) c = some (nI (L ++ [5]).length, d1) := e1
        rw [e1', ob_s]
        have := ih n d1 (L ++ [5]) hs.2 (fun b hb => ha b (List.mem_cons_of_mem a hb)) (by omega) (by omega) (by rw [List.length_append]; show L.length + 1 + t.length ≤ 700; omega) e2
        rw [List.append_assoc] at this
        exact this
    have stay : ¬ (a = 38 ∨ (ors = true ∧ a = 124)) → ∃ c2, (some (nI L.length, nI (t.length + 1), c) : Option (Int32 × Int32 × (Nat → Int32))) = some (nI (L ++ redC ors (a :: t)).length, nI (redS ors (a :: t)).length, c2) ∧ codeIs c2 (L ++ redC ors (a :: t)) := by
      intro q
      rw [eC, eS, if_neg q, if_neg q, List.append_nil]
      exact ⟨c, rfl, hc⟩
    show ∃ c2, fX11_reduce_b0 ops (fX11_reduce_l0 ops n) (if ors = true then 1 else 0) (nI L.length) (nI (t.length + 1)) c = _ ∧ _
    unfold fX11_reduce_b0 fX11_reduce_p79
    rw [if_neg (nI_nle (by omega) (by omega)), nm_q, nI_pred, bd_eq _ bt, nm_q, kt, hs.1]
    by_cases w : a = 38
    · rw [if_pos (z38.mpr w)]
      exact take (Or.inl w)
    · rw [if_neg (fun z => w (z38.mp z))]
      cases ors with
      | false =>
        rw [if_pos (by decide)]
        exact stay (fun z => z.elim w (fun y => by cases y.1))
      | true =>
        rw [if_neg (by decide), nm_q, bd_eq _ bt, nm_q, kt, hs.1]
        by_cases v : a = 124
        · rw [if_pos (z124.mpr v)]
          exact take (Or.inr ⟨rfl, v⟩)
        · rw [if_neg (fun z => v (z124.mp z))]
          exact stay (fun z => z.elim w (fun y => v y.2))
/-- the value of a code for a setting: what it can be, on a stack -/
def evI (st v : Nat) : List Nat → List Nat
  | S => if v = 3 then (match S with
      | [] => []
      | a :: t => (a % 2 * 2 + a / 2) :: t)
    else if v = 4 then (match S with
      | b :: a :: t => ((a ||| b) % 2 + (a / 2 &&& b / 2) * 2) :: t
      | _ => [])
    else if v = 5 then (match S with
      | b :: a :: t => ((a ||| b) / 2 * 2 + (a &&& b) % 2) :: t
      | _ => [])
    else (if v = 0 then 1 else if v = 1 then 2 else if v = 2 then 3 else if v < 24 then (if st.testBit (v - 16) then 2 else 1) else (if st.testBit (v - 21) then 2 else 1)) :: S
def evL (st : Nat) : List Nat → List Nat → List Nat
  | [] => fun S => S
  | v :: L => fun S => evL st L (evI st v S)
theorem evL_app (st : Nat) : ∀ (L M S : List Nat), evL st (L ++ M) S = evL st M (evL st L S) := by
  intro L
  induction L with
  | nil => intro M S; rfl
  | cons v L ih => intro M S; exact ih M (evI st v S)
