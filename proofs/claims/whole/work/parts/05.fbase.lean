/-! ===== my own words: the shape of the printed functions ===== -/
/-- a computed value by a name -/
def nm {α β : Type} (e : α) (k : α → β) : β := k e
theorem nm_at {α β : Type} {e x : α} {k : α → β} {r : β} (h : nm e k = r) (ex : x = e) : k x = r := by subst ex; exact h
/-- what a call answers -/
def ob {α β : Type} (x : Option α) (k : α → Option β) : Option β := match x with
  | none => none
  | some a => k a
theorem ob_some {α β : Type} {x : Option α} {k : α → Option β} {r : β} (h : ob x k = some r) : ∃ a, x = some a ∧ k a = some r := by
  cases x with
  | none => cases h
  | some a => exact ⟨a, rfl, h⟩
theorem ob_eq {α β : Type} {x : Option α} {a : α} (k : α → Option β) (h : x = some a) : ob x k = k a := by subst h; rfl
/-- a place in its row -/
def inb (i : Int32) (n : Nat) : Bool := !decide (i < 0) && decide (i.toNatClampNeg < n)
def bz (x : Int32) : Bool := decide (x = 0) || decide (x = 1)
def bd {β : Type} (b : Bool) (k : Option β) : Option β := match b with
  | true => k
  | false => none
theorem bd_k {β : Type} {b : Bool} {k : Option β} {r : β} (h : bd b k = some r) : k = some r := by
  cases b with
  | false => cases h
  | true => exact h
theorem bd_b {β : Type} {b : Bool} {k : Option β} {r : β} (h : bd b k = some r) : b = true := by
  cases b with
  | false => cases h
  | true => rfl
theorem bd_eq {β : Type} {b : Bool} (k : Option β) (h : b = true) : bd b k = k := by subst h; rfl
theorem inb_in {i : Int32} {n : Nat} (h : inb i n = true) : vp_in i n := by
  simp only [inb, Bool.and_eq_true, Bool.not_eq_true', decide_eq_false_iff_not, decide_eq_true_eq] at h
  intro q
  rcases q with q | q
  · exact h.1 q
  · omega
theorem bd_in {β : Type} {i : Int32} {n : Nat} {k : Option β} {r : β} (h : bd (inb i n) k = some r) : vp_in i n := inb_in (bd_b h)
theorem bz_cases {x : Int32} (h : bz x = true) : x = 0 ∨ x = 1 := by
  simpa [bz] using h
theorem bz_nar {x : Int32} (h : bz x = true) : narrow .boolean (.int x) = .int x := by
  rcases bz_cases h with rfl | rfl <;> rfl
theorem bz_fit {x : Int32} (h : bz x = true) : fits .boolean (.int x) = true := by
  rcases bz_cases h with rfl | rfl <;> rfl
theorem if_at {α : Type} {c : Prop} [Decidable c] {a b r : α} (h : (if c then a else b) = r) (hc : c) : a = r := by rw [if_pos hc] at h; exact h
theorem if_no {α : Type} {c : Prop} [Decidable c] {a b r : α} (h : (if c then a else b) = r) (hc : ¬ c) : b = r := by rw [if_neg hc] at h; exact h
/-- more rounds than any loop here makes -/
def FU : Nat := 2000000
/-- the class's static rows and its one text -/
def xWords : List Int64 := [0x726176, 0x636f7270, 0x65736c65, 0x6669, 0x656c696877, 0x6c6c6163, 0x747265737361, 0x656d75737361, 0x6e7275746572, 0x70696b73]
def xBits : List Int32 := [-1431655766, -858993460, -252645136, -16711936, -65536]
def xMarks : List Int32 := [48, 49, 42, 61, 59, 44, 123, 125, 40, 41, 33, 38, 124]
