/-! ===== pure rows 17: what holds of every answer of a function ===== -/
def Wq {ρ : Type} (o : Option ρ) (P : ρ → Prop) : Prop := ∃ r, o = some r ∧ P r
theorem Wq_some {ρ : Type} {r : ρ} {P : ρ → Prop} (h : P r) : Wq (some r) P := ⟨r, rfl, h⟩
theorem Wq_nm {α ρ : Type} {e : α} {k : α → Option ρ} {P : ρ → Prop} (h : Wq (k e) P) : Wq (nm e k) P := h
theorem Wq_bd {ρ : Type} {b : Bool} {k : Option ρ} {P : ρ → Prop} (hb : b = true) (h : Wq k P) : Wq (bd b k) P := by subst hb; exact h
theorem Wq_ob {α ρ : Type} {x : Option α} {k : α → Option ρ} {Q : α → Prop} {P : ρ → Prop} (hx : Wq x Q) (h : ∀ a, Q a → Wq (k a) P) : Wq (ob x k) P := by
  obtain ⟨a, rfl, ha⟩ := hx
  exact h a ha
theorem Wq_mono {ρ : Type} {o : Option ρ} {Q P : ρ → Prop} (hx : Wq o Q) (h : ∀ a, Q a → P a) : Wq o P := by
  obtain ⟨a, e, ha⟩ := hx
  exact ⟨a, e, h a ha⟩
theorem Wq_if {ρ : Type} {c : Prop} [Decidable c] {a b : Option ρ} {P : ρ → Prop} (h1 : c → Wq a P) (h2 : ¬ c → Wq b P) : Wq (if c then a else b) P := by
  by_cases h : c
  · rw [if_pos h]; exact h1 h
  · rw [if_neg h]; exact h2 h
theorem Wq_wh {σ ρ : Type} {F : Nat → σ → Option ρ} {B : (σ → Option ρ) → σ → Option ρ} (hF : ∀ n s, F (n + 1) s = B (F n) s) (Inv : Nat → σ → Prop) {P : ρ → Prop}
    (step : ∀ m s k, Inv m s → (∀ m' s', m' < m → Inv m' s' → Wq (k s') P) → Wq (B k s) P) : ∀ n m s, m < n → Inv m s → Wq (F n s) P := by
  intro n
  induction n with
  | zero => intro m s h; omega
  | succ n ih =>
    intro m s h hi
    rw [hF]
    exact step m s (F n) hi (fun m' s' h1 h2 => ih m' s' (by omega) h2)
/-! ===== sums ===== -/
def sumN (f : Nat → Nat) : Nat → Nat
  | 0 => 0
  | n + 1 => sumN f n + f n
theorem sumN_le {f g : Nat → Nat} : ∀ n, (∀ j, j < n → f j ≤ g j) → sumN f n ≤ sumN g n := by
  intro n
  induction n with
  | zero => intro _; exact Nat.le_refl _
  | succ n ih =>
    intro h
    have h1 := ih (fun j hj => h j (by omega))
    have h2 := h n (by omega)
    show sumN f n + f n ≤ sumN g n + g n
    omega
theorem sumN_lt {f g : Nat → Nat} : ∀ n, (∀ j, j < n → f j ≤ g j) → (∃ j, j < n ∧ f j < g j) → sumN f n < sumN g n := by
  intro n
  induction n with
  | zero => rintro _ ⟨j, hj, _⟩; omega
  | succ n ih =>
    rintro h ⟨j, hj, hlt⟩
    have h2 := h n (by omega)
    show sumN f n + f n < sumN g n + g n
    by_cases e : j = n
    · subst e
      have h1 := sumN_le j (fun i hi => h i (by omega))
      omega
    · have h1 := ih (fun i hi => h i (by omega)) ⟨j, by omega, hlt⟩
      omega
theorem sumN_bd {f : Nat → Nat} : ∀ n, (∀ j, j < n → f j ≤ 1) → sumN f n ≤ n := by
  intro n
  induction n with
  | zero => intro _; exact Nat.le_refl _
  | succ n ih =>
    intro h
    have h1 := ih (fun j hj => h j (by omega))
    have h2 := h n (by omega)
    show sumN f n + f n ≤ n + 1
    omega
/-! ===== the table where the rounds stand still ===== -/
def okPr (R : Nat) (pr : Nat → Nat → Nat) : Prop := R ≤ 48 ∧ ∀ r, r < R → pr 0 r < 8 ∧ pr 1 r < 12 ∧ pr 2 r < 8 ∧ pr 3 r ≤ 2 ∧ pr 4 r < 12 ∧ pr 5 r < 12
def isD (y0 : Nat → Nat) (R : Nat) (pr : Nat → Nat → Nat) (x : Nat → Nat) : Prop := vals x ∧ (∀ j, j < 3072 → x j ≤ y0 j) ∧ clAll x R pr ∧ ∀ y : Nat → Nat, (∀ j, j < 3072 → y j ≤ y0 j) → clAll y R pr → ∀ j, j < 3072 → y j ≤ x j
theorem isD_eq {y0 : Nat → Nat} {R : Nat} {pr : Nat → Nat → Nat} {x x2 : Nat → Nat} (h : isD y0 R pr x) (h2 : isD y0 R pr x2) : ∀ j, j < 3072 → x j = x2 j :=
  fun j hj => Nat.le_antisymm (h2.2.2.2 x h.2.1 h.2.2.1 j hj) (h.2.2.2 x2 h2.2.1 h2.2.2.1 j hj)
theorem ex_D_from {y0 : Nat → Nat} {R : Nat} {pr : Nat → Nat → Nat} (hP : okPr R pr) : ∀ (m : Nat) (x : Nat → Nat), sumN x 3072 < m → vals x → (∀ j, j < 3072 → x j ≤ y0 j) → sup y0 x R pr → (∀ y : Nat → Nat, (∀ j, j < 3072 → y j ≤ y0 j) → clAll y R pr → ∀ j, j < 3072 → y j ≤ x j) → ∃ D, isD y0 R pr D ∧ sup y0 D R pr := by
  intro m
  induction m with
  | zero => intro x h; omega
  | succ m ih =>
    intro x hm hv hle hs hy
    have hR : ruN R (fun r => nI (pr 0 r)) (fun r => nI (pr 1 r)) (fun r => nI (pr 3 r)) (fun r => nI (pr 2 r)) (fun r => nI (pr 4 r)) (fun r => nI (pr 5 r)) pr := ⟨hP.1, fun r hr => ⟨hP.2 r hr, rfl, rfl, rfl, rfl, rfl, rfl⟩⟩
    obtain ⟨b, x2, d, -, t2, le2, hb, hb0, hcl, hsd, hinv, hpr⟩ := l48_l (chg := 0) (c2 := fun _ => 0) hR (fun _ _ _ _ => none) 0 0 R 0 (R + 1) 0 x (fun j => nI (x j)) (by omega) (by omega) (Or.inl rfl) (fun j hj => ⟨rfl, hv j hj⟩)
    by_cases h0 : b = 0
    · exact ⟨x, ⟨hv, hle, fun r hr => hcl h0 r (Nat.zero_le _) hr, hy⟩, hs⟩
    · have hlow : ∃ j, j < 3072 ∧ x2 j < x j := by
        apply Classical.byContradiction
        intro hn
        apply h0
        refine hb0.mpr ⟨rfl, fun j hj => Nat.le_antisymm (le2 j) (Nat.not_lt.mp (fun z => hn ⟨j, hj, z⟩))⟩
      have hlt := sumN_lt 3072 (fun j _ => le2 j) hlow
      exact ih x2 (by omega) (fun j hj => (t2 j hj).2) (fun j hj => Nat.le_trans (le2 j) (hle j hj)) (hinv (fun z => sup y0 z R pr) hs (fun r x' x'' a b c => sup_step r x' x'' a b c)) (fun y h1 h2 => hsd y (hy y h1 h2) h2)
theorem ex_D {y0 : Nat → Nat} {R : Nat} {pr : Nat → Nat → Nat} (hP : okPr R pr) (hv : vals y0) : ∃ D, isD y0 R pr D ∧ sup y0 D R pr :=
  ex_D_from hP (sumN y0 3072 + 1) y0 (by omega) hv (fun _ _ => Nat.le_refl _) (sup_start y0 R pr) (fun _ h _ => h)
def cntD (D x : Nat → Nat) : Nat := sumN (fun j => if x j = D j then 1 else 0) 3072
theorem cntD_le (D x : Nat → Nat) : cntD D x ≤ 3072 := sumN_bd 3072 (fun j _ => by by_cases h : x j = D j <;> simp [h])
theorem cntD_lt {D x x2 : Nat → Nat} (h1 : ∀ j, j < 3072 → D j ≤ x2 j) (h2 : ∀ j, x2 j ≤ x j) (h : ∃ j, j < 3072 ∧ ¬ x j = D j ∧ x2 j = D j) : cntD D x < cntD D x2 := by
  refine sumN_lt 3072 (fun j hj => ?_) ?_
  · by_cases e : x j = D j
    · have e2 : x2 j = D j := by have := h1 j hj; have := h2 j; omega
      simp [e, e2]
    · simp [e]
  · obtain ⟨j, hj, e, e2⟩ := h
    exact ⟨j, hj, by simp [e, e2]⟩
