/-! ===== pure rows 73: the reference's loop is the machine ===== -/
def vIx (VN : Nat → List Nat) (g l : Nat) (W : List Nat) : Nat := if 0 < g ∧ VN 0 = W then 0 else if 1 < g ∧ VN 1 = W then 1 else if 2 < g ∧ VN 2 = W then 2 else if 0 < l ∧ VN 3 = W then 3 else if 1 < l ∧ VN 4 = W then 4 else 5
theorem vIx_is {VN : Nat → List Nat} {g l : Nat} (hg : g ≤ 3) (hl : l ≤ 2) (W : List Nat) : vIs VN g l W (vIx VN g l W) := by
  unfold vIx
  by_cases h0 : 0 < g ∧ VN 0 = W
  · rw [if_pos h0]; exact Or.inl ⟨Or.inl h0.1, h0.2⟩
  · rw [if_neg h0]
    by_cases h1 : 1 < g ∧ VN 1 = W
    · rw [if_pos h1]; exact Or.inl ⟨Or.inl h1.1, h1.2⟩
    · rw [if_neg h1]
      by_cases h2 : 2 < g ∧ VN 2 = W
      · rw [if_pos h2]; exact Or.inl ⟨Or.inl h2.1, h2.2⟩
      · rw [if_neg h2]
        by_cases h3 : 0 < l ∧ VN 3 = W
        · rw [if_pos h3]; exact Or.inl ⟨Or.inr ⟨by decide, by omega⟩, h3.2⟩
        · rw [if_neg h3]
          by_cases h4 : 1 < l ∧ VN 4 = W
          · rw [if_pos h4]; exact Or.inl ⟨Or.inr ⟨by decide, by omega⟩, h4.2⟩
          · rw [if_neg h4]
            refine Or.inr ⟨rfl, fun v hv z => ?_⟩
            have hc : v = 0 ∨ v = 1 ∨ v = 2 ∨ v = 3 ∨ v = 4 := by rcases hv with w | w <;> omega
            rcases hc with c | c | c | c | c
            · subst c; exact h0 ⟨by rcases hv with w | w <;> omega, z⟩
            · subst c; exact h1 ⟨by rcases hv with w | w <;> omega, z⟩
            · subst c; exact h2 ⟨by rcases hv with w | w <;> omega, z⟩
            · subst c; exact h3 ⟨by rcases hv with w | w <;> omega, z⟩
            · subst c; exact h4 ⟨by rcases hv with w | w <;> omega, z⟩
theorem vIx_le (VN : Nat → List Nat) (g l : Nat) (W : List Nat) (hg : g ≤ 3) (hl : l ≤ 2) : vIx VN g l W ≤ 5 := by
  rcases vIx_is (VN := VN) hg hl W with ⟨a | a, -⟩ | ⟨a, -⟩ <;> omega
def tV (B : Nat → Nat) (N : Nat) (VN : Nat → List Nat) (g l f : Nat) : Nat := if vIx VN g l (wj B f (tL B N f)) = 5 then 99 else if vIx VN g l (wj B f (tL B N f)) < 3 then 16 + vIx VN g l (wj B f (tL B N f)) else 21 + vIx VN g l (wj B f (tL B N f))
def tX (B : Nat → Nat) (N f : Nat) : Nat := tF B N (tE B N f)
theorem tL_pos {B : Nat → Nat} {N f : Nat} (h : f < N) (hl : isLt (B f) = true) : 1 ≤ tL B N f ∧ f + tL B N f ≤ N := by
  unfold tL
  obtain ⟨k, hk⟩ : ∃ k, N - f = k + 1 := ⟨N - f - 1, by omega⟩
  rw [hk]
  have e : ln B f (k + 1) 0 = if isNB (B (f + 0)) = true then ln B f k (0 + 1) else 0 := rfl
  have q : isNB (B (f + 0)) = true := by show isNB (B f) = true; unfold isNB; rw [hl]; rfl
  rw [e, if_pos q]
  have := ln_le (B := B) (f := f) k (0 + 1)
  omega
theorem tE_le {B : Nat → Nat} {N f : Nat} (h : f ≤ N) : tE B N f ≤ N ∧ f ≤ tE B N f ∧ (f < N → f < tE B N f) := by
  by_cases q : f < N
  · by_cases w : isLt (B f) = true
    · rw [(tK_word q w).2]; have := tL_pos q w; omega
    · rw [(tK_mark q w).2]; omega
  · rw [(tK_out (B := B) q).2]; omega
theorem tF_le {B : Nat → Nat} {N i : Nat} (h : i ≤ N) : tF B N i ≤ N ∧ i ≤ tF B N i := by
  unfold tF
  have := sk_le (B := B) (N - i) i
  omega
theorem t_adv (B : Nat → Nat) (N : Nat) : adv (tK B N) (tX B N) N := by
  intro f hf hk
  have hlt : f < N := by
    by_cases q : f < N
    · exact q
    · exact absurd (tK_out (B := B) q).1 hk
  have h1 := tE_le (B := B) hf
  have h2 := tF_le (B := B) h1.1
  unfold tX
  omega
/-- how many open brackets and bangs wait -/
def dp : List Nat → Nat
  | [] => 0
  | a :: t => dp t + if a = 33 ∨ a = 40 then 1 else 0
def opsOk (S : List Nat) : Prop := ∀ a, a ∈ S → a = 33 ∨ a = 38 ∨ a = 40 ∨ a = 124
theorem opsOk_t {a : Nat} {S : List Nat} (h : opsOk (a :: S)) : opsOk S := fun b hb => h b (List.mem_cons_of_mem a hb)
theorem dp_bang : ∀ S : List Nat, dp (noBang S) + bangs S = dp S ∧ (opsOk S → opsOk (noBang S)) := by
  intro S
  induction S with
  | nil => exact ⟨rfl, id⟩
  | cons a t ih =>
    have e1 : noBang (a :: t) = if a = 33 then noBang t else a :: t := rfl
    have e2 : bangs (a :: t) = if a = 33 then bangs t + 1 else 0 := rfl
    have e3 : dp (a :: t) = dp t + if a = 33 ∨ a = 40 then 1 else 0 := rfl
    by_cases h : a = 33
    · rw [e1, e2, e3, if_pos h, if_pos h, if_pos (Or.inl h)]
      exact ⟨by omega, fun z => ih.2 (opsOk_t z)⟩
    · rw [e1, e2, if_neg h, if_neg h]
      exact ⟨rfl, id⟩
theorem dp_red (ors : Bool) : ∀ S : List Nat, dp (redS ors S) = dp S ∧ (opsOk S → opsOk (redS ors S)) := by
  intro S
  induction S with
  | nil => exact ⟨rfl, id⟩
  | cons a t ih =>
    have e1 : redS ors (a :: t) = if a = 38 ∨ (ors = true ∧ a = 124) then redS ors t else a :: t := rfl
    have e3 : dp (a :: t) = dp t + if a = 33 ∨ a = 40 then 1 else 0 := rfl
    by_cases h : a = 38 ∨ (ors = true ∧ a = 124)
    · rw [e1, if_pos h, e3, if_neg (by omega)]
      exact ⟨ih.1, fun z => ih.2 (opsOk_t z)⟩
    · rw [e1, if_neg h]
      exact ⟨rfl, id⟩
theorem opsOk_lt {S : List Nat} (h : opsOk S) : ∀ a, a ∈ S → a < 256 := fun a ha => by have := h a ha; omega
