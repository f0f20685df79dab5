/-! ===== pure rows 66: variables and procedures by their names ===== -/
def nameOk (W : List Nat) : Prop := okB W ∧ W.length ≤ 8
def vOk (g l v : Nat) : Prop := v < g ∨ (3 ≤ v ∧ v < 3 + l)
/-- the names of the variables: 0 to 2 the globals, 3 and 4 the locals -/
def vNm (VN : Nat → List Nat) (g l : Nat) : Prop := g ≤ 3 ∧ l ≤ 2 ∧ (∀ v, vOk g l v → nameOk (VN v)) ∧ ∀ u v, vOk g l u → vOk g l v → VN u = VN v → u = v
def vC (VN : Nat → List Nat) (g l : Nat) (c : Nat → Int64) : Prop := ∀ v, vOk g l v → c v = nC (VN v)
def vM (VN : Nat → List Nat) (g l p : Nat) (cg : Nat → Int64) (cl : Nat → Int32) (cn : Nat → Int64) : Prop := (∀ v, v < g → cg v = nM (VN v)) ∧ cl p = nI l ∧ ∀ k, k < l → cn (2 * p + k) = nM (VN (3 + k))
def vIs (VN : Nat → List Nat) (g l : Nat) (W : List Nat) (r : Nat) : Prop := (vOk g l r ∧ VN r = W) ∨ (r = 5 ∧ ∀ v, vOk g l v → ¬ VN v = W)
def vCi (r : Nat) : Int32 := if r = 5 then -1 else nI r
def vMi (r : Nat) : Int32 := if r = 5 then -1 else nI (if r < 3 then 16 + r else 21 + r)
theorem c_findVariable {VN : Nat → List Nat} {g l : Nat} {c : Nat → Int64} (h : vNm VN g l) (hc : vC VN g l c) {W : List Nat} (hW : nameOk W) : ∃ r, vIs VN g l W r ∧ fX2_findVariable (nC W) (nI l) (nI g) c = some (vCi r, ()) := by
  obtain ⟨fu, hfu, hg⟩ := fu_any
  obtain ⟨h1, h2, h3, h4⟩ := h
  have cmp : ∀ v, vOk g l v → (lg_cmp (c v) (nC W) = 0 ↔ VN v = W) := fun v hv => by rw [lg_cmp_eq, hc v hv, nC_eq (h3 v hv).1 (h3 v hv).2 hW.1 hW.2]
  have lo : ∀ (k i n : Nat), i + k = 3 + l → 3 ≤ i → k < n → (∀ v, vOk g l v → v < i → ¬ VN v = W) → ∃ r, vIs VN g l W r ∧ fX2_findVariable_l34 (nI l) (nI g) c n (nC W) (nI i) = some (vCi r, ()) := by
    intro k
    induction k with
    | zero =>
      intro i n g1 g3 g2 hn
      obtain ⟨n, rfl⟩ : ∃ z, n = z + 1 := ⟨n - 1, by omega⟩
      refine ⟨5, Or.inr ⟨rfl, fun v hv => hn v hv ?_⟩, ?_⟩
      · rcases hv with z | z <;> omega
      · have e3 : (3 : Int32) + nI l = nI (3 + l) := nI_add 3 l
        show fX2_findVariable_b34 (nI l) (nI g) c _ (nC W) (nI i) = _
        unfold fX2_findVariable_b34
        rw [nm_q, e3, if_pos (nI_le (a := 3 + l) (b := i) (by omega) (by omega))]
        rfl
    | succ k ih =>
      intro i n g1 g3 g2 hn
      obtain ⟨n, rfl⟩ : ∃ z, n = z + 1 := ⟨n - 1, by omega⟩
      have e3 : (3 : Int32) + nI l = nI (3 + l) := nI_add 3 l
      have hv : vOk g l i := Or.inr ⟨g3, by omega⟩
      show ∃ r, vIs VN g l W r ∧ fX2_findVariable_b34 (nI l) (nI g) c (fX2_findVariable_l34 (nI l) (nI g) c n) (nC W) (nI i) = _
      unfold fX2_findVariable_b34
      rw [nm_q, e3, if_neg (nI_ge (a := i) (b := 3 + l) (by omega) (by omega)), bd_eq _ (inb_nI (j := i) (n := 5) (by omega) (by decide)), nm_q, nI_clamp (n := i) (by omega), nm_q]
      by_cases q : VN i = W
      · rw [if_pos ((cmp i hv).mpr q)]
        refine ⟨i, Or.inl ⟨hv, q⟩, ?_⟩
        unfold vCi
        rw [if_neg (show ¬ i = 5 by omega)]
      · rw [if_neg (fun z => q ((cmp i hv).mp z)), nm_q, nI_1]
        refine ih (i + 1) n (by omega) (by omega) (by omega) (fun v h5 h6 => ?_)
        by_cases w : v = i
        · rw [w]; exact q
        · exact hn v h5 (by omega)
  have gl : ∀ (k i n : Nat), i + k = g → k < n → (∀ v, v < i → ¬ VN v = W) → ∃ r, vIs VN g l W r ∧ fX2_findVariable_l2 (nI l) (nI g) c n (nC W) (nI i) = some (vCi r, ()) := by
    intro k
    induction k with
    | zero =>
      intro i n g1 g2 hn
      obtain ⟨n, rfl⟩ : ∃ z, n = z + 1 := ⟨n - 1, by omega⟩
      show ∃ r, vIs VN g l W r ∧ fX2_findVariable_b2 (nI l) (nI g) c _ (nC W) (nI i) = _
      unfold fX2_findVariable_b2
      rw [if_pos (nI_le (a := g) (b := i) (by omega) (by omega)), hfu]
      exact lo l 3 fu (by omega) (Nat.le_refl _) (by omega) (fun v h5 h6 => h5.elim (fun z => hn v (by omega)) (fun z => by omega))
    | succ k ih =>
      intro i n g1 g2 hn
      obtain ⟨n, rfl⟩ : ∃ z, n = z + 1 := ⟨n - 1, by omega⟩
      have hv : vOk g l i := Or.inl (by omega)
      show ∃ r, vIs VN g l W r ∧ fX2_findVariable_b2 (nI l) (nI g) c (fX2_findVariable_l2 (nI l) (nI g) c n) (nC W) (nI i) = _
      unfold fX2_findVariable_b2
      rw [if_neg (nI_ge (a := i) (b := g) (by omega) (by omega)), bd_eq _ (inb_nI (j := i) (n := 5) (by omega) (by decide)), nm_q, nI_clamp (n := i) (by omega), nm_q]
      by_cases q : VN i = W
      · rw [if_pos ((cmp i hv).mpr q)]
        refine ⟨i, Or.inl ⟨hv, q⟩, ?_⟩
        unfold vCi
        rw [if_neg (show ¬ i = 5 by omega)]
      · rw [if_neg (fun z => q ((cmp i hv).mp z)), nm_q, nI_1]
        refine ih (i + 1) n (by omega) (by omega) (fun v h6 => ?_)
        by_cases w : v = i
        · rw [w]; exact q
        · exact hn v (by omega)
  unfold fX2_findVariable
  rw [hfu]
  exact gl g 0 fu (by omega) (by omega) (fun v hv => by omega)
theorem r_variable {VN : Nat → List Nat} {g l p : Nat} {cg cn : Nat → Int64} {cl : Nat → Int32} (h : vNm VN g l) (hc : vM VN g l p cg cl cn) (hp : p < 6) {W : List Nat} (hW : nameOk W) {r : Nat} (hr : vIs VN g l W r) : fX11_variable (nI p) (nM W) (nI g) cg cl cn = some (vMi r, ()) := by
  obtain ⟨fu, hfu, hg⟩ := fu_any
  obtain ⟨h1, h2, h3, h4⟩ := h
  obtain ⟨m1, m2, m3⟩ := hc
  have is : ∀ v, vOk g l v → (VN v = W ↔ r = v) := by
    intro v hv
    constructor
    · intro z
      rcases hr with ⟨a, b⟩ | ⟨a, b⟩
      · exact h4 r v a hv (b.trans z.symm)
      · exact absurd z (b v hv)
    · intro z
      rcases hr with ⟨a, b⟩ | ⟨a, b⟩
      · rw [← z]; exact b
      · rcases hv with w | w <;> omega
  have r3 : r < 3 → r < g := by
    intro z
    rcases hr with ⟨a | a, b⟩ | ⟨a, b⟩ <;> omega
  have r5 : r < 3 + l ∨ r = 5 := by
    rcases hr with ⟨a | a, b⟩ | ⟨a, b⟩ <;> omega
  have lo : ∀ (k i n : Nat), i + k = l → k < n → fX11_variable_l48 (nI g) cg cl cn n (nI p) (nM W) (if r < 3 + i then vMi r else -1) (nI i) = some (vMi r, ()) := by
    intro k
    induction k with
    | zero =>
      intro i n g1 g2
      obtain ⟨n, rfl⟩ : ∃ z, n = z + 1 := ⟨n - 1, by omega⟩
      show fX11_variable_b48 (nI g) cg cl cn _ (nI p) (nM W) _ (nI i) = _
      unfold fX11_variable_b48
      rw [bd_eq _ (inb_nI (j := p) (n := 6) hp (by decide)), nm_q, nI_clamp (n := p) (by omega), m2, if_pos (nI_le (a := l) (b := i) (by omega) (by omega))]
      by_cases q : r < 3 + i
      · rw [if_pos q]
      · rw [if_neg q]
        have e : r = 5 := by omega
        unfold vMi
        rw [if_pos e]
    | succ k ih =>
      intro i n g1 g2
      obtain ⟨n, rfl⟩ : ∃ z, n = z + 1 := ⟨n - 1, by omega⟩
      have hv : vOk g l (3 + i) := Or.inr ⟨by omega, by omega⟩
      have e2 : (2 : Int32) * nI p = nI (2 * p) := pk_mul 2 p
      have cmp : lg_cmp (cn (2 * p + i)) (nM W) = 0 ↔ r = 3 + i := by
        rw [lg_cmp_eq, m3 i (by omega), nM_eq (h3 _ hv).1 (h3 _ hv).2 hW.1 hW.2]
        exact is _ hv
      have e24 : (24 : Int32) + nI i = nI (24 + i) := nI_add 24 i
      have i0 := ih (i + 1) n (by omega) (by omega)
      show fX11_variable_b48 (nI g) cg cl cn (fX11_variable_l48 (nI g) cg cl cn n) (nI p) (nM W) _ (nI i) = _
      unfold fX11_variable_b48 fX11_variable_p85
      rw [bd_eq _ (inb_nI (j := p) (n := 6) hp (by decide)), nm_q, nI_clamp (n := p) (by omega), m2, if_neg (nI_ge (a := i) (b := l) (by omega) (by omega)), nm_q, e2, nm_q, nI_add, bd_eq _ (inb_nI (j := 2 * p + i) (n := 12) (by omega) (by decide)), nm_q, nI_clamp (n := 2 * p + i) (by omega), nm_q]
      by_cases q : r = 3 + i
      · rw [if_pos (cmp.mpr q), nm_q, nm_q, nI_1, e24]
        rw [if_pos (show r < 3 + (i + 1) by omega)] at i0
        have e : vMi r = nI (24 + i) := by
          unfold vMi
          rw [if_neg (show ¬ r = 5 by omega), if_neg (show ¬ r < 3 by omega), show 21 + r = 24 + i by omega]
        rw [e] at i0 ⊢
        exact i0
      · rw [if_neg (fun z => q (cmp.mp z)), nm_q, nI_1]
        have e : (if r < 3 + i then vMi r else -1) = if r < 3 + (i + 1) then vMi r else -1 := by
          by_cases w : r < 3 + i
          · rw [if_pos w, if_pos (by omega)]
          · rw [if_neg w, if_neg (by omega)]
        rw [e]
        exact i0
  have gl : ∀ (k i n : Nat), i + k = g → k < n → fX11_variable_l6 (nI g) cg cl cn n (nI p) (nM W) (if r < i then vMi r else -1) (nI i) = some (vMi r, ()) := by
    intro k
    induction k with
    | zero =>
      intro i n g1 g2
      obtain ⟨n, rfl⟩ : ∃ z, n = z + 1 := ⟨n - 1, by omega⟩
      show fX11_variable_b6 (nI g) cg cl cn _ (nI p) (nM W) _ (nI i) = _
      unfold fX11_variable_b6
      rw [if_pos (nI_le (a := g) (b := i) (by omega) (by omega)), hfu]
      have e : (if r < i then vMi r else -1) = if r < 3 + 0 then vMi r else -1 := by
        by_cases w : r < i
        · rw [if_pos w, if_pos (by omega)]
        · rw [if_neg w, if_neg (by omega)]
      rw [e]
      exact lo l 0 fu (by omega) (by omega)
    | succ k ih =>
      intro i n g1 g2
      obtain ⟨n, rfl⟩ : ∃ z, n = z + 1 := ⟨n - 1, by omega⟩
      have hv : vOk g l i := Or.inl (by omega)
      have cmp : lg_cmp (cg i) (nM W) = 0 ↔ r = i := by
        rw [lg_cmp_eq, m1 i (by omega), nM_eq (h3 _ hv).1 (h3 _ hv).2 hW.1 hW.2]
        exact is _ hv
      have e16 : (16 : Int32) + nI i = nI (16 + i) := nI_add 16 i
      have i0 := ih (i + 1) n (by omega) (by omega)
      show fX11_variable_b6 (nI g) cg cl cn (fX11_variable_l6 (nI g) cg cl cn n) (nI p) (nM W) _ (nI i) = _
      unfold fX11_variable_b6 fX11_variable_p37
      rw [if_neg (nI_ge (a := i) (b := g) (by omega) (by omega)), bd_eq _ (inb_nI (j := i) (n := 3) (by omega) (by decide)), nm_q, nI_clamp (n := i) (by omega), nm_q]
      by_cases q : r = i
      · rw [if_pos (cmp.mpr q), nm_q, nm_q, nI_1, e16]
        rw [if_pos (show r < i + 1 by omega)] at i0
        have e : vMi r = nI (16 + i) := by
          unfold vMi
          rw [if_neg (show ¬ r = 5 by omega), if_pos (show r < 3 by omega), q]
        rw [e] at i0 ⊢
        exact i0
      · rw [if_neg (fun z => q (cmp.mp z)), nm_q, nI_1]
        have e : (if r < i then vMi r else -1) = if r < i + 1 then vMi r else -1 := by
          by_cases w : r < i
          · rw [if_pos w, if_pos (by omega)]
          · rw [if_neg w, if_neg (by omega)]
        rw [e]
        exact i0
  unfold fX11_variable
  rw [hfu]
  have := gl g 0 fu (by omega) (by omega)
  rw [if_neg (show ¬ r < 0 by omega)] at this
  exact this
