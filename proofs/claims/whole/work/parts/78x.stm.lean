/-! ===== pure rows 100: the names of the procedures ===== -/
def pNm (PN : Nat → List Nat) (np : Nat) : Prop := np ≤ 6 ∧ (∀ q, q < np → nameOk (PN q)) ∧ ∀ q r, q < np → r < np → PN q = PN r → q = r
theorem c_findProc {PN : Nat → List Nat} {np : Nat} {c4 : Nat → Int64} (hP : pNm PN np) (hc : ∀ q, q < np → c4 q = nC (PN q)) {W : List Nat} (hW : nameOk W) : ∃ v, fX2_findProcedure (nC W) (nI np) c4 = some (v, ()) ∧ ((∃ q, q < np ∧ PN q = W ∧ v = nI q) ∨ ((∀ q, q < np → ¬ PN q = W) ∧ v = -1)) := by
  have key : ∀ (r i n : Nat), i + r = np → r < n → (∀ q, q < i → ¬ PN q = W) → ∃ v, fX2_findProcedure_l2 (nI np) c4 n (nC W) (nI i) = some (v, ()) ∧ ((∃ q, q < np ∧ PN q = W ∧ v = nI q) ∨ ((∀ q, q < np → ¬ PN q = W) ∧ v = -1)) := by
    intro r
    induction r with
    | zero =>
      intro i n hi hn hno
      obtain ⟨n, rfl⟩ : ∃ v, n = v + 1 := ⟨n - 1, by omega⟩
      refine ⟨-1, ?_, Or.inr ⟨fun q hq => hno q (by omega), rfl⟩⟩
      show fX2_findProcedure_b2 (nI np) c4 _ (nC W) (nI i) = _
      unfold fX2_findProcedure_b2
      rw [if_pos (nI_le (a := np) (b := i) (by omega) (by have := hP.1; omega))]
    | succ r ih =>
      intro i n hi hn hno
      obtain ⟨n, rfl⟩ : ∃ v, n = v + 1 := ⟨n - 1, by omega⟩
      have h6 := hP.1
      have hk := hP.2.1 i (by omega)
      have e1 : nI i + 1 = nI (i + 1) := nI_add _ 1
      show ∃ v, fX2_findProcedure_b2 (nI np) c4 _ (nC W) (nI i) = _ ∧ _
      unfold fX2_findProcedure_b2
      rw [if_neg (Int32.not_le.mpr (nI_lt (a := i) (b := np) (by omega) (by omega))), bd_eq _ (inb_nI (j := i) (n := 6) (by omega) (by decide)), nm_q, nI_clamp (n := i) (by omega), hc i (by omega), nm_q]
      by_cases hq : PN i = W
      · rw [if_pos ((lg_cmp_eq _ _).mpr (congrArg nC hq))]
        exact ⟨_, rfl, Or.inl ⟨i, by omega, hq, rfl⟩⟩
      · rw [if_neg (fun z => hq ((nC_eq hk.1 hk.2 hW.1 hW.2).mp ((lg_cmp_eq _ _).mp z))), nm_q, e1]
        refine ih (i + 1) n (by omega) (by omega) (fun q hq2 => ?_)
        by_cases hqi : q = i
        · rw [hqi]; exact hq
        · exact hno q (by omega)
  obtain ⟨fu, hfu, hfg⟩ := fu_any
  unfold fX2_findProcedure
  rw [hfu]
  exact key np 0 fu (by omega) (by have := hP.1; omega) (fun q hq => by omega)
theorem r_twice {PN : Nat → List Nat} {np : Nat} {c2 : Nat → Int64} (hP : pNm PN np) (hc : ∀ q, q < np → c2 q = nM (PN q)) {W : List Nat} (hW : nameOk W) (sz : Int32) (m : Nat → Int32) (fr to tk wr wa gl st cd bl op os dd : Int32) (c3 c4 c5 c6 c7 c8 : Nat → Int32) (c9 c10 : Nat → Int64) (c11 c12 c13 c14 c15 c16 c17 c18 c19 c20 c21 : Nat → Int32) (c22 : Nat → Int64) (c23 : Nat → Int32) : ∀ (r i n : Nat) (y1 : Int32), i + r = np → r < n → (y1 = 0 ∨ y1 = 1) → ∃ (y : Int32) (u : Nat), fX11_takeProcedure_l59 sz m n y1 (nI i) fr to tk (nM W) wr wa gl (nI np) st cd bl op os dd c2 c3 c4 c5 c6 c7 c8 c9 c10 c11 c12 c13 c14 c15 c16 c17 c18 c19 c20 c21 c22 c23 = fX11_takeProcedure_b59 sz m (fX11_takeProcedure_l59 sz m u) y (nI np) fr to tk (nM W) wr wa gl (nI np) st cd bl op os dd c2 c3 c4 c5 c6 c7 c8 c9 c10 c11 c12 c13 c14 c15 c16 c17 c18 c19 c20 c21 c22 c23 ∧ (y = 0 ∨ y = 1) ∧ (y = 0 ↔ y1 = 0 ∧ ∀ q, i ≤ q → q < np → ¬ PN q = W) := by
  intro r
  induction r with
  | zero =>
    intro i n y1 hi hn hy
    obtain ⟨n, rfl⟩ : ∃ v, n = v + 1 := ⟨n - 1, by omega⟩
    have : i = np := by omega
    subst this
    exact ⟨y1, n, rfl, hy, ⟨fun z => ⟨z, fun q h1 h2 => by omega⟩, fun z => z.1⟩⟩
  | succ r ih =>
    intro i n y1 hi hn hy
    obtain ⟨n, rfl⟩ : ∃ v, n = v + 1 := ⟨n - 1, by omega⟩
    have h6 := hP.1
    have hk := hP.2.1 i (by omega)
    have e1 : nI i + 1 = nI (i + 1) := nI_add _ 1
    have hne := Int32.not_le.mpr (nI_lt (a := i) (b := np) (by omega) (by omega))
    rcases hy with hy | hy
    · subst hy
      by_cases hq : PN i = W
      · obtain ⟨y, u, e, h1, h2⟩ := ih (i + 1) n 1 (by omega) (by omega) (Or.inr rfl)
        refine ⟨y, u, ?_, h1, ⟨fun z => absurd (h2.mp z).1 n10, fun z => absurd hq (z.2 i (Nat.le_refl _) (by omega))⟩⟩
        rw [← e]
        show fX11_takeProcedure_b59 sz m _ 0 (nI i) fr to tk (nM W) wr wa gl (nI np) st cd bl op os dd c2 c3 c4 c5 c6 c7 c8 c9 c10 c11 c12 c13 c14 c15 c16 c17 c18 c19 c20 c21 c22 c23 = _
        unfold fX11_takeProcedure_b59 fX11_takeProcedure_p85 fX11_takeProcedure_p90
        rw [if_neg hne, if_pos rfl, bd_eq _ (inb_nI (j := i) (n := 6) (by omega) (by decide)), nm_q, nI_clamp (n := i) (by omega), hc i (by omega), nm_q, if_pos ((lg_cmp_eq _ _).mpr (congrArg nM hq)), nm_q, e1]
      · obtain ⟨y, u, e, h1, h2⟩ := ih (i + 1) n 0 (by omega) (by omega) (Or.inl rfl)
        refine ⟨y, u, ?_, h1, ⟨fun z => ⟨rfl, fun q hq1 hq2 => ?_⟩, fun z => h2.mpr ⟨rfl, fun q hq1 hq2 => z.2 q (by omega) hq2⟩⟩⟩
        · rw [← e]
          show fX11_takeProcedure_b59 sz m _ 0 (nI i) fr to tk (nM W) wr wa gl (nI np) st cd bl op os dd c2 c3 c4 c5 c6 c7 c8 c9 c10 c11 c12 c13 c14 c15 c16 c17 c18 c19 c20 c21 c22 c23 = _
          unfold fX11_takeProcedure_b59 fX11_takeProcedure_p90
          rw [if_neg hne, if_pos rfl, bd_eq _ (inb_nI (j := i) (n := 6) (by omega) (by decide)), nm_q, nI_clamp (n := i) (by omega), hc i (by omega), nm_q, if_neg (fun z => hq ((nM_eq hk.1 hk.2 hW.1 hW.2).mp ((lg_cmp_eq _ _).mp z))), nm_q, e1]
        · by_cases hqi : q = i
          · rw [hqi]; exact hq
          · exact (h2.mp z).2 q (by omega) hq2
    · subst hy
      obtain ⟨y, u, e, h1, h2⟩ := ih (i + 1) n 1 (by omega) (by omega) (Or.inr rfl)
      refine ⟨y, u, ?_, h1, ⟨fun z => absurd (h2.mp z).1 n10, fun z => absurd z.1 n10⟩⟩
      rw [← e]
      show fX11_takeProcedure_b59 sz m _ 1 (nI i) fr to tk (nM W) wr wa gl (nI np) st cd bl op os dd c2 c3 c4 c5 c6 c7 c8 c9 c10 c11 c12 c13 c14 c15 c16 c17 c18 c19 c20 c21 c22 c23 = _
      unfold fX11_takeProcedure_b59 fX11_takeProcedure_p85 fX11_takeProcedure_p90
      rw [if_neg hne, if_neg n10, nm_q, e1]
