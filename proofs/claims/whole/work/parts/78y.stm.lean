/-! ===== pure rows 101: a procedure, the class ===== -/
def dpN (PN : Nat → List Nat) (np : Nat) (W : List Nat) : Bool := decide (6 ≤ np) || (List.range np).any (fun q => decide (PN q = W))
theorem dpN_t {PN : Nat → List Nat} {np : Nat} {W : List Nat} : dpN PN np W = true ↔ 6 ≤ np ∨ ∃ q, q < np ∧ PN q = W := by
  unfold dpN
  rw [Bool.or_eq_true, decide_eq_true_eq, List.any_eq_true]
  constructor
  · rintro (h | ⟨q, h1, h2⟩)
    · exact Or.inl h
    · exact Or.inr ⟨q, List.mem_range.mp h1, of_decide_eq_true h2⟩
  · rintro (h | ⟨q, h1, h2⟩)
    · exact Or.inl h
    · exact Or.inr ⟨q, List.mem_range.mpr h1, decide_eq_true h2⟩
/-- the head of a procedure, up to its statements: its name's token, where they begin, how many variables, and their names -/
def hdP (B : Nat → Nat) (N : Nat) (PN : Nat → List Nat) (np g : Nat) (VN : Nat → List Nat) (f : Nat) : Except (Nat × Nat) (Nat × Nat × Nat × (Nat → List Nat)) :=
  if tK B N f = 260 then (match goT B N (tX B N f) with
    | .error e => .error e
    | .ok f1 => if tK B N f1 = 258 then (if dpN PN np (wj B f1 (tL B N f1)) = true then .error (3, f1) else match goT B N (tX B N f1) with
        | .error e => .error e
        | .ok f2 => match opT B N 0 f2 with
          | .error e => .error e
          | .ok f3 => if tK B N f3 = 259 then (match goT B N (tX B N f3) with
              | .error e => .error e
              | .ok f4 => match vL B N true 2 g 0 VN f4 with
                | .error e => .error e
                | .ok q => .ok (f1, q.1, q.2.2.1, q.2.2.2))
            else .ok (f1, f3, 0, VN)) else .error (2, f1)) else .error (2, f)
abbrev PcO : Type := Int32 × Int32 × Int32 × Int64 × Int32 × Int32 × Int32 × Int32 × Int32 × Int32 × (Nat → Int64) × (Nat → Int64) × (Nat → Int32) × (Nat → Int32) × (Nat → Int32) × (Nat → Int64) × (Nat → Int32) × (Nat → Int32) × (Nat → Int32) × (Nat → Int32) × (Nat → Int32) × (Nat → Int32) × (Nat → Int64) × (Nat → Int32) × (Nat → Int32)
noncomputable def fPc (lo t a : Int32) (nm0 : Int64) (fl fa sz nx : Int32) (c : Nat → Int32) (gl pr st : Int32) (c4 c5 : Nat → Int64) (R : CT) (c18 : Nat → Int32) : Option PcO := fX2_readProcedure lo t a nm0 fl fa sz nx c gl pr st c4 c5 R.1 R.2.1 R.2.2.1 R.2.2.2.1 R.2.2.2.2.1 R.2.2.2.2.2.1 R.2.2.2.2.2.2.1 R.2.2.2.2.2.2.2.1 R.2.2.2.2.2.2.2.2.1 R.2.2.2.2.2.2.2.2.2.1 R.2.2.2.2.2.2.2.2.2.2.1 R.2.2.2.2.2.2.2.2.2.2.2 c18
noncomputable def fPd (sz : Int32) (c : Nat → Int32) (y1 lo t a : Int32) (nm0 : Int64) (fl fa nx gl pr st : Int32) (c4 c5 : Nat → Int64) (R : CT) (c18 : Nat → Int32) : Option PcO := fX2_readProcedure_p135 sz c y1 lo t a nm0 fl fa nx gl pr st c4 c5 R.1 R.2.1 R.2.2.1 R.2.2.2.1 R.2.2.2.2.1 R.2.2.2.2.2.1 R.2.2.2.2.2.2.1 R.2.2.2.2.2.2.2.1 R.2.2.2.2.2.2.2.2.1 R.2.2.2.2.2.2.2.2.2.1 R.2.2.2.2.2.2.2.2.2.2.1 R.2.2.2.2.2.2.2.2.2.2.2 c18
theorem c_procF {fl : Int32} (h : ¬ fl = 0) (lo a : Int32) (nm0 : Int64) (fa sz nx : Int32) (c : Nat → Int32) (gl pr st : Int32) (c4 c5 : Nat → Int64) (R : CT) (c18 : Nat → Int32) : fPc lo 257 a nm0 fl fa sz nx c gl pr st c4 c5 R c18 = some (lo, 257, a, nm0, fl, fa, nx, gl, pr, st, c4, c5, R.1, R.2.1, R.2.2.1, R.2.2.2.1, R.2.2.2.2.1, R.2.2.2.2.2.1, R.2.2.2.2.2.2.1, R.2.2.2.2.2.2.2.1, R.2.2.2.2.2.2.2.2.1, R.2.2.2.2.2.2.2.2.2.1, R.2.2.2.2.2.2.2.2.2.2.1, R.2.2.2.2.2.2.2.2.2.2.2, c18) := by
  unfold fPc fX2_readProcedure
  rw [c_skipF h (by decide), ob_s, if_pos rfl]
/-- behind a fault the rest of a procedure does nothing -/
theorem c_pdF {fl : Int32} (h : ¬ fl = 0) {np : Nat} (hnp : np < 6) (lo a : Int32) (nm0 : Int64) (fa sz nx : Int32) (c : Nat → Int32) (gl pr st : Int32) (c4 c5 : Nat → Int64) (R : CT) (c18 : Nat → Int32) : ∃ o : PcO, fPd sz c (nI np) lo 257 a nm0 fl fa nx gl pr st c4 c5 R c18 = some o ∧ o.2.1 = 257 ∧ o.2.2.2.2.1 = fl ∧ o.2.2.2.2.2.1 = fa := by
  have e : fX2_readStatements (-1) 1 lo 257 a nm0 fl fa sz nx gl pr st R.1 R.2.1 R.2.2.1 R.2.2.2.1 R.2.2.2.2.1 R.2.2.2.2.2.1 R.2.2.2.2.2.2.1 R.2.2.2.2.2.2.2.1 R.2.2.2.2.2.2.2.2.1 R.2.2.2.2.2.2.2.2.2.1 c c5 R.2.2.2.2.2.2.2.2.2.2.1 R.2.2.2.2.2.2.2.2.2.2.2 = some (-1, 257, a, nm0, fl, fa, nx, st, R) := c_stsF 11 (-1) 1 lo a nm0 fl fa sz nx gl pr st c c5 R
  unfold fPd fX2_readProcedure_p135 fX2_readProcedure_p160
  rw [e, ob_s, if_pos rfl, bd_eq _ (inb_nI (j := np) (n := 6) hnp (by decide)), nm_q]
  dsimp only
  rw [c_skipF h (by decide), ob_s]
  exact ⟨_, rfl, rfl, rfl, rfl⟩
theorem c_procA {B : Nat → Nat} {N : Nat} {c m : Nat → Int32} (h : txt B N c m) {VN PN : Nat → List Nat} {g np f : Nat} {c4 c5 : Nat → Int64} (hv : vNm VN g 0) (hvc : vC VN g 0 c5) (hP : pNm PN np) (hc4 : ∀ q, q < np → c4 q = nC (PN q)) {t a : Int32} {nm0 : Int64} {fl fa nx : Int32} (hs : scO B N f t a nm0 fl fa nx) (lo st : Int32) (R : CT) (c18 : Nat → Int32) :
    match hdP B N PN np g VN f with
      | .error e => ∃ o : PcO, fPc lo t a nm0 fl fa (nI N) nx c (nI g) (nI np) st c4 c5 R c18 = some o ∧ scF e o.2.1 o.2.2.2.2.1 o.2.2.2.2.2.1
      | .ok x => np < 6 ∧ ∃ (t2 a2 : Int32) (nm2 : Int64) (fl2 fa2 nx2 : Int32) (d5 : Nat → Int64), fPc lo t a nm0 fl fa (nI N) nx c (nI g) (nI np) st c4 c5 R c18 = fPd (nI N) c (nI np) (nI x.2.2.1) t2 a2 nm2 fl2 fa2 nx2 (nI g) (nI (np + 1)) st (vp_updL c4 np (nC (wj B x.1 (tL B N x.1)))) d5 R c18 ∧ scO B N x.2.1 t2 a2 nm2 fl2 fa2 nx2 ∧ vC x.2.2.2 g x.2.2.1 d5 := by
  have h6 := hP.1
  obtain ⟨z, t1, a1, nm1, fl1, fa1, nx1, e1, s1, hz, hz2⟩ := c_skipR h (r := .ok f) hs (w := 260) (by decide) (by decide)
  have e1 : fX4_skipToken 260 t a nm0 fl fa (nI N) nx c = some (z, t1, a1, nm1, fl1, fa1, nx1) := e1
  have s1 : scR B N (skT B N 260 f) t1 a1 nm1 fl1 fa1 nx1 := s1
  have hz2 := hz2 f rfl
  unfold fPc fX2_readProcedure hdP
  rw [e1, ob_s]
  unfold skT at s1
  by_cases h260 : tK B N f = 260
  · have hz0 : ¬ z = 0 := fun w => (hz2.mp w) h260
    rw [if_pos h260] at s1 ⊢
    rw [if_neg hz0]
    dsimp only
    cases hg : goT B N (tX B N f) with
    | error e =>
      rw [hg] at s1
      obtain ⟨g1, g2, g3, g4⟩ := s1
      subst g1
      rw [if_neg (by decide), c_failF g4, ob_s]
      exact ⟨_, rfl, rfl, g2, g3, g4⟩
    | ok f1 =>
      rw [hg] at s1
      have hle1 := tK_le B N f1
      have s10 := s1
      obtain ⟨x1, x2, x3, x4, x5, x6, x7⟩ := s1
      dsimp only
      by_cases h258 : tK B N f1 = 258
      · rw [if_pos h258, if_pos (show t1 = 258 from x3.trans (congrArg nI h258))]
        have hW := name_ok h x2 (show 258 ≤ tK B N f1 by omega)
        have hnm : nm1 = nC (wj B f1 (tL B N f1)) := x7 (by omega)
        by_cases hdp : dpN PN np (wj B f1 (tL B N f1)) = true
        · rw [if_pos hdp]
          obtain ⟨t3, fl3, fa3, e3, h3⟩ := c_failR s10 3 (by decide)
          have e3' : fX4_failHere 3 t1 a1 fl1 fa1 = some (t3, fl3, fa3) := e3
          unfold fX2_readProcedure_p65
          rw [e3', ob_s]
          by_cases hn6 : 6 ≤ np
          · rw [if_pos (show (6 : Int32) ≤ nI np from nI_le (a := 6) (b := np) hn6 (by omega))]
            exact ⟨_, rfl, h3⟩
          · obtain ⟨v, ev, hvv⟩ := c_findProc hP hc4 hW
            rw [← hnm] at ev
            rw [if_neg (Int32.not_le.mpr (show nI np < (6 : Int32) from nI_lt (a := np) (b := 6) (by omega) (by decide))), ev, ob_s]
            rcases hvv with ⟨q, q1, q2, q3⟩ | ⟨q1, q2⟩
            · rw [q3, if_neg (nI_m1 (by omega))]
              exact ⟨_, rfl, h3⟩
            · rcases dpN_t.mp hdp with w | ⟨w, w1, w2⟩
              · exact absurd w hn6
              · exact absurd w2 (q1 w w1)
        · have hno := fun w => hdp (dpN_t.mpr w)
          have hn6 : np < 6 := by
            by_cases q : 6 ≤ np
            · exact absurd (Or.inl q) hno
            · omega
          obtain ⟨v, ev, hvv⟩ := c_findProc hP hc4 hW
          rw [← hnm] at ev
          have hv1 : v = -1 := by
            rcases hvv with ⟨q, q1, q2, q3⟩ | ⟨q1, q2⟩
            · exact absurd (Or.inr ⟨q, q1, q2⟩) hno
            · exact q2
          have e7 : nI np + 1 = nI (np + 1) := nI_add _ 1
          obtain ⟨t4, a4, nm4, fl4, fa4, nx4, e4, s4⟩ := c_goR h (r := .ok f1) s10
          have s4 : scR B N (goT B N (tX B N f1)) t4 a4 nm4 fl4 fa4 nx4 := s4
          obtain ⟨t5, a5, nm5, fl5, fa5, nx5, e5, s5⟩ := c_openR h s4 (d := 0) (by decide)
          have e5 : fX2_readOpenBrace 0 t4 a4 nm4 fl4 fa4 (nI N) nx4 c = some (t5, a5, nm5, fl5, fa5, nx5) := e5
          rw [if_neg hdp, if_neg (Int32.not_le.mpr (show nI np < (6 : Int32) from nI_lt (a := np) (b := 6) hn6 (by decide))), ev, ob_s, if_pos hv1, bd_eq _ (inb_nI (j := np) (n := 6) hn6 (by decide)), nm_q, nm_q, nI_clamp (n := np) (by omega), e7, e4, ob_s]
          dsimp only
          rw [e5, ob_s]
          dsimp only
          have bad : ∀ e : Nat × Nat, scF e t5 fl5 fa5 → ∃ o : PcO, (if t5 = 259 then ob (fX2_readVariables 1 0 t5 a5 nm5 fl5 fa5 (nI N) nx5 c (nI g) c5) fun o17 => fX2_readProcedure_p135 (nI N) c (nI np) o17.1 o17.2.1 o17.2.2.1 o17.2.2.2.1 o17.2.2.2.2.1 o17.2.2.2.2.2.1 o17.2.2.2.2.2.2.1 o17.2.2.2.2.2.2.2.1 (nI (np + 1)) st (vp_updL c4 np nm1) o17.2.2.2.2.2.2.2.2 R.1 R.2.1 R.2.2.1 R.2.2.2.1 R.2.2.2.2.1 R.2.2.2.2.2.1 R.2.2.2.2.2.2.1 R.2.2.2.2.2.2.2.1 R.2.2.2.2.2.2.2.2.1 R.2.2.2.2.2.2.2.2.2.1 R.2.2.2.2.2.2.2.2.2.2.1 R.2.2.2.2.2.2.2.2.2.2.2 c18
              else fX2_readProcedure_p135 (nI N) c (nI np) 0 t5 a5 nm5 fl5 fa5 nx5 (nI g) (nI (np + 1)) st (vp_updL c4 np nm1) c5 R.1 R.2.1 R.2.2.1 R.2.2.2.1 R.2.2.2.2.1 R.2.2.2.2.2.1 R.2.2.2.2.2.2.1 R.2.2.2.2.2.2.2.1 R.2.2.2.2.2.2.2.2.1 R.2.2.2.2.2.2.2.2.2.1 R.2.2.2.2.2.2.2.2.2.2.1 R.2.2.2.2.2.2.2.2.2.2.2 c18) = some o ∧ scF e o.2.1 o.2.2.2.2.1 o.2.2.2.2.2.1 := by
            intro e hf
            obtain ⟨g1, g2, g3, g4⟩ := hf
            subst g1
            rw [if_neg (by decide)]
            obtain ⟨o, eo, i1, i2, i3⟩ := c_pdF g4 hn6 0 a5 nm5 fa5 (nI N) nx5 c (nI g) (nI (np + 1)) st (vp_updL c4 np nm1) c5 R c18
            refine ⟨o, eo, ?_⟩
            rw [i1, i2, i3]
            exact ⟨rfl, g2, g3, g4⟩
          cases hg2 : goT B N (tX B N f1) with
          | error e =>
            rw [hg2] at s5
            exact bad e s5
          | ok f2 =>
            rw [hg2] at s5
            have s5 : scR B N (opT B N 0 f2) t5 a5 nm5 fl5 fa5 nx5 := s5
            dsimp only
            cases hop : opT B N 0 f2 with
            | error e =>
              rw [hop] at s5
              exact bad e s5
            | ok f3 =>
              rw [hop] at s5
              have s50 := s5
              obtain ⟨y1, y2, y3, y4, y5, y6, y7⟩ := s5
              have hle3 := tK_le B N f3
              dsimp only
              by_cases h259 : tK B N f3 = 259
              · rw [if_pos h259, if_pos (show t5 = 259 from y3.trans (congrArg nI h259))]
                obtain ⟨t6, a6, nm6, fl6, fa6, nx6, e6, s6⟩ := c_goR h (r := .ok f3) s50
                have s6 : scR B N (goT B N (tX B N f3)) t6 a6 nm6 fl6 fa6 nx6 := s6
                obtain ⟨fu, hfu, hfg⟩ := fu_any
                obtain ⟨fu, rfl⟩ : ∃ v, fu = v + 1 := ⟨fu - 1, by omega⟩
                unfold fX2_readVariables
                rw [e6, ob_s]
                dsimp only
                rw [hfu]
                cases hg4 : goT B N (tX B N f3) with
                | error e =>
                  rw [hg4] at s6
                  obtain ⟨g1, g2, g3, g4⟩ := s6
                  subst g1
                  have ev2 := c_varF (lc := 1) (lo := 0) (a := a6) (fa := fa6) (sz := nI N) (nx := nx6) (gl := nI g) (nm0 := nm6) (c3 := c5) (c := c) fu 0 g4
                  rw [ev2, ob_s]
                  obtain ⟨o, eo, i1, i2, i3⟩ := c_pdF g4 hn6 0 a6 nm6 fa6 (nI N) nx6 c (nI g) (nI (np + 1)) st (vp_updL c4 np nm1) c5 R c18
                  refine ⟨o, eo, ?_⟩
                  rw [i1, i2, i3]
                  exact ⟨rfl, g2, g3, g4⟩
                | ok f4 =>
                  rw [hg4] at s6
                  obtain ⟨lo7, t7, a7, nm7, fl7, fa7, nx7, gl7, d7, e8, s7⟩ := c_vL h (lc := true) 2 0 fu g 0 VN c5 f4 t6 a6 nm6 fl6 fa6 nx6 (by decide) (by omega) (by unfold vCap; rw [if_pos rfl]; exact ⟨rfl, hv.1⟩) hv hvc s6
                  have e8 : (ob (fX2_readVariable 1 0 t6 a6 nm6 fl6 fa6 (nI N) nx6 (nI g) c5 c) fun o5 => fX2_readVariables_l14 (nI N) c (fu + 1) 1 0 o5.1 o5.2.1 o5.2.2.1 o5.2.2.2.1 o5.2.2.2.2.1 o5.2.2.2.2.2.1 o5.2.2.2.2.2.2.1 o5.2.2.2.2.2.2.2.1 o5.2.2.2.2.2.2.2.2) = some (lo7, t7, a7, nm7, fl7, fa7, nx7, gl7, d7) := e8
                  rw [e8, ob_s]
                  dsimp only
                  cases hvl : vL B N true 2 g 0 VN f4 with
                  | error e =>
                    rw [hvl] at s7
                    obtain ⟨g1, g2, g3, g4⟩ := s7
                    subst g1
                    obtain ⟨o, eo, i1, i2, i3⟩ := c_pdF g4 hn6 lo7 a7 nm7 fa7 (nI N) nx7 c gl7 (nI (np + 1)) st (vp_updL c4 np nm1) d7 R c18
                    refine ⟨o, eo, ?_⟩
                    rw [i1, i2, i3]
                    exact ⟨rfl, g2, g3, g4⟩
                  | ok q =>
                    rw [hvl] at s7
                    obtain ⟨w1, w2, w3, w4⟩ := s7
                    have hqg : q.2.1 = g := (vL_ok h 2 g 0 VN f4 q s6.2.1 (by unfold vCap; rw [if_pos rfl]; exact ⟨rfl, hv.1⟩) hv hvl).2.2.2.2.2.2.1 rfl
                    rw [hqg] at w2 w4
                    subst w2 w3
                    rw [hnm]
                    exact ⟨hn6, t7, a7, nm7, fl7, fa7, nx7, d7, rfl, w1, w4⟩
              · rw [if_neg h259, if_neg (show ¬ t5 = 259 from fun w => h259 ((nI_eq (a := tK B N f3) (b := 259) (by omega) (by decide)).mp (y3.symm.trans w))), hnm]
                exact ⟨hn6, t5, a5, nm5, fl5, fa5, nx5, c5, rfl, s50, hvc⟩
      · obtain ⟨t3, fl3, fa3, e3, h3⟩ := c_failR s10 2 (by decide)
        have e3' : fX4_failHere 2 t1 a1 fl1 fa1 = some (t3, fl3, fa3) := e3
        rw [if_neg h258, if_neg (show ¬ t1 = 258 from fun w => h258 ((nI_eq (a := tK B N f1) (b := 258) (by omega) (by decide)).mp (x3.symm.trans w))), e3', ob_s]
        exact ⟨_, rfl, h3⟩
  · rw [if_neg h260] at s1 ⊢
    rw [if_pos (hz2.mpr h260)]
    exact ⟨_, rfl, s1⟩
/-- its statements and its closing brace -/
def fiP (B : Nat → Nat) (N : Nat) (rs : Rt) : Rt := match rs with
  | .error e => .error e
  | .ok w => match skT B N 125 w.2.1 with
    | .error e => .error e
    | .ok f9 => .ok (w.1, f9, w.2.2)
theorem c_procB {B : Nat → Nat} {N : Nat} {c m : Nat → Int32} (h : txt B N c m) {g l np n f5 : Nat} {c4 d5 : Nat → Int64} {rs : Rt} (hn6 : np < 6) (hn : n ≤ 40) (hq : ∀ q, rs = .ok q → n ≤ q.1 ∧ q.1 ≤ 40) (hS : CS B N c d5 g l np 12 1 40 f5 n rs) {t a : Int32} {nm0 : Int64} {fl fa nx : Int32} (hs : scO B N f5 t a nm0 fl fa nx) (R : CT) (c18 : Nat → Int32) :
    ∃ (lo2 t2 a2 : Int32) (nm2 : Int64) (fl2 fa2 nx2 st2 : Int32) (S : CT) (d18 : Nat → Int32), fPd (nI N) c (nI np) (nI l) t a nm0 fl fa nx (nI g) (nI (np + 1)) (nI n) c4 d5 R c18 = some (lo2, t2, a2, nm2, fl2, fa2, nx2, nI g, nI (np + 1), st2, c4, d5, S.1, S.2.1, S.2.2.1, S.2.2.2.1, S.2.2.2.2.1, S.2.2.2.2.2.1, S.2.2.2.2.2.2.1, S.2.2.2.2.2.2.2.1, S.2.2.2.2.2.2.2.2.1, S.2.2.2.2.2.2.2.2.2.1, S.2.2.2.2.2.2.2.2.2.2.1, S.2.2.2.2.2.2.2.2.2.2.2, d18) ∧ match fiP B N rs with
      | .error e => scF e t2 fl2 fa2
      | .ok q => scO B N q.2.1 t2 a2 nm2 fl2 fa2 nx2 ∧ st2 = nI q.1 ∧ eqR n S R ∧ (∀ s, n ≤ s → s < q.1 → cRw B N np q.2.2.1 q.2.2.2 s S) ∧ d18 = upd c18 np (pI (if n < q.1 then n else 40)) := by
  obtain ⟨y, t2, a2, nm2, fl2, fa2, nx2, st2, S, e, hr⟩ := hS t a nm0 fl fa nx R hs
  have e : fX2_readStatements (-1) 1 (nI l) t a nm0 fl fa (nI N) nx (nI g) (nI (np + 1)) (nI n) R.1 R.2.1 R.2.2.1 R.2.2.2.1 R.2.2.2.2.1 R.2.2.2.2.2.1 R.2.2.2.2.2.2.1 R.2.2.2.2.2.2.2.1 R.2.2.2.2.2.2.2.2.1 R.2.2.2.2.2.2.2.2.2.1 c d5 R.2.2.2.2.2.2.2.2.2.2.1 R.2.2.2.2.2.2.2.2.2.2.2 = some (y, t2, a2, nm2, fl2, fa2, nx2, st2, S) := e
  -- the entry is what the statements tell
  have e2 : fPd (nI N) c (nI np) (nI l) t a nm0 fl fa nx (nI g) (nI (np + 1)) (nI n) c4 d5 R c18 = fX2_readProcedure_p160 (nI N) c y (nI np) (nI l) t2 a2 nm2 fl2 fa2 nx2 (nI g) (nI (np + 1)) st2 c4 d5 S.1 S.2.1 S.2.2.1 S.2.2.2.1 S.2.2.2.2.1 S.2.2.2.2.2.1 S.2.2.2.2.2.2.1 S.2.2.2.2.2.2.2.1 S.2.2.2.2.2.2.2.2.1 S.2.2.2.2.2.2.2.2.2.1 S.2.2.2.2.2.2.2.2.2.2.1 S.2.2.2.2.2.2.2.2.2.2.2 c18 := by
    unfold fPd fX2_readProcedure_p135
    rw [e, ob_s]
    dsimp only
    by_cases hy : y = -1
    · rw [if_pos hy, hy]
    · rw [if_neg hy]
  rw [e2]
  unfold fX2_readProcedure_p160 fiP
  rw [bd_eq _ (inb_nI (j := np) (n := 6) hn6 (by decide)), nm_q, nI_clamp (n := np) (by omega)]
  cases rs with
  | error e1 =>
    obtain ⟨g1, g2, g3, g4⟩ := hr
    subst g1
    rw [c_skipF g4 (by decide), ob_s]
    exact ⟨_, _, _, _, _, _, _, _, S, _, rfl, rfl, g2, g3, g4⟩
  | ok w =>
    obtain ⟨h1, h2, h3, h4, h5⟩ := hr
    obtain ⟨z, t4, a4, nm4, fl4, fa4, nx4, e4, ho4, -⟩ := c_skipR h (r := .ok w.2.1) h1 (w := 125) (by decide) (by decide)
    have e4' : fX4_skipToken 125 t2 a2 nm2 fl2 fa2 (nI N) nx2 c = some (z, t4, a4, nm4, fl4, fa4, nx4) := e4
    have ho4 : scR B N (skT B N 125 w.2.1) t4 a4 nm4 fl4 fa4 nx4 := ho4
    rw [e4', ob_s]
    refine ⟨_, _, _, _, _, _, _, _, S, _, rfl, ?_⟩
    dsimp only
    cases hsk : skT B N 125 w.2.1 with
    | error e1 => rw [hsk] at ho4; exact ho4
    | ok f9 =>
      rw [hsk] at ho4
      exact ⟨ho4, h2, h4, h5, by rw [h3]⟩
