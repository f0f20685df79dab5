/-! ===== pure rows 102: a procedure, the reference ===== -/
noncomputable def rPc (sz fr to tk : Int32) (nm0 : Int64) (wr wa gl pr st cd bl op os dd : Int32) (m : Nat → Int32) (c2 : Nat → Int64) (cl : Nat → Int32) (cg cn : Nat → Int64) (M : MT) : Option RpO := fX11_takeProcedure sz fr to tk nm0 wr wa gl pr st cd bl op os dd m c2 cl M.2.2.2.2.2.2.2.2.2.2.2.1 M.2.2.2.2.2.2.2.2.2.2.2.2.1 M.2.2.2.2.2.2.2.2.2.2.1 M.2.2.2.2.2.2.2.2.2.1 M.1 cg cn M.2.1 M.2.2.1 M.2.2.2.1 M.2.2.2.2.1 M.2.2.2.2.2.1 M.2.2.2.2.2.2.1 M.2.2.2.2.2.2.2.1 M.2.2.2.2.2.2.2.2.1 M.2.2.2.2.2.2.2.2.2.2.2.2.2.1 M.2.2.2.2.2.2.2.2.2.2.2.2.2.2.1 M.2.2.2.2.2.2.2.2.2.2.2.2.2.2.2.1 M.2.2.2.2.2.2.2.2.2.2.2.2.2.2.2.2.1 M.2.2.2.2.2.2.2.2.2.2.2.2.2.2.2.2.2
def rPB (e : Nat × Nat) (o : RpO) : Prop := (o.1 = 0 ∧ o.2.2.2.2.2.1 = nI e.1 ∧ o.2.2.2.2.2.2.1 = nI e.2) ∨ (e.1 = 1 ∧ o.1 = 1 ∧ o.2.1 = nI e.2 ∧ o.2.2.2.1 = 4 ∧ o.2.2.2.2.2.1 = 0)
theorem rPB_of {e : Nat × Nat} {o : RpO} (h : rEnd e o) : rPB e o := Or.inl h
theorem r_proc7 {B : Nat → Nat} {N f : Nat} {fr to tk : Int32} {nm0 : Int64} (hs : rsO B N f fr to tk nm0) (hK : ¬ tK B N f = 260) (wa gl pr st cd bl op os dd : Int32) (m : Nat → Int32) (c2 : Nat → Int64) (cl : Nat → Int32) (cg cn : Nat → Int64) (M : MT) : ∃ o : RpO, rPc (nI N) fr to tk nm0 0 wa gl pr st cd bl op os dd m c2 cl cg cn M = some o ∧ rPB (bdK (tK B N f), f) o := by
  obtain ⟨h1, h2, h3, h4⟩ := hs
  have ei := r_isThe h4 (i := 1) (by decide)
  rw [kw_m.2.1, if_neg hK] at ei
  unfold rPc fX11_takeProcedure
  rw [h1, h3, ei, ob_s, r_may, ob_s]
  unfold bdK
  by_cases h7 : tK B N f = 257
  · rw [if_pos h7, if_pos rfl, if_pos h7]
    exact ⟨_, rfl, Or.inl ⟨rfl, (by decide : (1 : Int32) = nI 1), rfl⟩⟩
  · rw [if_neg h7, if_pos rfl, if_pos rfl, if_neg h7]
    exact ⟨_, rfl, Or.inl ⟨rfl, (by decide : (2 : Int32) = nI 2), rfl⟩⟩
theorem r_procA {B : Nat → Nat} {N : Nat} {c m : Nat → Int32} (h : txt B N c m) {VN PN : Nat → List Nat} {g np f bl : Nat} {c2 cg cn : Nat → Int64} {cl : Nat → Int32} (hf : f ≤ N) (hK : ¬ tK B N f = 257) (hv : vNm VN g 0) (hg : ∀ v, v < g → cg v = nM (VN v)) (hP : pNm PN np) (hc2 : ∀ q, q < np → c2 q = nM (PN q)) (hbl : bl < 90) {fr to tk : Int32} {nm0 : Int64} (hs : rsO B N f fr to tk nm0) (wa st cd os dd : Int32) (M : MT) :
    match hdP B N PN np g VN f with
      | .error e => ∃ o : RpO, rPc (nI N) fr to tk nm0 0 wa (nI g) (nI np) st cd (nI bl) 0 os dd m c2 cl cg cn M = some o ∧ rPB e o
      | .ok x => np < 6 ∧ ∃ (u : Nat) (fr2 to2 tk2 : Int32) (nm2 : Int64) (dl : Nat → Int32) (dn : Nat → Int64), 1999000 < u ∧ rPc (nI N) fr to tk nm0 0 wa (nI g) (nI np) st cd (nI bl) 0 os dd m c2 cl cg cn M = rLp u (nI N) m (nI np) 1 fr2 to2 tk2 nm2 0 wa (nI g) (nI (np + 1)) st cd (nI (bl + 1)) (nI 1) os dd (vp_updL c2 np (nM (wj B x.1 (tL B N x.1)))) dl cg dn (opn (M.1, M.2.1, M.2.2.1, M.2.2.2.1, M.2.2.2.2.1, M.2.2.2.2.2.1, M.2.2.2.2.2.2.1, M.2.2.2.2.2.2.2.1, M.2.2.2.2.2.2.2.2.1, M.2.2.2.2.2.2.2.2.2.1, M.2.2.2.2.2.2.2.2.2.2.1, upd M.2.2.2.2.2.2.2.2.2.2.2.1 np (-1), M.2.2.2.2.2.2.2.2.2.2.2.2.1, M.2.2.2.2.2.2.2.2.2.2.2.2.2.1, M.2.2.2.2.2.2.2.2.2.2.2.2.2.2.1, M.2.2.2.2.2.2.2.2.2.2.2.2.2.2.2.1, M.2.2.2.2.2.2.2.2.2.2.2.2.2.2.2.2.1, M.2.2.2.2.2.2.2.2.2.2.2.2.2.2.2.2.2) bl 0 (-1) 0) ∧ rsO B N x.2.1 fr2 to2 tk2 nm2 ∧ vM x.2.2.2 g x.2.2.1 np cg dl dn := by
  have h6 := hP.1
  unfold hdP
  by_cases h260 : tK B N f = 260
  · obtain ⟨h1, h2, h3, h4⟩ := hs
    have hs0 : rsO B N f fr to tk nm0 := ⟨h1, h2, h3, h4⟩
    have ei := r_isThe h4 (i := 1) (by decide)
    rw [kw_m.2.1, if_pos h260] at ei
    obtain ⟨fr1, to1, tk1, nm1, e1, hs1⟩ := r_nxt h hf hs0
    rw [h1, h3] at e1
    have hX := tX_le (B := B) hf
    have hkm := kM_lt (tK B N (tX B N f))
    unfold rPc fX11_takeProcedure fX11_takeProcedure_p34
    rw [if_pos h260, h1, h3, ei, ob_s, r_may, ob_s, if_neg hK, if_neg n10, if_neg n10, e1, ob_s]
    dsimp only
    have hs10 := hs1
    obtain ⟨i1, i2, i3, i4⟩ := hs1
    by_cases h7 : tK B N (tX B N f) = 257
    · have hg1 : goT B N (tX B N f) = .error (1, tX B N f) := by unfold goT; rw [if_pos h7]
      have n1 : ¬ tk1 = 1 := by rw [i3, h7]; decide
      rw [hg1, if_neg n1, i1, i3, r_may, ob_s, if_pos h7, if_pos rfl]
      exact ⟨_, rfl, Or.inl ⟨rfl, (by decide : (1 : Int32) = nI 1), rfl⟩⟩
    · have hg1 : goT B N (tX B N f) = .ok (tX B N f) := by unfold goT; rw [if_neg h7]
      rw [hg1]
      dsimp only
      by_cases h8 : tK B N (tX B N f) = 258
      · have y1 : tk1 = 1 := i3.trans (congrArg nI ((kM_1 _).mpr h8))
        have hW := name_ok h hX (show 258 ≤ tK B N (tX B N f) by omega)
        have en : nm1 = nM (wj B (tX B N f) (tL B N (tX B N f))) := (i4 (by omega)).2.2
        obtain ⟨fu, hfu, hfg⟩ := fu_any
        rw [if_pos h8, if_pos y1, i1, i3, r_may, ob_s, if_neg h7, if_neg n10, if_neg n10]
        dsimp only
        -- six already, or the same name: the flag
        have tw : ∀ y0 : Int32, (y0 = 0 ∨ y0 = 1) → ∃ (y : Int32) (w : Nat), fX11_takeProcedure_p56 (nI N) m y0 (nI (tX B N f)) to1 (nI (kM (tK B N (tX B N f)))) nm1 0 wa (nI g) (nI np) st cd (nI bl) 0 os dd c2 cl M.2.2.2.2.2.2.2.2.2.2.2.1 M.2.2.2.2.2.2.2.2.2.2.2.2.1 M.2.2.2.2.2.2.2.2.2.2.1 M.2.2.2.2.2.2.2.2.2.1 M.1 cg cn M.2.1 M.2.2.1 M.2.2.2.1 M.2.2.2.2.1 M.2.2.2.2.2.1 M.2.2.2.2.2.2.1 M.2.2.2.2.2.2.2.1 M.2.2.2.2.2.2.2.2.1 M.2.2.2.2.2.2.2.2.2.2.2.2.2.1 M.2.2.2.2.2.2.2.2.2.2.2.2.2.2.1 M.2.2.2.2.2.2.2.2.2.2.2.2.2.2.2.1 M.2.2.2.2.2.2.2.2.2.2.2.2.2.2.2.2.1 M.2.2.2.2.2.2.2.2.2.2.2.2.2.2.2.2.2 = fX11_takeProcedure_b59 (nI N) m (fX11_takeProcedure_l59 (nI N) m w) y (nI np) (nI (tX B N f)) to1 (nI (kM (tK B N (tX B N f)))) nm1 0 wa (nI g) (nI np) st cd (nI bl) 0 os dd c2 cl M.2.2.2.2.2.2.2.2.2.2.2.1 M.2.2.2.2.2.2.2.2.2.2.2.2.1 M.2.2.2.2.2.2.2.2.2.2.1 M.2.2.2.2.2.2.2.2.2.1 M.1 cg cn M.2.1 M.2.2.1 M.2.2.2.1 M.2.2.2.2.1 M.2.2.2.2.2.1 M.2.2.2.2.2.2.1 M.2.2.2.2.2.2.2.1 M.2.2.2.2.2.2.2.2.1 M.2.2.2.2.2.2.2.2.2.2.2.2.2.1 M.2.2.2.2.2.2.2.2.2.2.2.2.2.2.1 M.2.2.2.2.2.2.2.2.2.2.2.2.2.2.2.1 M.2.2.2.2.2.2.2.2.2.2.2.2.2.2.2.2.1 M.2.2.2.2.2.2.2.2.2.2.2.2.2.2.2.2.2 ∧ (y = 0 ∨ y = 1) ∧ (y = 0 ↔ y0 = 0 ∧ ∀ q, 0 ≤ q → q < np → ¬ PN q = wj B (tX B N f) (tL B N (tX B N f))) := by
          intro y0 hy0
          unfold fX11_takeProcedure_p56
          rw [hfu, en]
          exact r_twice hP hc2 hW (nI N) m (nI (tX B N f)) to1 (nI (kM (tK B N (tX B N f)))) 0 wa (nI g) st cd (nI bl) 0 os dd cl M.2.2.2.2.2.2.2.2.2.2.2.1 M.2.2.2.2.2.2.2.2.2.2.2.2.1 M.2.2.2.2.2.2.2.2.2.2.1 M.2.2.2.2.2.2.2.2.2.1 M.1 cg cn M.2.1 M.2.2.1 M.2.2.2.1 M.2.2.2.2.1 M.2.2.2.2.2.1 M.2.2.2.2.2.2.1 M.2.2.2.2.2.2.2.1 M.2.2.2.2.2.2.2.2.1 M.2.2.2.2.2.2.2.2.2.2.2.2.2.1 M.2.2.2.2.2.2.2.2.2.2.2.2.2.2.1 M.2.2.2.2.2.2.2.2.2.2.2.2.2.2.2.1 M.2.2.2.2.2.2.2.2.2.2.2.2.2.2.2.2.1 M.2.2.2.2.2.2.2.2.2.2.2.2.2.2.2.2.2 np 0 fu y0 (by omega) (by omega) hy0
        have tw2 : ∃ (y : Int32) (w : Nat), (if nI np = 6 then fX11_takeProcedure_p56 (nI N) m 1 (nI (tX B N f)) to1 (nI (kM (tK B N (tX B N f)))) nm1 0 wa (nI g) (nI np) st cd (nI bl) 0 os dd c2 cl M.2.2.2.2.2.2.2.2.2.2.2.1 M.2.2.2.2.2.2.2.2.2.2.2.2.1 M.2.2.2.2.2.2.2.2.2.2.1 M.2.2.2.2.2.2.2.2.2.1 M.1 cg cn M.2.1 M.2.2.1 M.2.2.2.1 M.2.2.2.2.1 M.2.2.2.2.2.1 M.2.2.2.2.2.2.1 M.2.2.2.2.2.2.2.1 M.2.2.2.2.2.2.2.2.1 M.2.2.2.2.2.2.2.2.2.2.2.2.2.1 M.2.2.2.2.2.2.2.2.2.2.2.2.2.2.1 M.2.2.2.2.2.2.2.2.2.2.2.2.2.2.2.1 M.2.2.2.2.2.2.2.2.2.2.2.2.2.2.2.2.1 M.2.2.2.2.2.2.2.2.2.2.2.2.2.2.2.2.2 else fX11_takeProcedure_p56 (nI N) m 0 (nI (tX B N f)) to1 (nI (kM (tK B N (tX B N f)))) nm1 0 wa (nI g) (nI np) st cd (nI bl) 0 os dd c2 cl M.2.2.2.2.2.2.2.2.2.2.2.1 M.2.2.2.2.2.2.2.2.2.2.2.2.1 M.2.2.2.2.2.2.2.2.2.2.1 M.2.2.2.2.2.2.2.2.2.1 M.1 cg cn M.2.1 M.2.2.1 M.2.2.2.1 M.2.2.2.2.1 M.2.2.2.2.2.1 M.2.2.2.2.2.2.1 M.2.2.2.2.2.2.2.1 M.2.2.2.2.2.2.2.2.1 M.2.2.2.2.2.2.2.2.2.2.2.2.2.1 M.2.2.2.2.2.2.2.2.2.2.2.2.2.2.1 M.2.2.2.2.2.2.2.2.2.2.2.2.2.2.2.1 M.2.2.2.2.2.2.2.2.2.2.2.2.2.2.2.2.1 M.2.2.2.2.2.2.2.2.2.2.2.2.2.2.2.2.2) = fX11_takeProcedure_b59 (nI N) m (fX11_takeProcedure_l59 (nI N) m w) y (nI np) (nI (tX B N f)) to1 (nI (kM (tK B N (tX B N f)))) nm1 0 wa (nI g) (nI np) st cd (nI bl) 0 os dd c2 cl M.2.2.2.2.2.2.2.2.2.2.2.1 M.2.2.2.2.2.2.2.2.2.2.2.2.1 M.2.2.2.2.2.2.2.2.2.2.1 M.2.2.2.2.2.2.2.2.2.1 M.1 cg cn M.2.1 M.2.2.1 M.2.2.2.1 M.2.2.2.2.1 M.2.2.2.2.2.1 M.2.2.2.2.2.2.1 M.2.2.2.2.2.2.2.1 M.2.2.2.2.2.2.2.2.1 M.2.2.2.2.2.2.2.2.2.2.2.2.2.1 M.2.2.2.2.2.2.2.2.2.2.2.2.2.2.1 M.2.2.2.2.2.2.2.2.2.2.2.2.2.2.2.1 M.2.2.2.2.2.2.2.2.2.2.2.2.2.2.2.2.1 M.2.2.2.2.2.2.2.2.2.2.2.2.2.2.2.2.2 ∧ (y = 0 ∨ y = 1) ∧ (y = 0 ↔ ¬ dpN PN np (wj B (tX B N f) (tL B N (tX B N f))) = true) := by
          by_cases hn6 : np = 6
          · obtain ⟨y, w, a1, a2, a3⟩ := tw 1 (Or.inr rfl)
            refine ⟨y, w, ?_, a2, ⟨fun z => absurd (a3.mp z).1 n10, fun z => absurd (dpN_t.mpr (Or.inl (by omega))) z⟩⟩
            rw [if_pos (show nI np = 6 from congrArg nI hn6)]
            exact a1
          · obtain ⟨y, w, a1, a2, a3⟩ := tw 0 (Or.inl rfl)
            refine ⟨y, w, ?_, a2, ⟨fun z q => ?_, fun z => a3.mpr ⟨rfl, fun q _ h2 h3 => z (dpN_t.mpr (Or.inr ⟨q, h2, h3⟩))⟩⟩⟩
            · rw [if_neg (show ¬ nI np = 6 from fun z => hn6 ((nI_eq (a := np) (b := 6) (by omega) (by decide)).mp z))]
              exact a1
            · rcases dpN_t.mp q with w | ⟨w, w1, w2⟩
              · omega
              · exact (a3.mp z).2 w (Nat.zero_le _) w1 w2
        obtain ⟨y, w, ew, hy01, hyd⟩ := tw2
        rw [ew]
        unfold fX11_takeProcedure_b59
        rw [if_pos (nI_le (a := np) (b := np) (Nat.le_refl _) (by omega))]
        by_cases hdp : dpN PN np (wj B (tX B N f) (tL B N (tX B N f))) = true
        · have hy : ¬ y = 0 := fun z => (hyd.mp z) hdp
          unfold fX11_fail fX11_fail_p17
          rw [if_neg hy, if_pos rfl, ob_s, bd_eq _ (show bz (0 : Int32) = true by decide), if_pos hdp]
          exact ⟨_, rfl, Or.inl ⟨rfl, (by decide : (3 : Int32) = nI 3), rfl⟩⟩
        · have hn6 : np < 6 := by
            by_cases q : 6 ≤ np
            · exact absurd (dpN_t.mpr (Or.inl q)) hdp
            · omega
          have e7 : nI np + 1 = nI (np + 1) := nI_add _ 1
          have bnp := inb_nI (j := np) (n := 6) hn6 (by decide)
          obtain ⟨fr2, to2, tk2, nm2, e2, hs2⟩ := r_nxt h hX hs10
          rw [i1, i3] at e2
          have hX2 := tX_le (B := B) hX
          obtain ⟨z, fr3, to3, tk3, nm3, wr3, wa3, bl3, op3, bo3, bs3, bt3, ob3, e3, ho3⟩ := r_open h hX2 hs2 (d := 0) (bl := bl) (by decide) hbl (-1) 0 wa M.2.2.2.2.2.2.2.2.2.2.2.2.1 M.2.2.2.2.2.2.2.2.2.2.1 M.2.2.2.2.2.2.2.2.2.1 M.1
          have e3 : fX11_openBlock (-1) 0 (nI N) fr2 to2 tk2 nm2 0 wa (nI bl) 0 m M.2.2.2.2.2.2.2.2.2.2.2.2.1 M.2.2.2.2.2.2.2.2.2.2.1 M.2.2.2.2.2.2.2.2.2.1 M.1 = some (z, fr3, to3, tk3, nm3, wr3, wa3, bl3, op3, bo3, bs3, bt3, ob3) := e3
          rw [if_pos (hyd.mpr hdp), if_neg hdp]
          simp only [nm_q, bd_eq _ bnp, nI_clamp (n := np) (by omega), e7]
          rw [e2, ob_s]
          dsimp only
          rw [e3, ob_s]
          dsimp only
          rw [hfu]
          rcases ho3 with ⟨x1, x2, x3, x4, x5, x6, x7, x8, x9, x10, x11, x12⟩ | ⟨x1, e, x2, x3, x4⟩
          · subst x3 x5 x6 x7 x8 x9 x10 x11 x12
            have hg2 : goT B N (tX B N (tX B N f)) = .ok (tX B N (tX B N f)) := by unfold goT; rw [if_neg (by omega)]
            rw [hg2]
            dsimp only
            have hop : opT B N 0 (tX B N (tX B N f)) = goT B N (tX B N (tX B N (tX B N f))) := by
              unfold opT skT
              rw [if_neg (fun w => absurd w.2 (by decide)), if_pos x1]
            have hX3 := tX_le (B := B) hX2
            rw [hop, if_neg n10]
            obtain ⟨j1, j2, j3, j4⟩ := x4
            have x40 : rsO B N (tX B N (tX B N (tX B N f))) fr3 to3 tk3 nm3 := ⟨j1, j2, j3, j4⟩
            by_cases h7b : tK B N (tX B N (tX B N (tX B N f))) = 257
            · have hg3 : goT B N (tX B N (tX B N (tX B N f))) = .error (1, tX B N (tX B N (tX B N f))) := by unfold goT; rw [if_pos h7b]
              rw [hg3]
              dsimp only
              have em : fX11_may 1 fr3 tk3 0 wa3 = some (0, (1, nI (tX B N (tX B N (tX B N f))))) := by rw [j1, j3, r_may, if_pos h7b]
              rw [em, ob_s, if_pos rfl]
              dsimp only
              obtain ⟨fu, rfl⟩ : ∃ v, fu = v + 2 := ⟨fu - 2, by omega⟩
              show ∃ o : RpO, fX11_takeProcedure_b193 (nI N) m _ (nI np) 1 fr3 to3 tk3 nm3 1 (nI (tX B N (tX B N (tX B N f)))) (nI g) (nI (np + 1)) st cd _ _ os dd _ _ _ _ _ _ _ cg cn M.2.1 M.2.2.1 M.2.2.2.1 M.2.2.2.2.1 M.2.2.2.2.2.1 M.2.2.2.2.2.2.1 M.2.2.2.2.2.2.2.1 M.2.2.2.2.2.2.2.2.1 M.2.2.2.2.2.2.2.2.2.2.2.2.2.1 M.2.2.2.2.2.2.2.2.2.2.2.2.2.2.1 M.2.2.2.2.2.2.2.2.2.2.2.2.2.2.2.1 M.2.2.2.2.2.2.2.2.2.2.2.2.2.2.2.2.1 M.2.2.2.2.2.2.2.2.2.2.2.2.2.2.2.2.2 = some o ∧ _
              unfold fX11_takeProcedure_b193 fX11_takeProcedure_p243 fX11_takeProcedure_p244
              rw [if_neg n10, if_neg (show ¬ nI (0 + 1) ≤ 0 by decide), r_mayF n10, ob_s, if_pos rfl]
              obtain ⟨o, eo, ho⟩ := r_lp0 fu (nI N) m (nI np) fr3 to3 tk3 nm3 1 (nI (tX B N (tX B N (tX B N f)))) (nI g) (nI (np + 1)) st cd (nI (bl + 1)) (nI (0 + 1)) os dd (vp_updL c2 np nm1) (upd cl np 0) cg cn (upd M.1 0 (nI bl), M.2.1, M.2.2.1, M.2.2.2.1, M.2.2.2.2.1, M.2.2.2.2.2.1, M.2.2.2.2.2.2.1, M.2.2.2.2.2.2.2.1, M.2.2.2.2.2.2.2.2.1, upd M.2.2.2.2.2.2.2.2.2.1 bl (-1), upd M.2.2.2.2.2.2.2.2.2.2.1 bl 0, upd M.2.2.2.2.2.2.2.2.2.2.2.1 np (-1), upd M.2.2.2.2.2.2.2.2.2.2.2.2.1 bl (-1), M.2.2.2.2.2.2.2.2.2.2.2.2.2.1, M.2.2.2.2.2.2.2.2.2.2.2.2.2.2.1, M.2.2.2.2.2.2.2.2.2.2.2.2.2.2.2.1, M.2.2.2.2.2.2.2.2.2.2.2.2.2.2.2.2.1, M.2.2.2.2.2.2.2.2.2.2.2.2.2.2.2.2.2) (e := (1, tX B N (tX B N (tX B N f)))) (show (1 : Int32) = nI 1 by decide) rfl
              exact ⟨o, eo, rPB_of ho⟩
            · have hg3 : goT B N (tX B N (tX B N (tX B N f))) = .ok (tX B N (tX B N (tX B N f))) := by unfold goT; rw [if_neg h7b]
              rw [hg3]
              dsimp only
              have em : fX11_may 1 fr3 tk3 0 wa3 = some (1, (0, wa3)) := by rw [j1, j3, r_may, if_neg h7b, if_neg n10]
              have ev := r_isThe j4 (i := 0) (by decide)
              rw [kw_m.1, ← j3] at ev
              have ev : fX11_isThe 7758194 tk3 nm3 = some (if tK B N (tX B N (tX B N (tX B N f))) = 259 then 1 else 0, ()) := ev
              rw [em, ob_s, if_neg n10, ev, ob_s]
              dsimp only
              by_cases h259 : tK B N (tX B N (tX B N (tX B N f))) = 259
              · obtain ⟨fr4, to4, tk4, nm4, e4, hs4⟩ := r_nxt h hX3 x40
                have hX4 := tX_le (B := B) hX3
                have hR0 : vR true np g 0 VN cg (upd cl np 0) cn := ⟨hg, fun _ => ⟨upd_at _ _ _, fun k hk => by omega⟩⟩
                have hcap : vCap true 2 g 0 := by unfold vCap; rw [if_pos rfl]; exact ⟨rfl, hv.1⟩
                obtain ⟨z5, fr5, to5, tk5, nm5, wr5, wa5, gl5, dg5, dl5, dn5, e5, ho5⟩ := r_vL h (lc := true) (p := np) hn6 wa3 2 fu g 0 VN cg (upd cl np 0) cn (tX B N (tX B N (tX B N (tX B N f)))) fr4 to4 tk4 nm4 (by omega) hX4 hcap hv hR0 hs4
                have e5 : fX11_takeVars (nI np) (nI N) fr4 to4 tk4 nm4 0 wa3 (nI g) cg (upd cl np 0) cn m = some (z5, fr5, to5, tk5, nm5, wr5, wa5, gl5, dg5, dl5, dn5) := by
                  unfold fX11_takeVars
                  rw [hfu]
                  exact e5
                rw [if_pos h259, if_pos h259, if_neg n10, e4, ob_s]
                dsimp only
                rw [e5, ob_s]
                dsimp only
                have bad : ∀ e : Nat × Nat, rVB e z5 fr5 tk5 wr5 wa5 → ∃ o : RpO, fX11_takeProcedure_l193 (nI N) m fu (nI np) z5 fr5 to5 tk5 nm5 wr5 wa5 gl5 (nI (np + 1)) st cd (nI (bl + 1)) (nI (0 + 1)) os dd (vp_updL c2 np nm1) dl5 (upd M.2.2.2.2.2.2.2.2.2.2.2.1 np (-1)) (upd M.2.2.2.2.2.2.2.2.2.2.2.2.1 bl (-1)) (upd M.2.2.2.2.2.2.2.2.2.2.1 bl 0) (upd M.2.2.2.2.2.2.2.2.2.1 bl (-1)) (upd M.1 0 (nI bl)) dg5 dn5 M.2.1 M.2.2.1 M.2.2.2.1 M.2.2.2.2.1 M.2.2.2.2.2.1 M.2.2.2.2.2.2.1 M.2.2.2.2.2.2.2.1 M.2.2.2.2.2.2.2.2.1 M.2.2.2.2.2.2.2.2.2.2.2.2.2.1 M.2.2.2.2.2.2.2.2.2.2.2.2.2.2.1 M.2.2.2.2.2.2.2.2.2.2.2.2.2.2.2.1 M.2.2.2.2.2.2.2.2.2.2.2.2.2.2.2.2.1 M.2.2.2.2.2.2.2.2.2.2.2.2.2.2.2.2.2 = some o ∧ rPB e o := by
                  intro e he
                  obtain ⟨fu, rfl⟩ : ∃ v, fu = v + 2 := ⟨fu - 2, by omega⟩
                  have hbd : rBd e z5 fr5 tk5 wr5 wa5 (nI (0 + 1)) := by
                    rcases he with he | he
                    · exact Or.inl he
                    · exact Or.inr ⟨he.1, he.2.1, he.2.2.1, he.2.2.2.1, he.2.2.2.2, 1, by decide, by decide, rfl⟩
                  obtain ⟨o, eo, ho⟩ := r_lpB fu (nI N) m (nI np) (to := to5) nm5 gl5 (nI (np + 1)) st cd (nI (bl + 1)) os dd (vp_updL c2 np nm1) dl5 dg5 dn5 (upd M.1 0 (nI bl), M.2.1, M.2.2.1, M.2.2.2.1, M.2.2.2.2.1, M.2.2.2.2.2.1, M.2.2.2.2.2.2.1, M.2.2.2.2.2.2.2.1, M.2.2.2.2.2.2.2.2.1, upd M.2.2.2.2.2.2.2.2.2.1 bl (-1), upd M.2.2.2.2.2.2.2.2.2.2.1 bl 0, upd M.2.2.2.2.2.2.2.2.2.2.2.1 np (-1), upd M.2.2.2.2.2.2.2.2.2.2.2.2.1 bl (-1), M.2.2.2.2.2.2.2.2.2.2.2.2.2.1, M.2.2.2.2.2.2.2.2.2.2.2.2.2.2.1, M.2.2.2.2.2.2.2.2.2.2.2.2.2.2.2.1, M.2.2.2.2.2.2.2.2.2.2.2.2.2.2.2.2.1, M.2.2.2.2.2.2.2.2.2.2.2.2.2.2.2.2.2) hbd
                  have hz5 : (if z5 = 0 then (0 : Int32) else 1) = z5 := by
                    rcases he with he | he
                    · rw [if_pos he.1, he.1]
                    · rw [he.2.1, if_neg n10]
                  rw [hz5] at eo
                  exact ⟨o, eo, rPB_of ho⟩
                by_cases h7c : tK B N (tX B N (tX B N (tX B N (tX B N f)))) = 257
                · have hg4 : goT B N (tX B N (tX B N (tX B N (tX B N f)))) = .error (1, tX B N (tX B N (tX B N (tX B N f)))) := by unfold goT; rw [if_pos h7c]
                  rw [if_pos h7c] at ho5
                  rw [hg4]
                  exact bad _ ho5
                · have hg4 : goT B N (tX B N (tX B N (tX B N (tX B N f)))) = .ok (tX B N (tX B N (tX B N (tX B N f)))) := by unfold goT; rw [if_neg h7c]
                  rw [if_neg h7c] at ho5
                  rw [hg4]
                  dsimp only
                  cases hvl : vL B N true 2 g 0 VN (tX B N (tX B N (tX B N (tX B N f)))) with
                  | error e =>
                    rw [hvl] at ho5
                    exact bad _ ho5
                  | ok q =>
                    rw [hvl] at ho5
                    obtain ⟨w1, w2, w3, w4, w5, w6, w7⟩ := ho5
                    have hqg : q.2.1 = g := (vL_ok h 2 g 0 VN _ q hX4 hcap hv hvl).2.2.2.2.2.2.1 rfl
                    have w7 := w7 rfl
                    rw [hqg] at w5 w6
                    subst w1 w3 w5 w7
                    rw [w4, en]
                    exact ⟨hn6, fu, fr5, to5, tk5, nm5, dl5, dn5, by omega, rfl, w2, w6.1, (w6.2 rfl).1, (w6.2 rfl).2⟩
              · rw [if_neg h259, if_neg h259, if_pos rfl, en]
                exact ⟨hn6, fu, fr3, to3, tk3, nm3, upd cl np 0, cn, by omega, rfl, x40, hg, upd_at _ _ _, fun k hk => absurd hk (Nat.not_lt_zero k)⟩
          · obtain ⟨fu, rfl⟩ : ∃ v, fu = v + 1 := ⟨fu - 1, by omega⟩
            obtain ⟨o, eo, ho⟩ := r_lp0 fu (nI N) m (nI np) fr3 to3 tk3 nm3 wr3 wa3 (nI g) (nI (np + 1)) st cd bl3 op3 os dd (vp_updL c2 np nm1) (upd cl np 0) cg cn (ob3, M.2.1, M.2.2.1, M.2.2.2.1, M.2.2.2.2.1, M.2.2.2.2.2.1, M.2.2.2.2.2.2.1, M.2.2.2.2.2.2.2.1, M.2.2.2.2.2.2.2.2.1, bt3, bs3, upd M.2.2.2.2.2.2.2.2.2.2.2.1 np (-1), bo3, M.2.2.2.2.2.2.2.2.2.2.2.2.2.1, M.2.2.2.2.2.2.2.2.2.2.2.2.2.2.1, M.2.2.2.2.2.2.2.2.2.2.2.2.2.2.2.1, M.2.2.2.2.2.2.2.2.2.2.2.2.2.2.2.2.1, M.2.2.2.2.2.2.2.2.2.2.2.2.2.2.2.2.2) (e := e) x3 x4
            rw [x1, if_pos rfl]
            rcases x2 with ⟨q1, q2⟩ | ⟨q1, q2⟩
            · have hg2 : goT B N (tX B N (tX B N f)) = .error (1, tX B N (tX B N f)) := by unfold goT; rw [if_pos q1]
              rw [hg2]
              subst q2
              exact ⟨o, eo, rPB_of ho⟩
            · have hg2 : goT B N (tX B N (tX B N f)) = .ok (tX B N (tX B N f)) := by unfold goT; rw [if_neg q1]
              rw [hg2]
              dsimp only
              rw [q2]
              exact ⟨o, eo, rPB_of ho⟩
      · have n1 : ¬ tk1 = 1 := fun z => h8 ((kM_1 _).mp ((nI_eq (a := kM (tK B N (tX B N f))) (b := 1) (by omega) (by decide)).mp (i3.symm.trans z)))
        rw [if_neg h8, if_neg n1, i1, i3, r_may, ob_s, if_neg h7, if_pos rfl, if_pos rfl]
        exact ⟨_, rfl, Or.inl ⟨rfl, (by decide : (2 : Int32) = nI 2), rfl⟩⟩
  · rw [if_neg h260]
    obtain ⟨o, eo, ho⟩ := r_proc7 hs h260 wa (nI g) (nI np) st cd (nI bl) 0 os dd m c2 cl cg cn M
    unfold bdK at ho
    rw [if_neg hK] at ho
    exact ⟨o, eo, ho⟩
/-- its statements and its closing brace -/
theorem r_procB {B : Nat → Nat} {N : Nat} {c m : Nat → Int32} (h : txt B N c m) {g np n f5 bl u : Nat} {c2 cg cn : Nat → Int64} {cl : Nat → Int32} {rs : Rt} {Q : List Nat} {M : MT} (hn6 : np < 6) (hf5 : f5 ≤ N) (hq : ∀ w, rs = .ok w → n ≤ w.1 ∧ w.1 ≤ 40 ∧ ¬ tK B N w.2.1 = 257 ∧ ¬ bgS (tK B N w.2.1) ∧ w.2.1 ≤ N) (hR : RX B N m g cg cn cl np false 1 40 f5 n rs) {fr to tk : Int32} {nm0 : Int64} (hs : rsO B N f5 fr to tk nm0) (hco : codeIs M.2.2.2.2.2.2.2.2.2.2.2.2.2.2.2.1 Q) (hQ : Q.length ≤ f5) (hbl : bl ≤ 5 + 2 * n) (hn : n ≤ 40) (hu : 1999000 < u) (wa os dd : Int32) :
    match fiP B N rs with
      | .error e => ∃ o : RpO, rLp u (nI N) m (nI np) 1 fr to tk nm0 0 wa (nI g) (nI (np + 1)) (nI n) (nI Q.length) (nI (bl + 1)) (nI 1) os dd c2 cl cg cn (opn M bl 0 (-1) 0) = some o ∧ rPB e o
      | .ok q => ∃ (fr2 to2 tk2 : Int32) (nm2 : Int64) (os2 dd2 : Int32) (Q2 : List Nat) (bn : Nat) (U : MT) (f6 : Nat), rLp u (nI N) m (nI np) 1 fr to tk nm0 0 wa (nI g) (nI (np + 1)) (nI n) (nI Q.length) (nI (bl + 1)) (nI 1) os dd c2 cl cg cn (opn M bl 0 (-1) 0) = some (1, fr2, to2, tk2, nm2, 0, wa, nI g, nI (np + 1), nI q.1, nI Q2.length, nI bn, 0, os2, dd2, c2, cl, U.2.2.2.2.2.2.2.2.2.2.2.1, U.2.2.2.2.2.2.2.2.2.2.2.2.1, U.2.2.2.2.2.2.2.2.2.2.1, U.2.2.2.2.2.2.2.2.2.1, U.1, cg, cn, U.2.1, U.2.2.1, U.2.2.2.1, U.2.2.2.2.1, U.2.2.2.2.2.1, U.2.2.2.2.2.2.1, U.2.2.2.2.2.2.2.1, U.2.2.2.2.2.2.2.2.1, U.2.2.2.2.2.2.2.2.2.2.2.2.2.1, U.2.2.2.2.2.2.2.2.2.2.2.2.2.2.1, U.2.2.2.2.2.2.2.2.2.2.2.2.2.2.2.1, U.2.2.2.2.2.2.2.2.2.2.2.2.2.2.2.2.1, U.2.2.2.2.2.2.2.2.2.2.2.2.2.2.2.2.2) ∧ rsO B N q.2.1 fr2 to2 tk2 nm2 ∧ f6 < q.2.1 ∧ rPost B N np 1 bl (bl + 1) n 8 np false Q (opn M bl 0 (-1) 0) (q.1, f6, q.2.2) Q2 bn U := by
  have hN := h.1
  have pre : rPre np 1 bl (bl + 1) 40 f5 n 8 np Q (opn M bl 0 (-1) 0) := ⟨hco, hQ, Nat.lt_succ_self _, by omega, by decide, by decide, (show upd M.1 0 (nI bl) 0 = nI bl from upd_at _ _ _), Or.inl ⟨rfl, rfl, upd_at _ _ _, upd_at _ _ _⟩, Or.inl ⟨rfl, upd_at _ _ _⟩⟩
  have r1 := hR u bl (bl + 1) 8 np (nI (np + 1)) wa os dd fr to tk nm0 c2 Q (opn M bl 0 (-1) 0) hs pre (by omega)
  unfold fiP
  cases rs with
  | error e =>
    obtain ⟨o, eo, ho⟩ := r1
    exact ⟨o, eo, rPB_of ho⟩
  | ok w =>
    obtain ⟨u3, fr3, to3, tk3, nm3, os3, dd3, Q3, bn, U, y1, y2, y3, y4⟩ := r1
    obtain ⟨w1, w2, w3, w4, w6⟩ := hq w rfl
    rw [y1]
    obtain ⟨u3, rfl⟩ : ∃ v, u3 = v + 3 := ⟨u3 - 3, by omega⟩
    have y40 := y4
    obtain ⟨g1, g2, g3, g4, g5, ⟨g6, g6f⟩, ⟨g7, g7o⟩, g8, g9⟩ := y4
    dsimp only
    unfold skT
    by_cases h125 : tK B N w.2.1 = 125
    · rw [if_pos h125]
      have ob : U.1 0 = nI bl := (g7o 0 (by omega)).trans (show upd M.1 0 (nI bl) 0 = nI bl from upd_at _ _ _)
      have bs : U.2.2.2.2.2.2.2.2.2.2.1 bl = 0 := (g7 bl (by omega)).1.trans (upd_at _ _ _)
      have hXlt := tX_gt (B := B) w6 (by omega)
      obtain ⟨fr4, to4, tk4, nm4, e4, hs4⟩ := r_cl1 h w6 y2 (d := 0) (by decide) wa (nI bn) (x0 := U.1) (x10 := U.2.2.2.2.2.2.2.2.2.2.1) (x12 := U.2.2.2.2.2.2.2.2.2.2.2.2.1) (x9 := U.2.2.2.2.2.2.2.2.2.1) ob (show bl < 90 by omega) (Or.inl (by rw [bs]; decide))
      rw [r_itC h y2 h125 (d := 1) (by decide) (by decide) (u3 + 2) (nI np) wa (nI g) (nI (np + 1)) (nI w.1) (nI Q3.length) (nI bn) os3 dd3 c2 cl cg cn U e4, if_neg n10]
      have ex : rLp (u3 + 2) (nI N) m (nI np) 1 fr4 to4 tk4 nm4 0 wa (nI g) (nI (np + 1)) (nI w.1) (nI Q3.length) (nI bn) (nI 0) os3 dd3 c2 cl cg cn (U.1, U.2.1, U.2.2.1, U.2.2.2.1, U.2.2.2.2.1, U.2.2.2.2.2.1, U.2.2.2.2.2.2.1, U.2.2.2.2.2.2.2.1, U.2.2.2.2.2.2.2.2.1, U.2.2.2.2.2.2.2.2.2.1, U.2.2.2.2.2.2.2.2.2.2.1, U.2.2.2.2.2.2.2.2.2.2.2.1, U.2.2.2.2.2.2.2.2.2.2.2.2.1, U.2.2.2.2.2.2.2.2.2.2.2.2.2.1, U.2.2.2.2.2.2.2.2.2.2.2.2.2.2.1, U.2.2.2.2.2.2.2.2.2.2.2.2.2.2.2.1, U.2.2.2.2.2.2.2.2.2.2.2.2.2.2.2.2.1, U.2.2.2.2.2.2.2.2.2.2.2.2.2.2.2.2.2) = some (1, fr4, to4, tk4, nm4, 0, wa, nI g, nI (np + 1), nI w.1, nI Q3.length, nI bn, 0, os3, dd3, c2, cl, U.2.2.2.2.2.2.2.2.2.2.2.1, U.2.2.2.2.2.2.2.2.2.2.2.2.1, U.2.2.2.2.2.2.2.2.2.2.1, U.2.2.2.2.2.2.2.2.2.1, U.1, cg, cn, U.2.1, U.2.2.1, U.2.2.2.1, U.2.2.2.2.1, U.2.2.2.2.2.1, U.2.2.2.2.2.2.1, U.2.2.2.2.2.2.2.1, U.2.2.2.2.2.2.2.2.1, U.2.2.2.2.2.2.2.2.2.2.2.2.2.1, U.2.2.2.2.2.2.2.2.2.2.2.2.2.2.1, U.2.2.2.2.2.2.2.2.2.2.2.2.2.2.2.1, U.2.2.2.2.2.2.2.2.2.2.2.2.2.2.2.2.1, U.2.2.2.2.2.2.2.2.2.2.2.2.2.2.2.2.2) := by
        unfold rLp
        show fX11_takeProcedure_b193 (nI N) m _ (nI np) 1 fr4 to4 tk4 nm4 0 wa (nI g) (nI (np + 1)) (nI w.1) (nI Q3.length) (nI bn) (nI 0) os3 dd3 c2 cl U.2.2.2.2.2.2.2.2.2.2.2.1 U.2.2.2.2.2.2.2.2.2.2.2.2.1 U.2.2.2.2.2.2.2.2.2.2.1 U.2.2.2.2.2.2.2.2.2.1 U.1 cg cn U.2.1 U.2.2.1 U.2.2.2.1 U.2.2.2.2.1 U.2.2.2.2.2.1 U.2.2.2.2.2.2.1 U.2.2.2.2.2.2.2.1 U.2.2.2.2.2.2.2.2.1 U.2.2.2.2.2.2.2.2.2.2.2.2.2.1 U.2.2.2.2.2.2.2.2.2.2.2.2.2.2.1 U.2.2.2.2.2.2.2.2.2.2.2.2.2.2.2.1 U.2.2.2.2.2.2.2.2.2.2.2.2.2.2.2.2.1 U.2.2.2.2.2.2.2.2.2.2.2.2.2.2.2.2.2 = _
        unfold fX11_takeProcedure_b193 fX11_takeProcedure_p248
        rw [if_neg n10, if_pos (by decide), bd_eq _ (by decide)]
        rfl
      rw [ex]
      unfold goT
      by_cases h257 : tK B N (tX B N w.2.1) = 257
      · rw [if_pos h257]
        exact ⟨_, rfl, Or.inr ⟨rfl, rfl, hs4.1, by show tk4 = 4; rw [hs4.2.2.1, h257]; decide, rfl⟩⟩
      · rw [if_neg h257]
        exact ⟨fr4, to4, tk4, nm4, os3, dd3, Q3, bn, U, w.2.1, rfl, hs4, hXlt, y40⟩
    · rw [if_neg h125]
      obtain ⟨o, eo, ho⟩ := r_itE h y2 w3 h125 w4 (d := 1) (by decide) (by decide) u3 (nI np) wa (nI g) (nI (np + 1)) (nI w.1) (nI Q3.length) (nI bn) os3 dd3 c2 cl cg cn U
      exact ⟨o, eo, rPB_of ho⟩
