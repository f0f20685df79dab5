/-! ===== pure rows 110: read, place and told of both sides ===== -/
/-- the program of both sides: the class's isThere, its counts and rows, the reference's has, its counts and rows -/
def relPg (Z : Prop) (Kc : (Nat → Nat → Nat → Nat) → Prop) (it gl pr st : Int32) (k3 k4 k5 : Nat → Int32) (k6 : Nat → Int64) (k7 k8 entry on1 on0 : Nat → Int32) (hs gl1 pr1 st1 : Int32) (m3 m4 m5 kd be tg fi inn ca ce co : Nat → Int32) : Prop := (it = 0 ∧ gl = 0 ∧ pr = 0 ∧ st = 0 ∧ hs = 0 ∧ Z) ∨ (it = 1 ∧ hs = 1 ∧ ∃ (G : Nat → Nat → Nat → Nat) (g : Nat) (pl : Nat → Nat), okPg G ∧ Kc G ∧ gl = nI g ∧ gl1 = nI g ∧ pr = nI (G 8 0 0) ∧ pr1 = nI (G 8 0 0) ∧ st = nI (G 7 0 0) ∧ st1 = nI (G 7 0 0) ∧ cPg G (cRows entry k3 k8 on0 on1 k5 k7) k6 ∧ mPg G (mRows kd be tg fi inn ca ce co) ∧ ∀ s, s < G 7 0 0 → k4 s = nI (pl s) ∧ m3 s = nI (pl s) ∧ m4 s = nI (G 6 s 0) ∧ m5 s = nI (G 0 s 0))
/-- the fault of both sides -/
def relFt (fl fa wa : Int32) : Prop := (fl = 0 ∧ wa = -1) ∨ (¬ fl = 0 ∧ fa = wa)
theorem pu_place {fl fa wa : Int32} (h : relFt fl fa wa) (th : Int32) : ∃ v, fX10_place fl fa = some (v, ()) ∧ fX11_place th wa = some (v, 0) := by
  unfold fX10_place fX10_place_p21 fX11_place
  rcases h with ⟨h1, h2⟩ | ⟨h1, h2⟩
  · rw [if_pos h1, h2]; exact ⟨_, rfl, rfl⟩
  · rw [if_neg h1, h2]; exact ⟨_, rfl, rfl⟩
theorem pu_read {N : Nat} {c m : Nat → Int32} (hx : relText N c m) (ic lo it gl pr st t a : Int32) (nm0 : Int64) (fl fa nx : Int32) (c4 c5 : Nat → Int64) (R : CT) (c18 c19 c20 c21 : Nat → Int32) (th fr to tk : Int32) (nm1 : Int64) (wr wa hs gl1 pr1 st1 cd bl op os dd : Int32) (cg : Nat → Int64) (cl : Nat → Int32) (cn c2 : Nat → Int64) (M : MT) (c24 : Nat → Int32) :
    ∃ (v lo2 it2 gl2 pr2 st2 t2 a2 : Int32) (nm2 : Int64) (fl2 fa2 nx2 : Int32) (d4 d5 : Nat → Int64) (S : CT) (d18 d19 d20 d21 : Nat → Int32), fX10_read ic lo it gl pr st t a nm0 fl fa (nI N) nx c c4 c5 R.1 R.2.1 R.2.2.1 R.2.2.2.1 R.2.2.2.2.1 R.2.2.2.2.2.1 R.2.2.2.2.2.2.1 R.2.2.2.2.2.2.2.1 R.2.2.2.2.2.2.2.2.1 R.2.2.2.2.2.2.2.2.2.1 R.2.2.2.2.2.2.2.2.2.2.1 R.2.2.2.2.2.2.2.2.2.2.2 c18 c19 c20 c21 = some (v, 0, lo2, it2, gl2, pr2, st2, t2, a2, nm2, fl2, fa2, nI 0, nx2, d4, d5, S.1, S.2.1, S.2.2.1, S.2.2.2.1, S.2.2.2.2.1, S.2.2.2.2.2.1, S.2.2.2.2.2.2.1, S.2.2.2.2.2.2.2.1, S.2.2.2.2.2.2.2.2.1, S.2.2.2.2.2.2.2.2.2.1, S.2.2.2.2.2.2.2.2.2.2.1, S.2.2.2.2.2.2.2.2.2.2.2, d18, d19, d20, d21) ∧
      ∃ (fr2 to2 tk2 : Int32) (nm3 : Int64) (wr2 wa2 hs2 gl3 pr3 st3 cd2 bl2 op2 os2 dd2 : Int32) (dg : Nat → Int64) (dl : Nat → Int32) (dn d2 : Nat → Int64) (U : MT) (d8 : Nat → Int32), fX11_read th (nI N) fr to tk nm1 wr wa hs gl1 pr1 st1 cd bl op os dd m cg cl cn c2 M.2.2.2.2.2.2.2.2.2.2.2.1 M.2.2.2.2.2.2.2.2.2.2.2.2.1 M.2.2.2.2.2.2.2.2.2.2.1 M.2.2.2.2.2.2.2.2.2.1 M.1 M.2.1 M.2.2.1 M.2.2.2.1 M.2.2.2.2.1 M.2.2.2.2.2.1 M.2.2.2.2.2.2.1 M.2.2.2.2.2.2.2.1 M.2.2.2.2.2.2.2.2.1 M.2.2.2.2.2.2.2.2.2.2.2.2.2.1 M.2.2.2.2.2.2.2.2.2.2.2.2.2.2.1 M.2.2.2.2.2.2.2.2.2.2.2.2.2.2.2.1 M.2.2.2.2.2.2.2.2.2.2.2.2.2.2.2.2.1 M.2.2.2.2.2.2.2.2.2.2.2.2.2.2.2.2.2 c24 = some (v, 0, nI 0, fr2, to2, tk2, nm3, wr2, wa2, hs2, gl3, pr3, st3, cd2, bl2, op2, os2, dd2, dg, dl, dn, d2, U.2.2.2.2.2.2.2.2.2.2.2.1, U.2.2.2.2.2.2.2.2.2.2.2.2.1, U.2.2.2.2.2.2.2.2.2.2.1, U.2.2.2.2.2.2.2.2.2.1, U.1, U.2.1, U.2.2.1, U.2.2.2.1, U.2.2.2.2.1, U.2.2.2.2.2.1, U.2.2.2.2.2.2.1, U.2.2.2.2.2.2.2.1, U.2.2.2.2.2.2.2.2.1, U.2.2.2.2.2.2.2.2.2.2.2.2.2.1, U.2.2.2.2.2.2.2.2.2.2.2.2.2.2.1, U.2.2.2.2.2.2.2.2.2.2.2.2.2.2.2.1, U.2.2.2.2.2.2.2.2.2.2.2.2.2.2.2.2.1, U.2.2.2.2.2.2.2.2.2.2.2.2.2.2.2.2.2, d8) ∧
        relPg True (fun _ => True) it2 gl2 pr2 st2 S.1 S.2.1 S.2.2.1 S.2.2.2.1 S.2.2.2.2.1 S.2.2.2.2.2.1 d18 d20 d21 hs2 gl3 pr3 st3 U.2.2.1 U.2.2.2.1 U.2.1 U.2.1 d8 U.2.2.2.2.2.2.2.2.2.2.2.2.2.1 U.2.2.2.2.2.2.2.2.2.2.2.1 U.2.2.2.2.2.2.1 U.2.2.2.2.2.2.2.1 U.2.2.2.2.2.2.2.2.1 U.2.2.2.2.2.2.2.2.2.2.2.2.2.2.2.1 ∧ relFt fl2 fa2 wa2 := by
  have hT := txt_of hx
  unfold fX10_read fX10_read_p42
  rcases read_prog hT lo it gl pr st t a nm0 fl fa nx c4 c5 R c18 c19 c20 c21 th fr to tk nm1 wr wa hs gl1 pr1 st1 cd bl op os dd cg cl cn c2 M c24 with ⟨e, hC, hM⟩ | ⟨G, g, pl, hok, hC, hM⟩
  · obtain ⟨lo2, t2, a2, nm2, fl2, fa2, nx2, d4, d5, S, d18, d19, d20, d21, e1, e2, e3, e4⟩ := hC
    obtain ⟨fr2, to2, tk2, nm3, gl3, pr3, st3, cd2, bl2, op2, os2, dd2, dg, dl, dn, d2, U, d8, e5⟩ := hM
    rw [e1, ob_s, if_neg e4, nm_q]
    dsimp only
    rw [e2] at e4 ⊢
    refine ⟨_, _, _, _, _, _, _, _, _, _, _, _, _, _, S, _, _, _, _, rfl, fr2, to2, tk2, nm3, _, _, _, gl3, pr3, st3, cd2, bl2, op2, os2, dd2, dg, dl, dn, d2, U, d8, e5, Or.inl ⟨rfl, rfl, rfl, rfl, rfl, trivial⟩, Or.inr ⟨e4, e3⟩⟩
  · obtain ⟨lo2, t2, a2, nm2, fa2, nx2, d4, d5, S, d18, d19, d20, d21, e1, e2, e3⟩ := hC
    obtain ⟨fr2, to2, tk2, nm3, cd2, bl2, op2, os2, dd2, dg, dl, dn, d2, U, d8, e5, e6, e7⟩ := hM
    rw [e1, ob_s, if_pos rfl]
    dsimp only
    refine ⟨_, _, _, _, _, _, _, _, _, _, _, _, _, _, S, _, _, _, _, rfl, fr2, to2, tk2, nm3, _, _, _, _, _, _, cd2, bl2, op2, os2, dd2, dg, dl, dn, d2, U, d8, e5, Or.inr ⟨rfl, rfl, G, g, pl, hok, trivial, rfl, rfl, rfl, rfl, rfl, rfl, e2, e6, fun s hs => ⟨e3 s hs, (e7 s hs).1, (e7 s hs).2, (e6.2 s hs).1⟩⟩, Or.inl ⟨rfl, rfl⟩⟩
theorem pu_told {Z : Prop} {Kc : (Nat → Nat → Nat → Nat) → Prop} {it gl pr st : Int32} {k3 k4 k5 : Nat → Int32} {k6 : Nat → Int64} {k7 k8 entry on1 on0 : Nat → Int32} {hs gl1 pr1 st1 : Int32} {m3 m4 m5 kd be tg fi inn ca ce co : Nat → Int32} (h : relPg Z Kc it gl pr st k3 k4 k5 k6 k7 k8 entry on1 on0 hs gl1 pr1 st1 m3 m4 m5 kd be tg fi inn ca ce co) (a0 a1 th : Int32) : ∃ v, fX10_told a0 a1 gl pr st k3 k5 k4 = some (v, ()) ∧ fX11_told a0 a1 th hs gl1 pr1 st1 m3 m4 m5 = some (v, 0) := by
  have i02 : ∀ z : Int32, (z < 0 ∨ 2 < z) ↔ ¬ (z = 0 ∨ z = 1 ∨ z = 2) := by
    intro z
    constructor
    · rintro h1 (h2 | h2 | h2) <;> subst h2 <;> revert h1 <;> decide
    · intro h1
      by_cases h2 : z < 0 ∨ 2 < z
      · exact h2
      · obtain ⟨j, j1, j2, j3⟩ := rng (l := 0) (h := 2) (by decide) (by decide) (by decide) (by decide) h2
        have hj : j = 0 ∨ j = 1 ∨ j = 2 := by omega
        rcases hj with hj | hj | hj <;> subst hj <;> subst j3 <;> exact absurd (by decide) h1
  have i35 : ∀ z : Int32, (z < 3 ∨ 5 < z) ↔ ¬ (z = 3 ∨ z = 4 ∨ z = 5) := by
    intro z
    constructor
    · rintro h1 (h2 | h2 | h2) <;> subst h2 <;> revert h1 <;> decide
    · intro h1
      by_cases h2 : z < 3 ∨ 5 < z
      · exact h2
      · obtain ⟨j, j1, j2, j3⟩ := rng (l := 3) (h := 5) (by decide) (by decide) (by decide) (by decide) h2
        have hj : j = 3 ∨ j = 4 ∨ j = 5 := by omega
        rcases hj with hj | hj | hj <;> subst hj <;> subst j3 <;> exact absurd (by decide) h1
  unfold fX10_told fX11_told fX3_aboutStatement fX3_aboutStatement_p12 fX11_told_p83 fX11_told_p120 fX11_told_p52
  rw [e_in, ob_s, e_in, ob_s]
  dsimp only
  by_cases c02 : a0 = 0 ∨ a0 = 1 ∨ a0 = 2
  · have n1 : ¬ (a0 < 0 ∨ 2 < a0) := fun z => (i02 a0).mp z c02
    rw [if_neg n1, if_neg n10]
    rcases h with ⟨h1, h2, h3, h4, h5, -⟩ | ⟨h1, h2, G, g, pl, h3, -, h4, h5, h6, h7, h8, h9, -⟩
    · rw [if_pos h5, h2, h3, h4]
      rcases c02 with z | z | z
      · rw [if_pos z]; exact ⟨0, rfl, rfl⟩
      · rw [if_neg (by rw [z]; decide), if_pos z]; exact ⟨0, rfl, rfl⟩
      · rw [if_neg (by rw [z]; decide), if_neg (by rw [z]; decide), if_pos z]; exact ⟨0, rfl, rfl⟩
    · rw [if_neg (show ¬ hs = 0 by rw [h2]; exact n10), h4, h5, h6, h7, h8, h9]
      rcases c02 with z | z | z
      · rw [if_pos z, if_pos z]; exact ⟨_, rfl, rfl⟩
      · rw [if_neg (show ¬ a0 = 0 by rw [z]; decide), if_pos z, if_neg (show ¬ a0 = 0 by rw [z]; decide), if_pos z]; exact ⟨_, rfl, rfl⟩
      · rw [if_neg (show ¬ a0 = 0 by rw [z]; decide), if_neg (show ¬ a0 = 1 by rw [z]; decide), if_pos z, if_neg (show ¬ a0 = 0 by rw [z]; decide), if_neg (show ¬ a0 = 1 by rw [z]; decide)]; exact ⟨_, rfl, rfl⟩
  · have p1 : (a0 < 0 ∨ 2 < a0) := (i02 a0).mpr c02
    have q0 : ¬ a0 = 0 := fun z => c02 (Or.inl z)
    have q1 : ¬ a0 = 1 := fun z => c02 (Or.inr (Or.inl z))
    have q2 : ¬ a0 = 2 := fun z => c02 (Or.inr (Or.inr z))
    rw [if_pos p1, if_pos rfl, if_neg q0, if_neg q1, if_neg q2]
    by_cases c35 : a0 = 3 ∨ a0 = 4 ∨ a0 = 5
    · rw [if_neg (fun z => (i35 a0).mp z c35), if_neg n10]
      rcases h with ⟨h1, h2, h3, h4, h5, -⟩ | ⟨h1, h2, G, g, pl, h3, -, h4, h5, h6, h7, h8, h9, h10, h11, h12⟩
      · rw [if_pos h5, h4]
        by_cases hn : a1 < 0
        · rw [if_pos hn, ob_s]; exact ⟨_, rfl, rfl⟩
        · rw [if_neg hn, if_neg hn, ob_s]; exact ⟨_, rfl, rfl⟩
      · have hn40 := h3.1
        rw [if_neg (show ¬ hs = 0 by rw [h2]; exact n10), h8, h9]
        simp only [nm_q]
        rw [e_in, ob_s]
        by_cases hn : a1 < 0
        · rw [if_pos hn, if_pos (Or.inl hn), if_pos rfl, ob_s]; exact ⟨_, rfl, rfl⟩
        · rw [if_neg hn]
          by_cases hl : a1 < nI (G 7 0 0)
          · have hge : 0 ≤ a1 := Int32.not_lt.mp hn
            obtain ⟨j, -, j2, j3⟩ := rng (a := a1) (lo := 0) (hi := nI (G 7 0 0)) (l := 0) (h := G 7 0 0) (by decide) rfl (by omega) (by omega) (fun z => by
              rcases z with z | z
              · exact hn z
              · exact Int32.lt_irrefl (Int32.lt_trans hl z))
            subst j3
            have hjl : j < G 7 0 0 := by
              by_cases hj : j = G 7 0 0
              · rw [hj] at hl; exact absurd hl (Int32.lt_irrefl)
              · omega
            have e1 : nI (G 7 0 0) - 1 = nI (G 7 0 0 - 1) := nI_dif (n := G 7 0 0) (k := 1) (by omega)
            have nin : ¬ (nI j < 0 ∨ nI (G 7 0 0) - 1 < nI j) := by
              rw [e1]
              rintro (z | z)
              · exact hn z
              · exact Int32.not_lt.mpr (nI_le (a := j) (b := G 7 0 0 - 1) (by omega) (by omega)) z
            obtain ⟨x1, x2, x3, x4⟩ := h12 j hjl
            obtain ⟨y1, -, -, y4, -⟩ := h10.2 j hjl
            have y1 : k3 j = nI (G 0 j 0) := y1
            have y4 : k5 j = nI (G 6 j 0) := y4
            have bj := inb_nI (j := j) (n := 40) (by omega) (by decide)
            rw [if_pos hl, if_neg nin, if_neg n10]
            simp only [nm_q, bd_eq _ bj, nI_clamp (n := j) (by omega)]
            rcases c35 with z | z | z
            · rw [if_pos z, if_pos z, ob_s, x1, x2]; exact ⟨_, rfl, rfl⟩
            · rw [if_neg (show ¬ a0 = 3 by rw [z]; decide), if_pos z, if_neg (show ¬ a0 = 3 by rw [z]; decide), if_pos z, ob_s, y4, x3]; exact ⟨_, rfl, rfl⟩
            · rw [if_neg (show ¬ a0 = 3 by rw [z]; decide), if_neg (show ¬ a0 = 4 by rw [z]; decide), if_pos z, if_neg (show ¬ a0 = 3 by rw [z]; decide), if_neg (show ¬ a0 = 4 by rw [z]; decide), ob_s, y1, x4]; exact ⟨_, rfl, rfl⟩
          · have hin : a1 < 0 ∨ nI (G 7 0 0) - 1 < a1 := by
              refine Or.inr ?_
              by_cases h0 : G 7 0 0 = 0
              · rw [h0] at hl ⊢
                exact Int32.lt_of_lt_of_le (by decide : nI 0 - 1 < nI 0) (Int32.not_lt.mp hl)
              · have e1 : nI (G 7 0 0) - 1 = nI (G 7 0 0 - 1) := nI_dif (n := G 7 0 0) (k := 1) (by omega)
                rw [e1]
                exact Int32.lt_of_lt_of_le (nI_lt (a := G 7 0 0 - 1) (b := G 7 0 0) (by omega) (by omega)) (Int32.not_lt.mp hl)
            rw [if_neg hl, if_pos hin, if_pos rfl, ob_s]
            exact ⟨_, rfl, rfl⟩
    · rw [if_pos ((i35 a0).mpr c35), if_pos rfl]
      have q3 : ¬ a0 = 3 := fun z => c35 (Or.inl z)
      have q4 : ¬ a0 = 4 := fun z => c35 (Or.inr (Or.inl z))
      have q5 : ¬ a0 = 5 := fun z => c35 (Or.inr (Or.inr z))
      by_cases hn : a1 < 0
      · rw [if_pos hn, ob_s]; exact ⟨_, rfl, rfl⟩
      · rw [if_neg hn]
        by_cases hl : a1 < st
        · rw [if_pos hl, if_neg q3, if_neg q4, if_neg q5, ob_s]; exact ⟨_, rfl, rfl⟩
        · rw [if_neg hl, ob_s]; exact ⟨_, rfl, rfl⟩
