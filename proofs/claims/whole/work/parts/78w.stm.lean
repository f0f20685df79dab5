/-! ===== pure rows 99: the variables, the reference ===== -/
def pyI (lc : Bool) (p : Nat) : Int32 := if lc = true then nI p else -1
def vR (lc : Bool) (p g l : Nat) (VN : Nat → List Nat) (cg : Nat → Int64) (cl : Nat → Int32) (cn : Nat → Int64) : Prop := (∀ v, v < g → cg v = nM (VN v)) ∧ (lc = true → cl p = nI l ∧ ∀ k, k < l → cn (2 * p + k) = nM (VN (3 + k)))
theorem r_hadL {lc : Bool} {p g l : Nat} {VN : Nat → List Nat} {cg cn : Nat → Int64} {cl : Nat → Int32} {W : List Nat} (hp : p < 6) (hl : l ≤ 2) (hok : ∀ v, vOk g l v → nameOk (VN v)) (hR : vR lc p g l VN cg cl cn) (hlc : lc = false → l = 0) (hW : nameOk W) (sz : Int32) (m : Nat → Int32) (k2) (fr to tk wr wa : Int32) (A : Prop) : ∀ (r i n : Nat) (y3 : Int32), i + r = l → r < n → (y3 = -1 ↔ A ∧ ∀ k, k < i → ¬ VN (3 + k) = W) → ∃ y4, fX11_takeVars_l73 sz m k2 n (pyI lc p) y3 (nI i) fr to tk (nM W) wr wa (nI g) cg cl cn = fX11_takeVars_p121 sz m k2 (pyI lc p) y4 fr to tk (nM W) wr wa (nI g) cg cl cn ∧ (y4 = -1 ↔ A ∧ ∀ k, k < l → ¬ VN (3 + k) = W) := by
  intro r
  induction r with
  | zero =>
    intro i n y3 hi hn hy
    obtain ⟨n, rfl⟩ : ∃ v, n = v + 1 := ⟨n - 1, by omega⟩
    have hil : i = l := by omega
    subst hil
    refine ⟨y3, ?_, hy⟩
    show fX11_takeVars_b73 sz m k2 _ (pyI lc p) y3 (nI i) fr to tk (nM W) wr wa (nI g) cg cl cn = _
    unfold fX11_takeVars_b73
    cases lc
    · rw [if_pos (show pyI false p = -1 from rfl)]
    · obtain ⟨h1, h2⟩ := hR.2 rfl
      rw [if_neg (show ¬ pyI true p = -1 from nI_m1 (by omega)), show pyI true p = nI p from rfl, bd_eq _ (inb_nI (j := p) (n := 6) hp (by decide)), nm_q, nI_clamp (n := p) (by omega), h1, if_pos (nI_le (a := i) (b := i) (Nat.le_refl _) (by omega))]
  | succ r ih =>
    intro i n y3 hi hn hy
    obtain ⟨n, rfl⟩ : ∃ v, n = v + 1 := ⟨n - 1, by omega⟩
    show ∃ y4, fX11_takeVars_b73 sz m k2 _ (pyI lc p) y3 (nI i) fr to tk (nM W) wr wa (nI g) cg cl cn = _ ∧ _
    cases lc
    · have := hlc rfl; omega
    · obtain ⟨h1, h2⟩ := hR.2 rfl
      have e1 : (2 : Int32) * nI p = nI (2 * p) := pk_mul 2 p
      have e2 : nI (2 * p) + nI i = nI (2 * p + i) := nI_add _ _
      have e3 : nI i + 1 = nI (i + 1) := nI_add _ 1
      have hk := hok (3 + i) (Or.inr ⟨by omega, by omega⟩)
      unfold fX11_takeVars_b73 fX11_takeVars_p114
      rw [if_neg (show ¬ pyI true p = -1 from nI_m1 (by omega)), show pyI true p = nI p from rfl, bd_eq _ (inb_nI (j := p) (n := 6) hp (by decide)), nm_q, nI_clamp (n := p) (by omega), h1, if_neg (Int32.not_le.mpr (nI_lt (a := i) (b := l) (by omega) (by omega))), nm_q, e1, nm_q, e2, bd_eq _ (inb_nI (j := 2 * p + i) (n := 12) (by omega) (by decide)), nm_q, nI_clamp (n := 2 * p + i) (by omega), h2 i (by omega), nm_q]
      simp only [nm_q, e3]
      by_cases hq : VN (3 + i) = W
      · rw [if_pos ((lg_cmp_eq _ _).mpr (congrArg nM hq))]
        refine ih (i + 1) n (nI i) (by omega) (by omega) ⟨fun z => absurd z (nI_m1 (by omega)), fun z => absurd hq (z.2 i (by omega))⟩
      · rw [if_neg (fun z => hq ((nM_eq hk.1 hk.2 hW.1 hW.2).mp ((lg_cmp_eq _ _).mp z)))]
        refine ih (i + 1) n y3 (by omega) (by omega) ⟨fun z => ⟨(hy.mp z).1, fun k hk => ?_⟩, fun z => hy.mpr ⟨z.1, fun k hk => z.2 k (by omega)⟩⟩
        by_cases hki : k = i
        · rw [hki]; exact hq
        · exact (hy.mp z).2 k (by omega)
theorem r_hadG {lc : Bool} {p g l : Nat} {VN : Nat → List Nat} {cg cn : Nat → Int64} {cl : Nat → Int32} {W : List Nat} (hp : p < 6) (hg : g ≤ 3) (hl : l ≤ 2) (hok : ∀ v, vOk g l v → nameOk (VN v)) (hR : vR lc p g l VN cg cl cn) (hlc : lc = false → l = 0) (hW : nameOk W) (sz : Int32) (m : Nat → Int32) (k2) (fr to tk wr wa : Int32) : ∀ (r i n : Nat) (y3 : Int32), i + r = g → r < n → (y3 = -1 ↔ ∀ v, v < i → ¬ VN v = W) → ∃ y4, fX11_takeVars_l33 sz m k2 n (pyI lc p) y3 (nI i) fr to tk (nM W) wr wa (nI g) cg cl cn = fX11_takeVars_p121 sz m k2 (pyI lc p) y4 fr to tk (nM W) wr wa (nI g) cg cl cn ∧ (y4 = -1 ↔ (∀ v, v < g → ¬ VN v = W) ∧ ∀ k, k < l → ¬ VN (3 + k) = W) := by
  intro r
  induction r with
  | zero =>
    intro i n y3 hi hn hy
    obtain ⟨n, rfl⟩ : ∃ v, n = v + 1 := ⟨n - 1, by omega⟩
    have hil : i = g := by omega
    subst hil
    obtain ⟨fu, hfu, hfg⟩ := fu_any
    obtain ⟨y4, e, h4⟩ := r_hadL (A := ∀ v, v < i → ¬ VN v = W) hp hl hok hR hlc hW sz m k2 fr to tk wr wa l 0 fu y3 (by omega) (by omega) ⟨fun z => ⟨hy.mp z, fun k hk => by omega⟩, fun z => hy.mpr z.1⟩
    refine ⟨y4, ?_, h4⟩
    show fX11_takeVars_b33 sz m k2 _ (pyI lc p) y3 (nI i) fr to tk (nM W) wr wa (nI i) cg cl cn = _
    unfold fX11_takeVars_b33
    rw [if_pos (nI_le (a := i) (b := i) (Nat.le_refl _) (by omega)), hfu]
    exact e
  | succ r ih =>
    intro i n y3 hi hn hy
    obtain ⟨n, rfl⟩ : ∃ v, n = v + 1 := ⟨n - 1, by omega⟩
    show ∃ y4, fX11_takeVars_b33 sz m k2 _ (pyI lc p) y3 (nI i) fr to tk (nM W) wr wa (nI g) cg cl cn = _ ∧ _
    have e3 : nI i + 1 = nI (i + 1) := nI_add _ 1
    have hk := hok i (Or.inl (by omega))
    unfold fX11_takeVars_b33 fX11_takeVars_p63
    rw [if_neg (Int32.not_le.mpr (nI_lt (a := i) (b := g) (by omega) (by omega))), bd_eq _ (inb_nI (j := i) (n := 3) (by omega) (by decide)), nm_q, nI_clamp (n := i) (by omega), hR.1 i (by omega), nm_q]
    simp only [nm_q, e3]
    by_cases hq : VN i = W
    · rw [if_pos ((lg_cmp_eq _ _).mpr (congrArg nM hq))]
      refine ih (i + 1) n (nI i) (by omega) (by omega) ⟨fun z => absurd z (nI_m1 (by omega)), fun z => absurd hq (z i (by omega))⟩
    · rw [if_neg (fun z => hq ((nM_eq hk.1 hk.2 hW.1 hW.2).mp ((lg_cmp_eq _ _).mp z)))]
      refine ih (i + 1) n y3 (by omega) (by omega) ⟨fun z k hk => ?_, fun z => hy.mpr fun k hk => z k (by omega)⟩
      by_cases hki : k = i
      · rw [hki]; exact hq
      · exact hy.mp z k (by omega)
theorem vIx_5 {VN : Nat → List Nat} {g l : Nat} {W : List Nat} (hg : g ≤ 3) (hl : l ≤ 2) : vIx VN g l W = 5 ↔ (∀ v, v < g → ¬ VN v = W) ∧ ∀ k, k < l → ¬ VN (3 + k) = W := by
  have hx := vIx_is (VN := VN) hg hl W
  constructor
  · intro h
    rw [h] at hx
    rcases hx with ⟨z, -⟩ | ⟨-, z⟩
    · unfold vOk at z; omega
    · exact ⟨fun v hv => z v (Or.inl hv), fun k hk => z (3 + k) (Or.inr ⟨by omega, by omega⟩)⟩
  · intro h
    rcases hx with ⟨z, y⟩ | ⟨z, -⟩
    · rcases z with z | ⟨z1, z2⟩
      · exact absurd y (h.1 _ z)
      · have := h.2 (vIx VN g l W - 3) (by omega)
        rw [show 3 + (vIx VN g l W - 3) = vIx VN g l W by omega] at this
        exact absurd y this
    · exact z
def rVB (e : Nat × Nat) (z fr tk wr wa : Int32) : Prop := (z = 0 ∧ wr = nI e.1 ∧ wa = nI e.2 ∧ ¬ wr = 0) ∨ (e.1 = 1 ∧ z = 1 ∧ fr = nI e.2 ∧ tk = 4 ∧ wr = 0)
theorem r_vL {B : Nat → Nat} {N : Nat} {c m : Nat → Int32} (h : txt B N c m) {lc : Bool} {p : Nat} (hp : p < 6) (wa : Int32) : ∀ (k u g l : Nat) (VN : Nat → List Nat) (cg : Nat → Int64) (cl : Nat → Int32) (cn : Nat → Int64) (f : Nat) (fr to tk : Int32) (nm0 : Int64), k + 3 ≤ u → f ≤ N → vCap lc k g l → vNm VN g l → vR lc p g l VN cg cl cn → rsO B N f fr to tk nm0 →
    ∃ (z fr2 to2 tk2 : Int32) (nm2 : Int64) (wr2 wa2 gl2 : Int32) (dg : Nat → Int64) (dl : Nat → Int32) (dn : Nat → Int64), fX11_takeVars_l2 (nI N) m u (pyI lc p) 1 fr to tk nm0 0 wa (nI g) cg cl cn = some (z, fr2, to2, tk2, nm2, wr2, wa2, gl2, dg, dl, dn) ∧ match (if tK B N f = 257 then (.error (1, f) : Vt) else vL B N lc k g l VN f) with
      | .error e => rVB e z fr2 tk2 wr2 wa2
      | .ok q => z = 1 ∧ rsO B N q.1 fr2 to2 tk2 nm2 ∧ wr2 = 0 ∧ wa2 = wa ∧ gl2 = nI q.2.1 ∧ vR lc p q.2.1 q.2.2.1 q.2.2.2 dg dl dn ∧ (lc = true → dg = cg) := by
  intro k
  induction k with
  | zero =>
    intro u g l VN cg cl cn f fr to tk nm0 hu hf hc hv hR hs
    obtain ⟨u, rfl⟩ : ∃ v, u = v + 1 := ⟨u - 1, by omega⟩
    obtain ⟨h1, h2, h3, h4⟩ := hs
    have hkm := kM_lt (tK B N f)
    show ∃ (z fr2 to2 tk2 : Int32) (nm2 : Int64) (wr2 wa2 gl2 : Int32) (dg : Nat → Int64) (dl : Nat → Int32) (dn : Nat → Int64), fX11_takeVars_b2 (nI N) m _ (pyI lc p) 1 fr to tk nm0 0 wa (nI g) cg cl cn = _ ∧ _
    unfold fX11_takeVars_b2 fX11_takeVars_p20
    rw [if_neg n10, h1, h3]
    by_cases h7 : tK B N f = 257
    · rw [if_neg (show ¬ nI (kM (tK B N f)) = 1 from fun z => absurd ((kM_1 _).mp ((nI_eq (a := kM (tK B N f)) (b := 1) (by omega) (by decide)).mp z)) (by omega)), r_may, ob_s, if_pos h7, if_pos rfl, if_pos h7]
      exact ⟨_, _, _, _, _, _, _, _, _, _, _, rfl, Or.inl ⟨rfl, (by decide : (1 : Int32) = nI 1), rfl, n10⟩⟩
    · by_cases h8 : tK B N f = 258
      · have hW := name_ok h hf (show 258 ≤ tK B N f by omega)
        have en : nm0 = nM (wj B f (tL B N f)) := (h4 (by omega)).2.2
        have hlc : lc = false → l = 0 := fun z => by unfold vCap at hc; rw [if_neg (by rw [z]; decide)] at hc; exact hc.2
        obtain ⟨fu, hfu, hfg⟩ := fu_any
        obtain ⟨y4, e, h5⟩ := r_hadG (W := wj B f (tL B N f)) hp hv.1 hv.2.1 hv.2.2.1 hR hlc hW (nI N) m (fX11_takeVars_l2 (nI N) m u) (nI f) to (nI (kM (tK B N f))) 0 wa g 0 fu (-1) (by omega) (by have := hv.1; omega) ⟨fun _ v hv => by omega, fun _ => rfl⟩
        rw [if_pos (show nI (kM (tK B N f)) = 1 from congrArg nI ((kM_1 _).mpr h8)), r_may, ob_s, if_neg h7, if_neg n10, if_neg n10, if_neg h7]
        dsimp only
        rw [hfu, en]
        have e' : fX11_takeVars_l33 (nI N) m (fX11_takeVars_l2 (nI N) m u) fu (pyI lc p) (-1) 0 (nI f) to (nI (kM (tK B N f))) (nM (wj B f (tL B N f))) 0 wa (nI g) cg cl cn = _ := e
        rw [e']
        unfold vL fX11_takeVars_p121 fX11_takeVars_p152 fX11_fail fX11_fail_p17
        rw [if_pos h8]
        unfold vCap at hc
        by_cases hy : y4 = -1
        · rw [if_pos hy]
          cases lc
          · rw [if_neg (by decide)] at hc
            rw [if_pos (show pyI false p = -1 from rfl), if_pos (show nI g = 3 from congrArg nI (by omega : g = 3)), if_pos rfl, ob_s, bd_eq _ (show bz (0 : Int32) = true by decide)]
            exact ⟨_, _, _, _, _, _, _, _, _, _, _, rfl, Or.inl ⟨rfl, (by decide : (3 : Int32) = nI 3), rfl, (by decide : ¬ (3 : Int32) = 0)⟩⟩
          · rw [if_pos rfl] at hc
            rw [if_neg (show ¬ pyI true p = -1 from nI_m1 (by omega)), show pyI true p = nI p from rfl, bd_eq _ (inb_nI (j := p) (n := 6) hp (by decide)), nm_q, nI_clamp (n := p) (by omega), (hR.2 rfl).1, if_pos (show nI l = 2 from congrArg nI (by omega : l = 2)), if_pos rfl, ob_s, bd_eq _ (show bz (0 : Int32) = true by decide)]
            exact ⟨_, _, _, _, _, _, _, _, _, _, _, rfl, Or.inl ⟨rfl, (by decide : (3 : Int32) = nI 3), rfl, (by decide : ¬ (3 : Int32) = 0)⟩⟩
        · rw [if_neg hy, if_pos rfl, ob_s, bd_eq _ (show bz (0 : Int32) = true by decide)]
          exact ⟨_, _, _, _, _, _, _, _, _, _, _, rfl, Or.inl ⟨rfl, (by decide : (3 : Int32) = nI 3), rfl, (by decide : ¬ (3 : Int32) = 0)⟩⟩
      · rw [if_neg (show ¬ nI (kM (tK B N f)) = 1 from fun z => h8 ((kM_1 _).mp ((nI_eq (a := kM (tK B N f)) (b := 1) (by omega) (by decide)).mp z))), r_may, ob_s, if_neg h7, if_pos rfl, if_pos rfl, if_neg h7]
        unfold vL
        rw [if_neg h8]
        exact ⟨_, _, _, _, _, _, _, _, _, _, _, rfl, Or.inl ⟨rfl, (by decide : (2 : Int32) = nI 2), rfl, (by decide : ¬ (2 : Int32) = 0)⟩⟩
  | succ k ih =>
    intro u g l VN cg cl cn f fr to tk nm0 hu hf hc hv hR hs
    obtain ⟨u, rfl⟩ : ∃ v, u = v + 1 := ⟨u - 1, by omega⟩
    have hs0 := hs
    obtain ⟨h1, h2, h3, h4⟩ := hs
    have hkm := kM_lt (tK B N f)
    show ∃ (z fr2 to2 tk2 : Int32) (nm2 : Int64) (wr2 wa2 gl2 : Int32) (dg : Nat → Int64) (dl : Nat → Int32) (dn : Nat → Int64), fX11_takeVars_b2 (nI N) m _ (pyI lc p) 1 fr to tk nm0 0 wa (nI g) cg cl cn = _ ∧ _
    unfold fX11_takeVars_b2 fX11_takeVars_p20
    rw [if_neg n10, h1, h3]
    by_cases h7 : tK B N f = 257
    · rw [if_neg (show ¬ nI (kM (tK B N f)) = 1 from fun z => absurd ((kM_1 _).mp ((nI_eq (a := kM (tK B N f)) (b := 1) (by omega) (by decide)).mp z)) (by omega)), r_may, ob_s, if_pos h7, if_pos rfl, if_pos h7]
      exact ⟨_, _, _, _, _, _, _, _, _, _, _, rfl, Or.inl ⟨rfl, (by decide : (1 : Int32) = nI 1), rfl, n10⟩⟩
    · by_cases h8 : tK B N f = 258
      · have hW := name_ok h hf (show 258 ≤ tK B N f by omega)
        have en : nm0 = nM (wj B f (tL B N f)) := (h4 (by omega)).2.2
        have hlc : lc = false → l = 0 := fun z => by unfold vCap at hc; rw [if_neg (by rw [z]; decide)] at hc; exact hc.2
        obtain ⟨cc1, cc2, cc3, cc4, cc5, cc6, cc7⟩ := vCap_n hc
        obtain ⟨fu, hfu, hfg⟩ := fu_any
        obtain ⟨y4, e, h5⟩ := r_hadG (W := wj B f (tL B N f)) hp hv.1 hv.2.1 hv.2.2.1 hR hlc hW (nI N) m (fX11_takeVars_l2 (nI N) m u) (nI f) to (nI (kM (tK B N f))) 0 wa g 0 fu (-1) (by omega) (by have := hv.1; omega) ⟨fun _ v hv => by omega, fun _ => rfl⟩
        have h5 : y4 = -1 ↔ vIx VN g l (wj B f (tL B N f)) = 5 := h5.trans (vIx_5 hv.1 hv.2.1).symm
        rw [if_pos (show nI (kM (tK B N f)) = 1 from congrArg nI ((kM_1 _).mpr h8)), r_may, ob_s, if_neg h7, if_neg n10, if_neg n10, if_neg h7]
        dsimp only
        rw [hfu, en]
        have e' : fX11_takeVars_l33 (nI N) m (fX11_takeVars_l2 (nI N) m u) fu (pyI lc p) (-1) 0 (nI f) to (nI (kM (tK B N f))) (nM (wj B f (tL B N f))) 0 wa (nI g) cg cl cn = _ := e
        rw [e']
        unfold vL
        rw [if_pos h8]
        by_cases hy : y4 = -1
        · have h55 := h5.mp hy
          rw [if_pos h55]
          have hvn := vNm_n hc hv hW h55
          obtain ⟨fr2, to2, tk2, nm2, e2, hs2⟩ := r_nxt h hf hs0
          rw [h1, h3, en] at e2
          have hX := tX_le (B := B) hf
          have es := r_sees (f := tX B N f) (a := 44) h (by decide)
          have es : fX11_sees 44 (nI N) fr2 tk2 m = some (if tK B N (tX B N f) = 44 then 1 else 0, ()) := by rw [hs2.1, hs2.2.2.1]; exact es
          -- the name is written, then its comma or not
          have add : ∃ (dg : Nat → Int64) (dl : Nat → Int32) (dn : Nat → Int64), fX11_takeVars_p121 (nI N) m (fX11_takeVars_l2 (nI N) m u) (pyI lc p) y4 (nI f) to (nI (kM (tK B N f))) (nM (wj B f (tL B N f))) 0 wa (nI g) cg cl cn = fX11_takeVars_p222 (nI N) m (fX11_takeVars_l2 (nI N) m u) (pyI lc p) (nI f) to (nI (kM (tK B N f))) (nM (wj B f (tL B N f))) 0 wa (nI (vG lc g)) dg dl dn ∧ vR lc p (vG lc g) (vLo lc l) (vN lc g l VN (wj B f (tL B N f))) dg dl dn ∧ (lc = true → dg = cg) := by
            unfold fX11_takeVars_p121 fX11_takeVars_p162
            rw [if_pos hy]
            unfold vCap at hc
            cases lc
            · rw [if_neg (by decide)] at hc
              have e7 : nI g + 1 = nI (g + 1) := nI_add _ 1
              rw [if_pos (show pyI false p = -1 from rfl), if_pos (show pyI false p = -1 from rfl), if_neg (show ¬ nI g = 3 from fun z => absurd ((nI_eq (a := g) (b := 3) (by omega) (by decide)).mp z) (by omega)), bd_eq _ (inb_nI (j := g) (n := 3) (by omega) (by decide)), nm_q, nm_q, nI_clamp (n := g) (by omega), e7]
              refine ⟨_, _, _, rfl, ⟨fun v hvv => ?_, fun z => by cases z⟩, fun z => by cases z⟩
              have hvv : v < g + 1 := hvv
              unfold vN
              rw [if_neg (by decide : ¬ false = true)]
              by_cases hvg : v = g
              · rw [if_pos hvg, hvg, updL_at]
              · rw [if_neg hvg, updL_ne hvg]
                exact hR.1 v (by omega)
            · rw [if_pos rfl] at hc
              obtain ⟨q1, q2⟩ := hR.2 rfl
              have e1 : (2 : Int32) * nI p = nI (2 * p) := pk_mul 2 p
              have e2 : nI (2 * p) + nI l = nI (2 * p + l) := nI_add _ _
              have e3 : nI l + 1 = nI (l + 1) := nI_add _ 1
              rw [if_neg (show ¬ pyI true p = -1 from nI_m1 (by omega)), if_neg (show ¬ pyI true p = -1 from nI_m1 (by omega)), show pyI true p = nI p from rfl]
              simp only [nm_q, bd_eq _ (inb_nI (j := p) (n := 6) hp (by decide)), nI_clamp (n := p) (by omega), q1, e1, e2, e3, bd_eq _ (inb_nI (j := 2 * p + l) (n := 12) (by omega) (by decide)), nI_clamp (n := 2 * p + l) (by omega)]
              rw [if_neg (show ¬ nI l = 2 from fun z => absurd ((nI_eq (a := l) (b := 2) (by omega) (by decide)).mp z) (by omega))]
              refine ⟨_, _, _, rfl, ⟨fun v hvv => ?_, fun _ => ⟨upd_at _ _ _, fun k hk => ?_⟩⟩, fun _ => rfl⟩
              · have hvv : v < g := hvv
                unfold vN
                rw [if_pos rfl, if_neg (by omega)]
                exact hR.1 v hvv
              · have hk : k < l + 1 := hk
                unfold vN
                rw [if_pos rfl]
                by_cases hkl : k = l
                · rw [if_pos (by omega), hkl, updL_at]
                · rw [if_neg (by omega), updL_ne (by omega)]
                  exact q2 k (by omega)
          obtain ⟨dg, dl, dn, e3, hR3, hd3⟩ := add
          rw [e3]
          unfold fX11_takeVars_p222 fX11_takeVars_p241
          rw [e2, ob_s]
          dsimp only
          rw [es, ob_s]
          by_cases h44 : tK B N (tX B N f) = 44
          · have hg1 : goT B N (tX B N f) = .ok (tX B N f) := by unfold goT; rw [if_neg (by omega)]
            obtain ⟨fr4, to4, tk4, nm4, e4, hs4⟩ := r_nxt h hX hs2
            rw [hg1, if_pos h44, if_neg n10, e4, ob_s]
            dsimp only
            rw [if_pos h44]
            obtain ⟨z, fr5, to5, tk5, nm5, wr5, wa5, gl5, dg5, dl5, dn5, e5, h6⟩ := ih u (vG lc g) (vLo lc l) _ dg dl dn (tX B N (tX B N f)) fr4 to4 tk4 nm4 (by omega) (tX_le hX) cc1 hvn hR3 hs4
            refine ⟨z, fr5, to5, tk5, nm5, wr5, wa5, gl5, dg5, dl5, dn5, e5, ?_⟩
            unfold goT
            by_cases h257 : tK B N (tX B N (tX B N f)) = 257
            · rw [if_pos h257] at h6 ⊢
              exact h6
            · rw [if_neg h257] at h6 ⊢
              dsimp only
              cases hvl : vL B N lc k (vG lc g) (vLo lc l) (vN lc g l VN (wj B f (tL B N f))) (tX B N (tX B N f)) with
              | error e1 => rw [hvl] at h6; exact h6
              | ok q =>
                rw [hvl] at h6
                obtain ⟨w1, w2, w3, w4, w5, w6, w7⟩ := h6
                exact ⟨w1, w2, w3, w4, w5, w6, fun z => (w7 z).trans (hd3 z)⟩
          · rw [if_neg h44, if_pos rfl]
            obtain ⟨u, rfl⟩ : ∃ v, u = v + 1 := ⟨u - 1, by omega⟩
            show ∃ (z fr2 to2 tk2 : Int32) (nm2 : Int64) (wr2 wa2 gl2 : Int32) (dg : Nat → Int64) (dl : Nat → Int32) (dn : Nat → Int64), fX11_takeVars_b2 (nI N) m _ (pyI lc p) 0 _ _ _ _ 0 wa (nI (vG lc g)) _ _ _ = _ ∧ _
            unfold fX11_takeVars_b2
            obtain ⟨z, fr5, to5, tk5, nm5, wr5, wa5, e5, hz, h6⟩ := r_semi h hX hs2 (d := 1) (by decide) (by decide) (w := 59) (by decide) wa
            have e5 : fX11_take 59 (nI N) fr2 to2 tk2 nm2 0 wa m = some (z, fr5, to5, tk5, nm5, wr5, wa5) := e5
            have hzb : bz z = true := by rcases hz with hz | hz <;> rw [hz] <;> decide
            rw [if_pos rfl, e5, ob_s, bd_eq _ hzb]
            refine ⟨_, _, _, _, _, _, _, _, _, _, _, rfl, ?_⟩
            cases hg1 : goT B N (tX B N f) with
            | error e1 =>
              rw [hg1] at h6
              rcases h6 with q | q
              · exact Or.inl q
              · exact Or.inr ⟨q.1, q.2.1, q.2.2.1, q.2.2.2.1, q.2.2.2.2.1⟩
            | ok f1 =>
              obtain ⟨y1, y2⟩ := goT_ok hg1
              subst y1
              rw [hg1] at h6
              dsimp only
              rw [if_neg h44]
              have h6 : (match skT B N 59 (tX B N f) with
                | .error e => rBd e z fr5 tk5 wr5 wa5 (nI 1)
                | .ok f2 => z = 1 ∧ rsO B N f2 fr5 to5 tk5 nm5 ∧ wr5 = 0 ∧ wa5 = wa ∧ tX B N f ≤ f2) := h6
              cases hs3 : skT B N 59 (tX B N f) with
              | error e1 =>
                rw [hs3] at h6
                rcases h6 with q | q
                · exact Or.inl q
                · exact Or.inr ⟨q.1, q.2.1, q.2.2.1, q.2.2.2.1, q.2.2.2.2.1⟩
              | ok f3 =>
                rw [hs3] at h6
                obtain ⟨w1, w2, w3, w4, w5⟩ := h6
                exact ⟨w1, w2, w3, w4, rfl, hR3, hd3⟩
        · rw [if_neg (fun z => hy (h5.mpr z))]
          unfold fX11_takeVars_p121 fX11_takeVars_p152 fX11_fail fX11_fail_p17
          rw [if_neg hy, if_pos rfl, ob_s, bd_eq _ (show bz (0 : Int32) = true by decide)]
          exact ⟨_, _, _, _, _, _, _, _, _, _, _, rfl, Or.inl ⟨rfl, (by decide : (3 : Int32) = nI 3), rfl, (by decide : ¬ (3 : Int32) = 0)⟩⟩
      · rw [if_neg (show ¬ nI (kM (tK B N f)) = 1 from fun z => h8 ((kM_1 _).mp ((nI_eq (a := kM (tK B N f)) (b := 1) (by omega) (by decide)).mp z))), r_may, ob_s, if_neg h7, if_pos rfl, if_pos rfl, if_neg h7]
        unfold vL
        rw [if_neg h8]
        exact ⟨_, _, _, _, _, _, _, _, _, _, _, rfl, Or.inl ⟨rfl, (by decide : (2 : Int32) = nI 2), rfl, (by decide : ¬ (2 : Int32) = 0)⟩⟩
