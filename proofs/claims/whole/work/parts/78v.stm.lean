/-! ===== pure rows 98: the variables, the class ===== -/
abbrev Vt : Type := Except (Nat × Nat) (Nat × Nat × Nat × (Nat → List Nat))
def vG (lc : Bool) (g : Nat) : Nat := if lc = true then g else g + 1
def vLo (lc : Bool) (l : Nat) : Nat := if lc = true then l + 1 else l
def vN (lc : Bool) (g l : Nat) (VN : Nat → List Nat) (W : List Nat) : Nat → List Nat := fun v => if v = (if lc = true then 3 + l else g) then W else VN v
/-- a row of variables: k more may come -/
def vL (B : Nat → Nat) (N : Nat) (lc : Bool) : Nat → Nat → Nat → (Nat → List Nat) → Nat → Vt
  | 0 => fun _ _ _ f => if tK B N f = 258 then .error (3, f) else .error (2, f)
  | k + 1 => fun g l VN f => if tK B N f = 258 then (if vIx VN g l (wj B f (tL B N f)) = 5 then (match goT B N (tX B N f) with
      | .error e => .error e
      | .ok f1 => if tK B N f1 = 44 then (match goT B N (tX B N f1) with
          | .error e => .error e
          | .ok f2 => vL B N lc k (vG lc g) (vLo lc l) (vN lc g l VN (wj B f (tL B N f))) f2)
        else (match skT B N 59 f1 with
          | .error e => .error e
          | .ok f3 => .ok (f3, vG lc g, vLo lc l, vN lc g l VN (wj B f (tL B N f))))) else .error (3, f)) else .error (2, f)
def vCap (lc : Bool) (k g l : Nat) : Prop := if lc = true then k + l = 2 ∧ g ≤ 3 else k + g = 3 ∧ l = 0
theorem vOk_n {lc : Bool} {k g l v : Nat} (hc : vCap lc (k + 1) g l) : vOk (vG lc g) (vLo lc l) v ↔ vOk g l v ∨ v = (if lc = true then 3 + l else g) := by
  unfold vCap at hc
  unfold vOk vG vLo
  cases lc
  · rw [if_neg (by decide)] at hc
    rw [if_neg (by decide), if_neg (by decide), if_neg (by decide)]
    omega
  · rw [if_pos rfl] at hc
    rw [if_pos rfl, if_pos rfl, if_pos rfl]
    omega
theorem vCap_n {lc : Bool} {k g l : Nat} (hc : vCap lc (k + 1) g l) : vCap lc k (vG lc g) (vLo lc l) ∧ ¬ vOk g l (if lc = true then 3 + l else g) ∧ (if lc = true then 3 + l else g) < 5 ∧ vG lc g ≤ 3 ∧ vLo lc l ≤ 2 ∧ g ≤ 3 ∧ l ≤ 2 := by
  unfold vCap at hc ⊢
  unfold vOk vG vLo
  cases lc
  · rw [if_neg (by decide)] at hc
    rw [if_neg (by decide), if_neg (by decide), if_neg (by decide), if_neg (by decide)]
    omega
  · rw [if_pos rfl] at hc
    rw [if_pos rfl, if_pos rfl, if_pos rfl, if_pos rfl]
    omega
theorem vNm_n {lc : Bool} {k g l : Nat} {VN : Nat → List Nat} {W : List Nat} (hc : vCap lc (k + 1) g l) (h : vNm VN g l) (hW : nameOk W) (h5 : vIx VN g l W = 5) : vNm (vN lc g l VN W) (vG lc g) (vLo lc l) := by
  obtain ⟨c1, c2, c3, c4, c5, c6, c7⟩ := vCap_n hc
  have hx := vIx_is (VN := VN) h.1 h.2.1 W
  rw [h5] at hx
  have hno : ∀ v, vOk g l v → ¬ VN v = W := by
    rcases hx with ⟨z, -⟩ | ⟨-, z⟩
    · unfold vOk at z; omega
    · exact z
  have e : ∀ v, vOk g l v → vN lc g l VN W v = VN v := fun v hv => by
    unfold vN
    rw [if_neg (show ¬ v = (if lc = true then 3 + l else g) from fun z => c2 (z ▸ hv))]
  have e2 : vN lc g l VN W (if lc = true then 3 + l else g) = W := by unfold vN; rw [if_pos rfl]
  refine ⟨c4, c5, fun v hv => ?_, fun u v hu hv huv => ?_⟩
  · rcases (vOk_n hc).mp hv with z | z
    · rw [e v z]; exact h.2.2.1 v z
    · rw [z, e2]; exact hW
  · rcases (vOk_n hc).mp hu with z | z
    · rcases (vOk_n hc).mp hv with y | y
      · rw [e u z, e v y] at huv; exact h.2.2.2 u v z y huv
      · rw [e u z, y, e2] at huv; exact absurd huv (hno u z)
    · rcases (vOk_n hc).mp hv with y | y
      · rw [e v y, z, e2] at huv; exact absurd huv.symm (hno v y)
      · rw [z, y]
theorem vL_ok {B : Nat → Nat} {N : Nat} {c m : Nat → Int32} (h : txt B N c m) {lc : Bool} : ∀ (k g l : Nat) (VN : Nat → List Nat) (f : Nat) q, f ≤ N → vCap lc k g l → vNm VN g l → vL B N lc k g l VN f = .ok q → f < q.1 ∧ q.1 ≤ N ∧ ¬ tK B N q.1 = 257 ∧ vNm q.2.2.2 q.2.1 q.2.2.1 ∧ q.2.1 ≤ 3 ∧ q.2.2.1 ≤ 2 ∧ (lc = true → q.2.1 = g) ∧ (lc = false → q.2.2.1 = l) ∧ ∀ v, vOk g l v → q.2.2.2 v = VN v := by
  intro k
  induction k with
  | zero =>
    intro g l VN f q hf hc hv hq
    unfold vL at hq
    split at hq <;> cases hq
  | succ k ih =>
    intro g l VN f q hf hc hv hq
    unfold vL at hq
    split at hq
    · rename_i h258
      split at hq
      · rename_i h5
        obtain ⟨c1, c2, c3, c4, c5, c6, c7⟩ := vCap_n hc
        have hW := name_ok h hf (show 258 ≤ tK B N f by omega)
        have hvn := vNm_n hc hv hW h5
        have e : ∀ v, vOk g l v → vN lc g l VN (wj B f (tL B N f)) v = VN v := fun v hv => by
          unfold vN
          rw [if_neg (show ¬ v = (if lc = true then 3 + l else g) from fun z => c2 (z ▸ hv))]
        have l1 := tX_gt (B := B) hf (by omega)
        have l2 := tX_le (B := B) hf
        cases hg : goT B N (tX B N f) with
        | error e1 => rw [hg] at hq; cases hq
        | ok f1 =>
          rw [hg] at hq
          obtain ⟨y1, y2⟩ := goT_ok hg
          subst y1
          dsimp only at hq
          split at hq
          · cases hg2 : goT B N (tX B N (tX B N f)) with
            | error e1 => rw [hg2] at hq; cases hq
            | ok f2 =>
              rw [hg2] at hq
              obtain ⟨y3, y4⟩ := goT_ok hg2
              subst y3
              dsimp only at hq
              have l3 := tX_gt (B := B) l2 (by omega)
              have l4 := tX_le (B := B) l2
              obtain ⟨a1, a2, a3, a4, a5, a6, a7, a8, a9⟩ := ih _ _ _ _ q l4 c1 hvn hq
              refine ⟨by omega, a2, a3, a4, a5, a6, fun z => ?_, fun z => ?_, fun v hv => ?_⟩
              · rw [a7 z]; unfold vG; rw [if_pos z]
              · rw [a8 z]; unfold vLo; rw [if_neg (by rw [z]; decide)]
              · rw [a9 v ((vOk_n hc).mpr (Or.inl hv)), e v hv]
          · cases hs : skT B N 59 (tX B N f) with
            | error e1 => rw [hs] at hq; cases hq
            | ok f3 =>
              rw [hs] at hq
              cases hq
              obtain ⟨y3, y4, y5⟩ := skT_ok hs
              subst y4
              have l3 := tX_gt (B := B) l2 (by omega)
              have l4 := tX_le (B := B) l2
              refine ⟨by show f < tX B N (tX B N f); omega, l4, y5, hvn, c4, c5, fun z => ?_, fun z => ?_, e⟩
              · show vG lc g = g; unfold vG; rw [if_pos z]
              · show vLo lc l = l; unfold vLo; rw [if_neg (by rw [z]; decide)]
      · cases hq
    · cases hq
def lcI (lc : Bool) : Int32 := if lc = true then 1 else 0
theorem c_varF {lc lo a fl fa sz nx gl : Int32} {nm0 : Int64} {c3 : Nat → Int64} {c : Nat → Int32} (u : Nat) (i : Int32) (h : ¬ fl = 0) : (ob (fX2_readVariable lc lo 257 a nm0 fl fa sz nx gl c3 c) fun o5 => fX2_readVariables_l14 sz c (u + 1) lc i o5.1 o5.2.1 o5.2.2.1 o5.2.2.2.1 o5.2.2.2.2.1 o5.2.2.2.2.2.1 o5.2.2.2.2.2.2.1 o5.2.2.2.2.2.2.2.1 o5.2.2.2.2.2.2.2.2) = some (lo, 257, a, nm0, fl, fa, nx, gl, c3) := by
  unfold fX2_readVariable
  rw [if_neg (by decide), c_failF h, ob_s, ob_s]
  show fX2_readVariables_b14 sz c _ lc i lo 257 a nm0 fl fa nx gl c3 = _
  unfold fX2_readVariables_b14 fX2_readVariables_p49
  by_cases h3 : 3 ≤ i
  · rw [if_pos h3, c_skipF h (by decide), ob_s]
  · rw [if_neg h3, if_neg (by decide), c_skipF h (by decide), ob_s]
theorem c_vL {B : Nat → Nat} {N : Nat} {c m : Nat → Int32} (h : txt B N c m) {lc : Bool} : ∀ (k i u g l : Nat) (VN : Nat → List Nat) (c3 : Nat → Int64) (f : Nat) (t a : Int32) (nm0 : Int64) (fl fa nx : Int32), i + k ≤ 3 → 5 ≤ u + i → vCap lc k g l → vNm VN g l → vC VN g l c3 → scO B N f t a nm0 fl fa nx →
    ∃ (lo2 t2 a2 : Int32) (nm2 : Int64) (fl2 fa2 nx2 gl2 : Int32) (d3 : Nat → Int64), (ob (fX2_readVariable (lcI lc) (nI l) t a nm0 fl fa (nI N) nx (nI g) c3 c) fun o5 => fX2_readVariables_l14 (nI N) c (u + 1) (lcI lc) (nI i) o5.1 o5.2.1 o5.2.2.1 o5.2.2.2.1 o5.2.2.2.2.1 o5.2.2.2.2.2.1 o5.2.2.2.2.2.2.1 o5.2.2.2.2.2.2.2.1 o5.2.2.2.2.2.2.2.2) = some (lo2, t2, a2, nm2, fl2, fa2, nx2, gl2, d3) ∧ match vL B N lc k g l VN f with
      | .error e => scF e t2 fl2 fa2
      | .ok q => scO B N q.1 t2 a2 nm2 fl2 fa2 nx2 ∧ gl2 = nI q.2.1 ∧ lo2 = nI q.2.2.1 ∧ vC q.2.2.2 q.2.1 q.2.2.1 d3 := by
  intro k
  induction k with
  | zero =>
    intro i u g l VN c3 f t a nm0 fl fa nx hi hu hc hv hvc hs
    have hle := tK_le B N f
    obtain ⟨x1, x2, x3, x4, x5, x6, x7⟩ := hs
    have hs0 : scO B N f t a nm0 fl fa nx := ⟨x1, x2, x3, x4, x5, x6, x7⟩
    unfold vL
    -- whatever has failed stays so
    have fin : ∀ (e : Nat × Nat) (lo gl a1 nx1 : Int32) (nm1 : Int64) (fl1 fa1 : Int32) (c31 : Nat → Int64), scF e 257 fl1 fa1 → ∃ (lo2 t2 a2 : Int32) (nm2 : Int64) (fl2 fa2 nx2 gl2 : Int32) (d3 : Nat → Int64), fX2_readVariables_l14 (nI N) c (u + 1) (lcI lc) (nI i) lo 257 a1 nm1 fl1 fa1 nx1 gl c31 = some (lo2, t2, a2, nm2, fl2, fa2, nx2, gl2, d3) ∧ scF e t2 fl2 fa2 := by
      intro e lo gl a1 nx1 nm1 fl1 fa1 c31 hf
      refine ⟨lo, 257, a1, nm1, fl1, fa1, nx1, gl, c31, ?_, hf⟩
      show fX2_readVariables_b14 (nI N) c _ (lcI lc) (nI i) lo 257 a1 nm1 fl1 fa1 nx1 gl c31 = _
      unfold fX2_readVariables_b14 fX2_readVariables_p49
      by_cases h3 : 3 ≤ nI i
      · rw [if_pos h3, c_skipF hf.2.2.2 (by decide), ob_s]
      · rw [if_neg h3, if_neg (by decide), c_skipF hf.2.2.2 (by decide), ob_s]
    unfold fX2_readVariable fX2_readVariable_p58 fX2_readVariable_p78
    by_cases h8 : tK B N f = 258
    · rw [if_pos h8, if_pos (show t = 258 from x3.trans (congrArg nI h8))]
      obtain ⟨t3, fl3, fa3, e3, h3⟩ := c_failR hs0 3 (by decide)
      have e3' : fX4_failHere 3 t a fl fa = some (t3, fl3, fa3) := e3
      have hg3 : t3 = 257 := h3.1
      subst hg3
      unfold vCap at hc
      cases lc
      · rw [if_neg (by decide)] at hc
        have hg : ¬ nI g < 3 := Int32.not_lt.mpr (show (3 : Int32) ≤ nI g from nI_le (a := 3) (b := g) (by omega) (by omega))
        rw [if_pos (show lcI false = 0 from rfl), if_neg hg, if_neg n10, e3', ob_s, ob_s]
        exact fin _ _ _ _ _ _ _ _ _ h3
      · rw [if_pos rfl] at hc
        have hg : ¬ nI l < 2 := Int32.not_lt.mpr (show (2 : Int32) ≤ nI l from nI_le (a := 2) (b := l) (by omega) (by omega))
        rw [if_neg (show ¬ lcI true = 0 from n10), if_neg hg, if_neg n10, e3', ob_s, ob_s]
        exact fin _ _ _ _ _ _ _ _ _ h3
    · obtain ⟨t3, fl3, fa3, e3, h3⟩ := c_failR hs0 2 (by decide)
      have e3' : fX4_failHere 2 t a fl fa = some (t3, fl3, fa3) := e3
      have hg3 : t3 = 257 := h3.1
      subst hg3
      have hn : ¬ t = 258 := fun z => h8 ((nI_eq (a := tK B N f) (b := 258) (by omega) (by decide)).mp (x3.symm.trans z))
      rw [if_neg h8, if_neg hn, e3', ob_s, ob_s]
      exact fin _ _ _ _ _ _ _ _ _ h3
  | succ k ih =>
    intro i u g l VN c3 f t a nm0 fl fa nx hi hu hc hv hvc hs
    have hle := tK_le B N f
    obtain ⟨x1, x2, x3, x4, x5, x6, x7⟩ := hs
    have hs0 : scO B N f t a nm0 fl fa nx := ⟨x1, x2, x3, x4, x5, x6, x7⟩
    have fin : ∀ (e : Nat × Nat) (lo gl a1 nx1 : Int32) (nm1 : Int64) (fl1 fa1 : Int32) (c31 : Nat → Int64), scF e 257 fl1 fa1 → ∃ (lo2 t2 a2 : Int32) (nm2 : Int64) (fl2 fa2 nx2 gl2 : Int32) (d3 : Nat → Int64), fX2_readVariables_l14 (nI N) c (u + 1) (lcI lc) (nI i) lo 257 a1 nm1 fl1 fa1 nx1 gl c31 = some (lo2, t2, a2, nm2, fl2, fa2, nx2, gl2, d3) ∧ scF e t2 fl2 fa2 := by
      intro e lo gl a1 nx1 nm1 fl1 fa1 c31 hf
      refine ⟨lo, 257, a1, nm1, fl1, fa1, nx1, gl, c31, ?_, hf⟩
      show fX2_readVariables_b14 (nI N) c _ (lcI lc) (nI i) lo 257 a1 nm1 fl1 fa1 nx1 gl c31 = _
      unfold fX2_readVariables_b14 fX2_readVariables_p49
      by_cases h3 : 3 ≤ nI i
      · rw [if_pos h3, c_skipF hf.2.2.2 (by decide), ob_s]
      · rw [if_neg h3, if_neg (by decide), c_skipF hf.2.2.2 (by decide), ob_s]
    unfold vL
    by_cases h8 : tK B N f = 258
    · rw [if_pos h8]
      obtain ⟨cc1, cc2, cc3, cc4, cc5, cc6, cc7⟩ := vCap_n hc
      have hW := name_ok h x2 (show 258 ≤ tK B N f by omega)
      have hnm : nm0 = nC (wj B f (tL B N f)) := x7 (by omega)
      obtain ⟨ev, hle5⟩ := c_findV hv hvc hW
      rw [← hnm] at ev
      have t258 : t = 258 := x3.trans (congrArg nI h8)
      by_cases h5 : vIx VN g l (wj B f (tL B N f)) = 5
      · rw [if_pos h5]
        have e5 : vCi (vIx VN g l (wj B f (tL B N f))) = -1 := by unfold vCi; rw [if_pos h5]
        obtain ⟨t2, a2, nm2, fl2, fa2, nx2, e2, h2⟩ := c_goR h (r := .ok f) hs0
        have h2 : scR B N (goT B N (tX B N f)) t2 a2 nm2 fl2 fa2 nx2 := h2
        -- the new name
        have hvn := vNm_n hc hv hW h5
        have hvc2 : ∀ z : Nat, z = (if lc = true then 3 + l else g) → vC (vN lc g l VN (wj B f (tL B N f))) (vG lc g) (vLo lc l) (vp_updL c3 z nm0) := by
          intro z hz v hvv
          unfold vN
          rcases (vOk_n hc).mp hvv with q | q
          · have hne : ¬ v = (if lc = true then 3 + l else g) := fun w => cc2 (w ▸ q)
            rw [if_neg hne, updL_ne (by rw [hz]; exact hne)]
            exact hvc v q
          · rw [if_pos q, q, hz, updL_at, hnm]
        have rd : fX2_readVariable (lcI lc) (nI l) t a nm0 fl fa (nI N) nx (nI g) c3 c = some (nI (vLo lc l), t2, a2, nm2, fl2, fa2, nx2, nI (vG lc g), vp_updL c3 (if lc = true then 3 + l else g) nm0) := by
          unfold fX2_readVariable fX2_readVariable_p58 fX2_readVariable_p154
          rw [if_pos t258]
          unfold vCap at hc
          unfold vLo vG
          cases lc
          · rw [if_neg (by decide)] at hc
            have hg : nI g < 3 := nI_lt (a := g) (b := 3) (by omega) (by decide)
            have e7 : nI g + 1 = nI (g + 1) := nI_add _ 1
            rw [if_pos (show lcI false = 0 from rfl), if_pos hg, if_pos rfl, ev, ob_s, if_pos e5, if_pos (show lcI false = 0 from rfl), bd_eq _ (inb_nI (j := g) (n := 5) (by omega) (by decide)), nm_q, nm_q, nI_clamp (n := g) (by omega), e7, e2, ob_s, if_neg (by decide), if_neg (by decide), if_neg (by decide)]
          · rw [if_pos rfl] at hc
            have hg : nI l < 2 := nI_lt (a := l) (b := 2) (by omega) (by decide)
            have e7 : nI l + 1 = nI (l + 1) := nI_add _ 1
            have e8 : (3 : Int32) + nI l = nI (3 + l) := nI_add 3 l
            rw [if_neg (show ¬ lcI true = 0 from n10), if_pos hg, if_pos rfl, ev, ob_s, if_pos e5, if_neg (show ¬ lcI true = 0 from n10), nm_q, e8, bd_eq _ (inb_nI (j := 3 + l) (n := 5) (by omega) (by decide)), nm_q, nm_q, nI_clamp (n := 3 + l) (by omega), e7, e2, ob_s, if_pos rfl, if_pos rfl, if_pos rfl]
        rw [rd, ob_s]
        dsimp only
        cases hg : goT B N (tX B N f) with
        | error e1 =>
          rw [hg] at h2
          have hg3 : t2 = 257 := h2.1
          subst hg3
          exact fin _ _ _ _ _ _ _ _ _ h2
        | ok f1 =>
          rw [hg] at h2
          dsimp only
          have hle1 := tK_le B N f1
          have hi3 : ¬ 3 ≤ nI i := Int32.not_le.mpr (show nI i < (3 : Int32) from nI_lt (a := i) (b := 3) (by omega) (by decide))
          show ∃ (lo2 t3 a3 : Int32) (nm3 : Int64) (fl3 fa3 nx3 gl2 : Int32) (d3 : Nat → Int64), fX2_readVariables_b14 (nI N) c _ (lcI lc) (nI i) (nI (vLo lc l)) t2 a2 nm2 fl2 fa2 nx2 (nI (vG lc g)) _ = _ ∧ _
          unfold fX2_readVariables_b14
          rw [if_neg hi3]
          by_cases h44 : tK B N f1 = 44
          · rw [if_pos (show t2 = 44 from h2.2.2.1.trans (congrArg nI h44)), if_pos h44]
            obtain ⟨t4, a4, nm4, fl4, fa4, nx4, e4, h4⟩ := c_goR h (r := .ok f1) h2
            have h4 : scR B N (goT B N (tX B N f1)) t4 a4 nm4 fl4 fa4 nx4 := h4
            obtain ⟨u, rfl⟩ : ∃ v, u = v + 1 := ⟨u - 1, by omega⟩
            have hi1 : nI i + 1 = nI (i + 1) := nI_add _ 1
            rw [e4, ob_s]
            dsimp only
            simp only [nm_q, hi1]
            cases hg2 : goT B N (tX B N f1) with
            | error e1 =>
              rw [hg2] at h4
              have hg3 : t4 = 257 := h4.1
              subst hg3
              rw [c_varF u (nI (i + 1)) h4.2.2.2]
              exact ⟨_, _, _, _, _, _, _, _, _, rfl, h4⟩
            | ok f2 =>
              rw [hg2] at h4
              exact ih (i + 1) u (vG lc g) (vLo lc l) _ _ f2 t4 a4 nm4 fl4 fa4 nx4 (by omega) (by omega) cc1 hvn (hvc2 _ rfl) h4
          · have hn44 : ¬ t2 = 44 := fun z => h44 ((nI_eq (a := tK B N f1) (b := 44) (by omega) (by decide)).mp (h2.2.2.1.symm.trans z))
            rw [if_neg hn44, if_neg h44]
            obtain ⟨z, t4, a4, nm4, fl4, fa4, nx4, e4, h4, -⟩ := c_skipR h (r := .ok f1) h2 (w := 59) (by decide) (by decide)
            have e4' : fX4_skipToken 59 t2 a2 nm2 fl2 fa2 (nI N) nx2 c = some (z, t4, a4, nm4, fl4, fa4, nx4) := e4
            have h4 : scR B N (skT B N 59 f1) t4 a4 nm4 fl4 fa4 nx4 := h4
            unfold fX2_readVariables_p49
            rw [e4', ob_s]
            refine ⟨_, _, _, _, _, _, _, _, _, rfl, ?_⟩
            cases hs3 : skT B N 59 f1 with
            | error e1 => rw [hs3] at h4; exact h4
            | ok f3 => rw [hs3] at h4; exact ⟨h4, rfl, rfl, hvc2 _ rfl⟩
      · rw [if_neg h5]
        have e5 : ¬ vCi (vIx VN g l (wj B f (tL B N f))) = -1 := by unfold vCi; rw [if_neg h5]; exact nI_m1 (by omega)
        obtain ⟨t3, fl3, fa3, e3, h3⟩ := c_failR hs0 3 (by decide)
        have e3' : fX4_failHere 3 t a fl fa = some (t3, fl3, fa3) := e3
        have hg3 : t3 = 257 := h3.1
        subst hg3
        have rd : fX2_readVariable (lcI lc) (nI l) t a nm0 fl fa (nI N) nx (nI g) c3 c = some (nI l, 257, a, nm0, fl3, fa3, nx, nI g, c3) := by
          unfold fX2_readVariable fX2_readVariable_p58 fX2_readVariable_p78
          rw [if_pos t258]
          unfold vCap at hc
          cases lc
          · rw [if_neg (by decide)] at hc
            have hg : nI g < 3 := nI_lt (a := g) (b := 3) (by omega) (by decide)
            rw [if_pos (show lcI false = 0 from rfl), if_pos hg, if_pos rfl, ev, ob_s, if_neg e5, e3', ob_s]
          · rw [if_pos rfl] at hc
            have hg : nI l < 2 := nI_lt (a := l) (b := 2) (by omega) (by decide)
            rw [if_neg (show ¬ lcI true = 0 from n10), if_pos hg, if_pos rfl, ev, ob_s, if_neg e5, e3', ob_s]
        rw [rd, ob_s]
        exact fin _ _ _ _ _ _ _ _ _ h3
    · obtain ⟨t3, fl3, fa3, e3, h3⟩ := c_failR hs0 2 (by decide)
      have e3' : fX4_failHere 2 t a fl fa = some (t3, fl3, fa3) := e3
      have hg3 : t3 = 257 := h3.1
      subst hg3
      have hn : ¬ t = 258 := fun z => h8 ((nI_eq (a := tK B N f) (b := 258) (by omega) (by decide)).mp (x3.symm.trans z))
      unfold fX2_readVariable
      rw [if_neg h8, if_neg hn, e3', ob_s, ob_s]
      exact fin _ _ _ _ _ _ _ _ _ h3
