/-! ===== pure rows 88: statements: the class's if and while ===== -/
def brP (n kd f par ins els m1 : Nat) (P1 P2 : Nat → Nat → Nat) : Nat → Nat → Nat := fun a s => if s = n then rwP kd f par ins els 0 0 a else if s < m1 then P1 a s else P2 a s
def brL (n m1 : Nat) (L : List Nat) (L1 L2 : Nat → List Nat) : Nat → List Nat := fun s => if s = n then L else if s < m1 then L1 s else L2 s
def brE (B : Nat → Nat) (N n kd f par : Nat) (L : List Nat) (b1 : Nat × Nat × (Nat → Nat → Nat) × (Nat → List Nat)) (rb2 : Rt) : Rt := match goT B N (tX B N b1.2.1) with
  | .error e => .error e
  | .ok _ => match rb2 with
    | .error e => .error e
    | .ok b2 => .ok (b2.1, b2.2.1, brP n kd f par (if n + 1 < b1.1 then n + 1 else 40) (if b1.1 < b2.1 then b1.1 else 40) b1.1 b1.2.2.1 b2.2.2.1, brL n b1.1 L b1.2.2.2 b2.2.2.2)
def brR (B : Nat → Nat) (N : Nat) (VN : Nat → List Nat) (g l par f n kd : Nat) (rb1 rb2 : Rt) : Rt := match goT B N (tX B N f) with
  | .error e => .error e
  | .ok f1 => match exP B N VN g l f1 with
    | .error e => .error e
    | .ok q => match rb1 with
      | .error e => .error e
      | .ok b1 => if kd = 1 ∧ tK B N b1.2.1 = 261 then brE B N n kd f par q.1 b1 rb2
        else .ok (b1.1, b1.2.1, brP n kd f par (if n + 1 < b1.1 then n + 1 else 40) 40 b1.1 b1.2.2.1 b1.2.2.1, brL n b1.1 q.1 b1.2.2.2 b1.2.2.2)
theorem c_stmB {B : Nat → Nat} {N : Nat} {c m : Nat → Int32} (h : txt B N c m) {VN : Nat → List Nat} {c14 : Nat → Int64} {g l p k d par f n : Nat} (hv : vNm VN g l) (hc : vC VN g l c14) (hn : n < 40) (hd : d ≤ 10) (hk1 : d < 10 → 1 ≤ k) (hb : bgS (tK B N f)) {kd : Nat} (hkd : kdT (tK B N f) = kd) (h12 : kd = 1 ∨ kd = 2) {rb1 rb2 : Rt}
    (hb1 : ∀ f1 q, goT B N (tX B N f) = .ok f1 → exP B N VN g l f1 = .ok q → CB B N c c14 g l p k d n q.2 (n + 1) rb1)
    (hb2 : ∀ b1, rb1 = .ok b1 → n + 1 ≤ b1.1 ∧ b1.1 ≤ 40 ∧ ∀ f3, kd = 1 → tK B N b1.2.1 = 261 → goT B N (tX B N b1.2.1) = .ok f3 → CB B N c c14 g l p k d n f3 b1.1 rb2 ∧ ∀ b2, rb2 = .ok b2 → b1.1 ≤ b2.1 ∧ b2.1 ≤ 40) :
    CM B N c c14 g l p k d par f n (brR B N VN g l par f n kd rb1 rb2) := by
  intro t a nm0 fl fa nx R hs
  rw [c_stmU hs hb, hkd]
  have ha : a = nI f := hs.2.2.2.1
  have hb40 := inb_nI (j := n) (n := 40) hn (by decide)
  have hcl := nI_clamp (n := n) (by omega)
  obtain ⟨t2, a2, nm2, fl2, fa2, nx2, e2, h2⟩ := c_goR h (r := .ok f) hs
  rw [ha] at e2
  have h2 : scR B N (goT B N (tX B N f)) t2 a2 nm2 fl2 fa2 nx2 := h2
  obtain ⟨v, t3, a3, nm3, fl3, fa3, nx3, e3, h3, hV⟩ := c_expR h hv hc h2
  -- both kinds go the same way
  have key : fX2_readStatement_o_p30 (fX2_readBranch_o (fX2_readBlock_o (fX2_readStatements_n k))) (nI l) (nI N) (nI g) (nI (p + 1)) c c14 (pI par) (nI d) (nI kd) t (nI f) nm0 fl fa nx (nI n) R.1 R.2.1 R.2.2.1 R.2.2.2.1 R.2.2.2.2.1 R.2.2.2.2.2.1 R.2.2.2.2.2.2.1 R.2.2.2.2.2.2.2.1 R.2.2.2.2.2.2.2.2.1 R.2.2.2.2.2.2.2.2.2.1 R.2.2.2.2.2.2.2.2.2.2.1 R.2.2.2.2.2.2.2.2.2.2.2 = fX2_readStatement_o_p75 (fX2_readBranch_o (fX2_readBlock_o (fX2_readStatements_n k))) (nI l) (nI N) (nI g) (nI (p + 1)) c c14 (nI d) (nI n) t (nI f) nm0 fl fa nx (nI (n + 1)) (upd R.1 n (nI kd)) (upd R.2.1 n (nI f)) (upd R.2.2.1 n (nI p)) (vp_updL R.2.2.2.1 n (-4294967296)) (upd R.2.2.2.2.1 n 0) (upd R.2.2.2.2.2.1 n 0) (upd R.2.2.2.2.2.2.1 n (pI par)) (upd R.2.2.2.2.2.2.2.1 n (-1)) (upd R.2.2.2.2.2.2.2.2.1 n (-1)) (upd R.2.2.2.2.2.2.2.2.2.1 n (-1)) R.2.2.2.2.2.2.2.2.2.2.1 R.2.2.2.2.2.2.2.2.2.2.2 := by
    unfold fX2_readStatement_o_p30
    rw [c_add hn, ob_s]
    dsimp only
    rw [if_neg (nI_m1 (by omega))]
    rcases h12 with h12 | h12
    · rw [if_pos (show nI kd = 1 from congrArg nI h12)]
    · rw [if_neg (show ¬ nI kd = 1 from fun z => absurd ((nI_eq (a := kd) (b := 1) (by omega) (by decide)).mp z) (by omega)), if_pos (show nI kd = 2 from congrArg nI h12)]
  rw [key]
  unfold fX2_readStatement_o_p75 fX2_readBranch_o fX2_readBranch_o_p84
  rw [e2, ob_s]
  dsimp only
  rw [e3, ob_s]
  dsimp only
  rw [bd_eq _ hb40, nm_q, hcl]
  have D : (∃ e1, brR B N VN g l par f n kd rb1 rb2 = .error e1 ∧ ∃ (y4 t4 a4 : Int32) (nm4 : Int64) (fl4 fa4 nx4 st4 : Int32) (S : CT), fX2_readBlock_o (fX2_readStatements_n k) (nI n) (nI d) (nI l) t3 a3 nm3 fl3 fa3 (nI N) nx3 c (nI g) (nI (p + 1)) (nI (n + 1)) (upd R.1 n (nI kd)) (upd R.2.1 n (nI f)) (upd R.2.2.1 n (nI p)) (vp_updL (vp_updL R.2.2.2.1 n (-4294967296)) n v) (upd R.2.2.2.2.1 n 0) (upd R.2.2.2.2.2.1 n 0) (upd R.2.2.2.2.2.2.1 n (pI par)) (upd R.2.2.2.2.2.2.2.1 n (-1)) (upd R.2.2.2.2.2.2.2.2.1 n (-1)) (upd R.2.2.2.2.2.2.2.2.2.1 n (-1)) c14 R.2.2.2.2.2.2.2.2.2.2.1 R.2.2.2.2.2.2.2.2.2.2.2 = some (y4, t4, a4, nm4, fl4, fa4, nx4, st4, S) ∧ scF e1 t4 fl4 fa4) ∨ (∃ f1 q b1, goT B N (tX B N f) = .ok f1 ∧ exP B N VN g l f1 = .ok q ∧ rb1 = .ok b1 ∧ ∃ (y4 t4 a4 : Int32) (nm4 : Int64) (fl4 fa4 nx4 st4 : Int32) (S : CT), fX2_readBlock_o (fX2_readStatements_n k) (nI n) (nI d) (nI l) t3 a3 nm3 fl3 fa3 (nI N) nx3 c (nI g) (nI (p + 1)) (nI (n + 1)) (upd R.1 n (nI kd)) (upd R.2.1 n (nI f)) (upd R.2.2.1 n (nI p)) (vp_updL (vp_updL R.2.2.2.1 n (-4294967296)) n v) (upd R.2.2.2.2.1 n 0) (upd R.2.2.2.2.2.1 n 0) (upd R.2.2.2.2.2.2.1 n (pI par)) (upd R.2.2.2.2.2.2.2.1 n (-1)) (upd R.2.2.2.2.2.2.2.2.1 n (-1)) (upd R.2.2.2.2.2.2.2.2.2.1 n (-1)) c14 R.2.2.2.2.2.2.2.2.2.2.1 R.2.2.2.2.2.2.2.2.2.2.2 = some (y4, t4, a4, nm4, fl4, fa4, nx4, st4, S) ∧ cRes B N p (n + 1) (.ok b1) (upd R.1 n (nI kd), upd R.2.1 n (nI f), upd R.2.2.1 n (nI p), vp_updL (vp_updL R.2.2.2.1 n (-4294967296)) n v, upd R.2.2.2.2.1 n 0, upd R.2.2.2.2.2.1 n 0, upd R.2.2.2.2.2.2.1 n (pI par), upd R.2.2.2.2.2.2.2.1 n (-1), upd R.2.2.2.2.2.2.2.2.1 n (-1), upd R.2.2.2.2.2.2.2.2.2.1 n (-1), R.2.2.2.2.2.2.2.2.2.2.1, R.2.2.2.2.2.2.2.2.2.2.2) y4 t4 a4 nm4 fl4 fa4 nx4 st4 S) := by
    have badE : ∀ e1 : Nat × Nat, scF e1 t3 fl3 fa3 → ∃ (y4 t4 a4 : Int32) (nm4 : Int64) (fl4 fa4 nx4 st4 : Int32) (S : CT), fX2_readBlock_o (fX2_readStatements_n k) (nI n) (nI d) (nI l) t3 a3 nm3 fl3 fa3 (nI N) nx3 c (nI g) (nI (p + 1)) (nI (n + 1)) (upd R.1 n (nI kd)) (upd R.2.1 n (nI f)) (upd R.2.2.1 n (nI p)) (vp_updL (vp_updL R.2.2.2.1 n (-4294967296)) n v) (upd R.2.2.2.2.1 n 0) (upd R.2.2.2.2.2.1 n 0) (upd R.2.2.2.2.2.2.1 n (pI par)) (upd R.2.2.2.2.2.2.2.1 n (-1)) (upd R.2.2.2.2.2.2.2.2.1 n (-1)) (upd R.2.2.2.2.2.2.2.2.2.1 n (-1)) c14 R.2.2.2.2.2.2.2.2.2.2.1 R.2.2.2.2.2.2.2.2.2.2.2 = some (y4, t4, a4, nm4, fl4, fa4, nx4, st4, S) ∧ scF e1 t4 fl4 fa4 := by
      intro e1 hf
      obtain ⟨g1, g2, g3, g4⟩ := hf
      subst g1
      exact ⟨_, _, _, _, _, _, _, _, _, c_blkF k hd hk1 (nI n) (nI l) a3 nm3 fa3 (nI N) nx3 (nI g) (nI (p + 1)) (nI (n + 1)) c c14 (upd R.1 n (nI kd), upd R.2.1 n (nI f), upd R.2.2.1 n (nI p), vp_updL (vp_updL R.2.2.2.1 n (-4294967296)) n v, upd R.2.2.2.2.1 n 0, upd R.2.2.2.2.2.1 n 0, upd R.2.2.2.2.2.2.1 n (pI par), upd R.2.2.2.2.2.2.2.1 n (-1), upd R.2.2.2.2.2.2.2.2.1 n (-1), upd R.2.2.2.2.2.2.2.2.2.1 n (-1), R.2.2.2.2.2.2.2.2.2.2.1, R.2.2.2.2.2.2.2.2.2.2.2) g4, rfl, g2, g3, g4⟩
    unfold brR
    cases hgo : goT B N (tX B N f) with
    | error e1 =>
      rw [hgo] at h3
      exact Or.inl ⟨e1, rfl, badE e1 h3⟩
    | ok f1 =>
      rw [hgo] at h3
      cases hex : exP B N VN g l f1 with
      | error e1 =>
        have h3' : scR B N (exT B N VN g l f1) t3 a3 nm3 fl3 fa3 nx3 := h3
        unfold exT at h3'
        rw [hex] at h3'
        refine Or.inl ⟨e1, ?_, badE e1 h3'⟩
        dsimp only
        rw [hex]
      | ok q =>
        have h3' : scR B N (exT B N VN g l f1) t3 a3 nm3 fl3 fa3 nx3 := h3
        unfold exT at h3'
        rw [hex] at h3'
        obtain ⟨y4, t4, a4, nm4, fl4, fa4, nx4, st4, S, e4, h4⟩ := hb1 f1 q hgo hex t3 a3 nm3 fl3 fa3 nx3 (upd R.1 n (nI kd), upd R.2.1 n (nI f), upd R.2.2.1 n (nI p), vp_updL (vp_updL R.2.2.2.1 n (-4294967296)) n v, upd R.2.2.2.2.1 n 0, upd R.2.2.2.2.2.1 n 0, upd R.2.2.2.2.2.2.1 n (pI par), upd R.2.2.2.2.2.2.2.1 n (-1), upd R.2.2.2.2.2.2.2.2.1 n (-1), upd R.2.2.2.2.2.2.2.2.2.1 n (-1), R.2.2.2.2.2.2.2.2.2.2.1, R.2.2.2.2.2.2.2.2.2.2.2) h3'
        rw [pI_n (n := n) hn] at e4
        cases rb1 with
        | error e1 =>
          refine Or.inl ⟨e1, ?_, y4, t4, a4, nm4, fl4, fa4, nx4, st4, S, e4, h4⟩
          dsimp only
          rw [hex]
        | ok b1 => exact Or.inr ⟨f1, q, b1, rfl, hex, rfl, y4, t4, a4, nm4, fl4, fa4, nx4, st4, S, e4, h4⟩
  rcases D with ⟨e1, hbr, y4, t4, a4, nm4, fl4, fa4, nx4, st4, S, e4, hf⟩ | ⟨f1, q, b1, hgo, hex, hrb, y4, t4, a4, nm4, fl4, fa4, nx4, st4, S, e4, h4⟩
  · obtain ⟨g1, g2, g3, g4⟩ := hf
    subst g1
    rw [hbr, e4, ob_s]
    simp only [bd_eq _ hb40, nm_q]
    rw [if_neg (show ¬ (257 : Int32) = 261 by decide)]
    by_cases hx : S.1 n = 1
    · rw [if_pos hx, ob_s]
      exact ⟨_, _, _, _, _, _, _, _, _, rfl, rfl, g2, g3, g4⟩
    · rw [if_neg hx, ob_s]
      exact ⟨_, _, _, _, _, _, _, _, _, rfl, rfl, g2, g3, g4⟩
  · subst hrb
    obtain ⟨o1, o2, o3, o4, o5⟩ := h4
    obtain ⟨m1, m2, m3⟩ := hb2 b1 rfl
    obtain ⟨⟨x0, x1, x2, x3, x4, x6, x8, x9, x10, x11⟩, x7⟩ := o4 n (Nat.lt_succ_self n)
    dsimp only at x0 x1 x2 x3 x4 x6 x7 x8 x9 x10 x11
    rw [upd_at] at x0 x1 x2 x4 x6 x7 x8 x9
    rw [updL_at] at x3
    have hVq := hV f1 q hgo hex
    have hlow : ∀ s, s < n → eqA s S R ∧ S.2.2.2.2.2.2.2.1 s = R.2.2.2.2.2.2.2.1 s := fun s hs => by
      obtain ⟨⟨y0, y1, y2, y3, y4, y6, y8, y9, y10, y11⟩, y7⟩ := o4 s (by omega)
      have hne : s ≠ n := Nat.ne_of_lt hs
      dsimp only at y0 y1 y2 y3 y4 y6 y7 y8 y9 y10 y11
      rw [upd_ne hne] at y0 y1 y2 y4 y6 y7 y8 y9
      rw [updL_ne hne, updL_ne hne] at y3
      exact ⟨⟨y0, y1, y2, y3, y4, y6, y8, y9, y10, y11⟩, y7⟩
    have hK4 : t4 = nI (tK B N b1.2.1) := o1.2.2.1
    have hle4 := tK_le B N b1.2.1
    unfold brR
    rw [hgo]
    dsimp only
    rw [hex]
    dsimp only
    rw [e4, ob_s]
    simp only [bd_eq _ hb40, nm_q]
    rw [x0]
    by_cases hc1 : kd = 1 ∧ tK B N b1.2.1 = 261
    · obtain ⟨t5, a5, nm5, fl5, fa5, nx5, e5, h5⟩ := c_goR h (r := .ok b1.2.1) o1
      have h5 : scR B N (goT B N (tX B N b1.2.1)) t5 a5 nm5 fl5 fa5 nx5 := h5
      rw [if_pos (show nI kd = 1 from congrArg nI hc1.1), if_pos (show t4 = 261 from hK4.trans (congrArg nI hc1.2)), if_pos hc1, e5, ob_s]
      dsimp only
      have D2 : (∃ e1, brE B N n kd f par q.1 b1 rb2 = .error e1 ∧ ∃ (y6 t6 a6 : Int32) (nm6 : Int64) (fl6 fa6 nx6 st6 : Int32) (S6 : CT), fX2_readBlock_o (fX2_readStatements_n k) (nI n) (nI d) (nI l) t5 a5 nm5 fl5 fa5 (nI N) nx5 c (nI g) (nI (p + 1)) st4 S.1 S.2.1 S.2.2.1 S.2.2.2.1 S.2.2.2.2.1 S.2.2.2.2.2.1 S.2.2.2.2.2.2.1 S.2.2.2.2.2.2.2.1 (upd S.2.2.2.2.2.2.2.2.1 n y4) S.2.2.2.2.2.2.2.2.2.1 c14 S.2.2.2.2.2.2.2.2.2.2.1 S.2.2.2.2.2.2.2.2.2.2.2 = some (y6, t6, a6, nm6, fl6, fa6, nx6, st6, S6) ∧ scF e1 t6 fl6 fa6) ∨ (∃ f3 b2, goT B N (tX B N b1.2.1) = .ok f3 ∧ rb2 = .ok b2 ∧ ∃ (y6 t6 a6 : Int32) (nm6 : Int64) (fl6 fa6 nx6 st6 : Int32) (S6 : CT), fX2_readBlock_o (fX2_readStatements_n k) (nI n) (nI d) (nI l) t5 a5 nm5 fl5 fa5 (nI N) nx5 c (nI g) (nI (p + 1)) st4 S.1 S.2.1 S.2.2.1 S.2.2.2.1 S.2.2.2.2.1 S.2.2.2.2.2.1 S.2.2.2.2.2.2.1 S.2.2.2.2.2.2.2.1 (upd S.2.2.2.2.2.2.2.2.1 n y4) S.2.2.2.2.2.2.2.2.2.1 c14 S.2.2.2.2.2.2.2.2.2.2.1 S.2.2.2.2.2.2.2.2.2.2.2 = some (y6, t6, a6, nm6, fl6, fa6, nx6, st6, S6) ∧ cRes B N p b1.1 (.ok b2) (S.1, S.2.1, S.2.2.1, S.2.2.2.1, S.2.2.2.2.1, S.2.2.2.2.2.1, S.2.2.2.2.2.2.1, S.2.2.2.2.2.2.2.1, upd S.2.2.2.2.2.2.2.2.1 n y4, S.2.2.2.2.2.2.2.2.2.1, S.2.2.2.2.2.2.2.2.2.2.1, S.2.2.2.2.2.2.2.2.2.2.2) y6 t6 a6 nm6 fl6 fa6 nx6 st6 S6) := by
        unfold brE
        cases hg3 : goT B N (tX B N b1.2.1) with
        | error e1 =>
          rw [hg3] at h5
          obtain ⟨g1, g2, g3, g4⟩ := h5
          subst g1
          exact Or.inl ⟨e1, rfl, _, _, _, _, _, _, _, _, _, c_blkF k hd hk1 (nI n) (nI l) a5 nm5 fa5 (nI N) nx5 (nI g) (nI (p + 1)) st4 c c14 (S.1, S.2.1, S.2.2.1, S.2.2.2.1, S.2.2.2.2.1, S.2.2.2.2.2.1, S.2.2.2.2.2.2.1, S.2.2.2.2.2.2.2.1, upd S.2.2.2.2.2.2.2.2.1 n y4, S.2.2.2.2.2.2.2.2.2.1, S.2.2.2.2.2.2.2.2.2.2.1, S.2.2.2.2.2.2.2.2.2.2.2) g4, rfl, g2, g3, g4⟩
        | ok f3 =>
          rw [hg3] at h5
          obtain ⟨y6, t6, a6, nm6, fl6, fa6, nx6, st6, S6, e6, h6⟩ := (m3 f3 hc1.1 hc1.2 hg3).1 t5 a5 nm5 fl5 fa5 nx5 (S.1, S.2.1, S.2.2.1, S.2.2.2.1, S.2.2.2.2.1, S.2.2.2.2.2.1, S.2.2.2.2.2.2.1, S.2.2.2.2.2.2.2.1, upd S.2.2.2.2.2.2.2.2.1 n y4, S.2.2.2.2.2.2.2.2.2.1, S.2.2.2.2.2.2.2.2.2.2.1, S.2.2.2.2.2.2.2.2.2.2.2) h5
          rw [pI_n (n := n) hn, ← o2] at e6
          cases rb2 with
          | error e1 => exact Or.inl ⟨e1, rfl, y6, t6, a6, nm6, fl6, fa6, nx6, st6, S6, e6, h6⟩
          | ok b2 => exact Or.inr ⟨f3, b2, rfl, rfl, y6, t6, a6, nm6, fl6, fa6, nx6, st6, S6, e6, h6⟩
      rcases D2 with ⟨e1, hbr, y6, t6, a6, nm6, fl6, fa6, nx6, st6, S6, e6, hf⟩ | ⟨f3, b2, hg3, hrb2, y6, t6, a6, nm6, fl6, fa6, nx6, st6, S6, e6, h6⟩
      · rw [hbr, e6, ob_s, ob_s]
        exact ⟨_, _, _, _, _, _, _, _, _, rfl, hf⟩
      · subst hrb2
        obtain ⟨n1, n2⟩ := (m3 f3 hc1.1 hc1.2 hg3).2 b2 rfl
        obtain ⟨u1, u2, u3, u4, u5⟩ := h6
        unfold brE
        rw [hg3, e6, ob_s, ob_s]
        refine ⟨_, _, _, _, _, _, _, _, _, rfl, u1, u2, ?_, ?_, ?_⟩
        · rw [if_pos (show n < b2.1 by omega), pI_n hn]
        · intro s hs
          have hne : s ≠ n := Nat.ne_of_lt hs
          obtain ⟨⟨y0, y1, y2, y3, y4, y6, y8, y9, y10, y11⟩, y7⟩ := u4 s (by omega)
          obtain ⟨⟨z0, z1, z2, z3, z4, z6, z8, z9, z10, z11⟩, z7⟩ := hlow s hs
          dsimp only at y0 y1 y2 y3 y4 y6 y7 y8 y9 y10 y11
          rw [upd_ne hne] at y8
          exact ⟨⟨y0.trans z0, y1.trans z1, y2.trans z2, y3.trans z3, y4.trans z4, y6.trans z6, y8.trans z8, (upd_ne hne).trans (y9.trans z9), y10.trans z10, y11.trans z11⟩, y7.trans z7⟩
        · intro s hs1 hs2
          by_cases hsn : s = n
          · subst hsn
            obtain ⟨⟨y0, y1, y2, y3, y4, y6, y8, y9, y10, y11⟩, y7⟩ := u4 s (by omega)
            dsimp only at y0 y1 y2 y3 y4 y6 y7 y8 y9 y10 y11
            rw [upd_at] at y8
            unfold cRw brP brL
            simp only [if_true]
            exact ⟨y0.trans x0, y1.trans x1, y2.trans x2, by rw [y3, x3]; exact hVq, fun z => absurd z (by show ¬ kd = 0; omega), y6.trans x6, (y7.trans x7).trans pI_40.symm, y8.trans o3, (upd_at _ _ _).trans u3, fun z => absurd z (by show ¬ kd = 3; omega)⟩
          · by_cases hsb : s < b1.1
            · obtain ⟨⟨y0, y1, y2, y3, y4, y6, y8, y9, y10, y11⟩, y7⟩ := u4 s hsb
              dsimp only at y0 y1 y2 y3 y4 y6 y7 y8 y9 y10 y11
              rw [upd_ne hsn] at y8
              have hrow := o5 s (by omega) hsb
              refine cRw_eq hrow ⟨y0, y1, y2, y3, y4, y6, y8, (upd_ne hsn).trans y9, y10, y11⟩ ?_ (fun x => Or.inr ?_) ?_
              · dsimp only [brP]
                rw [if_neg hsn, if_pos hsb]
                exact y7.trans hrow.2.2.2.2.2.2.1
              · dsimp only [brP]
                rw [if_neg hsn, if_pos hsb]
              · dsimp only [brL]
                rw [if_neg hsn, if_pos hsb]
            · have hrow := u5 s (by omega) hs2
              refine cRw_eq hrow ⟨rfl, rfl, rfl, rfl, rfl, rfl, rfl, upd_ne hsn, rfl, rfl⟩ ?_ (fun x => Or.inr ?_) ?_
              · dsimp only [brP]
                rw [if_neg hsn, if_neg hsb]
                exact hrow.2.2.2.2.2.2.1
              · dsimp only [brP]
                rw [if_neg hsn, if_neg hsb]
              · dsimp only [brL]
                rw [if_neg hsn, if_neg hsb]
    · have fin : cRes B N p n (.ok (b1.1, b1.2.1, brP n kd f par (if n + 1 < b1.1 then n + 1 else 40) 40 b1.1 b1.2.2.1 b1.2.2.1, brL n b1.1 q.1 b1.2.2.2 b1.2.2.2)) R (nI n) t4 a4 nm4 fl4 fa4 nx4 st4 (S.1, S.2.1, S.2.2.1, S.2.2.2.1, S.2.2.2.2.1, S.2.2.2.2.2.1, S.2.2.2.2.2.2.1, S.2.2.2.2.2.2.2.1, upd S.2.2.2.2.2.2.2.2.1 n y4, S.2.2.2.2.2.2.2.2.2.1, S.2.2.2.2.2.2.2.2.2.2.1, S.2.2.2.2.2.2.2.2.2.2.2) := by
        refine ⟨o1, o2, ?_, ?_, ?_⟩
        · rw [if_pos (show n < b1.1 by omega), pI_n hn]
        · intro s hs
          have hne : s ≠ n := Nat.ne_of_lt hs
          obtain ⟨⟨z0, z1, z2, z3, z4, z6, z8, z9, z10, z11⟩, z7⟩ := hlow s hs
          exact ⟨⟨z0, z1, z2, z3, z4, z6, (upd_ne hne).trans z8, z9, z10, z11⟩, z7⟩
        · intro s hs1 hs2
          by_cases hsn : s = n
          · subst hsn
            unfold cRw brP brL
            simp only [if_true]
            exact ⟨x0, x1, x2, by rw [x3]; exact hVq, fun z => absurd z (by show ¬ kd = 0; omega), x6, x7.trans pI_40.symm, (upd_at _ _ _).trans o3, x9.trans pI_40.symm, fun z => absurd z (by show ¬ kd = 3; omega)⟩
          · have hsb : s < b1.1 := hs2
            have hrow := o5 s (by omega) hsb
            refine cRw_eq hrow ⟨rfl, rfl, rfl, rfl, rfl, rfl, upd_ne hsn, rfl, rfl, rfl⟩ ?_ (fun x => Or.inr ?_) ?_
            · dsimp only [brP]
              rw [if_neg hsn, if_pos hsb]
              exact hrow.2.2.2.2.2.2.1
            · dsimp only [brP]
              rw [if_neg hsn, if_pos hsb]
            · dsimp only [brL]
              rw [if_neg hsn, if_pos hsb]
      rw [if_neg hc1]
      by_cases hk1 : kd = 1
      · have h261 : ¬ t4 = 261 := fun z => hc1 ⟨hk1, (nI_eq (a := tK B N b1.2.1) (b := 261) (by omega) (by decide)).mp (hK4.symm.trans z)⟩
        rw [if_pos (show nI kd = 1 from congrArg nI hk1), if_neg h261, ob_s]
        exact ⟨_, _, _, _, _, _, _, _, _, rfl, fin⟩
      · rw [if_neg (show ¬ nI kd = 1 from fun z => hk1 ((nI_eq (a := kd) (b := 1) (by omega) (by decide)).mp z)), ob_s]
        exact ⟨_, _, _, _, _, _, _, _, _, rfl, fin⟩
