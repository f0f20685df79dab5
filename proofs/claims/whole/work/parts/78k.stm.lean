/-! ===== pure rows 87: statements: the class's simple statements ===== -/
theorem c_findV {VN : Nat → List Nat} {g l : Nat} {c3 : Nat → Int64} (hv : vNm VN g l) (hc : vC VN g l c3) {W : List Nat} (hW : nameOk W) : fX2_findVariable (nC W) (nI l) (nI g) c3 = some (vCi (vIx VN g l W), ()) ∧ vIx VN g l W ≤ 5 := by
  obtain ⟨r, hr, e⟩ := c_findVariable hv hc hW
  have hx := vIx_is (VN := VN) hv.1 hv.2.1 W
  have hle := vIx_le VN g l W hv.1 hv.2.1
  have er : r = vIx VN g l W := by
    rcases hr with ⟨a1, a2⟩ | ⟨a1, a2⟩
    · rcases hx with ⟨b1, b2⟩ | ⟨b1, b2⟩
      · exact hv.2.2.2 _ _ a1 b1 (a2.trans b2.symm)
      · exact absurd a2 (b2 r a1)
    · rcases hx with ⟨b1, b2⟩ | ⟨b1, b2⟩
      · exact absurd b2 (a2 _ b1)
      · rw [a1, b1]
  rw [← er]
  exact ⟨e, by rw [er]; exact hle⟩
def rwP (kd f par ins els v ca : Nat) : Nat → Nat
  | 0 => kd
  | 1 => f
  | 2 => par
  | 3 => 40
  | 4 => ins
  | 5 => els
  | 6 => v
  | _ => ca
def oneR (n kd f par v ca : Nat) (L : List Nat) (r : Except (Nat × Nat) Nat) : Rt := match r with
  | .error e => .error e
  | .ok f2 => .ok (n + 1, f2, fun a _ => rwP kd f par 40 40 v ca a, fun _ => L)
def kdT (k : Nat) : Nat := if k = 258 then 0 else k - 261
def asR (B : Nat → Nat) (N : Nat) (VN : Nat → List Nat) (g l par f n : Nat) : Rt := if vIx VN g l (wj B f (tL B N f)) = 5 then .error (3, f) else match bnd (goT B N (tX B N f)) (skT B N 61) with
  | .error e => .error e
  | .ok f1 => match exP B N VN g l f1 with
    | .error e => .error e
    | .ok q => oneR n 0 f par (vIx VN g l (wj B f (tL B N f))) 0 q.1 (skT B N 59 q.2)
def caR (B : Nat → Nat) (N par f n : Nat) : Rt := match goT B N (tX B N f) with
  | .error e => .error e
  | .ok f1 => oneR n 3 f par 0 f1 [1] (bnd (skT B N 258 f1) (skT B N 59))
def vaR (B : Nat → Nat) (N : Nat) (VN : Nat → List Nat) (g l par f n kd : Nat) : Rt := match goT B N (tX B N f) with
  | .error e => .error e
  | .ok f1 => match exP B N VN g l f1 with
    | .error e => .error e
    | .ok q => oneR n kd f par 0 0 q.1 (skT B N 59 q.2)
def plR (B : Nat → Nat) (N par f n kd : Nat) : Rt := oneR n kd f par 0 0 [1] (bnd (goT B N (tX B N f)) (skT B N 59))
theorem c_add {n : Nat} (hn : n < 40) (kd a par : Int32) (p : Nat) (k3 k4 k5 : Nat → Int32) (k6 : Nat → Int64) (k7 k8 k9 k10 k11 k12 : Nat → Int32) : fX3_addStatement kd a par (nI (p + 1)) (nI n) k3 k4 k5 k6 k7 k8 k9 k10 k11 k12 = some (nI n, nI (n + 1), upd k3 n kd, upd k4 n a, upd k5 n (nI p), vp_updL k6 n (-4294967296), upd k7 n 0, upd k8 n 0, upd k9 n par, upd k10 n (-1), upd k11 n (-1), upd k12 n (-1)) := by
  have b := inb_nI (j := n) (n := 40) hn (by decide)
  have kk := nI_clamp (n := n) (by omega)
  have e1 : nI (p + 1) - 1 = nI p := nI_dif (n := p + 1) (k := 1) (by omega)
  have e2 : nI n + 1 = nI (n + 1) := nI_add _ 1
  unfold fX3_addStatement
  rw [if_pos (show nI n < 40 from nI_lt (a := n) (b := 40) hn (by decide))]
  simp only [nm_q, bd_eq _ b, kk, e1, e2]
theorem c_add40 (kd a par pr : Int32) (k3 k4 k5 : Nat → Int32) (k6 : Nat → Int64) (k7 k8 k9 k10 k11 k12 : Nat → Int32) : fX3_addStatement kd a par pr (nI 40) k3 k4 k5 k6 k7 k8 k9 k10 k11 k12 = some (-1, nI 40, k3, k4, k5, k6, k7, k8, k9, k10, k11, k12) := by
  unfold fX3_addStatement
  rw [if_neg (by decide)]
theorem one_eq {n : Nat} {R : CT} {x3 x4 x5 x9 x10 x11 x12 : Int32} {q6 : Nat → Int64} {q7 q8 : Nat → Int32} {q15 : Nat → Int64} {q16 : Nat → Int32} (h6 : ∀ s, s < n → q6 s = R.2.2.2.1 s) (h7 : ∀ s, s < n → q7 s = R.2.2.2.2.1 s) (h15 : ∀ s, s < n → q15 s = R.2.2.2.2.2.2.2.2.2.2.1 s) (h16 : ∀ s, s < n → q16 s = R.2.2.2.2.2.2.2.2.2.2.2 s) : eqR n (upd R.1 n x3, upd R.2.1 n x4, upd R.2.2.1 n x5, q6, q7, q8, upd R.2.2.2.2.2.2.1 n x9, upd R.2.2.2.2.2.2.2.1 n x10, upd R.2.2.2.2.2.2.2.2.1 n x11, upd R.2.2.2.2.2.2.2.2.2.1 n x12, q15, q16) R := fun s hs =>
  have hne : s ≠ n := Nat.ne_of_lt hs
  ⟨⟨upd_ne hne, upd_ne hne, upd_ne hne, h6 s hs, h7 s hs, upd_ne hne, upd_ne hne, upd_ne hne, h15 s hs, h16 s hs⟩, upd_ne hne⟩
theorem one_row {B : Nat → Nat} {N p n kd f par v ca : Nat} {L : List Nat} {R : CT} {q6 : Nat → Int64} {q7 q8 : Nat → Int32} {q15 : Nat → Int64} {q16 : Nat → Int32} (h6 : vOf (q6 n) L) (h7 : kd = 0 → q7 n = nI v) (h15 : kd = 3 → q15 n = nC (wj B ca (tL B N ca)) ∧ q16 n = nI ca) : cRw B N p (fun a _ => rwP kd f par 40 40 v ca a) (fun _ => L) n (upd R.1 n (nI kd), upd R.2.1 n (nI f), upd R.2.2.1 n (nI p), q6, q7, q8, upd R.2.2.2.2.2.2.1 n (pI par), upd R.2.2.2.2.2.2.2.1 n (-1), upd R.2.2.2.2.2.2.2.2.1 n (-1), upd R.2.2.2.2.2.2.2.2.2.1 n (-1), q15, q16) :=
  ⟨upd_at _ _ _, upd_at _ _ _, upd_at _ _ _, h6, h7, upd_at _ _ _, (upd_at _ _ _).trans pI_40.symm, (upd_at _ _ _).trans pI_40.symm, (upd_at _ _ _).trans pI_40.symm, h15⟩
/-- a statement alone -/
theorem one_res {B : Nat → Nat} {N p n kd f par v ca : Nat} {L : List Nat} {R : CT} {r : Except (Nat × Nat) Nat} {t a : Int32} {nm0 : Int64} {fl fa nx : Int32} {q6 : Nat → Int64} {q7 q8 : Nat → Int32} {q15 : Nat → Int64} {q16 : Nat → Int32} (hn : n < 40) (hs : scR B N r t a nm0 fl fa nx) (e6 : ∀ s, s < n → q6 s = R.2.2.2.1 s) (e7 : ∀ s, s < n → q7 s = R.2.2.2.2.1 s) (e15 : ∀ s, s < n → q15 s = R.2.2.2.2.2.2.2.2.2.2.1 s) (e16 : ∀ s, s < n → q16 s = R.2.2.2.2.2.2.2.2.2.2.2 s) (h6 : ∀ f2, r = .ok f2 → vOf (q6 n) L) (h7 : kd = 0 → q7 n = nI v) (h15 : kd = 3 → ∀ f2, r = .ok f2 → q15 n = nC (wj B ca (tL B N ca)) ∧ q16 n = nI ca) : cRes B N p n (oneR n kd f par v ca L r) R (nI n) t a nm0 fl fa nx (nI (n + 1)) (upd R.1 n (nI kd), upd R.2.1 n (nI f), upd R.2.2.1 n (nI p), q6, q7, q8, upd R.2.2.2.2.2.2.1 n (pI par), upd R.2.2.2.2.2.2.2.1 n (-1), upd R.2.2.2.2.2.2.2.2.1 n (-1), upd R.2.2.2.2.2.2.2.2.2.1 n (-1), q15, q16) := by
  cases r with
  | error e => exact hs
  | ok f2 =>
    refine ⟨hs, rfl, ?_, one_eq e6 e7 e15 e16, fun s s1 s2 => ?_⟩
    · rw [if_pos (show n < n + 1 by omega), pI_n hn]
    · have : s = n := Nat.le_antisymm (Nat.lt_succ_iff.mp s2) s1
      subst this
      exact one_row (h6 f2 rfl) h7 (fun z => h15 z f2 rfl)
theorem c_stmU {B : Nat → Nat} {N : Nat} {k f : Nat} {par d l t a : Int32} {nm0 : Int64} {fl fa sz nx gl pr st : Int32} {c : Nat → Int32} {c14 : Nat → Int64} {R : CT} (hs : scO B N f t a nm0 fl fa nx) (hb : bgS (tK B N f)) : fStm k par d l t a nm0 fl fa sz nx gl pr st c c14 R = fX2_readStatement_o_p30 (fX2_readBranch_o (fX2_readBlock_o (fX2_readStatements_n k))) l sz gl pr c c14 par d (nI (kdT (tK B N f))) t (nI f) nm0 fl fa nx st R.1 R.2.1 R.2.2.1 R.2.2.2.1 R.2.2.2.2.1 R.2.2.2.2.2.1 R.2.2.2.2.2.2.1 R.2.2.2.2.2.2.2.1 R.2.2.2.2.2.2.2.2.1 R.2.2.2.2.2.2.2.2.2.1 R.2.2.2.2.2.2.2.2.2.2.1 R.2.2.2.2.2.2.2.2.2.2.2 := by
  obtain ⟨h0, hf, h1, h2, h3, h4, h5⟩ := hs
  have hle := tK_le B N f
  unfold fStm fX2_readStatement_o kdT
  subst h1 h2
  by_cases hk : tK B N f = 258
  · rw [hk, if_pos (by decide), if_pos rfl]; rfl
  · have n1 : ¬ nI (tK B N f) = 258 := fun z => hk ((nI_eq (a := tK B N f) (b := 258) (by omega) (by decide)).mp z)
    have e1 : (1 : Int32) + nI (tK B N f) = nI (1 + tK B N f) := nI_add 1 _
    have hb2 : 262 ≤ tK B N f := by rcases hb with q | q <;> omega
    have e2 : nI (1 + tK B N f) - 262 = nI (tK B N f - 261) := by
      have := nI_dif (n := 1 + tK B N f) (k := 262) (by omega)
      rw [show 1 + tK B N f - 262 = tK B N f - 261 by omega] at this
      exact this
    rw [if_neg n1, if_neg hk, nm_q, nm_q, e1, e2]
theorem c_stm40 {B : Nat → Nat} {N : Nat} {c m : Nat → Int32} (h : txt B N c m) {VN : Nat → List Nat} {c14 : Nat → Int64} {g l p k d par f n : Nat} (hb : bgS (tK B N f)) : CM B N c c14 g l p k d par f 40 (.error (3, f)) := by
  intro t a nm0 fl fa nx R hs
  rw [c_stmU hs hb]
  obtain ⟨t3, fl3, fa3, e3, h3⟩ := c_failR hs 3 (by decide)
  have ha : a = nI f := hs.2.2.2.1
  have e3' : fX4_failHere 3 t (nI f) fl fa = some (t3, fl3, fa3) := by rw [← ha]; exact e3
  unfold fX2_readStatement_o_p30
  rw [c_add40, ob_s, if_pos rfl, e3', ob_s]
  exact ⟨_, _, _, _, _, _, _, _, R, rfl, h3⟩
theorem c_stmP {B : Nat → Nat} {N : Nat} {c m : Nat → Int32} (h : txt B N c m) {VN : Nat → List Nat} {c14 : Nat → Int64} {g l p k d par f n : Nat} (hn : n < 40) (hb : bgS (tK B N f)) {kd : Nat} (hkd : kdT (tK B N f) = kd) (h67 : kd = 6 ∨ kd = 7) : CM B N c c14 g l p k d par f n (plR B N par f n kd) := by
  intro t a nm0 fl fa nx R hs
  rw [c_stmU hs hb, hkd]
  have hx : ∀ x : Nat, x < 6 → ¬ nI kd = nI x := fun x hx z => absurd ((nI_eq (a := kd) (b := x) (by omega) (by omega)).mp z) (by omega)
  have ha : a = nI f := hs.2.2.2.1
  obtain ⟨t2, a2, nm2, fl2, fa2, nx2, e2, h2⟩ := c_goR h (r := .ok f) hs
  obtain ⟨z, t3, a3, nm3, fl3, fa3, nx3, e3, h3, -⟩ := c_skipR h h2 (w := 59) (by decide) (by decide)
  have e3' : fX4_skipToken 59 t2 a2 nm2 fl2 fa2 (nI N) nx2 c = some (z, t3, a3, nm3, fl3, fa3, nx3) := e3
  rw [ha] at e2
  unfold fX2_readStatement_o_p30 fX2_readStatement_o_p144
  rw [c_add hn, ob_s]
  dsimp only
  rw [if_neg (nI_m1 (by omega)), if_neg (show ¬ nI kd = 1 from hx 1 (by decide)), if_neg (show ¬ nI kd = 2 from hx 2 (by decide)), if_neg (show ¬ nI kd = 0 from hx 0 (by decide)), e2, ob_s, if_neg (show ¬ nI kd = 3 from hx 3 (by decide)), if_neg (show ¬ nI kd = 4 from hx 4 (by decide)), if_neg (show ¬ nI kd = 5 from hx 5 (by decide))]
  dsimp only
  rw [e3', ob_s]
  refine ⟨_, _, _, _, _, _, _, _, _, rfl, ?_⟩
  exact one_res hn h3 (fun s hs => updL_ne (Nat.ne_of_lt hs)) (fun s hs => upd_ne (Nat.ne_of_lt hs)) (fun _ _ => rfl) (fun _ _ => rfl) (fun _ _ => by rw [updL_at]; exact vOf_1) (fun z => absurd z (by omega)) (fun z => absurd z (by omega))
theorem c_stmV {B : Nat → Nat} {N : Nat} {c m : Nat → Int32} (h : txt B N c m) {VN : Nat → List Nat} {c14 : Nat → Int64} {g l p k d par f n : Nat} (hv : vNm VN g l) (hc : vC VN g l c14) (hn : n < 40) (hb : bgS (tK B N f)) {kd : Nat} (hkd : kdT (tK B N f) = kd) (h45 : kd = 4 ∨ kd = 5) : CM B N c c14 g l p k d par f n (vaR B N VN g l par f n kd) := by
  intro t a nm0 fl fa nx R hs
  rw [c_stmU hs hb, hkd]
  have hx : ∀ x : Nat, x < 4 → ¬ nI kd = nI x := fun x hx z => absurd ((nI_eq (a := kd) (b := x) (by omega) (by omega)).mp z) (by omega)
  have ha : a = nI f := hs.2.2.2.1
  obtain ⟨t2, a2, nm2, fl2, fa2, nx2, e2, h2⟩ := c_goR h (r := .ok f) hs
  obtain ⟨v, t3, a3, nm3, fl3, fa3, nx3, e3, h3, hV⟩ := c_expR h hv hc h2
  obtain ⟨z, t4, a4, nm4, fl4, fa4, nx4, e4, h4, -⟩ := c_skipR h h3 (w := 59) (by decide) (by decide)
  have e4' : fX4_skipToken 59 t3 a3 nm3 fl3 fa3 (nI N) nx3 c = some (z, t4, a4, nm4, fl4, fa4, nx4) := e4
  rw [ha] at e2
  unfold fX2_readStatement_o_p30
  rw [c_add hn, ob_s]
  dsimp only
  rw [if_neg (nI_m1 (by omega)), if_neg (show ¬ nI kd = 1 from hx 1 (by decide)), if_neg (show ¬ nI kd = 2 from hx 2 (by decide)), if_neg (show ¬ nI kd = 0 from hx 0 (by decide)), e2, ob_s, if_neg (show ¬ nI kd = 3 from hx 3 (by decide))]
  dsimp only
  have key : fX2_readStatement_o_p129 (fX2_readBranch_o (fX2_readBlock_o (fX2_readStatements_n k))) (nI l) (nI N) (nI g) (nI (p + 1)) c c14 (nI n) t2 a2 nm2 fl2 fa2 nx2 (nI (n + 1)) (upd R.1 n (nI kd)) (upd R.2.1 n (nI f)) (upd R.2.2.1 n (nI p)) (vp_updL R.2.2.2.1 n (-4294967296)) (upd R.2.2.2.2.1 n 0) (upd R.2.2.2.2.2.1 n 0) (upd R.2.2.2.2.2.2.1 n (pI par)) (upd R.2.2.2.2.2.2.2.1 n (-1)) (upd R.2.2.2.2.2.2.2.2.1 n (-1)) (upd R.2.2.2.2.2.2.2.2.2.1 n (-1)) R.2.2.2.2.2.2.2.2.2.2.1 R.2.2.2.2.2.2.2.2.2.2.2 = some (nI n, t4, a4, nm4, fl4, fa4, nx4, nI (n + 1), upd R.1 n (nI kd), upd R.2.1 n (nI f), upd R.2.2.1 n (nI p), vp_updL (vp_updL R.2.2.2.1 n (-4294967296)) n v, upd R.2.2.2.2.1 n 0, upd R.2.2.2.2.2.1 n 0, upd R.2.2.2.2.2.2.1 n (pI par), upd R.2.2.2.2.2.2.2.1 n (-1), upd R.2.2.2.2.2.2.2.2.1 n (-1), upd R.2.2.2.2.2.2.2.2.2.1 n (-1), R.2.2.2.2.2.2.2.2.2.2.1, R.2.2.2.2.2.2.2.2.2.2.2) := by
    unfold fX2_readStatement_o_p129 fX2_readStatement_o_p144
    rw [e3, ob_s, bd_eq _ (inb_nI (j := n) (n := 40) hn (by decide)), nm_q, nI_clamp (n := n) (by omega)]
    dsimp only
    rw [e4', ob_s]
  have fin : cRes B N p n (vaR B N VN g l par f n kd) R (nI n) t4 a4 nm4 fl4 fa4 nx4 (nI (n + 1)) (upd R.1 n (nI kd), upd R.2.1 n (nI f), upd R.2.2.1 n (nI p), vp_updL (vp_updL R.2.2.2.1 n (-4294967296)) n v, upd R.2.2.2.2.1 n 0, upd R.2.2.2.2.2.1 n 0, upd R.2.2.2.2.2.2.1 n (pI par), upd R.2.2.2.2.2.2.2.1 n (-1), upd R.2.2.2.2.2.2.2.2.1 n (-1), upd R.2.2.2.2.2.2.2.2.2.1 n (-1), R.2.2.2.2.2.2.2.2.2.2.1, R.2.2.2.2.2.2.2.2.2.2.2) := by
    unfold vaR
    cases hgo : goT B N (tX B N f) with
    | error e1 => simp only [bnd, hgo] at h4; exact h4
    | ok f1 =>
      dsimp only
      cases hex : exP B N VN g l f1 with
      | error e1 => simp only [bnd, hgo, exT, hex] at h4; exact h4
      | ok q =>
        simp only [bnd, hgo, exT, hex] at h4
        have hVq := hV f1 q hgo hex
        exact one_res hn h4 (fun s hs => (updL_ne (Nat.ne_of_lt hs)).trans (updL_ne (Nat.ne_of_lt hs))) (fun s hs => upd_ne (Nat.ne_of_lt hs)) (fun _ _ => rfl) (fun _ _ => rfl) (fun _ _ => by rw [updL_at]; exact hVq) (fun z => absurd z (by omega)) (fun z => absurd z (by omega))
  rcases h45 with h45 | h45
  · rw [if_pos (show nI kd = 4 from congrArg nI h45), key]
    exact ⟨_, _, _, _, _, _, _, _, _, rfl, fin⟩
  · rw [if_neg (show ¬ nI kd = 4 from fun z => absurd ((nI_eq (a := kd) (b := 4) (by omega) (by decide)).mp z) (by omega)), if_pos (show nI kd = 5 from congrArg nI h45), key]
    exact ⟨_, _, _, _, _, _, _, _, _, rfl, fin⟩
theorem c_stmC {B : Nat → Nat} {N : Nat} {c m : Nat → Int32} (h : txt B N c m) {VN : Nat → List Nat} {c14 : Nat → Int64} {g l p k d par f n : Nat} (hn : n < 40) (hb : bgS (tK B N f)) (hkd : kdT (tK B N f) = 3) : CM B N c c14 g l p k d par f n (caR B N par f n) := by
  intro t a nm0 fl fa nx R hs
  rw [c_stmU hs hb, hkd]
  have ha : a = nI f := hs.2.2.2.1
  obtain ⟨t2, a2, nm2, fl2, fa2, nx2, e2, h2⟩ := c_goR h (r := .ok f) hs
  obtain ⟨y, t3, a3, nm3, fl3, fa3, nx3, e3, h3, -⟩ := c_skipR h h2 (w := 258) (by decide) (by decide)
  have e3' : fX4_skipToken 258 t2 a2 nm2 fl2 fa2 (nI N) nx2 c = some (y, t3, a3, nm3, fl3, fa3, nx3) := e3
  obtain ⟨z, t4, a4, nm4, fl4, fa4, nx4, e4, h4, -⟩ := c_skipR h h3 (w := 59) (by decide) (by decide)
  have e4' : fX4_skipToken 59 t3 a3 nm3 fl3 fa3 (nI N) nx3 c = some (z, t4, a4, nm4, fl4, fa4, nx4) := e4
  rw [ha] at e2
  have hb40 := inb_nI (j := n) (n := 40) hn (by decide)
  unfold fX2_readStatement_o_p30 fX2_readStatement_o_p144 fX2_readCalled
  rw [c_add hn, ob_s]
  dsimp only
  rw [if_neg (nI_m1 (by omega)), if_neg (by decide), if_neg (by decide), if_neg (by decide), e2, ob_s, if_pos (by decide), bd_eq _ hb40, nm_q, bd_eq _ hb40, nm_q, nI_clamp (n := n) (by omega)]
  dsimp only
  rw [e3', ob_s]
  dsimp only
  rw [ob_s]
  dsimp only
  rw [e4', ob_s]
  refine ⟨_, _, _, _, _, _, _, _, _, rfl, ?_⟩
  unfold caR
  cases hgo : goT B N (tX B N f) with
  | error e1 => simp only [bnd, hgo] at h4; exact h4
  | ok f1 =>
    simp only [bnd, hgo] at h4 h2
    refine one_res hn h4 (fun s hs => updL_ne (Nat.ne_of_lt hs)) (fun s hs => upd_ne (Nat.ne_of_lt hs)) (fun s hs => updL_ne (Nat.ne_of_lt hs)) (fun s hs => upd_ne (Nat.ne_of_lt hs)) (fun _ _ => by rw [updL_at]; exact vOf_1) (fun z => absurd z (by omega)) (fun _ f2 hf2 => ?_)
    have hk : tK B N f1 = 258 := by
      by_cases hk : tK B N f1 = 258
      · exact hk
      · have : skT B N 258 f1 = .error (2, f1) := by unfold skT; rw [if_neg hk]
        rw [this] at hf2
        cases hf2
    exact ⟨(updL_at _ _ _).trans (h2.2.2.2.2.2.2 (by omega)), (upd_at _ _ _).trans h2.2.2.2.1⟩
theorem c_stmA {B : Nat → Nat} {N : Nat} {c m : Nat → Int32} (h : txt B N c m) {VN : Nat → List Nat} {c14 : Nat → Int64} {g l p k d par f n : Nat} (hv : vNm VN g l) (hc : vC VN g l c14) (hn : n < 40) (hk : tK B N f = 258) : CM B N c c14 g l p k d par f n (asR B N VN g l par f n) := by
  intro t a nm0 fl fa nx R hs
  have hkd : kdT (tK B N f) = 0 := by unfold kdT; rw [if_pos hk]
  rw [c_stmU hs (Or.inl hk), hkd]
  have ha : a = nI f := hs.2.2.2.1
  have hnm : nm0 = nC (wj B f (tL B N f)) := hs.2.2.2.2.2.2 (by omega)
  have hW := name_ok h hs.2.1 (show 258 ≤ tK B N f by omega)
  obtain ⟨ev, hle⟩ := c_findV hv hc hW
  rw [← hnm] at ev
  have hb40 := inb_nI (j := n) (n := 40) hn (by decide)
  unfold fX2_readStatement_o_p30 fX2_readAssignment fX2_readAssignment_p69 fX2_readStatement_o_p144 asR
  rw [c_add hn, ob_s]
  dsimp only
  rw [if_neg (nI_m1 (by omega)), if_neg (by decide), if_neg (by decide), if_pos (by decide), ev, ob_s]
  dsimp only
  by_cases h5 : vIx VN g l (wj B f (tL B N f)) = 5
  · have e5 : vCi (vIx VN g l (wj B f (tL B N f))) = -1 := by unfold vCi; rw [if_pos h5]
    obtain ⟨t3, fl3, fa3, e3, h3⟩ := c_failR hs 3 (by decide)
    have e3' : fX4_failHere 3 t (nI f) fl fa = some (t3, fl3, fa3) := by rw [← ha]; exact e3
    obtain ⟨g1, g2, g3, g4⟩ := h3
    subst g1
    rw [if_pos e5, e3', ob_s, ob_s]
    dsimp only
    rw [c_skipF g4 (by decide), ob_s, if_pos h5]
    exact ⟨_, _, _, _, _, _, _, _, _, rfl, rfl, g2, g3, g4⟩
  · have e5 : vCi (vIx VN g l (wj B f (tL B N f))) = nI (vIx VN g l (wj B f (tL B N f))) := by unfold vCi; rw [if_neg h5]
    obtain ⟨t2, a2, nm2, fl2, fa2, nx2, e2, h2⟩ := c_goR h (r := .ok f) hs
    rw [ha] at e2
    obtain ⟨y, t3, a3, nm3, fl3, fa3, nx3, e3, h3, hy, hy2⟩ := c_skipR h h2 (w := 61) (by decide) (by decide)
    have e3' : fX4_skipToken 61 t2 a2 nm2 fl2 fa2 (nI N) nx2 c = some (y, t3, a3, nm3, fl3, fa3, nx3) := e3
    have h3' : scR B N (bnd (goT B N (tX B N f)) (skT B N 61)) t3 a3 nm3 fl3 fa3 nx3 := h3
    rw [e5, if_neg (nI_m1 (by omega)), bd_eq _ hb40, nm_q, nI_clamp (n := n) (by omega), e2, ob_s, if_neg h5]
    dsimp only
    rw [e3', ob_s]
    dsimp only
    cases hbd : bnd (goT B N (tX B N f)) (skT B N 61) with
    | error e1 =>
      rw [hbd] at h3'
      obtain ⟨g1, g2, g3, g4⟩ := h3'
      subst g1
      by_cases hy0 : y = 0
      · rw [if_pos hy0, ob_s]
        dsimp only
        rw [c_skipF g4 (by decide), ob_s]
        exact ⟨_, _, _, _, _, _, _, _, _, rfl, rfl, g2, g3, g4⟩
      · rw [if_neg hy0, show fX2_readExpression 0 (nI l) 257 a3 nm3 fl3 fa3 (nI N) nx3 (nI g) c14 c = some (0, (257, a3, nm3, fl3, fa3, nx3)) from c_expF (k := 11) g4, ob_s, bd_eq _ hb40, nm_q, ob_s]
        dsimp only
        rw [c_skipF g4 (by decide), ob_s]
        exact ⟨_, _, _, _, _, _, _, _, _, rfl, rfl, g2, g3, g4⟩
    | ok f1 =>
      rw [hbd] at h3'
      have hy0 : ¬ y = 0 := by
        cases hgo : goT B N (tX B N f) with
        | error e1 => rw [hgo] at hbd; cases hbd
        | ok f0 =>
          rw [hgo] at hbd
          have hbd' : skT B N 61 f0 = .ok f1 := hbd
          intro hz
          have := (hy2 f0 hgo).mp hz
          unfold skT at hbd'
          rw [if_neg this] at hbd'
          cases hbd'
      obtain ⟨v, t4, a4, nm4, fl4, fa4, nx4, e4, h4, hV⟩ := c_expR h hv hc (r := .ok f1) h3'
      obtain ⟨z, t5, a5, nm5, fl5, fa5, nx5, e6, h6, -⟩ := c_skipR h h4 (w := 59) (by decide) (by decide)
      have e6' : fX4_skipToken 59 t4 a4 nm4 fl4 fa4 (nI N) nx4 c = some (z, t5, a5, nm5, fl5, fa5, nx5) := e6
      rw [if_neg hy0, e4, ob_s, bd_eq _ hb40, nm_q, ob_s]
      dsimp only
      rw [e6', ob_s]
      refine ⟨_, _, _, _, _, _, _, _, _, rfl, ?_⟩
      dsimp only
      cases hex : exP B N VN g l f1 with
      | error e1 => simp only [bnd, exT, hex] at h6; exact h6
      | ok q =>
        simp only [bnd, exT, hex] at h6
        have hVq := hV f1 q rfl hex
        exact one_res hn h6 (fun s hs => (updL_ne (Nat.ne_of_lt hs)).trans (updL_ne (Nat.ne_of_lt hs))) (fun s hs => (upd_ne (Nat.ne_of_lt hs)).trans (upd_ne (Nat.ne_of_lt hs))) (fun _ _ => rfl) (fun _ _ => rfl) (fun _ _ => by rw [updL_at]; exact hVq) (fun _ => upd_at _ _ _) (fun z => absurd z (by omega))
