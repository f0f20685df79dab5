/-! ===== pure rows 79: an expression of the class ===== -/
abbrev CxO : Type := Int64 × Int32 × Int32 × Int64 × Int32 × Int32 × Int32
def vOf (v : Int64) (L : List Nat) : Prop := ∃ w : Nat → Nat, (∀ st, w st < 4) ∧ (∀ st S, evL st L S = w st :: S) ∧ vB v w
/-- what the class answers where the descent ends with r -/
def exC (B : Nat → Nat) (N : Nat) (r : PX) (o : CxO) : Prop := match r with
  | .error e => scF e o.2.1 o.2.2.2.2.1 o.2.2.2.2.2.1
  | .ok q => scC B N q.2 o.2.1 o.2.2.1 o.2.2.2.1 o.2.2.2.2.1 o.2.2.2.2.2.1 o.2.2.2.2.2.2 ∧ vOf o.1 q.1
theorem vOf_not {v : Int64} {L : List Nat} (h : vOf v L) : vOf ((v <<< ((32 : Int32).toInt64 &&& 63)) ||| (v.toUInt64 >>> ((32 : Int32).toInt64.toUInt64 &&& Int64.toUInt64 63)).toInt64) (L ++ [3]) := by
  obtain ⟨w, h1, h2, h3⟩ := h
  refine ⟨_, fun st => (ev_3 (w st) (h1 st)).2, fun st S => ?_, vB_not h3 h1⟩
  rw [evL_app, h2]
  rfl
theorem vOf_and {v u : Int64} {L M : List Nat} (h : vOf v L) (hu : vOf u M) : vOf (((v &&& u) &&& (-4294967296)) ||| ((v ||| u) &&& 4294967295)) (L ++ M ++ [4]) := by
  obtain ⟨w, h1, h2, h3⟩ := h
  obtain ⟨x, u1, u2, u3⟩ := hu
  refine ⟨_, fun st => (ev_4 (w st) (h1 st) (x st) (u1 st)).2, fun st S => ?_, vB_and h3 u3 h1 u1⟩
  rw [evL_app, evL_app, h2, u2]
  rfl
theorem vOf_or {v u : Int64} {L M : List Nat} (h : vOf v L) (hu : vOf u M) : vOf (((v &&& u) &&& 4294967295) ||| ((v ||| u) &&& (-4294967296))) (L ++ M ++ [5]) := by
  obtain ⟨w, h1, h2, h3⟩ := h
  obtain ⟨x, u1, u2, u3⟩ := hu
  refine ⟨_, fun st => (ev_5 (w st) (h1 st) (x st) (u1 st)).2, fun st S => ?_, vB_or h3 u3 h1 u1⟩
  rw [evL_app, evL_app, h2, u2]
  rfl
theorem vOf_0 : vOf 4294967295 [0] := ⟨fun _ => 1, fun _ => (by decide : 1 < 4), fun _ _ => rfl, vB_0⟩
theorem vOf_1 : vOf (-4294967296) [1] := ⟨fun _ => 2, fun _ => (by decide : 2 < 4), fun _ _ => rfl, vB_1⟩
theorem vOf_2 : vOf (-1) [2] := ⟨fun _ => 3, fun _ => (by decide : 3 < 4), fun _ _ => rfl, vB_2⟩
theorem vOf_v {r : Nat} (hr : r < 5) : vOf (varL r) [if r < 3 then 16 + r else 21 + r] := by
  have b21 : ∀ c : Bool, (if c = true then 2 else 1) < 4 := by decide
  refine ⟨_, fun st => b21 _, fun st S => ?_, vB_var hr⟩
  show evI st (if r < 3 then 16 + r else 21 + r) S = _
  have hc : r = 0 ∨ r = 1 ∨ r = 2 ∨ r = 3 ∨ r = 4 := by omega
  rcases hc with c | c | c | c | c <;> subst c <;> rfl
/-- a factor that is a name -/
theorem c_varVal {B : Nat → Nat} {N : Nat} {c m : Nat → Int32} (h : txt B N c m) {VN : Nat → List Nat} {g l : Nat} {c3 : Nat → Int64} (hv : vNm VN g l) (hc : vC VN g l c3) {f : Nat} (hf : f ≤ N) (hk : tK B N f = 258) (hW : nameOk (wj B f (tL B N f))) (t a fa : Int32) :
    Wq (fX2_readVariableValue (nI l) t (nI f) (nC (wj B f (tL B N f))) 0 fa (nI N) (nI (tE B N f)) (nI g) c3 c) (exC B N (if tV B N VN g l f = 99 then .error (3, f) else .ok ([tV B N VN g l f], tX B N f))) := by
  obtain ⟨r, hr, e⟩ := c_findVariable hv hc hW
  have hx := vIx_is (VN := VN) hv.1 hv.2.1 (wj B f (tL B N f))
  have hle := vIx_le VN g l (wj B f (tL B N f)) hv.1 hv.2.1
  have er : r = vIx VN g l (wj B f (tL B N f)) := by
    rcases hr with ⟨a1, a2⟩ | ⟨a1, a2⟩
    · rcases hx with ⟨b1, b2⟩ | ⟨b1, b2⟩
      · exact hv.2.2.2 _ _ a1 b1 (a2.trans b2.symm)
      · exact absurd a2 (b2 r a1)
    · rcases hx with ⟨b1, b2⟩ | ⟨b1, b2⟩
      · exact absurd b2 (a2 _ b1)
      · rw [a1, b1]
  unfold fX2_readVariableValue
  rw [e, ob_s]
  by_cases r5 : r = 5
  · have e1 : vCi r = -1 := by unfold vCi; rw [if_pos r5]
    have eV : tV B N VN g l f = 99 := by unfold tV; rw [← er, if_pos r5]
    simp only [e1]
    rw [if_pos trivial, if_pos eV, c_failN, ob_s]
    exact Wq_some ⟨rfl, rfl, rfl, (by decide : ¬ (3 : Int32) = 0)⟩
  · have e1 : vCi r = nI r := by unfold vCi; rw [if_neg r5]
    have eV : tV B N VN g l f = if r < 3 then 16 + r else 21 + r := by unfold tV; rw [← er, if_neg r5]
    have hr5 : r < 5 := by omega
    have nV : ¬ tV B N VN g l f = 99 := by
      rw [eV]
      by_cases z : r < 3
      · rw [if_pos z]; omega
      · rw [if_neg z]; omega
    obtain ⟨t2, a2, nm2, fl2, fa2, nx2, x1, x2⟩ := c_adv h t (nI f) fa (nC (wj B f (tL B N f))) hf
    simp only [e1]
    rw [if_neg (nI_m1 (by omega)), if_neg nV, x1, ob_s, bd_eq _ (inb_nI (j := r) (n := 5) hr5 (by decide)), nm_q, nI_clamp (n := r) (by omega), nm_q, nm_q, nm_q, nm_q, nm_q, eV]
    exact Wq_some ⟨x2, vOf_v hr5⟩
