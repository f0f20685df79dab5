/-! ===== pure rows 84: statements: the class's scanner between tokens ===== -/
theorem tK_le (B : Nat → Nat) (N f : Nat) : tK B N f ≤ 268 := by
  by_cases q : f < N
  · by_cases z : isLt (B f) = true
    · rw [(tK_word q z).1]
      have := kwc_rng (wj B f (tL B N f))
      by_cases y : tL B N f ≤ 8
      · rw [if_pos y]; omega
      · rw [if_neg y]; omega
    · by_cases y : tK B N f < 257
      · omega
      · have e := (tK_mark q z).1
        by_cases x : isMk (B f) = true
        · rw [if_pos x] at e
          unfold isMk at x
          simp only [Bool.or_eq_true, decide_eq_true_eq] at x
          omega
        · rw [if_neg x] at e; omega
  · have := (tK_out (B := B) q).1; omega
theorem tX_le {B : Nat → Nat} {N f : Nat} (h : f ≤ N) : tX B N f ≤ N := (tF_le (tE_le h).1).1
theorem tX_gt {B : Nat → Nat} {N f : Nat} (h : f ≤ N) (hk : ¬ tK B N f = 256) : f < tX B N f := (t_adv B N f h hk).1
def goT (B : Nat → Nat) (N f : Nat) : Except (Nat × Nat) Nat := if tK B N f = 257 then .error (1, f) else .ok f
def skT (B : Nat → Nat) (N w f : Nat) : Except (Nat × Nat) Nat := if tK B N f = w then goT B N (tX B N f) else .error (2, f)
def opT (B : Nat → Nat) (N d f : Nat) : Except (Nat × Nat) Nat := if tK B N f = 123 ∧ 10 ≤ d then .error (3, f) else skT B N 123 f
def bnd {α β : Type} (r : Except (Nat × Nat) α) (k : α → Except (Nat × Nat) β) : Except (Nat × Nat) β := match r with
  | .error e => .error e
  | .ok x => k x
/-- the class's scanner at a token that is not broken -/
def scO (B : Nat → Nat) (N f : Nat) (t a : Int32) (nm0 : Int64) (fl fa nx : Int32) : Prop := ¬ tK B N f = 257 ∧ f ≤ N ∧ t = nI (tK B N f) ∧ a = nI f ∧ fl = 0 ∧ nx = nI (tE B N f) ∧ (258 ≤ tK B N f → nm0 = nC (wj B f (tL B N f)))
def scR (B : Nat → Nat) (N : Nat) (r : Except (Nat × Nat) Nat) (t a : Int32) (nm0 : Int64) (fl fa nx : Int32) : Prop := match r with
  | .error e => scF e t fl fa
  | .ok f => scO B N f t a nm0 fl fa nx
theorem sc_R {B : Nat → Nat} {N f : Nat} {t a : Int32} {nm0 : Int64} {fl fa nx : Int32} (hf : f ≤ N) (h : scC B N f t a nm0 fl fa nx) : scR B N (goT B N f) t a nm0 fl fa nx := by
  unfold goT
  unfold scC at h
  by_cases hk : tK B N f = 257
  · rw [if_pos hk] at h ⊢
    exact ⟨h.1, h.2.1.trans (by decide : (1 : Int32) = nI 1), h.2.2, by rw [h.2.1]; exact n10⟩
  · rw [if_neg hk] at h ⊢
    exact ⟨hk, hf, h⟩
theorem c_goR {B : Nat → Nat} {N : Nat} {c m : Nat → Int32} (h : txt B N c m) {r : Except (Nat × Nat) Nat} {t a : Int32} {nm0 : Int64} {fl fa nx : Int32} (hr : scR B N r t a nm0 fl fa nx) :
    ∃ (t2 a2 : Int32) (nm2 : Int64) (fl2 fa2 nx2 : Int32), fX4_advance t a nm0 fl fa (nI N) nx c = some (t2, a2, nm2, fl2, fa2, nx2) ∧ scR B N (bnd r (fun f => goT B N (tX B N f))) t2 a2 nm2 fl2 fa2 nx2 := by
  match r, hr with
  | .error e, hr => exact ⟨_, _, _, _, _, _, c_advF t a fl fa (nI N) nx nm0 c hr.2.2.2, hr⟩
  | .ok f, hr =>
    obtain ⟨hk, hf, h1, h2, h3, h4, h5⟩ := hr
    subst h1 h2 h3 h4
    obtain ⟨t2, a2, nm2, fl2, fa2, nx2, e, hs⟩ := c_adv h (nI (tK B N f)) (nI f) fa nm0 hf
    exact ⟨_, _, _, _, _, _, e, sc_R (tX_le hf) hs⟩
theorem c_skipR {B : Nat → Nat} {N : Nat} {c m : Nat → Int32} (h : txt B N c m) {r : Except (Nat × Nat) Nat} {t a : Int32} {nm0 : Int64} {fl fa nx : Int32} (hr : scR B N r t a nm0 fl fa nx) {w : Nat} (hw : w ≤ 268) (hw2 : ¬ w = 257) :
    ∃ (z t2 a2 : Int32) (nm2 : Int64) (fl2 fa2 nx2 : Int32), fX4_skipToken (nI w) t a nm0 fl fa (nI N) nx c = some (z, t2, a2, nm2, fl2, fa2, nx2) ∧ scR B N (bnd r (skT B N w)) t2 a2 nm2 fl2 fa2 nx2 ∧ (z = 0 ∨ z = 1) ∧ ∀ f, r = .ok f → (z = 0 ↔ ¬ tK B N f = w) := by
  match r, hr with
  | .error e, hr =>
    obtain ⟨h1, h2, h3, h4⟩ := hr
    subst h1
    have hn : ¬ (257 : Int32) = nI w := fun z => hw2 ((nI_eq (a := 257) (b := w) (by decide) (by omega)).mp z).symm
    exact ⟨_, _, _, _, _, _, _, c_skipF h4 hn, ⟨rfl, h2, h3, h4⟩, Or.inl rfl, fun f hf => by cases hf⟩
  | .ok f, hr =>
    have hr0 := hr
    obtain ⟨hk, hf, h1, h2, h3, h4, h5⟩ := hr
    have hle := tK_le B N f
    unfold fX4_skipToken
    by_cases hq : tK B N f = w
    · obtain ⟨t2, a2, nm2, fl2, fa2, nx2, e, hs⟩ := c_goR h (r := .ok f) hr0
      rw [if_pos (h1.trans (congrArg nI hq)), e, ob_s]
      refine ⟨1, t2, a2, nm2, fl2, fa2, nx2, rfl, ?_, Or.inr rfl, fun g hg => ?_⟩
      · show scR B N (skT B N w f) _ _ _ _ _ _
        unfold skT
        rw [if_pos hq]
        exact hs
      · cases hg
        exact ⟨fun z => absurd z n10, fun z => absurd hq z⟩
    · have hn : ¬ t = nI w := fun z => hq ((nI_eq (a := tK B N f) (b := w) (by omega) (by omega)).mp (h1.symm.trans z))
      subst h3
      rw [if_neg hn, c_failN, ob_s]
      refine ⟨0, _, _, _, _, _, _, rfl, ?_, Or.inl rfl, fun g hg => ?_⟩
      · show scR B N (skT B N w f) _ _ _ _ _ _
        unfold skT
        rw [if_neg hq]
        exact ⟨rfl, (by decide : (2 : Int32) = nI 2), h2, (by decide : ¬ (2 : Int32) = 0)⟩
      · cases hg
        exact ⟨fun _ => hq, fun _ => rfl⟩
theorem c_failR {B : Nat → Nat} {N f : Nat} {t a : Int32} {nm0 : Int64} {fl fa nx : Int32} (hr : scO B N f t a nm0 fl fa nx) (q : Nat) (hq : 0 < q ∧ q < 9) :
    ∃ (t2 fl2 fa2 : Int32), fX4_failHere (nI q) t a fl fa = some (t2, fl2, fa2) ∧ scF (q, f) t2 fl2 fa2 := by
  obtain ⟨hk, hf, h1, h2, h3, h4, h5⟩ := hr
  subst h3
  refine ⟨257, nI q, a, c_failN, rfl, rfl, h2, ?_⟩
  intro z
  have := (nI_eq (a := q) (b := 0) (by omega) (by decide)).mp z
  omega
theorem c_openR {B : Nat → Nat} {N : Nat} {c m : Nat → Int32} (h : txt B N c m) {r : Except (Nat × Nat) Nat} {t a : Int32} {nm0 : Int64} {fl fa nx : Int32} (hr : scR B N r t a nm0 fl fa nx) {d : Nat} (hd : d ≤ 10) :
    ∃ (t2 a2 : Int32) (nm2 : Int64) (fl2 fa2 nx2 : Int32), fX2_readOpenBrace (nI d) t a nm0 fl fa (nI N) nx c = some (t2, a2, nm2, fl2, fa2, nx2) ∧ scR B N (bnd r (opT B N d)) t2 a2 nm2 fl2 fa2 nx2 := by
  obtain ⟨z, t2, a2, nm2, fl2, fa2, nx2, e, hs, -⟩ := c_skipR h hr (w := 123) (by decide) (by decide)
  have e' : fX4_skipToken 123 t a nm0 fl fa (nI N) nx c = some (z, t2, a2, nm2, fl2, fa2, nx2) := e
  unfold fX2_readOpenBrace fX2_readOpenBrace_p27
  match r, hr, hs with
  | .error e1, hr, hs =>
    have hn : ¬ t = 123 := by rw [hr.1]; decide
    rw [if_neg hn, e', ob_s]
    exact ⟨_, _, _, _, _, _, rfl, hs⟩
  | .ok f, hr, hs =>
    have hr0 := hr
    obtain ⟨hk, hf, h1, h2, h3, h4, h5⟩ := hr
    have hle := tK_le B N f
    by_cases hq : tK B N f = 123
    · rw [if_pos (show t = 123 from h1.trans (congrArg nI hq))]
      by_cases hd2 : 10 ≤ d
      · obtain ⟨t3, fl3, fa3, e3, h3f⟩ := c_failR hr0 3 (by decide)
        have e3' : fX4_failHere 3 t a fl fa = some (t3, fl3, fa3) := e3
        have hn : ¬ nI d < 10 := Int32.not_lt.mpr (show (10 : Int32) ≤ nI d from nI_le (a := 10) (b := d) hd2 (by omega))
        rw [if_neg hn, e3', ob_s]
        refine ⟨_, _, _, _, _, _, rfl, ?_⟩
        show scR B N (opT B N d f) _ _ _ _ _ _
        unfold opT
        rw [if_pos ⟨hq, hd2⟩]
        exact h3f
      · have hn : nI d < 10 := nI_lt (a := d) (b := 10) (by omega) (by decide)
        rw [if_pos hn, e', ob_s]
        refine ⟨_, _, _, _, _, _, rfl, ?_⟩
        show scR B N (opT B N d f) _ _ _ _ _ _
        unfold opT
        rw [if_neg (fun z => hd2 z.2)]
        exact hs
    · have hn : ¬ t = 123 := fun z => hq ((nI_eq (a := tK B N f) (b := 123) (by omega) (by decide)).mp (h1.symm.trans z))
      rw [if_neg hn, e', ob_s]
      refine ⟨_, _, _, _, _, _, rfl, ?_⟩
      show scR B N (opT B N d f) _ _ _ _ _ _
      unfold opT
      rw [if_neg (fun z => hq z.1)]
      exact hs
/-- where an expression ends -/
def exT (B : Nat → Nat) (N : Nat) (VN : Nat → List Nat) (g l f : Nat) : Except (Nat × Nat) Nat := match exP B N VN g l f with
  | .error e => .error e
  | .ok q => .ok q.2
theorem c_expR {B : Nat → Nat} {N : Nat} {c m : Nat → Int32} (h : txt B N c m) {VN : Nat → List Nat} {g l : Nat} {c3 : Nat → Int64} (hv : vNm VN g l) (hc : vC VN g l c3) {r : Except (Nat × Nat) Nat} {t a : Int32} {nm0 : Int64} {fl fa nx : Int32} (hr : scR B N r t a nm0 fl fa nx) :
    ∃ (v : Int64) (t2 a2 : Int32) (nm2 : Int64) (fl2 fa2 nx2 : Int32), fX2_readExpression 0 (nI l) t a nm0 fl fa (nI N) nx (nI g) c3 c = some (v, t2, a2, nm2, fl2, fa2, nx2) ∧ scR B N (bnd r (exT B N VN g l)) t2 a2 nm2 fl2 fa2 nx2 ∧ ∀ f q, r = .ok f → exP B N VN g l f = .ok q → vOf v q.1 := by
  match r, hr with
  | .error e, hr =>
    obtain ⟨h1, h2, h3, h4⟩ := hr
    subst h1
    exact ⟨_, _, _, _, _, _, _, c_expF (k := 11) h4, ⟨rfl, h2, h3, h4⟩, fun f q hf => by cases hf⟩
  | .ok f, hr =>
    obtain ⟨hk, hf, hs⟩ := hr
    have hsc : scC B N f t a nm0 fl fa nx := by unfold scC; rw [if_neg hk]; exact hs
    obtain ⟨⟨v, t2, a2, nm2, fl2, fa2, nx2⟩, e, ho⟩ := (c_exp h hv hc (needX N 3 f)).2.2.2.1 12 0 f t a nm0 fl fa nx (by decide) (by decide) (by decide) hf hsc (Nat.le_refl _)
    have e' : fX2_readExpression 0 (nI l) t a nm0 fl fa (nI N) nx (nI g) c3 c = some (v, t2, a2, nm2, fl2, fa2, nx2) := e
    refine ⟨v, t2, a2, nm2, fl2, fa2, nx2, e', ?_, ?_⟩
    · show scR B N (exT B N VN g l f) _ _ _ _ _ _
      unfold exT exP
      cases hp : px (tK B N) (tX B N) (tV B N VN g l) (needX N 3 f) 3 0 [] f with
      | error e1 => rw [hp] at ho; exact ho
      | ok q =>
        rw [hp] at ho
        obtain ⟨ho1, ho2⟩ := ho
        have hq : q.2 ≤ N := by
          have hz := px_end (V := tV B N VN g l) (t_adv B N) (needX N 3 f) 3 0 [] f hf (by decide) (Nat.le_refl _)
          rw [hp] at hz
          exact hz.1
        have := sc_R hq ho1
        unfold goT at this
        dsimp only
        by_cases hz : tK B N q.2 = 257
        · rw [if_pos hz] at this ⊢; exact this
        · rw [if_neg hz] at this ⊢; exact this
    · intro f2 q hf2 hq
      cases hf2
      unfold exP at hq
      cases hp : px (tK B N) (tX B N) (tV B N VN g l) (needX N 3 f) 3 0 [] f with
      | error e1 => rw [hp] at hq; cases hq
      | ok q2 =>
        rw [hp] at hq ho
        dsimp only at hq
        by_cases hz : tK B N q2.2 = 257
        · rw [if_pos hz] at hq; cases hq
        · rw [if_neg hz] at hq; cases hq; exact ho.2
