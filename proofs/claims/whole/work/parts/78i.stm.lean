/-! ===== pure rows 85: statements: what is read, and the class's rows of it ===== -/
abbrev Rt : Type := Except (Nat × Nat) (Nat × Nat × (Nat → Nat → Nat) × (Nat → List Nat))
abbrev CT : Type := (Nat → Int32) × (Nat → Int32) × (Nat → Int32) × (Nat → Int64) × (Nat → Int32) × (Nat → Int32) × (Nat → Int32) × (Nat → Int32) × (Nat → Int32) × (Nat → Int32) × (Nat → Int64) × (Nat → Int32)
abbrev CsO : Type := Int32 × Int32 × Int32 × Int64 × Int32 × Int32 × Int32 × Int32 × CT
/-- rows: 0 kind, 1 place, 2 parent, 3 sibling, 4 inside, 5 inside else, 6 its name's number, 7 the token of the called name (40: none); the class's -/
def cRw (B : Nat → Nat) (N p : Nat) (P : Nat → Nat → Nat) (L : Nat → List Nat) (s : Nat) (R : CT) : Prop :=
  R.1 s = nI (P 0 s) ∧ R.2.1 s = nI (P 1 s) ∧ R.2.2.1 s = nI p ∧ vOf (R.2.2.2.1 s) (L s) ∧ (P 0 s = 0 → R.2.2.2.2.1 s = nI (P 6 s)) ∧ R.2.2.2.2.2.2.1 s = pI (P 2 s) ∧ R.2.2.2.2.2.2.2.1 s = pI (P 3 s) ∧ R.2.2.2.2.2.2.2.2.1 s = pI (P 4 s) ∧ R.2.2.2.2.2.2.2.2.2.1 s = pI (P 5 s) ∧ (P 0 s = 3 → R.2.2.2.2.2.2.2.2.2.2.1 s = nC (wj B (P 7 s) (tL B N (P 7 s))) ∧ R.2.2.2.2.2.2.2.2.2.2.2 s = nI (P 7 s))
/-- at s two rows of rows are the same -/
def eqA (s : Nat) (R S : CT) : Prop := R.1 s = S.1 s ∧ R.2.1 s = S.2.1 s ∧ R.2.2.1 s = S.2.2.1 s ∧ R.2.2.2.1 s = S.2.2.2.1 s ∧ R.2.2.2.2.1 s = S.2.2.2.2.1 s ∧ R.2.2.2.2.2.2.1 s = S.2.2.2.2.2.2.1 s ∧ R.2.2.2.2.2.2.2.2.1 s = S.2.2.2.2.2.2.2.2.1 s ∧ R.2.2.2.2.2.2.2.2.2.1 s = S.2.2.2.2.2.2.2.2.2.1 s ∧ R.2.2.2.2.2.2.2.2.2.2.1 s = S.2.2.2.2.2.2.2.2.2.2.1 s ∧ R.2.2.2.2.2.2.2.2.2.2.2 s = S.2.2.2.2.2.2.2.2.2.2.2 s
def eqR (n : Nat) (R S : CT) : Prop := ∀ s, s < n → eqA s R S ∧ R.2.2.2.2.2.2.2.1 s = S.2.2.2.2.2.2.2.1 s
theorem eqA_refl (s : Nat) (R : CT) : eqA s R R := ⟨rfl, rfl, rfl, rfl, rfl, rfl, rfl, rfl, rfl, rfl⟩
theorem eqA_trans {s : Nat} {R S T : CT} (h : eqA s R S) (k : eqA s S T) : eqA s R T := ⟨h.1.trans k.1, h.2.1.trans k.2.1, h.2.2.1.trans k.2.2.1, h.2.2.2.1.trans k.2.2.2.1, h.2.2.2.2.1.trans k.2.2.2.2.1, h.2.2.2.2.2.1.trans k.2.2.2.2.2.1, h.2.2.2.2.2.2.1.trans k.2.2.2.2.2.2.1, h.2.2.2.2.2.2.2.1.trans k.2.2.2.2.2.2.2.1, h.2.2.2.2.2.2.2.2.1.trans k.2.2.2.2.2.2.2.2.1, h.2.2.2.2.2.2.2.2.2.trans k.2.2.2.2.2.2.2.2.2⟩
theorem eqR_refl (n : Nat) (R : CT) : eqR n R R := fun s _ => ⟨eqA_refl s R, rfl⟩
/-- a row stays where its cells do -/
theorem cRw_eq {B : Nat → Nat} {N p : Nat} {P Q : Nat → Nat → Nat} {L M : Nat → List Nat} {s : Nat} {R S : CT} (h : cRw B N p P L s R) (e : eqA s S R) (e7 : S.2.2.2.2.2.2.2.1 s = pI (Q 3 s)) (hP : ∀ a, a = 3 ∨ Q a s = P a s) (hL : M s = L s) : cRw B N p Q M s S := by
  obtain ⟨h0, h1, h2, h3, h4, h6, h7, h8, h9, h10⟩ := h
  obtain ⟨e0, e1, e2, e3, e4, e6, e8, e9, e10, e11⟩ := e
  have q0 : Q 0 s = P 0 s := (hP 0).resolve_left (by decide)
  have q1 : Q 1 s = P 1 s := (hP 1).resolve_left (by decide)
  have q2 : Q 2 s = P 2 s := (hP 2).resolve_left (by decide)
  have q4 : Q 4 s = P 4 s := (hP 4).resolve_left (by decide)
  have q5 : Q 5 s = P 5 s := (hP 5).resolve_left (by decide)
  have q6 : Q 6 s = P 6 s := (hP 6).resolve_left (by decide)
  have q7 : Q 7 s = P 7 s := (hP 7).resolve_left (by decide)
  unfold cRw
  rw [q0, q1, q2, q4, q5, q6, q7, hL]
  exact ⟨e0.trans h0, e1.trans h1, e2.trans h2, by rw [e3]; exact h3, fun z => e4.trans (h4 z), e6.trans h6, e7, e8.trans h8, e9.trans h9, fun z => ⟨e10.trans (h10 z).1, e11.trans (h10 z).2⟩⟩
/-- what the class's readers of statements leave -/
def cRes (B : Nat → Nat) (N p n : Nat) (r : Rt) (R : CT) (y t a : Int32) (nm0 : Int64) (fl fa nx st : Int32) (S : CT) : Prop := match r with
  | .error e => scF e t fl fa
  | .ok q => scO B N q.2.1 t a nm0 fl fa nx ∧ st = nI q.1 ∧ y = pI (if n < q.1 then n else 40) ∧ eqR n S R ∧ ∀ s, n ≤ s → s < q.1 → cRw B N p q.2.2.1 q.2.2.2 s S
noncomputable def fSts (k : Nat) (par d l t a : Int32) (nm0 : Int64) (fl fa sz nx gl pr st : Int32) (c : Nat → Int32) (c14 : Nat → Int64) (R : CT) : Option CsO := fX2_readStatements_n k par d l t a nm0 fl fa sz nx gl pr st R.1 R.2.1 R.2.2.1 R.2.2.2.1 R.2.2.2.2.1 R.2.2.2.2.2.1 R.2.2.2.2.2.2.1 R.2.2.2.2.2.2.2.1 R.2.2.2.2.2.2.2.2.1 R.2.2.2.2.2.2.2.2.2.1 c c14 R.2.2.2.2.2.2.2.2.2.2.1 R.2.2.2.2.2.2.2.2.2.2.2
noncomputable def fBlk (k : Nat) (par d l t a : Int32) (nm0 : Int64) (fl fa sz nx gl pr st : Int32) (c : Nat → Int32) (c14 : Nat → Int64) (R : CT) : Option CsO := fX2_readBlock_o (fX2_readStatements_n k) par d l t a nm0 fl fa sz nx c gl pr st R.1 R.2.1 R.2.2.1 R.2.2.2.1 R.2.2.2.2.1 R.2.2.2.2.2.1 R.2.2.2.2.2.2.1 R.2.2.2.2.2.2.2.1 R.2.2.2.2.2.2.2.2.1 R.2.2.2.2.2.2.2.2.2.1 c14 R.2.2.2.2.2.2.2.2.2.2.1 R.2.2.2.2.2.2.2.2.2.2.2
noncomputable def fStm (k : Nat) (par d l t a : Int32) (nm0 : Int64) (fl fa sz nx gl pr st : Int32) (c : Nat → Int32) (c14 : Nat → Int64) (R : CT) : Option CsO := fX2_readStatement_o (fX2_readBranch_o (fX2_readBlock_o (fX2_readStatements_n k))) par d l t a nm0 fl fa sz nx gl pr st R.1 R.2.1 R.2.2.1 R.2.2.2.1 R.2.2.2.2.1 R.2.2.2.2.2.1 R.2.2.2.2.2.2.1 R.2.2.2.2.2.2.2.1 R.2.2.2.2.2.2.2.2.1 R.2.2.2.2.2.2.2.2.2.1 c c14 R.2.2.2.2.2.2.2.2.2.2.1 R.2.2.2.2.2.2.2.2.2.2.2
noncomputable def fLp (k u : Nat) (par d y3 y4 i l t a : Int32) (nm0 : Int64) (fl fa sz nx gl pr st : Int32) (c : Nat → Int32) (c14 : Nat → Int64) (R : CT) : Option CsO := fX2_readStatements_o_l8 (fX2_readStatement_o (fX2_readBranch_o (fX2_readBlock_o (fX2_readStatements_n k)))) l sz gl pr c c14 u par d y3 y4 i t a nm0 fl fa nx st R.1 R.2.1 R.2.2.1 R.2.2.2.1 R.2.2.2.2.1 R.2.2.2.2.2.1 R.2.2.2.2.2.2.1 R.2.2.2.2.2.2.2.1 R.2.2.2.2.2.2.2.2.1 R.2.2.2.2.2.2.2.2.2.1 R.2.2.2.2.2.2.2.2.2.2.1 R.2.2.2.2.2.2.2.2.2.2.2
def CS (B : Nat → Nat) (N : Nat) (c : Nat → Int32) (c14 : Nat → Int64) (g l p k d par f n : Nat) (r : Rt) : Prop := ∀ (t a : Int32) (nm0 : Int64) (fl fa nx : Int32) (R : CT), scO B N f t a nm0 fl fa nx → ∃ (y t2 a2 : Int32) (nm2 : Int64) (fl2 fa2 nx2 st2 : Int32) (S : CT), fSts k (pI par) (nI d) (nI l) t a nm0 fl fa (nI N) nx (nI g) (nI (p + 1)) (nI n) c c14 R = some (y, t2, a2, nm2, fl2, fa2, nx2, st2, S) ∧ cRes B N p n r R y t2 a2 nm2 fl2 fa2 nx2 st2 S
def CB (B : Nat → Nat) (N : Nat) (c : Nat → Int32) (c14 : Nat → Int64) (g l p k d par f n : Nat) (r : Rt) : Prop := ∀ (t a : Int32) (nm0 : Int64) (fl fa nx : Int32) (R : CT), scO B N f t a nm0 fl fa nx → ∃ (y t2 a2 : Int32) (nm2 : Int64) (fl2 fa2 nx2 st2 : Int32) (S : CT), fBlk k (pI par) (nI d) (nI l) t a nm0 fl fa (nI N) nx (nI g) (nI (p + 1)) (nI n) c c14 R = some (y, t2, a2, nm2, fl2, fa2, nx2, st2, S) ∧ cRes B N p n r R y t2 a2 nm2 fl2 fa2 nx2 st2 S
def CM (B : Nat → Nat) (N : Nat) (c : Nat → Int32) (c14 : Nat → Int64) (g l p k d par f n : Nat) (r : Rt) : Prop := ∀ (t a : Int32) (nm0 : Int64) (fl fa nx : Int32) (R : CT), scO B N f t a nm0 fl fa nx → ∃ (y t2 a2 : Int32) (nm2 : Int64) (fl2 fa2 nx2 st2 : Int32) (S : CT), fStm k (pI par) (nI d) (nI l) t a nm0 fl fa (nI N) nx (nI g) (nI (p + 1)) (nI n) c c14 R = some (y, t2, a2, nm2, fl2, fa2, nx2, st2, S) ∧ cRes B N p n r R y t2 a2 nm2 fl2 fa2 nx2 st2 S
/-- what the loop over a block's statements leaves: z is the latest statement before -/
def cReL (B : Nat → Nat) (N p n z : Nat) (r : Rt) (R : CT) (y3 y t a : Int32) (nm0 : Int64) (fl fa nx st : Int32) (S : CT) : Prop := match r with
  | .error e => scF e t fl fa
  | .ok q => scO B N q.2.1 t a nm0 fl fa nx ∧ st = nI q.1 ∧ y = (if z = 40 ∧ n < q.1 then nI n else y3) ∧ (∀ s, s < n → eqA s S R ∧ S.2.2.2.2.2.2.2.1 s = (if s = z ∧ n < q.1 then nI n else R.2.2.2.2.2.2.2.1 s)) ∧ ∀ s, n ≤ s → s < q.1 → cRw B N p q.2.2.1 q.2.2.2 s S
def CL (B : Nat → Nat) (N : Nat) (c : Nat → Int32) (c14 : Nat → Int64) (g l p k d par f n : Nat) (r : Rt) : Prop := ∀ (u i z : Nat) (y3 t a : Int32) (nm0 : Int64) (fl fa nx : Int32) (R : CT), scO B N f t a nm0 fl fa nx → i ≤ n → n ≤ 40 → 42 ≤ u + i → (z = 40 ∨ z < n) → ∃ (y t2 a2 : Int32) (nm2 : Int64) (fl2 fa2 nx2 st2 : Int32) (S : CT), fLp k u (pI par) (nI d) y3 (pI z) (nI i) (nI l) t a nm0 fl fa (nI N) nx (nI g) (nI (p + 1)) (nI n) c c14 R = some (y, t2, a2, nm2, fl2, fa2, nx2, st2, S) ∧ cReL B N p n z r R y3 y t2 a2 nm2 fl2 fa2 nx2 st2 S
/-- behind a fault nothing is read -/
theorem c_lpF (k u : Nat) (par d y3 y4 i l a : Int32) (nm0 : Int64) (fl fa sz nx gl pr st : Int32) (c : Nat → Int32) (c14 : Nat → Int64) (R : CT) : fLp k (u + 1) par d y3 y4 i l 257 a nm0 fl fa sz nx gl pr st c c14 R = some (y3, 257, a, nm0, fl, fa, nx, st, R) := by
  obtain ⟨k3, k4, k5, k6, k7, k8, k9, k10, k11, k12, k15, k16⟩ := R
  show fX2_readStatements_o_b8 _ l sz gl pr c c14 _ par d y3 y4 i 257 a nm0 fl fa nx st k3 k4 k5 k6 k7 k8 k9 k10 k11 k12 k15 k16 = _
  unfold fX2_readStatements_o_b8 fX2_readStatements_o_p72
  have e : fX2_beginsStatement 257 = some (0, ()) := by
    unfold fX2_beginsStatement fX2_beginsStatement_p43 fX2_beginsStatement_p44
    rw [if_neg (by decide), if_pos (by decide), bd_eq _ (by decide)]
  by_cases h : 40 < i
  · rw [if_pos h]
  · rw [if_neg h, e, ob_s, if_pos rfl]
theorem c_stsF (k : Nat) (par d l a : Int32) (nm0 : Int64) (fl fa sz nx gl pr st : Int32) (c : Nat → Int32) (c14 : Nat → Int64) (R : CT) : fSts (k + 1) par d l 257 a nm0 fl fa sz nx gl pr st c c14 R = some (-1, 257, a, nm0, fl, fa, nx, st, R) := by
  obtain ⟨fu, hfu, hg⟩ := fu_any
  obtain ⟨fu, rfl⟩ : ∃ z, fu = z + 1 := ⟨fu - 1, by omega⟩
  have e := c_lpF k fu par d (-1) (-1) 0 l a nm0 fl fa sz nx gl pr st c c14 R
  unfold fLp at e
  unfold fSts
  rw [fX2_readStatements_n_s]
  unfold fX2_readStatements_o
  rw [hfu]
  exact e
/-- a block -/
def blkR (B : Nat → Nat) (N d f : Nat) (rs : Rt) : Rt := match opT B N d f with
  | .error e => .error e
  | .ok _ => match rs with
    | .error e => .error e
    | .ok q => match skT B N 125 q.2.1 with
      | .error e => .error e
      | .ok f2 => .ok (q.1, f2, q.2.2)
theorem c_blkF (k : Nat) {d : Nat} (hd : d ≤ 10) (hk : d < 10 → 1 ≤ k) (par l a : Int32) (nm0 : Int64) {fl : Int32} (fa sz nx gl pr st : Int32) (c : Nat → Int32) (c14 : Nat → Int64) (R : CT) (hf : ¬ fl = 0) : fBlk k par (nI d) l 257 a nm0 fl fa sz nx gl pr st c c14 R = some (-1, 257, a, nm0, fl, fa, nx, st, R) := by
  have e : fX2_readOpenBrace (nI d) 257 a nm0 fl fa sz nx c = some (257, a, nm0, fl, fa, nx) := by
    unfold fX2_readOpenBrace fX2_readOpenBrace_p27
    rw [if_neg (by decide), c_skipF hf (by decide), ob_s]
  obtain ⟨k3, k4, k5, k6, k7, k8, k9, k10, k11, k12, k15, k16⟩ := R
  unfold fBlk fX2_readBlock_o
  dsimp only
  rw [e, ob_s]
  by_cases h : d < 10
  · have hk := hk h
    obtain ⟨k, rfl⟩ : ∃ z, k = z + 1 := ⟨k - 1, by omega⟩
    have e2 := c_stsF k par (nI d + 1) l a nm0 fl fa sz nx gl pr st c c14 (k3, k4, k5, k6, k7, k8, k9, k10, k11, k12, k15, k16)
    have e3 : fX2_readStatements_n (k + 1) par (nI d + 1) l 257 a nm0 fl fa sz nx gl pr st k3 k4 k5 k6 k7 k8 k9 k10 k11 k12 c c14 k15 k16 = some (-1, 257, a, nm0, fl, fa, nx, st, k3, k4, k5, k6, k7, k8, k9, k10, k11, k12, k15, k16) := e2
    rw [if_pos (show nI d < 10 from nI_lt (a := d) (b := 10) h (by decide)), nm_q, e3, ob_s]
    dsimp only
    rw [c_skipF hf (by decide), ob_s]
  · rw [if_neg (Int32.not_lt.mpr (show (10 : Int32) ≤ nI d from nI_le (a := 10) (b := d) (by omega) (by omega)))]
theorem c_blk {B : Nat → Nat} {N : Nat} {c m : Nat → Int32} (h : txt B N c m) {c14 : Nat → Int64} {g l p k d par f n : Nat} {rs : Rt} (hd : d ≤ 10) (hk : d < 10 → 1 ≤ k) (hs : d < 10 → ∀ f1, opT B N d f = .ok f1 → CS B N c c14 g l p k (d + 1) par f1 n rs) : CB B N c c14 g l p k d par f n (blkR B N d f rs) := by
  intro t a nm0 fl fa nx R hsc
  obtain ⟨t2, a2, nm2, fl2, fa2, nx2, e, ho⟩ := c_openR h (r := .ok f) (d := d) hsc hd
  have ho : scR B N (opT B N d f) t2 a2 nm2 fl2 fa2 nx2 := ho
  unfold fBlk fX2_readBlock_o blkR
  obtain ⟨k3, k4, k5, k6, k7, k8, k9, k10, k11, k12, k15, k16⟩ := R
  dsimp only
  rw [e, ob_s]
  dsimp only
  by_cases hd2 : d < 10
  · rw [if_pos (show nI d < 10 from nI_lt (a := d) (b := 10) hd2 (by decide)), nm_q, (show nI d + 1 = nI (d + 1) from nI_add _ 1)]
    cases hop : opT B N d f with
    | error e1 =>
      rw [hop] at ho
      obtain ⟨h1, h2, h3, h4⟩ := ho
      subst h1
      have hk := hk hd2
      obtain ⟨k, rfl⟩ : ∃ z, k = z + 1 := ⟨k - 1, by omega⟩
      have e3 : fX2_readStatements_n (k + 1) (pI par) (nI (d + 1)) (nI l) 257 a2 nm2 fl2 fa2 (nI N) nx2 (nI g) (nI (p + 1)) (nI n) k3 k4 k5 k6 k7 k8 k9 k10 k11 k12 c c14 k15 k16 = some (-1, 257, a2, nm2, fl2, fa2, nx2, nI n, k3, k4, k5, k6, k7, k8, k9, k10, k11, k12, k15, k16) := c_stsF k (pI par) (nI (d + 1)) (nI l) a2 nm2 fl2 fa2 (nI N) nx2 (nI g) (nI (p + 1)) (nI n) c c14 (k3, k4, k5, k6, k7, k8, k9, k10, k11, k12, k15, k16)
      rw [e3, ob_s]
      dsimp only
      rw [c_skipF h4 (by decide), ob_s]
      exact ⟨_, _, _, _, _, _, _, _, _, rfl, rfl, h2, h3, h4⟩
    | ok f1 =>
      rw [hop] at ho
      obtain ⟨y, t3, a3, nm3, fl3, fa3, nx3, st3, S, e3, hr⟩ := hs hd2 f1 hop t2 a2 nm2 fl2 fa2 nx2 (k3, k4, k5, k6, k7, k8, k9, k10, k11, k12, k15, k16) ho
      have e3' : fX2_readStatements_n k (pI par) (nI (d + 1)) (nI l) t2 a2 nm2 fl2 fa2 (nI N) nx2 (nI g) (nI (p + 1)) (nI n) k3 k4 k5 k6 k7 k8 k9 k10 k11 k12 c c14 k15 k16 = some (y, t3, a3, nm3, fl3, fa3, nx3, st3, S) := e3
      rw [e3', ob_s]
      dsimp only
      cases rs with
      | error e1 =>
        obtain ⟨h1, h2, h3, h4⟩ := hr
        subst h1
        rw [c_skipF h4 (by decide), ob_s]
        exact ⟨_, _, _, _, _, _, _, _, _, rfl, rfl, h2, h3, h4⟩
      | ok q =>
        obtain ⟨h1, h2, h3, h4, h5⟩ := hr
        obtain ⟨z, t4, a4, nm4, fl4, fa4, nx4, e4, ho4, -⟩ := c_skipR h (r := .ok q.2.1) h1 (w := 125) (by decide) (by decide)
        have e4' : fX4_skipToken 125 t3 a3 nm3 fl3 fa3 (nI N) nx3 c = some (z, t4, a4, nm4, fl4, fa4, nx4) := e4
        have ho4 : scR B N (skT B N 125 q.2.1) t4 a4 nm4 fl4 fa4 nx4 := ho4
        rw [e4', ob_s]
        refine ⟨_, _, _, _, _, _, _, _, _, rfl, ?_⟩
        dsimp only
        cases hsk : skT B N 125 q.2.1 with
        | error e1 => rw [hsk] at ho4; exact ho4
        | ok f2 =>
          rw [hsk] at ho4
          exact ⟨ho4, h2, h3, h4, h5⟩
  · have hn := Int32.not_lt.mpr (show (10 : Int32) ≤ nI d from nI_le (a := 10) (b := d) (by omega) (by omega))
    rw [if_neg hn]
    refine ⟨_, _, _, _, _, _, _, _, _, rfl, ?_⟩
    have hop : ∃ e1, opT B N d f = .error e1 := by
      unfold opT skT
      by_cases hq : tK B N f = 123
      · rw [if_pos ⟨hq, by omega⟩]; exact ⟨_, rfl⟩
      · rw [if_neg (fun z => hq z.1), if_neg hq]; exact ⟨_, rfl⟩
    obtain ⟨e1, he1⟩ := hop
    rw [he1] at ho ⊢
    exact ho
