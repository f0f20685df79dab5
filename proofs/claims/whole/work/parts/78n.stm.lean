/-! ===== pure rows 90: statements: the reference's rows, and how a statement begins ===== -/
abbrev MT : Type := (Nat → Int32) × (Nat → Int32) × (Nat → Int32) × (Nat → Int32) × (Nat → Int32) × (Nat → Int32) × (Nat → Int32) × (Nat → Int32) × (Nat → Int32) × (Nat → Int32) × (Nat → Int32) × (Nat → Int32) × (Nat → Int32) × (Nat → Int32) × (Nat → Int32) × (Nat → Int32) × (Nat → Int64) × (Nat → Int32)
/-- where the next statement of block b is hung: 3 behind a sibling, 4 inside, 5 inside else, 8 first of the procedure -/
def hang (p n b k j : Nat) (M : MT) : Prop := (k = 8 ∧ j = p ∧ M.2.2.2.2.2.2.2.2.2.1 b = -1 ∧ M.2.2.2.2.2.2.2.2.2.2.1 b = 0) ∨ (k = 3 ∧ j < n ∧ M.2.2.2.2.2.2.2.2.2.1 b = nI j) ∨ (k = 5 ∧ j < n ∧ M.2.2.2.2.2.2.2.2.2.1 b = -1 ∧ M.2.2.2.2.2.2.2.2.2.2.1 b = 2 ∧ M.2.2.2.2.2.2.2.2.2.2.2.2.1 b = nI j) ∨ (k = 4 ∧ j < n ∧ M.2.2.2.2.2.2.2.2.2.1 b = -1 ∧ (M.2.2.2.2.2.2.2.2.2.2.1 b = 1 ∨ M.2.2.2.2.2.2.2.2.2.2.1 b = 3) ∧ M.2.2.2.2.2.2.2.2.2.2.2.2.1 b = nI j)
def bpar (n b par : Nat) (M : MT) : Prop := (par = 40 ∧ M.2.2.2.2.2.2.2.2.2.2.1 b = 0) ∨ (par < n ∧ M.2.2.2.2.2.2.2.2.2.2.2.2.1 b = nI par ∧ ((M.2.1 par = 2 ∧ M.2.2.2.2.2.2.2.2.2.2.1 b = 3) ∨ (M.2.1 par = 1 ∧ (M.2.2.2.2.2.2.2.2.2.2.1 b = 1 ∨ M.2.2.2.2.2.2.2.2.2.2.1 b = 2))))
def eqM (n n2 k j : Nat) (U M : MT) : Prop :=
  (∀ s, s < n → U.2.1 s = M.2.1 s ∧ U.2.2.1 s = M.2.2.1 s ∧ U.2.2.2.1 s = M.2.2.2.1 s ∧ U.2.2.2.2.2.1 s = M.2.2.2.2.2.1 s ∧ U.2.2.2.2.2.2.2.1 s = M.2.2.2.2.2.2.2.1 s ∧ U.2.2.2.2.2.2.2.2.1 s = M.2.2.2.2.2.2.2.2.1 s ∧ U.2.2.2.2.2.2.2.2.2.2.2.2.2.1 s = M.2.2.2.2.2.2.2.2.2.2.2.2.2.1 s ∧ U.2.2.2.2.2.2.2.2.2.2.2.2.2.2.2.2.1 s = M.2.2.2.2.2.2.2.2.2.2.2.2.2.2.2.2.1 s ∧ U.2.2.2.2.2.2.2.2.2.2.2.2.2.2.2.2.2 s = M.2.2.2.2.2.2.2.2.2.2.2.2.2.2.2.2.2 s ∧ U.2.2.2.2.1 s = (if k = 3 ∧ s = j ∧ n < n2 then nI n else M.2.2.2.2.1 s) ∧ U.2.2.2.2.2.2.1 (2 * s) = (if k = 5 ∧ s = j ∧ n < n2 then nI n else M.2.2.2.2.2.2.1 (2 * s)) ∧ U.2.2.2.2.2.2.1 (2 * s + 1) = (if k = 4 ∧ s = j ∧ n < n2 then nI n else M.2.2.2.2.2.2.1 (2 * s + 1))) ∧ ∀ q, U.2.2.2.2.2.2.2.2.2.2.2.1 q = if k = 8 ∧ q = j ∧ n < n2 then nI n else M.2.2.2.2.2.2.2.2.2.2.2.1 q
def eqB (bl b d : Nat) (U M : MT) : Prop := (∀ x, x < bl → U.2.2.2.2.2.2.2.2.2.2.1 x = M.2.2.2.2.2.2.2.2.2.2.1 x ∧ U.2.2.2.2.2.2.2.2.2.2.2.2.1 x = M.2.2.2.2.2.2.2.2.2.2.2.2.1 x ∧ (¬ x = b → U.2.2.2.2.2.2.2.2.2.1 x = M.2.2.2.2.2.2.2.2.2.1 x)) ∧ ∀ i, i < d → U.1 i = M.1 i
/-- the reference's row of statement s -/
def rRw (B : Nat → Nat) (N p : Nat) (P : Nat → Nat → Nat) (L : Nat → List Nat) (Q : List Nat) (bl s : Nat) (M : MT) : Prop :=
  M.2.1 s = nI (P 0 s) ∧ M.2.2.1 s = nI (P 1 s) ∧ M.2.2.2.1 s = nI p ∧ M.2.2.2.2.1 s = pM (P 3 s) ∧ M.2.2.2.2.2.2.1 (2 * s) = pM (P 5 s) ∧ M.2.2.2.2.2.2.1 (2 * s + 1) = pM (P 4 s) ∧
    (P 0 s < 3 ∨ P 0 s = 4 ∨ P 0 s = 5 → ∃ A T, Q = A ++ L s ++ T ∧ M.2.2.2.2.2.2.2.1 s = nI A.length ∧ M.2.2.2.2.2.2.2.2.1 s = nI (A ++ L s).length) ∧ (P 0 s = 0 → M.2.2.2.2.2.2.2.2.2.2.2.2.2.1 s = vMi (P 6 s)) ∧ (P 0 s = 3 → M.2.2.2.2.2.2.2.2.2.2.2.2.2.2.2.2.1 s = nM (wj B (P 7 s) (tL B N (P 7 s))) ∧ M.2.2.2.2.2.2.2.2.2.2.2.2.2.2.2.2.2 s = nI (P 7 s)) ∧
    ∃ b, b < bl ∧ M.2.2.2.2.2.1 s = nI b ∧ ((P 2 s = 40 ∧ M.2.2.2.2.2.2.2.2.2.2.1 b = 0) ∨ (P 2 s < s ∧ M.2.2.2.2.2.2.2.2.2.2.2.2.1 b = nI (P 2 s) ∧ ((M.2.1 (P 2 s) = 2 ∧ M.2.2.2.2.2.2.2.2.2.2.1 b = 3) ∨ (M.2.1 (P 2 s) = 1 ∧ (M.2.2.2.2.2.2.2.2.2.2.1 b = 1 ∨ M.2.2.2.2.2.2.2.2.2.2.1 b = 2)))))
def rPost (B : Nat → Nat) (N p d b bl n k j : Nat) (one : Bool) (Q : List Nat) (M : MT) (q : Nat × Nat × (Nat → Nat → Nat) × (Nat → List Nat)) (Q2 : List Nat) (bl2 : Nat) (U : MT) : Prop :=
  codeIs U.2.2.2.2.2.2.2.2.2.2.2.2.2.2.2.1 Q2 ∧ (∃ T, Q2 = Q ++ T) ∧ Q2.length ≤ q.2.1 ∧ bl ≤ bl2 ∧ bl2 + 2 * n ≤ bl + 2 * q.1 ∧ eqM n q.1 k j U M ∧ eqB bl b d U M ∧ (one = true → U.2.2.2.2.2.2.2.2.2.1 b = nI n) ∧ ∀ s, n ≤ s → s < q.1 → rRw B N p q.2.2.1 q.2.2.2 Q2 bl2 s U
def rPre (p d b bl par f n k j : Nat) (Q : List Nat) (M : MT) : Prop :=
  codeIs M.2.2.2.2.2.2.2.2.2.2.2.2.2.2.2.1 Q ∧ Q.length ≤ f ∧ b < bl ∧ bl ≤ 6 + 2 * n ∧ 1 ≤ d ∧ d ≤ 10 ∧ M.1 (d - 1) = nI b ∧ hang p n b k j M ∧ bpar n b par M
theorem r_begin {p kd f n d b k j : Nat} {M : MT} (hp : p < 6) (hn : n < 40) (hd : 1 ≤ d) (hd2 : d ≤ 10) (hb : b < 90) (hob : M.1 (d - 1) = nI b) (hg : hang p n b k j M) :
    ∃ (sb inn fs : Nat → Int32), fX11_begin (nI p) (nI kd) (nI f) (nI n) (nI d) M.1 M.2.1 M.2.2.1 M.2.2.2.1 M.2.2.2.2.1 M.2.2.2.2.2.1 M.2.2.2.2.2.2.1 M.2.2.2.2.2.2.2.1 M.2.2.2.2.2.2.2.2.1 M.2.2.2.2.2.2.2.2.2.1 M.2.2.2.2.2.2.2.2.2.2.1 M.2.2.2.2.2.2.2.2.2.2.2.1 M.2.2.2.2.2.2.2.2.2.2.2.2.1 = some (nI n, nI (n + 1), upd M.2.1 n (nI kd), upd M.2.2.1 n (nI f), upd M.2.2.2.1 n (nI p), sb, upd M.2.2.2.2.2.1 n (nI b), inn, upd M.2.2.2.2.2.2.2.1 n 0, upd M.2.2.2.2.2.2.2.2.1 n 0, upd M.2.2.2.2.2.2.2.2.2.1 b (nI n), fs) ∧
      (∀ s, sb s = if k = 3 ∧ s = j then nI n else if s = n then -1 else M.2.2.2.2.1 s) ∧ (∀ x, inn x = if k = 4 ∧ x = 2 * j + 1 then nI n else if k = 5 ∧ x = 2 * j then nI n else if x = 2 * n ∨ x = 2 * n + 1 then -1 else M.2.2.2.2.2.2.1 x) ∧ ∀ q, fs q = if k = 8 ∧ q = j then nI n else M.2.2.2.2.2.2.2.2.2.2.2.1 q := by
  have e1 : nI n + 1 = nI (n + 1) := nI_add _ 1
  have e2 : nI d - 1 = nI (d - 1) := nI_dif (n := d) (k := 1) hd
  have e3 : (2 : Int32) * nI n = nI (2 * n) := pk_mul 2 n
  have e4 : nI (2 * n) + 1 = nI (2 * n + 1) := nI_add _ 1
  have b1 := inb_nI (j := d - 1) (n := 12) (by omega) (by decide)
  have b2 := inb_nI (j := n) (n := 40) hn (by decide)
  have b3 := inb_nI (j := 2 * n) (n := 80) (by omega) (by decide)
  have b4 := inb_nI (j := 2 * n + 1) (n := 80) (by omega) (by decide)
  have b5 := inb_nI (j := b) (n := 90) hb (by decide)
  have b6 := inb_nI (j := p) (n := 6) hp (by decide)
  have k1 := nI_clamp (n := d - 1) (by omega)
  have k2 := nI_clamp (n := n) (by omega)
  have k3 := nI_clamp (n := 2 * n) (by omega)
  have k4 := nI_clamp (n := 2 * n + 1) (by omega)
  have k5 := nI_clamp (n := b) (by omega)
  have k6 := nI_clamp (n := p) (by omega)
  have inn0 : ∀ x, upd (upd M.2.2.2.2.2.2.1 (2 * n) (-1)) (2 * n + 1) (-1) x = if x = 2 * n ∨ x = 2 * n + 1 then -1 else M.2.2.2.2.2.2.1 x := by
    intro x
    by_cases h1 : x = 2 * n + 1
    · rw [if_pos (Or.inr h1), h1, upd_at]
    · rw [upd_ne h1]
      by_cases h2 : x = 2 * n
      · rw [if_pos (Or.inl h2), h2, upd_at]
      · rw [upd_ne h2, if_neg (fun q => q.elim h2 h1)]
  have sb0 : ∀ s, upd M.2.2.2.2.1 n (-1) s = if s = n then -1 else M.2.2.2.2.1 s := by
    intro s
    by_cases h1 : s = n
    · rw [if_pos h1, h1, upd_at]
    · rw [if_neg h1, upd_ne h1]
  unfold fX11_begin fX11_begin_p177 fX11_begin_p180
  simp only [nm_q, e1, e2, e3, e4, bd_eq _ b1, bd_eq _ b2, bd_eq _ b3, bd_eq _ b4, k1, k2, k3, k4, hob, bd_eq _ b5, k5]
  rcases hg with ⟨g1, g2, g3, g4⟩ | ⟨g1, g2, g3⟩ | ⟨g1, g2, g3, g4, g5⟩ | ⟨g1, g2, g3, g4, g5⟩
  · subst g1 g2
    rw [g3, g4, if_pos rfl, if_pos rfl, bd_eq _ b6, k6]
    refine ⟨_, _, _, rfl, fun s => ?_, fun x => ?_, fun q => ?_⟩
    · rw [if_neg (fun z => absurd z.1 (by decide)), sb0]
    · rw [if_neg (fun z => absurd z.1 (by decide)), if_neg (fun z => absurd z.1 (by decide)), inn0]
    · by_cases hq : q = j
      · rw [if_pos ⟨rfl, hq⟩, hq, upd_at]
      · rw [if_neg (fun z => hq z.2), upd_ne hq]
  · subst g1
    have b7 := inb_nI (j := j) (n := 40) (by omega) (by decide)
    rw [g3, if_neg (nI_m1 (by omega)), bd_eq _ b7, nI_clamp (n := j) (by omega)]
    refine ⟨_, _, _, rfl, fun s => ?_, fun x => ?_, fun q => ?_⟩
    · by_cases hq : s = j
      · rw [if_pos ⟨rfl, hq⟩, hq, upd_at]
      · rw [if_neg (fun z => hq z.2), upd_ne hq, sb0]
    · rw [if_neg (fun z => absurd z.1 (by decide)), if_neg (fun z => absurd z.1 (by decide)), inn0]
    · rw [if_neg (fun z => absurd z.1 (by decide))]
  · subst g1
    have e5 : (2 : Int32) * nI j = nI (2 * j) := pk_mul 2 j
    have e6 : nI (2 * j) + 0 = nI (2 * j) := nI_add _ 0
    have b7 := inb_nI (j := 2 * j) (n := 80) (by omega) (by decide)
    rw [g3, g4, g5, if_pos rfl, if_neg (by decide), if_pos rfl, e5, e6, bd_eq _ b7, nI_clamp (n := 2 * j) (by omega)]
    refine ⟨_, _, _, rfl, fun s => ?_, fun x => ?_, fun q => ?_⟩
    · rw [if_neg (fun z => absurd z.1 (by decide)), sb0]
    · rw [if_neg (fun z => absurd z.1 (by decide))]
      by_cases hq : x = 2 * j
      · rw [if_pos ⟨rfl, hq⟩, hq, upd_at]
      · rw [if_neg (fun z => hq z.2), upd_ne hq, inn0]
    · rw [if_neg (fun z => absurd z.1 (by decide))]
  · subst g1
    have e5 : (2 : Int32) * nI j = nI (2 * j) := pk_mul 2 j
    have e6 : nI (2 * j) + 1 = nI (2 * j + 1) := nI_add _ 1
    have b7 := inb_nI (j := 2 * j + 1) (n := 80) (by omega) (by decide)
    have g40 : ¬ M.2.2.2.2.2.2.2.2.2.2.1 b = 0 := by rcases g4 with g4 | g4 <;> rw [g4] <;> decide
    have g42 : ¬ M.2.2.2.2.2.2.2.2.2.2.1 b = 2 := by rcases g4 with g4 | g4 <;> rw [g4] <;> decide
    rw [g3, g5, if_pos rfl, if_neg g40, if_neg g42, e5, e6, bd_eq _ b7, nI_clamp (n := 2 * j + 1) (by omega)]
    refine ⟨_, _, _, rfl, fun s => ?_, fun x => ?_, fun q => ?_⟩
    · rw [if_neg (fun z => absurd z.1 (by decide)), sb0]
    · by_cases hq : x = 2 * j + 1
      · rw [if_pos ⟨rfl, hq⟩, hq, upd_at]
      · rw [if_neg (fun z => hq z.2), if_neg (fun z => absurd z.1 (by decide)), upd_ne hq, inn0]
    · rw [if_neg (fun z => absurd z.1 (by decide))]
/-- a brace is opened -/
theorem r_open {B : Nat → Nat} {N : Nat} {c m : Nat → Int32} (h : txt B N c m) {f : Nat} (hf : f ≤ N) {fr to tk : Int32} {nm0 : Int64} (hs : rsO B N f fr to tk nm0) {d bl : Nat} (hd : d ≤ 10) (hb : bl < 90) (a0 a1 wa : Int32) (bo bs bt2 ob2 : Nat → Int32) :
    ∃ (z fr2 to2 tk2 : Int32) (nm2 : Int64) (wr2 wa2 bl2 op2 : Int32) (bo2 bs2 bt3 ob3 : Nat → Int32), fX11_openBlock a0 a1 (nI N) fr to tk nm0 0 wa (nI bl) (nI d) m bo bs bt2 ob2 = some (z, fr2, to2, tk2, nm2, wr2, wa2, bl2, op2, bo2, bs2, bt3, ob3) ∧
      ((tK B N f = 123 ∧ d < 10 ∧ z = 1 ∧ rsO B N (tX B N f) fr2 to2 tk2 nm2 ∧ wr2 = 0 ∧ wa2 = wa ∧ bl2 = nI (bl + 1) ∧ op2 = nI (d + 1) ∧ bo2 = upd bo bl a0 ∧ bs2 = upd bs bl a1 ∧ bt3 = upd bt2 bl (-1) ∧ ob3 = upd ob2 d (nI bl)) ∨
       (z = 0 ∧ ∃ e : Nat × Nat, (tK B N f = 257 ∧ e = (1, f) ∨ ¬ tK B N f = 257 ∧ opT B N d f = .error e) ∧ wr2 = nI e.1 ∧ wa2 = nI e.2)) := by
  have hs0 := hs
  obtain ⟨h1, h2, h3, h4⟩ := hs
  have es := r_sees (f := f) (a := 123) h (by decide)
  have es : fX11_sees 123 (nI N) (nI f) (nI (kM (tK B N f))) m = some (if tK B N f = 123 then 1 else 0, ()) := es
  unfold fX11_openBlock
  rw [h1, h3, es, ob_s, r_may, ob_s]
  dsimp only
  by_cases h7 : tK B N f = 257
  · rw [if_pos h7, if_pos rfl]
    exact ⟨_, _, _, _, _, _, _, _, _, _, _, _, _, rfl, Or.inr ⟨rfl, (1, f), Or.inl ⟨h7, rfl⟩, (by decide : (1 : Int32) = nI 1), rfl⟩⟩
  · rw [if_neg h7]
    by_cases hq : tK B N f = 123
    · rw [if_pos hq, if_neg n10, if_neg n10]
      by_cases hd2 : d = 10
      · subst hd2
        rw [if_pos (by decide)]
        unfold fX11_fail fX11_fail_p17
        rw [if_pos rfl, ob_s, bd_eq _ (show bz (0 : Int32) = true by decide)]
        exact ⟨_, _, _, _, _, _, _, _, _, _, _, _, _, rfl, Or.inr ⟨rfl, (3, f), Or.inr ⟨h7, by unfold opT; rw [if_pos ⟨hq, Nat.le_refl _⟩]⟩, (by decide : (3 : Int32) = nI 3), rfl⟩⟩
      · have nd : ¬ nI d = 10 := fun z => hd2 ((nI_eq (a := d) (b := 10) (by omega) (by decide)).mp z)
        obtain ⟨fr2, to2, tk2, nm2, e2, hs2⟩ := r_nxt h hf hs0
        rw [h1, h3] at e2
        have e5 : nI d + 1 = nI (d + 1) := nI_add _ 1
        have e6 : nI bl + 1 = nI (bl + 1) := nI_add _ 1
        rw [if_neg nd]
        simp only [nm_q, bd_eq _ (inb_nI (j := bl) (n := 90) hb (by decide)), bd_eq _ (inb_nI (j := d) (n := 12) (by omega) (by decide)), nI_clamp (n := bl) (by omega), nI_clamp (n := d) (by omega), e5, e6]
        rw [e2, ob_s]
        exact ⟨_, _, _, _, _, _, _, _, _, _, _, _, _, rfl, Or.inl ⟨hq, by omega, rfl, hs2, rfl, rfl, rfl, rfl, rfl, rfl, rfl, rfl⟩⟩
    · rw [if_neg hq, if_pos rfl, if_pos rfl]
      exact ⟨_, _, _, _, _, _, _, _, _, _, _, _, _, rfl, Or.inr ⟨rfl, (2, f), Or.inr ⟨h7, by unfold opT skT; rw [if_neg (fun z => hq z.1), if_neg hq]⟩, (by decide : (2 : Int32) = nI 2), rfl⟩⟩
