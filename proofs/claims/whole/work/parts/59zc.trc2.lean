/-! ===== pure rows 57: the run that fails, as both must tell it ===== -/
/-- point, setting, open calls, where each goes on, its locals, how far below, whose it is -/
abbrev CfT : Type := Nat × Nat × Nat × (Nat → Nat) × (Nat → Nat) × (Nat → Nat → Nat) × (Nat → Nat)
def popT (BP BL : Nat → Nat) : Nat → Nat → Nat → Nat × Nat × Nat
  | 0 => fun p st => (p, st, 0)
  | o + 1 => fun p st => if p = 40 then popT BP BL o (BP (o + 1)) (st % 8 + BL (o + 1)) else (p, st, o + 1)
def fset {α : Type} (f : Nat → α) (k : Nat) (v : α) : Nat → α := fun j => if j = k then v else f j
theorem fset_at {α : Type} (f : Nat → α) (k : Nat) (v : α) : fset f k v k = v := by unfold fset; rw [if_pos rfl]
theorem fset_ne {α : Type} {f : Nat → α} {k j : Nat} {v : α} (h : j ≠ k) : fset f k v j = f j := by unfold fset; rw [if_neg h]
def vT (G : Nat → Nat → Nat → Nat) (Y : Nat → Nat) (lf : Nat) (c : CfT) : Nat := if cn G c.1 0 c.2.1 = true ∧ VP Y (c.2.2.2.2.2.1 c.2.2.1) (G 4 c.1 0) (sa G c.1 0 c.2.1) = lf then 0 else 1
/-- one step, ended calls left -/
def nxT (G : Nat → Nat → Nat → Nat) (Y : Nat → Nat) (lf : Nat) (c : CfT) : CfT :=
  if G 0 c.1 0 = 3 then
    ((popT (fset c.2.2.2.1 (c.2.2.1 + 1) (G 4 c.1 1)) (fset c.2.2.2.2.1 (c.2.2.1 + 1) (8 * (c.2.1 / 8))) (c.2.2.1 + 1) (G 5 (G 2 c.1 0) 0) (c.2.1 % 8)).1,
     (popT (fset c.2.2.2.1 (c.2.2.1 + 1) (G 4 c.1 1)) (fset c.2.2.2.2.1 (c.2.2.1 + 1) (8 * (c.2.1 / 8))) (c.2.2.1 + 1) (G 5 (G 2 c.1 0) 0) (c.2.1 % 8)).2.1,
     (popT (fset c.2.2.2.1 (c.2.2.1 + 1) (G 4 c.1 1)) (fset c.2.2.2.2.1 (c.2.2.1 + 1) (8 * (c.2.1 / 8))) (c.2.2.1 + 1) (G 5 (G 2 c.1 0) 0) (c.2.1 % 8)).2.2,
     fset c.2.2.2.1 (c.2.2.1 + 1) (G 4 c.1 1), fset c.2.2.2.2.1 (c.2.2.1 + 1) (8 * (c.2.1 / 8)), fset c.2.2.2.2.2.1 (c.2.2.1 + 1) (fun m => VP Y (c.2.2.2.2.2.1 c.2.2.1) (G 4 c.1 1) (m + 8 * (c.2.1 / 8))), fset c.2.2.2.2.2.2 (c.2.2.1 + 1) (G 2 c.1 0))
  else
    ((popT c.2.2.2.1 c.2.2.2.2.1 c.2.2.1 (G 4 c.1 (vT G Y lf c)) (sa G c.1 (vT G Y lf c) c.2.1)).1, (popT c.2.2.2.1 c.2.2.2.2.1 c.2.2.1 (G 4 c.1 (vT G Y lf c)) (sa G c.1 (vT G Y lf c) c.2.1)).2.1, (popT c.2.2.2.1 c.2.2.2.2.1 c.2.2.1 (G 4 c.1 (vT G Y lf c)) (sa G c.1 (vT G Y lf c) c.2.1)).2.2, c.2.2.2)
/-- the frames below are as they must be -/
def frT (G : Nat → Nat → Nat → Nat) (re ex : Nat → Int32) (Y : Nat → Nat) (o : Nat) (BP BL : Nat → Nat) (W : Nat → Nat → Nat) (Q : Nat → Nat) : Prop :=
  (∀ m, m < 8 → W 0 m = 536870912) ∧ ∀ i, 1 ≤ i → i ≤ o → BP i ≤ 40 ∧ (BP i < 40 → BP i < G 7 0 0 ∧ G 6 (BP i) 0 = Q (i - 1)) ∧ (∃ l, l < 4 ∧ BL i = 8 * l) ∧ (∀ m, m < 8 → W i m = VP Y (W (i - 1)) (BP i) (m + BL i)) ∧ ∀ m, m < 8 → bi (ex (Q i)) m = true → ptD (BP i) (m + BL i) (Q (i - 1)) re ex
/-- a point that is reached, in the procedure q -/
def ptR (G : Nat → Nat → Nat → Nat) (re ex : Nat → Int32) (p st q : Nat) : Prop := p ≤ 42 ∧ st < 32 ∧ (p < 40 → p < G 7 0 0 ∧ G 6 p 0 = q) ∧ ptD p st q re ex
theorem frT_vl {G : Nat → Nat → Nat → Nat} {re ex : Nat → Int32} {Y : Nat → Nat} (hY : ∀ j, j < 288 * G 7 0 0 → vl (Y j)) {o : Nat} {BP BL : Nat → Nat} {W : Nat → Nat → Nat} {Q : Nat → Nat} (h : frT G re ex Y o BP BL W Q) {i m : Nat} (hi : i ≤ o) (hm : m < 8) : vl (W i m) := by
  cases i with
  | zero => rw [h.1 m hm]; exact Or.inr rfl
  | succ i =>
    obtain ⟨a1, a2, ⟨l, a3, a4⟩, a5, a6⟩ := h.2 (i + 1) (by omega) hi
    rw [a5 m hm]
    exact VP_vl hY (fun z => (a2 z).1) (by omega)
theorem pop_ok {G : Nat → Nat → Nat → Nat} {re ex : Nat → Int32} {Y : Nat → Nat} (hY : ∀ j, j < 288 * G 7 0 0 → vl (Y j)) {BP BL : Nat → Nat} {W : Nat → Nat → Nat} {Q : Nat → Nat} : ∀ (o p st : Nat), frT G re ex Y o BP BL W Q → ptR G re ex p st (Q o) →
    ptR G re ex (popT BP BL o p st).1 (popT BP BL o p st).2.1 (Q (popT BP BL o p st).2.2) ∧ (popT BP BL o p st).2.2 ≤ o ∧ VP Y (W (popT BP BL o p st).2.2) (popT BP BL o p st).1 (popT BP BL o p st).2.1 = VP Y (W o) p st ∧ ((popT BP BL o p st).1 = 40 → (popT BP BL o p st).2.2 = 0) := by
  intro o
  induction o with
  | zero =>
    intro p st hf hp
    exact ⟨hp, Nat.le_refl _, rfl, fun _ => rfl⟩
  | succ o ih =>
    intro p st hf hp
    have e : popT BP BL (o + 1) p st = if p = 40 then popT BP BL o (BP (o + 1)) (st % 8 + BL (o + 1)) else (p, st, o + 1) := rfl
    by_cases h40 : p = 40
    · rw [e, if_pos h40]
      obtain ⟨a1, a2, ⟨l, a3, a4⟩, a5, a6⟩ := hf.2 (o + 1) (by omega) (Nat.le_refl _)
      rw [show o + 1 - 1 = o by omega] at a2 a5 a6
      have hex := hp.2.2.2.2 h40
      obtain ⟨b1, b2, b3, b4⟩ := ih (BP (o + 1)) (st % 8 + BL (o + 1)) ⟨hf.1, fun i h1 h2 => hf.2 i h1 (by omega)⟩ ⟨by omega, by omega, a2, a6 (st % 8) (by omega) hex⟩
      refine ⟨b1, by omega, ?_, b4⟩
      rw [b3, h40, VP_40 (fun m hm => frT_vl hY hf (Nat.le_refl _) hm), a5 (st % 8) (by omega)]
    · rw [e, if_neg h40]
      exact ⟨hp, Nat.le_refl _, rfl, fun z => absurd z h40⟩
/-- what holds while steps are left -/
def okT (G : Nat → Nat → Nat → Nat) (re ex : Nat → Int32) (Y : Nat → Nat) (lf : Nat) (c : CfT) : Prop :=
  c.1 < G 7 0 0 ∧ ptR G re ex c.1 c.2.1 (c.2.2.2.2.2.2 c.2.2.1) ∧ frT G re ex Y c.2.2.1 c.2.2.2.1 c.2.2.2.2.1 c.2.2.2.2.2.1 c.2.2.2.2.2.2 ∧ VP Y (c.2.2.2.2.2.1 c.2.2.1) c.1 c.2.1 = lf
theorem one_sm {z v : Nat} (h : sm 1 z = v) (hv : v ≤ 2000) : z = v - 1 ∧ 1 ≤ v := by
  obtain ⟨a1, a2, a3⟩ := sm_lt (show sm 1 z < 536870912 by rw [h]; omega)
  rw [a3] at h
  rcases Nat.le_total (1 + z) 1000000 with q | q
  · rw [Nat.min_eq_left q] at h; omega
  · rw [Nat.min_eq_right q] at h; omega
/-- the chosen value can be taken and is one step nearer -/
theorem vT_ok {G : Nat → Nat → Nat → Nat} (h : okPg G) {re ex : Nat → Int32} {Y : Nat → Nat} (hY : isL (288 * G 7 0 0) (opA G allA) (fun _ => 536870912) Y) {lf : Nat} (hl : lf + 1 ≤ 2000) {c : CfT} (hc : okT G re ex Y (lf + 1) c) (h3 : ¬ G 0 c.1 0 = 3) : vT G Y lf c < 2 ∧ cn G c.1 (vT G Y lf c) c.2.1 = true ∧ VP Y (c.2.2.2.2.2.1 c.2.2.1) (G 4 c.1 (vT G Y lf c)) (sa G c.1 (vT G Y lf c) c.2.1) = lf := by
  obtain ⟨c1, c2, c3, c4⟩ := hc
  have hfix : ∀ col, col < 9 → Y (rI c.1 c.2.1 col) = der G Y c.1 c.2.1 col := fun col hcol => by
    rw [isL_fix (opA_ok h allA) hY (rI_lt c1 c2.2.1 hcol), opA_at c2.2.1 hcol rfl]
  rw [V_step h hY.1 c1 c2.2.1 h3 hfix] at c4
  obtain ⟨e1, -⟩ := one_sm c4 hl
  rw [show lf + 1 - 1 = lf by omega] at e1
  unfold vT
  by_cases q : cn G c.1 0 c.2.1 = true ∧ VP Y (c.2.2.2.2.2.1 c.2.2.1) (G 4 c.1 0) (sa G c.1 0 c.2.1) = lf
  · rw [if_pos q]; exact ⟨by decide, q⟩
  · rw [if_neg q]
    refine ⟨by decide, ?_⟩
    rcases Nat.le_total (if cn G c.1 0 c.2.1 then VP Y (c.2.2.2.2.2.1 c.2.2.1) (G 4 c.1 0) (sa G c.1 0 c.2.1) else 536870912) (if cn G c.1 1 c.2.1 then VP Y (c.2.2.2.2.2.1 c.2.2.1) (G 4 c.1 1) (sa G c.1 1 c.2.1) else 536870912) with w | w
    · rw [Nat.min_eq_left w] at e1
      exfalso
      by_cases z : cn G c.1 0 c.2.1 = true
      · rw [if_pos z] at e1; exact q ⟨z, e1⟩
      · rw [if_neg z] at e1; omega
    · rw [Nat.min_eq_right w] at e1
      by_cases z : cn G c.1 1 c.2.1 = true
      · rw [if_pos z] at e1; exact ⟨z, e1⟩
      · rw [if_neg z] at e1; omega
/-- a call of a procedure that has statements: the frames, the point, how far it is -/
theorem call_ok {G : Nat → Nat → Nat → Nat} (h : okPg G) {re ex : Nat → Int32} (hr : isRe G re ex) {Y : Nat → Nat} (hY : isL (288 * G 7 0 0) (opA G allA) (fun _ => 536870912) Y) {lf : Nat} (hl : lf + 1 ≤ 2000) {p st o : Nat} {BP BL : Nat → Nat} {W : Nat → Nat → Nat} {Q : Nat → Nat} (hc : okT G re ex Y (lf + 1) (p, st, o, BP, BL, W, Q)) (h3 : G 0 p 0 = 3) (he : G 5 (G 2 p 0) 0 < 40) :
    frT G re ex Y (o + 1) (fset BP (o + 1) (G 4 p 1)) (fset BL (o + 1) (8 * (st / 8))) (fset W (o + 1) (fun m => VP Y (W o) (G 4 p 1) (m + 8 * (st / 8)))) (fset Q (o + 1) (G 2 p 0)) ∧
    ptR G re ex (G 5 (G 2 p 0) 0) (st % 8) (G 2 p 0) ∧ VP Y (fun m => VP Y (W o) (G 4 p 1) (m + 8 * (st / 8))) (G 5 (G 2 p 0) 0) (st % 8) = lf := by
  obtain ⟨c1, c2, c3, c4⟩ := hc
  simp only at c1 c2 c3 c4
  have hS := h.1
  obtain ⟨k0, k1, k2, k3, k4, k5⟩ := h.2.2.2.2 p c1
  have hfix : ∀ col, col < 9 → Y (rI p st col) = der G Y p st col := fun col hcol => by
    rw [isL_fix (opA_ok h allA) hY (rI_lt c1 c2.2.1 hcol), opA_at c2.2.1 hcol rfl]
  rw [V_call h c1 h3 hfix] at c4
  obtain ⟨e1, -⟩ := one_sm c4 hl
  rw [show lf + 1 - 1 = lf by omega] at e1
  have hcl2 := k2 h3
  have hact := c2.2.2.2.1 (show p < 40 by omega)
  obtain ⟨r1, r2⟩ := (hr.2 p c1).2 h3 st hact
  have hst := c2.2.1
  have hn := k5 1 (by decide)
  have hown := (c2.2.2.1 (show p < 40 by omega)).2
  have hen : G 5 (G 2 p 0) 0 < G 7 0 0 ∧ G 6 (G 5 (G 2 p 0) 0) 0 = G 2 p 0 := by
    rcases h.2.2.2.1 _ hcl2 with z | z
    · omega
    · exact z
  refine ⟨⟨fun m hm => ?_, fun i h1 h2 => ?_⟩, ⟨by omega, by omega, fun _ => hen, fun _ => (r2 he).1, fun z => by omega⟩, e1⟩
  · rw [fset_ne (by omega)]; exact c3.1 m hm
  · by_cases ei : i = o + 1
    · subst ei
      have e2 : o ≠ o + 1 := by omega
      simp only [fset_at, show o + 1 - 1 = o by omega, fset_ne e2]
      refine ⟨hn.2.2 h3, fun z => ⟨(hn.2.1 z).1, (hn.2.1 z).2.trans hown⟩, ⟨st / 8, by omega, rfl⟩, fun m hm => trivial, fun m hm hex => ?_⟩
      have := (r2 he).2 m hm hex
      rw [hown] at this
      exact this
    · have e2 : i - 1 ≠ o + 1 := by omega
      simp only [fset_ne ei, fset_ne e2]
      exact c3.2 i h1 (by omega)
/-- a call of an empty procedure -/
theorem call_ok0 {G : Nat → Nat → Nat → Nat} (h : okPg G) {re ex : Nat → Int32} (hr : isRe G re ex) {Y : Nat → Nat} (hY : isL (288 * G 7 0 0) (opA G allA) (fun _ => 536870912) Y) {lf : Nat} (hl : lf + 1 ≤ 2000) {p st o : Nat} {BP BL : Nat → Nat} {W : Nat → Nat → Nat} {Q : Nat → Nat} (hc : okT G re ex Y (lf + 1) (p, st, o, BP, BL, W, Q)) (h3 : G 0 p 0 = 3) (he : G 5 (G 2 p 0) 0 = 40) :
    ptR G re ex (G 4 p 1) st (Q o) ∧ VP Y (W o) (G 4 p 1) st = lf := by
  obtain ⟨c1, c2, c3, c4⟩ := hc
  simp only at c1 c2 c3 c4
  have hS := h.1
  obtain ⟨k0, k1, k2, k3, k4, k5⟩ := h.2.2.2.2 p c1
  have hfix : ∀ col, col < 9 → Y (rI p st col) = der G Y p st col := fun col hcol => by
    rw [isL_fix (opA_ok h allA) hY (rI_lt c1 c2.2.1 hcol), opA_at c2.2.1 hcol rfl]
  have hst := c2.2.1
  have hn := k5 1 (by decide)
  rw [V_call h c1 h3 hfix, he, VP_40 (fun m hm => VP_vl hY.1 (fun z => (hn.2.1 z).1) (by omega))] at c4
  obtain ⟨e1, -⟩ := one_sm c4 hl
  rw [show lf + 1 - 1 = lf by omega, show st % 8 % 8 + 8 * (st / 8) = st by omega] at e1
  have hact := c2.2.2.2.1 (show p < 40 by omega)
  have r1 := ((hr.2 p c1).2 h3 st hact).1 he
  have hown := (c2.2.2.1 (show p < 40 by omega)).2
  refine ⟨⟨hn.1, hst, fun z => ⟨(hn.2.1 z).1, (hn.2.1 z).2.trans hown⟩, ?_⟩, e1⟩
  rw [hown] at r1
  exact r1
theorem popT_fset {BP BL : Nat → Nat} {k a b : Nat} : ∀ o p st, o < k → popT (fset BP k a) (fset BL k b) o p st = popT BP BL o p st := by
  intro o
  induction o with
  | zero => intro p st _; rfl
  | succ o ih =>
    intro p st hk
    show (if p = 40 then popT (fset BP k a) (fset BL k b) o (fset BP k a (o + 1)) (st % 8 + fset BL k b (o + 1)) else (p, st, o + 1)) = if p = 40 then popT BP BL o (BP (o + 1)) (st % 8 + BL (o + 1)) else (p, st, o + 1)
    rw [fset_ne (by omega), fset_ne (by omega), ih _ _ (by omega)]
theorem frT_fset {G : Nat → Nat → Nat → Nat} {re ex : Nat → Int32} {Y : Nat → Nat} {o k : Nat} {BP BL : Nat → Nat} {W : Nat → Nat → Nat} {Q : Nat → Nat} {a b d : Nat} {f : Nat → Nat} (hk : o < k) (h : frT G re ex Y o BP BL W Q) : frT G re ex Y o (fset BP k a) (fset BL k b) (fset W k f) (fset Q k d) := by
  refine ⟨fun m hm => by rw [fset_ne (by omega)]; exact h.1 m hm, fun i h1 h2 => ?_⟩
  have e1 : i ≠ k := by omega
  have e2 : i - 1 ≠ k := by omega
  simp only [fset_ne e1, fset_ne e2]
  exact h.2 i h1 h2
theorem frT_low {G : Nat → Nat → Nat → Nat} {re ex : Nat → Int32} {Y : Nat → Nat} {o o2 : Nat} {BP BL : Nat → Nat} {W : Nat → Nat → Nat} {Q : Nat → Nat} (ho : o2 ≤ o) (h : frT G re ex Y o BP BL W Q) : frT G re ex Y o2 BP BL W Q := ⟨h.1, fun i h1 h2 => h.2 i h1 (by omega)⟩
/-- a reached point that is one to two thousand steps from failing is a statement -/
theorem pt_stm {G : Nat → Nat → Nat → Nat} {re ex : Nat → Int32} {Y : Nat → Nat} {o p st q lf : Nat} {BP BL : Nat → Nat} {W : Nat → Nat → Nat} {Q : Nat → Nat} (hf : frT G re ex Y o BP BL W Q) (hp : ptR G re ex p st q) (h40 : p = 40 → o = 0) (hv : VP Y (W o) p st = lf) (h1 : 1 ≤ lf) (h2 : lf ≤ 2000) : p < G 7 0 0 := by
  by_cases z : p < 40
  · exact (hp.2.2.1 z).1
  · exfalso
    have hp42 := hp.1
    have : p = 40 ∨ p = 41 ∨ p = 42 := by omega
    rcases this with w | w | w
    · have ho := h40 w
      rw [w, ho, VP_40 (fun m hm => by rw [hf.1 m hm]; exact Or.inr rfl), hf.1 _ (by omega)] at hv
      omega
    · rw [w, VP_41] at hv; omega
    · rw [w, VP_42] at hv; omega
theorem step_ok {G : Nat → Nat → Nat → Nat} (h : okPg G) {re ex : Nat → Int32} (hr : isRe G re ex) {Y : Nat → Nat} (hY : isL (288 * G 7 0 0) (opA G allA) (fun _ => 536870912) Y) {lf : Nat} (hl : lf + 1 ≤ 2000) (hl1 : 1 ≤ lf) {c : CfT} (hc : okT G re ex Y (lf + 1) c) : okT G re ex Y lf (nxT G Y lf c) ∧ (nxT G Y lf c).2.2.1 ≤ c.2.2.1 + 1 := by
  have hcc := hc
  obtain ⟨p, st, o, BP, BL, W, Q⟩ := c
  obtain ⟨c1, c2, c3, c4⟩ := hc
  simp only at c1 c2 c3 c4
  have hS := h.1
  obtain ⟨k0, k1, k2, k3, k4, k5⟩ := h.2.2.2.2 p c1
  have hown := (c2.2.2.1 (show p < 40 by omega)).2
  have hact := c2.2.2.2.1 (show p < 40 by omega)
  unfold nxT
  by_cases h3 : G 0 p 0 = 3
  · simp only [if_pos h3]
    by_cases he : G 5 (G 2 p 0) 0 < 40
    · obtain ⟨f1, f2, f3⟩ := call_ok h hr hY hl hcc h3 he
      have f2' : ptR G re ex (G 5 (G 2 p 0) 0) (st % 8) (fset Q (o + 1) (G 2 p 0) (o + 1)) := by rw [fset_at]; exact f2
      obtain ⟨g1, g2, g3, g4⟩ := pop_ok hY.1 (o + 1) _ _ f1 f2'
      rw [fset_at, f3] at g3
      exact ⟨⟨pt_stm (frT_low g2 f1) g1 g4 g3 hl1 (by omega), g1, frT_low g2 f1, g3⟩, g2⟩
    · have he40 : G 5 (G 2 p 0) 0 = 40 := by
        rcases h.2.2.2.1 _ (k2 h3) with z | z
        · exact z
        · omega
      obtain ⟨f2, f3⟩ := call_ok0 h hr hY hl hcc h3 he40
      have e : popT (fset BP (o + 1) (G 4 p 1)) (fset BL (o + 1) (8 * (st / 8))) (o + 1) (G 5 (G 2 p 0) 0) (st % 8) = popT BP BL o (G 4 p 1) st := by
        rw [he40]
        show (if (40 : Nat) = 40 then popT (fset BP (o + 1) (G 4 p 1)) (fset BL (o + 1) (8 * (st / 8))) o (fset BP (o + 1) (G 4 p 1) (o + 1)) (st % 8 % 8 + fset BL (o + 1) (8 * (st / 8)) (o + 1)) else (40, st % 8, o + 1)) = _
        rw [if_pos rfl, fset_at, fset_at, popT_fset _ _ _ (by omega), show st % 8 % 8 + 8 * (st / 8) = st by omega]
      rw [e]
      obtain ⟨g1, g2, g3, g4⟩ := pop_ok hY.1 o _ _ c3 f2
      rw [f3] at g3
      have fr := frT_low g2 (frT_fset (k := o + 1) (a := G 4 p 1) (b := 8 * (st / 8)) (d := G 2 p 0) (f := fun m => VP Y (W o) (G 4 p 1) (m + 8 * (st / 8))) (by omega) c3)
      have gq : fset Q (o + 1) (G 2 p 0) (popT BP BL o (G 4 p 1) st).2.2 = Q (popT BP BL o (G 4 p 1) st).2.2 := fset_ne (by omega)
      have gw : fset W (o + 1) (fun m => VP Y (W o) (G 4 p 1) (m + 8 * (st / 8))) (popT BP BL o (G 4 p 1) st).2.2 = W (popT BP BL o (G 4 p 1) st).2.2 := fset_ne (by omega)
      refine ⟨⟨pt_stm (frT_low g2 c3) g1 g4 g3 hl1 (by omega), ?_, fr, ?_⟩, by show _ ≤ o + 1; omega⟩
      · show ptR G re ex _ _ (fset Q (o + 1) (G 2 p 0) (popT BP BL o (G 4 p 1) st).2.2)
        rw [gq]; exact g1
      · show VP Y (fset W (o + 1) (fun m => VP Y (W o) (G 4 p 1) (m + 8 * (st / 8))) (popT BP BL o (G 4 p 1) st).2.2) _ _ = lf
        rw [gw]; exact g3
  · simp only [if_neg h3]
    obtain ⟨v1, v2, v3⟩ := vT_ok h hY hl hcc h3
    have hn := k5 _ v1
    have r1 := (hr.2 p c1).1 h3 _ st v1 hact v2
    have f2 : ptR G re ex (G 4 p (vT G Y lf (p, st, o, BP, BL, W, Q))) (sa G p (vT G Y lf (p, st, o, BP, BL, W, Q)) st) (Q o) := ⟨hn.1, sa_lt k1 c2.2.1, fun z => ⟨(hn.2.1 z).1, (hn.2.1 z).2.trans hown⟩, by rw [hown] at r1; exact r1⟩
    obtain ⟨g1, g2, g3, g4⟩ := pop_ok hY.1 o _ _ c3 f2
    have v3' : VP Y (W o) (G 4 p (vT G Y lf (p, st, o, BP, BL, W, Q))) (sa G p (vT G Y lf (p, st, o, BP, BL, W, Q)) st) = lf := v3
    rw [v3'] at g3
    exact ⟨⟨pt_stm (frT_low g2 c3) g1 g4 g3 hl1 (by omega), g1, frT_low g2 c3, g3⟩, by show _ ≤ o + 1; omega⟩
def cfT (G : Nat → Nat → Nat → Nat) (Y : Nat → Nat) (n : Nat) : Nat → CfT
  | 0 => (G 5 0 0, 0, 0, fun _ => 0, fun _ => 0, fun _ _ => 536870912, fun _ => 0)
  | k + 1 => nxT G Y (n - (k + 1)) (cfT G Y n k)
theorem cfT_ok {G : Nat → Nat → Nat → Nat} (h : okPg G) {re ex : Nat → Int32} (hr : isRe G re ex) {Y : Nat → Nat} (hY : isL (288 * G 7 0 0) (opA G allA) (fun _ => 536870912) Y) {n : Nat} (hn : n ≤ 2000) (h0 : G 5 0 0 < 40) (hv : Y (rI (G 5 0 0) 0 8) = n) : ∀ k, k < n → okT G re ex Y (n - k) (cfT G Y n k) ∧ (cfT G Y n k).2.2.1 ≤ k := by
  intro k
  induction k with
  | zero =>
    intro hk
    have hen : G 5 0 0 < G 7 0 0 ∧ G 6 (G 5 0 0) 0 = 0 := by
      rcases h.2.2.2.1 0 h.2.1 with z | z
      · omega
      · exact z
    refine ⟨⟨hen.1, ⟨by show G 5 0 0 ≤ 42; omega, by show 0 < 32; decide, fun _ => hen, fun _ => hr.1 h0, fun z => by have z' : G 5 0 0 = 40 := z; omega⟩, ⟨fun m hm => rfl, fun i h1 h2 => by have h2' : i ≤ 0 := h2; omega⟩, ?_⟩, Nat.le_refl _⟩
    show VP Y (fun _ => 536870912) (G 5 0 0) 0 = n - 0
    unfold VP
    rw [tgt_lt h0, hv]
    have : minN (fun m => sm (tgt Y (G 5 0 0) 0 m) 536870912) 8 = 536870912 := by
      apply eq_le
      intro c
      rw [le_minN]
      exact ⟨fun q => q.1, fun q => ⟨q, fun i _ => by rw [sm_infr]; exact q⟩⟩
    rw [this]
    omega
  | succ k ih =>
    intro hk
    obtain ⟨i1, i2⟩ := ih (by omega)
    rw [show n - k = (n - (k + 1)) + 1 by omega] at i1
    obtain ⟨s1, s2⟩ := step_ok h hr hY (by omega) (by omega) i1
    exact ⟨s1, by show (nxT G Y (n - (k + 1)) (cfT G Y n k)).2.2.1 ≤ k + 1; omega⟩
