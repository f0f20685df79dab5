/-! ===== pure rows 48: all steps of a program (class) ===== -/
def clSt (G : Nat → Nat → Nat → Nat) (act : Nat → Nat → Bool) (x : Nat → Nat) (s : Nat) : Prop := ∀ st col, st < 32 → col < 9 → act s st = true → x (rI s st col) ≤ der G x s st col
def sInv (G : Nat → Nat → Nat → Nat) (act : Nat → Nat → Bool) (x L K : Nat → Nat) (T : Nat) : Prop := (∀ t, t < G 7 0 0 → L t ≤ T ∧ K t ≤ T) ∧ ∀ s, s < G 7 0 0 → K s = 0 ∨ (∃ t, scs G s t ∧ K s ≤ L t) ∨ clSt G act x s
theorem sInv_look {G : Nat → Nat → Nat → Nat} (h : okPg G) {act : Nat → Nat → Bool} {x x2 L K : Nat → Nat} {T s : Nat} {b : Int32} (hs : s < G 7 0 0) (hi : sInv G act x L K T) (hl : lkOk G act s 0 x x2 0 b) : sInv G act x2 (fun t => if b = 0 then L t else if t = s then T + 1 else L t) (fun t => if t = s then T + 1 else K t) (T + 1) := by
  obtain ⟨u1, u2, u3, u4, u5, u6⟩ := hl
  obtain ⟨i1, i2⟩ := hi
  have same : b = 0 → ∀ j, j < 288 * G 7 0 0 → x2 j = x j := fun q => (u4.mp q).2
  have prog : ∀ st col, st < 32 → col < 9 → act s st = true → x2 (rI s st col) ≤ der G x s st col := fun st col q1 q2 q3 => u5 st col (Nat.zero_le _) q1 q2 q3
  refine ⟨fun t ht => ?_, fun s' hs' => ?_⟩
  · obtain ⟨l1, l2⟩ := i1 t ht
    refine ⟨?_, ?_⟩
    · show (if b = 0 then L t else if t = s then T + 1 else L t) ≤ T + 1
      by_cases q : b = 0
      · rw [if_pos q]; omega
      · rw [if_neg q]
        by_cases q2 : t = s
        · rw [if_pos q2]; omega
        · rw [if_neg q2]; omega
    · show (if t = s then T + 1 else K t) ≤ T + 1
      by_cases q2 : t = s
      · rw [if_pos q2]; omega
      · rw [if_neg q2]; omega
  · by_cases e : s' = s
    · subst e
      right
      by_cases q : b = 0
      · right
        intro st col q1 q2 q3
        have w := prog st col q1 q2 q3
        rw [der_dep h hs q1 q2 (fun j hj _ => (same q j hj).symm)] at w
        exact w
      · by_cases hself : scs G s' s'
        · left
          refine ⟨s', hself, ?_⟩
          show (if s' = s' then T + 1 else K s') ≤ if b = 0 then L s' else if s' = s' then T + 1 else L s'
          rw [if_pos rfl, if_neg q, if_pos rfl]; omega
        · right
          intro st col q1 q2 q3
          have w := prog st col q1 q2 q3
          rw [der_dep h hs q1 q2 (fun j hj hsc => (u2 j hj (fun z => hself (by rw [z] at hsc; exact hsc))).symm)] at w
          exact w
    · have hK : (fun t => if t = s then T + 1 else K t) s' = K s' := if_neg e
      rw [hK]
      have hL : ∀ t, L t ≤ if b = 0 then L t else if t = s then T + 1 else L t := by
        intro t
        by_cases q : b = 0
        · rw [if_pos q]; exact Nat.le_refl _
        · rw [if_neg q]
          by_cases q2 : t = s
          · rw [if_pos q2, q2]
            have := (i1 s hs).1; omega
          · rw [if_neg q2]; exact Nat.le_refl _
      rcases i2 s' hs' with z | ⟨t, z1, z2⟩ | z
      · exact Or.inl z
      · exact Or.inr (Or.inl ⟨t, z1, Nat.le_trans z2 (hL t)⟩)
      · right
        by_cases q : b = 0
        · right
          intro st col q1 q2 q3
          have w := z st col q1 q2 q3
          rw [← same q _ (rI_lt hs' q1 q2), der_dep h hs' q1 q2 (fun j hj _ => (same q j hj).symm)] at w
          exact w
        · by_cases hsc : scs G s' s
          · left
            refine ⟨s, hsc, ?_⟩
            show K s' ≤ if b = 0 then L s else if s = s then T + 1 else L s
            rw [if_neg q, if_pos rfl]
            have := (i1 s' hs').2; omega
          · right
            intro st col q1 q2 q3
            have w := z st col q1 q2 q3
            obtain ⟨e1, -, -⟩ := rI_inv (s := s') q1 q2
            rw [← u2 _ (rI_lt hs' q1 q2) (by rw [e1]; exact e), der_dep h hs' q1 q2 (fun j hj hq => (u2 j hj (fun y => hsc (by rw [y] at hq; exact hq))).symm)] at w
            exact w
/-- what a round does to the table -/
def rdOk (G : Nat → Nat → Nat → Nat) (act : Nat → Nat → Bool) (j0 : Nat) (x x2 : Nat → Nat) (f f2 : Int32) : Prop :=
  (∀ j, j < 288 * G 7 0 0 → x2 j ≤ x j) ∧ (f2 = 0 ∨ f2 = 1) ∧ (f2 = 0 ↔ f = 0 ∧ ∀ j, j < 288 * G 7 0 0 → x2 j = x j) ∧ (∀ s st col, s < j0 → st < 32 → col < 9 → act s st = true → x2 (rI s st col) ≤ der G x s st col) ∧
    ∀ y : Nat → Nat, (∀ j, j < 288 * G 7 0 0 → y j ≤ x j) → (∀ j, j < 288 * G 7 0 0 → y j ≤ opA G act y j) → ∀ j, j < 288 * G 7 0 0 → y j ≤ x2 j
theorem l85_l {G : Nat → Nat → Nat → Nat} {C : Nat → Nat → Int32} {value : Nat → Int64} (h : okPg G) (hc : cPg G C value) {pc yr : Int32} {re ex : Nat → Int32} (k62 : Int32 → Int32 → Int32 → (Nat → Int32) → (Nat → Int32) → (Nat → Int32) → (Nat → Int32) → (Nat → Int32) → Option (Int32 × (Nat → Int32) × (Nat → Int32) × (Nat → Int32) × (Nat → Int32) × (Nat → Int32))) :
    ∀ (j n : Nat) (f : Int32) (T : Nat) (x L K : Nat → Nat) (c lo lk : Nat → Int32), j ≤ G 7 0 0 → j < n → (f = 0 ∨ f = 1) → T + j < 2 ^ 29 → tbS (288 * G 7 0 0) x c → (∀ t, t < G 7 0 0 → lo t = nI (L t) ∧ lk t = nI (K t)) → sInv G (fun s st => bi (re s) st) x L K T →
      ∃ (b : Int32) (T2 : Nat) (x2 L2 K2 : Nat → Nat) (c2 lo2 lk2 : Nat → Int32), fX0_solve_l85 pc (nI (G 7 0 0)) (C 0) (C 1) (C 2) (C 3) (C 4) (C 5) value (C 6) k62 n f yr (nI j - 1) (nI T) re ex c lo lk = k62 b (yr + 1) (nI T2) re ex c2 lo2 lk2 ∧ T2 ≤ T + j ∧ tbS (288 * G 7 0 0) x2 c2 ∧ (∀ t, t < G 7 0 0 → lo2 t = nI (L2 t) ∧ lk2 t = nI (K2 t)) ∧ sInv G (fun s st => bi (re s) st) x2 L2 K2 T2 ∧ rdOk G (fun s st => bi (re s) st) j x x2 f b := by
  have hS := h.1
  intro j
  induction j with
  | zero =>
    intro n f T x L K c lo lk g1 g2 hf gT ht hr hi
    obtain ⟨n, rfl⟩ : ∃ z, n = z + 1 := ⟨n - 1, by omega⟩
    refine ⟨f, T, x, L, K, c, lo, lk, ?_, by omega, ht, hr, hi, fun _ _ => Nat.le_refl _, hf, ⟨fun q => ⟨q, fun _ _ => rfl⟩, fun q => q.1⟩, fun s st col q => by omega, fun y y1 _ => y1⟩
    show fX0_solve_b85 pc (nI (G 7 0 0)) (C 0) (C 1) (C 2) (C 3) (C 4) (C 5) value (C 6) k62 _ f yr (nI 0 - 1) (nI T) re ex c lo lk = _
    unfold fX0_solve_b85
    rw [if_pos (by decide), nm_q]
  | succ j ih =>
    intro n f T x L K c lo lk g1 g2 hf gT ht hr hi
    obtain ⟨n, rfl⟩ : ∃ z, n = z + 1 := ⟨n - 1, by omega⟩
    have hj : j < G 7 0 0 := by omega
    obtain ⟨b0, s1, s2⟩ := c_isStale h hc hj (L := L) (K := K) (lo := lo) (lk := lk) (fun t ht => ⟨(hr t ht).1, by have := (hi.1 t ht).1; omega⟩) (fun t ht => ⟨(hr t ht).2, by have := (hi.1 t ht).2; omega⟩)
    show ∃ (b : Int32) (T2 : Nat) (x2 L2 K2 : Nat → Nat) (c2 lo2 lk2 : Nat → Int32), fX0_solve_b85 pc (nI (G 7 0 0)) (C 0) (C 1) (C 2) (C 3) (C 4) (C 5) value (C 6) k62 (fX0_solve_l85 pc (nI (G 7 0 0)) (C 0) (C 1) (C 2) (C 3) (C 4) (C 5) value (C 6) k62 n) f yr (nI (j + 1) - 1) (nI T) re ex c lo lk = _ ∧ _
    unfold fX0_solve_b85 fX0_solve_p113 fX0_solve_p114
    rw [nI_pred, if_neg (nI_pos (by omega)), s1, ob_s]
    have f0 : (f ||| 0) = f := by rcases hf with z | z <;> rw [z] <;> decide
    have f1 : (f ||| 1) = 1 := by rcases hf with z | z <;> rw [z] <;> decide
    by_cases hb0 : b0 = 0
    · -- nothing new behind it: its rows stand
      obtain ⟨w1, w2⟩ := s2 hb0
      have hcl : clSt G (fun s st => bi (re s) st) x j := by
        rcases hi.2 j hj with z | ⟨t, z1, z2⟩ | z
        · exact absurd z w1
        · have := w2 t z1; omega
        · exact z
      rw [if_pos hb0, nm_q, nm_q, m1_eq, f0]
      obtain ⟨b, T2, x2, L2, K2, c2, lo2, lk2, r1, r2, r3, r4, r5, u1, u2, u3, u4, u5⟩ := ih n f T x L K c lo lk (by omega) (by omega) hf (by omega) ht hr hi
      refine ⟨b, T2, x2, L2, K2, c2, lo2, lk2, r1, by omega, r3, r4, r5, u1, u2, u3, fun s st col q1 q2 q3 q4 => ?_, u5⟩
      by_cases e : s = j
      · subst e
        exact Nat.le_trans (u1 _ (rI_lt hj q2 q3)) (hcl st col q2 q3 q4)
      · exact u4 s st col (by omega) q2 q3 q4
    · obtain ⟨b1, x1, d1, l1, l2, l3⟩ := c_look h hc hj (re := re) (T := T) (looked := lk) (lowered := lo) ht
      have hi2 := sInv_look h hj hi l3
      have hr2 : ∀ t, t < G 7 0 0 → (if b1 = 0 then lo else upd lo j (nI (T + 1))) t = nI ((fun t => if b1 = 0 then L t else if t = j then T + 1 else L t) t) ∧ upd lk j (nI (T + 1)) t = nI ((fun t => if t = j then T + 1 else K t) t) := by
        intro t ht2
        obtain ⟨q1, q2⟩ := hr t ht2
        refine ⟨?_, ?_⟩
        · by_cases z : b1 = 0
          · rw [if_pos z]
            show lo t = nI (if b1 = 0 then L t else _)
            rw [if_pos z]; exact q1
          · rw [if_neg z]
            show upd lo j (nI (T + 1)) t = nI (if b1 = 0 then L t else if t = j then T + 1 else L t)
            rw [if_neg z]
            by_cases e : t = j
            · rw [e, upd_at, if_pos rfl]
            · rw [upd_ne e, if_neg e]; exact q1
        · show upd lk j (nI (T + 1)) t = nI (if t = j then T + 1 else K t)
          by_cases e : t = j
          · rw [e, upd_at, if_pos rfl]
          · rw [upd_ne e, if_neg e]; exact q2
      obtain ⟨v1, v2, v3, v4, v5, v6⟩ := l3
      -- the flag so far, or'ed with this look's
      have go : ∀ f' : Int32, (f' = 0 ∨ f' = 1) → (f' = 0 ↔ f = 0 ∧ b1 = 0) → ∃ (b : Int32) (T2 : Nat) (x2 L2 K2 : Nat → Nat) (c2 lo2 lk2 : Nat → Int32), fX0_solve_l85 pc (nI (G 7 0 0)) (C 0) (C 1) (C 2) (C 3) (C 4) (C 5) value (C 6) k62 n f' yr (nI j - 1) (nI (T + 1)) re ex d1 (if b1 = 0 then lo else upd lo j (nI (T + 1))) (upd lk j (nI (T + 1))) = k62 b (yr + 1) (nI T2) re ex c2 lo2 lk2 ∧ T2 ≤ T + (j + 1) ∧ tbS (288 * G 7 0 0) x2 c2 ∧ (∀ t, t < G 7 0 0 → lo2 t = nI (L2 t) ∧ lk2 t = nI (K2 t)) ∧ sInv G (fun s st => bi (re s) st) x2 L2 K2 T2 ∧ rdOk G (fun s st => bi (re s) st) (j + 1) x x2 f b := by
        intro f' hf' hfe
        obtain ⟨b, T2, x2, L2, K2, c2, lo2, lk2, r1, r2, r3, r4, r5, u1, u2, u3, u4, u5⟩ := ih n f' (T + 1) x1 _ _ d1 _ _ (by omega) (by omega) hf' (by omega) l2 hr2 hi2
        refine ⟨b, T2, x2, L2, K2, c2, lo2, lk2, r1, by omega, r3, r4, r5, fun i hi3 => Nat.le_trans (u1 i hi3) (v1 i hi3), u2, ⟨fun q => ?_, fun q => ?_⟩, fun s st col q1 q2 q3 q4 => ?_, fun y y1 y2 => u5 y (v6 y y1 y2) y2⟩
        · obtain ⟨w1, w2⟩ := u3.mp q
          obtain ⟨w3, w4⟩ := hfe.mp w1
          exact ⟨w3, fun i hi3 => (w2 i hi3).trans ((v4.mp w4).2 i hi3)⟩
        · have e : ∀ i, i < 288 * G 7 0 0 → x1 i = x i := fun i hi3 => Nat.le_antisymm (v1 i hi3) (by rw [← q.2 i hi3]; exact u1 i hi3)
          exact u3.mpr ⟨hfe.mpr ⟨q.1, v4.mpr ⟨rfl, e⟩⟩, fun i hi3 => (q.2 i hi3).trans (e i hi3).symm⟩
        · by_cases e : s = j
          · subst e
            exact Nat.le_trans (u1 _ (rI_lt hj q2 q3)) (v5 st col (Nat.zero_le _) q2 q3 q4)
          · exact Nat.le_trans (u4 s st col (by omega) q2 q3 q4) (der_mono h v1 (by omega) q2 q3)
      rw [if_neg hb0, l1, ob_s]
      by_cases hb1 : b1 = 0
      · rw [if_pos hb1, nm_q, nm_q, m1_eq, f0]
        exact go f hf ⟨fun q => ⟨q, hb1⟩, fun q => q.1⟩
      · rw [if_neg hb1, nm_q, nm_q, m1_eq, f1]
        exact go 1 (Or.inr rfl) ⟨fun q => absurd q n10, fun q => absurd q.2 hb1⟩
theorem c_solve {G : Nat → Nat → Nat → Nat} {C : Nat → Nat → Int32} {value : Nat → Int64} (h : okPg G) (hc : cPg G C value) (lks : Int32) (re0 ex0 c0 lo0 lk0 : Nat → Int32) :
    Wq (fX0_solve lks re0 ex0 (nI (G 8 0 0)) (nI (G 7 0 0)) (C 0) (C 1) (C 2) (C 3) (C 4) (C 5) value (C 6) c0 lo0 lk0) (fun r => isRe G r.2.1 r.2.2.1 ∧ ∃ x, tbS (288 * G 7 0 0) x r.2.2.2.1 ∧ isL (288 * G 7 0 0) (opA G (fun s st => bi (r.2.1 s) st)) (fun _ => 536870912) x) := by
  obtain ⟨fu, hfu, hg⟩ := fu_any
  have hS := h.1
  unfold fX0_solve
  refine Wq_ob (c_reachAll h hc re0 ex0) (fun o ho => ?_)
  obtain ⟨re, ex⟩ := o
  simp only at ho
  have er : fX0_row (nI (G 7 0 0)) 0 = some (nI (288 * G 7 0 0), ()) := by
    have := e0_row (G 7 0 0) 0
    rw [show rI (G 7 0 0) 0 0 = 288 * G 7 0 0 by unfold rI; omega] at this
    exact this
  rw [er, ob_s, hfu]
  obtain ⟨D, hD⟩ := ex_L (N := 288 * G 7 0 0) (opA_ok h (fun s st => bi (re s) st)) (y0 := fun _ => 536870912) (fun j _ => Or.inr rfl)
  have rounds : ∀ (c lo lk : Nat → Int32), (∀ j, j < 288 * G 7 0 0 → c j = 536870912) → (∀ t, t < 40 → lo t = 0 ∧ lk t = 0) → Wq (fX0_solve_l62 (nI (G 8 0 0)) (nI (G 7 0 0)) (C 0) (C 1) (C 2) (C 3) (C 4) (C 5) value (C 6) fu 1 0 0 re ex c lo lk) (fun r => isRe G r.2.1 r.2.2.1 ∧ ∃ x, tbS (288 * G 7 0 0) x r.2.2.2.1 ∧ isL (288 * G 7 0 0) (opA G (fun s st => bi (r.2.1 s) st)) (fun _ => 536870912) x) := by
    intro c lo lk hc0 hl0
    refine Wq_wh (F := fun n (s : Int32 × Int32 × Int32 × (Nat → Int32) × (Nat → Int32) × (Nat → Int32) × (Nat → Int32) × (Nat → Int32)) => fX0_solve_l62 (nI (G 8 0 0)) (nI (G 7 0 0)) (C 0) (C 1) (C 2) (C 3) (C 4) (C 5) value (C 6) n s.1 s.2.1 s.2.2.1 s.2.2.2.1 s.2.2.2.2.1 s.2.2.2.2.2.1 s.2.2.2.2.2.2.1 s.2.2.2.2.2.2.2)
      (B := fun k s => fX0_solve_b62 (nI (G 8 0 0)) (nI (G 7 0 0)) (C 0) (C 1) (C 2) (C 3) (C 4) (C 5) value (C 6) (fun a b c d e f g i => k (a, b, c, d, e, f, g, i)) s.1 s.2.1 s.2.2.1 s.2.2.2.1 s.2.2.2.2.1 s.2.2.2.2.2.1 s.2.2.2.2.2.2.1 s.2.2.2.2.2.2.2) (fun _ _ => rfl)
      (fun m s => s.2.2.2.1 = re ∧ s.2.2.2.2.1 = ex ∧ ∃ (x L K : Nat → Nat) (z T : Nat), tbS (288 * G 7 0 0) x s.2.2.2.2.2.1 ∧ (∀ t, t < G 7 0 0 → s.2.2.2.2.2.2.1 t = nI (L t) ∧ s.2.2.2.2.2.2.2 t = nI (K t)) ∧ sInv G (fun s st => bi (re s) st) x L K T ∧ s.2.1 = nI z ∧ s.2.2.1 = nI T ∧ T ≤ 40 * z ∧ z + m ≤ 11530 ∧ (s.1 = 0 ∨ s.1 = 1) ∧ (∀ y : Nat → Nat, (∀ j, j < 288 * G 7 0 0 → y j ≤ 536870912) → (∀ j, j < 288 * G 7 0 0 → y j ≤ opA G (fun s st => bi (re s) st) y j) → ∀ j, j < 288 * G 7 0 0 → y j ≤ x j) ∧ (s.1 = 0 → ∀ s, s < G 7 0 0 → clSt G (fun s st => bi (re s) st) x s) ∧ (s.1 ≠ 0 → 288 * G 7 0 0 - cntN (288 * G 7 0 0) D x + 1 ≤ m)) ?_ fu 11521 (1, 0, 0, re, ex, c, lo, lk) (by omega) ?_
    · rintro m ⟨f, yr, lks', re', ex', c', lo', lk'⟩ k ⟨e1, e2, x, L, K, z, T, q1, q2, q3, q4, q5, q6, q7, q8, q9, q10, q11⟩ ih
      simp only at e1 e2 q1 q2 q4 q5 q8 q10 q11
      subst e1 e2 q4 q5
      show Wq (fX0_solve_b62 (nI (G 8 0 0)) (nI (G 7 0 0)) (C 0) (C 1) (C 2) (C 3) (C 4) (C 5) value (C 6) (fun a b c d e f g i => k (a, b, c, d, e, f, g, i)) f (nI z) (nI T) re' ex' c' lo' lk') _
      unfold fX0_solve_b62
      have hz2 : ¬ (1000000 : Int32) ≤ nI z := nI_ge (a := z) (b := 1000000) (by omega) (by decide)
      rw [if_neg hz2]
      have opIn : ∀ j, j < 288 * G 7 0 0 → ∀ x : Nat → Nat, (∀ s, s < G 7 0 0 → clSt G (fun s st => bi (re' s) st) x s) → x j ≤ 536870912 → x j ≤ opA G (fun s st => bi (re' s) st) x j := by
        intro j hj x hcl hle
        unfold opA
        by_cases ha : bi (re' (j / 288)) (j / 9 % 32) = true
        · rw [if_pos ha]
          have := hcl (j / 288) (by omega) (j / 9 % 32) (j % 9) (by omega) (by omega) ha
          rw [rI_at] at this
          exact this
        · rw [if_neg ha]; exact hle
      refine Wq_if (fun f0 => ?_) (fun f0 => ?_)
      · refine Wq_some ⟨ho, x, q1, ?_⟩
        show isL (288 * G 7 0 0) (opA G (fun s st => bi (re' s) st)) (fun _ => 536870912) x
        have hxv : ∀ j, j < 288 * G 7 0 0 → x j ≤ 536870912 := fun j hj => vl_lt (q1 j hj).2
        have hcl : ∀ j, j < 288 * G 7 0 0 → x j ≤ opA G (fun s st => bi (re' s) st) x j := fun j hj => opIn j hj x (q10 f0) (hxv j hj)
        have hxD : ∀ j, j < 288 * G 7 0 0 → x j = D j := isL_eq hD hxv hcl (q9 D hD.2.1 hD.2.2.1)
        have hop : ∀ j, j < 288 * G 7 0 0 → opA G (fun s st => bi (re' s) st) x j = opA G (fun s st => bi (re' s) st) D j := fun j hj => Nat.le_antisymm ((opA_ok h _).2.1 x D (fun i hi => Nat.le_of_eq (hxD i hi)) j hj) ((opA_ok h _).2.1 D x (fun i hi => Nat.le_of_eq (hxD i hi).symm) j hj)
        exact ⟨fun j hj => (q1 j hj).2, hxv, hcl, fun j hj hlt => by rw [hop j hj, hxD j hj]; exact hD.2.2.2.1 j hj (by rw [← hxD j hj]; exact hlt), q9⟩
      · obtain ⟨b, T2, x2, L2, K2, c2, lo2, lk2, r1, r2, r3, r4, r5, u1, u2, u3, u4, u5⟩ := l85_l h hc (pc := nI (G 8 0 0)) (yr := nI z) (re := re') (ex := ex') (fun a b c d e f g i => k (a, b, c, d, e, f, g, i)) (G 7 0 0) fu 0 T x L K c' lo' lk' (Nat.le_refl _) (by omega) (Or.inl rfl) (by omega) q1 q2 q3
        have hm := q11 f0
        rw [nm_q, hfu]
        have r1' : fX0_solve_l85 (nI (G 8 0 0)) (nI (G 7 0 0)) (C 0) (C 1) (C 2) (C 3) (C 4) (C 5) value (C 6) (fun a b c d e f g i => k (a, b, c, d, e, f, g, i)) fu 0 (nI z) (nI (G 7 0 0) - 1) (nI T) re' ex' c' lo' lk' = k (b, nI z + 1, nI T2, re', ex', c2, lo2, lk2) := r1
        rw [r1', nI_1]
        have hD2 : ∀ j, j < 288 * G 7 0 0 → D j ≤ x2 j := u5 D (q9 D hD.2.1 hD.2.2.1) hD.2.2.1
        refine ih (m - 1) _ (by omega) ⟨rfl, rfl, x2, L2, K2, z + 1, T2, r3, r4, r5, rfl, rfl, by omega, by omega, u2, fun y y1 y2 => u5 y (q9 y y1 y2) y2, fun b0 s hs st col w1 w2 w3 => ?_, fun b0 => ?_⟩
        · have same := (u3.mp b0).2
          have w := u4 s st col hs w1 w2 w3
          rw [der_dep h hs w1 w2 (fun j hj _ => (same j hj).symm)] at w
          exact w
        · have hlow : ∃ j, j < 288 * G 7 0 0 ∧ x2 j < x j := by
            apply Classical.byContradiction
            intro hn
            exact b0 (u3.mpr ⟨rfl, fun j hj => Nat.le_antisymm (u1 j hj) (Nat.not_lt.mp (fun w => hn ⟨j, hj, w⟩))⟩)
          have hgr := growL (opA_ok h (fun s st => bi (re' s) st)) hD (fun j hj => (q1 j hj).2) (fun j hj => (r3 j hj).2) hD2 u1 (fun j hj => vl_lt (q1 j hj).2) (fun j hj => ?_) hlow
          · have := cntN_lt hD2 u1 hgr
            have := cntN_le (288 * G 7 0 0) D x2
            show 288 * G 7 0 0 - cntN (288 * G 7 0 0) D x2 + 1 ≤ m - 1
            omega
          · unfold opA
            by_cases ha : bi (re' (j / 288)) (j / 9 % 32) = true
            · rw [if_pos ha]
              have := u4 (j / 288) (j / 9 % 32) (j % 9) (by omega) (by omega) (by omega) ha
              rw [rI_at] at this
              exact this
            · rw [if_neg ha]; exact vl_lt (r3 j hj).2
    · have hcn := cntN_le (288 * G 7 0 0) D (fun _ => 536870912)
      refine ⟨rfl, rfl, fun _ => 536870912, fun _ => 0, fun _ => 0, 0, 0, fun j hj => ⟨hc0 j hj, Or.inr rfl⟩, fun t ht => hl0 t (by omega), ⟨fun t ht => ⟨Nat.le_refl _, Nat.le_refl _⟩, fun s hs => Or.inl rfl⟩, rfl, rfl, by omega, by omega, Or.inr rfl, fun y y1 _ => y1, fun z => absurd z n10, fun _ => by omega⟩
  have fillC : ∀ (k i n : Nat) (c : Nat → Int32), i + k = 288 * G 7 0 0 → k < n → (∀ j, j < i → c j = 536870912) → Wq (fX0_solve_l18 (nI (G 8 0 0)) (nI (G 7 0 0)) (C 0) (C 1) (C 2) (C 3) (C 4) (C 5) value (C 6) n (nI (288 * G 7 0 0)) (nI i) lks re ex c lo0 lk0) (fun r => isRe G r.2.1 r.2.2.1 ∧ ∃ x, tbS (288 * G 7 0 0) x r.2.2.2.1 ∧ isL (288 * G 7 0 0) (opA G (fun s st => bi (r.2.1 s) st)) (fun _ => 536870912) x) := by
    intro k
    induction k with
    | zero =>
      intro i n c g1 g2 hc0
      obtain ⟨n, rfl⟩ : ∃ z, n = z + 1 := ⟨n - 1, by omega⟩
      show Wq (fX0_solve_b18 (nI (G 8 0 0)) (nI (G 7 0 0)) (C 0) (C 1) (C 2) (C 3) (C 4) (C 5) value (C 6) _ (nI (288 * G 7 0 0)) (nI i) lks re ex c lo0 lk0) _
      obtain ⟨d1, e1, h1⟩ := e_fill (N := 40) (by decide) 0 lo0
      obtain ⟨d2, e2, h2⟩ := e_fill (N := 40) (by decide) 0 lk0
      unfold fX0_solve_b18
      rw [if_pos (nI_le (by omega) (by omega)), e1, ob_s, e2, ob_s, hfu]
      exact rounds c d1 d2 (fun j hj => hc0 j (by omega)) (fun t ht => ⟨by rw [h1, if_pos ht], by rw [h2, if_pos ht]⟩)
    | succ k ih =>
      intro i n c g1 g2 hc0
      obtain ⟨n, rfl⟩ : ∃ z, n = z + 1 := ⟨n - 1, by omega⟩
      show Wq (fX0_solve_b18 (nI (G 8 0 0)) (nI (G 7 0 0)) (C 0) (C 1) (C 2) (C 3) (C 4) (C 5) value (C 6) _ (nI (288 * G 7 0 0)) (nI i) lks re ex c lo0 lk0) _
      unfold fX0_solve_b18
      rw [if_neg (nI_ge (by omega) (by omega)), bd_eq _ (inb_nI (j := i) (n := 11520) (by omega) (by decide)), nm_q, nI_clamp (n := i) (by omega), nm_q, nI_1]
      refine ih (i + 1) n _ (by omega) (by omega) (fun j hj => ?_)
      by_cases e : j = i
      · rw [e, upd_at]
      · rw [upd_ne e]; exact hc0 j (by omega)
  exact fillC (288 * G 7 0 0) 0 fu c0 (by omega) (by omega) (fun j hj => absurd hj (by omega))
