/-! ===== pure rows 47: a look at a statement (class) ===== -/
def lkOk (G : Nat → Nat → Nat → Nat) (act : Nat → Nat → Bool) (s i : Nat) (x x2 : Nat → Nat) (f f2 : Int32) : Prop :=
  (∀ j, j < 288 * G 7 0 0 → x2 j ≤ x j) ∧ (∀ j, j < 288 * G 7 0 0 → j / 288 ≠ s → x2 j = x j) ∧ (f2 = 0 ∨ f2 = 1) ∧ (f2 = 0 ↔ f = 0 ∧ ∀ j, j < 288 * G 7 0 0 → x2 j = x j) ∧ (∀ st col, i ≤ st → st < 32 → col < 9 → act s st = true → x2 (rI s st col) ≤ der G x s st col) ∧
    ∀ y : Nat → Nat, (∀ j, j < 288 * G 7 0 0 → y j ≤ x j) → (∀ j, j < 288 * G 7 0 0 → y j ≤ opA G act y j) → ∀ j, j < 288 * G 7 0 0 → y j ≤ x2 j
theorem opA_at {G : Nat → Nat → Nat → Nat} {act : Nat → Nat → Bool} {x : Nat → Nat} {s st col : Nat} (hst : st < 32) (hcol : col < 9) (ha : act s st = true) : opA G act x (rI s st col) = der G x s st col := by
  obtain ⟨e1, e2, e3⟩ := rI_inv (s := s) hst hcol
  unfold opA
  rw [e1, e2, e3, if_pos ha]
theorem c_look {G : Nat → Nat → Nat → Nat} {C : Nat → Nat → Int32} {value : Nat → Int64} (h : okPg G) (hc : cPg G C value) {s : Nat} (hs : s < G 7 0 0) {re : Nat → Int32} {T : Nat} {looked lowered : Nat → Int32} {x : Nat → Nat} {c : Nat → Int32} (ht : tbS (288 * G 7 0 0) x c) :
    ∃ (b : Int32) (x2 : Nat → Nat) (d : Nat → Int32), fX0_lookAt (nI s) (nI T) looked (C 1) re (C 3) (C 4) (C 2) (C 0) c value (C 6) lowered = some (b, nI (T + 1), upd looked s (nI (T + 1)), d, if b = 0 then lowered else upd lowered s (nI (T + 1))) ∧ tbS (288 * G 7 0 0) x2 d ∧ lkOk G (fun s st => bi (re s) st) s 0 x x2 0 b := by
  obtain ⟨fu, hfu, hg⟩ := fu_any
  have hS := h.1
  obtain ⟨k0, k1, k2, k3, k4, k5⟩ := h.2.2.2.2 s hs
  obtain ⟨c0, c1, c2', c3, c4, c5, c6⟩ := hc.2 s hs
  have bs := inb_nI (j := s) (n := 40) (by omega) (by decide)
  have ks := nI_clamp (n := s) (by omega)
  have z3 : nI (G 0 s 0) = 3 ↔ G 0 s 0 = 3 := nI_eq (a := G 0 s 0) (b := 3) (by omega) (by decide)
  have bzb : ∀ b : Int32, (b = 0 ∨ b = 1) → bz b = true := fun b h => by rcases h with rfl | rfl <;> rfl
  have loop : ∀ (ic : Int32), (ic = 0 ↔ ¬ G 0 s 0 = 3) → ∀ (k i n : Nat) (f : Int32) (x : Nat → Nat) (c : Nat → Int32), i + k = 32 → k < n → (f = 0 ∨ f = 1) → tbS (288 * G 7 0 0) x c →
      ∃ (b : Int32) (x2 : Nat → Nat) (d : Nat → Int32), fX0_lookAt_l44 (C 1) re (C 3) (C 4) (C 2) (C 0) value (C 6) n (nI s) ic f (nI i) (nI (T + 1)) (upd looked s (nI (T + 1))) c lowered = some (b, nI (T + 1), upd looked s (nI (T + 1)), d, if b = 0 then lowered else upd lowered s (nI (T + 1))) ∧ tbS (288 * G 7 0 0) x2 d ∧ lkOk G (fun s st => bi (re s) st) s i x x2 f b := by
    intro ic hic k
    induction k with
    | zero =>
      intro i n f x c g1 g2 hf ht
      obtain ⟨n, rfl⟩ : ∃ z, n = z + 1 := ⟨n - 1, by omega⟩
      refine ⟨f, x, c, ?_, ht, fun _ _ => Nat.le_refl _, fun _ _ _ => rfl, hf, ⟨fun h => ⟨h, fun _ _ => rfl⟩, fun h => h.1⟩, fun st col q1 q2 => by omega, fun y y1 _ => y1⟩
      show fX0_lookAt_b44 (C 1) re (C 3) (C 4) (C 2) (C 0) value (C 6) _ (nI s) ic f (nI i) (nI (T + 1)) (upd looked s (nI (T + 1))) c lowered = _
      unfold fX0_lookAt_b44 fX0_lookAt_p109
      have h32 : (32 : Int32) ≤ nI i := nI_le (a := 32) (b := i) (by omega) (by omega)
      rw [if_pos h32]
      by_cases h0 : f = 0
      · rw [if_pos h0, bd_eq _ (bzb f hf), if_pos h0]
      · rw [if_neg h0, bd_eq _ bs, nm_q, ks, bd_eq _ (bzb f hf), if_neg h0]
    | succ k ih =>
      intro i n f x c g1 g2 hf ht
      obtain ⟨n, rfl⟩ : ∃ z, n = z + 1 := ⟨n - 1, by omega⟩
      have h32 : ¬ (32 : Int32) ≤ nI i := nI_ge (a := i) (b := 32) (by omega) (by omega)
      have hb := bi_sh (re s) (k := i) (by omega)
      have hr : rI s i 0 + 9 ≤ 288 * G 7 0 0 := by unfold rI; omega
      have go : ∀ (b1 : Int32) (x1 : Nat → Nat) (c1 : Nat → Int32), bi (re s) i = true → tbS (288 * G 7 0 0) x1 c1 → rowOk (288 * G 7 0 0) (rI s i 0) x x1 0 b1 (fun z col => der G z s i col) →
          ∃ (b : Int32) (x2 : Nat → Nat) (d : Nat → Int32), fX0_lookAt_l44 (C 1) re (C 3) (C 4) (C 2) (C 0) value (C 6) n (nI s) ic (f ||| b1) (nI (i + 1)) (nI (T + 1)) (upd looked s (nI (T + 1))) c1 lowered = some (b, nI (T + 1), upd looked s (nI (T + 1)), d, if b = 0 then lowered else upd lowered s (nI (T + 1))) ∧ tbS (288 * G 7 0 0) x2 d ∧ lkOk G (fun s st => bi (re s) st) s i x x2 f b := by
        intro b1 x1 c1 hact ht1 hrow
        obtain ⟨a1, a2, a3, a4, a5, a6⟩ := rowOk_or hf hrow
        obtain ⟨b, x2, d, r1, r2, u1, u2, u3, u4, u5, u6⟩ := ih (i + 1) n (f ||| b1) x1 c1 (by omega) (by omega) a3 ht1
        refine ⟨b, x2, d, r1, r2, fun j hj => Nat.le_trans (u1 j hj) (a1 j hj), fun j hj hne => (u2 j hj hne).trans (a2 j hj ?_), u3, ⟨fun q => ?_, fun q => ?_⟩, fun st col q1 q2 q3 q4 => ?_, fun y y1 y2 => u6 y (a6 y y1 (fun col hcol => ?_)) y2⟩
        · unfold rI; omega
        · obtain ⟨w1, w2⟩ := u4.mp q
          obtain ⟨w3, w4⟩ := a4.mp w1
          exact ⟨w3, fun j hj => (w2 j hj).trans (w4 j hj)⟩
        · have e : ∀ j, j < 288 * G 7 0 0 → x1 j = x j := fun j hj => Nat.le_antisymm (a1 j hj) (by rw [← q.2 j hj]; exact u1 j hj)
          exact u4.mpr ⟨a4.mpr ⟨q.1, e⟩, fun j hj => (q.2 j hj).trans (e j hj).symm⟩
        · by_cases e : st = i
          · subst e
            have w := a5 col q3
            rw [rI_col]
            exact Nat.le_trans (u1 _ (by omega)) w
          · exact Nat.le_trans (u5 st col (by omega) q2 q3 q4) (der_mono h a1 hs q2 q3)
        · have w := y2 (rI s i 0 + col) (by omega)
          rw [← rI_col, opA_at (act := fun s st => bi (re s) st) (by omega) hcol hact] at w
          rw [← rI_col]
          exact w
      show ∃ (b : Int32) (x2 : Nat → Nat) (d : Nat → Int32), fX0_lookAt_b44 (C 1) re (C 3) (C 4) (C 2) (C 0) value (C 6) (fX0_lookAt_l44 (C 1) re (C 3) (C 4) (C 2) (C 0) value (C 6) n) (nI s) ic f (nI i) (nI (T + 1)) (upd looked s (nI (T + 1))) c lowered = _ ∧ _
      unfold fX0_lookAt_b44 fX0_lookAt_p87 fX0_lookAt_p89
      rw [if_neg h32, bd_eq _ bs, nm_q, ks, nm_q, nm_q]
      by_cases h0 : (((re s).toUInt32 >>> ((nI i).toUInt32 &&& Int32.toUInt32 31)).toInt32 &&& 1) = 0
      · rw [if_pos h0, nm_q, nI_1]
        obtain ⟨b, x2, d, r1, r2, u1, u2, u3, u4, u5, u6⟩ := ih (i + 1) n f x c (by omega) (by omega) hf ht
        refine ⟨b, x2, d, r1, r2, u1, u2, u3, u4, fun st col q1 q2 q3 q4 => ?_, u6⟩
        by_cases e : st = i
        · have q4' : bi (re s) st = true := q4
          rw [e, hb.mp h0] at q4'; cases q4'
        · exact u5 st col (by omega) q2 q3 q4
      · have hact : bi (re s) i = true := by
          cases hq : bi (re s) i with
          | true => rfl
          | false => exact absurd (hb.mpr hq) h0
        rw [if_neg h0]
        by_cases h3 : G 0 s 0 = 3
        · have n0 : ¬ ic = 0 := fun z => hic.mp z h3
          obtain ⟨b1, x1, d1, r1, r2, r3⟩ := c_byCall h hc hs (show i < 32 by omega) h3 ht
          rw [if_neg n0, r1, ob_s, nm_q, nm_q, nI_1]
          exact go b1 x1 d1 hact r2 r3
        · obtain ⟨b1, x1, d1, r1, r2, r3⟩ := c_byStep h hc hs (show i < 32 by omega) h3 ht
          rw [if_pos (hic.mpr h3), r1, ob_s, nm_q, nm_q, nI_1]
          exact go b1 x1 d1 hact r2 r3
  unfold fX0_lookAt fX0_lookAt_p38
  rw [nm_q, nI_1, bd_eq _ bs, nm_q, ks, bd_eq _ bs, nm_q, c0, hfu]
  by_cases h3 : G 0 s 0 = 3
  · rw [if_pos (z3.mpr h3)]
    exact loop 1 ⟨fun z => absurd z n10, fun z => absurd h3 z⟩ 32 0 fu 0 x c (by omega) (by omega) (Or.inl rfl) ht
  · rw [if_neg (fun z => h3 (z3.mp z))]
    exact loop 0 ⟨fun _ => h3, fun _ => rfl⟩ 32 0 fu 0 x c (by omega) (by omega) (Or.inl rfl) ht
/-! stale or not -/
def scs (G : Nat → Nat → Nat → Nat) (s t : Nat) : Prop := t < G 7 0 0 ∧ (t = G 4 s 0 ∨ t = G 4 s 1 ∨ (G 0 s 0 = 3 ∧ t = G 5 (G 2 s 0) 0))
theorem der_dep {G : Nat → Nat → Nat → Nat} (h : okPg G) {x y : Nat → Nat} {s st col : Nat} (hs : s < G 7 0 0) (hst : st < 32) (hcol : col < 9) (hd : ∀ j, j < 288 * G 7 0 0 → scs G s (j / 288) → x j = y j) : der G x s st col = der G y s st col := by
  obtain ⟨k0, k1, k2, k3, k4, k5⟩ := h.2.2.2.2 s hs
  have tg : ∀ p st' col', (p < 40 → scs G s p) → st' < 32 → col' < 9 → tgt x p st' col' = tgt y p st' col' := by
    intro p st' col' hp h1 h2
    by_cases q : p < 40
    · rw [tgt_lt q, tgt_lt q]
      have := hp q
      obtain ⟨e1, e2, e3⟩ := rI_inv (s := p) h1 h2
      exact hd _ (rI_lt this.1 h1 h2) (by rw [e1]; exact this)
    · unfold tgt
      rw [if_neg q, if_neg q]
  have hn : ∀ v, v < 2 → G 4 s v < 40 → scs G s (G 4 s v) := by
    intro v hv q
    refine ⟨((k5 v hv).2.1 q).1, ?_⟩
    have : v = 0 ∨ v = 1 := by omega
    rcases this with rfl | rfl
    · exact Or.inl rfl
    · exact Or.inr (Or.inl rfl)
  unfold der
  by_cases h3 : G 0 s 0 = 3
  · rw [if_pos h3, if_pos h3]
    have he : G 5 (G 2 s 0) 0 < 40 → scs G s (G 5 (G 2 s 0) 0) := fun q => ⟨en_ok h hs h3 q, Or.inr (Or.inr ⟨h3, rfl⟩)⟩
    rw [minN_congr 8 (fun m hm => by rw [tg _ _ _ he (by omega) (by omega), tg _ _ _ (hn 1 (by decide)) (by omega) hcol]), tg _ _ 8 he (by omega) (by decide)]
  · rw [if_neg h3, if_neg h3]
    rw [minN_congr 2 (fun v hv => by rw [tg _ _ _ (hn v hv) (sa_lt k1 hst) hcol])]
theorem e_isNewer {p s : Nat} (hp : p ≤ 42) (hs : s < 40) {L K : Nat → Nat} {lo lk : Nat → Int32} (hlo : p < 40 → lo p = nI (L p) ∧ L p < 2 ^ 30) (hlk : lk s = nI (K s) ∧ K s < 2 ^ 30) : fX0_isNewer (pI p) (nI s) lo lk = some (if p < 40 ∧ K s ≤ L p then 1 else 0, ()) := by
  have bs := inb_nI (j := s) (n := 40) (by omega) (by decide)
  have ks := nI_clamp (n := s) (by omega)
  unfold fX0_isNewer fX0_isNewer_p23 fX0_isNewer_p24
  by_cases h : p < 40
  · obtain ⟨l1, l2⟩ := hlo h
    have bp := inb_nI (j := p) (n := 40) h (by decide)
    have kp := nI_clamp (n := p) (by omega)
    rw [pI_lt h, if_neg (nI_pos (by omega)), bd_eq _ bp, nm_q, kp, l1, bd_eq _ bs, nm_q, ks, hlk.1]
    by_cases q : L p < K s
    · rw [if_pos (nI_lt q (by omega)), if_neg (by omega)]; rfl
    · rw [if_neg (nI_nlt (by omega) (by omega)), if_pos ⟨h, by omega⟩]; rfl
  · have hneg : pI p < 0 := by
      have : p = 40 ∨ p = 41 ∨ p = 42 := by omega
      rcases this with rfl | rfl | rfl <;> decide
    rw [if_pos hneg, if_neg (fun q => h q.1)]; rfl
theorem c_isStale {G : Nat → Nat → Nat → Nat} {C : Nat → Nat → Int32} {value : Nat → Int64} (h : okPg G) (hc : cPg G C value) {s : Nat} (hs : s < G 7 0 0) {L K : Nat → Nat} {lo lk : Nat → Int32} (hlo : ∀ t, t < G 7 0 0 → lo t = nI (L t) ∧ L t < 2 ^ 30) (hlk : ∀ t, t < G 7 0 0 → lk t = nI (K t) ∧ K t < 2 ^ 30) :
    ∃ b : Int32, fX0_isStale (nI s) lk (C 3) lo (C 4) (C 1) (C 2) (C 0) = some (b, ()) ∧ (b = 0 → ¬ K s = 0 ∧ ∀ t, scs G s t → L t < K s) := by
  have hS := h.1
  have hP := h.2.2.1
  obtain ⟨k0, k1, k2, k3, k4, k5⟩ := h.2.2.2.2 s hs
  obtain ⟨c0, c1, c2', c3, c4, c5, c6⟩ := hc.2 s hs
  have bs := inb_nI (j := s) (n := 40) (by omega) (by decide)
  have ks := nI_clamp (n := s) (by omega)
  have z3 : nI (G 0 s 0) = 3 ↔ G 0 s 0 = 3 := nI_eq (a := G 0 s 0) (b := 3) (by omega) (by decide)
  obtain ⟨lk1, lk2⟩ := hlk s hs
  have z0 : nI (K s) = 0 ↔ K s = 0 := nI_eq (a := K s) (b := 0) (by omega) (by decide)
  have nw : ∀ p, p ≤ 42 → (p < 40 → p < G 7 0 0) → fX0_isNewer (pI p) (nI s) lo lk = some (if p < 40 ∧ K s ≤ L p then 1 else 0, ()) := fun p hp hpS => e_isNewer hp (by omega) (fun q => hlo p (hpS q)) (hlk s hs)
  unfold fX0_isStale fX0_isStale_p43 fX0_isStale_p87 fX0_isStale_p88
  rw [bd_eq _ bs, nm_q, ks, lk1]
  by_cases hk0 : K s = 0
  · rw [if_pos (z0.mpr hk0)]
    exact ⟨1, rfl, fun z => absurd z n10⟩
  · rw [if_neg (fun z => hk0 (z0.mp z)), bd_eq _ bs, nm_q, c4, nw _ (k5 0 (by decide)).1 (fun q => ((k5 0 (by decide)).2.1 q).1), ob_s]
    by_cases q0 : G 4 s 0 < 40 ∧ K s ≤ L (G 4 s 0)
    · simp only [if_pos q0]
      rw [if_neg n10]
      exact ⟨1, rfl, fun z => absurd z n10⟩
    · simp only [if_neg q0]
      rw [if_pos trivial, bd_eq _ bs, nm_q, c5, nw _ (k5 1 (by decide)).1 (fun q => ((k5 1 (by decide)).2.1 q).1), ob_s]
      by_cases q1 : G 4 s 1 < 40 ∧ K s ≤ L (G 4 s 1)
      · simp only [if_pos q1]
        rw [if_neg n10]
        exact ⟨1, rfl, fun z => absurd z n10⟩
      · simp only [if_neg q1]
        rw [if_pos trivial, bd_eq _ bs, nm_q, c0]
        have low : (∀ t, G 0 s 0 = 3 → t = G 5 (G 2 s 0) 0 → t < 40 → L t < K s) → ∀ t, scs G s t → L t < K s := by
          intro hcall t ht
          obtain ⟨t1, t2⟩ := ht
          rcases t2 with t2 | t2 | ⟨t2, t3⟩
          · apply Nat.not_le.mp
            intro z
            exact q0 ⟨by omega, by rw [← t2]; exact z⟩
          · apply Nat.not_le.mp
            intro z
            exact q1 ⟨by omega, by rw [← t2]; exact z⟩
          · exact hcall t t2 t3 (by omega)
        by_cases h3 : G 0 s 0 = 3
        · have hcl := k2 h3
          have bc := inb_nI (j := G 2 s 0) (n := 6) (by omega) (by decide)
          have kc := nI_clamp (n := G 2 s 0) (by omega)
          have hen : G 5 (G 2 s 0) 0 ≤ 42 := by
            rcases h.2.2.2.1 _ hcl with e | e
            · omega
            · omega
          rw [if_pos (z3.mpr h3), bd_eq _ bs, nm_q, c2' h3, bd_eq _ bc, nm_q, kc, hc.1 _ hcl, nw _ hen (en_ok h hs h3), ob_s]
          by_cases q2 : G 5 (G 2 s 0) 0 < 40 ∧ K s ≤ L (G 5 (G 2 s 0) 0)
          · simp only [if_pos q2]
            rw [if_neg n10]
            exact ⟨1, rfl, fun z => absurd z n10⟩
          · simp only [if_neg q2]
            rw [if_pos trivial]
            refine ⟨0, rfl, fun _ => ⟨hk0, low (fun t t1 t2 t3 => ?_)⟩⟩
            apply Nat.not_le.mp
            intro z
            exact q2 ⟨by omega, by rw [← t2]; exact z⟩
        · rw [if_neg (fun z => h3 (z3.mp z))]
          exact ⟨0, rfl, fun _ => ⟨hk0, low (fun t t1 => absurd t1 h3)⟩⟩
