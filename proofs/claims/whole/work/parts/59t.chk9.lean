/-! ===== pure rows 49: the reference's program; toEnd, toFail, go ===== -/
def pM (p : Nat) : Int32 := if p < 40 then nI p else -1
def canN (G : Nat → Nat → Nat → Nat) (s st : Nat) : Nat := (if cn G s 0 st then 1 else 0) + if cn G s 1 st then 2 else 0
/-- the reference's rows: M 0 kinds, 1 behind, 2 targets, 3 firsts, 4 inner, 5 codeAt, 6 codeEnd, 7 code; G 9: the point behind -/
def mPg (G : Nat → Nat → Nat → Nat) (M : Nat → Nat → Int32) : Prop :=
  (∀ p, p < G 8 0 0 → M 3 p = pM (G 5 p 0)) ∧ ∀ s, s < G 7 0 0 → M 0 s = nI (G 0 s 0) ∧ M 1 s = pM (G 9 s 0) ∧ G 9 s 0 ≤ 40 ∧ (G 9 s 0 < 40 → G 9 s 0 < G 7 0 0) ∧
    (G 0 s 0 = 0 → M 2 s = nI (if G 1 s 0 < 3 then 16 + G 1 s 0 else 21 + G 1 s 0) ∧ ∀ v, v < 2 → G 4 s v = G 9 s 0) ∧
    (G 0 s 0 = 1 ∨ G 0 s 0 = 2 → ∀ v, v < 2 → (M 4 (2 * s + v) = -1 ∧ G 4 s v = if G 0 s 0 = 2 ∧ v = 1 then s else G 9 s 0) ∨ ∃ t, t < G 7 0 0 ∧ M 4 (2 * s + v) = nI t ∧ G 4 s v = t) ∧
    (G 0 s 0 = 3 → M 2 s = nI (G 2 s 0) ∧ G 4 s 1 = G 9 s 0) ∧ (G 0 s 0 = 4 → G 4 s 1 = G 9 s 0 ∧ G 4 s 0 = 41) ∧ (G 0 s 0 = 5 → G 4 s 1 = G 9 s 0 ∧ G 4 s 0 = 42) ∧
    (G 0 s 0 = 6 → G 4 s 1 = 40 ∧ ∀ st, cn G s 0 st = false ∧ cn G s 1 st = true) ∧ (G 0 s 0 = 7 → G 4 s 1 = G 9 s 0 ∧ ∀ st, cn G s 0 st = false ∧ cn G s 1 st = true) ∧
    (G 0 s 0 < 3 ∨ G 0 s 0 = 4 ∨ G 0 s 0 = 5 → ∀ g l (va : Nat → Int32), g < 8 → l < 4 → ∃ va2, fX11_can (nI s) (nI g) (nI l) (M 5) (M 6) (M 7) va = some (nI (canN G s (g + 8 * l)), va2))
def atI (g s l : Nat) : Nat := 160 * g + 4 * s + l
theorem r_at (g s l : Nat) : fX11_at (nI g) (nI s) (nI l) = some (nI (atI g s l), ()) := by
  unfold fX11_at atI
  have h1 : (160 : Int32) * nI g = nI (160 * g) := pk_mul 160 g
  have h2 : (4 : Int32) * nI s = nI (4 * s) := pk_mul 4 s
  simp only [nm, h1, h2, nI_add]
def tmE (S : Nat) (x : Nat → Nat) (c : Nat → Int32) : Prop := ∀ g s l t, g < 8 → s < S → l < 4 → t < 8 → c (8 * atI g s l + t) = mI (x (rI s (g + 8 * l) t)) ∧ vl (x (rI s (g + 8 * l) t))
def tmF (S : Nat) (x : Nat → Nat) (c : Nat → Int32) : Prop := ∀ g s l, g < 8 → s < S → l < 4 → c (atI g s l) = mI (x (rI s (g + 8 * l) 8)) ∧ vl (x (rI s (g + 8 * l) 8))
theorem pM_lt {p : Nat} (h : p < 40) : pM p = nI p := by unfold pM; rw [if_pos h]
theorem pM_40 : pM 40 = -1 := by decide
theorem nI_m1 {p : Nat} (h : p < 2 ^ 31) : ¬ nI p = -1 := by
  intro z
  have := nI_pos h
  rw [z] at this
  exact this (by decide)
theorem r_toEnd {S g p l t : Nat} (hS : S ≤ 40) {x : Nat → Nat} {c : Nat → Int32} (hx : tmE S x c) (hg : g < 8) (hl : l < 4) (ht : t < 8) (hp : p ≤ 40) (hpS : p < 40 → p < S) : fX11_toEnd (nI g) (pM p) (nI l) (nI t) c = some (mI (tgt x p (g + 8 * l) t), ()) := by
  unfold fX11_toEnd fX11_toEnd_p37
  by_cases h : p < 40
  · have hpp := hpS h
    have e8 : (8 : Int32) * nI (atI g p l) = nI (8 * atI g p l) := pk_mul 8 _
    have hb : 8 * atI g p l + t < 10240 := by unfold atI; omega
    rw [pM_lt h, if_neg (nI_m1 (by omega)), r_at, ob_s, nm_q, e8, nm_q, nI_add, bd_eq _ (inb_nI (j := 8 * atI g p l + t) (n := 10240) hb (by decide)), nm_q, nI_clamp (n := 8 * atI g p l + t) (by omega), (hx g p l t hg hpp hl ht).1, tgt_lt h]
  · have h40 : p = 40 := by omega
    subst h40
    rw [pM_40, if_pos rfl, tgt_40]
    by_cases e : g = t
    · rw [if_pos (by rw [e]), if_pos (by omega)]; rfl
    · rw [if_neg (fun z => e ((nI_eq (by omega) (by omega)).mp z)), if_neg (by omega), mI_inf]
theorem r_toFail {S g p l : Nat} (hS : S ≤ 40) {x : Nat → Nat} {c : Nat → Int32} (hx : tmF S x c) (hg : g < 8) (hl : l < 4) (hp : p ≤ 40) (hpS : p < 40 → p < S) : fX11_toFail (nI g) (pM p) (nI l) c = some (mI (tgt x p (g + 8 * l) 8), ()) := by
  unfold fX11_toFail fX11_toFail_p21
  by_cases h : p < 40
  · have hpp := hpS h
    have hb : atI g p l < 1280 := by unfold atI; omega
    rw [pM_lt h, if_neg (nI_m1 (by omega)), r_at, ob_s, bd_eq _ (inb_nI (j := atI g p l) (n := 1280) hb (by decide)), nm_q, nI_clamp (n := atI g p l) (by omega), (hx g p l hg hpp hl).1, tgt_lt h]
  · have h40 : p = 40 := by omega
    subst h40
    rw [pM_40, if_pos rfl, tgt_40, if_neg (by omega), mI_inf]
/-- assignments: the globals' bits and the locals' -/
theorem go_bits : ∀ b : Nat, b < 3 → ∀ g : Nat, g < 8 → ∀ v : Nat, v < 2 → ((nI g &&& ((1 : Int32) <<< (nI b &&& 31) ^^^ (-1))) ||| nI v <<< (nI b &&& 31)) = nI (if v = 0 then (if g.testBit b then g - 2 ^ b else g) else (if g.testBit b then g else g + 2 ^ b)) ∧ (if v = 0 then (if g.testBit b then g - 2 ^ b else g) else (if g.testBit b then g else g + 2 ^ b)) < 8 := by decide +kernel
theorem go_bitl : ∀ b : Nat, b < 2 → ∀ g : Nat, g < 4 → ∀ v : Nat, v < 2 → ((nI g &&& ((1 : Int32) <<< (nI b &&& 31) ^^^ (-1))) ||| nI v <<< (nI b &&& 31)) = nI (if v = 0 then (if g.testBit b then g - 2 ^ b else g) else (if g.testBit b then g else g + 2 ^ b)) ∧ (if v = 0 then (if g.testBit b then g - 2 ^ b else g) else (if g.testBit b then g else g + 2 ^ b)) < 4 := by decide +kernel
theorem sa_g : ∀ b : Nat, b < 3 → ∀ g : Nat, g < 8 → ∀ l : Nat, l < 4 → ∀ v : Nat, v < 2 → (if v = 0 then (if (g + 8 * l).testBit b then g + 8 * l - 2 ^ b else g + 8 * l) else (if (g + 8 * l).testBit b then g + 8 * l else g + 8 * l + 2 ^ b)) = (if v = 0 then (if g.testBit b then g - 2 ^ b else g) else (if g.testBit b then g else g + 2 ^ b)) + 8 * l := by decide +kernel
theorem sa_l : ∀ b : Nat, b < 2 → ∀ g : Nat, g < 8 → ∀ l : Nat, l < 4 → ∀ v : Nat, v < 2 → (if v = 0 then (if (g + 8 * l).testBit (3 + b) then g + 8 * l - 2 ^ (3 + b) else g + 8 * l) else (if (g + 8 * l).testBit (3 + b) then g + 8 * l else g + 8 * l + 2 ^ (3 + b))) = g + 8 * (if v = 0 then (if l.testBit b then l - 2 ^ b else l) else (if l.testBit b then l else l + 2 ^ b)) := by decide +kernel
theorem r_go {G : Nat → Nat → Nat → Nat} {M : Nat → Nat → Int32} (h : okPg G) (hm : mPg G M) {s g l v : Nat} (hs : s < G 7 0 0) (hg : g < 8) (hl : l < 4) (hv : v < 2) (hk : G 0 s 0 < 3 ∨ ((G 0 s 0 = 4 ∨ G 0 s 0 = 5) ∧ v = 1)) (n1 n2 n3 : Int32) :
    ∃ g2 l2 : Nat, g2 < 8 ∧ l2 < 4 ∧ sa G s v (g + 8 * l) = g2 + 8 * l2 ∧ G 4 s v ≤ 40 ∧ fX11_go (nI s) (nI g) (nI l) (nI v) n1 n2 n3 (M 1) (M 0) (M 2) (M 4) = some (nI g2, nI l2, pM (G 4 s v)) := by
  have hS := h.1
  obtain ⟨k0, k1, k2, k3, k4, k5⟩ := h.2.2.2.2 s hs
  obtain ⟨c0, c1, c1a, c1b, cA, cI, cC, c4, c5, c6, c7, cX⟩ := hm.2 s hs
  have bs := inb_nI (j := s) (n := 40) (by omega) (by decide)
  have ks := nI_clamp (n := s) (by omega)
  have zk : ∀ z : Nat, z < 100 → (nI (G 0 s 0) = nI z ↔ G 0 s 0 = z) := fun z hz => nI_eq (by omega) (by omega)
  have z0 : nI (G 0 s 0) = 0 ↔ G 0 s 0 = 0 := zk 0 (by decide)
  have z1 : nI (G 0 s 0) = 1 ↔ G 0 s 0 = 1 := zk 1 (by decide)
  have z2 : nI (G 0 s 0) = 2 ↔ G 0 s 0 = 2 := zk 2 (by decide)
  have zv : nI v = 1 ↔ v = 1 := nI_eq (a := v) (b := 1) (by omega) (by decide)
  unfold fX11_go fX11_go_p184
  rw [bd_eq _ bs, nm_q, ks, c1, bd_eq _ bs, nm_q, c0]
  by_cases h0 : G 0 s 0 = 0
  · obtain ⟨t1, t2⟩ := cA h0
    have hvr := k1 h0
    rw [if_pos (z0.mpr h0), bd_eq _ bs, nm_q, t1]
    have esa : sa G s v (g + 8 * l) = if v = 0 then (if (g + 8 * l).testBit (G 1 s 0) then g + 8 * l - 2 ^ G 1 s 0 else g + 8 * l) else (if (g + 8 * l).testBit (G 1 s 0) then g + 8 * l else g + 8 * l + 2 ^ G 1 s 0) := by unfold sa; rw [if_pos h0]
    rw [esa, t2 v hv]
    unfold fX11_go_p69 fX11_go_p104 fX11_go_p184
    by_cases hlt : G 1 s 0 < 3
    · rw [if_pos hlt]
      have q24 : ¬ (24 : Int32) ≤ nI (16 + G 1 s 0) := nI_ge (a := 16 + G 1 s 0) (b := 24) (by omega) (by decide)
      have esub : nI (16 + G 1 s 0) - 16 = nI (G 1 s 0) := by
        have := pk_sub (a := 16 + G 1 s 0) (b := 16) (by omega)
        rw [show 16 + G 1 s 0 - 16 = G 1 s 0 by omega] at this
        exact this
      obtain ⟨b1, b2⟩ := go_bits (G 1 s 0) hlt g hg v hv
      rw [if_neg q24]
      simp only [nm, esub, if_neg q24]
      rw [b1]
      exact ⟨_, l, b2, hl, sa_g (G 1 s 0) hlt g hg l hl v hv, c1a, rfl⟩
    · rw [if_neg hlt]
      have q24 : (24 : Int32) ≤ nI (21 + G 1 s 0) := nI_le (a := 24) (b := 21 + G 1 s 0) (by omega) (by omega)
      have esub : nI (21 + G 1 s 0) - 24 = nI (G 1 s 0 - 3) := by
        have := pk_sub (a := 21 + G 1 s 0) (b := 24) (by omega)
        rw [show 21 + G 1 s 0 - 24 = G 1 s 0 - 3 by omega] at this
        exact this
      obtain ⟨b1, b2⟩ := go_bitl (G 1 s 0 - 3) (by omega) l hl v hv
      rw [if_pos q24]
      simp only [nm, esub, if_pos q24]
      rw [b1]
      have e3 := sa_l (G 1 s 0 - 3) (by omega) g hg l hl v hv
      rw [show 3 + (G 1 s 0 - 3) = G 1 s 0 by omega] at e3
      exact ⟨g, _, hg, b2, e3, c1a, rfl⟩
  · have esa : sa G s v (g + 8 * l) = g + 8 * l := by unfold sa; rw [if_neg h0]
    rw [if_neg (fun z => h0 (z0.mp z)), bd_eq _ bs, nm_q, esa]
    have inner : G 0 s 0 = 1 ∨ G 0 s 0 = 2 → ∃ g2 l2 : Nat, g2 < 8 ∧ l2 < 4 ∧ g + 8 * l = g2 + 8 * l2 ∧ G 4 s v ≤ 40 ∧ fX11_go_p130 (M 1) (M 0) (M 2) (M 4) (nI s) (nI v) (nI g) (nI l) (pM (G 9 s 0)) = some (nI g2, nI l2, pM (G 4 s v)) := by
      intro hk2
      have e2 : (2 : Int32) * nI s = nI (2 * s) := pk_mul 2 s
      refine ⟨g, l, hg, hl, rfl, ?_⟩
      unfold fX11_go_p130 fX11_go_p175 fX11_go_p181 fX11_go_p184
      rw [nm_q, e2, nm_q, nI_add, bd_eq _ (inb_nI (j := 2 * s + v) (n := 80) (by omega) (by decide)), nm_q, nI_clamp (n := 2 * s + v) (by omega)]
      rcases cI hk2 v hv with ⟨w1, w2⟩ | ⟨t, w0, w1, w2⟩
      · rw [w1, if_pos rfl, bd_eq _ bs, nm_q, ks, c0, w2, bd_eq _ bs, nm_q, c1]
        by_cases hk22 : G 0 s 0 = 2
        · rw [if_pos (z2.mpr hk22)]
          by_cases hv1 : v = 1
          · rw [if_pos (zv.mpr hv1), if_pos ⟨hk22, hv1⟩, pM_lt (by omega)]
            exact ⟨by omega, rfl⟩
          · rw [if_neg (fun z => hv1 (zv.mp z)), if_neg (fun z => hv1 z.2)]
            exact ⟨c1a, rfl⟩
        · rw [if_neg (fun z => hk22 (z2.mp z)), if_neg (fun z => hk22 z.1)]
          exact ⟨c1a, rfl⟩
      · rw [w1, if_neg (nI_m1 (by omega)), w2, pM_lt (by omega)]
        exact ⟨by omega, rfl⟩
    by_cases h1 : G 0 s 0 = 1
    · rw [if_pos (z1.mpr h1)]
      exact inner (Or.inl h1)
    · rw [if_neg (fun z => h1 (z1.mp z)), bd_eq _ bs, nm_q]
      by_cases h2 : G 0 s 0 = 2
      · rw [if_pos (z2.mpr h2)]
        exact inner (Or.inr h2)
      · rw [if_neg (fun z => h2 (z2.mp z))]
        have hk45 : (G 0 s 0 = 4 ∨ G 0 s 0 = 5) ∧ v = 1 := by
          clear inner
          rcases hk with q | q
          · omega
          · exact q
        have e4 : G 4 s v = G 9 s 0 := by
          rw [hk45.2]
          rcases hk45.1 with q | q
          · exact (c4 q).1
          · exact (c5 q).1
        rw [e4]
        exact ⟨g, l, hg, hl, rfl, c1a, rfl⟩
