/-! ===== pure rows 38: after (reference) ===== -/
def baseM (K : Nat → Nat) (A : Nat → Nat → Nat → Prop) : Prop := ∀ a s b, a < 16 → s < 12 → 8 ≤ b → b < 16 → (K (12 * a + s)).testBit b = true → A a s b
def isSM (K : Nat → Nat) (R : Nat) (pr : Nat → Nat → Nat) (c e : Nat → Int32) : Prop := baseM K (GM c) ∧ clMs (GM c) (EM e) R pr ∧ ∀ A S, baseM K A → clMs A S R pr → subM c e A S
def cntI (c : Nat → Int32) (n : Nat) : Nat := sumN (fun j => if c j = 0 then 0 else 1) n
theorem cntI_le (c : Nat → Int32) (n : Nat) : cntI c n ≤ n := sumN_bd _ (fun i _ => by by_cases h : c i = 0 <;> simp [h])
theorem cntI_mono {c c2 : Nat → Int32} (n : Nat) (h : ∀ j, c j ≠ 0 → c2 j ≠ 0) : cntI c n ≤ cntI c2 n := by
  refine sumN_le _ (fun i _ => ?_)
  by_cases e : c i = 0
  · simp [e]
  · simp [e, h i e]
theorem cntI_lt {c c2 : Nat → Int32} {n : Nat} (h : ∀ j, c j ≠ 0 → c2 j ≠ 0) (hj : ∃ j, j < n ∧ c2 j ≠ 0 ∧ c j = 0) : cntI c n < cntI c2 n := by
  obtain ⟨j, h1, h2, h3⟩ := hj
  refine sumN_lt _ (fun i _ => ?_) ⟨j, h1, by simp [h2, h3]⟩
  by_cases e : c i = 0
  · simp [e]
  · simp [e, h i e]
def stepM (A : Nat → Nat → Nat → Prop) (N : Nat → Prop) (s : Nat) (b : Nat) : Prop := ∃ k, k < 112 ∧ N k ∧ A k s b
def runM (A : Nat → Nat → Nat → Prop) (w : Nat → Nat) (N0 : Nat → Prop) (L : Nat) : Nat → Nat → Prop
  | 0 => N0
  | k + 1 => stepM A (runM A w N0 L k) (w (L - (k + 1)))
def isB (x : Int32) : Prop := x = 0 ∨ x = 1
theorem nar_b {x : Int32} (h : isB x) : vp_nar .boolean x = x := by
  rcases h with rfl | rfl
  · exact nb0
  · exact nb1
/-- the last word: does it meet the ends -/
def aftP (E : Nat) (N : Nat → Prop) (r : Int32 × Int32 × (Nat → Int32) × (Nat → Int32) × (Nat → Int32) × (Nat → Int32)) : Prop := r.2.1 = 0 ∧ (r.1 = 0 ∨ r.1 = 1) ∧ (r.1 = 1 ↔ ∃ b, b < 16 ∧ E.testBit b = true ∧ N b)
theorem r_l367 {R L E : Nat} {c3 m c7 c8 : Nat → Int32} (hE : relEnds E c8) {N : Nat → Prop} {c1 c2 c5 c6 : Nat → Int32} (hN : ∀ t, t < 112 → (c5 t ≠ 0 ↔ N t)) :
    ∀ (k i n : Nat) (f : Int32), i + k = 16 → k < n → (f = 0 ∨ f = 1) → (f = 1 ↔ ∃ b, b < i ∧ E.testBit b = true ∧ N b) → Wq (fX11_after_l367 (nI R) (nI L) c3 m c7 c8 n f (nI i) 0 c1 c2 c5 c6) (aftP E N) := by
  intro k
  induction k with
  | zero =>
    intro i n f g1 g2 hf hfi
    obtain ⟨n, rfl⟩ : ∃ z, n = z + 1 := ⟨n - 1, by omega⟩
    show Wq (fX11_after_b367 (nI R) (nI L) c3 m c7 c8 _ f (nI i) 0 c1 c2 c5 c6) _
    unfold fX11_after_b367 fX11_after_p419
    have h16 : (16 : Int32) ≤ nI i := nI_le (a := 16) (b := i) (by omega) (by omega)
    rw [if_pos h16]
    have ei : i = 16 := by omega
    subst ei
    rcases hf with h | h
    · rw [if_pos h]
      refine Wq_some ⟨rfl, Or.inl rfl, ⟨fun z => absurd z.symm n10, fun z => ?_⟩⟩
      have := hfi.mpr z
      rw [h] at this
      exact this
    · rw [if_neg (by rw [h]; exact n10)]
      exact Wq_some ⟨rfl, Or.inr rfl, ⟨fun _ => hfi.mp h, fun _ => rfl⟩⟩
  | succ k ih =>
    intro i n f g1 g2 hf hfi
    obtain ⟨n, rfl⟩ : ∃ z, n = z + 1 := ⟨n - 1, by omega⟩
    show Wq (fX11_after_b367 (nI R) (nI L) c3 m c7 c8 _ f (nI i) 0 c1 c2 c5 c6) _
    unfold fX11_after_b367 fX11_after_p402 fX11_after_p398 fX11_after_p403
    have h16 : ¬ (16 : Int32) ≤ nI i := nI_ge (a := i) (b := 16) (by omega) (by omega)
    have hEi := hE.2 i (by omega)
    rw [if_neg h16]
    have go : ∀ f2 : Int32, (f2 = 0 ∨ f2 = 1) → (f2 = 1 ↔ (f = 1 ∨ (E.testBit i = true ∧ N i))) → Wq (fX11_after_l367 (nI R) (nI L) c3 m c7 c8 n f2 (nI (i + 1)) 0 c1 c2 c5 c6) (aftP E N) := by
      intro f2 h1 h2
      refine ih (i + 1) n f2 (by omega) (by omega) h1 (h2.trans ⟨fun z => ?_, fun z => ?_⟩)
      · rcases z with z | z
        · obtain ⟨b, y1, y2⟩ := hfi.mp z
          exact ⟨b, by omega, y2⟩
        · exact ⟨i, by omega, z⟩
      · obtain ⟨b, y1, y2⟩ := z
        by_cases e : b = i
        · subst e; exact Or.inr y2
        · exact Or.inl (hfi.mpr ⟨b, by omega, y2⟩)
    by_cases h0 : f = 0
    · have nf : ¬ f = 1 := fun z => n10 (z.symm.trans h0)
      rw [if_pos h0, bd_eq _ (inb_nI (j := i) (n := 112) (by omega) (by decide)), nm_q, nI_clamp (n := i) (by omega)]
      by_cases h1 : c5 i = 0
      · rw [if_pos h1, nm_q, nI_1]
        exact go 0 (Or.inl rfl) ⟨fun z => absurd z.symm n10, fun z => z.elim (fun y => absurd y nf) (fun y => absurd h1 ((hN i (by omega)).mpr y.2))⟩
      · rw [if_neg h1, bd_eq _ (inb_nI (j := i) (n := 16) (by omega) (by decide)), nm_q, hEi]
        by_cases hb : E.testBit i = true
        · rw [if_pos hb, if_neg n10, nm_q, nI_1]
          exact go 1 (Or.inr rfl) ⟨fun _ => Or.inr ⟨hb, (hN i (by omega)).mp h1⟩, fun _ => rfl⟩
        · rw [if_neg hb, if_pos rfl, nm_q, nI_1]
          exact go 0 (Or.inl rfl) ⟨fun z => absurd z.symm n10, fun z => z.elim (fun y => absurd y nf) (fun y => absurd y.1 hb)⟩
    · rw [if_neg h0, nm_q, nI_1]
      exact go 1 (Or.inr rfl) ⟨fun _ => Or.inl (hf.resolve_left h0), fun _ => rfl⟩
theorem upd_at (c : Nat → Int32) (k : Nat) (v : Int32) : upd c k v k = v := by unfold upd; rw [if_pos rfl]
theorem upd_ne {c : Nat → Int32} {k j : Nat} {v : Int32} (h : j ≠ k) : upd c k v j = c j := by unfold upd; rw [if_neg h]
/-- one sign: the set behind it -/
theorem r_signs {R L j s : Nat} {c3 m c7 c8 : Nat → Int32} (hj : j < 30) (hs : s < 12) (hw : c7 j = nI s) {N : Nat → Prop} {c1 c2 : Nat → Int32} {P : Int32 × Int32 × (Nat → Int32) × (Nat → Int32) × (Nat → Int32) × (Nat → Int32) → Prop}
    {k207 : Int32 → Int32 → (Nat → Int32) → (Nat → Int32) → (Nat → Int32) → (Nat → Int32) → Option (Int32 × Int32 × (Nat → Int32) × (Nat → Int32) × (Nat → Int32) × (Nat → Int32))}
    (hk : ∀ d5 d6, (∀ t, t < 112 → isB (d5 t) ∧ (d5 t ≠ 0 ↔ stepM (GM c1) N s t)) → Wq (k207 (nI j + (-1)) 0 c1 c2 d5 d6) P) {fu : Nat} (hg : 1999999 < fu) (hfu : FU = fu) {c5 c6 : Nat → Int32} (hN : ∀ t, t < 112 → isB (c5 t) ∧ (c5 t ≠ 0 ↔ N t)) :
    Wq (fX11_after_l214 (nI R) (nI L) c3 m c7 c8 k207 fu (nI j) 0 0 c1 c2 c5 c6) P := by
  -- the copy
  have copy : ∀ (k i n : Nat) (d5 d6 : Nat → Int32), i + k = 112 → k < n → (∀ t, t < 112 → isB (d6 t) ∧ (d6 t ≠ 0 ↔ stepM (GM c1) N s t)) → (∀ t, t < i → d5 t = d6 t) → Wq (fX11_after_l329 (nI R) (nI L) c3 m c7 c8 k207 n (nI j) (nI i) 0 c1 c2 d5 d6) P := by
    intro k
    induction k with
    | zero =>
      intro i n d5 d6 g1 g2 h6 h5
      obtain ⟨n, rfl⟩ : ∃ z, n = z + 1 := ⟨n - 1, by omega⟩
      show Wq (fX11_after_b329 (nI R) (nI L) c3 m c7 c8 k207 _ (nI j) (nI i) 0 c1 c2 d5 d6) _
      unfold fX11_after_b329
      have h112 : (112 : Int32) ≤ nI i := nI_le (a := 112) (b := i) (by omega) (by omega)
      rw [if_pos h112, nm_q]
      exact hk d5 d6 (fun t ht => by rw [h5 t (by omega)]; exact h6 t ht)
    | succ k ih =>
      intro i n d5 d6 g1 g2 h6 h5
      obtain ⟨n, rfl⟩ : ∃ z, n = z + 1 := ⟨n - 1, by omega⟩
      show Wq (fX11_after_b329 (nI R) (nI L) c3 m c7 c8 k207 _ (nI j) (nI i) 0 c1 c2 d5 d6) _
      unfold fX11_after_b329
      have h112 : ¬ (112 : Int32) ≤ nI i := nI_ge (a := i) (b := 112) (by omega) (by omega)
      have bi := inb_nI (j := i) (n := 112) (by omega) (by decide)
      rw [if_neg h112, bd_eq _ bi, nm_q, bd_eq _ bi, nm_q, nI_clamp (n := i) (by omega), nar_b (h6 i (by omega)).1, nm_q, nI_1]
      refine ih (i + 1) n _ d6 (by omega) (by omega) h6 (fun t ht => ?_)
      by_cases e : t = i
      · subst e; rw [upd_at]
      · rw [upd_ne e]; exact h5 t (by omega)
  -- the nodes behind
  have main : ∀ (k a n : Nat) (d6 : Nat → Int32), a + k = 112 → k < n → (∀ t, t < 112 → isB (d6 t) ∧ (d6 t ≠ 0 ↔ ∃ i, i < a ∧ N i ∧ GM c1 i s t)) → Wq (fX11_after_l238 (nI R) (nI L) c3 m c7 c8 k207 n (nI j) (nI a) 0 c1 c2 c5 d6) P := by
    intro k
    induction k with
    | zero =>
      intro a n d6 g1 g2 h6
      obtain ⟨n, rfl⟩ : ∃ z, n = z + 1 := ⟨n - 1, by omega⟩
      show Wq (fX11_after_b238 (nI R) (nI L) c3 m c7 c8 k207 _ (nI j) (nI a) 0 c1 c2 c5 d6) _
      unfold fX11_after_b238
      have h112 : (112 : Int32) ≤ nI a := nI_le (a := 112) (b := a) (by omega) (by omega)
      have ea : a = 112 := by omega
      subst ea
      rw [if_pos h112, hfu]
      exact copy 112 0 fu c5 d6 (by omega) (by omega) h6 (fun t ht => absurd ht (by omega))
    | succ k ih =>
      intro a n d6 g1 g2 h6
      obtain ⟨n, rfl⟩ : ∃ z, n = z + 1 := ⟨n - 1, by omega⟩
      show Wq (fX11_after_b238 (nI R) (nI L) c3 m c7 c8 k207 (fX11_after_l238 (nI R) (nI L) c3 m c7 c8 k207 n) (nI j) (nI a) 0 c1 c2 c5 d6) _
      unfold fX11_after_b238
      have h112 : ¬ (112 : Int32) ≤ nI a := nI_ge (a := a) (b := 112) (by omega) (by omega)
      rw [if_neg h112, hfu]
      have i1 : (1344 : Int32) * nI a = nI (1344 * a) := pk_mul 1344 a
      have i2 : (112 : Int32) * nI s = nI (112 * s) := pk_mul 112 s
      have ba := inb_nI (j := a) (n := 112) (by omega) (by decide)
      have ka := nI_clamp (n := a) (by omega)
      have bj := inb_nI (j := j) (n := 30) (by omega) (by decide)
      have kj := nI_clamp (n := j) (by omega)
      have hNa := (hN a (by omega)).2
      have row : ∀ (k3 b n3 : Nat) (d : Nat → Int32), b + k3 = 112 → k3 < n3 → (∀ t, t < 112 → isB (d t) ∧ (d t ≠ 0 ↔ ((∃ i, i < a ∧ N i ∧ GM c1 i s t) ∨ (t < b ∧ N a ∧ GM c1 a s t)))) → Wq (fX11_after_l248 (nI R) (nI L) c3 m c7 c8 k207 (fX11_after_l238 (nI R) (nI L) c3 m c7 c8 k207 n) n3 (nI j) (nI a) (nI b) 0 c1 c2 c5 d) P := by
        have fin : ∀ (b : Nat) (d : Nat → Int32), (b = 112 ∨ ¬ N a) → (∀ t, t < 112 → isB (d t) ∧ (d t ≠ 0 ↔ ((∃ i, i < a ∧ N i ∧ GM c1 i s t) ∨ (t < b ∧ N a ∧ GM c1 a s t)))) → Wq (fX11_after_p320 (nI R) (nI L) c3 m c7 c8 k207 (fX11_after_l238 (nI R) (nI L) c3 m c7 c8 k207 n) (nI j) (nI a) 0 c1 c2 c5 d) P := by
          intro b d hb hd
          unfold fX11_after_p320
          rw [nm_q, nI_1]
          refine ih (a + 1) n d (by omega) (by omega) (fun t ht => ⟨(hd t ht).1, (hd t ht).2.trans ⟨fun z => ?_, fun z => ?_⟩⟩)
          · rcases z with ⟨i, y1, y2⟩ | ⟨y1, y2⟩
            · exact ⟨i, by omega, y2⟩
            · exact ⟨a, by omega, y2⟩
          · obtain ⟨i, y1, y2, y3⟩ := z
            by_cases e : i = a
            · subst e
              rcases hb with hb | hb
              · exact Or.inr ⟨by omega, y2, y3⟩
              · exact absurd y2 hb
            · exact Or.inl ⟨i, by omega, y2, y3⟩
        intro k3
        induction k3 with
        | zero =>
          intro b n3 d g3 g4 hd
          obtain ⟨n3, rfl⟩ : ∃ z, n3 = z + 1 := ⟨n3 - 1, by omega⟩
          show Wq (fX11_after_b248 (nI R) (nI L) c3 m c7 c8 k207 (fX11_after_l238 (nI R) (nI L) c3 m c7 c8 k207 n) _ (nI j) (nI a) (nI b) 0 c1 c2 c5 d) _
          unfold fX11_after_b248
          have hb : (112 : Int32) ≤ nI b := nI_le (a := 112) (b := b) (by omega) (by omega)
          rw [if_pos hb]
          exact fin b d (Or.inl (by omega)) hd
        | succ k3 ih3 =>
          intro b n3 d g3 g4 hd
          obtain ⟨n3, rfl⟩ : ∃ z, n3 = z + 1 := ⟨n3 - 1, by omega⟩
          show Wq (fX11_after_b248 (nI R) (nI L) c3 m c7 c8 k207 (fX11_after_l238 (nI R) (nI L) c3 m c7 c8 k207 n) _ (nI j) (nI a) (nI b) 0 c1 c2 c5 d) _
          have hb : ¬ (112 : Int32) ≤ nI b := nI_ge (a := b) (b := 112) (by omega) (by omega)
          have bb := inb_nI (j := b) (n := 112) (by omega) (by decide)
          have kb := nI_clamp (n := b) (by omega)
          have bg := inb_nI (j := 1344 * a + 112 * s + b) (n := 150528) (by omega) (by decide)
          have kg := nI_clamp (n := 1344 * a + 112 * s + b) (by omega)
          unfold fX11_after_b248 fX11_after_p308 fX11_after_p313
          rw [if_neg hb, bd_eq _ ba, nm_q, ka]
          by_cases h0 : c5 a = 0
          · rw [if_pos h0]
            exact fin b d (Or.inr (fun z => hNa.mpr z h0)) hd
          · have hNa1 : N a := hNa.mp h0
            have go : ∀ v : Int32, isB v → (v ≠ 0 ↔ ((∃ i, i < a ∧ N i ∧ GM c1 i s b) ∨ GM c1 a s b)) → Wq (fX11_after_l248 (nI R) (nI L) c3 m c7 c8 k207 (fX11_after_l238 (nI R) (nI L) c3 m c7 c8 k207 n) n3 (nI j) (nI a) (nI (b + 1)) 0 c1 c2 c5 (upd d b v)) P := by
              intro v hv1 hv2
              refine ih3 (b + 1) n3 _ (by omega) (by omega) (fun t ht => ?_)
              by_cases e : t = b
              · subst e
                rw [upd_at]
                exact ⟨hv1, hv2.trans ⟨fun z => z.imp id (fun y => ⟨by omega, hNa1, y⟩), fun z => z.imp id (fun y => y.2.2)⟩⟩
              · rw [upd_ne e]
                exact ⟨(hd t ht).1, (hd t ht).2.trans ⟨fun z => z.imp id (fun y => ⟨by omega, y.2⟩), fun z => z.imp id (fun y => ⟨by omega, y.2⟩)⟩⟩
            have hdb := (hd b (by omega)).2
            rw [if_neg h0, bd_eq _ bb, nm_q, kb]
            by_cases h1 : d b = 0
            · rw [if_pos h1, nm_q, i1, bd_eq _ bj, nm_q, kj, hw, nm_q, i2, nm_q, nI_add, nm_q, nI_add, bd_eq _ bg, nm_q, kg]
              have hn : ¬ ∃ i, i < a ∧ N i ∧ GM c1 i s b := fun z => hdb.mpr (Or.inl z) h1
              by_cases h2 : c1 (1344 * a + 112 * s + b) = 0
              · rw [if_pos h2, bd_eq _ bb, nm_q, nb0, nm_q, nI_1]
                exact go 0 (Or.inl rfl) ⟨fun z => absurd rfl z, fun z => z.elim (fun y => absurd y hn) (fun y => absurd h2 y)⟩
              · rw [if_neg h2, bd_eq _ bb, nm_q, nb1, nm_q, nI_1]
                exact go 1 (Or.inr rfl) ⟨fun _ => Or.inr h2, fun _ => n10⟩
            · rw [if_neg h1, bd_eq _ bb, nm_q, nb1, nm_q, nI_1]
              refine go 1 (Or.inr rfl) ⟨fun _ => ?_, fun _ => n10⟩
              rcases hdb.mp h1 with y | y
              · exact Or.inl y
              · exact Or.inr y.2.2
      exact row 112 0 fu d6 (by omega) (by omega) (fun t ht => ⟨(h6 t ht).1, (h6 t ht).2.trans ⟨Or.inl, fun z => z.elim id (fun y => absurd y.1 (by omega))⟩⟩)
  -- the emptied set
  have empt : ∀ (k i n : Nat) (d6 : Nat → Int32), i + k = 112 → k < n → (∀ t, t < i → d6 t = 0) → Wq (fX11_after_l214 (nI R) (nI L) c3 m c7 c8 k207 n (nI j) (nI i) 0 c1 c2 c5 d6) P := by
    intro k
    induction k with
    | zero =>
      intro i n d6 g1 g2 h6
      obtain ⟨n, rfl⟩ : ∃ z, n = z + 1 := ⟨n - 1, by omega⟩
      show Wq (fX11_after_b214 (nI R) (nI L) c3 m c7 c8 k207 _ (nI j) (nI i) 0 c1 c2 c5 d6) _
      unfold fX11_after_b214
      have h112 : (112 : Int32) ≤ nI i := nI_le (a := 112) (b := i) (by omega) (by omega)
      rw [if_pos h112, hfu]
      refine main 112 0 fu d6 (by omega) (by omega) (fun t ht => ?_)
      rw [h6 t (by omega)]
      exact ⟨Or.inl rfl, ⟨fun z => absurd rfl z, fun ⟨i, y, _⟩ => absurd y (by omega)⟩⟩
    | succ k ih =>
      intro i n d6 g1 g2 h6
      obtain ⟨n, rfl⟩ : ∃ z, n = z + 1 := ⟨n - 1, by omega⟩
      show Wq (fX11_after_b214 (nI R) (nI L) c3 m c7 c8 k207 _ (nI j) (nI i) 0 c1 c2 c5 d6) _
      unfold fX11_after_b214
      have h112 : ¬ (112 : Int32) ≤ nI i := nI_ge (a := i) (b := 112) (by omega) (by omega)
      rw [if_neg h112, bd_eq _ (inb_nI (j := i) (n := 112) (by omega) (by decide)), nm_q, nI_clamp (n := i) (by omega), nb0, nm_q, nI_1]
      refine ih (i + 1) n _ (by omega) (by omega) (fun t ht => ?_)
      by_cases e : t = i
      · subst e; rw [upd_at]
      · rw [upd_ne e]; exact h6 t (by omega)
  exact empt 112 0 fu c6 (by omega) (by omega) (fun t ht => absurd ht (by omega))
