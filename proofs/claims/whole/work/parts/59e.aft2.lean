/-! ===== pure rows 34: useRule of the net of all that the set comes to (class) ===== -/
def Aof (c : Nat → Int64) (a s b : Nat) : Prop := bt (c (12 * a + s)) b = true
def Sof (y : Nat → Int64) (q b : Nat) : Prop := bt (y q) b = true
/-- by a sign, from a state, perhaps behind a silent step -/
def sc (A : Nat → Nat → Nat → Prop) (S : Nat → Nat → Prop) (p g b : Nat) : Prop := A p g b ∨ ∃ k, k < 64 ∧ S p k ∧ A k g b
def clC (A : Nat → Nat → Nat → Prop) (S : Nat → Nat → Prop) (r p g q n w1 w2 : Nat) : Prop := ∀ b, b < 64 → sc A S p g b → (n = 0 → S q b) ∧ (n = 1 → A q w1 b) ∧ (n = 2 → A q w1 (16 + r) ∧ A (16 + r) w2 b)
def subC (c y : Nat → Int64) (A : Nat → Nat → Nat → Prop) (S : Nat → Nat → Prop) : Prop := (∀ a s b, a < 64 → s < 12 → b < 64 → Aof c a s b → A a s b) ∧ ∀ q b, q < 8 → b < 64 → Sof y q b → S q b
theorem bt_ne {x : Int64} (h : ¬ x = 0) : ∃ i, i < 64 ∧ bt x i = true := by
  apply Classical.byContradiction
  intro hn
  apply h
  apply bt_ext
  intro i hi
  rw [bt_0]
  cases hb : bt x i with
  | false => rfl
  | true => exact absurd ⟨i, hi, hb⟩ hn
theorem bt_lt {x : Int64} {i : Nat} (h : bt x i = true) : i < 64 := by
  apply Nat.not_le.mp
  intro hi
  rw [bt_hi x hi] at h
  cases h
theorem or_sub {a v : Int64} (h : (a ||| v) = a) {i : Nat} (hi : bt v i = true) : bt a i = true := by
  rw [← h, bt_or, hi, Bool.or_true]
theorem updL_at (c : Nat → Int64) (a : Nat) (v : Int64) : vp_updL c a v a = v := by unfold vp_updL; rw [if_pos rfl]
theorem updL_ne {c : Nat → Int64} {a j : Nat} {v : Int64} (h : j ≠ a) : vp_updL c a v j = c j := by unfold vp_updL; rw [if_neg h]
theorem updL_or {c : Nat → Int64} {a j b : Nat} {v : Int64} : bt (vp_updL c a (c a ||| v) j) b = true ↔ bt (c j) b = true ∨ (j = a ∧ bt v b = true) := by
  by_cases e : j = a
  · subst e
    rw [updL_at, bt_or, Bool.or_eq_true]
    exact ⟨fun h => h.imp id (fun k => ⟨rfl, k⟩), fun h => h.imp id (fun k => k.2)⟩
  · rw [updL_ne e]
    exact ⟨Or.inl, fun h => h.elim id (fun k => absurd k.1 e)⟩
theorem updL_same {c : Nat → Int64} {a : Nat} {v : Int64} (h : v = c a) (j : Nat) : vp_updL c a v j = c j := by
  by_cases e : j = a
  · subst e; rw [updL_at]; exact h
  · exact updL_ne e
theorem ix12 {a s a2 s2 : Nat} (hs : s < 12) (hs2 : s2 < 12) (h : 12 * a + s = 12 * a2 + s2) : a = a2 ∧ s = s2 := by omega
def okU (c y c2 y2 : Nat → Int64) (b : Int32) (r p g q n w1 w2 : Nat) : Prop := (b = 0 ∨ b = 1) ∧ (∀ j i, bt (c j) i = true → bt (c2 j) i = true) ∧ (∀ j i, bt (y j) i = true → bt (y2 j) i = true) ∧
  (b = 0 ↔ (∀ j, c2 j = c j) ∧ ∀ j, y2 j = y j) ∧ (b = 0 → clC (Aof c) (Sof y) r p g q n w1 w2) ∧ ∀ A S, subC c y A S → clC A S r p g q n w1 w2 → subC c2 y2 A S
def ouC (c y c2 y2 : Nat → Int64) : Prop := (∀ j, 768 ≤ j → c2 j = c j) ∧ ∀ j, 8 ≤ j → y2 j = y j
theorem c_useR {r p g q n w1 w2 : Nat} {cp cg cq cn cw1 cw2 : Nat → Int32} {c y : Nat → Int64} (hr : r < 48) (hp : p < 8) (hg : g < 12) (hq : q < 8) (hn : n ≤ 2) (hw1 : w1 < 12) (hw2 : w2 < 12) (e0 : cp r = nI p) (e1 : cg r = nI g) (e2 : cq r = nI q) (e3 : cn r = nI n) (e4 : cw1 r = nI w1) (e5 : cw2 r = nI w2) :
    Wq (fX5_useRule (nI r) cp y cg c cq cn cw1 cw2) (fun o => okU c y o.2.2 o.2.1 o.1 r p g q n w1 w2 ∧ ouC c y o.2.2 o.2.1) := by
  have hi := inb_nI (j := r) (n := 48) hr (by decide)
  have hc := nI_clamp (n := r) (by omega)
  have hip := inb_nI (j := p) (n := 8) hp (by decide)
  have hcp := nI_clamp (n := p) (by omega)
  have hiq := inb_nI (j := q) (n := 8) hq (by decide)
  have hcq := nI_clamp (n := q) (by omega)
  have i1 : nI q * 12 = nI (12 * q) := by rw [Nat.mul_comm 12 q]; exact pk_mul q 12
  have i2 : (16 : Int32) + nI r = nI (16 + r) := nI_add 16 r
  have i3 : nI (16 + r) * 12 = nI (12 * (16 + r)) := by rw [Nat.mul_comm 12 (16 + r)]; exact pk_mul (16 + r) 12
  have z0 : nI n = 0 ↔ n = 0 := nI_eq (a := n) (b := 0) (by omega) (by decide)
  have z1 : nI n = 1 ↔ n = 1 := nI_eq (a := n) (b := 1) (by omega) (by decide)
  unfold fX5_useRule
  rw [bd_eq _ hi, nm_q, hc, e0, e1, e2, e3, e4, e5, nm_q, bd_eq _ hip, nm_q, hcp, nm_q, bd_eq _ hi, nm_q]
  refine Wq_ob (c_nodesB _ hg c) (fun o ho => ?_)
  obtain ⟨B, u⟩ := o
  have hB : ∀ i, bt B i = true ↔ sc (Aof c) (Sof y) p g i := by
    intro i
    rw [ho i]
    constructor
    · rintro ⟨k, h1, h2, h3⟩
      rw [bt_or, bt_1 (by omega), Bool.or_eq_true, decide_eq_true_eq] at h2
      rcases h2 with h2 | h2
      · subst h2; exact Or.inl h3
      · exact Or.inr ⟨k, h1, h2, h3⟩
    · rintro (h | ⟨k, h1, h2, h3⟩)
      · exact ⟨p, by omega, by rw [bt_or, bt_1 (by omega)]; simp, h⟩
      · refine ⟨k, h1, ?_, h3⟩
        have h2' : bt (y p) k = true := h2
        rw [bt_or, h2', Bool.or_true]
  have up : ∀ (A : Nat → Nat → Nat → Prop) (S : Nat → Nat → Prop), subC c y A S → ∀ i, bt B i = true → i < 64 ∧ sc A S p g i := by
    intro A S hs i h
    have hi64 := bt_lt h
    refine ⟨hi64, ?_⟩
    rcases (hB i).mp h with h | ⟨k, h1, h2, h3⟩
    · exact Or.inl (hs.1 p g i (by omega) hg hi64 h)
    · exact Or.inr ⟨k, h1, hs.2 p k hp h1 h2, hs.1 k g i h1 hg hi64 h3⟩
  show Wq (nm (lg_cmp B 0) _) _
  rw [nm_q]
  by_cases hB0 : B = 0
  · rw [if_pos ((lg_cmp_eq _ _).mpr hB0)]
    refine Wq_some ⟨⟨Or.inl rfl, fun _ _ h => h, fun _ _ h => h, ⟨fun _ => ⟨fun _ => rfl, fun _ => rfl⟩, fun _ => rfl⟩, fun _ => ?_, fun A S h _ => h⟩, fun _ _ => rfl, fun _ _ => rfl⟩
    intro b hb h
    have := (hB b).mpr h
    rw [hB0, bt_0] at this
    cases this
  · rw [if_neg (fun h => hB0 ((lg_cmp_eq _ _).mp h)), bd_eq _ hi, nm_q, bd_eq _ hi, nm_q]
    by_cases h0 : n = 0
    · rw [if_pos (z0.mpr h0), bd_eq _ hiq, nm_q, hcq, bd_eq _ hiq, nm_q, nm_q, bd_eq _ hiq, nm_q, bd_eq _ hiq, nm_q, updL_at, nm_q]
      unfold fX5_useRule_p103
      have main : ∀ f : Int32, (f = 0 ∨ f = 1) → (f = 0 ↔ (y q ||| B) = y q) → okU c y c (vp_updL y q (y q ||| B)) f r p g q n w1 w2 ∧ ouC c y c (vp_updL y q (y q ||| B)) := by
        intro f hf hfe
        refine ⟨?_, fun _ _ => rfl, fun j hj => updL_ne (by omega)⟩
        refine ⟨hf, fun _ _ h => h, fun j i h => updL_or.mpr (Or.inl h), ⟨fun h => ⟨fun _ => rfl, updL_same (hfe.mp h)⟩, fun h => hfe.mpr ?_⟩, fun h b hb hsc => ⟨fun _ => or_sub (hfe.mp h) ((hB b).mpr hsc), fun z => by omega, fun z => by omega⟩, fun A S hs hcl => ⟨hs.1, fun j i hj hi64 hji => ?_⟩⟩
        · have := h.2 q
          rw [updL_at] at this
          exact this
        · rcases updL_or.mp hji with h | ⟨h1, h2⟩
          · exact hs.2 j i hj hi64 h
          · obtain ⟨k1, k2⟩ := up A S hs i h2
            rw [h1]
            exact (hcl i k1 k2).1 h0
      by_cases hz : (y q ||| B) = y q
      · rw [if_pos ((lg_cmp_eq _ _).mpr hz)]
        exact Wq_bd rfl (Wq_some (main 0 (Or.inl rfl) ⟨fun _ => hz, fun _ => rfl⟩))
      · rw [if_neg (fun h => hz ((lg_cmp_eq _ _).mp h))]
        exact Wq_bd rfl (Wq_some (main 1 (Or.inr rfl) ⟨fun h => absurd h n10, fun h => absurd h hz⟩))
    · rw [if_neg (fun h => h0 (z0.mp h)), nm_q, i1, bd_eq _ hi, nm_q, nm_q, nI_add, bd_eq _ hi, nm_q]
      by_cases h1 : n = 1
      · rw [if_pos (z1.mpr h1)]
        obtain ⟨f, hf1, hf2, hf3⟩ := c_addArcs (a := 12 * q + w1) (by omega) B c
        rw [hf1, ob_s]
        refine Wq_bd (by rcases hf2 with h | h <;> rw [h] <;> rfl) (Wq_some ⟨?_, fun j hj => updL_ne (by omega), fun _ _ => rfl⟩)
        refine ⟨hf2, fun j i h => updL_or.mpr (Or.inl h), fun _ _ h => h, ⟨fun h => ⟨updL_same (hf3.mp h), fun _ => rfl⟩, fun h => hf3.mpr ?_⟩, fun h b hb hsc => ⟨fun z => by omega, fun _ => or_sub (hf3.mp h) ((hB b).mpr hsc), fun z => by omega⟩, fun A S hs hcl => ⟨fun a s b ha hs2 hb hab => ?_, hs.2⟩⟩
        · have this : vp_updL c (12 * q + w1) (c (12 * q + w1) ||| B) (12 * q + w1) = c (12 * q + w1) := h.1 (12 * q + w1)
          rw [updL_at] at this
          exact this
        · rcases updL_or.mp hab with h | ⟨h3, h2⟩
          · exact hs.1 a s b ha hs2 hb h
          · obtain ⟨k1, k2⟩ := up A S hs b h2
            obtain ⟨k3, k4⟩ := ix12 hs2 hw1 h3
            rw [k3, k4]
            exact (hcl b k1 k2).2.1 h1
      · have h2 : n = 2 := by omega
        rw [if_neg (fun h => h1 (z1.mp h)), nm_q, i2, nm_q]
        obtain ⟨f, hf1, hf2, hf3⟩ := c_addArcs (a := 12 * q + w1) (by omega) ((1 : Int64) <<< ((nI (16 + r)).toInt64 &&& 63)) c
        rw [hf1, ob_s, nm_q, i3, bd_eq _ hi, nm_q, nm_q, nI_add]
        obtain ⟨f2, hg1, hg2, hg3⟩ := c_addArcs (a := 12 * (16 + r) + w2) (by omega) B (vp_updL c (12 * q + w1) (c (12 * q + w1) ||| (1 : Int64) <<< ((nI (16 + r)).toInt64 &&& 63)))
        rw [hg1, ob_s]
        have hone : ∀ i, bt ((1 : Int64) <<< ((nI (16 + r)).toInt64 &&& 63)) i = true ↔ i = 16 + r := fun i => by rw [bt_1 (by omega), decide_eq_true_eq]; exact ⟨fun h => h.symm, fun h => h.symm⟩
        generalize (1 : Int64) <<< ((nI (16 + r)).toInt64 &&& 63) = O at *
        obtain ⟨i0, hi0, hBi⟩ := bt_ne hB0
        have main : ∀ F : Int32, (F = 0 ∨ F = 1) → (F = 0 ↔ f = 0 ∧ f2 = 0) → okU c y (vp_updL (vp_updL c (12 * q + w1) (c (12 * q + w1) ||| O)) (12 * (16 + r) + w2) (vp_updL c (12 * q + w1) (c (12 * q + w1) ||| O) (12 * (16 + r) + w2) ||| B)) y F r p g q n w1 w2 ∧ ouC c y (vp_updL (vp_updL c (12 * q + w1) (c (12 * q + w1) ||| O)) (12 * (16 + r) + w2) (vp_updL c (12 * q + w1) (c (12 * q + w1) ||| O) (12 * (16 + r) + w2) ||| B)) y := by
          intro F hF hFe
          refine ⟨?_, fun j hj => (updL_ne (by omega)).trans (updL_ne (by omega)), fun _ _ => rfl⟩
          refine ⟨hF, fun j i h => updL_or.mpr (Or.inl (updL_or.mpr (Or.inl h))), fun _ _ h => h, ⟨fun h => ?_, fun h => ?_⟩, fun h b hb hsc => ?_, fun A S hs hcl => ⟨fun a s b ha hs2 hb hab => ?_, hs.2⟩⟩
          · obtain ⟨y1, y2⟩ := hFe.mp h
            exact ⟨fun j => (updL_same (hg3.mp y2) j).trans (updL_same (hf3.mp y1) j), fun _ => rfl⟩
          · have s1 : (c (12 * q + w1) ||| O) = c (12 * q + w1) := by
              apply bt_ext
              intro i hi64
              cases hci : bt (c (12 * q + w1)) i with
              | true => rw [bt_or, hci]; rfl
              | false =>
                cases hoi : bt (c (12 * q + w1) ||| O) i with
                | false => rfl
                | true =>
                  exfalso
                  have t : bt (vp_updL (vp_updL c (12 * q + w1) (c (12 * q + w1) ||| O)) (12 * (16 + r) + w2) (vp_updL c (12 * q + w1) (c (12 * q + w1) ||| O) (12 * (16 + r) + w2) ||| B) (12 * q + w1)) i = true := updL_or.mpr (Or.inl (by rw [updL_at]; exact hoi))
                  rw [h.1, hci] at t
                  cases t
            have s2 : ∀ j, vp_updL c (12 * q + w1) (c (12 * q + w1) ||| O) j = c j := updL_same s1
            refine hFe.mpr ⟨hf3.mpr s1, hg3.mpr ?_⟩
            have t := h.1 (12 * (16 + r) + w2)
            rw [updL_at] at t
            rw [t, s2]
          · obtain ⟨y1, y2⟩ := hFe.mp h
            have s1 := hf3.mp y1
            have s2 := hg3.mp y2
            refine ⟨fun z => by omega, fun z => by omega, fun _ => ⟨or_sub s1 ((hone _).mpr rfl), ?_⟩⟩
            have t := or_sub s2 ((hB b).mpr hsc)
            rw [updL_same s1] at t
            exact t
          · rcases updL_or.mp hab with h | ⟨h3, h4⟩
            · rcases updL_or.mp h with h | ⟨h3, h4⟩
              · exact hs.1 a s b ha hs2 hb h
              · obtain ⟨k1, k2⟩ := up A S hs i0 hBi
                obtain ⟨k3, k4⟩ := ix12 hs2 hw1 h3
                rw [k3, k4, (hone b).mp h4]
                exact ((hcl i0 k1 k2).2.2 h2).1
            · obtain ⟨k1, k2⟩ := up A S hs b h4
              obtain ⟨k3, k4⟩ := ix12 hs2 hw2 h3
              rw [k3, k4]
              exact ((hcl b k1 k2).2.2 h2).2
        unfold fX5_useRule_p188 fX5_useRule_p193
        show Wq (if f2 = 0 then (if f = 0 then bd (bz 0) (some (0, (y, _))) else bd (bz 1) (some (1, (y, _)))) else bd (bz 1) (some (1, (y, _)))) _
        by_cases w2z : f2 = 0
        · rw [if_pos w2z]
          by_cases w1z : f = 0
          · rw [if_pos w1z]
            exact Wq_bd rfl (Wq_some (main 0 (Or.inl rfl) ⟨fun _ => ⟨w1z, w2z⟩, fun _ => rfl⟩))
          · rw [if_neg w1z]
            exact Wq_bd rfl (Wq_some (main 1 (Or.inr rfl) ⟨fun h => absurd h n10, fun h => absurd h.1 w1z⟩))
        · rw [if_neg w2z]
          exact Wq_bd rfl (Wq_some (main 1 (Or.inr rfl) ⟨fun h => absurd h n10, fun h => absurd h.2 w2z⟩))
