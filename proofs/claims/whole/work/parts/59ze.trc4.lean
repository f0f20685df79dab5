/-! ===== pure rows 59: the class's record, whole ===== -/
theorem nI_dif {n k : Nat} (h : k ≤ n) : nI n - nI k = nI (n - k) := by
  have e : nI n = nI (n - k) + nI k := by rw [nI_add, Nat.sub_add_cancel h]
  rw [e]
  exact Int32.add_sub_cancel _ _
theorem popT_le {BP BL : Nat → Nat} : ∀ o p st, (popT BP BL o p st).2.2 ≤ o := by
  intro o
  induction o with
  | zero => intro p st; exact Nat.le_refl _
  | succ o ih =>
    intro p st
    show (if p = 40 then popT BP BL o (BP (o + 1)) (st % 8 + BL (o + 1)) else (p, st, o + 1)).2.2 ≤ o + 1
    by_cases h : p = 40
    · rw [if_pos h]; have := ih (BP (o + 1)) (st % 8 + BL (o + 1)); omega
    · rw [if_neg h]; exact Nat.le_refl _
theorem c_openCall {G : Nat → Nat → Nat → Nat} {C : Nat → Nat → Int32} {value : Nat → Int64} (h : okPg G) (hc : cPg G C value) {X wC : Nat → Nat} {cost c3 c13 c14 : Nat → Int32} (hX : tbS (288 * G 7 0 0) X cost) {p st o : Nat} (hp : p < G 7 0 0) (h3 : G 0 p 0 = 3) (hst : st < 32) (ho : o < 2000) (hW : ∀ m, m < 8 → c3 (8 * o + m) = nI (wC m) ∧ vl (wC m)) :
    ∃ d : Nat → Int32, fX8_openCall (nI p) (nI o) (nI p) (nI st) (C 3) (C 4) c3 cost c13 c14 (C 2) (C 0) = some (nI (o + 1), pI (G 5 (G 2 p 0) 0), nI (st % 8), d, upd c13 (o + 1) (pI (G 4 p 1)), upd c14 (o + 1) (nI (8 * (st / 8)))) ∧ (∀ j, j < 8 * (o + 1) → d j = c3 j) ∧ ∀ m, m < 8 → d (8 * (o + 1) + m) = nI (VP X wC (G 4 p 1) (m + 8 * (st / 8))) := by
  obtain ⟨fu, hfu, hg⟩ := fu_any
  have hS := h.1
  obtain ⟨k0, k1, k2, k3, k4, k5⟩ := h.2.2.2.2 p hp
  have hn := k5 1 (by decide)
  have hcl := k2 h3
  have hP := h.2.2.1
  have e8 : nI (o + 1) * 8 = nI (8 * (o + 1)) := by rw [Nat.mul_comm 8 (o + 1)]; exact pk_mul (o + 1) 8
  have key : ∀ (k i n : Nat) (c : Nat → Int32), i + k = 8 → k < n → (∀ j, j < 8 * (o + 1) → c j = c3 j) → (∀ m, m < i → c (8 * (o + 1) + m) = nI (VP X wC (G 4 p 1) (m + 8 * (st / 8)))) →
      ∃ d : Nat → Int32, fX8_openCall_l43 (C 3) (C 4) cost (C 2) (C 0) n (nI p) (pI (G 4 p 1)) (nI (8 * (st / 8))) (nI (8 * (o + 1))) (nI i) (nI o) (nI p) (nI st) c c13 c14 = some (nI (o + 1), pI (G 5 (G 2 p 0) 0), nI (st % 8), d, upd c13 (o + 1) (pI (G 4 p 1)), upd c14 (o + 1) (nI (8 * (st / 8)))) ∧ (∀ j, j < 8 * (o + 1) → d j = c3 j) ∧ ∀ m, m < 8 → d (8 * (o + 1) + m) = nI (VP X wC (G 4 p 1) (m + 8 * (st / 8))) := by
    intro k
    induction k with
    | zero =>
      intro i n c g1 g2 hc1 hc2
      obtain ⟨n, rfl⟩ : ∃ z, n = z + 1 := ⟨n - 1, by omega⟩
      show ∃ d : Nat → Int32, fX8_openCall_b43 (C 3) (C 4) cost (C 2) (C 0) _ (nI p) (pI (G 4 p 1)) (nI (8 * (st / 8))) (nI (8 * (o + 1))) (nI i) (nI o) (nI p) (nI st) c c13 c14 = _ ∧ _
      have bo := inb_nI (j := o + 1) (n := 2001) (by omega) (by decide)
      have ko := nI_clamp (n := o + 1) (by omega)
      have bp := inb_nI (j := p) (n := 40) (by omega) (by decide)
      have kp := nI_clamp (n := p) (by omega)
      refine ⟨c, ?_, hc1, fun m hm => hc2 m (by omega)⟩
      unfold fX8_openCall_b43
      rw [if_pos (show (8 : Int32) ≤ nI i from nI_le (a := 8) (b := i) (by omega) (by omega)), nm_q, nI_1, bd_eq _ bo, nm_q, ko, bd_eq _ bo, nm_q, nm_q, and7 st hst, bd_eq _ bp, nm_q, kp, (hc.2 p hp).2.2.1 h3, bd_eq _ (inb_nI (j := G 2 p 0) (n := 6) (by omega) (by decide)), nm_q, nI_clamp (n := G 2 p 0) (by omega), hc.1 _ hcl]
    | succ k ih =>
      intro i n c g1 g2 hc1 hc2
      obtain ⟨n, rfl⟩ : ∃ z, n = z + 1 := ⟨n - 1, by omega⟩
      show ∃ d : Nat → Int32, fX8_openCall_b43 (C 3) (C 4) cost (C 2) (C 0) (fX8_openCall_l43 (C 3) (C 4) cost (C 2) (C 0) n) (nI p) (pI (G 4 p 1)) (nI (8 * (st / 8))) (nI (8 * (o + 1))) (nI i) (nI o) (nI p) (nI st) c c13 c14 = _ ∧ _
      have hW' : ∀ m, m < 8 → c (8 * o + m) = nI (wC m) ∧ vl (wC m) := fun m hm => by rw [hc1 _ (by omega)]; exact hW m hm
      unfold fX8_openCall_b43
      rw [if_neg (show ¬ (8 : Int32) ≤ nI i from nI_ge (a := i) (b := 8) (by omega) (by omega)), nm_q, nI_add, nm_q, or_loc (st / 8) (by omega) i (by omega), c_toFail hS hX hW' (by omega) hn.1 (fun z => (hn.2.1 z).1) (by omega), ob_s, bd_eq _ (inb_nI (j := 8 * (o + 1) + i) (n := 16008) (by omega) (by decide)), nm_q, nI_clamp (n := 8 * (o + 1) + i) (by omega), nm_q, nI_1]
      refine ih (i + 1) n _ (by omega) (by omega) (fun j hj => ?_) (fun m hm => ?_)
      · rw [upd_ne (by omega)]; exact hc1 j hj
      · by_cases q : m = i
        · rw [q, upd_at]
        · rw [upd_ne (by omega)]; exact hc2 m (by omega)
  unfold fX8_openCall
  have pa := c_pointAfter h hc hp (v := 1) (by decide)
  rw [show (1 : Int32) = nI 1 from rfl, pa, ob_s, nm_q, and24 st hst, nm_q, ← show (1 : Int32) = nI 1 from rfl, nI_1, nm_q, e8, if_pos (show nI o < (2000 : Int32) from nI_lt (a := o) (b := 2000) (by omega) (by omega)), hfu]
  exact key 8 0 fu c3 (by omega) (by omega) (fun _ _ => rfl) (fun m hm => absurd hm (by omega))
theorem cfr_low {ex : Nat → Int32} {o o2 : Nat} {BP BL : Nat → Nat} {W : Nat → Nat → Nat} {Q : Nat → Nat} {c3 c13 c14 : Nat → Int32} (ho : o2 ≤ o) (h : cfr ex o BP BL W Q c3 c13 c14) : cfr ex o2 BP BL W Q c3 c13 c14 := ⟨fun i hi => h.1 i (by omega), fun i h1 h2 => h.2 i h1 (by omega)⟩
theorem cfr_fset {ex : Nat → Int32} {o k : Nat} {BP BL : Nat → Nat} {W : Nat → Nat → Nat} {Q : Nat → Nat} {c3 c13 c14 d : Nat → Int32} {a b e : Nat} {f : Nat → Nat} {x y : Int32} (hk : o < k) (hd : ∀ j, j < 8 * (o + 1) → d j = c3 j) (h : cfr ex o BP BL W Q c3 c13 c14) : cfr ex o (fset BP k a) (fset BL k b) (fset W k f) (fset Q k e) d (upd c13 k x) (upd c14 k y) := by
  refine ⟨fun i hi m hm => ?_, fun i h1 h2 => ?_⟩
  · rw [hd _ (by omega), fset_ne (by omega), fset_ne (by omega)]
    exact h.1 i hi m hm
  · rw [upd_ne (by omega), upd_ne (by omega), fset_ne (by omega), fset_ne (by omega)]
    exact h.2 i h1 h2
