/-! ===== pure rows 69: can ===== -/
/-- a code that can be reckoned on a stack of n values, with one left -/
def vd : List Nat → Nat → Prop
  | [] => fun n => n = 1
  | v :: L => fun n => if v = 3 then 1 ≤ n ∧ vd L n else if v = 4 ∨ v = 5 then 2 ≤ n ∧ vd L (n - 1) else (v < 3 ∨ (16 ≤ v ∧ v < 19) ∨ (24 ≤ v ∧ v < 26)) ∧ vd L (n + 1)
theorem ev_3 : ∀ a : Nat, a < 4 → ((nI a &&& 1) <<< ((1 : Int32) &&& 31)) ||| (nI a >>> ((1 : Int32) &&& 31)) = nI (a % 2 * 2 + a / 2) ∧ a % 2 * 2 + a / 2 < 4 := by decide +kernel
theorem ev_4 : ∀ a : Nat, a < 4 → ∀ b : Nat, b < 4 → ((nI a ||| nI b) &&& 1) ||| (((nI a >>> ((1 : Int32) &&& 31)) &&& (nI b >>> ((1 : Int32) &&& 31))) <<< ((1 : Int32) &&& 31)) = nI ((a ||| b) % 2 + (a / 2 &&& b / 2) * 2) ∧ (a ||| b) % 2 + (a / 2 &&& b / 2) * 2 < 4 := by decide +kernel
theorem ev_5 : ∀ a : Nat, a < 4 → ∀ b : Nat, b < 4 → ((nI a ||| nI b) &&& 2) ||| ((nI a &&& nI b) &&& 1) = nI ((a ||| b) / 2 * 2 + (a &&& b) % 2) ∧ (a ||| b) / 2 * 2 + (a &&& b) % 2 < 4 := by decide +kernel
theorem ev_g : ∀ v : Nat, v < 3 → ∀ g : Nat, g < 8 → ∀ l : Nat, l < 4 → ((1 : Int32) <<< (((nI g >>> ((nI (16 + v) - 16) &&& 31)) &&& 1) &&& 31)) = nI (if (g + 8 * l).testBit v then 2 else 1) := by decide +kernel
theorem ev_l : ∀ v : Nat, v < 2 → ∀ g : Nat, g < 8 → ∀ l : Nat, l < 4 → ((1 : Int32) <<< (((nI l >>> ((nI (24 + v) - 24) &&& 31)) &&& 1) &&& 31)) = nI (if (g + 8 * l).testBit (3 + v) then 2 else 1) := by decide +kernel
def segIs (c : Nat → Int32) (a : Nat) : List Nat → Prop
  | [] => True
  | v :: L => c a = nI v ∧ segIs c (a + 1) L
theorem stk_top {c : Nat → Int32} {S : List Nat} {v : Nat} (h : stkIs c S) : stkIs (upd c S.length (nI v)) (v :: S) := ⟨upd_at _ _ _, stk_push _ _ (Nat.le_refl _) h⟩
theorem r_can_l {ca ce code : Nat → Int32} {s g l e : Nat} (hs : s < 40) (hg : g < 8) (hl : l < 4) (he : ce s = nI e) (he7 : e ≤ 700) : ∀ (L : List Nat) (a n : Nat) (va : Nat → Int32) (S : List Nat), a + L.length = e → L.length < n → S.length ≤ a → segIs code a L → stkIs va S → (∀ x, x ∈ S → x < 4) → vd L S.length →
    ∃ (x : Nat) (va2 : Nat → Int32), evL (g + 8 * l) L S = [x] ∧ x < 4 ∧ fX11_can_l11 ca ce code n (nI s) (nI g) (nI l) (nI S.length) (nI a) va = some (nI x, va2) := by
  have bs := inb_nI (j := s) (n := 40) hs (by decide)
  have ks := nI_clamp (n := s) (by omega)
  intro L
  induction L with
  | nil =>
    intro a n va S g1 g2 g3 hc hv h4 hd
    have g1' : a + 0 = e := g1
    obtain ⟨n, rfl⟩ : ∃ z, n = z + 1 := ⟨n - 1, by have : 0 < n := g2; omega⟩
    have hd' : S.length = 1 := hd
    match S, hd', hv, h4 with
    | [x], _, hv, h4 =>
      refine ⟨x, va, rfl, h4 x List.mem_cons_self, ?_⟩
      show fX11_can_b11 ca ce code _ (nI s) (nI g) (nI l) (nI 1) (nI a) va = _
      unfold fX11_can_b11
      have h0 : va ((0 : Int32).toNatClampNeg) = nI x := hv.1
      rw [bd_eq _ bs, nm_q, ks, he, if_pos (nI_le (a := e) (b := a) (by omega) (by omega)), bd_eq _ (by decide), nm_q, h0]
  | cons v L ih =>
    intro a n va S g1 g2 g3 hc hv h4 hd
    have g1' : a + (L.length + 1) = e := g1
    have g2' : L.length + 1 < n := g2
    obtain ⟨n, rfl⟩ : ∃ z, n = z + 1 := ⟨n - 1, by omega⟩
    have ba := inb_nI (j := a) (n := 700) (by omega) (by decide)
    have ka := nI_clamp (n := a) (by omega)
    show ∃ (x : Nat) (va2 : Nat → Int32), evL (g + 8 * l) L (evI (g + 8 * l) v S) = [x] ∧ x < 4 ∧ fX11_can_b11 ca ce code (fX11_can_l11 ca ce code n) (nI s) (nI g) (nI l) (nI S.length) (nI a) va = some (nI x, va2)
    have hd' : if v = 3 then 1 ≤ S.length ∧ vd L S.length else if v = 4 ∨ v = 5 then 2 ≤ S.length ∧ vd L (S.length - 1) else (v < 3 ∨ (16 ≤ v ∧ v < 19) ∨ (24 ≤ v ∧ v < 26)) ∧ vd L (S.length + 1) := hd
    have hv26 : v < 26 := by
      by_cases q3 : v = 3
      · omega
      · rw [if_neg q3] at hd'
        by_cases q4 : v = 4 ∨ v = 5
        · omega
        · rw [if_neg q4] at hd'; have := hd'.1; omega
    have zv : ∀ w : Nat, w < 100 → (nI v = nI w ↔ v = w) := fun w hw => nI_eq (by omega) (by omega)
    have z3 : nI v = 3 ↔ v = 3 := zv 3 (by decide)
    have z4 : nI v = 4 ↔ v = 4 := zv 4 (by decide)
    have z5 : nI v = 5 ↔ v = 5 := zv 5 (by decide)
    have z2 : nI v = 2 ↔ v = 2 := zv 2 (by decide)
    have l2 : (2 : Int32) ≤ nI v ↔ 2 ≤ v := nI_leI (a := 2) (b := v) (by decide) (by omega)
    have l24 : (24 : Int32) ≤ nI v ↔ 24 ≤ v := nI_leI (a := 24) (b := v) (by decide) (by omega)
    have p2 : ∀ n, nI (n + 1 + 1) - 2 = nI n := fun n => by have := nI_dif (n := n + 1 + 1) (k := 2) (by omega); rw [show n + 1 + 1 - 2 = n by omega] at this; exact this
    have pm : ∀ n, nI (n + 1) + (-1) = nI n := fun n => by rw [← nI_pred n]; exact (Int32.sub_eq_add_neg _ _).symm
    unfold fX11_can_b11 fX11_can_p86 fX11_can_p170 fX11_can_p235 fX11_can_p239
    rw [bd_eq _ bs, nm_q, ks, he, if_neg (nI_ge (a := a) (b := e) (by omega) (by omega)), bd_eq _ ba, nm_q, ka, hc.1]
    -- an operand
    have put : ∀ (w : Nat), evI (g + 8 * l) v S = w :: S → w < 4 → vd L (S.length + 1) → ∃ (x : Nat) (va2 : Nat → Int32), evL (g + 8 * l) L (evI (g + 8 * l) v S) = [x] ∧ x < 4 ∧ (bd (inb (nI S.length) 700) <| nm (upd va (nI S.length).toNatClampNeg (nI w)) fun c24x => nm (nI S.length + 1) fun x25 => nm (nI a + 1) fun x1 => fX11_can_l11 ca ce code n (nI s) (nI g) (nI l) x25 x1 c24x) = some (nI x, va2) := by
      intro w e1 e2 e3
      rw [e1, bd_eq _ (inb_nI (j := S.length) (n := 700) (by omega) (by decide)), nm_q, nI_clamp (n := S.length) (by omega), nm_q, nI_1, nm_q, nI_1]
      exact ih (a + 1) n _ (w :: S) (by omega) (by omega) (by show S.length + 1 ≤ a + 1; omega) hc.2 (stk_top hv) (fun x hx => (List.mem_cons.mp hx).elim (fun z => by rw [z]; exact e2) (h4 x)) e3
    by_cases q3 : v = 3
    · rw [if_pos q3] at hd'
      match S, hd', hv, h4, g3 with
      | x :: t, hd', hv, h4, g3 =>
        have g3' : t.length + 1 ≤ a := g3
        obtain ⟨f1, f2⟩ := ev_3 x (h4 x List.mem_cons_self)
        have eE : evI (g + 8 * l) v (x :: t) = (x % 2 * 2 + x / 2) :: t := by unfold evI; rw [if_pos q3]
        have bt := inb_nI (j := t.length) (n := 700) (by omega) (by decide)
        have kt := nI_clamp (n := t.length) (by omega)
        have hx := hv.1
        rw [if_pos (z3.mpr q3), eE]
        rw [show (x :: t).length = t.length + 1 from rfl, nm_q, nI_pred, nm_q, bd_eq _ bt, nm_q, kt, hx, nm_q, nm_q, nm_q, bd_eq _ bt, nm_q, kt, hx, nm_q, nm_q, bd_eq _ bt, nm_q, nm_q, nI_1, f1]
        exact ih (a + 1) n _ (_ :: t) (by omega) (by omega) (by show t.length + 1 ≤ a + 1; omega) hc.2 (stk_top hv.2) (fun y hy => (List.mem_cons.mp hy).elim (fun z => by rw [z]; exact f2) (fun z => h4 y (List.mem_cons_of_mem _ z))) hd'.2
    · rw [if_neg q3] at hd'
      rw [if_neg (fun z => q3 (z3.mp z))]
      by_cases q45 : v = 4 ∨ v = 5
      · rw [if_pos q45] at hd'
        match S, hd', hv, h4, g3 with
        | [_], hd', hv, h4, g3 => exact absurd hd'.1 (show ¬ 2 ≤ 1 by decide)
        | b :: x :: t, hd', hv, h4, g3 =>
          have g3' : t.length + 1 + 1 ≤ a := g3
          have hb4 := h4 b List.mem_cons_self
          have hx4 := h4 x (List.mem_cons_of_mem _ List.mem_cons_self)
          have bt := inb_nI (j := t.length) (n := 700) (by omega) (by decide)
          have kt := nI_clamp (n := t.length) (by omega)
          have bt1 := inb_nI (j := t.length + 1) (n := 700) (by omega) (by decide)
          have kt1 := nI_clamp (n := t.length + 1) (by omega)
          have hb : va (t.length + 1) = nI b := hv.1
          have hx := hv.2.1
          have fin : ∀ w : Nat, w < 4 → evI (g + 8 * l) v (b :: x :: t) = w :: t → ∃ (x2 : Nat) (va2 : Nat → Int32), evL (g + 8 * l) L (evI (g + 8 * l) v (b :: x :: t)) = [x2] ∧ x2 < 4 ∧ fX11_can_l11 ca ce code n (nI s) (nI g) (nI l) (nI (t.length + 1)) (nI (a + 1)) (upd va t.length (nI w)) = some (nI x2, va2) := by
            intro w hw ee
            rw [ee]
            exact ih (a + 1) n _ (w :: t) (by omega) (by omega) (by show t.length + 1 ≤ a + 1; omega) hc.2 (stk_top hv.2.2) (fun y hy => (List.mem_cons.mp hy).elim (fun z => by rw [z]; exact hw) (fun z => h4 y (List.mem_cons_of_mem _ (List.mem_cons_of_mem _ z)))) hd'.2
          by_cases w4 : v = 4
          · obtain ⟨f1, f2⟩ := ev_4 x hx4 b hb4
            have r := fin _ f2 (by unfold evI; rw [if_neg q3, if_pos w4])
            rw [if_pos (z4.mpr w4)]
            rw [show (b :: x :: t).length = t.length + 1 + 1 from rfl, nm_q, p2, bd_eq _ bt, nm_q, kt, hx, nm_q, nI_pred, bd_eq _ bt1, nm_q, kt1, hb, nm_q, pm, nm_q, nm_q, nm_q, nm_q, nm_q, nm_q, nI_pred, if_pos (z4.mpr w4), nm_q, nm_q, nm_q, nm_q, f1, bd_eq _ bt, nm_q, kt, nm_q, nI_1]
            exact r
          · obtain ⟨f1, f2⟩ := ev_5 x hx4 b hb4
            have w5 : v = 5 := by omega
            have r := fin _ f2 (by unfold evI; rw [if_neg q3, if_neg w4, if_pos w5])
            rw [if_neg (fun z => w4 (z4.mp z)), if_pos (z5.mpr w5)]
            rw [show (b :: x :: t).length = t.length + 1 + 1 from rfl, nm_q, p2, bd_eq _ bt, nm_q, kt, hx, nm_q, nI_pred, bd_eq _ bt1, nm_q, kt1, hb, nm_q, pm, nm_q, nm_q, nm_q, nm_q, nm_q, nm_q, nI_pred, if_neg (fun z => w4 (z4.mp z)), nm_q, nm_q, nm_q, f1, bd_eq _ bt, nm_q, kt, nm_q, nI_1]
            exact r
      · rw [if_neg q45] at hd'
        have w4 : ¬ v = 4 := fun z => q45 (Or.inl z)
        have w5 : ¬ v = 5 := fun z => q45 (Or.inr z)
        have eE : evI (g + 8 * l) v S = (if v = 0 then 1 else if v = 1 then 2 else if v = 2 then 3 else if v < 24 then (if (g + 8 * l).testBit (v - 16) then 2 else 1) else (if (g + 8 * l).testBit (v - 21) then 2 else 1)) :: S := by
          unfold evI; rw [if_neg q3, if_neg w4, if_neg w5]
        have b21 : ∀ c : Bool, (if c = true then 2 else 1) < 4 := by decide
        rw [if_neg (fun z => w4 (z4.mp z)), if_neg (fun z => w5 (z5.mp z))]
        by_cases y2 : 2 ≤ v
        · rw [if_pos (l2.mpr y2)]
          by_cases e2 : v = 2
          · rw [if_pos (z2.mpr e2)]
            exact put 3 (by rw [eE, if_neg (show ¬ v = 0 by omega), if_neg (show ¬ v = 1 by omega), if_pos e2]) (by decide) hd'.2
          · rw [if_neg (fun z => e2 (z2.mp z))]
            by_cases y24 : 24 ≤ v
            · obtain ⟨u, hu⟩ : ∃ u, v = 24 + u := ⟨v - 24, by omega⟩
              have hr := ev_l u (by omega) g hg l hl
              rw [← hu] at hr
              rw [if_pos (l24.mpr y24), nm_q, nm_q, nm_q, nm_q, hr]
              refine put _ ?_ (b21 _) hd'.2
              rw [eE, if_neg (show ¬ v = 0 by omega), if_neg (show ¬ v = 1 by omega), if_neg e2, if_neg (show ¬ v < 24 by omega), show v - 21 = 3 + u by omega]
            · obtain ⟨u, hu⟩ : ∃ u, v = 16 + u := ⟨v - 16, by have := hd'.1; omega⟩
              have hr := ev_g u (by have := hd'.1; omega) g hg l hl
              rw [← hu] at hr
              rw [if_neg (fun z => y24 (l24.mp z)), nm_q, nm_q, nm_q, nm_q, hr]
              refine put _ ?_ (b21 _) hd'.2
              rw [eE, if_neg (show ¬ v = 0 by omega), if_neg (show ¬ v = 1 by omega), if_neg e2, if_pos (show v < 24 by omega), show v - 16 = u by omega]
        · rw [if_neg (fun z => y2 (l2.mp z)), nm_q]
          by_cases e0 : v = 0
          · rw [e0, show (1 : Int32) <<< (nI 0 &&& 31) = nI 1 from by decide]
            rw [e0] at put eE
            exact put 1 (by rw [eE, if_pos rfl]) (by decide) hd'.2
          · have e1 : v = 1 := by omega
            rw [e1, show (1 : Int32) <<< (nI 1 &&& 31) = nI 2 from by decide]
            rw [e1] at put eE
            exact put 2 (by rw [eE, if_neg (by decide), if_pos rfl]) (by decide) hd'.2
