/-! ===== pure rows 25: layWord, far ===== -/
theorem r_layWord {E R L : Nat} {kn : Int32} {c1 c2 m c4 c5 c6 c7 : Nat → Int32} {pr : Nat → Nat → Nat} {K w : Nat → Nat} (hP : okPr R pr) (hm : rmN R m pr) (hK : ∀ i b, i < 192 → b < 16 → c1 (16 * i + b) = if (K i).testBit b then 1 else 0) (hkn : kn = 0 ∨ ∃ x, tm x c2 ∧ isD (x0 K) R pr x) (hE : relEnds E c4) (hL : L ≤ 30) (hw : ∀ j, j < L → c6 j = nI (w j) ∧ w j < 12) :
    Wq (fX11_layWord (nI R) (nI L) kn c1 c2 m c4 c5 c6 c7) (fun r => r.1 ≠ 0 ∧ ∃ x, tm x r.2.1 ∧ isD (x0 K) R pr x ∧ TM E.testBit x w L r.2.2.1 r.2.2.2) := by
  obtain ⟨fu, hfu, hg⟩ := fu_any
  unfold fX11_layWord
  rw [hfu]
  refine Wq_ob (r_reckon hP hm hK hkn) (fun o ho => ?_)
  obtain ⟨ok, oc⟩ := o
  obtain ⟨h1, x, hx, hD⟩ := ho
  simp only at h1 hx
  have key2 : ∀ (k i n : Nat) (c d : Nat → Int32) (v : Nat → Nat), i + k = L → k < n → (∀ j, j < i → v j = w j) → TM E.testBit x v i c d → Wq (fX11_layWord_l41 (nI R) (nI L) c1 m c4 c6 n (nI i) ok oc c d) (fun r => r.1 ≠ 0 ∧ ∃ x, tm x r.2.1 ∧ isD (x0 K) R pr x ∧ TM E.testBit x w L r.2.2.1 r.2.2.2) := by
    intro k
    induction k with
    | zero =>
      intro i n c d v g1 g2 hv hT
      obtain ⟨n, rfl⟩ : ∃ z, n = z + 1 := ⟨n - 1, by omega⟩
      show Wq (fX11_layWord_b41 (nI R) (nI L) c1 m c4 c6 _ (nI i) ok oc c d) _
      unfold fX11_layWord_b41
      rw [if_pos (nI_le (by omega) (by omega))]
      have e1 : i = L := by omega
      subst e1
      refine Wq_some ⟨h1, x, hx, hD, fun h hh a ha => ?_, fun h hh => ?_⟩
      · have q1 := hT.1 h hh a ha
        rw [tw_congr h (fun j hj => hv j (by omega))] at q1
        exact q1
      · rw [← hv h hh]; exact hT.2 h hh
    | succ k ih =>
      intro i n c d v g1 g2 hv hT
      obtain ⟨n, rfl⟩ : ∃ z, n = z + 1 := ⟨n - 1, by omega⟩
      show Wq (fX11_layWord_b41 (nI R) (nI L) c1 m c4 c6 _ (nI i) ok oc c d) _
      unfold fX11_layWord_b41
      obtain ⟨w1, w2⟩ := hw i (by omega)
      rw [if_neg (nI_ge (by omega) (by omega))]
      simp only [inb_nI (j := i) (n := 30) (by omega) (by decide), bd, nm, nI_clamp (n := i) (by omega), w1]
      refine Wq_ob (r_lay (s := w i) (H := i) w2 hx hT (by omega)) (fun r hr => ?_)
      obtain ⟨rd, rc⟩ := r
      simp only at hr
      show Wq (fX11_layWord_l41 (nI R) (nI L) c1 m c4 c6 n (nI i + 1) ok oc rc rd) _
      rw [nI_1]
      refine ih (i + 1) n rc rd (wset v i (w i)) (by omega) (by omega) (fun j hj => ?_) hr
      unfold wset
      by_cases z : j = i
      · rw [if_pos z, z]
      · rw [if_neg z]; exact hv j (by omega)
  have key : ∀ (k i n : Nat) (c : Nat → Int32), i + k = 16 → k < n → (∀ a, a < i → c a = mI (tw E.testBit x w 0 a)) → Wq (fX11_layWord_l6 (nI R) (nI L) c1 m c4 c6 n (nI i) ok oc c c7) (fun r => r.1 ≠ 0 ∧ ∃ x, tm x r.2.1 ∧ isD (x0 K) R pr x ∧ TM E.testBit x w L r.2.2.1 r.2.2.2) := by
    intro k
    induction k with
    | zero =>
      intro i n c g1 g2 q
      obtain ⟨n, rfl⟩ : ∃ z, n = z + 1 := ⟨n - 1, by omega⟩
      show Wq (fX11_layWord_b6 (nI R) (nI L) c1 m c4 c6 _ (nI i) ok oc c c7) _
      unfold fX11_layWord_b6
      have h16 : (16 : Int32) ≤ nI i := nI_le (a := 16) (b := i) (by omega) (by omega)
      rw [if_pos h16, hfu]
      refine key2 L 0 fu c c7 w (by omega) (by omega) (fun j hj => rfl) ⟨fun h hh a ha => ?_, fun h hh => by omega⟩
      have e0 : h = 0 := by omega
      subst e0
      rw [show 16 * 0 + a = a by omega]
      exact q a (by omega)
    | succ k ih =>
      intro i n c g1 g2 q
      obtain ⟨n, rfl⟩ : ∃ z, n = z + 1 := ⟨n - 1, by omega⟩
      show Wq (fX11_layWord_b6 (nI R) (nI L) c1 m c4 c6 _ (nI i) ok oc c c7) _
      unfold fX11_layWord_b6 fX11_layWord_p32
      have h16 : ¬ (16 : Int32) ≤ nI i := nI_ge (a := i) (b := 16) (by omega) (by omega)
      have hi := hE.2 i (by omega)
      have hx0 : tw E.testBit x w 0 i = if E.testBit i then 0 else 536870912 := rfl
      have step : ∀ v : Int32, v = mI (tw E.testBit x w 0 i) → Wq (fX11_layWord_l6 (nI R) (nI L) c1 m c4 c6 n (nI (i + 1)) ok oc (upd c i v) c7) (fun r => r.1 ≠ 0 ∧ ∃ x, tm x r.2.1 ∧ isD (x0 K) R pr x ∧ TM E.testBit x w L r.2.2.1 r.2.2.2) := by
        intro v hv
        refine ih (i + 1) n _ (by omega) (by omega) (fun a ha => ?_)
        unfold upd
        by_cases z : a = i
        · rw [if_pos z, z]; exact hv
        · rw [if_neg z]; exact q a (by omega)
      simp only [if_neg h16, inb_nI (j := i) (n := 16) (by omega) (by decide), bd, nm, nI_clamp (n := i) (by omega), hi, inb_nI (j := i) (n := 64128) (by omega) (by decide), nI_1]
      by_cases hb : E.testBit i = true
      · simp only [hb, if_true, if_neg n10]
        exact step 0 (by rw [hx0, if_pos hb]; rfl)
      · have hb0 : E.testBit i = false := by simpa using hb
        simp only [hb0, Bool.false_eq_true, if_false, if_true]
        exact step 2000000 (by rw [hx0, if_neg hb]; exact mI_inf.symm)
  exact key 16 0 fu c5 (by omega) (by omega) (fun a ha => absurd ha (by omega))
def farA (t : Nat) : Int32 := if t = 536870912 then -1 else nI t
theorem r_farA {t : Nat} (h : vl t) : (if mI t = 2000000 then (-1 : Int32) else mI t) = farA t := by
  unfold farA
  rcases vl_cases h with h1 | h1
  · rw [mI_fin h1, if_neg (nI_n2m h1), if_neg (by omega)]
  · subst h1; rw [mI_inf, if_pos rfl, if_pos rfl]
theorem c_farA {t : Nat} (h : vl t) : (if (536870912 : Int32) ≤ nI t then (-1 : Int32) else nI t) = farA t := by
  unfold farA
  rcases vl_cases h with h1 | h1
  · have k1 : ¬ (536870912 : Int32) ≤ nI t := nI_ge (a := t) (b := 536870912) (by omega) (by decide)
    rw [if_neg k1, if_neg (by omega)]
  · subst h1
    have k1 : (536870912 : Int32) ≤ nI 536870912 := nI_le (a := 536870912) (b := 536870912) (by omega) (by omega)
    rw [if_pos k1, if_pos rfl]
theorem r_far {a : Nat} (ha : a < 8) {E R L : Nat} {thr kn : Int32} {c1 c2 m c4 c5 c6 c7 : Nat → Int32} {pr : Nat → Nat → Nat} {K w : Nat → Nat} (hP : okPr R pr) (hm : rmN R m pr) (hK : ∀ i b, i < 192 → b < 16 → c1 (16 * i + b) = if (K i).testBit b then 1 else 0) (hkn : kn = 0 ∨ ∃ x, tm x c2 ∧ isD (x0 K) R pr x) (hE : relEnds E c4) (hL : L ≤ 30) (hw : ∀ j, j < L → c6 j = nI (w j) ∧ w j < 12) :
    Wq (fX11_far (nI a) thr (nI R) (nI L) kn c1 c2 m c4 c5 c6 c7) (fun r => r.2.1 = 0 ∧ r.2.2.1 ≠ 0 ∧ ∃ x, tm x r.2.2.2.1 ∧ isD (x0 K) R pr x ∧ r.1 = farA (tw E.testBit x w L a)) := by
  unfold fX11_far fX11_far_p48
  have h1 : ¬ (nI a < 0 ∨ 7 < nI a) := fun k => k.elim (fun z => nI_pos (n := a) (by omega) z) (fun z => absurd ((nI_ltI (a := 7) (b := a) (by decide) (by omega)).mp z) (by omega))
  rw [e_in, if_neg h1, ob_s, if_neg n10]
  refine Wq_ob (r_layWord hP hm hK hkn hE hL hw) (fun o ho => ?_)
  obtain ⟨q1, x, q2, q3, q4⟩ := ho
  have i2 : (16 : Int32) * nI L = nI (16 * L) := pk_mul 16 _
  simp only [nm, i2, nI_add, inb_nI (j := 16 * L + a) (n := 64128) (by omega) (by decide), bd, nI_clamp (n := 16 * L + a) (by omega), q4.1 L (Nat.le_refl _) a (by omega)]
  have rf := r_farA (tw_vl E.testBit x w L a)
  by_cases hc : mI (tw E.testBit x w L a) = 2000000
  · rw [if_pos hc] at rf ⊢
    exact Wq_some ⟨rfl, q1, x, q2, q3, rf⟩
  · rw [if_neg hc] at rf ⊢
    exact Wq_some ⟨rfl, q1, x, q2, q3, rf⟩
theorem tg_s {α : Type} (k : Nat) (a : α) : tg k (some a) = some (k, a) := rfl
theorem Wq_tg {α : Type} {k : Nat} {x : Option α} {P : Nat × α → Prop} (h : Wq x (fun a => P (k, a))) : Wq (tg k x) P := by
  obtain ⟨a, rfl, ha⟩ := h
  exact ⟨_, rfl, ha⟩
/-- the class's table is right, or not of this system -/
def okTab (so chg : Int32) (c : Nat → Int32) (K : Nat → Nat) (R : Nat) (pr : Nat → Nat → Nat) : Prop := so = chg → ∃ x, tb x c ∧ isD (x0 K) R pr x
theorem c_steps {a : Nat} (ha : a < 8) {E R L : Nat} {so chg ht0 : Int32} {c2 c3 c4 c5 c6 c7 c8 c9 cw d1 d2 : Nat → Int32} {pr : Nat → Nat → Nat} {K w : Nat → Nat} (hR : ruN R c4 c5 c6 c7 c8 c9 pr) (hK : ∀ i, i < 192 → K i < 65536 ∧ c2 i = nI (K i)) (hso : okTab so chg c3 K R pr) (hE : E < 65536) (hL : L ≤ 30) (hw : ∀ j, j < L → cw j = nI (w j) ∧ w j < 12) :
    Wq (fX10_stepsFrom_x (nI a) so (nI R) (nI E) (nI L) chg c2 c3 c4 c5 c6 c7 c8 c9 30 ht0 d1 cw d2) (fun r => r.1 = 0 ∧ r.2.2.1 = chg ∧ ∃ x, tb x r.2.2.2.1 ∧ isD (x0 K) R pr x ∧ r.2.1 = nI (tw E.testBit x w L a) ∧ r.2.2.2.2.1 = nI L) := by
  unfold fX10_stepsFrom_x
  refine Wq_tg (Wq_ob (e_upToDate hR hK hso) (fun o ho => ?_))
  obtain ⟨q1, x, q2, q3⟩ := ho
  refine Wq_ob (c_build (E := E.testBit) (w := w) (M := 30) hE (fun _ _ => rfl) hL hL (by decide) (by decide) (by decide) (by decide) (by decide) hw q2 ht0) (fun r hr => ?_)
  obtain ⟨p1, p2⟩ := hr
  rw [p1, c_stepsFrom (by omega) (by omega) (by decide) p2, ob_s]
  exact Wq_some ⟨rfl, q1, x, q2, q3, rfl, rfl⟩
theorem c_steps_dt {a : Nat} (ha : a < 8) {E R L : Nat} {chg : Int32} {c2 c4 c5 c6 c7 c8 c9 cw : Nat → Int32} {pr : Nat → Nat → Nat} {K w : Nat → Nat} (hR : ruN R c4 c5 c6 c7 c8 c9 pr) (hK : ∀ i, i < 192 → K i < 65536 ∧ c2 i = nI (K i)) (hso : ¬ chg = -1) (hE : E < 65536) (hL : L ≤ 30) (hw : ∀ j, j < L → cw j = nI (w j) ∧ w j < 12) :
    Wq (fX10_stepsFrom_dt (nI a) (nI R) (nI E) (nI L) chg c2 c4 c5 c6 c7 c8 c9 cw) (fun r => r.1 = 0 ∧ r.2.2.1 = chg ∧ ∃ x, tb x r.2.2.2.1 ∧ isD (x0 K) R pr x ∧ r.2.1 = nI (tw E.testBit x w L a) ∧ r.2.2.2.2.1 = 30 ∧ r.2.2.2.2.2.1 = nI L) := by
  unfold fX10_stepsFrom_dt
  refine Wq_tg (Wq_ob (e_upToDate hR hK (fun h => absurd h.symm hso)) (fun o ho => ?_))
  obtain ⟨q1, x, q2, q3⟩ := ho
  refine Wq_ob (c_build (E := E.testBit) (w := w) (M := 30) hE (fun _ _ => rfl) hL hL (by decide) (by decide) (by decide) (by decide) (by decide) hw q2 0) (fun r hr => ?_)
  obtain ⟨p1, p2⟩ := hr
  rw [p1, c_stepsFrom (by omega) (by omega) (by decide) p2, ob_s]
  exact Wq_some ⟨rfl, q1, x, q2, q3, rfl, rfl, rfl⟩
