/-! ===== pure rows 31: findWay, way (reference) ===== -/
theorem TM_x {E : Nat → Bool} {x x2 w : Nat → Nat} {H : Nat} {c3 c4 : Nat → Int32} (h : TM E x w H c3 c4) (hx : ∀ j, j < 3072 → x j = x2 j) : TM E x2 w H c3 c4 := by
  refine ⟨fun k hk a ha => ?_, h.2⟩
  rw [← tw_x hx k (fun i hi => (h.2 i (by omega)).2) a ha]
  exact h.1 k hk a ha
theorem r_layWordD {E R L : Nat} {kn : Int32} {c1 c2 m c4 c5 c6 c7 : Nat → Int32} {pr : Nat → Nat → Nat} {K w : Nat → Nat} (hP : okPr R pr) (hm : rmN R m pr) (hK : ∀ i b, i < 192 → b < 16 → c1 (16 * i + b) = if (K i).testBit b then 1 else 0) (hkn : kn = 0 ∨ tm (DD K R pr) c2) (hE : relEnds E c4) (hL : L ≤ 30) (hw : ∀ j, j < L → c6 j = nI (w j) ∧ w j < 12) :
    Wq (fX11_layWord (nI R) (nI L) kn c1 c2 m c4 c5 c6 c7) (fun r => r.1 ≠ 0 ∧ tm (DD K R pr) r.2.1 ∧ TM E.testBit (DD K R pr) w L r.2.2.1 r.2.2.2) := by
  refine Wq_mono (r_layWord hP hm hK (hkn.imp id (fun h => ⟨_, h, (DD_is hP).1⟩)) hE hL hw) (fun r hr => ?_)
  obtain ⟨h1, x, h2, h3, h4⟩ := hr
  exact ⟨h1, tm_DD hP h2 h3, TM_x h4 (isD_eq h3 (DD_is hP).1)⟩
theorem mI_2000 {v : Nat} (h : vl v) : mI v ≤ 2000 ↔ v ≤ 2000 := by
  have e : (2000 : Int32) = mI 2000 := by decide
  rw [e]
  exact mI_le h (Or.inl (by decide))
/-- what the reference keeps of a way -/
def okWayM (E : Nat → Bool) (K : Nat → Nat) (R : Nat) (pr : Nat → Nat → Nat) (w : Nat → Nat) (L a : Nat) (wl : Int32) (c : Nat → Int32) : Prop :=
  if tw E (DD K R pr) w L a ≤ 2000 then wl = nI (tw E (DD K R pr) w L a) ∧ ∀ j, j < tw E (DD K R pr) w L a → c j = nI (rlW E (DD K R pr) R pr (tw E (DD K R pr) w L a) (a, w, L) j) else wl = 0
theorem r_findWay {a E R L : Nat} {kn ws wl : Int32} {c1 c2 m c4 c5 c6 c7 c8 : Nat → Int32} {pr : Nat → Nat → Nat} {K w : Nat → Nat} (hN : netUp K) (ha : a < 8) (hP : okPr R pr) (hm : rmN R m pr) (hK : ∀ i b, i < 192 → b < 16 → c1 (16 * i + b) = if (K i).testBit b then 1 else 0) (hkn : kn = 0 ∨ tm (DD K R pr) c2) (hE : relEnds E c4) (hL : L ≤ 30) (hw : ∀ j, j < L → c6 j = nI (w j) ∧ w j < 12) :
    Wq (fX11_findWay (nI a) (nI R) (nI L) kn ws wl c1 c2 m c4 c5 c6 c7 c8) (fun r => r.1 ≠ 0 ∧ r.2.1 = nI a ∧ tm (DD K R pr) r.2.2.2.1 ∧ okWayM E.testBit K R pr w L a r.2.2.1 r.2.2.2.2.2.2) := by
  obtain ⟨fu, hfu, hg⟩ := fu_any
  have i2 : (16 : Int32) * nI L = nI (16 * L) := pk_mul 16 _
  unfold fX11_findWay
  rw [hfu]
  refine Wq_ob (r_layWordD hP hm hK hkn hE hL hw) (fun o ho => ?_)
  obtain ⟨okn, oc2, oc5, oc7⟩ := o
  obtain ⟨h1, h2, h3⟩ := ho
  simp only at h1 h2 h3
  have hq := h3.1 L (Nat.le_refl _) a (by omega)
  rw [nm_q, i2, nm_q, nI_add, bd_eq _ (inb_nI (j := 16 * L + a) (n := 64128) (by omega) (by decide)), nm_q, nI_clamp (n := 16 * L + a) (by omega)]
  show Wq (if oc5 (16 * L + a) ≤ 2000 then fX11_findWay_l53 (nI R) (nI L) c1 m c4 c6 fu (oc5 (16 * L + a)) (nI a) (nI L) 0 okn (nI a) (oc5 (16 * L + a)) oc2 oc5 oc7 c8 else some (okn, nI a, 0, oc2, oc5, oc7, c8)) _
  rw [hq]
  have hvl := tw_vl E.testBit (DD K R pr) w L a
  unfold okWayM
  generalize hv : tw E.testBit (DD K R pr) w L a = v at *
  by_cases hv2 : v ≤ 2000
  · rw [if_pos ((mI_2000 hvl).mpr hv2), mI_fin (v := v) (by omega)]
    have ok := cfW_ok (E := E.testBit) hN hP hv2 (c0 := (a, w, L)) ⟨ha, fun k hk => (hw k hk).2⟩ hv
    have key : ∀ (k i n : Nat) (d5 d7 d8 : Nat → Int32), i + k = v → k < n → TM E.testBit (DD K R pr) (cfW E.testBit (DD K R pr) R pr v (a, w, L) i).2.1 (cfW E.testBit (DD K R pr) R pr v (a, w, L) i).2.2 d5 d7 → (∀ j, j < i → d8 j = nI (rlW E.testBit (DD K R pr) R pr v (a, w, L) j)) →
        Wq (fX11_findWay_l53 (nI R) (nI L) c1 m c4 c6 n (nI (v - i)) (nI (cfW E.testBit (DD K R pr) R pr v (a, w, L) i).1) (nI (cfW E.testBit (DD K R pr) R pr v (a, w, L) i).2.2) (nI i) okn (nI a) (nI v) oc2 d5 d7 d8) (fun r => r.1 ≠ 0 ∧ r.2.1 = nI a ∧ tm (DD K R pr) r.2.2.2.1 ∧ if v ≤ 2000 then r.2.2.1 = nI v ∧ ∀ j, j < v → r.2.2.2.2.2.2 j = nI (rlW E.testBit (DD K R pr) R pr v (a, w, L) j) else r.2.2.1 = 0) := by
      intro k
      induction k with
      | zero =>
        intro i n d5 d7 d8 g1 g2 hT hd
        obtain ⟨n, rfl⟩ : ∃ z, n = z + 1 := ⟨n - 1, by omega⟩
        show Wq (fX11_findWay_b53 (nI R) (nI L) c1 m c4 c6 _ (nI (v - i)) _ _ (nI i) okn (nI a) (nI v) oc2 d5 d7 d8) _
        unfold fX11_findWay_b53
        rw [if_pos (nI_le (by omega) (by omega))]
        have e : i = v := by omega
        subst e
        exact Wq_some ⟨h1, rfl, h2, by rw [if_pos hv2]; exact ⟨rfl, hd⟩⟩
      | succ k ih =>
        intro i n d5 d7 d8 g1 g2 hT hd
        obtain ⟨n, rfl⟩ : ∃ z, n = z + 1 := ⟨n - 1, by omega⟩
        obtain ⟨o1, o2, o3, o4⟩ := ok i (by omega)
        obtain ⟨o5, o6, o7⟩ := o4 (by omega)
        have ihh := ih (i + 1) n
        rw [cfW_s] at ihh
        show Wq (fX11_findWay_b53 (nI R) (nI L) c1 m c4 c6 _ (nI (v - i)) _ _ (nI i) okn (nI a) (nI v) oc2 d5 d7 d8) _
        generalize hcf : cfW E.testBit (DD K R pr) R pr v (a, w, L) i = c at *
        generalize hrl : rlW E.testBit (DD K R pr) R pr v (a, w, L) i = r at *
        obtain ⟨p, u, H1⟩ := c
        simp only at o1 o2 o3 o5 o6 o7 hT ihh ⊢
        obtain ⟨H, rfl⟩ : ∃ z, H1 = z + 1 := ⟨H1 - 1, by omega⟩
        have o3' : H + 1 ≤ L + i := o3
        have eH1 : nI (H + 1) - 1 = nI H := nI_pred H
        have hk0 : ¬ nI (H + 1) ≤ 0 := nI_nle (by omega) (by omega)
        unfold fX11_findWay_b53 fX11_findWay_p83
        rw [if_neg (nI_ge (by omega) (by omega)), if_neg hk0, nm_q, eH1, bd_eq _ (inb_nI (j := H) (n := 4008) (by omega) (by decide)), nm_q, nI_clamp (n := H) (by omega), (hT.2 H (by omega)).1, hfu]
        rw [show v - i = (v - (i + 1)) + 1 by omega]
        refine r_l88 (v := v - (i + 1)) (r := r) hP hm h2 o1.1 (fun k hk => o1.2 k hk) (by omega) (by omega) (by omega) o6 o7 (fun e5 e7 hT2 => ?_) r 0 fu d5 d7 (by omega) (by have := o6.1; have := hP.1; omega) hT
        refine ihh _ _ _ (by omega) (by omega) hT2 (fun j hj => ?_)
        unfold upd
        by_cases e : j = i
        · rw [if_pos e, e, hrl]
        · rw [if_neg e]; exact hd j (by omega)
    have k0 := key v 0 fu oc5 oc7 c8 (by omega) (by omega) h3 (fun j hj => absurd hj (by omega))
    rw [show v - 0 = v by omega] at k0
    exact k0
  · rw [if_neg (fun z => hv2 ((mI_2000 hvl).mp z))]
    exact Wq_some ⟨h1, rfl, h2, by rw [if_neg hv2]⟩
/-- the answer of way -/
noncomputable def wayA (E : Nat → Bool) (K : Nat → Nat) (R : Nat) (pr : Nat → Nat → Nat) (w : Nat → Nat) (L a : Nat) (k : Int32) : Int32 :=
  if tw E (DD K R pr) w L a ≤ 2000 ∧ ¬ k < 0 ∧ k < nI (tw E (DD K R pr) w L a) then nI (rlW E (DD K R pr) R pr (tw E (DD K R pr) w L a) (a, w, L) k.toNatClampNeg) else -1
theorem lt_pred {k : Int32} {v : Nat} (hv : v < 2 ^ 30) (hk : ¬ k < 0) : nI v - 1 < k ↔ ¬ k < nI v := by
  have e : (nI v - 1).toInt = (v : Int) - 1 := pk_sub_toInt (a := v) (b := 1) hv (by decide)
  rw [Int32.lt_iff_toInt_lt] at hk ⊢
  rw [Int32.lt_iff_toInt_lt, e, nI_toInt (by omega)]
  have h0 : (0 : Int32).toInt = 0 := by decide
  omega
theorem r_way {a E R L : Nat} (k : Int32) {thr kn ws wl : Int32} {c1 c2 m c4 c5 c6 c7 c8 : Nat → Int32} {pr : Nat → Nat → Nat} {K w : Nat → Nat} (hN : netUp K) (ha : a < 8) (hP : okPr R pr) (hm : rmN R m pr) (hK : ∀ i b, i < 192 → b < 16 → c1 (16 * i + b) = if (K i).testBit b then 1 else 0) (hkn : kn = 0 ∨ tm (DD K R pr) c2) (hE : relEnds E c4) (hL : L ≤ 30) (hw : ∀ j, j < L → c6 j = nI (w j) ∧ w j < 12) (hws : ws = nI a → okWayM E.testBit K R pr w L a wl c8) :
    Wq (fX11_way (nI a) k thr (nI R) (nI L) kn ws wl c1 c2 m c4 c5 c6 c7 c8) (fun r => r.1 = wayA E.testBit K R pr w L a k ∧ r.2.1 = 0 ∧ (r.2.2.1 = 0 ∨ tm (DD K R pr) r.2.2.2.2.2.1) ∧ r.2.2.2.1 = nI a ∧ okWayM E.testBit K R pr w L a r.2.2.2.2.1 r.2.2.2.2.2.2.2.2) := by
  have h1 : ¬ (nI a < 0 ∨ 7 < nI a) := fun k => k.elim (fun z => nI_pos (n := a) (by omega) z) (fun z => absurd ((nI_ltI (a := 7) (b := a) (by decide) (by omega)).mp z) (by omega))
  have fin : ∀ (kn2 ws2 wl2 : Int32) (d2 d5 d7 d8 : Nat → Int32), (kn2 = 0 ∨ tm (DD K R pr) d2) → ws2 = nI a → okWayM E.testBit K R pr w L a wl2 d8 → Wq (fX11_way_p31 (nI R) (nI L) c1 m c4 c6 k 0 kn2 ws2 wl2 d2 d5 d7 d8) (fun r => r.1 = wayA E.testBit K R pr w L a k ∧ r.2.1 = 0 ∧ (r.2.2.1 = 0 ∨ tm (DD K R pr) r.2.2.2.2.2.1) ∧ r.2.2.2.1 = nI a ∧ okWayM E.testBit K R pr w L a r.2.2.2.2.1 r.2.2.2.2.2.2.2.2) := by
    intro kn2 ws2 wl2 d2 d5 d7 d8 q1 q2 q3
    unfold fX11_way_p31 fX11_way_p55
    have q3' := q3
    unfold okWayM at q3'
    unfold wayA
    generalize hv : tw E.testBit (DD K R pr) w L a = v at *
    rw [nm_q, e_in]
    by_cases hk0 : k < 0
    · rw [if_pos (Or.inl hk0), ob_s, if_pos rfl]
      refine Wq_some ⟨?_, rfl, q1, q2, q3⟩
      rw [if_neg (fun z => z.2.1 hk0)]
    · by_cases hv2 : v ≤ 2000
      · rw [if_pos hv2] at q3'
        obtain ⟨q4, q5⟩ := q3'
        rw [q4]
        by_cases hkv : k < nI v
        · obtain ⟨j, hj, rfl⟩ := nI_of hk0
          have hjv : j < v := (nI_ltI (by omega) (by omega)).mp hkv
          rw [if_neg (fun z => z.elim hk0 (fun y => (lt_pred (by omega) hk0).mp y hkv)), ob_s, if_neg n10, bd_eq _ (inb_nI (j := j) (n := 2000) (by omega) (by decide)), nm_q, nI_clamp (n := j) (by omega)]
          refine Wq_some ⟨?_, rfl, q1, q2, ?_⟩
          · rw [if_pos ⟨hv2, hk0, hkv⟩]
            exact q5 j hjv
          · rw [← q4]; exact q3
        · rw [if_pos (Or.inr ((lt_pred (by omega) hk0).mpr hkv)), ob_s, if_pos rfl]
          refine Wq_some ⟨?_, rfl, q1, q2, ?_⟩
          · rw [if_neg (fun z => hkv z.2.2)]
          · rw [← q4]; exact q3
      · rw [if_neg hv2] at q3'
        rw [q3']
        have hk1 : (0 : Int32) - 1 < k := (lt_pred (v := 0) (by decide) hk0).mpr hk0
        rw [if_pos (Or.inr hk1), ob_s, if_pos rfl]
        refine Wq_some ⟨?_, rfl, q1, q2, ?_⟩
        · rw [if_neg (fun z => hv2 z.1)]
        · rw [← q3']; exact q3
  unfold fX11_way
  rw [e_in, if_neg h1, ob_s, if_neg n10]
  refine Wq_if (fun h => fin _ _ _ _ _ _ _ hkn h (hws h)) (fun _ => ?_)
  refine Wq_ob (r_findWay hN ha hP hm hK hkn hE hL hw) (fun o ho => ?_)
  exact fin _ _ _ _ _ _ _ (Or.inr ho.2.2.1) ho.2.1 ho.2.2.2
