/-! ===== pure rows 30: findWay (reference) ===== -/
theorem TM_congr {E : Nat → Bool} {x w w2 : Nat → Nat} {H : Nat} {c3 c4 : Nat → Int32} (h : TM E x w H c3 c4) (hw : ∀ k, k < H → w k = w2 k) : TM E x w2 H c3 c4 := by
  refine ⟨fun k hk a ha => ?_, fun k hk => ?_⟩
  · rw [← tw_congr k (fun i hi => hw i (by omega))]; exact h.1 k hk a ha
  · rw [← hw k hk]; exact h.2 k hk
theorem aft_vl {E : Nat → Bool} {x w : Nat → Nat} {H q n w1 w2 : Nat} : vl (aft x (tw E x w H) q n w1 w2) := by
  unfold aft
  by_cases y0 : n = 0
  · rw [if_pos y0]; exact tw_vl _ _ _ _ _
  · rw [if_neg y0]
    by_cases y1 : n = 1
    · rw [if_pos y1]; exact thr_vl
    · rw [if_neg y1]; exact minN_vl (fun _ => sm_vl) 16
theorem nxt_low {pr : Nat → Nat → Nat} {r p H : Nat} {u : Nat → Nat} {k : Nat} (hk : k < H) : (nxt pr r (p, u, H + 1)).2.1 k = u k := by
  show (if pr 3 r = 0 then u else if pr 3 r = 1 then wset u (H + 1 - 1) (pr 4 r) else wset (wset u (H + 1 - 1) (pr 5 r)) (H + 1 - 1 + 1) (pr 4 r)) k = u k
  rw [show H + 1 - 1 = H by omega]
  by_cases h0 : pr 3 r = 0
  · rw [if_pos h0]
  · rw [if_neg h0]
    by_cases h1 : pr 3 r = 1
    · rw [if_pos h1]; unfold wset; rw [if_neg (by omega)]
    · rw [if_neg h1]; unfold wset; rw [if_neg (by omega), if_neg (by omega)]
theorem r_l88 {E : Nat → Bool} {x u : Nat → Nat} {R H p v i r : Nat} {sz kn ws wl : Int32} {c1 m c4 c6 c2 c8 : Nat → Int32} {pr : Nat → Nat → Nat} (hP : okPr R pr) (hm : rmN R m pr) (hx : tm x c2) (hp : p < 8) (hu : ∀ k, k < H + 1 → u k < 12) (hH : H < 4000) (hi : i < 2000) (hv : v < 2000) (h1 : hit E x R pr (p, u, H + 1) v r) (h2 : ∀ s, s < r → ¬ hit E x R pr (p, u, H + 1) v s)
    {k53 : Int32 → Int32 → Int32 → Int32 → Int32 → Int32 → Int32 → (Nat → Int32) → (Nat → Int32) → (Nat → Int32) → (Nat → Int32) → Option (Int32 × Int32 × Int32 × (Nat → Int32) × (Nat → Int32) × (Nat → Int32) × (Nat → Int32))} {P : Int32 × Int32 × Int32 × (Nat → Int32) × (Nat → Int32) × (Nat → Int32) × (Nat → Int32) → Prop}
    (hk : ∀ d5 d7, TM E x (nxt pr r (p, u, H + 1)).2.1 (nxt pr r (p, u, H + 1)).2.2 d5 d7 → Wq (k53 (nI v) (nI (nxt pr r (p, u, H + 1)).1) (nI (nxt pr r (p, u, H + 1)).2.2) (nI (i + 1)) kn ws wl c2 d5 d7 (upd c8 i (nI r))) P) :
    ∀ (k j n : Nat) (c5 c7 : Nat → Int32), j + k = r → k + 1 < n → TM E x u (H + 1) c5 c7 → Wq (fX11_findWay_l88 (nI R) sz c1 m c4 c6 k53 n (nI (v + 1)) (nI p) (nI (H + 1)) (nI i) 0 (nI (u H)) (nI j) kn ws wl c2 c5 c7 c8) P := by
  have hR48 := hP.1
  have hrR := h1.1
  have eH1 : nI (H + 1) - 1 = nI H := nI_pred H
  have ev : nI (v + 1) - 1 = nI v := nI_pred v
  have ev2 : nI (v + 1) + (-1) = nI v := pk_m1 v
  -- the try of a rule that is of this state and sign
  have tryIt : ∀ (s : Nat) (k88 : Int32 → Int32 → Int32 → Int32 → Int32 → Int32 → Int32 → Int32 → Int32 → Int32 → (Nat → Int32) → (Nat → Int32) → (Nat → Int32) → (Nat → Int32) → Option (Int32 × Int32 × Int32 × (Nat → Int32) × (Nat → Int32) × (Nat → Int32) × (Nat → Int32))) (c5 c7 : Nat → Int32), s < R → pr 0 s = p → pr 1 s = u H → TM E x u (H + 1) c5 c7 →
      (∀ d5 d7, TM E x (nxt pr s (p, u, H + 1)).2.1 (nxt pr s (p, u, H + 1)).2.2 d5 d7 → Wq (fX11_findWay_p201 (nI R) sz c1 m c4 c6 k53 k88 (nI (v + 1)) (nI p) (nI (H + 1)) (nI i) (nI (u H)) (nI s) (nI (6 * s)) (nI (nxt pr s (p, u, H + 1)).2.2) kn ws wl c2 d5 d7 c8) P) →
      Wq (fX11_findWay_b88 (nI R) sz c1 m c4 c6 k53 k88 (nI (v + 1)) (nI p) (nI (H + 1)) (nI i) 0 (nI (u H)) (nI s) kn ws wl c2 c5 c7 c8) P := by
    intro s k88 c5 c7 hs q0 q1 hT hk2
    obtain ⟨p0, p1, p2, p3, p4, p5⟩ := hP.2 s hs
    obtain ⟨m0, m1, m2, m3, m4, m5⟩ := hm s hs
    have e6 : (6 : Int32) * nI s = nI (6 * s) := pk_mul 6 s
    have a1 : nI (6 * s) + 1 = nI (6 * s + 1) := nI_add _ 1
    have a3 : nI (6 * s) + 3 = nI (6 * s + 3) := nI_add _ 3
    have a4 : nI (6 * s) + 4 = nI (6 * s + 4) := nI_add _ 4
    have a5 : nI (6 * s) + 5 = nI (6 * s + 5) := nI_add _ 5
    have z2 : nI (pr 3 s) = 2 ↔ pr 3 s = 2 := nI_eq (a := pr 3 s) (b := 2) (by omega) (by decide)
    have z0 : nI (pr 3 s) ≤ 0 ↔ pr 3 s ≤ 0 := nI_leI (a := pr 3 s) (b := 0) (by omega) (by decide)
    have hTl : TM E x u H c5 c7 := TM_low hT (by omega)
    have eH : (nxt pr s (p, u, H + 1)).2.2 = H + pr 3 s := rfl
    have eW : (nxt pr s (p, u, H + 1)).2.1 = if pr 3 s = 0 then u else if pr 3 s = 1 then wset u H (pr 4 s) else wset (wset u H (pr 5 s)) (H + 1) (pr 4 s) := rfl
    rw [eH, eW] at hk2
    have b0 := inb_nI (j := 6 * s) (n := 288) (by omega) (by decide)
    have b1 := inb_nI (j := 6 * s + 1) (n := 288) (by omega) (by decide)
    have b3 := inb_nI (j := 6 * s + 3) (n := 288) (by omega) (by decide)
    have b4 := inb_nI (j := 6 * s + 4) (n := 288) (by omega) (by decide)
    have b5 := inb_nI (j := 6 * s + 5) (n := 288) (by omega) (by decide)
    have k0 := nI_clamp (n := 6 * s) (by omega)
    have k1 := nI_clamp (n := 6 * s + 1) (by omega)
    have k3 := nI_clamp (n := 6 * s + 3) (by omega)
    have k4 := nI_clamp (n := 6 * s + 4) (by omega)
    have k5 := nI_clamp (n := 6 * s + 5) (by omega)
    unfold fX11_findWay_b88
    rw [if_neg (nI_ge (a := s) (b := R) hs (by omega)), if_pos rfl, nm_q, e6, bd_eq _ b0, nm_q, k0, m0, if_pos (by rw [q0]), nm_q, a1, bd_eq _ b1, nm_q, k1, m1, if_pos (by rw [q1]), nm_q, eH1, nm_q, a3, bd_eq _ b3, nm_q, k3, m3]
    unfold fX11_findWay_p171
    by_cases h2 : pr 3 s = 2
    · rw [if_pos (z2.mpr h2), nm_q, a5, bd_eq _ b5, nm_q, k5, m5 h2]
      rw [if_neg (by omega), if_neg (by omega)] at hk2
      refine Wq_ob (r_lay (s := pr 5 s) (H := H) p5 hx hTl (by omega)) (fun o ho => ?_)
      rw [nm_q, nm_q, a3, bd_eq _ b3, nm_q, k3, m3, if_neg (fun z => by have := z0.mp z; omega), nm_q, a4, bd_eq _ b4, nm_q, k4, m4 (by omega), nI_1]
      refine Wq_ob (r_lay (s := pr 4 s) (H := H + 1) p4 hx ho (by omega)) (fun o2 ho2 => ?_)
      rw [nm_q, nI_1]
      rw [h2] at hk2
      exact hk2 _ _ ho2
    · rw [if_neg (fun z => h2 (z2.mp z)), nm_q, a3, bd_eq _ b3, nm_q, k3, m3]
      by_cases h0 : pr 3 s ≤ 0
      · have h00 : pr 3 s = 0 := by omega
        rw [if_pos (z0.mpr h0)]
        rw [if_pos h00, h00] at hk2
        exact hk2 _ _ hTl
      · have h11 : pr 3 s = 1 := by omega
        rw [if_neg (fun z => h0 (z0.mp z)), nm_q, a4, bd_eq _ b4, nm_q, k4, m4 (by omega)]
        rw [if_neg (by omega), if_pos h11, h11] at hk2
        refine Wq_ob (r_lay (s := pr 4 s) (H := H) p4 hx hTl (by omega)) (fun o2 ho2 => ?_)
        rw [nm_q, nI_1]
        exact hk2 _ _ ho2
  have cmp : ∀ (s : Nat) (k88 : Int32 → Int32 → Int32 → Int32 → Int32 → Int32 → Int32 → Int32 → Int32 → Int32 → (Nat → Int32) → (Nat → Int32) → (Nat → Int32) → (Nat → Int32) → Option (Int32 × Int32 × Int32 × (Nat → Int32) × (Nat → Int32) × (Nat → Int32) × (Nat → Int32))) (c5 c7 : Nat → Int32), s < R → TM E x (nxt pr s (p, u, H + 1)).2.1 (nxt pr s (p, u, H + 1)).2.2 c5 c7 →
      fX11_findWay_p201 (nI R) sz c1 m c4 c6 k53 k88 (nI (v + 1)) (nI p) (nI (H + 1)) (nI i) (nI (u H)) (nI s) (nI (6 * s)) (nI (nxt pr s (p, u, H + 1)).2.2) kn ws wl c2 c5 c7 c8 = fX11_findWay_p232 (nI R) sz c1 m c4 c6 k53 k88 (nI (v + 1)) (nI p) (nI (H + 1)) (nI i) (nI (u H)) (nI s) (nI (6 * s)) (nI (nxt pr s (p, u, H + 1)).2.2) (if aft x (tw E x u H) (pr 2 s) (pr 3 s) (pr 4 s) (pr 5 s) = v then 1 else 0) kn ws wl c2 c5 c7 c8 := by
    intro s k88 c5 c7 hs hT
    obtain ⟨p0, p1, p2, p3, p4, p5⟩ := hP.2 s hs
    obtain ⟨m0, m1, m2, m3, m4, m5⟩ := hm s hs
    have hnt : tw E x (nxt pr s (p, u, H + 1)).2.1 (nxt pr s (p, u, H + 1)).2.2 (pr 2 s) = aft x (tw E x u H) (pr 2 s) (pr 3 s) (pr 4 s) (pr 5 s) := nxt_tw (E := E) (x := x) hP hs (p, u, H + 1)
    have hHb : (nxt pr s (p, u, H + 1)).2.2 ≤ H + 2 := by show H + 1 - 1 + pr 3 s ≤ _; omega
    have ht := hT.1 _ (Nat.le_refl _) (pr 2 s) (by omega)
    rw [hnt] at ht
    generalize (nxt pr s (p, u, H + 1)).2.2 = H2 at *
    have a2 : nI (6 * s) + 2 = nI (6 * s + 2) := nI_add _ 2
    have i2 : (16 : Int32) * nI H2 = nI (16 * H2) := pk_mul 16 _
    have hav := aft_vl (E := E) (x := x) (w := u) (H := H) (q := pr 2 s) (n := pr 3 s) (w1 := pr 4 s) (w2 := pr 5 s)
    generalize aft x (tw E x u H) (pr 2 s) (pr 3 s) (pr 4 s) (pr 5 s) = z at *
    have ez : mI z = nI v ↔ z = v := by
      have hvv : vl v := Or.inl (by omega)
      rw [← mI_fin (v := v) (by omega)]
      exact mI_eq hav hvv
    unfold fX11_findWay_p201
    simp only [nm, i2, a2, inb_nI (j := 6 * s + 2) (n := 288) (by omega) (by decide), bd, nI_clamp (n := 6 * s + 2) (by omega), m2, nI_add, inb_nI (j := 16 * H2 + pr 2 s) (n := 64128) (by omega) (by decide), nI_clamp (n := 16 * H2 + pr 2 s) (by omega), ht, ev, ez]
    by_cases hz : z = v
    · rw [if_pos hz, if_pos hz]
    · rw [if_neg hz, if_neg hz]
  intro k
  induction k with
  | zero =>
    intro j n c5 c7 g1 g2 hT
    obtain ⟨n, rfl⟩ : ∃ z, n = z + 1 + 1 := ⟨n - 2, by omega⟩
    have e : j = r := by omega
    subst e
    obtain ⟨-, q0, q1, q2⟩ := h1
    have q1' : pr 1 j = u H := q1
    have q0' : pr 0 j = p := q0
    have q2' : aft x (tw E x u H) (pr 2 j) (pr 3 j) (pr 4 j) (pr 5 j) = v := q2
    refine tryIt j (fX11_findWay_l88 (nI R) sz c1 m c4 c6 k53 (n + 1)) c5 c7 hrR q0' q1' hT (fun d5 d7 hT2 => ?_)
    rw [cmp j _ d5 d7 hrR hT2, if_pos q2']
    obtain ⟨p0, p1, p2, p3, p4, p5⟩ := hP.2 j hrR
    obtain ⟨m0, m1, m2, m3, m4, m5⟩ := hm j hrR
    have a2 : nI (6 * j) + 2 = nI (6 * j + 2) := nI_add _ 2
    have hk3 := hk d5 d7 hT2
    unfold fX11_findWay_p232 fX11_findWay_p278
    simp only [if_neg n10, inb_nI (j := i) (n := 2000) (by omega) (by decide), bd, nm, nI_clamp (n := i) (by omega), ev2, a2, inb_nI (j := 6 * j + 2) (n := 288) (by omega) (by decide), nI_clamp (n := 6 * j + 2) (by omega), m2, nI_1]
    show Wq (fX11_findWay_b88 (nI R) sz c1 m c4 c6 k53 _ (nI v) (nI (pr 2 j)) (nI (nxt pr j (p, u, H + 1)).2.2) (nI i) 1 (nI (u H)) (nI (j + 1)) kn ws wl c2 d5 d7 (upd c8 i (nI j))) P
    have fin : Wq (fX11_findWay_p284 (nI R) sz c1 m c4 c6 k53 (nI v) (nI (pr 2 j)) (nI (nxt pr j (p, u, H + 1)).2.2) (nI i) kn ws wl c2 d5 d7 (upd c8 i (nI j))) P := by
      unfold fX11_findWay_p284
      rw [nm_q, nI_1]
      exact hk3
    unfold fX11_findWay_b88
    refine Wq_if (fun _ => fin) (fun _ => ?_)
    rw [if_neg n10]
    exact fin
  | succ k ih =>
    intro j n c5 c7 g1 g2 hT
    obtain ⟨n, rfl⟩ : ∃ z, n = z + 1 := ⟨n - 1, by omega⟩
    have hjR : j < R := by omega
    have hno := h2 j (by omega)
    obtain ⟨p0, p1, p2, p3, p4, p5⟩ := hP.2 j hjR
    obtain ⟨m0, m1, m2, m3, m4, m5⟩ := hm j hjR
    have huH := hu H (by omega)
    show Wq (fX11_findWay_b88 (nI R) sz c1 m c4 c6 k53 (fX11_findWay_l88 (nI R) sz c1 m c4 c6 k53 n) (nI (v + 1)) (nI p) (nI (H + 1)) (nI i) 0 (nI (u H)) (nI j) kn ws wl c2 c5 c7 c8) P
    by_cases q : pr 0 j = p ∧ pr 1 j = u H
    · refine tryIt j _ c5 c7 hjR q.1 q.2 hT (fun d5 d7 hT2 => ?_)
      have q2 : ¬ aft x (tw E x u H) (pr 2 j) (pr 3 j) (pr 4 j) (pr 5 j) = v := fun z => hno ⟨hjR, q.1, q.2, z⟩
      rw [cmp j _ d5 d7 hjR hT2, if_neg q2]
      have hTl : TM E x u H d5 d7 := by
        have t1 := TM_low hT2 (H2 := H) (by show H ≤ H + 1 - 1 + pr 3 j; omega)
        exact TM_congr t1 (fun k hk => nxt_low hk)
      unfold fX11_findWay_p232
      rw [if_pos rfl, nm_q, eH1]
      refine Wq_ob (r_lay (s := u H) (H := H) huH hx hTl (by omega)) (fun o ho => ?_)
      unfold fX11_findWay_p278
      rw [nm_q, nI_1]
      refine ih (j + 1) n _ _ (by omega) (by omega) (TM_congr ho (fun k hk => ?_))
      unfold wset
      by_cases e : k = H
      · rw [if_pos e, e]
      · rw [if_neg e]
    · have e6 : (6 : Int32) * nI j = nI (6 * j) := pk_mul 6 j
      have a1 : nI (6 * j) + 1 = nI (6 * j + 1) := nI_add _ 1
      have z0 : nI (pr 0 j) = nI p ↔ pr 0 j = p := nI_eq (by omega) (by omega)
      have z1 : nI (pr 1 j) = nI (u H) ↔ pr 1 j = u H := nI_eq (by omega) (by omega)
      have go : Wq (fX11_findWay_p278 (nI R) sz c1 m c4 c6 k53 (fX11_findWay_l88 (nI R) sz c1 m c4 c6 k53 n) (nI (v + 1)) (nI p) (nI (H + 1)) (nI i) 0 (nI (u H)) (nI j) kn ws wl c2 c5 c7 c8) P := by
        unfold fX11_findWay_p278
        rw [nm_q, nI_1]
        exact ih (j + 1) n c5 c7 (by omega) (by omega) hT
      unfold fX11_findWay_b88
      rw [if_neg (nI_ge (a := j) (b := R) hjR (by omega)), if_pos rfl, nm_q, e6, bd_eq _ (inb_nI (j := 6 * j) (n := 288) (by omega) (by decide)), nm_q, nI_clamp (n := 6 * j) (by omega), m0]
      refine Wq_if (fun y0 => ?_) (fun _ => go)
      rw [nm_q, a1, bd_eq _ (inb_nI (j := 6 * j + 1) (n := 288) (by omega) (by decide)), nm_q, nI_clamp (n := 6 * j + 1) (by omega), m1]
      rw [if_neg (fun y1 => q ⟨z0.mp y0, z1.mp y1⟩)]
      exact go
