/-! ===== pure rows 29: pileSigns, find (class) ===== -/
theorem c_pileSigns {E : Nat → Bool} {x w : Nat → Nat} {R r H p n7 n8 M : Nat} {cp cg cq c2 c3 c6 c7 c8 c9 : Nat → Int32} {pr : Nat → Nat → Nat} (hR : ruN R cp cg c2 cq c9 c3 pr) (hr : r < R) (hx : tb x c6) (hT : TW E x w H c7 c8) (hM : H + 2 ≤ M) (h8 : H + 2 ≤ n8) (hn : 16 * H + 48 ≤ n7) (hn7 : n7 < 2 ^ 30) (hn8 : n8 < 2 ^ 30) (hM2 : M < 2 ^ 30) :
    Wq (fX9_pileSigns (nI r) n7 n8 c2 c3 (nI M) (nI H) c6 c7 c8 c9) (fun o => o.1 = nI (nxt pr r (p, w, H + 1)).2.2 ∧ TW E x (nxt pr r (p, w, H + 1)).2.1 (nxt pr r (p, w, H + 1)).2.2 o.2.1 o.2.2) := by
  obtain ⟨⟨p0, p1, p2, p3, p4, p5⟩, a0, a1, a2, a3, a4, a5⟩ := hR.2 r hr
  have hR48 := hR.1
  have hi := inb_nI (j := r) (n := 48) (by omega) (by decide)
  have hc := nI_clamp (n := r) (by omega)
  have eH : (nxt pr r (p, w, H + 1)).2.2 = H + pr 3 r := rfl
  have eW : (nxt pr r (p, w, H + 1)).2.1 = if pr 3 r = 0 then w else if pr 3 r = 1 then wset w H (pr 4 r) else wset (wset w H (pr 5 r)) (H + 1) (pr 4 r) := rfl
  have z2 : nI (pr 3 r) = 2 ↔ pr 3 r = 2 := nI_eq (a := pr 3 r) (b := 2) (by omega) (by decide)
  have z1 : nI (pr 3 r) < 1 ↔ pr 3 r < 1 := nI_ltI (a := pr 3 r) (b := 1) (by omega) (by decide)
  unfold fX9_pileSigns fX9_pileSigns_p29 fX9_pileSigns_p58
  simp only [hi, bd, nm, hc, a3, z2, z1, a5, a4]
  rw [eH, eW]
  by_cases h2 : pr 3 r = 2
  · rw [if_pos h2, if_neg (by omega), if_neg (by omega)]
    refine Wq_ob (c_pile (s := pr 5 r) (H := H) (M := M) p5 hx hT (by omega) (by omega) (by omega) hn7 hM2 hn8) (fun o ho => ?_)
    obtain ⟨q1, q2⟩ := ho
    rw [if_neg (by omega), q1]
    refine Wq_ob (c_pile (s := pr 4 r) (H := H + 1) (M := M) p4 hx q2 (by omega) (by omega) (by omega) hn7 hM2 hn8) (fun o2 ho2 => ?_)
    obtain ⟨q3, q4⟩ := ho2
    refine Wq_some ⟨?_, ?_⟩
    · rw [h2]; exact q3
    · rw [h2]; exact q4
  · rw [if_neg h2]
    by_cases h1 : pr 3 r < 1
    · rw [if_pos h1, if_pos (by omega)]
      have h0 : pr 3 r = 0 := by omega
      refine Wq_some ⟨by rw [h0]; rfl, ?_⟩
      rw [h0]; exact hT
    · have h11 : pr 3 r = 1 := by omega
      rw [if_neg h1, if_neg (by omega), if_pos h11]
      refine Wq_ob (c_pile (s := pr 4 r) (H := H) (M := M) p4 hx hT (by omega) (by omega) (by omega) hn7 hM2 hn8) (fun o2 ho2 => ?_)
      obtain ⟨q3, q4⟩ := ho2
      refine Wq_some ⟨?_, ?_⟩
      · rw [h11]; exact q3
      · rw [h11]; exact q4
theorem c_find {E : Nat} {K w : Nat → Nat} (hK : netUp K) {R L a v : Nat} {pr : Nat → Nat → Nat} {chg wch len fs fa fw ht0 : Int32} {c3 c4 c6 c7 c8 c9 c10 c11 c12 c13 c14 : Nat → Int32} (hR : ruN R c8 c9 c11 c10 c12 c13 pr) (hx : tb (DD K R pr) c6) (hE : E < 65536) (hL : L ≤ 30) (hw : ∀ j, j < L → c4 j = nI (w j) ∧ w j < 12) (ha : a < 8) (hv : v = tw E.testBit (DD K R pr) w L a) :
    Wq (fX9_find (nI a) (nI v) 32496 2030 len fs fa fw (nI R) (nI E) (nI L) chg wch 2030 ht0 c3 c4 c6 c7 c8 c9 c10 c11 c12 c13 c14) (fun o => o.2.1 = nI a ∧ o.2.2.1 = chg ∧ o.2.2.2.1 = wch ∧ (if v ≤ 2000 then o.1 = nI v ∧ ∀ j, j < v → o.2.2.2.2.2.2.2 j = nI (rlW E.testBit (DD K R pr) R pr v (a, w, L) j) else o.1 = 0)) := by
  have hP := ruN_ok hR
  have hR48 := hR.1
  obtain ⟨fu, hfu, hg⟩ := fu_any
  have hvl : vl v := by rw [hv]; exact tw_vl _ _ _ _ _
  have hv0 := vl_lt hvl
  unfold fX9_find
  rw [hfu]
  by_cases h2 : v ≤ 2000
  · have k2 : nI v ≤ (2000 : Int32) := nI_le (a := v) (b := 2000) h2 (by decide)
    rw [if_pos k2]
    refine Wq_ob (c_build (E := E.testBit) (w := w) (M := 2030) hE (fun _ _ => rfl) hL (by omega) (by decide) (by decide) (by decide) (by decide) (by decide) hw hx ht0) (fun o ho => ?_)
    obtain ⟨q1, q2⟩ := ho
    rw [q1]
    have ok := cfW_ok (E := E.testBit) hK hP h2 (c0 := (a, w, L)) ⟨ha, fun k hk => (hw k hk).2⟩ hv.symm
    have key : ∀ (k i n : Nat) (d3 d7 d14 : Nat → Int32), i + k = v → k < n → TW E.testBit (DD K R pr) (cfW E.testBit (DD K R pr) R pr v (a, w, L) i).2.1 (cfW E.testBit (DD K R pr) R pr v (a, w, L) i).2.2 d3 d7 → (∀ j, j < i → d14 j = nI (rlW E.testBit (DD K R pr) R pr v (a, w, L) j)) →
        Wq (fX9_find_l56 32496 2030 (nI R) (nI E) (nI L) chg wch 2030 c4 c6 c8 c9 c10 c11 c12 c13 n (nI v) (nI (cfW E.testBit (DD K R pr) R pr v (a, w, L) i).1) (nI i) (nI i) (nI a) chg wch (nI (cfW E.testBit (DD K R pr) R pr v (a, w, L) i).2.2) d3 d7 d14) (fun o => o.2.1 = nI a ∧ o.2.2.1 = chg ∧ o.2.2.2.1 = wch ∧ (if v ≤ 2000 then o.1 = nI v ∧ ∀ j, j < v → o.2.2.2.2.2.2.2 j = nI (rlW E.testBit (DD K R pr) R pr v (a, w, L) j) else o.1 = 0)) := by
      intro k
      induction k with
      | zero =>
        intro i n d3 d7 d14 g1 g2 hT hd
        obtain ⟨n, rfl⟩ : ∃ z, n = z + 1 := ⟨n - 1, by omega⟩
        show Wq (fX9_find_b56 32496 2030 (nI R) (nI E) (nI L) chg wch 2030 c4 c6 c8 c9 c10 c11 c12 c13 _ (nI v) _ (nI i) (nI i) (nI a) chg wch _ d3 d7 d14) _
        unfold fX9_find_b56
        have e : i = v := by omega
        subst e
        rw [if_pos (nI_le (Nat.le_refl _) (by omega))]
        exact Wq_some ⟨rfl, rfl, rfl, by rw [if_pos h2]; exact ⟨rfl, hd⟩⟩
      | succ k ih =>
        intro i n d3 d7 d14 g1 g2 hT hd
        obtain ⟨n, rfl⟩ : ∃ z, n = z + 1 := ⟨n - 1, by omega⟩
        obtain ⟨o1, o2, o3, o4⟩ := ok i (by omega)
        obtain ⟨o5, o6, o7⟩ := o4 (by omega)
        have ihh := ih (i + 1) n
        rw [cfW_s] at ihh
        show Wq (fX9_find_b56 32496 2030 (nI R) (nI E) (nI L) chg wch 2030 c4 c6 c8 c9 c10 c11 c12 c13 _ (nI v) _ (nI i) (nI i) (nI a) chg wch _ d3 d7 d14) _
        generalize hcf : cfW E.testBit (DD K R pr) R pr v (a, w, L) i = c at *
        generalize hrl : rlW E.testBit (DD K R pr) R pr v (a, w, L) i = r at *
        obtain ⟨p, u, H1⟩ := c
        simp only at o1 o2 o3 o5 o6 o7 hT ihh ⊢
        obtain ⟨H, rfl⟩ : ∃ z, H1 = z + 1 := ⟨H1 - 1, by omega⟩
        have hrR := o6.1
        have o3' : H + 1 ≤ L + i := o3
        have hTl : TW E.testBit (DD K R pr) u H d3 d7 := TW_low hT (by omega)
        have hu : u H < 12 := o1.2 H (by show H < H + 1; omega)
        have top : fX7_takeTop 2030 (nI (H + 1)) d7 = some (nI (u H), nI H) := by
          unfold fX7_takeTop
          have hpos : (0 : Int32) < nI (H + 1) := nI_lt (a := 0) (b := H + 1) (by omega) (by omega)
          have e1 : nI (H + 1) - 1 = nI H := by exact nI_pred H
          simp only [if_pos hpos, nm, e1, inb_nI (j := H) (n := 2030) (by omega) (by decide), bd, nI_clamp (n := H) (by omega), (hT.2 H (by omega)).1]
        have sub1 : nI v - nI i - 1 = nI (v - (i + 1)) := by
          rw [pk_sub (by omega), show v - i = (v - (i + 1)) + 1 by omega]
          exact nI_pred _
        have hle := c_least (E := E.testBit) (x := DD K R pr) (w := u) (H := H) (n7 := 32496) (p := p) (v := v - (i + 1)) (r := r) hR hx hTl (by omega) (by decide) o1.1 hu (by omega) o6 o7
        have nr : ¬ nI r = -1 := by
          intro z
          have := nI_pos (n := r) (by omega)
          rw [z] at this
          exact this (by decide)
        unfold fX9_find_b56
        rw [if_neg (nI_ge (by omega) (by omega)), top, ob_s, nm_q, nm_q, sub1]
        simp only []
        rw [hle, ob_s]
        simp only []
        rw [if_neg nr]
        simp only [inb_nI (j := i) (n := 2000) (by omega) (by decide), bd, nm, nI_clamp (n := i) (by omega), inb_nI (j := r) (n := 48) (by omega) (by decide), nI_clamp (n := r) (by omega), nI_1, (hR.2 r hrR).2.2.2.1]
        refine Wq_ob (c_pileSigns (p := p) (M := 2030) hR hrR hx hTl (by omega) (by omega) (by omega) (by decide) (by decide) (by decide)) (fun o ho => ?_)
        obtain ⟨q3, q4⟩ := ho
        rw [q3]
        refine ihh _ _ _ (by omega) (by omega) q4 (fun j hj => ?_)
        unfold upd
        by_cases e : j = i
        · rw [if_pos e, e, hrl]
        · rw [if_neg e]; exact hd j (by omega)
    exact key v 0 fu _ _ c14 (by omega) (by omega) q2 (fun j hj => absurd hj (by omega))
  · have k2 : ¬ nI v ≤ (2000 : Int32) := nI_ge (a := 2000) (b := v) (by omega) (by omega)
    rw [if_neg k2]
    exact Wq_some ⟨rfl, rfl, rfl, by rw [if_neg h2]⟩
