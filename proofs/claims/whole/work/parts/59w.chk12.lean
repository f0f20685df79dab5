/-! ===== pure rows 52: the reference's rounds over a program ===== -/
def exOk (G : Nat → Nat → Nat → Nat) (Q : Nat → Prop) (x x2 : Nat → Nat) (f f2 : Int32) (Pd : Nat → Nat → Nat → Prop) : Prop :=
  (∀ j, j < 288 * G 7 0 0 → x2 j ≤ x j) ∧ (f2 = 0 ∨ f2 = 1) ∧ (f2 = 0 ↔ f = 0 ∧ ∀ j, j < 288 * G 7 0 0 → x2 j = x j) ∧ (∀ s st col, s < G 7 0 0 → st < 32 → col < 9 → Q col → Pd s st col → x2 (rI s st col) ≤ der G x s st col) ∧
    (∀ y : Nat → Nat, (∀ j, j < 288 * G 7 0 0 → y j ≤ x j) → (∀ s st col, s < G 7 0 0 → st < 32 → col < 9 → Q col → y (rI s st col) ≤ der G y s st col) → ∀ j, j < 288 * G 7 0 0 → y j ≤ x2 j) ∧ (∀ j, j < 288 * G 7 0 0 → ¬ Q (j % 9) → x2 j = x j) ∧ ∀ j, j < 288 * G 7 0 0 → vl (x2 j)
theorem exOk_refl {G : Nat → Nat → Nat → Nat} {Q : Nat → Prop} {x : Nat → Nat} {f : Int32} (hf : f = 0 ∨ f = 1) (hv : ∀ j, j < 288 * G 7 0 0 → vl (x j)) : exOk G Q x x f f (fun _ _ _ => False) :=
  ⟨fun _ _ => Nat.le_refl _, hf, ⟨fun q => ⟨q, fun _ _ => rfl⟩, fun q => q.1⟩, fun _ _ _ _ _ _ _ q => q.elim, fun _ y1 _ => y1, fun _ _ _ => rfl, hv⟩
theorem exOk_trans {G : Nat → Nat → Nat → Nat} (h : okPg G) {Q : Nat → Prop} {x x2 x3 : Nat → Nat} {f f2 f3 : Int32} {P1 P2 : Nat → Nat → Nat → Prop} (h1 : exOk G Q x x2 f f2 P1) (h2 : exOk G Q x2 x3 f2 f3 P2) : exOk G Q x x3 f f3 (fun s st col => P1 s st col ∨ P2 s st col) := by
  obtain ⟨a1, a2, a3, a4, a5, a6, a7⟩ := h1
  obtain ⟨b1, b2, b3, b4, b5, b6, b7⟩ := h2
  refine ⟨fun j hj => Nat.le_trans (b1 j hj) (a1 j hj), b2, ⟨fun q => ?_, fun q => ?_⟩, fun s st col q1 q2 q3 q4 q5 => ?_, fun y y1 y2 => b5 y (a5 y y1 y2) y2, fun j hj hq => (b6 j hj hq).trans (a6 j hj hq), b7⟩
  · obtain ⟨w1, w2⟩ := b3.mp q
    obtain ⟨w3, w4⟩ := a3.mp w1
    exact ⟨w3, fun j hj => (w2 j hj).trans (w4 j hj)⟩
  · have e : ∀ j, j < 288 * G 7 0 0 → x2 j = x j := fun j hj => Nat.le_antisymm (a1 j hj) (by rw [← q.2 j hj]; exact b1 j hj)
    exact b3.mpr ⟨a3.mpr ⟨q.1, e⟩, fun j hj => (q.2 j hj).trans (e j hj).symm⟩
  · rcases q5 with q5 | q5
    · exact Nat.le_trans (b1 _ (rI_lt q1 q2 q3)) (a4 s st col q1 q2 q3 q4 q5)
    · exact Nat.le_trans (b4 s st col q1 q2 q3 q4 q5) (der_mono h a1 q1 q2 q3)
theorem exOk_P {G : Nat → Nat → Nat → Nat} {Q : Nat → Prop} {x x2 : Nat → Nat} {f f2 : Int32} {P1 P2 : Nat → Nat → Nat → Prop} (h1 : exOk G Q x x2 f f2 P1) (hp : ∀ s st col, s < G 7 0 0 → st < 32 → col < 9 → Q col → P2 s st col → P1 s st col) : exOk G Q x x2 f f2 P2 :=
  ⟨h1.1, h1.2.1, h1.2.2.1, fun s st col q1 q2 q3 q4 q5 => h1.2.2.2.1 s st col q1 q2 q3 q4 (hp s st col q1 q2 q3 q4 q5), h1.2.2.2.2⟩
theorem exOk_one {G : Nat → Nat → Nat → Nat} {Q : Nat → Prop} {x : Nat → Nat} {f f2 : Int32} {s st col : Nat} (hs : s < G 7 0 0) (hst : st < 32) (hcol : col < 9) (hQ : Q col) (hv : ∀ j, j < 288 * G 7 0 0 → vl (x j)) (hf2 : f2 = 0 ∨ f2 = 1) (hfe : f2 = 0 ↔ f = 0 ∧ x (rI s st col) ≤ der G x s st col) (h : okPg G) : exOk G Q x (lowB x (rI s st col) (der G x s st col)) f f2 (fun a b c => a = s ∧ b = st ∧ c = col) := by
  have hj := rI_lt hs hst hcol
  have same : x (rI s st col) ≤ der G x s st col → ∀ j, lowB x (rI s st col) (der G x s st col) j = x j := by
    intro q j
    unfold lowB
    by_cases e : j = rI s st col
    · rw [if_pos e, e]; exact Nat.min_eq_left q
    · rw [if_neg e]
  refine ⟨fun j _ => lowB_le _ _ _ _, hf2, ⟨fun q => ⟨(hfe.mp q).1, fun j _ => same (hfe.mp q).2 j⟩, fun q => hfe.mpr ⟨q.1, ?_⟩⟩, fun a b c _ _ _ _ q => ?_, fun y y1 y2 j hj2 => ?_, fun j hj2 hq => ?_, fun j hj2 => ?_⟩
  · have := q.2 (rI s st col) hj
    unfold lowB at this
    rw [if_pos rfl] at this
    rw [← this]; exact Nat.min_le_right _ _
  · obtain ⟨e1, e2, e3⟩ := q
    rw [e1, e2, e3]
    unfold lowB
    rw [if_pos rfl]; exact Nat.min_le_right _ _
  · unfold lowB
    by_cases e : j = rI s st col
    · rw [if_pos e]
      refine Nat.le_min.mpr ⟨y1 j hj2, ?_⟩
      rw [e]
      exact Nat.le_trans (y2 s st col hs hst hcol hQ) (der_mono h y1 hs hst hcol)
    · rw [if_neg e]; exact y1 j hj2
  · unfold lowB
    by_cases e : j = rI s st col
    · exfalso
      obtain ⟨-, -, e3⟩ := rI_inv (s := s) hst hcol
      rw [e, e3] at hq
      exact hq hQ
    · rw [if_neg e]
  · unfold lowB
    by_cases e : j = rI s st col
    · rw [if_pos e]
      exact vl_min (hv j hj2) der_vl
    · rw [if_neg e]; exact hv j hj2
theorem gl_bits : ∀ gl : Nat, gl < 32 → nI gl >>> ((2 : Int32) &&& 31) = nI (gl / 4) ∧ nI gl &&& 3 = nI (gl % 4) := by decide +kernel
theorem rI_ne {s st col s2 st2 col2 : Nat} (h1 : st < 32) (h2 : col < 9) (h3 : st2 < 32) (h4 : col2 < 9) (h : rI s st col = rI s2 st2 col2) : s = s2 ∧ st = st2 ∧ col = col2 := by unfold rI at h; omega
theorem at_ne {g s l g2 s2 l2 : Nat} (h1 : s < 40) (h2 : l < 4) (h3 : s2 < 40) (h4 : l2 < 4) (h : atI g s l = atI g2 s2 l2) : g = g2 ∧ s = s2 ∧ l = l2 := by unfold atI at h; omega
theorem tmE_low {S s g l t : Nat} (hS : S ≤ 40) (hs : s < S) (hg : g < 8) (hl : l < 4) (ht : t < 8) {x : Nat → Nat} {c : Nat → Int32} (hc : tmE S x c) {v : Nat} (hv : vl v) : tmE S (lowB x (rI s (g + 8 * l) t) v) (upd c (8 * atI g s l + t) (mI (min (x (rI s (g + 8 * l) t)) v))) := by
  intro g2 s2 l2 t2 a1 a2 a3 a4
  obtain ⟨q1, q2⟩ := hc g2 s2 l2 t2 a1 a2 a3 a4
  unfold lowB
  by_cases e : rI s2 (g2 + 8 * l2) t2 = rI s (g + 8 * l) t
  · obtain ⟨e1, e2, e3⟩ := rI_ne (by omega) (by omega) (by omega) (by omega) e
    have e4 : g2 = g := by omega
    have e5 : l2 = l := by omega
    rw [if_pos e, e1, e4, e5, e3, upd_at]
    rw [e1, e4, e5, e3] at q2
    exact ⟨rfl, vl_min q2 hv⟩
  · rw [if_neg e]
    have ne : 8 * atI g2 s2 l2 + t2 ≠ 8 * atI g s l + t := by
      intro z
      have z1 : atI g2 s2 l2 = atI g s l := by omega
      obtain ⟨e1, e2, e3⟩ := at_ne (by omega) a3 (by omega) hl z1
      apply e
      rw [e1, e2, e3, show t2 = t by omega]
    rw [upd_ne ne]
    exact ⟨q1, q2⟩
theorem tmF_low {S s g l : Nat} (hS : S ≤ 40) (hs : s < S) (hg : g < 8) (hl : l < 4) {x : Nat → Nat} {c : Nat → Int32} (hc : tmF S x c) {v : Nat} (hv : vl v) : tmF S (lowB x (rI s (g + 8 * l) 8) v) (upd c (atI g s l) (mI (min (x (rI s (g + 8 * l) 8)) v))) := by
  intro g2 s2 l2 a1 a2 a3
  obtain ⟨q1, q2⟩ := hc g2 s2 l2 a1 a2 a3
  unfold lowB
  by_cases e : rI s2 (g2 + 8 * l2) 8 = rI s (g + 8 * l) 8
  · obtain ⟨e1, e2, e3⟩ := rI_ne (by omega) (by omega) (by omega) (by omega) e
    have e4 : g2 = g := by omega
    have e5 : l2 = l := by omega
    rw [if_pos e, e1, e4, e5, upd_at]
    rw [e1, e4, e5] at q2
    exact ⟨rfl, vl_min q2 hv⟩
  · rw [if_neg e]
    have ne : atI g2 s2 l2 ≠ atI g s l := by
      intro z
      obtain ⟨e1, e2, e3⟩ := at_ne (by omega) a3 (by omega) hl z
      apply e
      rw [e1, e2, e3]
    rw [upd_ne ne]
    exact ⟨q1, q2⟩
theorem tmF_lowE {S s g l t v : Nat} (hl : l < 4) (hg : g < 8) (ht : t < 8) {x : Nat → Nat} {c : Nat → Int32} (hc : tmF S x c) : tmF S (lowB x (rI s (g + 8 * l) t) v) c := by
  intro g2 s2 l2 a1 a2 a3
  obtain ⟨q1, q2⟩ := hc g2 s2 l2 a1 a2 a3
  unfold lowB
  have e : ¬ rI s2 (g2 + 8 * l2) 8 = rI s (g + 8 * l) t := fun z => by
    have := (rI_ne (by omega) (by omega) (by omega) (by omega) z).2.2
    omega
  rw [if_neg e]; exact ⟨q1, q2⟩
theorem tmE_lowF {S s g l v : Nat} (hl : l < 4) (hg : g < 8) {x : Nat → Nat} {c : Nat → Int32} (hc : tmE S x c) : tmE S (lowB x (rI s (g + 8 * l) 8) v) c := by
  intro g2 s2 l2 t2 a1 a2 a3 a4
  obtain ⟨q1, q2⟩ := hc g2 s2 l2 t2 a1 a2 a3 a4
  unfold lowB
  have e : ¬ rI s2 (g2 + 8 * l2) t2 = rI s (g + 8 * l) 8 := fun z => by
    have := (rI_ne (by omega) (by omega) (by omega) (by omega) z).2.2
    omega
  rw [if_neg e]; exact ⟨q1, q2⟩
/-- one column after the other, of one setting -/
theorem r_l76 {G : Nat → Nat → Nat → Nat} {M : Nat → Nat → Int32} (h : okPg G) (hm : mPg G M) {s gl : Nat} (hs : s < G 7 0 0) (hgl : gl < 32) {cf : Nat → Int32}
    (k48 : Int32 → Int32 → Int32 → Int32 → (Nat → Int32) → (Nat → Int32) → (Nat → Int32) → Option (Int32 × Int32 × Int32 × (Nat → Int32) × (Nat → Int32) × (Nat → Int32)))
    (k61 : Int32 → Int32 → Int32 → Int32 → Int32 → (Nat → Int32) → (Nat → Int32) → (Nat → Int32) → Option (Int32 × Int32 × Int32 × (Nat → Int32) × (Nat → Int32) × (Nat → Int32)))
    (k67 : Int32 → Int32 → Int32 → Int32 → Int32 → Int32 → (Nat → Int32) → (Nat → Int32) → (Nat → Int32) → Option (Int32 × Int32 × Int32 × (Nat → Int32) × (Nat → Int32) × (Nat → Int32))) :
    ∀ (k i n : Nat) (f n1 n2 n3 : Int32) (x : Nat → Nat) (c va : Nat → Int32), i + k = 8 → k < n → (f = 0 ∨ f = 1) → (∀ j, j < 288 * G 7 0 0 → vl (x j)) → tmE (G 7 0 0) x c → tmF (G 7 0 0) x cf →
      ∃ (f2 m1 m2 m3 : Int32) (x2 : Nat → Nat) (c2 va2 : Nat → Int32), fX11_solve_l76 (nI (G 7 0 0)) (M 0) (M 1) (M 2) (M 3) (M 5) (M 6) (M 7) (M 4) k48 k61 k67 n f (nI s) (nI gl) (nI i) n1 n2 n3 c cf va = k67 f2 (nI s) (nI (gl + 1)) m1 m2 m3 c2 cf va2 ∧ tmE (G 7 0 0) x2 c2 ∧ tmF (G 7 0 0) x2 cf ∧ exOk G (fun col => col < 8) x x2 f f2 (fun a b col => a = s ∧ b = gl / 4 + 8 * (gl % 4) ∧ i ≤ col) := by
  have hS := h.1
  obtain ⟨gb1, gb2⟩ := gl_bits gl hgl
  intro k
  induction k with
  | zero =>
    intro i n f n1 n2 n3 x c va g1 g2 hf hv hc hcf
    obtain ⟨n, rfl⟩ : ∃ z, n = z + 1 := ⟨n - 1, by omega⟩
    refine ⟨f, n1, n2, n3, x, c, va, ?_, hc, hcf, exOk_P (exOk_refl hf hv) (fun a b col _ _ _ q1 q2 => by omega)⟩
    show fX11_solve_b76 (nI (G 7 0 0)) (M 0) (M 1) (M 2) (M 3) (M 5) (M 6) (M 7) (M 4) k48 k61 k67 _ f (nI s) (nI gl) (nI i) n1 n2 n3 c cf va = _
    unfold fX11_solve_b76
    have h8 : (8 : Int32) ≤ nI i := nI_le (a := 8) (b := i) (by omega) (by omega)
    rw [if_pos h8, nm_q, nI_1]
  | succ k ih =>
    intro i n f n1 n2 n3 x c va g1 g2 hf hv hc hcf
    obtain ⟨n, rfl⟩ : ∃ z, n = z + 1 := ⟨n - 1, by omega⟩
    have h8 : ¬ (8 : Int32) ≤ nI i := nI_ge (a := i) (b := 8) (by omega) (by omega)
    have hg : gl / 4 < 8 := by omega
    have hl : gl % 4 < 4 := by omega
    have e8 : (8 : Int32) * nI (atI (gl / 4) s (gl % 4)) = nI (8 * atI (gl / 4) s (gl % 4)) := pk_mul 8 _
    have hb : 8 * atI (gl / 4) s (gl % 4) + i < 10240 := by unfold atI; omega
    have bj := inb_nI (j := 8 * atI (gl / 4) s (gl % 4) + i) (n := 10240) hb (by decide)
    have kj := nI_clamp (n := 8 * atI (gl / 4) s (gl % 4) + i) (by omega)
    obtain ⟨⟨o, m1, m2, m3, va2⟩, ho, hor⟩ := r_endCost h hm hs hg hl (show i < 8 by omega) hv (va := va) hc n1 n2 n3
    simp only at hor
    obtain ⟨s1, s2⟩ := hc (gl / 4) s (gl % 4) i hg hs hl (by omega)
    have vd : vl (der G x s (gl / 4 + 8 * (gl % 4)) i) := der_vl
    have hle := mI_le s2 vd
    have rm := r_min s2 vd
    obtain ⟨f1, hf1, hfe, hrun⟩ : ∃ f1 : Int32, (f1 = 0 ∨ f1 = 1) ∧ (f1 = 0 ↔ f = 0 ∧ x (rI s (gl / 4 + 8 * (gl % 4)) i) ≤ der G x s (gl / 4 + 8 * (gl % 4)) i) ∧ fX11_solve_l76 (nI (G 7 0 0)) (M 0) (M 1) (M 2) (M 3) (M 5) (M 6) (M 7) (M 4) k48 k61 k67 (n + 1) f (nI s) (nI gl) (nI i) n1 n2 n3 c cf va = fX11_solve_l76 (nI (G 7 0 0)) (M 0) (M 1) (M 2) (M 3) (M 5) (M 6) (M 7) (M 4) k48 k61 k67 n f1 (nI s) (nI gl) (nI (i + 1)) m1 m2 m3 (upd c (8 * atI (gl / 4) s (gl % 4) + i) (mI (min (x (rI s (gl / 4 + 8 * (gl % 4)) i)) (der G x s (gl / 4 + 8 * (gl % 4)) i)))) cf va2 := by
      refine ⟨if f = 0 then (if x (rI s (gl / 4 + 8 * (gl % 4)) i) ≤ der G x s (gl / 4 + 8 * (gl % 4)) i then 0 else 1) else 1, ?_, ?_, ?_⟩
      · by_cases q1 : f = 0 <;> by_cases q2 : x (rI s (gl / 4 + 8 * (gl % 4)) i) ≤ der G x s (gl / 4 + 8 * (gl % 4)) i <;> simp [q1, q2]
      · by_cases q1 : f = 0 <;> by_cases q2 : x (rI s (gl / 4 + 8 * (gl % 4)) i) ≤ der G x s (gl / 4 + 8 * (gl % 4)) i <;> simp [q1, q2]
      · show fX11_solve_b76 (nI (G 7 0 0)) (M 0) (M 1) (M 2) (M 3) (M 5) (M 6) (M 7) (M 4) k48 k61 k67 (fX11_solve_l76 (nI (G 7 0 0)) (M 0) (M 1) (M 2) (M 3) (M 5) (M 6) (M 7) (M 4) k48 k61 k67 n) f (nI s) (nI gl) (nI i) n1 n2 n3 c cf va = _
        rw [← rm]
        unfold fX11_solve_b76 fX11_solve_p132 fX11_solve_p137 fX11_solve_p168
        rw [if_neg h8, nm_q, gb1, nm_q, gb2, r_at, ob_s, nm_q, e8, nm_q, nI_add, nm_q, nm_q, ho, ob_s]
        simp only [hor]
        rw [bd_eq _ bj]
        simp only [nm_q, kj, s1, hle, nI_1]
        by_cases q1 : f = 0
        · rw [if_pos q1, if_pos q1]
          by_cases q2 : x (rI s (gl / 4 + 8 * (gl % 4)) i) ≤ der G x s (gl / 4 + 8 * (gl % 4)) i
          · rw [if_pos q2, bd_eq _ bj, if_pos q2, bd_eq _ bj, bd_eq _ bj, if_pos q2, if_pos q2]
          · rw [if_neg q2, bd_eq _ bj, if_neg q2, bd_eq _ bj, if_neg q2, if_neg q2]
        · rw [if_neg q1, if_neg q1, bd_eq _ bj]
          by_cases q2 : x (rI s (gl / 4 + 8 * (gl % 4)) i) ≤ der G x s (gl / 4 + 8 * (gl % 4)) i
          · rw [if_pos q2, bd_eq _ bj, bd_eq _ bj, if_pos q2]
          · rw [if_neg q2, bd_eq _ bj, if_neg q2]
    have hone := exOk_one (Q := fun col => col < 8) hs (show gl / 4 + 8 * (gl % 4) < 32 by omega) (show i < 9 by omega) (show i < 8 by omega) hv hf1 hfe h
    obtain ⟨f2, p1, p2, p3, x2, c2, va3, r1, r2, r3, r4⟩ := ih (i + 1) n f1 m1 m2 m3 _ _ va2 (by omega) (by omega) hf1 hone.2.2.2.2.2.2 (tmE_low hS hs hg hl (by omega) hc vd) (tmF_lowE hl hg (by omega) hcf)
    refine ⟨f2, p1, p2, p3, x2, c2, va3, hrun.trans r1, r2, r3, exOk_P (exOk_trans h hone r4) (fun a b col _ _ _ q1 q2 => ?_)⟩
    by_cases e : col = i
    · exact Or.inl ⟨q2.1, q2.2.1, e⟩
    · exact Or.inr ⟨q2.1, q2.2.1, by omega⟩
