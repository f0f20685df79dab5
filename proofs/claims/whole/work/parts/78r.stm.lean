/-! ===== pure rows 94: statements: the reference, one behind the other ===== -/
theorem pM_n {n : Nat} (h : n < 40) : pM n = nI n := by unfold pM; rw [if_pos h]
theorem rRw_eq {B : Nat → Nat} {N p : Nat} {P P2 : Nat → Nat → Nat} {L L2 : Nat → List Nat} {Q Q2 : List Nat} {bl bl2 s : Nat} {M U : MT} (h : rRw B N p P L Q bl s M) (e1 : ∀ x, x ≤ s → U.2.1 x = M.2.1 x) (e2 : U.2.2.1 s = M.2.2.1 s) (e3 : U.2.2.2.1 s = M.2.2.2.1 s) (e5 : U.2.2.2.2.2.1 s = M.2.2.2.2.2.1 s) (e7 : U.2.2.2.2.2.2.2.1 s = M.2.2.2.2.2.2.2.1 s) (e8 : U.2.2.2.2.2.2.2.2.1 s = M.2.2.2.2.2.2.2.2.1 s) (e13 : U.2.2.2.2.2.2.2.2.2.2.2.2.2.1 s = M.2.2.2.2.2.2.2.2.2.2.2.2.2.1 s) (e16 : U.2.2.2.2.2.2.2.2.2.2.2.2.2.2.2.2.1 s = M.2.2.2.2.2.2.2.2.2.2.2.2.2.2.2.2.1 s) (e17 : U.2.2.2.2.2.2.2.2.2.2.2.2.2.2.2.2.2 s = M.2.2.2.2.2.2.2.2.2.2.2.2.2.2.2.2.2 s)
    (e4 : U.2.2.2.2.1 s = pM (P2 3 s)) (e6 : U.2.2.2.2.2.2.1 (2 * s) = pM (P2 5 s)) (e6b : U.2.2.2.2.2.2.1 (2 * s + 1) = pM (P2 4 s)) (hP : ∀ a, a = 3 ∨ a = 4 ∨ a = 5 ∨ P2 a s = P a s) (hL : L2 s = L s) (hQ : ∃ T, Q2 = Q ++ T) (hbl : bl ≤ bl2) (hB : ∀ x, x < bl → U.2.2.2.2.2.2.2.2.2.2.1 x = M.2.2.2.2.2.2.2.2.2.2.1 x ∧ U.2.2.2.2.2.2.2.2.2.2.2.2.1 x = M.2.2.2.2.2.2.2.2.2.2.2.2.1 x) : rRw B N p P2 L2 Q2 bl2 s U := by
  obtain ⟨h1, h2, h3, h4, h5, h6, h7, h8, h9, b, hb, h10, h11⟩ := h
  have q0 : P2 0 s = P 0 s := by rcases hP 0 with z | z | z | z <;> first | exact z | omega
  have q1 : P2 1 s = P 1 s := by rcases hP 1 with z | z | z | z <;> first | exact z | omega
  have q2 : P2 2 s = P 2 s := by rcases hP 2 with z | z | z | z <;> first | exact z | omega
  have q6 : P2 6 s = P 6 s := by rcases hP 6 with z | z | z | z <;> first | exact z | omega
  have q7 : P2 7 s = P 7 s := by rcases hP 7 with z | z | z | z <;> first | exact z | omega
  refine ⟨by rw [q0]; exact (e1 s (Nat.le_refl _)).trans h1, by rw [q1]; exact e2.trans h2, e3.trans h3, e4, e6, e6b, ?_, ?_, ?_, b, by omega, e5.trans h10, ?_⟩
  · rw [q0, hL]
    intro z
    obtain ⟨A, T, g1, g2, g3⟩ := h7 z
    obtain ⟨T2, g4⟩ := hQ
    exact ⟨A, T ++ T2, by rw [g4, g1, List.append_assoc], e7.trans g2, e8.trans g3⟩
  · rw [q0, q6]
    exact fun z => e13.trans (h8 z)
  · rw [q0, q7]
    exact fun z => ⟨e16.trans (h9 z).1, e17.trans (h9 z).2⟩
  · obtain ⟨b1, b2⟩ := hB b hb
    rw [q2, b1, b2]
    rcases h11 with g | ⟨g1, g2, g3⟩
    · exact Or.inl g
    · refine Or.inr ⟨g1, g2, ?_⟩
      rw [e1 _ (by omega)]
      exact g3
theorem post_two {B : Nat → Nat} {N p d b bl n k j : Nat} {one1 one2 : Bool} {Q : List Nat} {M : MT} {q1 : Nat × Nat × (Nat → Nat → Nat) × (Nat → List Nat)} {Q1 : List Nat} {b1 : Nat} {U : MT} (h1 : rPost B N p d b bl n k j one1 Q M q1 Q1 b1 U) {d2 bb blw kk : Nat} {W : MT} {q2 : Nat × Nat × (Nat → Nat → Nat) × (Nat → List Nat)} {Q2 : List Nat} {b2 : Nat} {V : MT} (h2 : rPost B N p d2 bb blw q1.1 kk n false Q1 W q2 Q2 b2 V)
    (hn1 : n < q1.1) (hn2 : q1.1 ≤ q2.1) (h40 : q2.1 ≤ 40) (hkk : kk = 3 ∨ kk = 4 ∨ kk = 5)
    (w1 : W.2.1 = U.2.1) (w2 : W.2.2.1 = U.2.2.1) (w3 : W.2.2.2.1 = U.2.2.2.1) (w4 : W.2.2.2.2.1 = U.2.2.2.2.1) (w5 : W.2.2.2.2.2.1 = U.2.2.2.2.2.1) (w6 : W.2.2.2.2.2.2.1 = U.2.2.2.2.2.2.1) (w7 : W.2.2.2.2.2.2.2.1 = U.2.2.2.2.2.2.2.1) (w8 : W.2.2.2.2.2.2.2.2.1 = U.2.2.2.2.2.2.2.2.1) (w11 : W.2.2.2.2.2.2.2.2.2.2.2.1 = U.2.2.2.2.2.2.2.2.2.2.2.1) (w13 : W.2.2.2.2.2.2.2.2.2.2.2.2.2.1 = U.2.2.2.2.2.2.2.2.2.2.2.2.2.1) (w16 : W.2.2.2.2.2.2.2.2.2.2.2.2.2.2.2.2.1 = U.2.2.2.2.2.2.2.2.2.2.2.2.2.2.2.2.1) (w17 : W.2.2.2.2.2.2.2.2.2.2.2.2.2.2.2.2.2 = U.2.2.2.2.2.2.2.2.2.2.2.2.2.2.2.2.2)
    (hWb : ∀ x, x < b1 → W.2.2.2.2.2.2.2.2.2.2.1 x = U.2.2.2.2.2.2.2.2.2.2.1 x ∧ W.2.2.2.2.2.2.2.2.2.2.2.2.1 x = U.2.2.2.2.2.2.2.2.2.2.2.2.1 x) (hbw : b1 ≤ blw) (hd : d ≤ d2) (hWo : ∀ i, i < d → W.1 i = U.1 i) (h9 : ∀ x, x < bl → ¬ x = b → V.2.2.2.2.2.2.2.2.2.1 x = U.2.2.2.2.2.2.2.2.2.1 x) (hone : one2 = true → V.2.2.2.2.2.2.2.2.2.1 b = nI n) (hbl : b2 + 2 * n ≤ bl + 2 * q2.1)
    {P : Nat → Nat → Nat} {L : Nat → List Nat} {f2 : Nat} (hf2 : Q2.length ≤ f2) (hP1 : ∀ a, a = kk ∨ P a n = q1.2.2.1 a n) (hPk : P kk n = if q1.1 < q2.1 then q1.1 else 40) (h1k : q1.2.2.1 kk n = 40) (hPl : ∀ s, n < s → s < q1.1 → ∀ a, P a s = q1.2.2.1 a s) (hPh : ∀ s, q1.1 ≤ s → s < q2.1 → ∀ a, P a s = q2.2.2.1 a s) (hL1 : ∀ s, n ≤ s → s < q1.1 → L s = q1.2.2.2 s) (hLh : ∀ s, q1.1 ≤ s → s < q2.1 → L s = q2.2.2.2 s) :
    rPost B N p d b bl n k j one2 Q M (q2.1, f2, P, L) Q2 b2 V := by
  obtain ⟨a1, ⟨T1, a2⟩, a3, a4, a5, ⟨a6, a6f⟩, ⟨a7, a7o⟩, a8, a9⟩ := h1
  obtain ⟨c1, ⟨T2, c2⟩, c3, c4, c5, ⟨c6, c6f⟩, ⟨c7, c7o⟩, c8, c9⟩ := h2
  rw [w1, w2, w3, w4, w5, w6, w7, w8, w13, w16, w17] at c6
  refine ⟨c1, ⟨T1 ++ T2, by rw [c2, a2, List.append_assoc]⟩, hf2, by omega, hbl, ⟨fun s hs => ?_, fun q => ?_⟩, ⟨fun x hx => ?_, fun i hi => ?_⟩, hone, fun s s1 s2 => ?_⟩
  · obtain ⟨x1, x2, x3, x5, x7, x8, x13, x16, x17, x4, x6, x6b⟩ := c6 s (by omega)
    obtain ⟨y1, y2, y3, y5, y7, y8, y13, y16, y17, y4, y6, y6b⟩ := a6 s hs
    rw [if_neg (fun z => absurd z.2.1 (by omega))] at x4 x6 x6b
    refine ⟨x1.trans y1, x2.trans y2, x3.trans y3, x5.trans y5, x7.trans y7, x8.trans y8, x13.trans y13, x16.trans y16, x17.trans y17, ?_, ?_, ?_⟩
    · rw [x4, y4]
      by_cases hc : k = 3 ∧ s = j
      · rw [if_pos ⟨hc.1, hc.2, hn1⟩, if_pos ⟨hc.1, hc.2, by show n < q2.1; omega⟩]
      · rw [if_neg (fun z => hc ⟨z.1, z.2.1⟩), if_neg (fun z => hc ⟨z.1, z.2.1⟩)]
    · rw [x6, y6]
      by_cases hc : k = 5 ∧ s = j
      · rw [if_pos ⟨hc.1, hc.2, hn1⟩, if_pos ⟨hc.1, hc.2, by show n < q2.1; omega⟩]
      · rw [if_neg (fun z => hc ⟨z.1, z.2.1⟩), if_neg (fun z => hc ⟨z.1, z.2.1⟩)]
    · rw [x6b, y6b]
      by_cases hc : k = 4 ∧ s = j
      · rw [if_pos ⟨hc.1, hc.2, hn1⟩, if_pos ⟨hc.1, hc.2, by show n < q2.1; omega⟩]
      · rw [if_neg (fun z => hc ⟨z.1, z.2.1⟩), if_neg (fun z => hc ⟨z.1, z.2.1⟩)]
  · rw [c6f, if_neg (fun z => absurd z.1 (by omega)), w11, a6f]
    by_cases hc : k = 8 ∧ q = j
    · rw [if_pos ⟨hc.1, hc.2, hn1⟩, if_pos ⟨hc.1, hc.2, by show n < q2.1; omega⟩]
    · rw [if_neg (fun z => hc ⟨z.1, z.2.1⟩), if_neg (fun z => hc ⟨z.1, z.2.1⟩)]
  · obtain ⟨x1, x2, -⟩ := c7 x (by omega)
    obtain ⟨y1, y2, y3⟩ := a7 x hx
    obtain ⟨z1, z2⟩ := hWb x (by omega)
    exact ⟨x1.trans (z1.trans y1), x2.trans (z2.trans y2), fun hxb => (h9 x hx hxb).trans (y3 hxb)⟩
  · exact (c7o i (by omega)).trans ((hWo i hi).trans (a7o i hi))
  · dsimp only at s2 ⊢
    by_cases hsq : s < q1.1
    · obtain ⟨x1, x2, x3, x5, x7, x8, x13, x16, x17, x4, x6, x6b⟩ := c6 s hsq
      have hrow := a9 s s1 hsq
      have hB : ∀ x, x < b1 → V.2.2.2.2.2.2.2.2.2.2.1 x = U.2.2.2.2.2.2.2.2.2.2.1 x ∧ V.2.2.2.2.2.2.2.2.2.2.2.2.1 x = U.2.2.2.2.2.2.2.2.2.2.2.2.1 x := fun x hx => ⟨(c7 x (by omega)).1.trans (hWb x hx).1, (c7 x (by omega)).2.1.trans (hWb x hx).2⟩
      have hall : ∀ a, ¬ (a = kk ∧ s = n) → P a s = q1.2.2.1 a s := by
        intro a ha
        by_cases hsn : s = n
        · subst hsn
          rcases hP1 a with z | z
          · exact absurd ⟨z, rfl⟩ ha
          · exact z
        · exact hPl s (by omega) hsq a
      have lnk : ∀ (kx : Nat) (v w : Int32), (kx = 3 ∨ kx = 4 ∨ kx = 5) → v = (if kk = kx ∧ s = n ∧ q1.1 < q2.1 then nI q1.1 else w) → w = pM (q1.2.2.1 kx s) → v = pM (P kx s) := by
        intro kx v w hkx hv hw
        by_cases hc : kk = kx ∧ s = n
        · obtain ⟨hc1, hc2⟩ := hc
          subst hc1 hc2
          rw [hPk, hv, hw, h1k]
          by_cases hlt : q1.1 < q2.1
          · rw [if_pos ⟨rfl, rfl, hlt⟩, if_pos hlt, pM_n (by omega)]
          · rw [if_neg (fun z => hlt z.2.2), if_neg hlt]
        · rw [hv, if_neg (fun z => hc ⟨z.1, z.2.1⟩), hw, hall kx (fun z => hc ⟨z.1.symm, z.2⟩)]
      refine rRw_eq hrow (fun x hx => (c6 x (by omega)).1) x2 x3 x5 x7 x8 x13 x16 x17 (lnk 3 _ _ (Or.inl rfl) x4 hrow.2.2.2.1) (lnk 5 _ _ (Or.inr (Or.inr rfl)) x6 hrow.2.2.2.2.1) (lnk 4 _ _ (Or.inr (Or.inl rfl)) x6b hrow.2.2.2.2.2.1) (fun a => ?_) (hL1 s s1 hsq) ⟨T2, c2⟩ (by omega) hB
      by_cases ha : a = 3 ∨ a = 4 ∨ a = 5
      · rcases ha with z | z | z
        · exact Or.inl z
        · exact Or.inr (Or.inl z)
        · exact Or.inr (Or.inr (Or.inl z))
      · exact Or.inr (Or.inr (Or.inr (hall a (fun z => by omega))))
    · have hrow := c9 s (by omega) s2
      have hP := hPh s (by omega) s2
      exact rRw_eq hrow (fun _ _ => rfl) rfl rfl rfl rfl rfl rfl rfl rfl (by rw [hP]; exact hrow.2.2.2.1) (by rw [hP]; exact hrow.2.2.2.2.1) (by rw [hP]; exact hrow.2.2.2.2.2.1) (fun a => Or.inr (Or.inr (Or.inr (hP a)))) (hLh s (by omega) s2) ⟨[], (List.append_nil _).symm⟩ (Nat.le_refl _) (fun _ _ => ⟨rfl, rfl⟩)
def rOut (B : Nat → Nat) (N : Nat) (m : Nat → Int32) (g : Nat) (cg cn : Nat → Int64) (cl : Nat → Int32) (p : Nat) (one : Bool) (d b bl n k j : Nat) (pr wa : Int32) (c2 : Nat → Int64) (Q : List Nat) (M : MT) (r : Rt) (lhs : Option RpO) : Prop := match r with
  | .error e => ∃ o, lhs = some o ∧ rEnd e o
  | .ok q => ∃ (u2 : Nat) (fr2 to2 tk2 : Int32) (nm2 : Int64) (os2 dd2 : Int32) (Q2 : List Nat) (bn : Nat) (U : MT), lhs = rLp u2 (nI N) m (nI p) 1 fr2 to2 tk2 nm2 0 wa (nI g) pr (nI q.1) (nI Q2.length) (nI bn) (nI d) os2 dd2 c2 cl cg cn U ∧ rsO B N q.2.1 fr2 to2 tk2 nm2 ∧ N - q.2.1 + 3 ≤ u2 ∧ rPost B N p d b bl n k j one Q M q Q2 bn U
def RX (B : Nat → Nat) (N : Nat) (m : Nat → Int32) (g : Nat) (cg cn : Nat → Int64) (cl : Nat → Int32) (p : Nat) (one : Bool) (d par f n : Nat) (r : Rt) : Prop := ∀ (u b bl k j : Nat) (pr wa os dd fr to tk : Int32) (nm0 : Int64) (c2 : Nat → Int64) (Q : List Nat) (M : MT), rsO B N f fr to tk nm0 → rPre p d b bl par f n k j Q M → N - f + 3 ≤ u → rOut B N m g cg cn cl p one d b bl n k j pr wa c2 Q M r (rLp u (nI N) m (nI p) 1 fr to tk nm0 0 wa (nI g) pr (nI n) (nI Q.length) (nI bl) (nI d) os dd c2 cl cg cn M)
theorem R_one {B : Nat → Nat} {N : Nat} {c m : Nat → Int32} (h : txt B N c m) {g : Nat} {cg cn : Nat → Int64} {cl : Nat → Int32} {p d par f n : Nat} {r : Rt} (hK : ¬ tK B N f = 257) (hb : bgS (tK B N f)) (hlt : ∀ q, r = .ok q → f < q.2.1 ∧ q.2.1 ≤ N)
    (hT : ∀ (b bl k j : Nat) (wa os dd fr to tk : Int32) (nm0 : Int64) (Q : List Nat) (M : MT), rsO B N f fr to tk nm0 → rPre p d b bl par f n k j Q M → ∃ (z fr2 to2 tk2 : Int32) (nm2 : Int64) (wr2 wa2 st2 cd2 bl2 op2 os2 dd2 : Int32) (U : MT), rTs (nI p) (nI N) fr to tk nm0 0 wa (nI g) (nI n) (nI Q.length) (nI bl) (nI d) os dd cg cl cn m M = some (z, fr2, to2, tk2, nm2, wr2, wa2, st2, cd2, bl2, op2, os2, dd2, U) ∧ rTo B N p d b bl n k j Q M wa r z fr2 to2 tk2 nm2 wr2 wa2 st2 cd2 bl2 op2 U) : RX B N m g cg cn cl p true d par f n r := by
  intro u b bl k j pr wa os dd fr to tk nm0 c2 Q M hs hpre hu
  obtain ⟨u, rfl⟩ : ∃ v, u = v + 3 := ⟨u - 3, by omega⟩
  obtain ⟨z, fr2, to2, tk2, nm2, wr2, wa2, st2, cd2, bl2, op2, os2, dd2, U, e, ho⟩ := hT b bl k j wa os dd fr to tk nm0 Q M hs hpre
  rw [r_it h hs hK (fun w => by unfold bgS at hb; omega) hpre.2.2.2.2.1 hpre.2.2.2.2.2.1 (u + 2) (nI p) wa (nI g) pr (nI n) (nI Q.length) (nI bl) os dd c2 cl cg cn M e]
  cases r with
  | error e1 => exact r_lpB u (nI N) m (nI p) nm2 (nI g) pr st2 cd2 bl2 os2 dd2 c2 cl cg cn U ho
  | ok q =>
    obtain ⟨o1, o2, o3, o4, o5, Q2, bn, o6, o7, o8, o9⟩ := ho
    obtain ⟨l1, l2⟩ := hlt q rfl
    subst o1 o3 o4 o5 o6 o7 o8
    rw [if_neg n10]
    exact ⟨u + 2, fr2, to2, tk2, nm2, os2, dd2, Q2, bn, U, rfl, o2, by omega, o9⟩
theorem R_nil {B : Nat → Nat} {N : Nat} {m : Nat → Int32} {g : Nat} {cg cn : Nat → Int64} {cl : Nat → Int32} {p d par f n : Nat} (P : Nat → Nat → Nat) (L : Nat → List Nat) : RX B N m g cg cn cl p false d par f n (.ok (n, f, P, L)) := by
  intro u b bl k j pr wa os dd fr to tk nm0 c2 Q M hs hpre hu
  obtain ⟨p1, p2, p3, p4, p5, p6, p7, p8, p9⟩ := hpre
  refine ⟨u, fr, to, tk, nm0, os, dd, Q, bl, M, rfl, hs, hu, p1, ⟨[], (List.append_nil _).symm⟩, p2, Nat.le_refl _, Nat.le_refl _, ⟨fun s hs => ⟨rfl, rfl, rfl, rfl, rfl, rfl, rfl, rfl, rfl, ?_, ?_, ?_⟩, fun q => ?_⟩, ⟨fun x hx => ⟨rfl, rfl, fun _ => rfl⟩, fun i hi => rfl⟩, fun z => (by cases z), fun s s1 s2 => absurd s2 (Nat.not_lt.mpr s1)⟩
  · rw [if_neg (fun z => Nat.lt_irrefl _ z.2.2)]
  · rw [if_neg (fun z => Nat.lt_irrefl _ z.2.2)]
  · rw [if_neg (fun z => Nat.lt_irrefl _ z.2.2)]
  · rw [if_neg (fun z => Nat.lt_irrefl _ z.2.2)]
theorem bpar_eq {n n2 b par : Nat} {M U : MT} (h : bpar n b par M) (hn : n ≤ n2) (e1 : ∀ s, s < n → U.2.1 s = M.2.1 s) (e10 : U.2.2.2.2.2.2.2.2.2.2.1 b = M.2.2.2.2.2.2.2.2.2.2.1 b) (e12 : U.2.2.2.2.2.2.2.2.2.2.2.2.1 b = M.2.2.2.2.2.2.2.2.2.2.2.2.1 b) : bpar n2 b par U := by
  rcases h with ⟨g1, g2⟩ | ⟨g1, g2, g3⟩
  · exact Or.inl ⟨g1, e10.trans g2⟩
  · refine Or.inr ⟨by omega, e12.trans g2, ?_⟩
    rw [e1 par g1, e10]
    exact g3
theorem R_cons {B : Nat → Nat} {N : Nat} {m : Nat → Int32} {g : Nat} {cg cn : Nat → Int64} {cl : Nat → Int32} {p d par f n : Nat} {r1 r2 : Rt} (h1 : RX B N m g cg cn cl p true d par f n r1) (h2 : ∀ q1, r1 = .ok q1 → n < q1.1 ∧ q1.1 ≤ 40 ∧ q1.2.2.1 3 n = 40 ∧ RX B N m g cg cn cl p false d par q1.2.1 q1.1 r2 ∧ ∀ q2, r2 = .ok q2 → q1.1 ≤ q2.1 ∧ q2.1 ≤ 40) : RX B N m g cg cn cl p false d par f n (joinR n r1 r2) := by
  intro u b bl k j pr wa os dd fr to tk nm0 c2 Q M hs hpre hu
  have o1 := h1 u b bl k j pr wa os dd fr to tk nm0 c2 Q M hs hpre hu
  cases r1 with
  | error e1 => exact o1
  | ok q1 =>
    obtain ⟨u2, fr2, to2, tk2, nm2, os2, dd2, Q2, bn, U, x1, x2, x3, x4⟩ := o1
    obtain ⟨k1, k2, k3, k4, k5⟩ := h2 q1 rfl
    obtain ⟨p1, p2, p3, p4, p5, p6, p7, p8, p9⟩ := hpre
    have x40 := x4
    obtain ⟨a1, a2, a3, a4, a5, ⟨a6, a6f⟩, ⟨a7, a7o⟩, a8, a9⟩ := x4
    have pre2 : rPre p d b bn par q1.2.1 q1.1 3 n Q2 U := ⟨a1, a3, by omega, by omega, p5, p6, (a7o (d - 1) (by omega)).trans p7, Or.inr (Or.inl ⟨rfl, k1, a8 rfl⟩), bpar_eq p9 (by omega) (fun s hs => (a6 s hs).1) (a7 b p3).1 (a7 b p3).2.1⟩
    have o2 := k4 u2 b bn 3 n pr wa os2 dd2 fr2 to2 tk2 nm2 c2 Q2 U x2 pre2 x3
    rw [x1]
    cases r2 with
    | error e2 => exact o2
    | ok q2 =>
      obtain ⟨u3, fr3, to3, tk3, nm3, os3, dd3, Q3, b3, V, y1, y2, y3, y4⟩ := o2
      obtain ⟨c1, c2⟩ := k5 q2 rfl
      have y40 := y4
      obtain ⟨g1, g2, g3, g4, g5, g6, ⟨g7, g7o⟩, g8, g9⟩ := y4
      refine ⟨u3, fr3, to3, tk3, nm3, os3, dd3, Q3, b3, V, y1, y2, y3, ?_⟩
      refine post_two (one2 := false) x40 y40 k1 c1 c2 (Or.inl rfl) rfl rfl rfl rfl rfl rfl rfl rfl rfl rfl rfl rfl (fun _ _ => ⟨rfl, rfl⟩) (Nat.le_refl _) (Nat.le_refl _) (fun _ _ => rfl) (fun x hx hxb => (g7 x (by omega)).2.2 hxb) (fun z => by cases z) (by omega) g3 (fun a => ?_) ?_ k3 (fun s s1 s2 a => ?_) (fun s s1 s2 a => ?_) (fun s s1 s2 => ?_) (fun s s1 s2 => ?_)
      · by_cases ha : a = 3
        · exact Or.inl ha
        · refine Or.inr ?_
          rw [if_neg (fun z => ha z.1), if_pos k1]
      · rw [if_pos ⟨rfl, rfl⟩]
      · rw [if_neg (fun z => absurd z.2 (by omega)), if_pos s2]
      · rw [if_neg (fun z => absurd z.2 (by omega)), if_neg (by omega)]
      · rw [if_pos s2]
      · rw [if_neg (by omega)]
