/-! ===== pure rows 103: the procedures, one behind the other ===== -/
def wfP (B : Nat → Nat) (N np n : Nat) (P : Nat → Nat → Nat) (L : Nat → List Nat) (ow E : Nat → Nat) : Prop := (∀ s, s < n →
    P 0 s ≤ 7 ∧ (P 0 s = 0 → P 6 s < 5) ∧ (P 0 s = 3 → tK B N (P 7 s) = 258 ∧ P 7 s ≤ N) ∧ ow s < np ∧ (P 2 s = 40 ∨ (P 2 s < s ∧ ow (P 2 s) = ow s ∧ (P 0 (P 2 s) = 1 ∨ P 0 (P 2 s) = 2))) ∧ (∀ a, a = 3 ∨ a = 4 ∨ a = 5 → P a s = 40 ∨ (s < P a s ∧ P a s < n ∧ ow (P a s) = ow s)) ∧ (P 0 s < 3 ∨ P 0 s = 4 ∨ P 0 s = 5 → cv (L s)) ∧ (P 0 s = 3 ∨ P 0 s = 6 ∨ P 0 s = 7 → L s = [1]) ∧ (P 0 s = 2 → P 5 s = 40) ∧ P 1 s ≤ N) ∧ ∀ q, q < np → E q = 40 ∨ (E q < n ∧ ow (E q) = q)
def cPR (B : Nat → Nat) (N np n : Nat) (PN : Nat → List Nat) (P : Nat → Nat → Nat) (L : Nat → List Nat) (ow E : Nat → Nat) (c5 : Nat → Int64) (R : CT) (c18 : Nat → Int32) : Prop := (∀ s, s < n → cRw B N (ow s) P L s R) ∧ ∀ q, q < np → c5 q = nC (PN q) ∧ c18 q = pI (E q)
def rPR (B : Nat → Nat) (N np n f : Nat) (PN : Nat → List Nat) (P : Nat → Nat → Nat) (L : Nat → List Nat) (ow E : Nat → Nat) (Q : List Nat) (bl : Nat) (c2 : Nat → Int64) (M : MT) : Prop := (∀ s, s < n → rRw B N (ow s) P L Q bl s M) ∧ (∀ q, q < np → c2 q = nM (PN q) ∧ M.2.2.2.2.2.2.2.2.2.2.2.1 q = pM (E q)) ∧ codeIs M.2.2.2.2.2.2.2.2.2.2.2.2.2.2.2.1 Q ∧ Q.length ≤ f ∧ bl ≤ np + 2 * n
def xPr (n : Nat) (P P2 : Nat → Nat → Nat) : Nat → Nat → Nat := fun a s => if s < n then P a s else P2 a s
def xLs (n : Nat) (L L2 : Nat → List Nat) : Nat → List Nat := fun s => if s < n then L s else L2 s
def xOw (n np : Nat) (ow : Nat → Nat) : Nat → Nat := fun s => if s < n then ow s else np
def xEn (np n n2 : Nat) (E : Nat → Nat) : Nat → Nat := fun q => if q = np then (if n < n2 then n else 40) else E q
def xNm (np : Nat) (PN : Nat → List Nat) (W : List Nat) : Nat → List Nat := fun q => if q = np then W else PN q
theorem wf_ext {B : Nat → Nat} {N np n n2 : Nat} {P P2 : Nat → Nat → Nat} {L L2 : Nat → List Nat} {ow E : Nat → Nat} (h : wfP B N np n P L ow E) (hn : n ≤ n2) (hs : shp B N 40 n n2 P2 L2) : wfP B N (np + 1) n2 (xPr n P P2) (xLs n L L2) (xOw n np ow) (xEn np n n2 E) := by
  have p1 : ∀ a s, s < n → xPr n P P2 a s = P a s := fun a s hs => by unfold xPr; rw [if_pos hs]
  have p2 : ∀ a s, ¬ s < n → xPr n P P2 a s = P2 a s := fun a s hs => by unfold xPr; rw [if_neg hs]
  have o1 : ∀ s, s < n → xOw n np ow s = ow s := fun s hs => by unfold xOw; rw [if_pos hs]
  have o2 : ∀ s, ¬ s < n → xOw n np ow s = np := fun s hs => by unfold xOw; rw [if_neg hs]
  refine ⟨fun s s2 => ?_, fun q hq => ?_⟩
  · by_cases hsn : s < n
    · obtain ⟨x1, x2, x3, x4, x5, x6, x7, x8, x9, x10⟩ := h.1 s hsn
      have l1 : xLs n L L2 s = L s := by unfold xLs; rw [if_pos hsn]
      rw [p1 0 s hsn, p1 6 s hsn, p1 7 s hsn, p1 2 s hsn, p1 5 s hsn, p1 1 s hsn, o1 s hsn, l1]
      refine ⟨x1, x2, x3, by omega, ?_, fun a ha => ?_, x7, x8, x9, x10⟩
      · rcases x5 with z | ⟨z1, z2, z3⟩
        · exact Or.inl z
        · refine Or.inr ⟨z1, ?_, ?_⟩
          · rw [o1 _ (by omega)]; exact z2
          · rw [p1 0 _ (by omega)]; exact z3
      · rw [p1 a s hsn]
        rcases x6 a ha with z | ⟨z1, z2, z3⟩
        · exact Or.inl z
        · exact Or.inr ⟨z1, by omega, by rw [o1 _ z2]; exact z3⟩
    · obtain ⟨x1, x2, x3, x4, x5, x6, x7, x8, x9⟩ := hs s (by omega) s2
      have l1 : xLs n L L2 s = L2 s := by unfold xLs; rw [if_neg hsn]
      rw [p2 0 s hsn, p2 6 s hsn, p2 7 s hsn, p2 2 s hsn, p2 5 s hsn, p2 1 s hsn, o2 s hsn, l1]
      refine ⟨x1, x2, x3, by omega, ?_, fun a ha => ?_, x6, x7, x8, x9⟩
      · rcases x4 with z | ⟨z1, z2, z3⟩
        · exact Or.inl z
        · refine Or.inr ⟨z2, o2 _ (by omega), ?_⟩
          rw [p2 0 _ (by omega)]; exact z3
      · rw [p2 a s hsn]
        rcases x5 a ha with z | ⟨z1, z2⟩
        · exact Or.inl z
        · exact Or.inr ⟨z1, z2, o2 _ (by omega)⟩
  · unfold xEn
    by_cases hqn : q = np
    · rw [if_pos hqn]
      by_cases hlt : n < n2
      · rw [if_pos hlt]
        exact Or.inr ⟨hlt, by rw [o2 n (Nat.lt_irrefl n)]; exact hqn.symm⟩
      · rw [if_neg hlt]; exact Or.inl rfl
    · rw [if_neg hqn]
      rcases h.2 q (by omega) with z | ⟨z1, z2⟩
      · exact Or.inl z
      · exact Or.inr ⟨by omega, by rw [o1 _ z1]; exact z2⟩
theorem c_ext {B : Nat → Nat} {N np n n2 : Nat} {PN : Nat → List Nat} {P P2 : Nat → Nat → Nat} {L L2 : Nat → List Nat} {ow E : Nat → Nat} {c5 : Nat → Int64} {R S : CT} {c18 : Nat → Int32} {W : List Nat} (h : cPR B N np n PN P L ow E c5 R c18) (hn : n ≤ n2) (he : eqR n S R) (hr : ∀ s, n ≤ s → s < n2 → cRw B N np P2 L2 s S) : cPR B N (np + 1) n2 (xNm np PN W) (xPr n P P2) (xLs n L L2) (xOw n np ow) (xEn np n n2 E) (vp_updL c5 np (nC W)) S (upd c18 np (pI (if n < n2 then n else 40))) := by
  refine ⟨fun s s2 => ?_, fun q hq => ?_⟩
  · by_cases hsn : s < n
    · have hrow := h.1 s hsn
      have o1 : xOw n np ow s = ow s := by unfold xOw; rw [if_pos hsn]
      rw [o1]
      refine cRw_eq hrow (he s hsn).1 ?_ (fun a => Or.inr ?_) ?_
      · unfold xPr
        rw [if_pos hsn]
        exact (he s hsn).2.trans hrow.2.2.2.2.2.2.1
      · unfold xPr; rw [if_pos hsn]
      · unfold xLs; rw [if_pos hsn]
    · have hrow := hr s (by omega) s2
      have o1 : xOw n np ow s = np := by unfold xOw; rw [if_neg hsn]
      rw [o1]
      refine cRw_eq hrow (eqA_refl s S) ?_ (fun a => Or.inr ?_) ?_
      · unfold xPr
        rw [if_neg hsn]
        exact hrow.2.2.2.2.2.2.1
      · unfold xPr; rw [if_neg hsn]
      · unfold xLs; rw [if_neg hsn]
  · unfold xNm xEn
    by_cases hqn : q = np
    · rw [if_pos hqn, if_pos hqn, hqn, updL_at, upd_at]
      exact ⟨rfl, rfl⟩
    · rw [if_neg hqn, if_neg hqn, updL_ne hqn, upd_ne hqn]
      exact h.2 q (by omega)
theorem r_ext {B : Nat → Nat} {N np n f : Nat} {PN : Nat → List Nat} {P : Nat → Nat → Nat} {L : Nat → List Nat} {ow E : Nat → Nat} {Q : List Nat} {bl : Nat} {c2 : Nat → Int64} {M : MT} {W : List Nat} (h : rPR B N np n f PN P L ow E Q bl c2 M) {q : Nat × Nat × (Nat → Nat → Nat) × (Nat → List Nat)} {Q2 : List Nat} {bn f6 : Nat} {U : MT} (hn : n ≤ q.1) (h40 : q.1 ≤ 40) (hf6 : f6 < q.2.1) (hp : rPost B N np 1 bl (bl + 1) n 8 np false Q (opn (M.1, M.2.1, M.2.2.1, M.2.2.2.1, M.2.2.2.2.1, M.2.2.2.2.2.1, M.2.2.2.2.2.2.1, M.2.2.2.2.2.2.2.1, M.2.2.2.2.2.2.2.2.1, M.2.2.2.2.2.2.2.2.2.1, M.2.2.2.2.2.2.2.2.2.2.1, upd M.2.2.2.2.2.2.2.2.2.2.2.1 np (-1), M.2.2.2.2.2.2.2.2.2.2.2.2.1, M.2.2.2.2.2.2.2.2.2.2.2.2.2.1, M.2.2.2.2.2.2.2.2.2.2.2.2.2.2.1, M.2.2.2.2.2.2.2.2.2.2.2.2.2.2.2.1, M.2.2.2.2.2.2.2.2.2.2.2.2.2.2.2.2.1, M.2.2.2.2.2.2.2.2.2.2.2.2.2.2.2.2.2) bl 0 (-1) 0) (q.1, f6, q.2.2) Q2 bn U) : rPR B N (np + 1) q.1 q.2.1 (xNm np PN W) (xPr n P q.2.2.1) (xLs n L q.2.2.2) (xOw n np ow) (xEn np n q.1 E) Q2 bn (vp_updL c2 np (nM W)) U := by
  obtain ⟨g1, g2, g3, g4, g5, ⟨g6, g6f⟩, ⟨g7, g7o⟩, g8, g9⟩ := hp
  obtain ⟨k1, k2, k3, k4, k5⟩ := h
  have g5 : bn + 2 * n ≤ bl + 1 + 2 * q.1 := g5
  have g3 : Q2.length ≤ f6 := g3
  refine ⟨fun s s2 => ?_, fun x hx => ?_, g1, by omega, by omega⟩
  · by_cases hsn : s < n
    · have hrow := k1 s hsn
      have o1 : xOw n np ow s = ow s := by unfold xOw; rw [if_pos hsn]
      obtain ⟨x1, x2, x3, x5, x7, x8, x13, x16, x17, x4, x6, x6b⟩ := g6 s hsn
      rw [if_neg (fun z => absurd z.1 (by decide))] at x4 x6 x6b
      rw [o1]
      refine rRw_eq hrow (fun x hx => (g6 x (by omega)).1) x2 x3 x5 x7 x8 x13 x16 x17 ?_ ?_ ?_ (fun a => Or.inr (Or.inr (Or.inr ?_))) ?_ g2 (by omega) (fun x hx => ⟨(g7 x (by omega)).1.trans (upd_ne (show x ≠ bl by omega)), (g7 x (by omega)).2.1.trans (upd_ne (show x ≠ bl by omega))⟩)
      · unfold xPr; rw [if_pos hsn]; exact x4.trans hrow.2.2.2.1
      · unfold xPr; rw [if_pos hsn]; exact x6.trans hrow.2.2.2.2.1
      · unfold xPr; rw [if_pos hsn]; exact x6b.trans hrow.2.2.2.2.2.1
      · unfold xPr; rw [if_pos hsn]
      · unfold xLs; rw [if_pos hsn]
    · have hrow := g9 s (by omega) s2
      have o1 : xOw n np ow s = np := by unfold xOw; rw [if_neg hsn]
      have hP : ∀ a, xPr n P q.2.2.1 a s = q.2.2.1 a s := fun a => by unfold xPr; rw [if_neg hsn]
      rw [o1]
      exact rRw_eq hrow (fun _ _ => rfl) rfl rfl rfl rfl rfl rfl rfl rfl (by rw [hP]; exact hrow.2.2.2.1) (by rw [hP]; exact hrow.2.2.2.2.1) (by rw [hP]; exact hrow.2.2.2.2.2.1) (fun a => Or.inr (Or.inr (Or.inr (hP a)))) (by unfold xLs; rw [if_neg hsn]) ⟨[], (List.append_nil _).symm⟩ (Nat.le_refl _) (fun _ _ => ⟨rfl, rfl⟩)
  · have e11 := g6f x
    unfold xNm xEn
    by_cases hxn : x = np
    · rw [if_pos hxn, if_pos hxn, hxn, updL_at]
      refine ⟨rfl, ?_⟩
      rw [hxn] at e11
      rw [e11]
      by_cases hlt : n < q.1
      · rw [if_pos ⟨rfl, rfl, hlt⟩, if_pos hlt, pM_n (by omega)]
      · rw [if_neg (fun z => hlt z.2.2), if_neg hlt]
        exact (show upd M.2.2.2.2.2.2.2.2.2.2.2.1 np (-1) np = pM 40 from (upd_at _ _ _).trans (by decide))
    · rw [if_neg hxn, if_neg hxn, updL_ne hxn]
      refine ⟨(k2 x (by omega)).1, ?_⟩
      rw [e11, if_neg (fun z => hxn z.2.1)]
      exact (show upd M.2.2.2.2.2.2.2.2.2.2.2.1 np (-1) x = pM (E x) from (upd_ne hxn).trans (k2 x (by omega)).2)
theorem pNm_x {PN : Nat → List Nat} {np : Nat} {W : List Nat} (h : pNm PN np) (hW : nameOk W) (hd : ¬ dpN PN np W = true) : pNm (xNm np PN W) (np + 1) := by
  have hno := fun w => hd (dpN_t.mpr w)
  have hn6 : np < 6 := by
    by_cases q : 6 ≤ np
    · exact absurd (Or.inl q) hno
    · omega
  refine ⟨by omega, fun q hq => ?_, fun q r hq hr e => ?_⟩
  · unfold xNm
    by_cases hqn : q = np
    · rw [if_pos hqn]; exact hW
    · rw [if_neg hqn]; exact h.2.1 q (by omega)
  · unfold xNm at e
    by_cases hqn : q = np
    · rw [if_pos hqn] at e
      by_cases hrn : r = np
      · omega
      · rw [if_neg hrn] at e
        exact absurd (Or.inr ⟨r, by omega, e.symm⟩) hno
    · rw [if_neg hqn] at e
      by_cases hrn : r = np
      · rw [if_pos hrn] at e
        exact absurd (Or.inr ⟨q, by omega, e⟩) hno
      · rw [if_neg hrn] at e
        exact h.2.2 q r (by omega) (by omega) e
theorem hdP_ok {B : Nat → Nat} {N : Nat} {c m : Nat → Int32} (h : txt B N c m) {PN VN : Nat → List Nat} {np g f : Nat} (hf : f ≤ N) (hv : vNm VN g 0) {x : Nat × Nat × Nat × (Nat → List Nat)} (hx : hdP B N PN np g VN f = .ok x) : f < x.2.1 ∧ x.2.1 ≤ N ∧ ¬ tK B N x.2.1 = 257 ∧ vNm x.2.2.2 g x.2.2.1 ∧ nameOk (wj B x.1 (tL B N x.1)) ∧ ¬ dpN PN np (wj B x.1 (tL B N x.1)) = true ∧ ∀ v, v < g → x.2.2.2 v = VN v := by
  unfold hdP at hx
  split at hx
  · rename_i h260
    cases hg : goT B N (tX B N f) with
    | error e => rw [hg] at hx; cases hx
    | ok f1 =>
      rw [hg] at hx
      obtain ⟨y1, y2⟩ := goT_ok hg
      subst y1
      dsimp only at hx
      have l1 := tX_gt (B := B) hf (by omega)
      have l2 := tX_le (B := B) hf
      split at hx
      · rename_i h258
        have hW := name_ok h l2 (show 258 ≤ tK B N (tX B N f) by omega)
        split at hx
        · cases hx
        · rename_i hdp
          cases hg2 : goT B N (tX B N (tX B N f)) with
          | error e => rw [hg2] at hx; cases hx
          | ok f2 =>
            rw [hg2] at hx
            obtain ⟨y3, y4⟩ := goT_ok hg2
            subst y3
            dsimp only at hx
            have l3 := tX_gt (B := B) l2 (by omega)
            have l4 := tX_le (B := B) l2
            cases ho : opT B N 0 (tX B N (tX B N f)) with
            | error e => rw [ho] at hx; cases hx
            | ok f3 =>
              rw [ho] at hx
              obtain ⟨o1, o2, o3, o4⟩ := opT_ok ho
              dsimp only at hx
              have l5 := tX_gt (B := B) l4 (by omega)
              have l6 := tX_le (B := B) l4
              rw [← o3] at l5 l6
              split at hx
              · rename_i h259
                cases hg4 : goT B N (tX B N f3) with
                | error e => rw [hg4] at hx; cases hx
                | ok f4 =>
                  rw [hg4] at hx
                  obtain ⟨y5, y6⟩ := goT_ok hg4
                  subst y5
                  dsimp only at hx
                  have l7 := tX_gt (B := B) l6 (by omega)
                  have l8 := tX_le (B := B) l6
                  cases hvl : vL B N true 2 g 0 VN (tX B N f3) with
                  | error e => rw [hvl] at hx; cases hx
                  | ok q =>
                    rw [hvl] at hx
                    cases hx
                    obtain ⟨a1, a2, a3, a4, a5, a6, a7, a8, a9⟩ := vL_ok h 2 g 0 VN _ q l8 (by unfold vCap; rw [if_pos rfl]; exact ⟨rfl, hv.1⟩) hv hvl
                    rw [a7 rfl] at a4
                    exact ⟨by show f < q.1; omega, a2, a3, a4, hW, hdp, fun v hvv => a9 v (Or.inl hvv)⟩
              · cases hx
                exact ⟨by show f < f3; omega, l6, o4, hv, hW, hdp, fun v _ => rfl⟩
      · cases hx
  · cases hx
noncomputable def fF (c : Nat → Int32) (u : Nat) (i it lo t a : Int32) (nm0 : Int64) (fl fa sz nx gl pr st : Int32) (c4 c5 : Nat → Int64) (R : CT) (c18 c19 c20 c21 : Nat → Int32) := ob (fPc lo t a nm0 fl fa sz nx c gl pr st c5 c4 R c18) fun o => fX2_readProgram_l43 c u i o.1 it o.2.2.2.2.2.2.2.1 o.2.2.2.2.2.2.2.2.1 o.2.2.2.2.2.2.2.2.2.1 o.2.1 o.2.2.1 o.2.2.2.1 o.2.2.2.2.1 o.2.2.2.2.2.1 sz o.2.2.2.2.2.2.1 o.2.2.2.2.2.2.2.2.2.2.2.1 o.2.2.2.2.2.2.2.2.2.2.1 o.2.2.2.2.2.2.2.2.2.2.2.2.1 o.2.2.2.2.2.2.2.2.2.2.2.2.2.1 o.2.2.2.2.2.2.2.2.2.2.2.2.2.2.1 o.2.2.2.2.2.2.2.2.2.2.2.2.2.2.2.1 o.2.2.2.2.2.2.2.2.2.2.2.2.2.2.2.2.1 o.2.2.2.2.2.2.2.2.2.2.2.2.2.2.2.2.2.1 o.2.2.2.2.2.2.2.2.2.2.2.2.2.2.2.2.2.2.1 o.2.2.2.2.2.2.2.2.2.2.2.2.2.2.2.2.2.2.2.1 o.2.2.2.2.2.2.2.2.2.2.2.2.2.2.2.2.2.2.2.2.1 o.2.2.2.2.2.2.2.2.2.2.2.2.2.2.2.2.2.2.2.2.2.1 o.2.2.2.2.2.2.2.2.2.2.2.2.2.2.2.2.2.2.2.2.2.2.1 o.2.2.2.2.2.2.2.2.2.2.2.2.2.2.2.2.2.2.2.2.2.2.2.1 o.2.2.2.2.2.2.2.2.2.2.2.2.2.2.2.2.2.2.2.2.2.2.2.2 c19 c20 c21
/-- the end of the class's loop over the procedures -/
theorem c_l43F {fl : Int32} (hf : ¬ fl = 0) (c : Nat → Int32) (u : Nat) (i lo it gl pr st a : Int32) (nm0 : Int64) (fa sz nx : Int32) (c4 c5 : Nat → Int64) (R : CT) (c18 c19 c20 c21 : Nat → Int32) : fX2_readProgram_l43 c (u + 1) i lo it gl pr st 257 a nm0 fl fa sz nx c4 c5 R.1 R.2.1 R.2.2.1 R.2.2.2.1 R.2.2.2.2.1 R.2.2.2.2.2.1 R.2.2.2.2.2.2.1 R.2.2.2.2.2.2.2.1 R.2.2.2.2.2.2.2.2.1 R.2.2.2.2.2.2.2.2.2.1 R.2.2.2.2.2.2.2.2.2.2.1 R.2.2.2.2.2.2.2.2.2.2.2 c18 c19 c20 c21 = fX2_readProgram_p93 c lo it gl pr st 257 a nm0 fl fa sz nx c4 c5 R.1 R.2.1 R.2.2.1 R.2.2.2.1 R.2.2.2.2.1 R.2.2.2.2.2.1 R.2.2.2.2.2.2.1 R.2.2.2.2.2.2.2.1 R.2.2.2.2.2.2.2.2.1 R.2.2.2.2.2.2.2.2.2.1 R.2.2.2.2.2.2.2.2.2.2.1 R.2.2.2.2.2.2.2.2.2.2.2 c18 c19 c20 c21 := by
  show fX2_readProgram_b43 c _ i lo it gl pr st 257 a nm0 fl fa sz nx c4 c5 R.1 R.2.1 R.2.2.1 R.2.2.2.1 R.2.2.2.2.1 R.2.2.2.2.2.1 R.2.2.2.2.2.2.1 R.2.2.2.2.2.2.2.1 R.2.2.2.2.2.2.2.2.1 R.2.2.2.2.2.2.2.2.2.1 R.2.2.2.2.2.2.2.2.2.2.1 R.2.2.2.2.2.2.2.2.2.2.2 c18 c19 c20 c21 = _
  unfold fX2_readProgram_b43 fX2_readProgram_p72
  by_cases h6 : 6 ≤ i
  · rw [if_pos h6, if_neg (by decide), c_failF hf, ob_s]
  · rw [if_neg h6, if_neg (by decide), if_neg (by decide), c_failF hf, ob_s]
theorem kM_0 (k : Nat) : kM k = 0 ↔ k = 256 := by
  unfold kM
  by_cases h1 : k = 256
  · rw [if_pos h1]; exact ⟨fun _ => h1, fun _ => rfl⟩
  · rw [if_neg h1]
    by_cases h2 : k = 257
    · rw [if_pos h2]; omega
    · rw [if_neg h2]
      by_cases h3 : k = 258
      · rw [if_pos h3]; omega
      · rw [if_neg h3]
        by_cases h4 : k < 256
        · rw [if_pos h4]; omega
        · rw [if_neg h4]; omega
noncomputable def rPl (w : Nat) (sz : Int32) (m : Nat → Int32) (y1 y2 fr to tk : Int32) (nm0 : Int64) (wr wa gl pr st cd bl op os dd : Int32) (cg : Nat → Int64) (cl : Nat → Int32) (cn c2 : Nat → Int64) (M : MT) := fX11_parse_l62 sz m w y1 y2 fr to tk nm0 wr wa gl pr st cd bl op os dd cg cl cn c2 M.2.2.2.2.2.2.2.2.2.2.2.1 M.2.2.2.2.2.2.2.2.2.2.2.2.1 M.2.2.2.2.2.2.2.2.2.2.1 M.2.2.2.2.2.2.2.2.2.1 M.1 M.2.1 M.2.2.1 M.2.2.2.1 M.2.2.2.2.1 M.2.2.2.2.2.1 M.2.2.2.2.2.2.1 M.2.2.2.2.2.2.2.1 M.2.2.2.2.2.2.2.2.1 M.2.2.2.2.2.2.2.2.2.2.2.2.2.1 M.2.2.2.2.2.2.2.2.2.2.2.2.2.2.1 M.2.2.2.2.2.2.2.2.2.2.2.2.2.2.2.1 M.2.2.2.2.2.2.2.2.2.2.2.2.2.2.2.2.1 M.2.2.2.2.2.2.2.2.2.2.2.2.2.2.2.2.2
abbrev RqO : Type := Int32 × Int32 × Int32 × Int32 × Int64 × Int32 × Int32 × Int32 × Int32 × Int32 × Int32 × Int32 × Int32 × Int32 × Int32 × (Nat → Int64) × (Nat → Int32) × (Nat → Int64) × (Nat → Int64) × (Nat → Int32) × (Nat → Int32) × (Nat → Int32) × (Nat → Int32) × (Nat → Int32) × (Nat → Int32) × (Nat → Int32) × (Nat → Int32) × (Nat → Int32) × (Nat → Int32) × (Nat → Int32) × (Nat → Int32) × (Nat → Int32) × (Nat → Int32) × (Nat → Int32) × (Nat → Int32) × (Nat → Int64) × (Nat → Int32)
def rQB (e : Nat × Nat) (o : RqO) : Prop := o.1 = 0 ∧ o.2.2.2.2.2.1 = nI e.1 ∧ o.2.2.2.2.2.2.1 = nI e.2
/-- a procedure that fails ends the reference's loop -/
theorem r_l62B {e : Nat × Nat} {o : RpO} (he : ¬ nI e.1 = 0) (ho : rPB e o) (w : Nat) (sz : Int32) (m : Nat → Int32) (y1 fr to tk : Int32) (nm0 : Int64) (wa gl pr st cd bl op os dd : Int32) (cg : Nat → Int64) (cl : Nat → Int32) (cn c2 : Nat → Int64) (M : MT) (e1 : rPc sz fr to tk nm0 0 wa gl pr st cd bl op os dd m c2 cl cg cn M = some o) : ∃ x : RqO, rPl (w + 2) sz m y1 1 fr to tk nm0 0 wa gl pr st cd bl op os dd cg cl cn c2 M = some x ∧ rQB e x := by
  unfold rPc at e1
  unfold rPl
  show ∃ x : RqO, fX11_parse_b62 sz m (fX11_parse_l62 sz m (w + 1)) y1 1 fr to tk nm0 0 wa gl pr st cd bl op os dd cg cl cn c2 M.2.2.2.2.2.2.2.2.2.2.2.1 M.2.2.2.2.2.2.2.2.2.2.2.2.1 M.2.2.2.2.2.2.2.2.2.2.1 M.2.2.2.2.2.2.2.2.2.1 M.1 M.2.1 M.2.2.1 M.2.2.2.1 M.2.2.2.2.1 M.2.2.2.2.2.1 M.2.2.2.2.2.2.1 M.2.2.2.2.2.2.2.1 M.2.2.2.2.2.2.2.2.1 M.2.2.2.2.2.2.2.2.2.2.2.2.2.1 M.2.2.2.2.2.2.2.2.2.2.2.2.2.2.1 M.2.2.2.2.2.2.2.2.2.2.2.2.2.2.2.1 M.2.2.2.2.2.2.2.2.2.2.2.2.2.2.2.2.1 M.2.2.2.2.2.2.2.2.2.2.2.2.2.2.2.2.2 = some x ∧ _
  unfold fX11_parse_b62 fX11_parse_p94 fX11_parse_p95
  rw [if_neg n10, e1, ob_s]
  rcases ho with ⟨h1, h2, h3⟩ | ⟨h1, h2, h3, h4, h5⟩
  · rw [if_pos h1, h1]
    show ∃ x : RqO, fX11_parse_b62 sz m _ 0 0 _ _ _ _ _ _ _ _ _ _ _ _ _ _ _ _ _ _ _ _ _ _ _ _ _ _ _ _ _ _ _ _ _ _ _ _ = some x ∧ _
    unfold fX11_parse_b62 fX11_parse_p114 fX11_parse_p115
    rw [if_pos rfl, if_pos rfl, bd_eq _ (by decide)]
    exact ⟨_, rfl, rfl, h2, h3⟩
  · have em : fX11_may 1 o.2.1 o.2.2.2.1 o.2.2.2.2.2.1 o.2.2.2.2.2.2.1 = some (0, (1, nI e.2)) := by
      rw [h3, h4, h5]
      have := r_may (k := 257) (f := e.2) (b := 1) (wa := o.2.2.2.2.2.2.1)
      rw [if_pos rfl] at this
      exact this
    rw [h2, if_neg n10, em, ob_s, if_pos rfl]
    show ∃ x : RqO, fX11_parse_b62 sz m _ 1 0 _ _ _ _ _ _ _ _ _ _ _ _ _ _ _ _ _ _ _ _ _ _ _ _ _ _ _ _ _ _ _ _ _ _ _ _ = some x ∧ _
    unfold fX11_parse_b62 fX11_parse_p114 fX11_parse_p115
    rw [if_pos rfl, if_neg n10, if_neg n10, bd_eq _ (by decide)]
    exact ⟨_, rfl, rfl, by rw [h1]; exact (by decide : (1 : Int32) = nI 1), rfl⟩
theorem prog_all {B : Nat → Nat} {N : Nat} {c m : Nat → Int32} (h : txt B N c m) {VN : Nat → List Nat} {g : Nat} (hv : vNm VN g 0) (it wa : Int32) (c19 c20 c21 : Nat → Int32) : ∀ (k np n f : Nat) (PN : Nat → List Nat) (P : Nat → Nat → Nat) (L : Nat → List Nat) (ow E : Nat → Nat), np + k = 6 → pNm PN np → wfP B N np n P L ow E → n ≤ 40 → f ≤ N → ¬ tK B N f = 257 →
    ∀ (u w : Nat) (lo t a : Int32) (nm0 : Int64) (fl fa nx : Int32) (c4 c5 : Nat → Int64) (R : CT) (c18 : Nat → Int32) (fr to tk : Int32) (nm1 : Int64) (os dd : Int32) (c2 cg cn : Nat → Int64) (cl : Nat → Int32) (Q : List Nat) (bl : Nat) (M : MT), 8 ≤ u + np → 9 ≤ w + np → scO B N f t a nm0 fl fa nx → vC VN g 0 c4 → cPR B N np n PN P L ow E c5 R c18 → rsO B N f fr to tk nm1 → (∀ v, v < g → cg v = nM (VN v)) → rPR B N np n f PN P L ow E Q bl c2 M →
    (∃ e : Nat × Nat, (∃ (lo2 gl2 pr2 st2 a2 : Int32) (nm2 : Int64) (fl2 fa2 nx2 : Int32) (d4 d5 : Nat → Int64) (S : CT) (d18 : Nat → Int32), fF c u (nI np) it lo t a nm0 fl fa (nI N) nx (nI g) (nI np) (nI n) c4 c5 R c18 c19 c20 c21 = fX2_readProgram_p93 c lo2 it gl2 pr2 st2 257 a2 nm2 fl2 fa2 (nI N) nx2 d4 d5 S.1 S.2.1 S.2.2.1 S.2.2.2.1 S.2.2.2.2.1 S.2.2.2.2.2.1 S.2.2.2.2.2.2.1 S.2.2.2.2.2.2.2.1 S.2.2.2.2.2.2.2.2.1 S.2.2.2.2.2.2.2.2.2.1 S.2.2.2.2.2.2.2.2.2.2.1 S.2.2.2.2.2.2.2.2.2.2.2 d18 c19 c20 c21 ∧ scF e 257 fl2 fa2) ∧ ∃ x : RqO, rPl w (nI N) m 1 1 fr to tk nm1 0 wa (nI g) (nI np) (nI n) (nI Q.length) (nI bl) 0 os dd cg cl cn c2 M = some x ∧ rQB e x) ∨
    (∃ (np2 n2 f2 : Nat) (PN2 : Nat → List Nat) (P2 : Nat → Nat → Nat) (L2 : Nat → List Nat) (ow2 E2 : Nat → Nat), 1 ≤ np2 ∧ pNm PN2 np2 ∧ wfP B N np2 n2 P2 L2 ow2 E2 ∧ n2 ≤ 40 ∧ f2 ≤ N ∧ (∃ (lo2 a2 : Int32) (nm2 : Int64) (fa2 nx2 : Int32) (d4 d5 : Nat → Int64) (S : CT) (d18 : Nat → Int32), fF c u (nI np) it lo t a nm0 fl fa (nI N) nx (nI g) (nI np) (nI n) c4 c5 R c18 c19 c20 c21 = fX2_readProgram_p93 c lo2 it (nI g) (nI np2) (nI n2) 256 a2 nm2 0 fa2 (nI N) nx2 d4 d5 S.1 S.2.1 S.2.2.1 S.2.2.2.1 S.2.2.2.2.1 S.2.2.2.2.2.1 S.2.2.2.2.2.2.1 S.2.2.2.2.2.2.2.1 S.2.2.2.2.2.2.2.2.1 S.2.2.2.2.2.2.2.2.2.1 S.2.2.2.2.2.2.2.2.2.2.1 S.2.2.2.2.2.2.2.2.2.2.2 d18 c19 c20 c21 ∧ cPR B N np2 n2 PN2 P2 L2 ow2 E2 d5 S d18) ∧
      ∃ (fr2 to2 tk2 : Int32) (nm2 : Int64) (os2 dd2 : Int32) (Q2 : List Nat) (bn : Nat) (dg : Nat → Int64) (dl : Nat → Int32) (dn d2 : Nat → Int64) (U : MT), rPl w (nI N) m 1 1 fr to tk nm1 0 wa (nI g) (nI np) (nI n) (nI Q.length) (nI bl) 0 os dd cg cl cn c2 M = some (1, fr2, to2, tk2, nm2, 0, wa, nI g, nI np2, nI n2, nI Q2.length, nI bn, 0, os2, dd2, dg, dl, dn, d2, U.2.2.2.2.2.2.2.2.2.2.2.1, U.2.2.2.2.2.2.2.2.2.2.2.2.1, U.2.2.2.2.2.2.2.2.2.2.1, U.2.2.2.2.2.2.2.2.2.1, U.1, U.2.1, U.2.2.1, U.2.2.2.1, U.2.2.2.2.1, U.2.2.2.2.2.1, U.2.2.2.2.2.2.1, U.2.2.2.2.2.2.2.1, U.2.2.2.2.2.2.2.2.1, U.2.2.2.2.2.2.2.2.2.2.2.2.2.1, U.2.2.2.2.2.2.2.2.2.2.2.2.2.2.1, U.2.2.2.2.2.2.2.2.2.2.2.2.2.2.2.1, U.2.2.2.2.2.2.2.2.2.2.2.2.2.2.2.2.1, U.2.2.2.2.2.2.2.2.2.2.2.2.2.2.2.2.2) ∧ rPR B N np2 n2 f2 PN2 P2 L2 ow2 E2 Q2 bn d2 U) := by
  intro k
  induction k with
  | zero =>
    intro np n f PN P L ow E hk hP hwf hn hf hK u w lo t a nm0 fl fa nx c4 c5 R c18 fr to tk nm1 os dd c2 cg cn cl Q bl M hu hw hs hvc hC hr hg hR
    have cA := c_procA h hv hvc hP (fun q hq => (hC.2 q hq).1) hs lo (nI n) R c18
    have rA := r_procA h (cl := cl) (cn := cn) hf hK hv hg hP (fun q hq => (hR.2.1 q hq).1) (show bl < 90 by have := hR.2.2.2.2; omega) hr wa (nI n) (nI Q.length) os dd M
    cases hx : hdP B N PN np g VN f with
    | error e =>
      rw [hx] at cA rA
      obtain ⟨o, eo, ho⟩ := cA
      obtain ⟨x, ex, hxe⟩ := rA
      refine Or.inl ⟨e, ?_, ?_⟩
      · obtain ⟨u, rfl⟩ : ∃ v, u = v + 1 := ⟨u - 1, by omega⟩
        obtain ⟨g1, g2, g3, g4⟩ := ho
        unfold fF
        rw [eo, ob_s, g1]
        exact ⟨_, _, _, _, _, _, _, _, _, _, _, (_, _, _, _, _, _, _, _, _, _, _, _), _, c_l43F g4 c u (nI np) _ it _ _ _ _ _ _ (nI N) _ _ _ (_, _, _, _, _, _, _, _, _, _, _, _) _ c19 c20 c21, rfl, g2, g3, g4⟩
      · obtain ⟨w, rfl⟩ : ∃ v, w = v + 2 := ⟨w - 2, by omega⟩
        exact r_l62B (by rw [← ho.2.1]; exact ho.2.2.2) hxe w (nI N) m 1 fr to tk nm1 wa (nI g) (nI np) (nI n) (nI Q.length) (nI bl) 0 os dd cg cl cn c2 M ex
    | ok x =>
      rw [hx] at cA
      have := cA.1
      omega
  | succ k ih =>
    intro np n f PN P L ow E hk hP hwf hn hf hK u w lo t a nm0 fl fa nx c4 c5 R c18 fr to tk nm1 os dd c2 cg cn cl Q bl M hu hw hs hvc hC hr hg hR
    have cA := c_procA h hv hvc hP (fun q hq => (hC.2 q hq).1) hs lo (nI n) R c18
    have rA := r_procA h (cl := cl) (cn := cn) hf hK hv hg hP (fun q hq => (hR.2.1 q hq).1) (show bl < 90 by have := hR.2.2.2.2; omega) hr wa (nI n) (nI Q.length) os dd M
    -- both fail at e
    have bad : ∀ (e : Nat × Nat) (o : PcO) (x : RpO), fPc lo t a nm0 fl fa (nI N) nx c (nI g) (nI np) (nI n) c5 c4 R c18 = some o → scF e o.2.1 o.2.2.2.2.1 o.2.2.2.2.2.1 → rPc (nI N) fr to tk nm1 0 wa (nI g) (nI np) (nI n) (nI Q.length) (nI bl) 0 os dd m c2 cl cg cn M = some x → rPB e x → (∃ (lo2 gl2 pr2 st2 a2 : Int32) (nm2 : Int64) (fl2 fa2 nx2 : Int32) (d4 d5 : Nat → Int64) (S : CT) (d18 : Nat → Int32), fF c u (nI np) it lo t a nm0 fl fa (nI N) nx (nI g) (nI np) (nI n) c4 c5 R c18 c19 c20 c21 = fX2_readProgram_p93 c lo2 it gl2 pr2 st2 257 a2 nm2 fl2 fa2 (nI N) nx2 d4 d5 S.1 S.2.1 S.2.2.1 S.2.2.2.1 S.2.2.2.2.1 S.2.2.2.2.2.1 S.2.2.2.2.2.2.1 S.2.2.2.2.2.2.2.1 S.2.2.2.2.2.2.2.2.1 S.2.2.2.2.2.2.2.2.2.1 S.2.2.2.2.2.2.2.2.2.2.1 S.2.2.2.2.2.2.2.2.2.2.2 d18 c19 c20 c21 ∧ scF e 257 fl2 fa2) ∧ ∃ x : RqO, rPl w (nI N) m 1 1 fr to tk nm1 0 wa (nI g) (nI np) (nI n) (nI Q.length) (nI bl) 0 os dd cg cl cn c2 M = some x ∧ rQB e x := by
      intro e o x eo ho ex hxe
      refine ⟨?_, ?_⟩
      · obtain ⟨u, rfl⟩ : ∃ v, u = v + 1 := ⟨u - 1, by omega⟩
        obtain ⟨g1, g2, g3, g4⟩ := ho
        unfold fF
        rw [eo, ob_s, g1]
        exact ⟨_, _, _, _, _, _, _, _, _, _, _, (_, _, _, _, _, _, _, _, _, _, _, _), _, c_l43F g4 c u (nI np) _ it _ _ _ _ _ _ (nI N) _ _ _ (_, _, _, _, _, _, _, _, _, _, _, _) _ c19 c20 c21, rfl, g2, g3, g4⟩
      · obtain ⟨w, rfl⟩ : ∃ v, w = v + 2 := ⟨w - 2, by omega⟩
        exact r_l62B (by rw [← ho.2.1]; exact ho.2.2.2) hxe w (nI N) m 1 fr to tk nm1 wa (nI g) (nI np) (nI n) (nI Q.length) (nI bl) 0 os dd cg cl cn c2 M ex
    cases hx : hdP B N PN np g VN f with
    | error e =>
      rw [hx] at cA rA
      obtain ⟨o, eo, ho⟩ := cA
      obtain ⟨x, ex, hxe⟩ := rA
      exact Or.inl ⟨e, bad e o x eo ho ex hxe⟩
    | ok x =>
      rw [hx] at cA rA
      obtain ⟨hn6, t2, a2, nm2, fl2, fa2, nx2, d5, ec, sc, vc⟩ := cA
      obtain ⟨-, ur, fr2, to2, tk2, nm3, dl, dn, hur, er, rs2, vm⟩ := rA
      obtain ⟨x1, x2, x3, x4, x5, x6, x7⟩ := hdP_ok h hf hv hx
      obtain ⟨rs, ok1, cl1, rx1⟩ := (all_st h x4 vc vm hn6 (N - x.2.1 + 1) 11 1 40 x.2.1 n (by omega) x2 x3 (by decide) (by decide) (by decide) hn).2
      have hq : ∀ q, rs = .ok q → n ≤ q.1 ∧ q.1 ≤ 40 := fun q hq => ⟨(ok1 q hq).1, (ok1 q hq).2.1⟩
      have cs1 := c_sts hn (fun q hq1 => (hq q hq1).2) cl1
      obtain ⟨lo5, t5, a5, nm5, fl5, fa5, nx5, st5, S, d18, ec2, hc5⟩ := c_procB h (c4 := vp_updL c5 np (nC (wj B x.1 (tL B N x.1)))) hn6 hn hq cs1 sc R c18
      have rB := r_procB (c2 := vp_updL c2 np (nM (wj B x.1 (tL B N x.1)))) (M := (M.1, M.2.1, M.2.2.1, M.2.2.2.1, M.2.2.2.2.1, M.2.2.2.2.2.1, M.2.2.2.2.2.2.1, M.2.2.2.2.2.2.2.1, M.2.2.2.2.2.2.2.2.1, M.2.2.2.2.2.2.2.2.2.1, M.2.2.2.2.2.2.2.2.2.2.1, upd M.2.2.2.2.2.2.2.2.2.2.2.1 np (-1), M.2.2.2.2.2.2.2.2.2.2.2.2.1, M.2.2.2.2.2.2.2.2.2.2.2.2.2.1, M.2.2.2.2.2.2.2.2.2.2.2.2.2.2.1, M.2.2.2.2.2.2.2.2.2.2.2.2.2.2.2.1, M.2.2.2.2.2.2.2.2.2.2.2.2.2.2.2.2.1, M.2.2.2.2.2.2.2.2.2.2.2.2.2.2.2.2.2)) h hn6 x2 (fun w hw => ⟨(ok1 w hw).1, (ok1 w hw).2.1, (ok1 w hw).2.2.2.2.1, (ok1 w hw).2.2.2.2.2.1, (ok1 w hw).2.2.2.1⟩) rx1 rs2 hR.2.2.1 (show Q.length ≤ x.2.1 by have := hR.2.2.2.1; omega) (show bl ≤ 5 + 2 * n by have := hR.2.2.2.2; omega) hn hur wa os dd
      rw [← er] at rB
      rw [← ec] at ec2
      cases hfi : fiP B N rs with
      | error e =>
        rw [hfi] at hc5 rB
        obtain ⟨xo, ex, hxe⟩ := rB
        exact Or.inl ⟨e, bad e _ xo ec2 hc5 ex hxe⟩
      | ok q =>
        rw [hfi] at hc5 rB
        obtain ⟨s1, s2, s3, s4, s5⟩ := hc5
        obtain ⟨fr6, to6, tk6, nm6, os6, dd6, Q6, bn, U, f6, e6, rs6, hf6, hpost⟩ := rB
        -- the statements of the procedure
        have hw : ∃ w, rs = .ok w ∧ q.1 = w.1 ∧ q.2.2 = w.2.2 ∧ skT B N 125 w.2.1 = .ok q.2.1 := by
          unfold fiP at hfi
          cases rs with
          | error e => cases hfi
          | ok w =>
            dsimp only at hfi
            cases hsk : skT B N 125 w.2.1 with
            | error e => rw [hsk] at hfi; cases hfi
            | ok f9 => rw [hsk] at hfi; cases hfi; exact ⟨w, rfl, rfl, rfl, hsk⟩
        obtain ⟨wv, hw1, hw2, hw3, hw4⟩ := hw
        obtain ⟨b1, b2, b3, b4, b5, b6, b7⟩ := ok1 wv hw1
        obtain ⟨k1, k2, k3⟩ := skT_ok hw4
        rw [← hw3, ← hw2] at b7
        rw [← hw2] at b1 b2
        have hfN : q.2.1 ≤ N := by rw [k2]; exact tX_le b4
        have hwf2 := wf_ext hwf b1 b7
        subst s5 s2
        have hC2 := c_ext (W := wj B x.1 (tL B N x.1)) hC b1 s3 s4
        have hR2 := r_ext (W := wj B x.1 (tL B N x.1)) hR b1 b2 hf6 hpost
        have hP2 := pNm_x hP x5 x6
        have hvc2 : vC VN g 0 d5 := fun v hvv => by
          have hvg : v < g := by unfold vOk at hvv; omega
          rw [vc v (Or.inl hvg), x7 v hvg]
        have hle := tK_le B N q.2.1
        -- one round of both
        obtain ⟨u, rfl⟩ : ∃ v, u = v + 1 := ⟨u - 1, by omega⟩
        obtain ⟨w, rfl⟩ : ∃ v, w = v + 2 := ⟨w - 2, by omega⟩
        have ecF : fF c (u + 1) (nI np) it lo t a nm0 fl fa (nI N) nx (nI g) (nI np) (nI n) c4 c5 R c18 c19 c20 c21 = fX2_readProgram_b43 c (fX2_readProgram_l43 c u) (nI np) lo5 it (nI g) (nI (np + 1)) (nI q.1) t5 a5 nm5 fl5 fa5 (nI N) nx5 d5 (vp_updL c5 np (nC (wj B x.1 (tL B N x.1)))) S.1 S.2.1 S.2.2.1 S.2.2.2.1 S.2.2.2.2.1 S.2.2.2.2.2.1 S.2.2.2.2.2.2.1 S.2.2.2.2.2.2.2.1 S.2.2.2.2.2.2.2.2.1 S.2.2.2.2.2.2.2.2.2.1 S.2.2.2.2.2.2.2.2.2.2.1 S.2.2.2.2.2.2.2.2.2.2.2 (upd c18 np (pI (if n < q.1 then n else 40))) c19 c20 c21 := by
          unfold fF
          rw [ec2, ob_s]
          rfl
        have em : fX11_may 1 fr6 tk6 0 wa = some (1, (0, wa)) := by rw [rs6.1, rs6.2.2.1, r_may, if_neg k3, if_neg n10]
        have erF : rPl (w + 2) (nI N) m 1 1 fr to tk nm1 0 wa (nI g) (nI np) (nI n) (nI Q.length) (nI bl) 0 os dd cg cl cn c2 M = (if tk6 = 0 then rPl (w + 1) (nI N) m 1 0 fr6 to6 tk6 nm6 0 wa (nI g) (nI (np + 1)) (nI q.1) (nI Q6.length) (nI bn) 0 os6 dd6 cg dl dn (vp_updL c2 np (nM (wj B x.1 (tL B N x.1)))) U else rPl (w + 1) (nI N) m 1 1 fr6 to6 tk6 nm6 0 wa (nI g) (nI (np + 1)) (nI q.1) (nI Q6.length) (nI bn) 0 os6 dd6 cg dl dn (vp_updL c2 np (nM (wj B x.1 (tL B N x.1)))) U) := by
          unfold rPc at e6
          unfold rPl
          show fX11_parse_b62 (nI N) m (fX11_parse_l62 (nI N) m (w + 1)) 1 1 fr to tk nm1 0 wa (nI g) (nI np) (nI n) (nI Q.length) (nI bl) 0 os dd cg cl cn c2 M.2.2.2.2.2.2.2.2.2.2.2.1 M.2.2.2.2.2.2.2.2.2.2.2.2.1 M.2.2.2.2.2.2.2.2.2.2.1 M.2.2.2.2.2.2.2.2.2.1 M.1 M.2.1 M.2.2.1 M.2.2.2.1 M.2.2.2.2.1 M.2.2.2.2.2.1 M.2.2.2.2.2.2.1 M.2.2.2.2.2.2.2.1 M.2.2.2.2.2.2.2.2.1 M.2.2.2.2.2.2.2.2.2.2.2.2.2.1 M.2.2.2.2.2.2.2.2.2.2.2.2.2.2.1 M.2.2.2.2.2.2.2.2.2.2.2.2.2.2.2.1 M.2.2.2.2.2.2.2.2.2.2.2.2.2.2.2.2.1 M.2.2.2.2.2.2.2.2.2.2.2.2.2.2.2.2.2 = _
          unfold fX11_parse_b62 fX11_parse_p94 fX11_parse_p95
          rw [if_neg n10, e6, ob_s]
          dsimp only
          rw [if_neg n10, em, ob_s, if_neg n10]
        have hi6 : ¬ 6 ≤ nI np := Int32.not_le.mpr (show nI np < (6 : Int32) from nI_lt (a := np) (b := 6) (by omega) (by decide))
        rw [ecF, erF]
        have hkm := kM_lt (tK B N q.2.1)
        by_cases h256 : tK B N q.2.1 = 256
        · refine Or.inr ⟨np + 1, q.1, q.2.1, _, _, _, _, _, by omega, hP2, hwf2, b2, hfN, ?_, ?_⟩
          · unfold fX2_readProgram_b43 fX2_readProgram_p72
            have t256 : t5 = 256 := s1.2.2.1.trans (congrArg nI h256)
            rw [if_neg hi6, if_neg (show ¬ t5 = 260 by rw [t256]; decide), if_pos t256, t256, s1.2.2.2.2.1]
            exact ⟨_, _, _, _, _, _, _, S, _, rfl, hC2⟩
          · have k0 : tk6 = 0 := rs6.2.2.1.trans (congrArg nI ((kM_0 _).mpr h256))
            rw [if_pos k0]
            refine ⟨fr6, to6, tk6, nm6, os6, dd6, Q6, bn, cg, dl, dn, _, U, ?_, hR2⟩
            unfold rPl
            show fX11_parse_b62 (nI N) m (fX11_parse_l62 (nI N) m w) 1 0 fr6 to6 tk6 nm6 0 wa (nI g) (nI (np + 1)) (nI q.1) (nI Q6.length) (nI bn) 0 os6 dd6 cg dl dn _ U.2.2.2.2.2.2.2.2.2.2.2.1 U.2.2.2.2.2.2.2.2.2.2.2.2.1 U.2.2.2.2.2.2.2.2.2.2.1 U.2.2.2.2.2.2.2.2.2.1 U.1 U.2.1 U.2.2.1 U.2.2.2.1 U.2.2.2.2.1 U.2.2.2.2.2.1 U.2.2.2.2.2.2.1 U.2.2.2.2.2.2.2.1 U.2.2.2.2.2.2.2.2.1 U.2.2.2.2.2.2.2.2.2.2.2.2.2.1 U.2.2.2.2.2.2.2.2.2.2.2.2.2.2.1 U.2.2.2.2.2.2.2.2.2.2.2.2.2.2.2.1 U.2.2.2.2.2.2.2.2.2.2.2.2.2.2.2.2.1 U.2.2.2.2.2.2.2.2.2.2.2.2.2.2.2.2.2 = _
            unfold fX11_parse_b62 fX11_parse_p115
            rw [if_pos rfl, if_neg n10, if_pos rfl, bd_eq _ (by decide)]
        · have k0 : ¬ tk6 = 0 := fun z => h256 ((kM_0 _).mp ((nI_eq (a := kM (tK B N q.2.1)) (b := 0) (by omega) (by decide)).mp (rs6.2.2.1.symm.trans z)))
          rw [if_neg k0]
          by_cases h260 : tK B N q.2.1 = 260
          · have t260 : t5 = 260 := s1.2.2.1.trans (congrArg nI h260)
            have e7 : nI np + 1 = nI (np + 1) := nI_add _ 1
            have := ih (np + 1) q.1 q.2.1 _ _ _ _ _ (by omega) hP2 hwf2 b2 hfN k3 u (w + 1) lo5 t5 a5 nm5 fl5 fa5 nx5 d5 (vp_updL c5 np (nC (wj B x.1 (tL B N x.1)))) S (upd c18 np (pI (if n < q.1 then n else 40))) fr6 to6 tk6 nm6 os6 dd6 (vp_updL c2 np (nM (wj B x.1 (tL B N x.1)))) cg dn dl Q6 bn U (by omega) (by omega) s1 hvc2 hC2 rs6 hg hR2
            have eb : fX2_readProgram_b43 c (fX2_readProgram_l43 c u) (nI np) lo5 it (nI g) (nI (np + 1)) (nI q.1) t5 a5 nm5 fl5 fa5 (nI N) nx5 d5 (vp_updL c5 np (nC (wj B x.1 (tL B N x.1)))) S.1 S.2.1 S.2.2.1 S.2.2.2.1 S.2.2.2.2.1 S.2.2.2.2.2.1 S.2.2.2.2.2.2.1 S.2.2.2.2.2.2.2.1 S.2.2.2.2.2.2.2.2.1 S.2.2.2.2.2.2.2.2.2.1 S.2.2.2.2.2.2.2.2.2.2.1 S.2.2.2.2.2.2.2.2.2.2.2 (upd c18 np (pI (if n < q.1 then n else 40))) c19 c20 c21 = fF c u (nI (np + 1)) it lo5 t5 a5 nm5 fl5 fa5 (nI N) nx5 (nI g) (nI (np + 1)) (nI q.1) d5 (vp_updL c5 np (nC (wj B x.1 (tL B N x.1)))) S (upd c18 np (pI (if n < q.1 then n else 40))) c19 c20 c21 := by
              unfold fX2_readProgram_b43 fF fPc
              rw [if_neg hi6, if_pos t260]
              simp only [nm_q, e7]
            rw [eb]
            exact this
          · refine Or.inl ⟨(2, q.2.1), ?_, ?_⟩
            · have n260 : ¬ t5 = 260 := fun z => h260 ((nI_eq (a := tK B N q.2.1) (b := 260) (by omega) (by decide)).mp (s1.2.2.1.symm.trans z))
              have n256 : ¬ t5 = 256 := fun z => h256 ((nI_eq (a := tK B N q.2.1) (b := 256) (by omega) (by decide)).mp (s1.2.2.1.symm.trans z))
              obtain ⟨t7, fl7, fa7, e7, h7⟩ := c_failR s1 2 (by decide)
              have e7' : fX4_failHere 2 t5 a5 fl5 fa5 = some (t7, fl7, fa7) := e7
              have ht7 : t7 = 257 := h7.1
              subst ht7
              unfold fX2_readProgram_b43 fX2_readProgram_p72
              rw [if_neg hi6, if_neg n260, if_neg n256, e7', ob_s]
              exact ⟨_, _, _, _, _, _, _, _, _, _, _, S, _, rfl, h7⟩
            · obtain ⟨xo, exo, hxo⟩ := r_proc7 rs6 h260 wa (nI g) (nI (np + 1)) (nI q.1) (nI Q6.length) (nI bn) 0 os6 dd6 m (vp_updL c2 np (nM (wj B x.1 (tL B N x.1)))) dl cg dn U
              have hb : bdK (tK B N q.2.1) = 2 := by unfold bdK; rw [if_neg k3]
              rw [hb] at hxo
              obtain ⟨w, rfl⟩ : ∃ v, w = v + 1 := ⟨w - 1, by omega⟩
              exact r_l62B (show ¬ nI 2 = 0 by decide) hxo w (nI N) m 1 fr6 to6 tk6 nm6 wa (nI g) (nI (np + 1)) (nI q.1) (nI Q6.length) (nI bn) 0 os6 dd6 cg dl dn (vp_updL c2 np (nM (wj B x.1 (tL B N x.1)))) U exo
