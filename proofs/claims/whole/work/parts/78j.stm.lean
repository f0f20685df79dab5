/-! ===== pure rows 86: statements: the class's loop over a block ===== -/
def bgS (k : Nat) : Prop := k = 258 ∨ (262 ≤ k ∧ k ≤ 268)
theorem c_begins {k : Nat} (hk : k ≤ 268) : (bgS k → fX2_beginsStatement (nI k) = some (1, ())) ∧ (¬ bgS k → fX2_beginsStatement (nI k) = some (0, ())) := by
  unfold fX2_beginsStatement fX2_beginsStatement_p43 fX2_beginsStatement_p39 fX2_beginsStatement_p44 bgS
  by_cases h1 : k = 258
  · subst h1
    refine ⟨fun _ => ?_, fun z => absurd (Or.inl rfl) z⟩
    rw [if_pos (by decide), bd_eq _ (by decide)]
  · have n1 : ¬ nI k = 258 := fun z => h1 ((nI_eq (a := k) (b := 258) (by omega) (by decide)).mp z)
    rw [if_neg n1]
    by_cases h2 : 262 ≤ k
    · have n2 : ¬ nI k < 262 := Int32.not_lt.mpr (show (262 : Int32) ≤ nI k from nI_le (a := 262) (b := k) h2 (by omega))
      have n3 : ¬ 268 < nI k := Int32.not_lt.mpr (show nI k ≤ (268 : Int32) from nI_le (a := k) (b := 268) hk (by decide))
      rw [if_neg n2, if_neg n3]
      exact ⟨fun _ => by rw [bd_eq _ (by decide)], fun z => absurd (Or.inr ⟨h2, hk⟩) z⟩
    · have n2 : nI k < 262 := nI_lt (a := k) (b := 262) (by omega) (by decide)
      rw [if_pos n2]
      exact ⟨fun z => by omega, fun _ => by rw [bd_eq _ (by decide)]⟩
theorem pI_n {n : Nat} (h : n < 40) : pI n = nI n := by unfold pI; rw [if_pos h]
theorem pI_m {n : Nat} (h : n < 40) : ¬ pI n = -1 := by rw [pI_n h]; exact nI_m1 (by omega)
theorem c_lp_nil {B : Nat → Nat} {N : Nat} {c : Nat → Int32} {c14 : Nat → Int64} {g l p k d par f n : Nat} (hb : ¬ bgS (tK B N f)) (P : Nat → Nat → Nat) (L : Nat → List Nat) : CL B N c c14 g l p k d par f n (.ok (n, f, P, L)) := by
  intro u i z y3 t a nm0 fl fa nx R hsc hi hn hu hz
  obtain ⟨u, rfl⟩ : ∃ v, u = v + 1 := ⟨u - 1, by omega⟩
  have e := (c_begins (tK_le B N f)).2 hb
  rw [← hsc.2.2.1] at e
  obtain ⟨k3, k4, k5, k6, k7, k8, k9, k10, k11, k12, k15, k16⟩ := R
  refine ⟨y3, t, a, nm0, fl, fa, nx, nI n, (k3, k4, k5, k6, k7, k8, k9, k10, k11, k12, k15, k16), ?_, hsc, rfl, ?_, fun s hs => ⟨eqA_refl _ _, ?_⟩, fun s h1 h2 => absurd h2 (Nat.not_lt.mpr h1)⟩
  · show fX2_readStatements_o_b8 _ (nI l) (nI N) (nI g) (nI (p + 1)) c c14 _ (pI par) (nI d) y3 (pI z) (nI i) t a nm0 fl fa nx (nI n) k3 k4 k5 k6 k7 k8 k9 k10 k11 k12 k15 k16 = _
    unfold fX2_readStatements_o_b8 fX2_readStatements_o_p72
    rw [if_neg (Int32.not_lt.mpr (show nI i ≤ (40 : Int32) from nI_le (a := i) (b := 40) (by omega) (by decide))), e, ob_s, if_pos rfl]
  · rw [if_neg (fun q => Nat.lt_irrefl n q.2)]
  · rw [if_neg (fun q => Nat.lt_irrefl n q.2)]
def joinR (n : Nat) (r1 r2 : Rt) : Rt := match r1 with
  | .error e => .error e
  | .ok q1 => match r2 with
    | .error e => .error e
    | .ok q2 => .ok (q2.1, q2.2.1, fun a s => if a = 3 ∧ s = n then (if q1.1 < q2.1 then q1.1 else 40) else if s < q1.1 then q1.2.2.1 a s else q2.2.2.1 a s, fun s => if s < q1.1 then q1.2.2.2 s else q2.2.2.2 s)
theorem c_lp_cons {B : Nat → Nat} {N : Nat} {c : Nat → Int32} {c14 : Nat → Int64} {g l p k d par f n : Nat} {r1 r2 : Rt} (hb : bgS (tK B N f)) (hm : CM B N c c14 g l p k d par f n r1) (h1 : ∀ q1, r1 = .ok q1 → n < q1.1 ∧ q1.1 ≤ 40 ∧ q1.2.2.1 3 n = 40 ∧ CL B N c c14 g l p k d par q1.2.1 q1.1 r2 ∧ ∀ q2, r2 = .ok q2 → q1.1 ≤ q2.1 ∧ q2.1 ≤ 40) : CL B N c c14 g l p k d par f n (joinR n r1 r2) := by
  intro u i z y3 t a nm0 fl fa nx R hsc hi hn hu hz
  obtain ⟨u, rfl⟩ : ∃ v, u = v + 1 := ⟨u - 1, by omega⟩
  have e := (c_begins (tK_le B N f)).1 hb
  rw [← hsc.2.2.1] at e
  obtain ⟨y, t2, a2, nm2, fl2, fa2, nx2, st2, S, em, hr⟩ := hm t a nm0 fl fa nx R hsc
  unfold fStm at em
  unfold fLp
  show ∃ (y t2 a2 : Int32) (nm2 : Int64) (fl2 fa2 nx2 st2 : Int32) (S : CT), fX2_readStatements_o_b8 _ (nI l) (nI N) (nI g) (nI (p + 1)) c c14 _ (pI par) (nI d) y3 (pI z) (nI i) t a nm0 fl fa nx (nI n) R.1 R.2.1 R.2.2.1 R.2.2.2.1 R.2.2.2.2.1 R.2.2.2.2.2.1 R.2.2.2.2.2.2.1 R.2.2.2.2.2.2.2.1 R.2.2.2.2.2.2.2.2.1 R.2.2.2.2.2.2.2.2.2.1 R.2.2.2.2.2.2.2.2.2.2.1 R.2.2.2.2.2.2.2.2.2.2.2 = _ ∧ _
  unfold fX2_readStatements_o_b8 fX2_readStatements_o_p62
  rw [if_neg (Int32.not_lt.mpr (show nI i ≤ (40 : Int32) from nI_le (a := i) (b := 40) (by omega) (by decide))), e, ob_s, if_neg n10, em, ob_s]
  dsimp only
  have hi1 : nI i + 1 = nI (i + 1) := nI_add _ 1
  simp only [nm_q]
  rw [hi1]
  cases r1 with
  | error e1 =>
    obtain ⟨g1, g2, g3, g4⟩ := hr
    subst g1
    obtain ⟨u, rfl⟩ : ∃ v, u = v + 1 := ⟨u - 1, by omega⟩
    by_cases hy : y = -1
    · rw [if_pos hy]
      exact ⟨_, _, _, _, _, _, _, _, S, rfl, rfl, g2, g3, g4⟩
    · rw [if_neg hy]
      rcases hz with hz | hz
      · subst hz
        rw [if_pos pI_40]
        exact ⟨_, _, _, _, _, _, _, _, S, c_lpF k u (pI par) (nI d) y y (nI (i + 1)) (nI l) a2 nm2 fl2 fa2 (nI N) nx2 (nI g) (nI (p + 1)) st2 c c14 S, rfl, g2, g3, g4⟩
      · rw [if_neg (pI_m (n := z) (by omega)), pI_n (n := z) (by omega), bd_eq _ (inb_nI (j := z) (n := 40) (by omega) (by decide))]
        exact ⟨_, _, _, _, _, _, _, _, _, c_lpF k u (pI par) (nI d) y3 y (nI (i + 1)) (nI l) a2 nm2 fl2 fa2 (nI N) nx2 (nI g) (nI (p + 1)) st2 c c14 (S.1, S.2.1, S.2.2.1, S.2.2.2.1, S.2.2.2.2.1, S.2.2.2.2.2.1, S.2.2.2.2.2.2.1, upd S.2.2.2.2.2.2.2.1 (nI z).toNatClampNeg y, S.2.2.2.2.2.2.2.2.1, S.2.2.2.2.2.2.2.2.2.1, S.2.2.2.2.2.2.2.2.2.2.1, S.2.2.2.2.2.2.2.2.2.2.2), rfl, g2, g3, g4⟩
  | ok q1 =>
    obtain ⟨k1, k2, k3, k4, k5⟩ := h1 q1 rfl
    obtain ⟨g1, g2, g3, g4, g5⟩ := hr
    rw [if_pos k1, pI_n (by omega)] at g3
    subst g2 g3
    rw [if_neg (nI_m1 (by omega))]
    -- the rest, with the latest statement's sibling as it stands in S2
    have key : ∀ (y4 : Int32) (T : CT), (∀ s, eqA s T S) → (∀ s, ¬ s = z → T.2.2.2.2.2.2.2.1 s = S.2.2.2.2.2.2.2.1 s) → (∃ (y t3 a3 : Int32) (nm3 : Int64) (fl3 fa3 nx3 st3 : Int32) (U : CT), fLp k u (pI par) (nI d) y4 (nI n) (nI (i + 1)) (nI l) t2 a2 nm2 fl2 fa2 (nI N) nx2 (nI g) (nI (p + 1)) (nI q1.1) c c14 T = some (y, t3, a3, nm3, fl3, fa3, nx3, st3, U) ∧ (y = y4 → ∀ y3, (∀ q, joinR n (.ok q1) r2 = .ok q → y4 = (if z = 40 ∧ n < q.1 then nI n else y3)) → (∀ s, s < n → ¬ s = z → True) → (z < n → T.2.2.2.2.2.2.2.1 z = nI n) → cReL B N p n z (joinR n (.ok q1) r2) R y3 y t3 a3 nm3 fl3 fa3 nx3 st3 U) ∧ (y = y4 ∨ ∃ e, joinR n (.ok q1) r2 = .error e ∧ scF e t3 fl3 fa3)) := by
      intro y4 T hA h7
      obtain ⟨y, t3, a3, nm3, fl3, fa3, nx3, st3, U, e3, hr3⟩ := k4 u (i + 1) n y4 t2 a2 nm2 fl2 fa2 nx2 T g1 (by omega) k2 (by omega) (Or.inr k1)
      rw [pI_n (n := n) (by omega)] at e3
      refine ⟨y, t3, a3, nm3, fl3, fa3, nx3, st3, U, e3, ?_, ?_⟩
      · intro hy y3 hy3 _ hzn
        cases r2 with
        | error e1 => exact hr3
        | ok q2 =>
          obtain ⟨b1, b2, b3, b4, b5⟩ := hr3
          obtain ⟨c1, c2⟩ := k5 q2 rfl
          refine ⟨b1, b2, hy.trans (hy3 _ rfl), ?_, ?_⟩
          · intro s hs
            obtain ⟨d1, d2⟩ := b4 s (by omega)
            refine ⟨eqA_trans d1 (eqA_trans (hA s) (g4 s hs).1), ?_⟩
            rw [d2, if_neg (fun q => absurd q.1 (by omega))]
            dsimp only
            by_cases hsz : s = z
            · subst hsz
              rw [hzn hs, if_pos ⟨rfl, by omega⟩]
            · rw [h7 s hsz, if_neg (fun q => hsz q.1)]
              exact (g4 s hs).2
          · intro s hs1 hs2
            dsimp only at hs2 ⊢
            by_cases hsq : s < q1.1
            · obtain ⟨d1, d2⟩ := b4 s hsq
              have hsz : ¬ s = z := by rcases hz with hz | hz <;> omega
              rw [h7 s hsz] at d2
              refine cRw_eq (g5 s hs1 hsq) (eqA_trans d1 (hA s)) ?_ (fun x => ?_) (if_pos hsq)
              · rw [d2]
                by_cases hsn : s = n
                · subst hsn
                  by_cases hlt : q1.1 < q2.1
                  · rw [if_pos ⟨rfl, hlt⟩, if_pos ⟨rfl, rfl⟩, if_pos hlt, pI_n (by omega)]
                  · rw [if_neg (fun q => hlt q.2), if_pos ⟨rfl, rfl⟩, if_neg hlt]
                    rw [(g5 s hs1 hsq).2.2.2.2.2.2.1, k3]
                · rw [if_neg (fun q => hsn q.1), if_neg (fun q => hsn q.2), if_pos hsq]
                  exact (g5 s hs1 hsq).2.2.2.2.2.2.1
              · by_cases hx : x = 3
                · exact Or.inl hx
                · exact Or.inr (by rw [if_neg (fun q => hx q.1), if_pos hsq])
            · have hb := b5 s (by omega) hs2
              refine cRw_eq hb (eqA_refl s U) ?_ (fun x => Or.inr ?_) (if_neg hsq)
              · rw [if_neg (fun q => absurd q.2 (by omega)), if_neg hsq]
                exact hb.2.2.2.2.2.2.1
              · rw [if_neg (fun q => absurd q.2 (by omega)), if_neg hsq]
      · cases r2 with
        | error e1 => exact Or.inr ⟨e1, rfl, hr3⟩
        | ok q2 =>
          refine Or.inl ?_
          rw [hr3.2.2.1, if_neg (fun q => absurd q.1 (by omega))]
    rcases hz with hz | hz
    · subst hz
      rw [if_pos pI_40]
      obtain ⟨y, t3, a3, nm3, fl3, fa3, nx3, st3, U, e3, hA, hB⟩ := key (nI n) S (fun s => eqA_refl s S) (fun s _ => rfl)
      refine ⟨y, t3, a3, nm3, fl3, fa3, nx3, st3, U, e3, ?_⟩
      rcases hB with hB | ⟨e1, he1, hB⟩
      · refine hA hB y3 (fun q hq => ?_) (fun _ _ _ => trivial) (fun z => absurd z (by omega))
        have : n < q.1 := by
          cases r2 with
          | error e1 => cases hq
          | ok q2 => cases hq; have := (k5 q2 rfl).1; dsimp only; omega
        rw [if_pos ⟨rfl, this⟩]
      · rw [he1]; exact hB
    · rw [if_neg (pI_m (n := z) (by omega)), pI_n (n := z) (by omega), bd_eq _ (inb_nI (j := z) (n := 40) (by omega) (by decide)), nI_clamp (n := z) (by omega)]
      obtain ⟨y, t3, a3, nm3, fl3, fa3, nx3, st3, U, e3, hA, hB⟩ := key y3 (S.1, S.2.1, S.2.2.1, S.2.2.2.1, S.2.2.2.2.1, S.2.2.2.2.2.1, S.2.2.2.2.2.2.1, upd S.2.2.2.2.2.2.2.1 z (nI n), S.2.2.2.2.2.2.2.2.1, S.2.2.2.2.2.2.2.2.2.1, S.2.2.2.2.2.2.2.2.2.2.1, S.2.2.2.2.2.2.2.2.2.2.2) (fun s => ⟨rfl, rfl, rfl, rfl, rfl, rfl, rfl, rfl, rfl, rfl⟩) (fun s hs => upd_ne hs)
      refine ⟨y, t3, a3, nm3, fl3, fa3, nx3, st3, U, e3, ?_⟩
      rcases hB with hB | ⟨e1, he1, hB⟩
      · refine hA hB y3 (fun q hq => ?_) (fun _ _ _ => trivial) (fun _ => upd_at _ _ _)
        rw [if_neg (fun w => absurd w.1 (by omega))]
      · rw [he1]; exact hB
theorem c_sts {B : Nat → Nat} {N : Nat} {c : Nat → Int32} {c14 : Nat → Int64} {g l p k d par f n : Nat} {r : Rt} (hn : n ≤ 40) (hq : ∀ q, r = .ok q → q.1 ≤ 40) (h : CL B N c c14 g l p k d par f n r) : CS B N c c14 g l p (k + 1) d par f n r := by
  intro t a nm0 fl fa nx R hsc
  obtain ⟨fu, hfu, hg⟩ := fu_any
  obtain ⟨y, t2, a2, nm2, fl2, fa2, nx2, st2, S, e, hr⟩ := h fu 0 40 (-1) t a nm0 fl fa nx R hsc (Nat.zero_le _) hn (by omega) (Or.inl rfl)
  refine ⟨y, t2, a2, nm2, fl2, fa2, nx2, st2, S, ?_, ?_⟩
  · unfold fSts
    rw [fX2_readStatements_n_s]
    unfold fX2_readStatements_o
    rw [hfu]
    exact e
  · cases r with
    | error e1 => exact hr
    | ok q =>
      obtain ⟨b1, b2, b3, b4, b5⟩ := hr
      have h40 := hq q rfl
      refine ⟨b1, b2, ?_, fun s hs => ⟨(b4 s hs).1, ?_⟩, b5⟩
      · rw [b3]
        by_cases hlt : n < q.1
        · rw [if_pos ⟨rfl, hlt⟩, if_pos hlt, pI_n (by omega)]
        · rw [if_neg (fun w => hlt w.2), if_neg hlt]; exact pI_40.symm
      · rw [(b4 s hs).2, if_neg (fun w => absurd w.1 (by omega))]
