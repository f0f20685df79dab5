/-! ===== pure rows 106: what was read, as the record that is checked ===== -/
def evH (L : List Nat) (st : Nat) : Nat := (evL st L []).headD 0
def gPg (np n : Nat) (P : Nat → Nat → Nat) (L : Nat → List Nat) (ow E ce : Nat → Nat) : Nat → Nat → Nat → Nat
  | 0 => fun s _ => P 0 s
  | 1 => fun s _ => P 6 s
  | 2 => fun s _ => ce s
  | 3 => fun s j => if (evH (L s) (j / 2)).testBit (j % 2) then 1 else 0
  | 4 => fun s v => g4 P s v
  | 5 => fun p _ => E p
  | 6 => fun s _ => ow s
  | 7 => fun _ _ => n
  | 8 => fun _ _ => np
  | _ => fun s _ => bh P s
theorem cn_g {np n : Nat} {P : Nat → Nat → Nat} {L : Nat → List Nat} {ow E ce : Nat → Nat} (s v st : Nat) (hv : v < 2) : cn (gPg np n P L ow E ce) s v st = (evH (L s) st).testBit v := by
  unfold cn
  show ((if (evH (L s) ((2 * st + v) / 2)).testBit ((2 * st + v) % 2) then 1 else 0) == 1) = _
  rw [show (2 * st + v) / 2 = st by omega, show (2 * st + v) % 2 = v by omega]
  cases (evH (L s) st).testBit v <;> rfl
theorem ev_1 (st : Nat) : evH [1] st = 2 := rfl
theorem seg_of {c : Nat → Int32} : ∀ (L A T : List Nat), codeIs c (A ++ L ++ T) → segIs c A.length L := by
  intro L
  induction L with
  | nil => intro A T _; exact True.intro
  | cons v L ih =>
    intro A T h
    refine ⟨?_, ?_⟩
    · have := h A.length (by rw [List.length_append, List.length_append, List.length_cons]; omega)
      rw [this]
      congr 1
      rw [List.getD_eq_getElem?_getD, List.append_assoc, List.getElem?_append_right (Nat.le_refl _), Nat.sub_self]
      rfl
    · have h2 : codeIs c ((A ++ [v]) ++ L ++ T) := by
        have e : (A ++ [v]) ++ L ++ T = A ++ (v :: L) ++ T := by rw [List.append_assoc A [v] L]; rfl
        rw [e]
        exact h
      have := ih (A ++ [v]) T h2
      rw [List.length_append] at this
      exact this
theorem can_of {B : Nat → Nat} {np n : Nat} {P : Nat → Nat → Nat} {L : Nat → List Nat} {ow E ce : Nat → Nat} {s : Nat} {ca cz code : Nat → Int32} {Q A T : List Nat} (hs : s < 40) (hcv : cv (L s)) (hQ : Q = A ++ L s ++ T) (hQ6 : Q.length ≤ 600) (hco : codeIs code Q) (h7 : ca s = nI A.length) (h8 : cz s = nI (A ++ L s).length) : ∀ g l (va : Nat → Int32), g < 8 → l < 4 → ∃ va2, fX11_can (nI s) (nI g) (nI l) ca cz code va = some (nI (canN (gPg np n P L ow E ce) s (g + 8 * l)), va2) := by
  intro g l va hg hl
  have hlen : (A ++ L s).length ≤ Q.length := by rw [hQ, List.length_append (as := A ++ L s)]; omega
  have hlen2 : A.length + (L s).length = (A ++ L s).length := by rw [List.length_append]
  have hvd : vd (L s) 0 := by
    have := hcv.1 [] 0 (show vd [] 1 from rfl)
    rw [List.append_nil] at this
    exact this
  obtain ⟨fu, hfu, hfg⟩ := fu_any
  obtain ⟨x, va2, e1, e2, e3⟩ := r_can_l (ca := ca) (ce := cz) (code := code) (e := (A ++ L s).length) hs hg hl h8 (by omega) (L s) A.length fu va [] hlen2 (by omega) (Nat.zero_le _) (seg_of (L s) A T (by rw [← hQ]; exact hco)) True.intro (fun x hx => by cases hx) hvd
  have hx : evH (L s) (g + 8 * l) = x := by unfold evH; rw [e1]; rfl
  have hcan : canN (gPg np n P L ow E ce) s (g + 8 * l) = x := by
    unfold canN
    rw [cn_g s 0 (g + 8 * l) (by decide), cn_g s 1 (g + 8 * l) (by decide), hx]
    have hc : x = 0 ∨ x = 1 ∨ x = 2 ∨ x = 3 := by omega
    rcases hc with z | z | z | z <;> subst z <;> decide
  refine ⟨va2, ?_⟩
  rw [hcan]
  unfold fX11_can
  rw [bd_eq _ (inb_nI (j := s) (n := 40) hs (by decide)), nm_q, nI_clamp (n := s) (by omega), h7, hfu]
  exact e3
theorem g4_ok {P : Nat → Nat → Nat} {n : Nat} {ow : Nat → Nat} {s v : Nat} (hn : n ≤ 40) (hs : s < n) (hb : bh P s = 40 ∨ (bh P s < n ∧ ow (bh P s) = ow s)) (h4 : P 4 s = 40 ∨ (P 4 s < n ∧ ow (P 4 s) = ow s)) (h5 : P 5 s = 40 ∨ (P 5 s < n ∧ ow (P 5 s) = ow s)) : g4 P s v ≤ 42 ∧ (g4 P s v < 40 → g4 P s v < n ∧ ow (g4 P s v) = ow s) ∧ (P 0 s = 3 → g4 P s v ≤ 40) := by
  have B1 : bh P s ≤ 42 ∧ (bh P s < 40 → bh P s < n ∧ ow (bh P s) = ow s) ∧ (P 0 s = 3 → bh P s ≤ 40) := ⟨by omega, fun z => hb.resolve_left (by omega), fun _ => by omega⟩
  have D4 : ¬ P 4 s = 40 → P 4 s ≤ 42 ∧ (P 4 s < 40 → P 4 s < n ∧ ow (P 4 s) = ow s) ∧ (P 0 s = 3 → P 4 s ≤ 40) := fun z => ⟨by omega, fun _ => h4.resolve_left z, fun _ => by omega⟩
  have D5 : ¬ P 5 s = 40 → P 5 s ≤ 42 ∧ (P 5 s < 40 → P 5 s < n ∧ ow (P 5 s) = ow s) ∧ (P 0 s = 3 → P 5 s ≤ 40) := fun z => ⟨by omega, fun _ => h5.resolve_left z, fun _ => by omega⟩
  unfold g4
  split
  · split
    · exact ⟨by decide, fun z => absurd z (by decide), fun _ => by decide⟩
    · split
      · split
        · exact B1
        · rename_i q; exact D4 q
      · split
        · split
          · exact ⟨by omega, fun _ => ⟨hs, rfl⟩, fun _ => by omega⟩
          · rename_i q; exact D4 q
        · exact B1
  · split
    · split
      · exact B1
      · rename_i q; exact D5 q
    · split
      · exact ⟨by decide, fun z => absurd z (by decide), fun z => by omega⟩
      · split
        · exact ⟨by decide, fun z => absurd z (by decide), fun z => by omega⟩
        · exact B1
theorem ok_g {B : Nat → Nat} {N np n : Nat} {P : Nat → Nat → Nat} {L : Nat → List Nat} {ow E ce : Nat → Nat} (hn : n ≤ 40) (h1 : 1 ≤ np) (h6 : np ≤ 6) (hw : wfP B N np n P L ow E) (hce : ∀ s, s < n → P 0 s = 3 → ce s < np) : okPg (gPg np n P L ow E ce) ∧ ∀ s, s < n → bh P s = 40 ∨ (bh P s < n ∧ ow (bh P s) = ow s) := by
  have hb : ∀ s, s < n → bh P s = 40 ∨ (bh P s < n ∧ ow (bh P s) = ow s) := fun s hs => bh_ok hn (fun x hx => ((hw.1 x hx).2.2.2.2.1).imp id (fun z => ⟨z.1, z.2.1⟩)) (fun x hx => ((hw.1 x hx).2.2.2.2.2.1 3 (Or.inl rfl)).imp id (fun z => ⟨z.2.1, z.2.2⟩)) (s + 1) s (Nat.lt_succ_self s) hs
  refine ⟨⟨hn, h1, h6, fun p hp => hw.2 p hp, fun s hs => ?_⟩, hb⟩
  obtain ⟨x1, x2, x3, x4, x5, x6, x7, x8, x9, x10⟩ := hw.1 s hs
  refine ⟨x1, x2, fun z => hce s hs z, x4, fun z st => ?_, fun v hv => ?_⟩
  · rw [cn_g s 0 st (by decide), cn_g s 1 st (by decide), x8 (Or.inl z), ev_1]
    decide
  · exact g4_ok hn hs (hb s hs) ((x6 4 (Or.inr (Or.inl rfl))).imp id (fun z => ⟨z.2.1, z.2.2⟩)) ((x6 5 (Or.inr (Or.inr rfl))).imp id (fun z => ⟨z.2.1, z.2.2⟩))
/-- the class's rows by the record's numbers -/
def cRows (entry kind callee on0 on1 owner vari : Nat → Int32) : Nat → Nat → Int32
  | 0 => entry
  | 1 => kind
  | 2 => callee
  | 3 => on0
  | 4 => on1
  | 5 => owner
  | _ => vari
def mRows (kind behind target first inner codeAt codeEnd code : Nat → Int32) : Nat → Nat → Int32
  | 0 => kind
  | 1 => behind
  | 2 => target
  | 3 => first
  | 4 => inner
  | 5 => codeAt
  | 6 => codeEnd
  | _ => code
theorem c_g {B : Nat → Nat} {N np n : Nat} {PN : Nat → List Nat} {P : Nat → Nat → Nat} {L : Nat → List Nat} {ow E ce : Nat → Nat} {c5 : Nat → Int64} {R : CT} {c18 d11 d20 d21 : Nat → Int32} (hC : cPR B N np n PN P L ow E c5 R c18) (hce : ∀ s, s < n → P 0 s = 3 → d11 s = nI (ce s)) (hl : ∀ s, s < n → d20 s = pI (g4 P s 1) ∧ d21 s = pI (g4 P s 0)) : cPg (gPg np n P L ow E ce) (cRows c18 R.1 d11 d21 d20 R.2.2.1 R.2.2.2.2.1) R.2.2.2.1 := by
  refine ⟨fun p hp => (hC.2 p hp).2, fun s hs => ?_⟩
  obtain ⟨x0, x1, x2, x3, x4, x6, x7, x8, x9, x10⟩ := hC.1 s hs
  refine ⟨x0, x4, fun z => hce s hs z, x2, (hl s hs).2, (hl s hs).1, fun st hst => ?_⟩
  obtain ⟨w, w1, w2, w3⟩ := x3
  have hev : evH (L s) st = w st := by unfold evH; rw [w2 st []]; rfl
  rw [cn_g s 0 st (by decide), cn_g s 1 st (by decide), hev]
  exact w3 st hst
theorem m_g {B : Nat → Nat} {N np n f bl : Nat} {PN : Nat → List Nat} {P : Nat → Nat → Nat} {L : Nat → List Nat} {ow E ce : Nat → Nat} {Q : List Nat} {c2 : Nat → Int64} {M : MT} {d2 d8 : Nat → Int32} (hN : N ≤ 600) (hf : f ≤ N) (hn : n ≤ 40) (hw : wfP B N np n P L ow E) (hR : rPR B N np n f PN P L ow E Q bl c2 M) (hce : ∀ s, s < n → P 0 s = 3 → d2 s = nI (ce s)) (htg : ∀ s, s < n → ¬ P 0 s = 3 → d2 s = M.2.2.2.2.2.2.2.2.2.2.2.2.2.1 s) (h8 : ∀ s, s < n → d8 s = pM (bh P s)) (hb : ∀ s, s < n → bh P s = 40 ∨ (bh P s < n ∧ ow (bh P s) = ow s)) : mPg (gPg np n P L ow E ce) (mRows M.2.1 d8 d2 M.2.2.2.2.2.2.2.2.2.2.2.1 M.2.2.2.2.2.2.1 M.2.2.2.2.2.2.2.1 M.2.2.2.2.2.2.2.2.1 M.2.2.2.2.2.2.2.2.2.2.2.2.2.2.2.1) := by
  have hQ6 : Q.length ≤ 600 := by have := hR.2.2.2.1; omega
  refine ⟨fun p hp => (hR.2.1 p hp).2, fun s hs => ?_⟩
  have hs : s < n := hs
  obtain ⟨x1, x2, x3, x4, x5, x6, x7, x8, x9, x10⟩ := hR.1 s hs
  obtain ⟨y1, y2, y3, y4, y5, y6, y7, y8, y9, y10⟩ := hw.1 s hs
  have g40 : ∀ v, ¬ P 0 s = 6 → ¬ P 0 s = 1 → ¬ P 0 s = 2 → ¬ P 0 s = 4 → ¬ P 0 s = 5 → g4 P s v = bh P s := fun v z6 z1 z2 z4 z5 => by
    unfold g4
    by_cases hv : v = 1
    · rw [if_pos hv, if_neg z6, if_neg z1, if_neg z2]
    · rw [if_neg hv, if_neg z1, if_neg z4, if_neg z5]
  have g41 : ¬ P 0 s = 6 → ¬ P 0 s = 1 → ¬ P 0 s = 2 → g4 P s 1 = bh P s := fun z6 z1 z2 => by
    unfold g4
    rw [if_pos rfl, if_neg z6, if_neg z1, if_neg z2]
  refine ⟨x1, h8 s hs, (hb s hs).elim (fun z => Nat.le_of_eq z) (fun z => Nat.le_trans (Nat.le_of_lt z.1) hn), fun z => ((hb s hs).resolve_left (Nat.ne_of_lt z)).1, fun z => ⟨?_, fun v hv => ?_⟩, fun z v hv => ?_, fun z => ⟨hce s hs z, ?_⟩, fun z => ⟨?_, ?_⟩, fun z => ⟨?_, ?_⟩, fun z => ⟨?_, fun st => ?_⟩, fun z => ⟨?_, fun st => ?_⟩, fun z => ?_⟩
  · have z : P 0 s = 0 := z
    show d2 s = nI (if P 6 s < 3 then 16 + P 6 s else 21 + P 6 s)
    have := y2 z
    rw [htg s hs (by omega), x8 z]
    unfold vMi
    rw [if_neg (by omega)]
  · have z : P 0 s = 0 := z
    exact g40 v (by omega) (by omega) (by omega) (by omega) (by omega)
  · have z : P 0 s = 1 ∨ P 0 s = 2 := z
    have hv2 : v = 0 ∨ v = 1 := by omega
    show (M.2.2.2.2.2.2.1 (2 * s + v) = -1 ∧ g4 P s v = if P 0 s = 2 ∧ v = 1 then s else bh P s) ∨ ∃ t, t < n ∧ M.2.2.2.2.2.2.1 (2 * s + v) = nI t ∧ g4 P s v = t
    rcases hv2 with hv2 | hv2
    · subst hv2
      rw [Nat.add_zero, x5, if_neg (fun w => absurd w.2 (by decide))]
      unfold g4
      rw [if_neg (by decide)]
      rcases z with z | z
      · rw [if_pos z]
        by_cases q : P 5 s = 40
        · rw [if_pos q, q]; exact Or.inl ⟨pM_40, rfl⟩
        · obtain ⟨w1, w2, w3⟩ := (y6 5 (Or.inr (Or.inr rfl))).resolve_left q
          rw [if_neg q, pM_n (by omega)]
          exact Or.inr ⟨P 5 s, w2, rfl, rfl⟩
      · rw [if_neg (by omega), if_neg (by omega), if_neg (by omega), y9 z]
        exact Or.inl ⟨pM_40, rfl⟩
    · subst hv2
      rw [x6]
      unfold g4
      rw [if_pos rfl, if_neg (by omega)]
      rcases z with z | z
      · rw [if_pos z, if_neg (show ¬ (P 0 s = 2 ∧ 1 = 1) from fun w => absurd w.1 (by omega))]
        by_cases q : P 4 s = 40
        · rw [if_pos q, q]; exact Or.inl ⟨pM_40, rfl⟩
        · obtain ⟨w1, w2, w3⟩ := (y6 4 (Or.inr (Or.inl rfl))).resolve_left q
          rw [if_neg q, pM_n (by omega)]
          exact Or.inr ⟨P 4 s, w2, rfl, rfl⟩
      · rw [if_neg (show ¬ P 0 s = 1 by omega), if_pos z, if_pos (show P 0 s = 2 ∧ 1 = 1 from ⟨z, rfl⟩)]
        by_cases q : P 4 s = 40
        · rw [if_pos q, q]; exact Or.inl ⟨pM_40, rfl⟩
        · obtain ⟨w1, w2, w3⟩ := (y6 4 (Or.inr (Or.inl rfl))).resolve_left q
          rw [if_neg q, pM_n (by omega)]
          exact Or.inr ⟨P 4 s, w2, rfl, rfl⟩
  · have z : P 0 s = 3 := z
    exact g41 (by omega) (by omega) (by omega)
  · have z : P 0 s = 4 := z
    exact g41 (by omega) (by omega) (by omega)
  · have z : P 0 s = 4 := z
    show g4 P s 0 = 41
    unfold g4
    rw [if_neg (by decide), if_neg (by omega), if_pos z]
  · have z : P 0 s = 5 := z
    exact g41 (by omega) (by omega) (by omega)
  · have z : P 0 s = 5 := z
    show g4 P s 0 = 42
    unfold g4
    rw [if_neg (by decide), if_neg (by omega), if_neg (by omega), if_pos z]
  · have z : P 0 s = 6 := z
    show g4 P s 1 = 40
    unfold g4
    rw [if_pos rfl, if_pos z]
  · have z : P 0 s = 6 := z
    rw [cn_g s 0 st (by decide), cn_g s 1 st (by decide), y8 (Or.inr (Or.inl z)), ev_1]
    decide
  · have z : P 0 s = 7 := z
    exact g41 (by omega) (by omega) (by omega)
  · have z : P 0 s = 7 := z
    rw [cn_g s 0 st (by decide), cn_g s 1 st (by decide), y8 (Or.inr (Or.inr z)), ev_1]
    decide
  · have z : P 0 s < 3 ∨ P 0 s = 4 ∨ P 0 s = 5 := z
    obtain ⟨A, T, q1, q2, q3⟩ := x7 z
    exact can_of (B := B) (show s < 40 by omega) (y7 z) q1 hQ6 hR.2.2.1 q2 q3
