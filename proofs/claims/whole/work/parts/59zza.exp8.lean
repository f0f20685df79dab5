/-! ===== pure rows 74: the reference's loop is the machine (2) ===== -/
theorem red_head : ∀ (S : List Nat) (a : Nat) (t : List Nat), redS true S = a :: t → ¬ a = 38 ∧ ¬ a = 124 := by
  intro S
  induction S with
  | nil => intro a t h; cases h
  | cons b u ih =>
    intro a t h
    have e1 : redS true (b :: u) = if b = 38 ∨ (true = true ∧ b = 124) then redS true u else b :: u := rfl
    rw [e1] at h
    by_cases q : b = 38 ∨ (true = true ∧ b = 124)
    · rw [if_pos q] at h; exact ih a t h
    · rw [if_neg q] at h
      have : b = a := (List.cons.inj h).1
      rw [← this]
      exact ⟨fun z => q (Or.inl z), fun z => q (Or.inr ⟨rfl, z⟩)⟩
/-- the name that stands at the token -/
def nmAt (B : Nat → Nat) (N f : Nat) (nm : Int64) : Prop := 258 ≤ tK B N f → okB (wj B f (tL B N f)) ∧ tL B N f ≤ 8 ∧ nm = nM (wj B f (tL B N f))
abbrev ExO : Type := Int32 × Int32 × Int32 × Int32 × Int64 × Int32 × Int32 × Int32 × Int32 × Int32 × (Nat → Int32) × (Nat → Int32) × (Nat → Int32) × (Nat → Int32)
/-- what the loop answers where the machine ends with r -/
def exEnd (B : Nat → Nat) (N s : Nat) (P : List Nat) (wa : Int32) (c1 c8 : Nat → Int32) (r : PX) (o : ExO) : Prop := match r with
  | .error e => o.1 = 0 ∧ o.2.2.2.2.2.1 = nI e.1 ∧ o.2.2.2.2.2.2.1 = nI e.2
  | .ok q => o.1 = 1 ∧ o.2.1 = nI q.2 ∧ o.2.2.1 = nI (tE B N q.2) ∧ o.2.2.2.1 = nI (kM (tK B N q.2)) ∧ nmAt B N q.2 o.2.2.2.2.1 ∧ o.2.2.2.2.2.1 = 0 ∧ o.2.2.2.2.2.2.1 = wa ∧ o.2.2.2.2.2.2.2.1 = nI (P ++ q.1).length ∧ o.2.2.2.2.2.2.2.2.2.2.1 = c1 ∧ codeIs o.2.2.2.2.2.2.2.2.2.2.2.2.1 (P ++ q.1) ∧ o.2.2.2.2.2.2.2.2.2.2.2.2.2 = upd c8 s (nI (P ++ q.1).length) ∧ q.2 ≤ N ∧ P.length + q.1.length ≤ q.2
theorem r_takeExp_l {B : Nat → Nat} {N : Nat} {c m : Nat → Int32} (h : txt B N c m) {VN : Nat → List Nat} {g l p s : Nat} {cg cn : Nat → Int64} {cl : Nat → Int32} (hv : vNm VN g l) (hm : vM VN g l p cg cl cn) (hp : p < 6) (hs : s < 40) (P : List Nat) (wa : Int32) (c1 c8 : Nat → Int32) :
    ∀ (n n2 : Nat) (op : Bool) (f : Nat) (S L : List Nat) (nm0 : Int64) (c3 c7 : Nat → Int32), isFin (run (tK B N) (tX B N) (tV B N VN g l) n op f S L (dp S)) → n < n2 → f ≤ N → stkIs c3 S → opsOk S → codeIs c7 (P ++ L) → P.length + L.length + S.length ≤ f → nmAt B N f nm0 → dp S ≤ 10 →
      Wq (fX11_takeExp_l25 (nI N) (nI g) m cg cl cn n2 (nI p) (nI s) (if op = true then 1 else 0) 1 (nI f) (nI (tE B N f)) (nI (kM (tK B N f))) nm0 0 wa (nI (P ++ L).length) (nI S.length) (nI (dp S)) c1 c3 c7 c8) (exEnd B N s P wa c1 c8 (run (tK B N) (tX B N) (tV B N VN g l) n op f S L (dp S))) := by
  obtain ⟨fu, hfu, hfg⟩ := fu_any
  have hN := h.1
  have b1 : bz 1 = true := by decide
  have b0 : bz 0 = true := by decide
  intro n
  induction n with
  | zero => intro n2 op f S L nm0 c3 c7 hfin; exact absurd rfl hfin
  | succ n ih =>
    intro n2 op f S L nm0 c3 c7 hfin hn2 hf hst hop hco hbd hnm hdp
    obtain ⟨n2, rfl⟩ : ∃ z, n2 = z + 1 := ⟨n2 - 1, by omega⟩
    have hadv := t_adv B N
    have ll : (P ++ L).length = P.length + L.length := List.length_append
    -- one token on
    have nxt : ∀ (tk0 : Int32) (nm1 : Int64), ∃ nm2, fX11_next (nI N) (nI f) (nI (tE B N f)) tk0 nm1 m = some (nI (tX B N f), nI (tE B N (tX B N f)), nI (kM (tK B N (tX B N f))), nm2) ∧ nmAt B N (tX B N f) nm2 := fun tk0 nm1 => r_next h (nI f) tk0 nm1 (tE_le (B := B) hf).1
    have z1 : nI (kM (tK B N f)) = 1 ↔ tK B N f = 258 := (nI_eq (a := kM (tK B N f)) (b := 1) (by have := kM_lt (tK B N f); omega) (by decide)).trans (kM_1 _)
    have s40 := r_sees h (f := f) (a := 40) (by decide)
    have s33 := r_sees h (f := f) (a := 33) (by decide)
    have s48 := r_sees h (f := f) (a := 48) (by decide)
    have s49 := r_sees h (f := f) (a := 49) (by decide)
    have s42 := r_sees h (f := f) (a := 42) (by decide)
    have s38 := r_sees h (f := f) (a := 38) (by decide)
    have s124 := r_sees h (f := f) (a := 124) (by decide)
    have s41 := r_sees h (f := f) (a := 41) (by decide)
    cases op with
    | true =>
      rw [if_pos rfl]
      rw [run_t] at hfin ⊢
      show Wq (fX11_takeExp_b25 (nI N) (nI g) m cg cl cn (fX11_takeExp_l25 (nI N) (nI g) m cg cl cn n2) (nI p) (nI s) 1 1 (nI f) (nI (tE B N f)) (nI (kM (tK B N f))) nm0 0 wa (nI (P ++ L).length) (nI S.length) (nI (dp S)) c1 c3 c7 c8) _
      unfold fX11_takeExp_b25
      rw [if_neg n10, if_neg n10]
      by_cases cO : tK B N f = 40 ∨ tK B N f = 33
      · -- a bracket or a bang
        have e : (ob (fX11_sees 40 (nI N) (nI f) (nI (kM (tK B N f))) m) fun o56 => if o56.1 = 0 then ob (fX11_sees 33 (nI N) (nI f) (nI (kM (tK B N f))) m) fun o58 => if o58.1 = 0 then fX11_takeExp_p57 (nI N) (nI g) m cg cl cn (fX11_takeExp_l25 (nI N) (nI g) m cg cl cn n2) (nI p) (nI s) 1 1 0 (nI f) (nI (tE B N f)) (nI (kM (tK B N f))) nm0 0 wa (nI (P ++ L).length) (nI S.length) (nI (dp S)) c1 c3 c7 c8 else fX11_takeExp_p52 (nI N) (nI g) m cg cl cn (fX11_takeExp_l25 (nI N) (nI g) m cg cl cn n2) (nI p) (nI s) 1 1 (nI f) (nI (tE B N f)) (nI (kM (tK B N f))) nm0 0 wa (nI (P ++ L).length) (nI S.length) (nI (dp S)) c1 c3 c7 c8 else fX11_takeExp_p52 (nI N) (nI g) m cg cl cn (fX11_takeExp_l25 (nI N) (nI g) m cg cl cn n2) (nI p) (nI s) 1 1 (nI f) (nI (tE B N f)) (nI (kM (tK B N f))) nm0 0 wa (nI (P ++ L).length) (nI S.length) (nI (dp S)) c1 c3 c7 c8) = fX11_takeExp_p52 (nI N) (nI g) m cg cl cn (fX11_takeExp_l25 (nI N) (nI g) m cg cl cn n2) (nI p) (nI s) 1 1 (nI f) (nI (tE B N f)) (nI (kM (tK B N f))) nm0 0 wa (nI (P ++ L).length) (nI S.length) (nI (dp S)) c1 c3 c7 c8 := by
          have s40' : fX11_sees 40 (nI N) (nI f) (nI (kM (tK B N f))) m = some (if tK B N f = 40 then 1 else 0, ()) := s40
          have s33' : fX11_sees 33 (nI N) (nI f) (nI (kM (tK B N f))) m = some (if tK B N f = 33 then 1 else 0, ()) := s33
          rw [s40', ob_s, s33', ob_s]
          by_cases w : tK B N f = 40
          · simp only [if_pos w]; rw [if_neg n10]
          · have w2 : tK B N f = 33 := cO.elim (fun z => absurd z w) id
            simp only [if_neg w, if_pos w2]
            rw [if_pos trivial, if_neg n10]
        rw [e]
        unfold fX11_takeExp_p52 fX11_takeExp_p57 fX11_takeExp_p100 fX11_takeExp_p105 fX11_takeExp_p254
        rw [if_neg n10, r_may, ob_s, if_neg (show ¬ tK B N f = 257 by omega)]
        simp only [if_neg n10]
        rw [if_pos cO] at hfin ⊢
        have z10 : nI (dp S) = 10 ↔ dp S = 10 := nI_eq (a := dp S) (b := 10) (by omega) (by decide)
        by_cases cd : dp S = 10
        · rw [if_pos cd, if_pos (z10.mpr cd)]
          unfold fX11_fail fX11_fail_p17
          rw [if_pos rfl, ob_s, bd_eq _ b0]
          exact Wq_some ⟨rfl, rfl, rfl⟩
        · rw [if_neg cd] at hfin ⊢
          rw [if_neg (fun z => cd (z10.mp z)), nm_q, nI_1]
          obtain ⟨q1, q2⟩ := tK_lt (B := B) (N := N) (f := f) (by omega)
          have eb := r_byteAt h (i := f) (by omega)
          rw [if_pos q1, ← q2] at eb
          obtain ⟨nm2, x1, x2⟩ := nxt (nI (kM (tK B N f))) nm0
          obtain ⟨y1, y2⟩ := hadv f hf (by omega)
          rw [eb, ob_s, bd_eq _ (inb_nI (j := S.length) (n := 700) (by omega) (by decide)), nm_q, nI_clamp (n := S.length) (by omega), nm_q, nI_1, x1, ob_s]
          have ed : dp (tK B N f :: S) = dp S + 1 := by show dp S + (if tK B N f = 33 ∨ tK B N f = 40 then 1 else 0) = _; rw [if_pos (by omega)]
          rw [← ed] at hfin ⊢
          exact ih n2 true (tX B N f) (tK B N f :: S) L nm2 _ c7 hfin (by omega) y2 (stk_top hst) (fun a ha => (List.mem_cons.mp ha).elim (fun z => by rw [z]; omega) (hop a)) hco (by show P.length + L.length + (S.length + 1) ≤ tX B N f; omega) x2 (by omega)
      · have w40 : ¬ tK B N f = 40 := fun z => cO (Or.inl z)
        have w33 : ¬ tK B N f = 33 := fun z => cO (Or.inr z)
        have s40' : fX11_sees 40 (nI N) (nI f) (nI (kM (tK B N f))) m = some (if tK B N f = 40 then 1 else 0, ()) := s40
        have s33' : fX11_sees 33 (nI N) (nI f) (nI (kM (tK B N f))) m = some (if tK B N f = 33 then 1 else 0, ()) := s33
        have s48' : fX11_sees 48 (nI N) (nI f) (nI (kM (tK B N f))) m = some (if tK B N f = 48 then 1 else 0, ()) := s48
        have s49' : fX11_sees 49 (nI N) (nI f) (nI (kM (tK B N f))) m = some (if tK B N f = 49 then 1 else 0, ()) := s49
        have s42' : fX11_sees 42 (nI N) (nI f) (nI (kM (tK B N f))) m = some (if tK B N f = 42 then 1 else 0, ()) := s42
        rw [if_neg w40] at s40'
        rw [if_neg w33] at s33'
        rw [if_neg cO] at hfin ⊢
        rw [s40', ob_s, if_pos rfl, s33', ob_s, if_pos rfl]
        -- an operand
        have core : ∀ v : Nat, v < 100 → ¬ tK B N f = 256 → isFin (run (tK B N) (tX B N) (tV B N VN g l) n false (tX B N f) (noBang S) (L ++ [v] ++ List.replicate (bangs S) 3) (dp S - bangs S)) → Wq (fX11_takeExp_p224 (nI N) (nI g) m cg cl cn (fX11_takeExp_l25 (nI N) (nI g) m cg cl cn n2) (nI p) (nI s) 1 (nI v) (nI f) (nI (tE B N f)) (nI (kM (tK B N f))) nm0 0 wa (nI (P ++ L).length) (nI S.length) (nI (dp S)) c1 c3 c7 c8) (exEnd B N s P wa c1 c8 (run (tK B N) (tX B N) (tV B N VN g l) n false (tX B N f) (noBang S) (L ++ [v] ++ List.replicate (bangs S) 3) (dp S - bangs S))) := by
          intro v hv100 hk hfin
          obtain ⟨y1, y2⟩ := hadv f hf hk
          have bl := bang_len S
          obtain ⟨dB1, dB2⟩ := dp_bang S
          obtain ⟨d1, e1, e2⟩ := r_emit (L := P ++ L) v hco (by omega)
          obtain ⟨d2, e3, e4⟩ := r_finish S fu (dp S - bangs S) d1 (P ++ L ++ [v]) hst (opsOk_lt hop) (by omega) (by omega) (by rw [List.length_append, ll]; show P.length + L.length + 1 + bangs S ≤ 700; omega) e2
          rw [show dp S - bangs S + bangs S = dp S by omega] at e3
          have el : P ++ L ++ [v] ++ List.replicate (bangs S) 3 = P ++ (L ++ [v] ++ List.replicate (bangs S) 3) := by simp only [List.append_assoc]
          rw [el] at e3 e4
          obtain ⟨nm2, x1, x2⟩ := nxt (nI (kM (tK B N f))) nm0
          have ed : dp S - bangs S = dp (noBang S) := by omega
          rw [ed] at hfin ⊢
          rw [ed] at e3
          unfold fX11_takeExp_p224 fX11_takeExp_p254 fX11_finish
          rw [if_neg (nI_m1 (by omega)), e1, ob_s, hfu, e3, ob_s, x1, ob_s]
          refine ih n2 false (tX B N f) (noBang S) (L ++ [v] ++ List.replicate (bangs S) 3) nm2 c3 d2 hfin (by omega) y2 (stk_noBang S hst) (dB2 hop) e4 ?_ x2 (by omega)
          rw [List.length_append, List.length_append, List.length_replicate]
          show P.length + (L.length + 1 + bangs S) + (noBang S).length ≤ tX B N f
          omega
        by_cases c258 : tK B N f = 258
        · have n48 : ¬ tK B N f = 48 := by omega
          have n49 : ¬ tK B N f = 49 := by omega
          have n42 : ¬ tK B N f = 42 := by omega
          rw [if_neg n48, if_neg n49, if_neg n42, if_pos c258] at hfin ⊢
          obtain ⟨k1, k2, k3⟩ := hnm (by omega)
          have hW : nameOk (wj B f (tL B N f)) := ⟨k1, by rw [wj_len]; exact k2⟩
          have rv := r_variable hv hm hp hW (vIx_is hv.1 hv.2.1 (wj B f (tL B N f)))
          have hr5 := vIx_le VN g l (wj B f (tL B N f)) hv.1 hv.2.1
          unfold fX11_takeExp_p57 fX11_takeExp_p100 fX11_takeExp_p105
          rw [if_pos rfl, if_pos (z1.mpr c258), r_may, ob_s, if_neg (show ¬ tK B N f = 257 by omega)]
          simp only [if_neg n10]
          rw [if_pos trivial, if_pos (z1.mpr c258), k3, rv, ob_s, ← k3]
          by_cases r5 : vIx VN g l (wj B f (tL B N f)) = 5
          · have eV : tV B N VN g l f = 99 := by unfold tV; rw [if_pos r5]
            have eM : vMi (vIx VN g l (wj B f (tL B N f))) = -1 := by unfold vMi; rw [if_pos r5]
            rw [if_pos eV]
            unfold fX11_takeExp_p224 fX11_fail fX11_fail_p17
            simp only [eM]
            rw [if_pos trivial, if_pos trivial, ob_s, bd_eq _ b0]
            exact Wq_some ⟨rfl, rfl, rfl⟩
          · have eV : tV B N VN g l f < 99 := by
              unfold tV; rw [if_neg r5]
              by_cases z : vIx VN g l (wj B f (tL B N f)) < 3
              · rw [if_pos z]; omega
              · rw [if_neg z]; omega
            have eM : vMi (vIx VN g l (wj B f (tL B N f))) = nI (tV B N VN g l f) := by unfold vMi tV; rw [if_neg r5, if_neg r5]
            rw [if_neg (show ¬ tV B N VN g l f = 99 by omega)] at hfin ⊢
            simp only [eM]
            exact core _ (by omega) (by omega) hfin
        · have t1 : ¬ nI (kM (tK B N f)) = 1 := fun z => c258 (z1.mp z)
          unfold fX11_takeExp_p57 fX11_takeExp_p100
          rw [if_pos rfl, if_neg t1, s48', ob_s]
          by_cases c48 : tK B N f = 48
          · rw [if_pos c48] at hfin ⊢
            simp only [if_pos c48]
            unfold fX11_takeExp_p105
            rw [if_neg n10, r_may, ob_s, if_neg (show ¬ tK B N f = 257 by omega)]
            simp only [if_neg n10]
            rw [if_pos trivial, if_neg t1, s48', ob_s]
            simp only [if_pos c48]
            rw [if_neg n10]
            exact core 0 (by decide) (by omega) hfin
          · rw [if_neg c48] at hfin ⊢
            simp only [if_neg c48]
            rw [if_pos trivial, s49', ob_s]
            by_cases c49 : tK B N f = 49
            · rw [if_pos c49] at hfin ⊢
              simp only [if_pos c49]
              unfold fX11_takeExp_p105
              rw [if_neg n10, r_may, ob_s, if_neg (show ¬ tK B N f = 257 by omega)]
              simp only [if_neg n10]
              rw [if_pos trivial, if_neg t1, s48', ob_s]
              simp only [if_neg c48]
              rw [if_pos trivial, s49', ob_s]
              simp only [if_pos c49]
              rw [if_neg n10]
              exact core 1 (by decide) (by omega) hfin
            · rw [if_neg c49] at hfin ⊢
              simp only [if_neg c49]
              rw [if_pos trivial, s42', ob_s]
              by_cases c42 : tK B N f = 42
              · rw [if_pos c42] at hfin ⊢
                simp only [if_pos c42]
                unfold fX11_takeExp_p105
                rw [if_neg n10, r_may, ob_s, if_neg (show ¬ tK B N f = 257 by omega)]
                simp only [if_neg n10]
                rw [if_pos trivial, if_neg t1, s48', ob_s]
                simp only [if_neg c48]
                rw [if_pos trivial, s49', ob_s]
                simp only [if_neg c49]
                rw [if_pos trivial]
                exact core 2 (by decide) (by omega) hfin
              · rw [if_neg c42, if_neg c258]
                simp only [if_neg c42]
                unfold fX11_takeExp_p105
                rw [if_pos trivial, r_may, ob_s]
                unfold bdK
                by_cases c257 : tK B N f = 257
                · simp only [if_pos c257]
                  rw [if_pos trivial]
                  exact Wq_some ⟨rfl, rfl, rfl⟩
                · simp only [if_neg c257]
                  rw [if_pos trivial]
                  exact Wq_some ⟨rfl, rfl, rfl⟩
    | false =>
      rw [if_neg (show ¬ false = true by decide)]
      rw [run_f] at hfin ⊢
      show Wq (fX11_takeExp_b25 (nI N) (nI g) m cg cl cn (fX11_takeExp_l25 (nI N) (nI g) m cg cl cn n2) (nI p) (nI s) 0 1 (nI f) (nI (tE B N f)) (nI (kM (tK B N f))) nm0 0 wa (nI (P ++ L).length) (nI S.length) (nI (dp S)) c1 c3 c7 c8) _
      have s38' : fX11_sees 38 (nI N) (nI f) (nI (kM (tK B N f))) m = some (if tK B N f = 38 then 1 else 0, ()) := s38
      have s124' : fX11_sees 124 (nI N) (nI f) (nI (kM (tK B N f))) m = some (if tK B N f = 124 then 1 else 0, ()) := s124
      have s41' : fX11_sees 41 (nI N) (nI f) (nI (kM (tK B N f))) m = some (if tK B N f = 41 then 1 else 0, ()) := s41
      have lim : (P ++ L).length + S.length ≤ 700 := by omega
      -- reduce
      have red : ∀ ors : Bool, ∃ d2, fX11_reduce (if ors = true then 1 else 0) (nI (P ++ L).length) (nI S.length) c3 c7 = some (nI (P ++ (L ++ redC ors S)).length, nI (redS ors S).length, d2) ∧ codeIs d2 (P ++ (L ++ redC ors S)) := by
        intro ors
        obtain ⟨d2, e3, e4⟩ := r_reduce ors S fu c7 (P ++ L) hst (opsOk_lt hop) (by omega) (by omega) lim hco
        rw [List.append_assoc] at e3 e4
        refine ⟨d2, ?_, e4⟩
        unfold fX11_reduce
        rw [hfu]
        exact e3
      -- an operator between
      have mid : ∀ ors : Bool, tK B N f = (if ors = true then 124 else 38) → isFin (run (tK B N) (tX B N) (tV B N VN g l) n true (tX B N f) (tK B N f :: redS ors S) (L ++ redC ors S) (dp S)) → Wq (fX11_takeExp_p279 (nI N) (nI g) m cg cl cn (fX11_takeExp_l25 (nI N) (nI g) m cg cl cn n2) (nI p) (nI s) 1 (nI f) (nI (tE B N f)) (nI (kM (tK B N f))) nm0 0 wa (nI (P ++ L).length) (nI S.length) (nI (dp S)) c1 c3 c7 c8) (exEnd B N s P wa c1 c8 (run (tK B N) (tX B N) (tV B N VN g l) n true (tX B N f) (tK B N f :: redS ors S) (L ++ redC ors S) (dp S))) := by
        intro ors hk hfin
        have hk2 : tK B N f = 38 ∨ tK B N f = 124 := by cases ors with
          | false => exact Or.inl hk
          | true => exact Or.inr hk
        obtain ⟨q1, q2⟩ := tK_lt (B := B) (N := N) (f := f) (by omega)
        have eb := r_byteAt h (i := f) (by omega)
        rw [if_pos q1, ← q2] at eb
        obtain ⟨y1, y2⟩ := hadv f hf (by omega)
        obtain ⟨nm2, x1, x2⟩ := nxt (nI (kM (tK B N f))) nm0
        obtain ⟨d2, e3, e4⟩ := red ors
        have rl := red_len ors S
        have dr := dp_red ors S
        have hs124 : fX11_sees 124 (nI N) (nI f) (nI (kM (tK B N f))) m = some (if ors = true then 1 else 0, ()) := by
          rw [s124']
          cases ors with
          | false => rw [if_neg (show ¬ tK B N f = 124 by rw [hk]; decide), if_neg (by decide)]
          | true => rw [if_pos (show tK B N f = 124 from hk), if_pos rfl]
        have ed : dp S = dp (tK B N f :: redS ors S) := by show dp S = dp (redS ors S) + (if tK B N f = 33 ∨ tK B N f = 40 then 1 else 0); rw [if_neg (by omega), dr.1]; rfl
        unfold fX11_takeExp_p279
        rw [hs124, ob_s, e3, ob_s, eb, ob_s, bd_eq _ (inb_nI (j := (redS ors S).length) (n := 700) (by omega) (by decide)), nm_q, nI_clamp (n := (redS ors S).length) (by omega), nm_q, nI_1, x1, ob_s]
        rw [ed] at hfin ⊢
        refine ih n2 true (tX B N f) (tK B N f :: redS ors S) (L ++ redC ors S) nm2 _ d2 hfin (by omega) y2 (stk_top (stk_red ors S hst)) (fun a ha => (List.mem_cons.mp ha).elim (fun z => by rw [z]; omega) (dr.2 hop a)) e4 ?_ x2 (by omega)
        rw [List.length_append]
        show P.length + (L.length + (redC ors S).length) + ((redS ors S).length + 1) ≤ tX B N f
        omega
      unfold fX11_takeExp_b25
      rw [if_neg n10, if_pos rfl, s38', ob_s]
      by_cases c38 : tK B N f = 38
      · have md := mid false c38
        rw [c38] at md
        rw [if_pos c38] at hfin ⊢
        simp only [if_pos c38]
        rw [if_neg n10]
        rw [c38]
        exact md hfin
      · rw [if_neg c38] at hfin ⊢
        simp only [if_neg c38]
        rw [if_pos trivial, s124', ob_s]
        by_cases c124 : tK B N f = 124
        · have md := mid true c124
          rw [c124] at md
          rw [if_pos c124] at hfin ⊢
          simp only [if_pos c124]
          rw [if_neg n10]
          rw [c124]
          exact md hfin
        · rw [if_neg c124] at hfin ⊢
          simp only [if_neg c124]
          obtain ⟨d2, e3, e4⟩ := red true
          have e3' : fX11_reduce 1 (nI (P ++ L).length) (nI S.length) c3 c7 = some (nI (P ++ (L ++ redC true S)).length, nI (redS true S).length, d2) := e3
          have rl := red_len true S
          have dr := dp_red true S
          rw [if_pos trivial, e3', ob_s, s41', ob_s]
          -- the end of the expression
          obtain ⟨n3, hn3⟩ : ∃ z, n2 = z + 1 := ⟨n2 - 1, by omega⟩
          have stop : ∀ (b : Int32), (b = if (redS true S).length = 0 then 1 else 0) → fX11_takeExp_l25 (nI N) (nI g) m cg cl cn n2 (nI p) (nI s) 0 0 (nI f) (nI (tE B N f)) (nI (kM (tK B N f))) nm0 0 wa (nI (P ++ (L ++ redC true S)).length) (nI (redS true S).length) (nI (dp S)) c1 c3 d2 c8 = fX11_takeExp_p412 (nI N) (nI g) m cg cl cn b (nI f) (nI (tE B N f)) (nI (kM (tK B N f))) nm0 0 wa (nI (P ++ (L ++ redC true S)).length) (nI (redS true S).length) (nI (dp S)) c1 c3 d2 (upd c8 s (nI (P ++ (L ++ redC true S)).length)) := by
            intro b hb
            rw [hn3]
            show fX11_takeExp_b25 (nI N) (nI g) m cg cl cn _ (nI p) (nI s) 0 0 _ _ _ _ _ _ _ _ _ _ _ _ _ = _
            unfold fX11_takeExp_b25
            have z0 : nI (redS true S).length = 0 ↔ (redS true S).length = 0 := nI_eq (a := (redS true S).length) (b := 0) (by omega) (by decide)
            rw [if_pos rfl, bd_eq _ (inb_nI (j := s) (n := 40) hs (by decide)), nm_q, nI_clamp (n := s) (by omega), hb]
            by_cases w : (redS true S).length = 0
            · rw [if_pos (z0.mpr w), if_pos w]
            · rw [if_neg (fun z => w (z0.mp z)), if_neg w]
          cases hS : redS true S with
          | nil =>
            have st := stop 1 (by rw [hS]; rfl)
            have lhs : (if (if tK B N f = 41 then (1 : Int32) else 0) = 0 then fX11_takeExp_p350 (nI N) (nI g) m cg cl cn (fX11_takeExp_l25 (nI N) (nI g) m cg cl cn n2) (nI p) (nI s) 0 (nI f) (nI (tE B N f)) (nI (kM (tK B N f))) nm0 0 wa (nI (P ++ (L ++ redC true S)).length) (nI (redS true S).length) (nI (dp S)) c1 c3 d2 c8 else if nI (redS true S).length ≤ 0 then fX11_takeExp_p350 (nI N) (nI g) m cg cl cn (fX11_takeExp_l25 (nI N) (nI g) m cg cl cn n2) (nI p) (nI s) 0 (nI f) (nI (tE B N f)) (nI (kM (tK B N f))) nm0 0 wa (nI (P ++ (L ++ redC true S)).length) (nI (redS true S).length) (nI (dp S)) c1 c3 d2 c8 else fX11_takeExp_p351 (nI N) (nI g) m cg cl cn (fX11_takeExp_l25 (nI N) (nI g) m cg cl cn n2) (nI p) (nI s) 0 1 (nI f) (nI (tE B N f)) (nI (kM (tK B N f))) nm0 0 wa (nI (P ++ (L ++ redC true S)).length) (nI (redS true S).length) (nI (dp S)) c1 c3 d2 c8) = fX11_takeExp_l25 (nI N) (nI g) m cg cl cn n2 (nI p) (nI s) 0 0 (nI f) (nI (tE B N f)) (nI (kM (tK B N f))) nm0 0 wa (nI (P ++ (L ++ redC true S)).length) (nI (redS true S).length) (nI (dp S)) c1 c3 d2 c8 := by
              unfold fX11_takeExp_p350 fX11_takeExp_p351
              by_cases c41 : tK B N f = 41
              · rw [if_pos c41, if_neg n10, if_pos (show nI (redS true S).length ≤ 0 by rw [hS]; decide), if_pos rfl]
              · rw [if_neg c41, if_pos rfl, if_pos rfl]
            rw [hS] at st lhs
            show Wq (if (if tK B N f = 41 then (1 : Int32) else 0) = 0 then _ else if nI ([] : List Nat).length ≤ 0 then _ else _) (exEnd B N s P wa c1 c8 (if tK B N f = 257 then .error (1, f) else .ok (L ++ redC true S, f)))
            rw [lhs, st]
            unfold fX11_takeExp_p412
            rw [r_may, ob_s]
            by_cases c257 : tK B N f = 257
            · simp only [if_pos c257]
              rw [bd_eq _ b0]
              exact Wq_some ⟨rfl, rfl, rfl⟩
            · simp only [if_neg c257, if_neg n10]
              rw [bd_eq _ b1]
              refine Wq_some ⟨rfl, rfl, rfl, rfl, hnm, rfl, rfl, rfl, rfl, e4, rfl, hf, ?_⟩
              show P.length + (L ++ redC true S).length ≤ f
              rw [List.length_append]
              omega
          | cons a tl =>
            have st := stop 0 (by rw [hS]; exact (if_neg (Nat.succ_ne_zero _)).symm)
            have sr := stk_red true S hst
            have oo := dr.2 hop
            have rh := red_head S a tl hS
            have dS := dr.1
            rw [hS] at st sr oo dS rl
            have rl' : (redC true S).length + (tl.length + 1) = S.length := rl
            have ha := oo a List.mem_cons_self
            have dS' : dp tl + 1 = dp S := by
              have e : dp (a :: tl) = dp tl + if a = 33 ∨ a = 40 then 1 else 0 := rfl
              rw [e, if_pos (by omega)] at dS
              exact dS
            rw [hS] at hfin
            have hfin' : isFin (if tK B N f = 41 then run (tK B N) (tX B N) (tV B N VN g l) n false (tX B N f) (noBang tl) (L ++ redC true S ++ List.replicate (bangs tl) 3) (dp S - 1 - bangs tl) else .error (bdK (tK B N f), f)) := hfin
            show Wq (if (if tK B N f = 41 then (1 : Int32) else 0) = 0 then _ else if nI (a :: tl).length ≤ 0 then _ else _) (exEnd B N s P wa c1 c8 (if tK B N f = 41 then run (tK B N) (tX B N) (tV B N VN g l) n false (tX B N f) (noBang tl) (L ++ redC true S ++ List.replicate (bangs tl) 3) (dp S - 1 - bangs tl) else .error (bdK (tK B N f), f)))
            by_cases c41 : tK B N f = 41
            · rw [if_pos c41] at hfin'
              simp only [if_pos c41]
              obtain ⟨y1, y2⟩ := hadv f hf (by omega)
              obtain ⟨nm2, x1, x2⟩ := nxt (nI (kM (tK B N f))) nm0
              have bl := bang_len tl
              obtain ⟨dB1, dB2⟩ := dp_bang tl
              obtain ⟨d5, e5, e6⟩ := r_finish tl fu (dp tl - bangs tl) d2 (P ++ (L ++ redC true S)) sr.2 (opsOk_lt (opsOk_t oo)) (by omega) (by omega) (by rw [List.length_append, List.length_append]; omega) e4
              rw [show dp tl - bangs tl + bangs tl = dp tl by omega, show dp tl - bangs tl = dp (noBang tl) by omega] at e5
              have el : P ++ (L ++ redC true S) ++ List.replicate (bangs tl) 3 = P ++ (L ++ redC true S ++ List.replicate (bangs tl) 3) := by simp only [List.append_assoc]
              rw [el] at e5 e6
              rw [show dp S - 1 - bangs tl = dp (noBang tl) by omega] at hfin' ⊢
              rw [if_neg n10, if_neg (show ¬ nI (a :: tl).length ≤ 0 from nI_nle (by show 0 < tl.length + 1; omega) (by show tl.length + 1 < 2 ^ 31; omega))]
              unfold fX11_takeExp_p351 fX11_finish
              rw [if_neg n10, show (a :: tl).length = tl.length + 1 from rfl, nm_q, nI_pred, nm_q, ← dS', nI_pred, hfu, e5, ob_s, x1, ob_s]
              refine ih n2 false (tX B N f) (noBang tl) (L ++ redC true S ++ List.replicate (bangs tl) 3) nm2 c3 d5 hfin' (by omega) y2 (stk_noBang tl sr.2) (dB2 (opsOk_t oo)) e6 ?_ x2 (by omega)
              rw [List.length_append, List.length_append, List.length_replicate]
              omega
            · simp only [if_neg c41]
              rw [if_pos trivial]
              unfold fX11_takeExp_p350 fX11_takeExp_p351
              rw [if_pos rfl, st]
              unfold fX11_takeExp_p412
              rw [r_may, ob_s]
              unfold bdK
              by_cases c257 : tK B N f = 257
              · simp only [if_pos c257]
                rw [bd_eq _ b0]
                exact Wq_some ⟨rfl, rfl, rfl⟩
              · simp only [if_neg c257]
                rw [if_pos trivial, bd_eq _ b0]
                exact Wq_some ⟨rfl, rfl, rfl⟩
