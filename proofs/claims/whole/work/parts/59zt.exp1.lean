/-! ===== pure rows 67: the reference's tokens seen, its code and its operators ===== -/
theorem tK_lt {B : Nat → Nat} {N f : Nat} (h : tK B N f < 256) : f < N ∧ tK B N f = B f := by
  by_cases q : f < N
  · refine ⟨q, ?_⟩
    by_cases w : isLt (B f) = true
    · have e := (tK_word q w).1
      have hr := kwc_rng (wj B f (tL B N f))
      by_cases a : tL B N f ≤ 8
      · rw [if_pos a] at e; omega
      · rw [if_neg a] at e; omega
    · have e := (tK_mark q w).1
      by_cases a : isMk (B f) = true
      · rw [if_pos a] at e; exact e
      · rw [if_neg a] at e; omega
  · have := (tK_out (B := B) q).1; omega
theorem kM_lt (k : Nat) : kM k < 5 := by
  unfold kM
  by_cases h1 : k = 256
  · rw [if_pos h1]; decide
  · rw [if_neg h1]
    by_cases h2 : k = 257
    · rw [if_pos h2]; decide
    · rw [if_neg h2]
      by_cases h3 : k = 258
      · rw [if_pos h3]; decide
      · rw [if_neg h3]
        by_cases h4 : k < 256
        · rw [if_pos h4]; decide
        · rw [if_neg h4]; decide
theorem kM_3 (k : Nat) : kM k = 3 ↔ k < 256 := by
  unfold kM
  by_cases h1 : k = 256
  · rw [if_pos h1]; omega
  · rw [if_neg h1]
    by_cases h2 : k = 257
    · rw [if_pos h2]; omega
    · rw [if_neg h2]
      by_cases h3 : k = 258
      · rw [if_pos h3]; omega
      · rw [if_neg h3]
        by_cases h4 : k < 256
        · rw [if_pos h4]; omega
        · rw [if_neg h4]; omega
theorem kM_4 (k : Nat) : kM k = 4 ↔ k = 257 := by
  unfold kM
  by_cases h1 : k = 256
  · rw [if_pos h1]; omega
  · rw [if_neg h1]
    by_cases h2 : k = 257
    · rw [if_pos h2]; omega
    · rw [if_neg h2]
      by_cases h3 : k = 258
      · rw [if_pos h3]; omega
      · rw [if_neg h3]
        by_cases h4 : k < 256
        · rw [if_pos h4]; omega
        · rw [if_neg h4]; omega
theorem kM_1 (k : Nat) : kM k = 1 ↔ k = 258 := by
  unfold kM
  by_cases h1 : k = 256
  · rw [if_pos h1]; omega
  · rw [if_neg h1]
    by_cases h2 : k = 257
    · rw [if_pos h2]; omega
    · rw [if_neg h2]
      by_cases h3 : k = 258
      · rw [if_pos h3]; omega
      · rw [if_neg h3]
        by_cases h4 : k < 256
        · rw [if_pos h4]; omega
        · rw [if_neg h4]; omega
theorem r_sees {B : Nat → Nat} {N : Nat} {c m : Nat → Int32} (h : txt B N c m) {f a : Nat} (ha : a < 256) : fX11_sees (nI a) (nI N) (nI f) (nI (kM (tK B N f))) m = some (if tK B N f = a then 1 else 0, ()) := by
  have hk := kM_lt (tK B N f)
  have z3 : nI (kM (tK B N f)) = 3 ↔ tK B N f < 256 := (nI_eq (a := kM (tK B N f)) (b := 3) (by omega) (by decide)).trans (kM_3 _)
  have b1 : bz 1 = true := by decide
  have b0 : bz 0 = true := by decide
  unfold fX11_sees fX11_sees_p24 fX11_sees_p25
  rw [bd_eq _ b1, bd_eq _ b0]
  by_cases q : tK B N f < 256
  · obtain ⟨q1, q2⟩ := tK_lt q
    have eb := r_byteAt h (i := f) (by omega)
    rw [if_pos q1] at eb
    have hb := (h.2 f q1).1
    have za : nI (B f) = nI a ↔ B f = a := nI_eq (by omega) (by omega)
    rw [if_pos (z3.mpr q), eb, ob_s]
    by_cases w : B f = a
    · rw [if_pos (za.mpr w), if_pos (q2.trans w)]
    · rw [if_neg (fun z => w (za.mp z)), if_neg (fun z => w (q2.symm.trans z))]
  · rw [if_neg (fun z => q (z3.mp z)), if_neg (fun z => q (by omega))]
theorem r_may {k f : Nat} {b wa : Int32} : fX11_may b (nI f) (nI (kM k)) 0 wa = some (if k = 257 then (0, (1, nI f)) else if b = 0 then (0, (2, nI f)) else (1, (0, wa))) := by
  have hk := kM_lt k
  have z4 : nI (kM k) = 4 ↔ k = 257 := (nI_eq (a := kM k) (b := 4) (by omega) (by decide)).trans (kM_4 _)
  have b1 : bz 1 = true := by decide
  have b0 : bz 0 = true := by decide
  unfold fX11_may fX11_may_p50 fX11_may_p46 fX11_may_p51 fX11_fail fX11_fail_p17
  rw [bd_eq _ b1]
  by_cases q : k = 257
  · rw [if_pos rfl, if_pos (z4.mpr q), if_pos rfl, ob_s, if_pos rfl, bd_eq _ b0, if_pos q]
  · rw [if_pos rfl, if_neg (fun z => q (z4.mp z)), if_neg q]
    by_cases w : b = 0
    · rw [if_pos w, if_pos rfl, ob_s, if_pos rfl, bd_eq _ b0, if_pos w]
    · rw [if_neg w, if_neg w]
theorem r_mayF {b f tk wr wa : Int32} (h : ¬ wr = 0) : fX11_may b f tk wr wa = some (0, (wr, wa)) := by
  have b0 : bz 0 = true := by decide
  unfold fX11_may fX11_may_p50 fX11_may_p51
  rw [if_neg h, bd_eq _ b0]
/-- the code, and the operators that wait: the last one first -/
def codeIs (c : Nat → Int32) (L : List Nat) : Prop := ∀ j, j < L.length → c j = nI (L.getD j 0)
def stkIs (c : Nat → Int32) : List Nat → Prop
  | [] => True
  | a :: t => c t.length = nI a ∧ stkIs c t
theorem codeIs_s {c : Nat → Int32} {L : List Nat} {v : Nat} (h : codeIs c L) : codeIs (upd c L.length (nI v)) (L ++ [v]) := by
  intro j hj
  rw [List.length_append] at hj
  have hj' : j < L.length + 1 := hj
  by_cases q : j = L.length
  · rw [q, upd_at, List.getD_eq_getElem?_getD, List.getElem?_append_right (Nat.le_refl _), Nat.sub_self]; rfl
  · rw [upd_ne q, h j (by omega), List.getD_eq_getElem?_getD, List.getD_eq_getElem?_getD, List.getElem?_append_left (by omega)]
theorem r_emit {c : Nat → Int32} {L : List Nat} (v : Nat) (h : codeIs c L) (hl : L.length < 700) : ∃ d, fX11_emit (nI v) (nI L.length) c = some (nI (L ++ [v]).length, d) ∧ codeIs d (L ++ [v]) := by
  refine ⟨upd c L.length (nI v), ?_, codeIs_s h⟩
  unfold fX11_emit
  rw [bd_eq _ (inb_nI (j := L.length) (n := 700) hl (by decide)), nm_q, nI_clamp (n := L.length) (by omega), nm_q, nI_1, List.length_append]
  rfl
theorem stk_push {c : Nat → Int32} : ∀ {S : List Nat} (k : Nat) (v : Int32), S.length ≤ k → stkIs c S → stkIs (upd c k v) S := by
  intro S
  induction S with
  | nil => intro k v _ _; exact trivial
  | cons a t ih =>
    intro k v hk h
    have hk' : t.length + 1 ≤ k := hk
    exact ⟨by rw [upd_ne (by omega)]; exact h.1, ih k v (by omega) h.2⟩
/-- the bangs on top of the waiting operators -/
def bangs : List Nat → Nat
  | [] => 0
  | a :: t => if a = 33 then bangs t + 1 else 0
def noBang : List Nat → List Nat
  | [] => []
  | a :: t => if a = 33 then noBang t else a :: t
theorem bang_len : ∀ S : List Nat, bangs S + (noBang S).length = S.length := by
  intro S
  induction S with
  | nil => rfl
  | cons a t ih =>
    show (if a = 33 then bangs t + 1 else 0) + (if a = 33 then noBang t else a :: t).length = t.length + 1
    by_cases h : a = 33
    · rw [if_pos h, if_pos h]; omega
    · rw [if_neg h, if_neg h]; exact Nat.zero_add _
theorem r_finish {ops : Nat → Int32} : ∀ (S : List Nat) (n d : Nat) (c : Nat → Int32) (L : List Nat), stkIs ops S → (∀ a, a ∈ S → a < 256) → S.length < n → S.length ≤ 700 → L.length + bangs S ≤ 700 → codeIs c L →
    ∃ c2, fX11_finish_l0 ops n (nI L.length) (nI S.length) (nI (d + bangs S)) c = some (nI (L ++ List.replicate (bangs S) 3).length, nI (noBang S).length, nI d, c2) ∧ codeIs c2 (L ++ List.replicate (bangs S) 3) := by
  intro S
  induction S with
  | nil =>
    intro n d c L _ _ hn _ _ hc
    obtain ⟨n, rfl⟩ : ∃ z, n = z + 1 := ⟨n - 1, by have : 0 < n := hn; omega⟩
    refine ⟨c, ?_, by show codeIs c (L ++ []); rw [List.append_nil]; exact hc⟩
    show fX11_finish_b0 ops _ (nI L.length) (nI 0) (nI (d + 0)) c = some (nI (L ++ []).length, nI 0, nI d, c)
    unfold fX11_finish_b0 fX11_finish_p51
    rw [if_pos (by decide), List.append_nil]
    rfl
  | cons a t ih =>
    intro n d c L hs ha hn h7 hl hc
    have hn' : t.length + 1 < n := hn
    have h7' : t.length + 1 ≤ 700 := h7
    obtain ⟨n, rfl⟩ : ∃ z, n = z + 1 := ⟨n - 1, by omega⟩
    have hz : nI a = 33 ↔ a = 33 := nI_eq (a := a) (b := 33) (by have := ha a List.mem_cons_self; omega) (by decide)
    have eb : bangs (a :: t) = if a = 33 then bangs t + 1 else 0 := rfl
    have en : noBang (a :: t) = if a = 33 then noBang t else a :: t := rfl
    show ∃ c2, fX11_finish_b0 ops (fX11_finish_l0 ops n) (nI L.length) (nI (t.length + 1)) (nI (d + bangs (a :: t))) c = _ ∧ _
    unfold fX11_finish_b0 fX11_finish_p51
    rw [if_neg (nI_nle (by omega) (by omega)), nm_q, nI_pred, bd_eq _ (inb_nI (j := t.length) (n := 700) (by omega) (by decide)), nm_q, nI_clamp (n := t.length) (by omega), hs.1]
    by_cases q : a = 33
    · rw [eb, if_pos q] at hl ⊢
      rw [en, if_pos q, if_pos (hz.mpr q)]
      obtain ⟨d1, e1, e2⟩ := r_emit (L := L) 3 hc (by omega)
      have e1' : fX11_emit 3 (nI L.length) c = some (nI (L ++ [3]).length, d1) := e1
      rw [e1', ob_s, nm_q, nm_q, ← Nat.add_assoc, nI_pred]
      have := ih n d d1 (L ++ [3]) hs.2 (fun b hb => ha b (List.mem_cons_of_mem a hb)) (by omega) (by omega) (by rw [List.length_append]; show L.length + 1 + bangs t ≤ 700; omega) e2
      rw [List.append_assoc, show [3] ++ List.replicate (bangs t) 3 = List.replicate (bangs t + 1) 3 from rfl] at this
      exact this
    · rw [eb, if_neg q, en, if_neg q, if_neg (fun z => q (hz.mp z))]
      refine ⟨c, ?_, by show codeIs c (L ++ []); rw [List.append_nil]; exact hc⟩
      show _ = some (nI (L ++ []).length, _)
      rw [List.append_nil]
      rfl
