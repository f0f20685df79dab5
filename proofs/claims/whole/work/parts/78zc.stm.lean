/-! ===== pure rows 104: the called procedures ===== -/
def wdS (B : Nat → Nat) (N : Nat) (P : Nat → Nat → Nat) (s : Nat) : List Nat := wj B (P 7 s) (tL B N (P 7 s))
/-- statement s calls a procedure that is there -/
def gdS (B : Nat → Nat) (N np : Nat) (PN : Nat → List Nat) (P : Nat → Nat → Nat) (s : Nat) : Prop := P 0 s = 3 → ∃ q, q < np ∧ PN q = wdS B N P s
/-- s is the first that does not -/
def bdS (B : Nat → Nat) (N np n : Nat) (PN : Nat → List Nat) (P : Nat → Nat → Nat) (s : Nat) : Prop := s < n ∧ ¬ gdS B N np PN P s ∧ ∀ x, x < s → gdS B N np PN P x
theorem bdS_u {B : Nat → Nat} {N np n : Nat} {PN : Nat → List Nat} {P : Nat → Nat → Nat} {s r : Nat} (h : bdS B N np n PN P s) (k : bdS B N np n PN P r) : s = r := by
  by_cases h1 : s < r
  · exact absurd (k.2.2 s h1) h.2.1
  · by_cases h2 : r < s
    · exact absurd (h.2.2 r h2) k.2.1
    · omega
theorem c_called {B : Nat → Nat} {N np n : Nat} {PN : Nat → List Nat} {P : Nat → Nat → Nat} {c5 c16 : Nat → Int64} {k3 c17 : Nat → Int32} (hP : pNm PN np) (hn : n ≤ 40) (hc5 : ∀ q, q < np → c5 q = nC (PN q)) (hk : ∀ s, s < n → P 0 s ≤ 7 ∧ k3 s = nI (P 0 s) ∧ (P 0 s = 3 → c16 s = nC (wdS B N P s) ∧ c17 s = nI (P 7 s) ∧ nameOk (wdS B N P s))) (fa : Int32) (c6 : Nat → Int32) :
    (∃ d, fX2_findCalled (nI np) (nI n) 256 0 fa k3 c16 c5 c6 c17 = some (256, 0, fa, d) ∧ ∀ s, s < n → P 0 s = 3 → ∃ q, q < np ∧ PN q = wdS B N P s ∧ d s = nI q) ∨ (∃ s d, bdS B N np n PN P s ∧ fX2_findCalled (nI np) (nI n) 256 0 fa k3 c16 c5 c6 c17 = some (257, 4, nI (P 7 s), d)) := by
  have key : ∀ (r s u : Nat) (e6 : Nat → Int32), s + r = n → r + 1 < u → (∀ x, x < s → P 0 x = 3 → ∃ q, q < np ∧ PN q = wdS B N P x ∧ e6 x = nI q) →
      (∃ d, fX2_findCalled_l2 (nI np) (nI n) k3 c16 c5 c17 u (nI s) 256 0 fa e6 = some (256, 0, fa, d) ∧ ∀ s, s < n → P 0 s = 3 → ∃ q, q < np ∧ PN q = wdS B N P s ∧ d s = nI q) ∨ (∃ x d, bdS B N np n PN P x ∧ fX2_findCalled_l2 (nI np) (nI n) k3 c16 c5 c17 u (nI s) 256 0 fa e6 = some (257, 4, nI (P 7 x), d)) := by
    intro r
    induction r with
    | zero =>
      intro s u e6 hs hu h0
      obtain ⟨u, rfl⟩ : ∃ v, u = v + 1 := ⟨u - 1, by omega⟩
      refine Or.inl ⟨e6, ?_, fun x hx => h0 x (by omega)⟩
      show fX2_findCalled_b2 (nI np) (nI n) k3 c16 c5 c17 _ (nI s) 256 0 fa e6 = _
      unfold fX2_findCalled_b2 fX2_findCalled_p88
      rw [if_pos (nI_le (a := n) (b := s) (by omega) (by omega))]
    | succ r ih =>
      intro s u e6 hs hu h0
      obtain ⟨u, rfl⟩ : ∃ v, u = v + 1 := ⟨u - 1, by omega⟩
      obtain ⟨hk1, hk2, hk3⟩ := hk s (by omega)
      have b40 := inb_nI (j := s) (n := 40) (by omega) (by decide)
      have e1 : nI s + 1 = nI (s + 1) := nI_add _ 1
      have hlt : ¬ nI n ≤ nI s := Int32.not_le.mpr (nI_lt (a := s) (b := n) (by omega) (by omega))
      have un : ∀ (fl : Int32) (t fa' : Int32) (e : Nat → Int32), fX2_findCalled_l2 (nI np) (nI n) k3 c16 c5 c17 (u + 1) (nI s) t fl fa' e = fX2_findCalled_b2 (nI np) (nI n) k3 c16 c5 c17 (fX2_findCalled_l2 (nI np) (nI n) k3 c16 c5 c17 u) (nI s) t fl fa' e := fun _ _ _ _ => rfl
      rw [un]
      unfold fX2_findCalled_b2 fX2_findCalled_p82
      rw [if_neg hlt, if_pos rfl, bd_eq _ b40, nm_q, nI_clamp (n := s) (by omega), hk2]
      by_cases h3 : P 0 s = 3
      · obtain ⟨g1, g2, g3⟩ := hk3 h3
        obtain ⟨v, ev, hv⟩ := c_findProc hP hc5 g3
        rw [if_pos (show nI (P 0 s) = 3 from congrArg nI h3), bd_eq _ b40, nm_q, g1, ev, ob_s, bd_eq _ b40, nm_q, bd_eq _ b40, nm_q, upd_at]
        rcases hv with ⟨q, q1, q2, q3⟩ | ⟨q1, q2⟩
        · have hP6 := hP.1
          rw [q3, if_neg (nI_m1 (by omega)), nm_q, e1]
          refine ih (s + 1) u (upd e6 s (nI q)) (by omega) (by omega) (fun x hx hx3 => ?_)
          by_cases hxs : x = s
          · rw [hxs, upd_at]; exact ⟨q, q1, q2, rfl⟩
          · rw [upd_ne hxs]; exact h0 x (by omega) hx3
        · refine Or.inr ⟨s, upd e6 s (-1), ⟨by omega, fun w => ?_, fun x hx hx3 => ?_⟩, ?_⟩
          · obtain ⟨q, w1, w2⟩ := w h3
            exact q1 q w1 w2
          · obtain ⟨q, w1, w2, -⟩ := h0 x hx hx3
            exact ⟨q, w1, w2⟩
          · rw [q2, if_pos rfl, bd_eq _ b40, nm_q, g2]
            unfold fX4_fail fX4_fail_p17
            rw [if_pos rfl, ob_s, nm_q, e1]
            obtain ⟨u, rfl⟩ : ∃ v, u = v + 1 := ⟨u - 1, by omega⟩
            show fX2_findCalled_b2 (nI np) (nI n) k3 c16 c5 c17 _ (nI (s + 1)) 257 4 (nI (P 7 s)) (upd e6 s (-1)) = _
            unfold fX2_findCalled_b2 fX2_findCalled_p88
            by_cases hl : nI n ≤ nI (s + 1)
            · rw [if_pos hl]
            · rw [if_neg hl, if_neg (by decide)]
      · rw [if_neg (show ¬ nI (P 0 s) = 3 from fun z => h3 ((nI_eq (a := P 0 s) (b := 3) (by omega) (by decide)).mp z)), nm_q, e1]
        refine ih (s + 1) u e6 (by omega) (by omega) (fun x hx hx3 => ?_)
        by_cases hxs : x = s
        · rw [hxs] at hx3; exact absurd hx3 h3
        · exact h0 x (by omega) hx3
  obtain ⟨fu, hfu, hfg⟩ := fu_any
  unfold fX2_findCalled
  rw [hfu]
  exact key n 0 fu c6 (by omega) (by omega) (fun x hx => by omega)
theorem c_calledF {fl : Int32} (h : ¬ fl = 0) (pr st t fa : Int32) (k3 : Nat → Int32) (c16 c5 : Nat → Int64) (c6 c17 : Nat → Int32) : fX2_findCalled pr st t fl fa k3 c16 c5 c6 c17 = some (t, fl, fa, c6) := by
  obtain ⟨fu, hfu, hfg⟩ := fu_any
  obtain ⟨fu, rfl⟩ : ∃ v, fu = v + 1 := ⟨fu - 1, by omega⟩
  unfold fX2_findCalled
  rw [hfu]
  show fX2_findCalled_b2 pr st k3 c16 c5 c17 _ 0 t fl fa c6 = _
  unfold fX2_findCalled_b2 fX2_findCalled_p88
  by_cases hl : st ≤ 0
  · rw [if_pos hl]
  · rw [if_neg hl, if_neg h]
/-- the point behind a statement -/
def bhF (P : Nat → Nat → Nat) : Nat → Nat → Nat
  | 0 => fun _ => 40
  | k + 1 => fun s => if P 3 s = 40 then (if P 2 s = 40 then 40 else if P 0 (P 2 s) = 2 then P 2 s else bhF P k (P 2 s)) else P 3 s
def bh (P : Nat → Nat → Nat) (s : Nat) : Nat := bhF P (s + 1) s
theorem bhF_eq {P : Nat → Nat → Nat} {n : Nat} (hp : ∀ s, s < n → P 2 s = 40 ∨ P 2 s < s) : ∀ (m s : Nat), s < m → s < n → ∀ k r, s < k → s < r → bhF P k s = bhF P r s := by
  intro m
  induction m with
  | zero => intro s hs; omega
  | succ m ih =>
    intro s hs hn k r hk hr
    obtain ⟨k, rfl⟩ : ∃ v, k = v + 1 := ⟨k - 1, by omega⟩
    obtain ⟨r, rfl⟩ : ∃ v, r = v + 1 := ⟨r - 1, by omega⟩
    show (if P 3 s = 40 then (if P 2 s = 40 then 40 else if P 0 (P 2 s) = 2 then P 2 s else bhF P k (P 2 s)) else P 3 s) = (if P 3 s = 40 then (if P 2 s = 40 then 40 else if P 0 (P 2 s) = 2 then P 2 s else bhF P r (P 2 s)) else P 3 s)
    by_cases h2 : P 2 s = 40
    · rw [if_pos h2, if_pos h2]
    · have hlt : P 2 s < s := by rcases hp s hn with z | z <;> omega
      rw [ih (P 2 s) (by omega) (by omega) k r (by omega) (by omega)]
theorem bh_eq {P : Nat → Nat → Nat} {n : Nat} (hp : ∀ s, s < n → P 2 s = 40 ∨ P 2 s < s) {s : Nat} (hs : s < n) : bh P s = if P 3 s = 40 then (if P 2 s = 40 then 40 else if P 0 (P 2 s) = 2 then P 2 s else bh P (P 2 s)) else P 3 s := by
  show (if P 3 s = 40 then (if P 2 s = 40 then 40 else if P 0 (P 2 s) = 2 then P 2 s else bhF P s (P 2 s)) else P 3 s) = _
  by_cases h2 : P 2 s = 40
  · rw [if_pos h2, if_pos h2]
  · have hlt : P 2 s < s := by rcases hp s hs with z | z <;> omega
    rw [bhF_eq hp (P 2 s + 1) (P 2 s) (Nat.lt_succ_self _) (by omega) s (P 2 s + 1) hlt (Nat.lt_succ_self _)]
    rfl
theorem bh_ok {P : Nat → Nat → Nat} {n : Nat} {ow : Nat → Nat} (hn : n ≤ 40) (h2 : ∀ s, s < n → P 2 s = 40 ∨ (P 2 s < s ∧ ow (P 2 s) = ow s)) (h3 : ∀ s, s < n → P 3 s = 40 ∨ (P 3 s < n ∧ ow (P 3 s) = ow s)) : ∀ (m s : Nat), s < m → s < n → bh P s = 40 ∨ (bh P s < n ∧ ow (bh P s) = ow s) := by
  have hp : ∀ s, s < n → P 2 s = 40 ∨ P 2 s < s := fun s hs => (h2 s hs).imp id (fun z => z.1)
  intro m
  induction m with
  | zero => intro s hs; omega
  | succ m ih =>
    intro s hs hsn
    rw [bh_eq hp hsn]
    by_cases q3 : P 3 s = 40
    · rw [if_pos q3]
      by_cases q2 : P 2 s = 40
      · rw [if_pos q2]; exact Or.inl rfl
      · rw [if_neg q2]
        obtain ⟨g1, g2⟩ := (h2 s hsn).resolve_left q2
        by_cases qk : P 0 (P 2 s) = 2
        · rw [if_pos qk]; exact Or.inr ⟨by omega, g2⟩
        · rw [if_neg qk]
          rcases ih (P 2 s) (by omega) (by omega) with z | ⟨z1, z2⟩
          · exact Or.inl z
          · exact Or.inr ⟨z1, z2.trans g2⟩
    · rw [if_neg q3]
      obtain ⟨g1, g2⟩ := (h3 s hsn).resolve_left q3
      exact Or.inr ⟨g1, g2⟩
