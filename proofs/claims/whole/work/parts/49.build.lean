/-! ===== pure rows 20: buildWord, stepsFrom (class) ===== -/
theorem c_build {E : Nat → Bool} {x w : Nat → Nat} {e L n2 n6 M : Nat} (he : e < 65536) (hE : ∀ a, a < 16 → E a = e.testBit a) (hL : L ≤ 30) (hLM : L ≤ M) (hM : M < 2 ^ 20) (h2 : 16 * (M + 1) ≤ n2) (h2' : n2 < 2 ^ 30) (h6 : M ≤ n6) (h6' : n6 < 2 ^ 30) {c2 c3 c5 c6 : Nat → Int32} (hw : ∀ j, j < L → c3 j = nI (w j) ∧ w j < 12) (hx : tb x c5) (ht0 : Int32) :
    Wq (fX7_buildWord n2 n6 (nI M) ht0 (nI e) (nI L) c2 c3 c5 c6) (fun r => r.1 = nI L ∧ TW E x w L r.2.1 r.2.2) := by
  have key2 : ∀ (k i n : Nat) (c d : Nat → Int32) (v : Nat → Nat), i + k = L → k < n → (∀ j, j < i → v j = w j) → TW E x v i c d → Wq (fX7_buildWord_l44 n2 n6 (nI M) (nI e) (nI L) c3 c5 n (nI i) (nI i) c d) (fun r => r.1 = nI L ∧ TW E x w L r.2.1 r.2.2) := by
    intro k
    induction k with
    | zero =>
      intro i n c d v g1 g2 hv hT
      obtain ⟨n, rfl⟩ : ∃ z, n = z + 1 := ⟨n - 1, by omega⟩
      show Wq (fX7_buildWord_b44 n2 n6 (nI M) (nI e) (nI L) c3 c5 _ (nI i) (nI i) c d) _
      unfold fX7_buildWord_b44
      rw [if_pos (nI_le (by omega) (by omega))]
      have e1 : i = L := by omega
      subst e1
      refine Wq_some ⟨rfl, fun h hh a ha => ?_, fun h hh => ?_⟩
      · have q1 := hT.1 h hh a ha
        rw [tw_congr h (fun j hj => hv j (by omega))] at q1
        exact q1
      · rw [← hv h hh]; exact hT.2 h hh
    | succ k ih =>
      intro i n c d v g1 g2 hv hT
      obtain ⟨n, rfl⟩ : ∃ z, n = z + 1 := ⟨n - 1, by omega⟩
      show Wq (fX7_buildWord_b44 n2 n6 (nI M) (nI e) (nI L) c3 c5 _ (nI i) (nI i) c d) _
      unfold fX7_buildWord_b44
      obtain ⟨w1, w2⟩ := hw i (by omega)
      rw [if_neg (nI_ge (by omega) (by omega))]
      simp only [inb_nI (j := i) (n := 30) (by omega) (by decide), bd, nm, nI_clamp (n := i) (by omega), w1]
      refine Wq_ob (c_pile (s := w i) (H := i) w2 hx hT (by omega) (by omega) (by omega) h2' (by omega) h6') (fun r hr => ?_)
      obtain ⟨r1, rc, rd⟩ := r
      obtain ⟨q1, q2⟩ := hr
      simp only at q1 q2
      subst q1
      show Wq (fX7_buildWord_l44 n2 n6 (nI M) (nI e) (nI L) c3 c5 n (nI i + 1) (nI (i + 1)) rc rd) _
      rw [nI_1]
      refine ih (i + 1) n rc rd (wset v i (w i)) (by omega) (by omega) (fun j hj => ?_) q2
      unfold wset
      by_cases z : j = i
      · rw [if_pos z, z]
      · rw [if_neg z]; exact hv j (by omega)
  have key : ∀ (k i n : Nat) (c : Nat → Int32), i + k = 16 → k < n → (∀ a, a < i → c a = nI (tw E x w 0 a)) → Wq (fX7_buildWord_l7 n2 n6 (nI M) (nI e) (nI L) c3 c5 n (nI i) 0 c c6) (fun r => r.1 = nI L ∧ TW E x w L r.2.1 r.2.2) := by
    intro k
    induction k with
    | zero =>
      intro i n c g1 g2 q
      obtain ⟨n, rfl⟩ : ∃ z, n = z + 1 := ⟨n - 1, by omega⟩
      show Wq (fX7_buildWord_b7 n2 n6 (nI M) (nI e) (nI L) c3 c5 _ (nI i) 0 c c6) _
      unfold fX7_buildWord_b7
      have h16 : (16 : Int32) ≤ nI i := nI_le (a := 16) (b := i) (by omega) (by omega)
      rw [if_pos h16]
      refine key2 L 0 FU c c6 w (by omega) (FU_gt (by omega)) (fun j hj => rfl) ⟨fun h hh a ha => ?_, fun h hh => by omega⟩
      have e0 : h = 0 := by omega
      subst e0
      rw [show 16 * 0 + a = a by omega]
      exact q a (by omega)
    | succ k ih =>
      intro i n c g1 g2 q
      obtain ⟨n, rfl⟩ : ∃ z, n = z + 1 := ⟨n - 1, by omega⟩
      show Wq (fX7_buildWord_b7 n2 n6 (nI M) (nI e) (nI L) c3 c5 _ (nI i) 0 c c6) _
      unfold fX7_buildWord_b7 fX7_buildWord_p35
      have h16 : ¬ (16 : Int32) ≤ nI i := nI_ge (a := i) (b := 16) (by omega) (by omega)
      have hi := hE i (by omega)
      have ht : ∀ b : Bool, e.testBit i = b → tw E x w 0 i = if b then 0 else 536870912 := fun b hb => by rw [← hb, ← hi]; rfl
      simp only [if_neg h16, nm, nx_val he (show i < 16 by omega), inb_nI (j := i) (n := n2) (by omega) (by omega), bd, nI_clamp (n := i) (by omega), nI_1]
      have step : ∀ v : Int32, v = nI (tw E x w 0 i) → Wq (fX7_buildWord_l7 n2 n6 (nI M) (nI e) (nI L) c3 c5 n (nI (i + 1)) 0 (upd c i v) c6) (fun r => r.1 = nI L ∧ TW E x w L r.2.1 r.2.2) := by
        intro v hv
        refine ih (i + 1) n _ (by omega) (by omega) (fun a ha => ?_)
        unfold upd
        by_cases z : a = i
        · rw [if_pos z, z]; exact hv
        · rw [if_neg z]; exact q a (by omega)
      by_cases hb : e.testBit i = true
      · simp only [hb, if_true, if_neg n10]
        exact step 0 (by rw [ht true hb]; rfl)
      · have hb0 : e.testBit i = false := by simpa using hb
        simp only [hb0, Bool.false_eq_true, if_false, if_true]
        exact step 536870912 (by rw [ht false hb0]; rfl)
  unfold fX7_buildWord
  exact key 16 0 FU c2 (by omega) (FU_gt (by decide)) (fun a ha => absurd ha (by omega))
theorem c_stepsFrom {E : Nat → Bool} {x w : Nat → Nat} {a H n1 : Nat} (ha : a < 16) (hn : 16 * H + 16 ≤ n1) (hn2 : n1 < 2 ^ 30) {c c4 : Nat → Int32} (hT : TW E x w H c c4) : fX7_stepsFrom (nI a) n1 (nI H) c = some (nI (tw E x w H a), ()) := by
  unfold fX7_stepsFrom
  have e16 : nI H * 16 = nI (16 * H) := by rw [Nat.mul_comm 16 H]; exact pk_mul H 16
  simp only [nm, e16, nI_add, inb_nI (j := 16 * H + a) (n := n1) (by omega) (by omega), bd, nI_clamp (n := 16 * H + a) (by omega), hT.1 H (Nat.le_refl _) a ha]
