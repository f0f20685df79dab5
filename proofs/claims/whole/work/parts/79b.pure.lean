/-! ===== pure rows 111: check and trace of both sides ===== -/
theorem relPg_mono {Z Z2 : Prop} {Kc K2 : (Nat → Nat → Nat → Nat) → Prop} {it gl pr st : Int32} {k3 k4 k5 : Nat → Int32} {k6 : Nat → Int64} {k7 k8 entry on1 on0 : Nat → Int32} {hs gl1 pr1 st1 : Int32} {m3 m4 m5 kd be tg fi inn cA cE co : Nat → Int32} (h : relPg Z Kc it gl pr st k3 k4 k5 k6 k7 k8 entry on1 on0 hs gl1 pr1 st1 m3 m4 m5 kd be tg fi inn cA cE co) (h1 : Z → Z2) (h2 : ∀ G, Kc G → K2 G) : relPg Z2 K2 it gl pr st k3 k4 k5 k6 k7 k8 entry on1 on0 hs gl1 pr1 st1 m3 m4 m5 kd be tg fi inn cA cE co := by
  rcases h with ⟨a1, a2, a3, a4, a5, a6⟩ | ⟨a1, a2, G, g, pl, a3, a4, a5⟩
  · exact Or.inl ⟨a1, a2, a3, a4, a5, h1 a6⟩
  · exact Or.inr ⟨a1, a2, G, g, pl, a3, h2 G a4, a5⟩
/-- what the class has kept of its latest check: tv = 1 where its trace is there -/
def ckI (ic ca : Int32) (tv : Nat) (lg : Int32) (e4 e5 e6 e7 : Nat → Int32) (G : Nat → Nat → Nat → Nat) : Prop := ic = 0 ∨ (ic = 1 ∧ ∃ Y, isL (288 * G 7 0 0) (opA G allA) (fun _ => 536870912) Y ∧ ca = ansI (ansN G Y) ∧ ((tv = 0 ∧ 2000 < ansN G Y) ∨ (tv = 1 ∧ trC G Y lg e4 e5 e6 e7)))
def trI (tv : Nat) (lg : Int32) (e4 e5 e6 e7 : Nat → Int32) (tl : Int32) (t : Nat → Int32) : Prop := (tv = 0 ∧ tl = 0) ∨ (tv = 1 ∧ trOk lg e4 e5 e6 e7 tl t)
abbrev CkR : Type := Nat × Int32 × Int32 × Int32 × Int32 × (Nat → Int32) × (Nat → Int32) × (Nat → Int32) × (Nat → Int32) × (Nat → Int32) × Int32 × Int32 × Int32 × Int32 × (Nat → Int32) × (Nat → Int32) × (Nat → Int32) × (Nat → Int32) × (Nat → Int32) × (Nat → Int32) × (Nat → Int32)
/-- check, where the class answers by f and keeps what it has; or finds anew -/
theorem pu_check {ic ca : Int32} {tv : Nat} {lg : Int32} {e4 e5 e6 e7 : Nat → Int32} {it gl pr st : Int32} {k3 k4 k5 : Nat → Int32} {k6 : Nat → Int64} {k7 k8 entry on1 on0 : Nat → Int32} {hs gl1 pr1 st1 : Int32} {m3 m4 m5 kd be tg fi inn cA cE co : Nat → Int32} (h : relPg (ic = 0) (ckI ic ca tv lg e4 e5 e6 e7) it gl pr st k3 k4 k5 k6 k7 k8 entry on1 on0 hs gl1 pr1 st1 m3 m4 m5 kd be tg fi inn cA cE co) {tl : Int32} {c12 : Nat → Int32} (ht : trI tv lg e4 e5 e6 e7 tl c12) (f : Option CkR) (KEEP : CkR → Prop) (NEW : (Nat → Nat → Nat → Nat) → (Nat → Nat) → CkR → Prop)
    (hf0 : it = 0 → Wq f (fun r => r.2.1 = -2 ∧ KEEP r)) (hf1 : it = 1 → ¬ ic = 0 → Wq f (fun r => r.2.1 = ca ∧ KEEP r))
    (hf2 : it = 1 → ic = 0 → ∀ G Y, okPg G → pr = nI (G 8 0 0) → st = nI (G 7 0 0) → cPg G (cRows entry k3 k8 on0 on1 k5 k7) k6 → isL (288 * G 7 0 0) (opA G allA) (fun _ => 536870912) Y → Wq f (fun r => r.2.1 = ansI (ansN G Y) ∧ NEW G Y r))
    (th n1 n2 n3 z5 : Int32) (ce cf va c13 c14 c15 : Nat → Int32) :
    ∃ (v : Int32) (r : CkR), f = some r ∧ r.2.1 = v ∧ Wq (fX11_check th hs st1 n1 n2 n3 tl z5 ce cf kd be tg fi cA cE co va inn c12 c13 c14 c15) (fun q => q.1 = v ∧ q.2.1 = 0 ∧ ((KEEP r ∧ trI tv lg e4 e5 e6 e7 q.2.2.2.2.2.1 q.2.2.2.2.2.2.2.2.2.2.1) ∨
      ∃ G Y, NEW G Y r ∧ okPg G ∧ (∃ re ex, isRe G re ex) ∧ isL (288 * G 7 0 0) (opA G allA) (fun _ => 536870912) Y ∧ v = ansI (ansN G Y) ∧ trR G Y q.2.2.2.2.2.1 q.2.2.2.2.2.2.2.2.2.2.1 ∧ ∀ K2 : (Nat → Nat → Nat → Nat) → Prop, K2 G → relPg False K2 it gl pr st k3 k4 k5 k6 k7 k8 entry on1 on0 hs gl1 pr1 st1 m3 m4 m5 kd be tg fi inn cA cE co)) := by
  rcases h with ⟨a1, a2, a3, a4, a5, a6⟩ | ⟨a1, a2, G, g, pl, a3, a4, a5, a6, a7, a8, a9, a10, a11, a12, a13⟩
  · obtain ⟨r, er, h1, h2⟩ := hf0 a1
    refine ⟨-2, r, er, h1, ?_⟩
    unfold fX11_check
    rw [a5, if_pos rfl]
    exact Wq_some ⟨rfl, rfl, Or.inl ⟨h2, ht⟩⟩
  · obtain ⟨⟨re, ex⟩, -, hre⟩ := c_reachAll a3 a11 (fun _ => 0) (fun _ => 0)
    by_cases hic : ic = 0
    · obtain ⟨Y, hY⟩ := ex_L (opA_ok a3 allA) (y0 := fun _ => 536870912) (fun j hj => Or.inr rfl)
      obtain ⟨r, er, h1, h2⟩ := hf2 a1 hic G Y a3 a7 a9 a11 hY
      refine ⟨_, r, er, h1, ?_⟩
      obtain ⟨q, eq, q1, q2, q3⟩ := r_check a3 a12 hre hY th n1 n2 n3 tl z5 ce cf va c12 c13 c14 c15
      rw [a2, a10]
      refine ⟨q, eq, q1, q2, Or.inr ⟨G, Y, h2, a3, ⟨re, ex, hre⟩, hY, rfl, q3, fun K2 hK => Or.inr ⟨a1, rfl, G, g, pl, a3, hK, a5, a6, a7, a8, a9, rfl, a11, a12, a13⟩⟩⟩
    · obtain ⟨r, er, h1, h2⟩ := hf1 a1 hic
      refine ⟨ca, r, er, h1, ?_⟩
      obtain ⟨-, Y, hY, b2, b3⟩ := a4.resolve_left hic
      obtain ⟨q, eq, q1, q2, q3⟩ := r_check a3 a12 hre hY th n1 n2 n3 tl z5 ce cf va c12 c13 c14 c15
      rw [a2, a10]
      refine ⟨q, eq, by rw [q1, b2], q2, Or.inl ⟨h2, ?_⟩⟩
      rcases b3 with ⟨b3, b4⟩ | ⟨b3, b4⟩
      · exact Or.inl ⟨b3, q3.2 b4⟩
      · exact Or.inr ⟨b3, tr_same a3 hre hY b4 q3⟩
/-- behind a check that was made anew -/
theorem ck_new {G : Nat → Nat → Nat → Nat} {Y : Nat → Nat} {v tl : Int32} {t : Nat → Int32} (hG : okPg G) (hre : ∃ re ex, isRe G re ex) (hY : isL (288 * G 7 0 0) (opA G allA) (fun _ => 536870912) Y) (hv : v = ansI (ansN G Y)) (hr : trR G Y tl t) {tv : Nat} {lg : Int32} {e4 e5 e6 e7 : Nat → Int32} (h : (tv = 0 ∧ 2000 < ansN G Y) ∨ (tv = 1 ∧ trC G Y lg e4 e5 e6 e7)) : ckI 1 v tv lg e4 e5 e6 e7 G ∧ trI tv lg e4 e5 e6 e7 tl t := by
  obtain ⟨re, ex, hre⟩ := hre
  refine ⟨Or.inr ⟨rfl, Y, hY, hv, h⟩, ?_⟩
  rcases h with ⟨h1, h2⟩ | ⟨h1, h2⟩
  · exact Or.inl ⟨h1, hr.2 h2⟩
  · exact Or.inr ⟨h1, tr_same hG hre hY h2 hr⟩
/-- the class's three kinds of check -/
theorem pu_check_cf {ic ca : Int32} {it gl pr st : Int32} {k3 k4 k5 : Nat → Int32} {k6 : Nat → Int64} {k7 k8 entry on1 on0 : Nat → Int32} {hs gl1 pr1 st1 : Int32} {m3 m4 m5 kd be tg fi inn cA cE co : Nat → Int32} (h : relPg (ic = 0) (ckI ic ca 0 0 (fun _ => 0) (fun _ => 0) (fun _ => 0) (fun _ => 0)) it gl pr st k3 k4 k5 k6 k7 k8 entry on1 on0 hs gl1 pr1 st1 m3 m4 m5 kd be tg fi inn cA cE co) {tl : Int32} {c12 : Nat → Int32} (ht : tl = 0) (th n1 n2 n3 z5 : Int32) (ce cf va c13 c14 c15 : Nat → Int32) :
    ∃ (v : Int32) (r : CkR), fX10_check_cf ic ca it pr st entry k3 k8 on0 on1 k5 k6 k7 = some r ∧ r.2.1 = v ∧ Wq (fX11_check th hs st1 n1 n2 n3 tl z5 ce cf kd be tg fi cA cE co va inn c12 c13 c14 c15) (fun q => q.1 = v ∧ q.2.1 = 0 ∧
      ((r.1 = 0 ∧ r.2.2.1 = ic ∧ r.2.2.2.1 = ca ∧ q.2.2.2.2.2.1 = 0) ∨ (r.1 = 2 ∧ r.2.2.1 = 1 ∧ relPg (r.2.2.1 = 0) (ckI r.2.2.1 r.2.2.2.1 0 0 (fun _ => 0) (fun _ => 0) (fun _ => 0) (fun _ => 0)) it gl pr st k3 k4 k5 k6 k7 k8 entry on1 on0 hs gl1 pr1 st1 m3 m4 m5 kd be tg fi inn cA cE co ∧ q.2.2.2.2.2.1 = 0) ∨ (r.1 = 1 ∧ r.2.2.1 = 1 ∧ relPg (r.2.2.1 = 0) (ckI r.2.2.1 r.2.2.2.1 1 r.2.2.2.2.2.2.2.2.2.2.1 r.2.2.2.2.2.2.2.2.2.2.2.2.2.2.1 r.2.2.2.2.2.2.2.2.2.2.2.2.2.2.2.1 r.2.2.2.2.2.2.2.2.2.2.2.2.2.2.2.2.1 r.2.2.2.2.2.2.2.2.2.2.2.2.2.2.2.2.2.1) it gl pr st k3 k4 k5 k6 k7 k8 entry on1 on0 hs gl1 pr1 st1 m3 m4 m5 kd be tg fi inn cA cE co ∧ trI 1 r.2.2.2.2.2.2.2.2.2.2.1 r.2.2.2.2.2.2.2.2.2.2.2.2.2.2.1 r.2.2.2.2.2.2.2.2.2.2.2.2.2.2.2.1 r.2.2.2.2.2.2.2.2.2.2.2.2.2.2.2.2.1 r.2.2.2.2.2.2.2.2.2.2.2.2.2.2.2.2.2.1 q.2.2.2.2.2.1 q.2.2.2.2.2.2.2.2.2.2.1))) := by
  have hf0 : it = 0 → Wq (fX10_check_cf ic ca it pr st entry k3 k8 on0 on1 k5 k6 k7) (fun r : CkR => r.2.1 = -2 ∧ (r.1 = 0 ∧ r.2.2.1 = ic ∧ r.2.2.2.1 = ca)) := by
    intro z
    unfold fX10_check_cf
    rw [if_pos z]
    exact Wq_tg (Wq_some ⟨rfl, rfl, rfl, rfl⟩)
  have hf1 : it = 1 → ¬ ic = 0 → Wq (fX10_check_cf ic ca it pr st entry k3 k8 on0 on1 k5 k6 k7) (fun r : CkR => r.2.1 = ca ∧ (r.1 = 0 ∧ r.2.2.1 = ic ∧ r.2.2.2.1 = ca)) := by
    intro z1 z2
    unfold fX10_check_cf
    rw [if_neg (by rw [z1]; exact n10), if_neg z2]
    exact Wq_tg (Wq_some ⟨rfl, rfl, rfl, rfl⟩)
  have hf2 : it = 1 → ic = 0 → ∀ (G : Nat → Nat → Nat → Nat) (Y : Nat → Nat), okPg G → pr = nI (G 8 0 0) → st = nI (G 7 0 0) → cPg G (cRows entry k3 k8 on0 on1 k5 k7) k6 → isL (288 * G 7 0 0) (opA G allA) (fun _ => 536870912) Y → Wq (fX10_check_cf ic ca it pr st entry k3 k8 on0 on1 k5 k6 k7) (fun r : CkR => r.2.1 = ansI (ansN G Y) ∧ (r.2.2.1 = 1 ∧ r.2.2.2.1 = ansI (ansN G Y) ∧ ((r.1 = 1 ∧ trC G Y r.2.2.2.2.2.2.2.2.2.2.1 r.2.2.2.2.2.2.2.2.2.2.2.2.2.2.1 r.2.2.2.2.2.2.2.2.2.2.2.2.2.2.2.1 r.2.2.2.2.2.2.2.2.2.2.2.2.2.2.2.2.1 r.2.2.2.2.2.2.2.2.2.2.2.2.2.2.2.2.2.1) ∨ (r.1 = 2 ∧ 2000 < ansN G Y)))) := by
    intro z1 z2 G Y hG hp hs hC hY
    rw [z1, z2, hp, hs]
    obtain ⟨r, er, k1, k2, k3, k4⟩ := c_check_cf hG hC hY ca
    exact ⟨r, er, k1, k2, k3, k4⟩
  obtain ⟨v, r, e, h1, q, eq, q1, q2, q3⟩ := pu_check h (Or.inl ⟨rfl, ht⟩) (fX10_check_cf ic ca it pr st entry k3 k8 on0 on1 k5 k6 k7) (fun r => r.1 = 0 ∧ r.2.2.1 = ic ∧ r.2.2.2.1 = ca) (fun G Y r => r.2.2.1 = 1 ∧ r.2.2.2.1 = ansI (ansN G Y) ∧ ((r.1 = 1 ∧ trC G Y r.2.2.2.2.2.2.2.2.2.2.1 r.2.2.2.2.2.2.2.2.2.2.2.2.2.2.1 r.2.2.2.2.2.2.2.2.2.2.2.2.2.2.2.1 r.2.2.2.2.2.2.2.2.2.2.2.2.2.2.2.2.1 r.2.2.2.2.2.2.2.2.2.2.2.2.2.2.2.2.2.1) ∨ (r.1 = 2 ∧ 2000 < ansN G Y))) hf0 hf1 hf2 th n1 n2 n3 z5 ce cf va c13 c14 c15
  refine ⟨v, r, e, h1, q, eq, q1, q2, ?_⟩
  rcases q3 with ⟨⟨k1, k2, k3⟩, k4⟩ | ⟨G, Y, ⟨k1, k2, k3⟩, k4, k5, k6, k7, k8, k9⟩
  · exact Or.inl ⟨k1, k2, k3, k4.elim (fun z => z.2) (fun z => absurd z.1 (by decide))⟩
  · rcases k3 with ⟨k31, k32⟩ | ⟨k31, k32⟩
    · obtain ⟨n1, n2⟩ := ck_new k4 k5 k6 k2 k8 (Or.inr ⟨rfl, k32⟩)
      rw [← k1] at n1
      exact Or.inr (Or.inr ⟨k31, k1, relPg_mono (k9 _ n1) (fun z => z.elim) (fun _ z => z), n2⟩)
    · obtain ⟨n1, n2⟩ := ck_new (tv := 0) (lg := 0) (e4 := fun _ => 0) (e5 := fun _ => 0) (e6 := fun _ => 0) (e7 := fun _ => 0) k4 k5 k6 k2 k8 (Or.inl ⟨rfl, k32⟩)
      rw [← k1] at n1
      exact Or.inr (Or.inl ⟨k31, k1, relPg_mono (k9 _ n1) (fun z => z.elim) (fun _ z => z), n2.elim (fun z => z.2) (fun z => absurd z.1 (by decide))⟩)
theorem pu_check_f {ic ca : Int32} {it gl pr st : Int32} {k3 k4 k5 : Nat → Int32} {k6 : Nat → Int64} {k7 k8 entry on1 on0 : Nat → Int32} {hs gl1 pr1 st1 : Int32} {m3 m4 m5 kd be tg fi inn cA cE co : Nat → Int32} (h : relPg (ic = 0) (ckI ic ca 0 0 (fun _ => 0) (fun _ => 0) (fun _ => 0) (fun _ => 0)) it gl pr st k3 k4 k5 k6 k7 k8 entry on1 on0 hs gl1 pr1 st1 m3 m4 m5 kd be tg fi inn cA cE co) {tl : Int32} {c12 : Nat → Int32} (ht : tl = 0) (lk : Int32) (e2 e3 e13 e14 e15 : Nat → Int32) (th n1 n2 n3 z5 : Int32) (ce cf va c13 c14 c15 : Nat → Int32) :
    ∃ (v : Int32) (r : CkR), fX10_check_f ic ca it pr st lk e2 e3 entry k3 k8 on0 on1 k5 k6 k7 e13 e14 e15 = some r ∧ r.2.1 = v ∧ Wq (fX11_check th hs st1 n1 n2 n3 tl z5 ce cf kd be tg fi cA cE co va inn c12 c13 c14 c15) (fun q => q.1 = v ∧ q.2.1 = 0 ∧
      ((r.1 = 0 ∧ relPg (r.2.2.1 = 0) (ckI r.2.2.1 r.2.2.2.1 0 0 (fun _ => 0) (fun _ => 0) (fun _ => 0) (fun _ => 0)) it gl pr st k3 k4 k5 k6 k7 k8 entry on1 on0 hs gl1 pr1 st1 m3 m4 m5 kd be tg fi inn cA cE co ∧ q.2.2.2.2.2.1 = 0) ∨ (r.1 = 1 ∧ relPg (r.2.2.1 = 0) (ckI r.2.2.1 r.2.2.2.1 1 r.2.2.2.2.2.2.2.2.2.2.1 r.2.2.2.2.2.2.2.2.2.2.2.2.2.2.1 r.2.2.2.2.2.2.2.2.2.2.2.2.2.2.2.1 r.2.2.2.2.2.2.2.2.2.2.2.2.2.2.2.2.1 r.2.2.2.2.2.2.2.2.2.2.2.2.2.2.2.2.2.1) it gl pr st k3 k4 k5 k6 k7 k8 entry on1 on0 hs gl1 pr1 st1 m3 m4 m5 kd be tg fi inn cA cE co ∧ trI 1 r.2.2.2.2.2.2.2.2.2.2.1 r.2.2.2.2.2.2.2.2.2.2.2.2.2.2.1 r.2.2.2.2.2.2.2.2.2.2.2.2.2.2.2.1 r.2.2.2.2.2.2.2.2.2.2.2.2.2.2.2.2.1 r.2.2.2.2.2.2.2.2.2.2.2.2.2.2.2.2.2.1 q.2.2.2.2.2.1 q.2.2.2.2.2.2.2.2.2.2.1))) := by
  have hf0 : it = 0 → Wq (fX10_check_f ic ca it pr st lk e2 e3 entry k3 k8 on0 on1 k5 k6 k7 e13 e14 e15) (fun r : CkR => r.2.1 = -2 ∧ (r.1 = 0 ∧ r.2.2.1 = ic ∧ r.2.2.2.1 = ca)) := by
    intro z
    unfold fX10_check_f
    rw [if_pos z]
    exact Wq_tg (Wq_some ⟨rfl, rfl, rfl, rfl⟩)
  have hf1 : it = 1 → ¬ ic = 0 → Wq (fX10_check_f ic ca it pr st lk e2 e3 entry k3 k8 on0 on1 k5 k6 k7 e13 e14 e15) (fun r : CkR => r.2.1 = ca ∧ (r.1 = 0 ∧ r.2.2.1 = ic ∧ r.2.2.2.1 = ca)) := by
    intro z1 z2
    unfold fX10_check_f fX10_check_f_p33
    rw [if_neg (by rw [z1]; exact n10), if_neg z2]
    exact Wq_tg (Wq_some ⟨rfl, rfl, rfl, rfl⟩)
  have hf2 : it = 1 → ic = 0 → ∀ (G : Nat → Nat → Nat → Nat) (Y : Nat → Nat), okPg G → pr = nI (G 8 0 0) → st = nI (G 7 0 0) → cPg G (cRows entry k3 k8 on0 on1 k5 k7) k6 → isL (288 * G 7 0 0) (opA G allA) (fun _ => 536870912) Y → Wq (fX10_check_f ic ca it pr st lk e2 e3 entry k3 k8 on0 on1 k5 k6 k7 e13 e14 e15) (fun r : CkR => r.2.1 = ansI (ansN G Y) ∧ (r.2.2.1 = 1 ∧ r.2.2.2.1 = ansI (ansN G Y) ∧ ((r.1 = 1 ∧ trC G Y r.2.2.2.2.2.2.2.2.2.2.1 r.2.2.2.2.2.2.2.2.2.2.2.2.2.2.1 r.2.2.2.2.2.2.2.2.2.2.2.2.2.2.2.1 r.2.2.2.2.2.2.2.2.2.2.2.2.2.2.2.2.1 r.2.2.2.2.2.2.2.2.2.2.2.2.2.2.2.2.2.1) ∨ (r.1 = 0 ∧ 2000 < ansN G Y)))) := by
    intro z1 z2 G Y hG hp hs hC hY
    rw [z1, z2, hp, hs]
    obtain ⟨r, er, k1, k2, k3, k4⟩ := c_check_f hG hC hY ca lk e2 e3 e13 e14 e15
    exact ⟨r, er, k1, k2, k3, k4⟩
  obtain ⟨v, r, e, h1, q, eq, q1, q2, q3⟩ := pu_check h (Or.inl ⟨rfl, ht⟩) (fX10_check_f ic ca it pr st lk e2 e3 entry k3 k8 on0 on1 k5 k6 k7 e13 e14 e15) (fun r => r.1 = 0 ∧ r.2.2.1 = ic ∧ r.2.2.2.1 = ca) (fun G Y r => r.2.2.1 = 1 ∧ r.2.2.2.1 = ansI (ansN G Y) ∧ ((r.1 = 1 ∧ trC G Y r.2.2.2.2.2.2.2.2.2.2.1 r.2.2.2.2.2.2.2.2.2.2.2.2.2.2.1 r.2.2.2.2.2.2.2.2.2.2.2.2.2.2.2.1 r.2.2.2.2.2.2.2.2.2.2.2.2.2.2.2.2.1 r.2.2.2.2.2.2.2.2.2.2.2.2.2.2.2.2.2.1) ∨ (r.1 = 0 ∧ 2000 < ansN G Y))) hf0 hf1 hf2 th n1 n2 n3 z5 ce cf va c13 c14 c15
  refine ⟨v, r, e, h1, q, eq, q1, q2, ?_⟩
  rcases q3 with ⟨⟨k1, k2, k3⟩, k4⟩ | ⟨G, Y, ⟨k1, k2, k3⟩, k4, k5, k6, k7, k8, k9⟩
  · rw [k2, k3]
    exact Or.inl ⟨k1, h, k4.elim (fun z => z.2) (fun z => absurd z.1 (by decide))⟩
  · rcases k3 with ⟨k31, k32⟩ | ⟨k31, k32⟩
    · obtain ⟨n1, n2⟩ := ck_new k4 k5 k6 k2 k8 (Or.inr ⟨rfl, k32⟩)
      rw [← k1] at n1
      exact Or.inr ⟨k31, relPg_mono (k9 _ n1) (fun z => z.elim) (fun _ z => z), n2⟩
    · obtain ⟨n1, n2⟩ := ck_new (tv := 0) (lg := 0) (e4 := fun _ => 0) (e5 := fun _ => 0) (e6 := fun _ => 0) (e7 := fun _ => 0) k4 k5 k6 k2 k8 (Or.inl ⟨rfl, k32⟩)
      rw [← k1] at n1
      exact Or.inl ⟨k31, relPg_mono (k9 _ n1) (fun z => z.elim) (fun _ z => z), n2.elim (fun z => z.2) (fun z => absurd z.1 (by decide))⟩
