/-! ===== pure rows 112: check and trace, where the trace is there ===== -/
theorem pu_check_x {ic ca lg : Int32} {e18 e19 e20 e21 : Nat → Int32} {it gl pr st : Int32} {k3 k4 k5 : Nat → Int32} {k6 : Nat → Int64} {k7 k8 entry on1 on0 : Nat → Int32} {hs gl1 pr1 st1 : Int32} {m3 m4 m5 kd be tg fi inn cA cE co : Nat → Int32} (h : relPg (ic = 0) (ckI ic ca 1 lg e18 e19 e20 e21) it gl pr st k3 k4 k5 k6 k7 k8 entry on1 on0 hs gl1 pr1 st1 m3 m4 m5 kd be tg fi inn cA cE co) {tl : Int32} {c12 : Nat → Int32} (ht : trI 1 lg e18 e19 e20 e21 tl c12) (lk op pt se : Int32) (e2 e3 e13 e14 e15 e17 e22 e23 : Nat → Int32) (th n1 n2 n3 z5 : Int32) (ce cf va c13 c14 c15 : Nat → Int32) :
    ∃ (v : Int32) (r : CkR), fX10_check_x ic ca it pr st lk e2 e3 entry k3 k8 on0 on1 k5 k6 k7 e13 e14 e15 lg op pt se e17 e18 e19 e20 e21 e22 e23 = some r ∧ r.2.1 = v ∧ r.1 = 0 ∧ Wq (fX11_check th hs st1 n1 n2 n3 tl z5 ce cf kd be tg fi cA cE co va inn c12 c13 c14 c15) (fun q => q.1 = v ∧ q.2.1 = 0 ∧ relPg (r.2.2.1 = 0) (ckI r.2.2.1 r.2.2.2.1 1 r.2.2.2.2.2.2.2.2.2.2.1 r.2.2.2.2.2.2.2.2.2.2.2.2.2.2.2.1 r.2.2.2.2.2.2.2.2.2.2.2.2.2.2.2.2.1 r.2.2.2.2.2.2.2.2.2.2.2.2.2.2.2.2.2.1 r.2.2.2.2.2.2.2.2.2.2.2.2.2.2.2.2.2.2.1) it gl pr st k3 k4 k5 k6 k7 k8 entry on1 on0 hs gl1 pr1 st1 m3 m4 m5 kd be tg fi inn cA cE co ∧ trI 1 r.2.2.2.2.2.2.2.2.2.2.1 r.2.2.2.2.2.2.2.2.2.2.2.2.2.2.2.1 r.2.2.2.2.2.2.2.2.2.2.2.2.2.2.2.2.1 r.2.2.2.2.2.2.2.2.2.2.2.2.2.2.2.2.2.1 r.2.2.2.2.2.2.2.2.2.2.2.2.2.2.2.2.2.2.1 q.2.2.2.2.2.1 q.2.2.2.2.2.2.2.2.2.2.1) := by
  have hf0 : it = 0 → Wq (fX10_check_x ic ca it pr st lk e2 e3 entry k3 k8 on0 on1 k5 k6 k7 e13 e14 e15 lg op pt se e17 e18 e19 e20 e21 e22 e23) (fun r : CkR => r.2.1 = -2 ∧ (r.1 = 0 ∧ r.2.2.1 = ic ∧ r.2.2.2.1 = ca ∧ r.2.2.2.2.2.2.2.2.2.2.1 = lg ∧ r.2.2.2.2.2.2.2.2.2.2.2.2.2.2.2.1 = e18 ∧ r.2.2.2.2.2.2.2.2.2.2.2.2.2.2.2.2.1 = e19 ∧ r.2.2.2.2.2.2.2.2.2.2.2.2.2.2.2.2.2.1 = e20 ∧ r.2.2.2.2.2.2.2.2.2.2.2.2.2.2.2.2.2.2.1 = e21)) := by
    intro z
    unfold fX10_check_x
    rw [if_pos z]
    exact Wq_tg (Wq_some ⟨rfl, rfl, rfl, rfl, rfl, rfl, rfl, rfl, rfl⟩)
  have hf1 : it = 1 → ¬ ic = 0 → Wq (fX10_check_x ic ca it pr st lk e2 e3 entry k3 k8 on0 on1 k5 k6 k7 e13 e14 e15 lg op pt se e17 e18 e19 e20 e21 e22 e23) (fun r : CkR => r.2.1 = ca ∧ (r.1 = 0 ∧ r.2.2.1 = ic ∧ r.2.2.2.1 = ca ∧ r.2.2.2.2.2.2.2.2.2.2.1 = lg ∧ r.2.2.2.2.2.2.2.2.2.2.2.2.2.2.2.1 = e18 ∧ r.2.2.2.2.2.2.2.2.2.2.2.2.2.2.2.2.1 = e19 ∧ r.2.2.2.2.2.2.2.2.2.2.2.2.2.2.2.2.2.1 = e20 ∧ r.2.2.2.2.2.2.2.2.2.2.2.2.2.2.2.2.2.2.1 = e21)) := by
    intro z1 z2
    unfold fX10_check_x fX10_check_x_p33
    rw [if_neg (by rw [z1]; exact n10), if_neg z2]
    exact Wq_tg (Wq_some ⟨rfl, rfl, rfl, rfl, rfl, rfl, rfl, rfl, rfl⟩)
  have hf2 : it = 1 → ic = 0 → ∀ (G : Nat → Nat → Nat → Nat) (Y : Nat → Nat), okPg G → pr = nI (G 8 0 0) → st = nI (G 7 0 0) → cPg G (cRows entry k3 k8 on0 on1 k5 k7) k6 → isL (288 * G 7 0 0) (opA G allA) (fun _ => 536870912) Y → Wq (fX10_check_x ic ca it pr st lk e2 e3 entry k3 k8 on0 on1 k5 k6 k7 e13 e14 e15 lg op pt se e17 e18 e19 e20 e21 e22 e23) (fun r : CkR => r.2.1 = ansI (ansN G Y) ∧ (r.1 = 0 ∧ r.2.2.1 = 1 ∧ r.2.2.2.1 = ansI (ansN G Y) ∧ trC G Y r.2.2.2.2.2.2.2.2.2.2.1 r.2.2.2.2.2.2.2.2.2.2.2.2.2.2.2.1 r.2.2.2.2.2.2.2.2.2.2.2.2.2.2.2.2.1 r.2.2.2.2.2.2.2.2.2.2.2.2.2.2.2.2.2.1 r.2.2.2.2.2.2.2.2.2.2.2.2.2.2.2.2.2.2.1)) := by
    intro z1 z2 G Y hG hp hs hC hY
    rw [z1, z2, hp, hs]
    obtain ⟨r, er, k0, k1, k2, k3, k4⟩ := c_check_x hG hC hY ca lk lg op pt se e2 e3 e13 e14 e15 e17 e18 e19 e20 e21 e22 e23
    exact ⟨r, er, k1, k0, k2, k3, k4⟩
  obtain ⟨v, r, e, h1, q, eq, q1, q2, q3⟩ := pu_check h ht (fX10_check_x ic ca it pr st lk e2 e3 entry k3 k8 on0 on1 k5 k6 k7 e13 e14 e15 lg op pt se e17 e18 e19 e20 e21 e22 e23) (fun r => r.1 = 0 ∧ r.2.2.1 = ic ∧ r.2.2.2.1 = ca ∧ r.2.2.2.2.2.2.2.2.2.2.1 = lg ∧ r.2.2.2.2.2.2.2.2.2.2.2.2.2.2.2.1 = e18 ∧ r.2.2.2.2.2.2.2.2.2.2.2.2.2.2.2.2.1 = e19 ∧ r.2.2.2.2.2.2.2.2.2.2.2.2.2.2.2.2.2.1 = e20 ∧ r.2.2.2.2.2.2.2.2.2.2.2.2.2.2.2.2.2.2.1 = e21) (fun G Y r => r.1 = 0 ∧ r.2.2.1 = 1 ∧ r.2.2.2.1 = ansI (ansN G Y) ∧ trC G Y r.2.2.2.2.2.2.2.2.2.2.1 r.2.2.2.2.2.2.2.2.2.2.2.2.2.2.2.1 r.2.2.2.2.2.2.2.2.2.2.2.2.2.2.2.2.1 r.2.2.2.2.2.2.2.2.2.2.2.2.2.2.2.2.2.1 r.2.2.2.2.2.2.2.2.2.2.2.2.2.2.2.2.2.2.1) hf0 hf1 hf2 th n1 n2 n3 z5 ce cf va c13 c14 c15
  rcases q3 with ⟨⟨k1, k2, k3, k4, k5, k6, k7, k8⟩, k9⟩ | ⟨G, Y, ⟨k0, k1, k2, k3⟩, k4, k5, k6, k7, k8, k9⟩
  · refine ⟨v, r, e, h1, k1, q, eq, q1, q2, ?_⟩
    rw [k2, k3, k4, k5, k6, k7, k8]
    exact ⟨h, k9⟩
  · obtain ⟨n1, n2⟩ := ck_new k4 k5 k6 k2 k8 (Or.inr ⟨rfl, k3⟩)
    rw [← k1] at n1
    exact ⟨v, r, e, h1, k0, q, eq, q1, q2, relPg_mono (k9 _ n1) (fun z => z.elim) (fun _ z => z), n2⟩
theorem pu_trace_f (k w th : Int32) {tl : Int32} (ht : tl = 0) (t : Nat → Int32) : ∃ v, fX10_trace_f k w = some (0, v, ()) ∧ fX11_trace k w th tl t = some (v, 0) := by
  rw [ht]
  exact t_f k w th t
theorem pu_trace_x {lg tl : Int32} {e18 e19 e20 e21 t : Nat → Int32} (h : trI 1 lg e18 e19 e20 e21 tl t) (k w th : Int32) : ∃ v, fX10_trace_x k w lg e21 e20 e19 e18 = some (0, v, ()) ∧ fX11_trace k w th tl t = some (v, 0) := by
  rcases h with ⟨h1, -⟩ | ⟨-, h2⟩
  · exact absurd h1 (by decide)
  · exact t_x h2 k w th
