/-! ===== pure rows 51: failCost (reference) ===== -/
theorem r_failCost {G : Nat → Nat → Nat → Nat} {M : Nat → Nat → Int32} (h : okPg G) (hm : mPg G M) {s g l : Nat} (hs : s < G 7 0 0) (hg : g < 8) (hl : l < 4) {x : Nat → Nat} (hx : ∀ j, j < 288 * G 7 0 0 → vl (x j)) {c cf va : Nat → Int32} (hc : tmE (G 7 0 0) x c) (hcf : tmF (G 7 0 0) x cf) (n1 n2 n3 : Int32) :
    Wq (fX11_failCost (nI g) (nI s) (nI l) n1 n2 n3 (M 0) (M 1) cf (M 2) (M 3) c (M 5) (M 6) (M 7) va (M 4)) (fun r => r.1 = mI (der G x s (g + 8 * l) 8)) := by
  obtain ⟨fu, hfu, hgu⟩ := fu_any
  have hS := h.1
  have hP := h.2.2.1
  obtain ⟨k0, k1, k2, k3, k4, k5⟩ := h.2.2.2.2 s hs
  obtain ⟨c0, c1, c1a, c1b, cA, cI, cC, c4, c5, c6, c7, cX⟩ := hm.2 s hs
  have hst : g + 8 * l < 32 := by omega
  have bs := inb_nI (j := s) (n := 40) (by omega) (by decide)
  have ks := nI_clamp (n := s) (by omega)
  have zk : ∀ z : Nat, z < 100 → (nI (G 0 s 0) = nI z ↔ G 0 s 0 = z) := fun z hz => nI_eq (by omega) (by omega)
  have z6 : nI (G 0 s 0) = 6 ↔ G 0 s 0 = 6 := zk 6 (by decide)
  have z7 : nI (G 0 s 0) = 7 ↔ G 0 s 0 = 7 := zk 7 (by decide)
  have z3 : nI (G 0 s 0) = 3 ↔ G 0 s 0 = 3 := zk 3 (by decide)
  have z4 : nI (G 0 s 0) = 4 ↔ G 0 s 0 = 4 := zk 4 (by decide)
  have zl3 : nI (G 0 s 0) ≤ 3 ↔ G 0 s 0 ≤ 3 := nI_leI (a := G 0 s 0) (b := 3) (by omega) (by decide)
  unfold fX11_failCost
  rw [bd_eq _ bs, nm_q, ks, c0, hfu]
  by_cases h6 : G 0 s 0 = 6
  · have h3 : ¬ G 0 s 0 = 3 := by omega
    obtain ⟨w1, w2⟩ := c6 h6
    have esa : sa G s 1 (g + 8 * l) = g + 8 * l := by unfold sa; rw [if_neg (by omega)]
    have e : der G x s (g + 8 * l) 8 = 536870912 := by
      rw [der_step h hx hs hst (by omega) h3]
      unfold fV
      rw [(w2 _).1, (w2 _).2, if_neg (by decide), if_pos rfl, w1, esa, tgt_40, if_neg (by omega)]
      decide
    rw [if_pos (z6.mpr h6), e]
    exact Wq_some mI_inf.symm
  · rw [if_neg (fun z => h6 (z6.mp z)), bd_eq _ bs, nm_q]
    by_cases h7 : G 0 s 0 = 7
    · have h3 : ¬ G 0 s 0 = 3 := by omega
      obtain ⟨w1, w2⟩ := c7 h7
      have esa : sa G s 1 (g + 8 * l) = g + 8 * l := by unfold sa; rw [if_neg (by omega)]
      have hvt := tgt_vl hx c1b hst (show 8 < 9 by omega)
      have e : der G x s (g + 8 * l) 8 = sm 1 (tgt x (G 9 s 0) (g + 8 * l) 8) := by
        rw [der_step h hx hs hst (by omega) h3]
        unfold fV
        rw [(w2 _).1, (w2 _).2, if_neg (by decide), if_pos rfl, w1, esa, Nat.min_eq_right (vl_lt hvt)]
      have rs := r_sum vl1 hvt
      rw [mI1] at rs
      rw [if_pos (z7.mpr h7), bd_eq _ bs, nm_q, c1, r_toFail hS hcf hg hl c1a c1b, ob_s, rs, ob_s, e]
      exact Wq_some rfl
    · rw [if_neg (fun z => h7 (z7.mp z)), bd_eq _ bs, nm_q]
      by_cases h3 : G 0 s 0 = 3
      · obtain ⟨w1, w2⟩ := cC h3
        have hcl := k2 h3
        have bc := inb_nI (j := G 2 s 0) (n := 6) (by omega) (by decide)
        have kc := nI_clamp (n := G 2 s 0) (by omega)
        have he := en_ok h hs h3
        have he40 : G 5 (G 2 s 0) 0 ≤ 40 := by rcases h.2.2.2.1 _ hcl with q | q <;> omega
        have qf := r_toFail hS hcf hg (show 0 < 4 by decide) he40 he
        rw [show g + 8 * 0 = (g + 8 * l) % 8 by omega] at qf
        have qf' : fX11_toFail (nI g) (pM (G 5 (G 2 s 0) 0)) 0 cf = _ := qf
        have vf := tgt_vl hx he (show (g + 8 * l) % 8 < 32 by omega) (show 8 < 9 by omega)
        rw [if_pos (z3.mpr h3), der_call h3, if_pos rfl, bd_eq _ bs, nm_q, w1, bd_eq _ bc, nm_q, kc, hm.1 _ hcl, qf', ob_s]
        generalize hF : tgt x (G 5 (G 2 s 0) 0) ((g + 8 * l) % 8) 8 = F at *
        have key : ∀ (k i n : Nat), i + k = 8 → k < n → Wq (fX11_failCost_l74 (M 0) (M 1) cf (M 2) (M 3) c (M 5) (M 6) (M 7) (M 4) n (nI g) (nI s) (nI l) (mI (min F (minN (fun m => sm (tgt x (G 5 (G 2 s 0) 0) ((g + 8 * l) % 8) m) (tgt x (G 4 s 1) (m + 8 * ((g + 8 * l) / 8)) 8)) i))) (nI i) n1 n2 n3 va) (fun r => r.1 = mI (sm 1 (min F (minN (fun m => sm (tgt x (G 5 (G 2 s 0) 0) ((g + 8 * l) % 8) m) (tgt x (G 4 s 1) (m + 8 * ((g + 8 * l) / 8)) 8)) 8)))) := by
          intro k
          induction k with
          | zero =>
            intro i n g1 g2
            obtain ⟨n, rfl⟩ : ∃ z, n = z + 1 := ⟨n - 1, by omega⟩
            show Wq (fX11_failCost_b74 (M 0) (M 1) cf (M 2) (M 3) c (M 5) (M 6) (M 7) (M 4) _ (nI g) (nI s) (nI l) _ (nI i) n1 n2 n3 va) _
            unfold fX11_failCost_b74
            have h8 : (8 : Int32) ≤ nI i := nI_le (a := 8) (b := i) (by omega) (by omega)
            have ei : i = 8 := by omega
            subst ei
            have hvm : vl (min F (minN (fun m => sm (tgt x (G 5 (G 2 s 0) 0) ((g + 8 * l) % 8) m) (tgt x (G 4 s 1) (m + 8 * ((g + 8 * l) / 8)) 8)) 8)) := vl_min vf (minN_vl (fun _ => sm_vl) 8)
            have rs := r_sum vl1 hvm
            rw [mI1] at rs
            rw [if_pos h8, rs, ob_s]
            exact Wq_some rfl
          | succ k ih =>
            intro i n g1 g2
            obtain ⟨n, rfl⟩ : ∃ z, n = z + 1 := ⟨n - 1, by omega⟩
            have h8 : ¬ (8 : Int32) ≤ nI i := nI_ge (a := i) (b := 8) (by omega) (by omega)
            have hvm : vl (min F (minN (fun m => sm (tgt x (G 5 (G 2 s 0) 0) ((g + 8 * l) % 8) m) (tgt x (G 4 s 1) (m + 8 * ((g + 8 * l) / 8)) 8)) i)) := vl_min vf (minN_vl (fun _ => sm_vl) i)
            have rm := r_min hvm (sm_vl (a := tgt x (G 5 (G 2 s 0) 0) ((g + 8 * l) % 8) i) (b := tgt x (G 4 s 1) (i + 8 * ((g + 8 * l) / 8)) 8))
            have e := ih (i + 1) n (by omega) (by omega)
            rw [minN_s, ← min_comm3, ← rm] at e
            have q1 := r_toEnd hS hc hg (show 0 < 4 by decide) (show i < 8 by omega) he40 he
            have q2 := r_toFail hS hcf (show i < 8 by omega) hl c1a c1b
            rw [show g + 8 * 0 = (g + 8 * l) % 8 by omega] at q1
            rw [show i + 8 * l = i + 8 * ((g + 8 * l) / 8) by omega, ← w2] at q2
            have v1 := tgt_vl hx he (show (g + 8 * l) % 8 < 32 by omega) (show i < 9 by omega)
            have v2 := tgt_vl (p := G 4 s 1) (st := i + 8 * ((g + 8 * l) / 8)) hx (by rw [w2]; exact c1b) (by omega) (show 8 < 9 by omega)
            show Wq (fX11_failCost_b74 (M 0) (M 1) cf (M 2) (M 3) c (M 5) (M 6) (M 7) (M 4) (fX11_failCost_l74 (M 0) (M 1) cf (M 2) (M 3) c (M 5) (M 6) (M 7) (M 4) n) (nI g) (nI s) (nI l) _ (nI i) n1 n2 n3 va) _
            unfold fX11_failCost_b74 fX11_failCost_p132
            rw [if_neg h8, bd_eq _ bs, nm_q, ks, w1, bd_eq _ bc, nm_q, kc, hm.1 _ hcl]
            have q1' : fX11_toEnd (nI g) (pM (G 5 (G 2 s 0) 0)) 0 (nI i) c = _ := q1
            rw [q1', ob_s, bd_eq _ bs, nm_q, c1, ← w2, q2, ob_s, r_sum v1 v2, ob_s]
            by_cases hcmp : mI (min F (minN (fun m => sm (tgt x (G 5 (G 2 s 0) 0) ((g + 8 * l) % 8) m) (tgt x (G 4 s 1) (m + 8 * ((g + 8 * l) / 8)) 8)) i)) ≤ mI (sm (tgt x (G 5 (G 2 s 0) 0) ((g + 8 * l) % 8) i) (tgt x (G 4 s 1) (i + 8 * ((g + 8 * l) / 8)) 8))
            · rw [if_pos hcmp] at e ⊢
              rw [nm_q, nI_1]; exact e
            · rw [if_neg hcmp] at e ⊢
              rw [nm_q, nI_1]; exact e
        have k0' := key 8 0 fu (by omega) (by omega)
        have e5 : min F (minN (fun m => sm (tgt x (G 5 (G 2 s 0) 0) ((g + 8 * l) % 8) m) (tgt x (G 4 s 1) (m + 8 * ((g + 8 * l) / 8)) 8)) 0) = F := Nat.min_eq_left (vl_lt vf)
        rw [e5] at k0'
        exact k0'
      · have hkc : G 0 s 0 < 3 ∨ G 0 s 0 = 4 ∨ G 0 s 0 = 5 := by omega
        rw [if_neg (fun z => h3 (z3.mp z)), der_step h hx hs hst (by omega) h3]
        obtain ⟨va2, hcan⟩ := cX hkc g l va hg hl
        rw [hcan, ob_s, bd_eq _ bs, nm_q]
        have hf0 := fV_vl h hx hs hst (show 8 < 9 by omega) (v := 0) (by decide)
        have hf1 := fV_vl h hx hs hst (show 8 < 9 by omega) (v := 1) (by decide)
        have stop : ∀ (n : Nat) (b : Nat) (m1 m2 m3 : Int32), 0 < n → vl b → Wq (fX11_failCost_l197 (M 0) (M 1) cf (M 2) (M 3) c (M 5) (M 6) (M 7) (M 4) n (nI g) (nI s) (nI l) (nI (canN G s (g + 8 * l))) (mI b) 2 m1 m2 m3 va2) (fun r => r.1 = mI (sm 1 b)) := by
          intro n b m1 m2 m3 hn hb
          obtain ⟨n, rfl⟩ : ∃ z, n = z + 1 := ⟨n - 1, by omega⟩
          show Wq (fX11_failCost_b197 (M 0) (M 1) cf (M 2) (M 3) c (M 5) (M 6) (M 7) (M 4) _ (nI g) (nI s) (nI l) (nI (canN G s (g + 8 * l))) (mI b) 2 m1 m2 m3 va2) _
          unfold fX11_failCost_b197
          have rs := r_sum vl1 hb
          rw [mI1] at rs
          rw [if_pos (by decide), rs, ob_s]
          exact Wq_some rfl
        have one : ∀ (v n b : Nat) (m1 m2 m3 : Int32) (P : Int32 × Int32 × Int32 × Int32 × (Nat → Int32) → Prop), v < 2 → 0 < n → vl b → (G 0 s 0 < 3 ∨ v = 1) → (∀ (m1 m2 m3 : Int32), Wq (fX11_failCost_l197 (M 0) (M 1) cf (M 2) (M 3) c (M 5) (M 6) (M 7) (M 4) (n - 1) (nI g) (nI s) (nI l) (nI (canN G s (g + 8 * l))) (mI (min b (fV G x s (g + 8 * l) 8 v))) (nI (v + 1)) m1 m2 m3 va2) P) → Wq (fX11_failCost_l197 (M 0) (M 1) cf (M 2) (M 3) c (M 5) (M 6) (M 7) (M 4) n (nI g) (nI s) (nI l) (nI (canN G s (g + 8 * l))) (mI b) (nI v) m1 m2 m3 va2) P := by
          intro v n b m1 m2 m3 P hv hn hb hkv hk
          obtain ⟨n, rfl⟩ : ∃ z, n = z + 1 := ⟨n - 1, by omega⟩
          rw [show n + 1 - 1 = n by omega] at hk
          show Wq (fX11_failCost_b197 (M 0) (M 1) cf (M 2) (M 3) c (M 5) (M 6) (M 7) (M 4) (fX11_failCost_l197 (M 0) (M 1) cf (M 2) (M 3) c (M 5) (M 6) (M 7) (M 4) n) (nI g) (nI s) (nI l) (nI (canN G s (g + 8 * l))) (mI b) (nI v) m1 m2 m3 va2) P
          unfold fX11_failCost_b197 fX11_failCost_p255 fX11_failCost_p257
          have h2 : ¬ (2 : Int32) ≤ nI v := nI_ge (a := v) (b := 2) hv (by decide)
          rw [if_neg h2, nm_q, nm_q, can_b hv]
          by_cases hcn : cn G s v (g + 8 * l) = true
          · rw [if_pos hcn, if_pos rfl]
            obtain ⟨g2, l2, a1, a2, a3, a4, a5⟩ := r_go h hm hs hg hl hv (by omega) m1 m2 m3
            have hfv : fV G x s (g + 8 * l) 8 v = tgt x (G 4 s v) (g2 + 8 * l2) 8 := by unfold fV; rw [if_pos hcn, a3]
            have hp := fun q => ((k5 v hv).2.1 q).1
            have rm := r_min hb (tgt_vl (p := G 4 s v) (st := g2 + 8 * l2) (col := 8) hx hp (by omega) (by omega))
            rw [a5, ob_s, r_toFail hS hcf a1 a2 a4 hp, ob_s]
            rw [hfv, ← rm] at hk
            by_cases hcmp : mI b ≤ mI (tgt x (G 4 s v) (g2 + 8 * l2) 8)
            · rw [if_pos hcmp] at hk ⊢
              rw [nm_q, nI_1]; exact hk _ _ _
            · rw [if_neg hcmp] at hk ⊢
              rw [nm_q, nI_1]; exact hk _ _ _
          · have hfv : fV G x s (g + 8 * l) 8 v = 536870912 := by unfold fV; rw [if_neg hcn]
            rw [if_neg hcn, if_neg (by decide), nm_q, nI_1]
            rw [hfv, Nat.min_eq_left (vl_lt hb)] at hk
            exact hk _ _ _
        have e5 : (2000000 : Int32) = mI 536870912 := mI_inf.symm
        -- both values, or the second alone
        have both : fV G x s (g + 8 * l) 8 0 = 536870912 ∨ G 0 s 0 < 3 → Wq (fX11_failCost_p176 (M 0) (M 1) cf (M 2) (M 3) c (M 5) (M 6) (M 7) (M 4) (nI g) (nI s) (nI l) (nI (canN G s (g + 8 * l))) n1 n2 n3 va2) (fun r => r.1 = mI (sm 1 (min (fV G x s (g + 8 * l) 8 0) (fV G x s (g + 8 * l) 8 1)))) := by
          intro hz
          unfold fX11_failCost_p176 fX11_failCost_p195
          rw [bd_eq _ bs, nm_q, ks, c0, hfu]
          by_cases hle : G 0 s 0 ≤ 3
          · rw [if_pos (zl3.mpr hle), e5]
            refine one 0 fu 536870912 n1 n2 n3 _ (by decide) (by omega) (Or.inr rfl) (Or.inl (by omega)) (fun m1 m2 m3 => ?_)
            rw [Nat.min_eq_right (vl_lt hf0)]
            refine one 1 (fu - 1) _ m1 m2 m3 _ (by decide) (by omega) hf0 (Or.inr rfl) (fun m1 m2 m3 => ?_)
            exact stop _ _ m1 m2 m3 (by omega) (vl_min hf0 hf1)
          · rw [if_neg (fun z => hle (zl3.mp z)), e5]
            have hz0 : fV G x s (g + 8 * l) 8 0 = 536870912 := by
              rcases hz with q | q
              · exact q
              · omega
            refine one 1 fu 536870912 n1 n2 n3 _ (by decide) (by omega) (Or.inr rfl) (Or.inr rfl) (fun m1 m2 m3 => ?_)
            rw [hz0]
            exact stop _ _ m1 m2 m3 (by omega) (vl_min (Or.inr rfl) hf1)
        by_cases h4 : G 0 s 0 = 4
        · have hand : (nI (canN G s (g + 8 * l)) &&& 1) = if cn G s 0 (g + 8 * l) then 1 else 0 := by unfold canN; exact can_b0 _ _
          rw [if_pos (z4.mpr h4), nm_q, hand]
          by_cases hcn : cn G s 0 (g + 8 * l) = true
          · rw [if_pos hcn, if_pos rfl]
            have hz : fV G x s (g + 8 * l) 8 0 = 0 := by unfold fV; rw [if_pos hcn, (c4 h4).2, tgt_41, if_pos rfl]
            rw [hz, Nat.min_eq_left (Nat.zero_le _)]
            exact Wq_some mI1.symm
          · rw [if_neg hcn, if_neg (by decide)]
            exact both (Or.inl (by unfold fV; rw [if_neg hcn]))
        · rw [if_neg (fun z => h4 (z4.mp z))]
          refine both ?_
          by_cases h5 : G 0 s 0 = 5
          · left
            unfold fV
            by_cases q : cn G s 0 (g + 8 * l) = true
            · rw [if_pos q, (c5 h5).2, tgt_42]
            · rw [if_neg q]
          · right; omega
