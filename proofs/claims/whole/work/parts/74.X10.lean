abbrev wX10_arc (h0 h1 h2 : Nat) (kc2 : ClassId) (V0 : Nat → Value) (V1 : Nat → Value) (v1_systemChanges : Int32) (v1_arcs : Int32) (c2 : Nat → Int32) : va_W := [(h0, .inr (10, [.ref h1, V0 1, V0 2, V0 3, V0 4, V0 5, V0 6, V0 7, V0 8, V0 9, V0 10, V0 11])), (h1, .inr (6, [V1 0, V1 1, V1 2, V1 3, V1 4, V1 5, V1 6, .ref h2, V1 8, V1 9, V1 10, .int v1_systemChanges, V1 12, .int v1_arcs])), (h2, .inl (kc2, 192, .inl c2))]
set_option maxHeartbeats 4000000 in
set_option maxRecDepth 100000 in
theorem mX10_arc (l : Launch) (dC : Nat → ClassId) (dI : Nat → Nat → Nat) (h0 h1 h2 : Nat) (kc2 : ClassId) (sz : Nat) (base : Nat × Nat × Nat) (a0 : Int32) (a1 : Int32) (a2 : Int32) (v1_systemChanges : Int32) (v1_arcs : Int32) (c2 : Nat → Int32) (V0 : Nat → Value) (V1 : Nat → Value) (o : Int32 × Int32 × Int32 × (Nat → Int32)) (hf : fX10_arc a0 a1 a2 v1_systemChanges v1_arcs c2 = some o) : Met l yX10_arc (.code yX10_arc cX10_arc 4 (some .int) :: wsL_law) ({ frames := 1, cells := 0, slots := 0, locals := 24 }) (cPre (dC, dI) vwCl [.ref h0, .int a0, .int a1, .int a2] sz base (wX10_arc h0 h1 h2 kc2 V0 V1 v1_systemChanges v1_arcs c2) [(kc2, .int)]) (va_Qi (fun r u => r = o.1 ∧ u = o.2) (fun (u : Int32 × Int32 × (Nat → Int32)) t => cPost (dC, dI) vwCl (va_A (wX10_arc h0 h1 h2 kc2 V0 V1 v1_systemChanges v1_arcs c2) sz) (wX10_arc h0 h1 h2 kc2 V0 V1 u.1 u.2.1 u.2.2) [(kc2, .int)] t) (va_A (wX10_arc h0 h1 h2 kc2 V0 V1 v1_systemChanges v1_arcs c2) sz)) 0 0 (va_A (wX10_arc h0 h1 h2 kc2 V0 V1 v1_systemChanges v1_arcs c2) sz) := by
  refine Met.ofW (cc := cX10_arc) (maxL := 4) (ret := (some .int)) (by decide) rfl ?_
  intro p e s m args below meth c s₁ B hml hv
  obtain ⟨rfl, hsz, hP, hK, hD0, hE⟩ := hv
  have hx := B.exec
  have hb := B.bytes
  have hr := B.returns
  have hts : ∀ w ∈ wsL_law, _ := fun w h => atoms_spec (ws := .code yX10_arc cX10_arc 4 (some .int) :: wsL_law) B.pre w (List.mem_cons_of_mem _ h)
  have hown : s.vm.findClass RX10 = some m.cls := findClass_of_methodNamed B.named
  have hlocks := B.notSynchronized
  have w0_ := hts _ q16
  subst hsz
  have hD := hD0.self (sz := s.heap.size)
  generalize hAe : va_A (wX10_arc h0 h1 h2 kc2 V0 V1 v1_systemChanges v1_arcs c2) s.heap.size = A at hD ⊢
  have hA : ∀ q : Nat, s.heap.size ≤ q → A q := fun q h => by rw [← hAe]; exact Or.inr h
  have hAB : ∀ q : Nat, A q → base.1 ≤ q := fun q h => by rw [← hAe] at h; exact h.elim (fun ⟨k, e, hk⟩ => hD0.2 k _ hk) (fun hk => Nat.le_trans hE.1 hk)
  have hS : va_S A s.heap s.heap [] := va_S.rf
  have hl := lv_entry ([.ref h0, .int a0, .int a1, .int a2]) (n := 4) (Nat.le_of_ble_eq_true rfl)
  rw [lg_entry_eq]
  generalize (lg_sl ([.ref h0, .int a0, .int a1, .int a2]) ++ List.replicate (4 - (lg_sl ([.ref h0, .int a0, .int a1, .int a2])).length) Slot.unset).toArray = ls at hl ⊢
  have hl : lv_has ls 4 [(0, .ref h0), (1, .int a0), (2, .int a1), (3, .int a2)] := hl
  have hP : va_P (dC, dI) vwCl (wX10_arc h0 h1 h2 kc2 V0 V1 v1_systemChanges v1_arcs c2) s.heap := hP
  refine gl_intro (fun G hG => ?_)
  have J27 : ∀ (v1_systemChanges : Int32) (v1_arcs : Int32) (c2 : (Nat → Int32)) (H : Heap) (locs : List Loc) (ls : Array Slot), va_P (dC, dI) vwCl (wX10_arc h0 h1 h2 kc2 V0 V1 v1_systemChanges v1_arcs c2) H → va_D A (wX10_arc h0 h1 h2 kc2 V0 V1 v1_systemChanges v1_arcs c2) → va_S A s.heap H locs → lv_has ls 4 [(0, .ref h0)] → fX10_arc_p27   v1_systemChanges v1_arcs c2 = some o → G 0 0 H locs (F0 m 27 ls []) := by
    intro  v1_systemChanges v1_arcs c2 H locs ls hP hD hS hl hf
    refine (hG _ _ _ _ _).mpr ?_
    unfold fX10_arc_p27 at hf
    refine lv_bipush (v := (-2)) hx hb dX10_arc_27 (by decide +kernel) ?_
    have hf1 := Option.some.inj hf
    subst hf1
    have hP9 := hP.sub (ws' := (wX10_arc h0 h1 h2 kc2 V0 V1 v1_systemChanges v1_arcs c2)) [0, 1, 2] rfl
    have hD9 := hD.sub (ws' := (wX10_arc h0 h1 h2 kc2 V0 V1 v1_systemChanges v1_arcs c2)) [0, 1, 2] (by decide) rfl
    exact W.iret (v := (-2)) hx hb hr (fun t ht hW => ⟨⟨(-2), (v1_systemChanges, v1_arcs, c2), rfl, ⟨rfl, rfl⟩, by rw [ht]; exact hP9, va_K.moved hW.alike hK, hD9⟩, hS.F ht⟩) hS.2.2 dX10_arc_29
  refine (hG _ _ _ _ _).mpr ?_
  obtain ⟨H, hH⟩ : ∃ H, H = s.heap := ⟨_, rfl⟩
  have hS : va_S A s.heap H [] := by rw [hH]; exact hS
  rw [← hH] at hP ⊢
  generalize ([] : List Loc) = locs at hS ⊢
  unfold fX10_arc at hf
  refine lv_iload_n hx hb dX10_arc_0 rfl (lv_at hl 1 rfl) ?_
  obtain ⟨o1, e1, hf⟩ := ob_some hf
  refine kSi (As := [.int a0]) (rest := []) ⟨hx, hb, hml, hown, hts⟩ (mX10_isNode l dC dI H.size base a0 o1 e1) (va_cwS 1 hts (gTS q160 q161 q2 q162) rfl rfl rfl (by decide +kernel) ⟨Nat.le_of_ble_eq_true rfl, Nat.le_of_ble_eq_true rfl⟩) hK hP hD hS hA hE hAB [] [0, 1, 2] [] (wr := (wX10_arc h0 h1 h2 kc2 V0 V1 v1_systemChanges v1_arcs c2)) rfl rfl (by decide) (by decide) (by decide) rfl rfl hl.1 rfl (Nat.le_of_ble_eq_true rfl) dX10_arc_1 ⟨Nat.zero_le _, Nat.zero_le _⟩ (fun r1 u1 H locs hw1 hP hD hS => ?_)
  obtain ⟨hw11, hw12⟩ := hw1
  subst hw11 hw12
  have hP : va_P (dC, dI) vwCl (wX10_arc h0 h1 h2 kc2 V0 V1 v1_systemChanges v1_arcs c2) H := hP.sub [0, 1, 2] rfl
  have hD : va_D A (wX10_arc h0 h1 h2 kc2 V0 V1 v1_systemChanges v1_arcs c2) := hD.sub [0, 1, 2] (by decide) rfl
  refine lv_if_eq (tgt := 27) hx hb dX10_arc_4 (by decide) (fun cq2 => ?_) (fun cq2 => ?_)
  · replace hf := if_at hf cq2
    exact (hG _ _ _ _ _).mp (J27 v1_systemChanges v1_arcs c2 H locs ls (hP.sub [0, 1, 2] rfl) (hD.sub [0, 1, 2] (by decide) rfl) hS (lv_sub hl [0] rfl) hf)
  · replace hf := if_no hf cq2
    refine lv_iload_n hx hb dX10_arc_7 rfl (lv_at hl 2 rfl) ?_
    obtain ⟨o3, e3, hf⟩ := ob_some hf
    refine kSi (As := [.int a1]) (rest := []) ⟨hx, hb, hml, hown, hts⟩ (mX10_isSign l dC dI H.size base a1 o3 e3) (va_cwS 1 hts (gTS q133 q134 q2 q135) rfl rfl rfl (by decide +kernel) ⟨Nat.le_of_ble_eq_true rfl, Nat.le_of_ble_eq_true rfl⟩) hK hP hD hS hA hE hAB [] [0, 1, 2] [] (wr := (wX10_arc h0 h1 h2 kc2 V0 V1 v1_systemChanges v1_arcs c2)) rfl rfl (by decide) (by decide) (by decide) rfl rfl hl.1 rfl (Nat.le_of_ble_eq_true rfl) dX10_arc_8 ⟨Nat.zero_le _, Nat.zero_le _⟩ (fun r3 u3 H locs hw3 hP hD hS => ?_)
    obtain ⟨hw31, hw32⟩ := hw3
    subst hw31 hw32
    have hP : va_P (dC, dI) vwCl (wX10_arc h0 h1 h2 kc2 V0 V1 v1_systemChanges v1_arcs c2) H := hP.sub [0, 1, 2] rfl
    have hD : va_D A (wX10_arc h0 h1 h2 kc2 V0 V1 v1_systemChanges v1_arcs c2) := hD.sub [0, 1, 2] (by decide) rfl
    refine lv_if_eq (tgt := 27) hx hb dX10_arc_11 (by decide) (fun cq4 => ?_) (fun cq4 => ?_)
    · replace hf := if_at hf cq4
      exact (hG _ _ _ _ _).mp (J27 v1_systemChanges v1_arcs c2 H locs ls (hP.sub [0, 1, 2] rfl) (hD.sub [0, 1, 2] (by decide) rfl) hS (lv_sub hl [0] rfl) hf)
    · replace hf := if_no hf cq4
      refine lv_iload_n hx hb dX10_arc_14 rfl (lv_at hl 3 rfl) ?_
      obtain ⟨o5, e5, hf⟩ := ob_some hf
      refine kSi (As := [.int a2]) (rest := []) ⟨hx, hb, hml, hown, hts⟩ (mX10_isNode l dC dI H.size base a2 o5 e5) (va_cwS 1 hts (gTS q160 q161 q2 q162) rfl rfl rfl (by decide +kernel) ⟨Nat.le_of_ble_eq_true rfl, Nat.le_of_ble_eq_true rfl⟩) hK hP hD hS hA hE hAB [] [0, 1, 2] [] (wr := (wX10_arc h0 h1 h2 kc2 V0 V1 v1_systemChanges v1_arcs c2)) rfl rfl (by decide) (by decide) (by decide) rfl rfl hl.1 rfl (Nat.le_of_ble_eq_true rfl) dX10_arc_15 ⟨Nat.zero_le _, Nat.zero_le _⟩ (fun r5 u5 H locs hw5 hP hD hS => ?_)
      obtain ⟨hw51, hw52⟩ := hw5
      subst hw51 hw52
      have hP : va_P (dC, dI) vwCl (wX10_arc h0 h1 h2 kc2 V0 V1 v1_systemChanges v1_arcs c2) H := hP.sub [0, 1, 2] rfl
      have hD : va_D A (wX10_arc h0 h1 h2 kc2 V0 V1 v1_systemChanges v1_arcs c2) := hD.sub [0, 1, 2] (by decide) rfl
      refine lv_if_eq (tgt := 27) hx hb dX10_arc_18 (by decide) (fun cq6 => ?_) (fun cq6 => ?_)
      · replace hf := if_at hf cq6
        exact (hG _ _ _ _ _).mp (J27 v1_systemChanges v1_arcs c2 H locs ls (hP.sub [0, 1, 2] rfl) (hD.sub [0, 1, 2] (by decide) rfl) hS (lv_sub hl [0] rfl) hf)
      · replace hf := if_no hf cq6
        refine lv_iload_n hx hb dX10_arc_21 rfl (lv_at hl 3 rfl) ?_
        refine lv_bipush (v := 8) hx hb dX10_arc_22 (by decide +kernel) ?_
        refine lv_icmp_ge (tgt := 30) hx hb dX10_arc_24 (by decide) (fun cq7 => ?_) (fun cq7 => ?_)
        · replace hf := if_at hf cq7
          refine lv_aload_n hx hb dX10_arc_30 rfl (lv_at hl 0 rfl) ?_
          refine va_get (D := (dC, dI)) (ci := 10) (v := .ref h1) (C := RX10) (T := TX10) (N := 12) hx hb hts inlX10 hown hK hP 0 rfl rfl 0 (by decide) w0_ (fun _ h9 => h9) rfl dX10_arc_31 ?_
          refine lv_iload_n hx hb dX10_arc_34 rfl (lv_at hl 1 rfl) ?_
          refine lv_iload_n hx hb dX10_arc_35 rfl (lv_at hl 2 rfl) ?_
          refine lv_iload_n hx hb dX10_arc_36 rfl (lv_at hl 3 rfl) ?_
          obtain ⟨o8, e8, hf⟩ := ob_some hf
          refine kVi (As := [.int a0, .int a1, .int a2]) (rest := []) ⟨hx, hb, hml, hown, hts⟩ (mX6_addArc l dC dI h1 h2 kc2 H.size base a0 a1 a2 v1_systemChanges v1_arcs c2 V1 o8 e8) (cwV 3 hts (gTV q163 q164 q165 q15 q166) rfl rfl rfl (by decide +kernel) ⟨Nat.le_of_ble_eq_true rfl, Nat.le_of_ble_eq_true rfl⟩) hK hP hD hS hA hE hAB [1, 2] [0] [0] (wr := [(h0, .inr (10, [.ref h1, V0 1, V0 2, V0 3, V0 4, V0 5, V0 6, V0 7, V0 8, V0 9, V0 10, V0 11]))]) rfl rfl (by decide) (by decide) (by decide) rfl (ci := 6) (q0 := 0) rfl rfl rfl rfl hl.1 rfl (Nat.le_of_ble_eq_true rfl) dX10_arc_37 ⟨Nat.zero_le _, Nat.zero_le _⟩ (fun r8 u8 H locs hw8 hP hD hS => ?_)
          obtain ⟨hw81, hw82⟩ := hw8
          subst hw81 hw82
          have hP : va_P (dC, dI) vwCl (wX10_arc h0 h1 h2 kc2 V0 V1 o8.2.1 o8.2.2.1 o8.2.2.2) H := hP.sub [0, 1, 2] rfl
          have hD : va_D A (wX10_arc h0 h1 h2 kc2 V0 V1 o8.2.1 o8.2.2.1 o8.2.2.2) := hD.sub [0, 1, 2] (by decide) rfl
          have hf1 := Option.some.inj hf
          subst hf1
          have hP9 := hP.sub (ws' := (wX10_arc h0 h1 h2 kc2 V0 V1 o8.2.1 o8.2.2.1 o8.2.2.2)) [0, 1, 2] rfl
          have hD9 := hD.sub (ws' := (wX10_arc h0 h1 h2 kc2 V0 V1 o8.2.1 o8.2.2.1 o8.2.2.2)) [0, 1, 2] (by decide) rfl
          exact W.iret (v := o8.1) hx hb hr (fun t ht hW => ⟨⟨o8.1, (o8.2.1, o8.2.2.1, o8.2.2.2), rfl, ⟨rfl, rfl⟩, by rw [ht]; exact hP9, va_K.moved hW.alike hK, hD9⟩, hS.F ht⟩) hS.2.2 dX10_arc_40
        · replace hf := if_no hf cq7
          exact (hG _ _ _ _ _).mp (J27 v1_systemChanges v1_arcs c2 H locs ls (hP.sub [0, 1, 2] rfl) (hD.sub [0, 1, 2] (by decide) rfl) hS (lv_sub hl [0] rfl) hf)
abbrev wX10_clear (h0 h1 h2 : Nat) (kc2 : ClassId) (V0 : Nat → Value) (V1 : Nat → Value) (v1_rules : Int32) (v1_ends : Int32) (v1_systemChanges : Int32) (v1_arcs : Int32) (c2 : Nat → Int32) : va_W := [(h0, .inr (10, [.ref h1, V0 1, V0 2, V0 3, V0 4, V0 5, V0 6, V0 7, V0 8, V0 9, V0 10, V0 11])), (h1, .inr (6, [V1 0, V1 1, V1 2, V1 3, V1 4, V1 5, .int v1_rules, .ref h2, .int v1_ends, V1 9, V1 10, .int v1_systemChanges, V1 12, .int v1_arcs])), (h2, .inl (kc2, 192, .inl c2))]
set_option maxHeartbeats 4000000 in
set_option maxRecDepth 100000 in
theorem mX10_clear (l : Launch) (dC : Nat → ClassId) (dI : Nat → Nat → Nat) (h0 h1 h2 : Nat) (kc2 : ClassId) (sz : Nat) (base : Nat × Nat × Nat) (v1_rules : Int32) (v1_ends : Int32) (v1_systemChanges : Int32) (v1_arcs : Int32) (c2 : Nat → Int32) (V0 : Nat → Value) (V1 : Nat → Value) (o : Int32 × Int32 × Int32 × Int32 × Int32 × (Nat → Int32)) (hf : fX10_clear v1_rules v1_ends v1_systemChanges v1_arcs c2 = some o) : Met l yX10_clear (.code yX10_clear cX10_clear 1 (some .int) :: wsL_law) ({ frames := 2, cells := 0, slots := 0, locals := 44 }) (cPre (dC, dI) vwCl [.ref h0] sz base (wX10_clear h0 h1 h2 kc2 V0 V1 v1_rules v1_ends v1_systemChanges v1_arcs c2) [(kc2, .int)]) (va_Qi (fun r u => r = o.1 ∧ u = o.2) (fun (u : Int32 × Int32 × Int32 × Int32 × (Nat → Int32)) t => cPost (dC, dI) vwCl (va_A (wX10_clear h0 h1 h2 kc2 V0 V1 v1_rules v1_ends v1_systemChanges v1_arcs c2) sz) (wX10_clear h0 h1 h2 kc2 V0 V1 u.1 u.2.1 u.2.2.1 u.2.2.2.1 u.2.2.2.2) [(kc2, .int)] t) (va_A (wX10_clear h0 h1 h2 kc2 V0 V1 v1_rules v1_ends v1_systemChanges v1_arcs c2) sz)) 0 0 (va_A (wX10_clear h0 h1 h2 kc2 V0 V1 v1_rules v1_ends v1_systemChanges v1_arcs c2) sz) := by
  refine Met.ofW (cc := cX10_clear) (maxL := 1) (ret := (some .int)) (by decide) rfl ?_
  intro p e s m args below meth c s₁ B hml hv
  obtain ⟨rfl, hsz, hP, hK, hD0, hE⟩ := hv
  have hx := B.exec
  have hb := B.bytes
  have hr := B.returns
  have hts : ∀ w ∈ wsL_law, _ := fun w h => atoms_spec (ws := .code yX10_clear cX10_clear 1 (some .int) :: wsL_law) B.pre w (List.mem_cons_of_mem _ h)
  have hown : s.vm.findClass RX10 = some m.cls := findClass_of_methodNamed B.named
  have hlocks := B.notSynchronized
  have w0_ := hts _ q16
  subst hsz
  have hD := hD0.self (sz := s.heap.size)
  generalize hAe : va_A (wX10_clear h0 h1 h2 kc2 V0 V1 v1_rules v1_ends v1_systemChanges v1_arcs c2) s.heap.size = A at hD ⊢
  have hA : ∀ q : Nat, s.heap.size ≤ q → A q := fun q h => by rw [← hAe]; exact Or.inr h
  have hAB : ∀ q : Nat, A q → base.1 ≤ q := fun q h => by rw [← hAe] at h; exact h.elim (fun ⟨k, e, hk⟩ => hD0.2 k _ hk) (fun hk => Nat.le_trans hE.1 hk)
  have hS : va_S A s.heap s.heap [] := va_S.rf
  have hl := lv_entry ([.ref h0]) (n := 1) (Nat.le_of_ble_eq_true rfl)
  rw [lg_entry_eq]
  generalize (lg_sl ([.ref h0]) ++ List.replicate (1 - (lg_sl ([.ref h0])).length) Slot.unset).toArray = ls at hl ⊢
  have hl : lv_has ls 1 [(0, .ref h0)] := hl
  have hP : va_P (dC, dI) vwCl (wX10_clear h0 h1 h2 kc2 V0 V1 v1_rules v1_ends v1_systemChanges v1_arcs c2) s.heap := hP
  obtain ⟨H, hH⟩ : ∃ H, H = s.heap := ⟨_, rfl⟩
  have hS : va_S A s.heap H [] := by rw [hH]; exact hS
  rw [← hH] at hP ⊢
  generalize ([] : List Loc) = locs at hS ⊢
  unfold fX10_clear at hf
  refine lv_aload_n hx hb dX10_clear_0 rfl (lv_at hl 0 rfl) ?_
  refine va_get (D := (dC, dI)) (ci := 10) (v := .ref h1) (C := RX10) (T := TX10) (N := 12) hx hb hts inlX10 hown hK hP 0 rfl rfl 0 (by decide) w0_ (fun _ h9 => h9) rfl dX10_clear_1 ?_
  obtain ⟨o1, e1, hf⟩ := ob_some hf
  refine kVi (As := []) (rest := []) ⟨hx, hb, hml, hown, hts⟩ (mX6_removeAll l dC dI h1 h2 kc2 H.size base v1_rules v1_ends v1_systemChanges v1_arcs c2 V1 o1 e1) (cwV 0 hts (gTV q190 q191 q192 q15 q193) rfl rfl rfl (by decide +kernel) ⟨Nat.le_of_ble_eq_true rfl, Nat.le_of_ble_eq_true rfl⟩) hK hP hD hS hA hE hAB [1, 2] [0] [0] (wr := [(h0, .inr (10, [.ref h1, V0 1, V0 2, V0 3, V0 4, V0 5, V0 6, V0 7, V0 8, V0 9, V0 10, V0 11]))]) rfl rfl (by decide) (by decide) (by decide) rfl (ci := 6) (q0 := 0) rfl rfl rfl rfl hl.1 rfl (Nat.le_of_ble_eq_true rfl) dX10_clear_4 ⟨Nat.zero_le _, Nat.zero_le _⟩ (fun r1 u1 H locs hw1 hP hD hS => ?_)
  obtain ⟨hw11, hw12⟩ := hw1
  subst hw11 hw12
  have hP : va_P (dC, dI) vwCl (wX10_clear h0 h1 h2 kc2 V0 V1 o1.2.1 o1.2.2.1 o1.2.2.2.1 o1.2.2.2.2.1 o1.2.2.2.2.2) H := hP.sub [0, 1, 2] rfl
  have hD : va_D A (wX10_clear h0 h1 h2 kc2 V0 V1 o1.2.1 o1.2.2.1 o1.2.2.2.1 o1.2.2.2.2.1 o1.2.2.2.2.2) := hD.sub [0, 1, 2] (by decide) rfl
  have hf1 := Option.some.inj hf
  subst hf1
  have hP9 := hP.sub (ws' := (wX10_clear h0 h1 h2 kc2 V0 V1 o1.2.1 o1.2.2.1 o1.2.2.2.1 o1.2.2.2.2.1 o1.2.2.2.2.2)) [0, 1, 2] rfl
  have hD9 := hD.sub (ws' := (wX10_clear h0 h1 h2 kc2 V0 V1 o1.2.1 o1.2.2.1 o1.2.2.2.1 o1.2.2.2.2.1 o1.2.2.2.2.2)) [0, 1, 2] (by decide) rfl
  exact W.iret (v := o1.1) hx hb hr (fun t ht hW => ⟨⟨o1.1, (o1.2.1, o1.2.2.1, o1.2.2.2.1, o1.2.2.2.2.1, o1.2.2.2.2.2), rfl, ⟨rfl, rfl⟩, by rw [ht]; exact hP9, va_K.moved hW.alike hK, hD9⟩, hS.F ht⟩) hS.2.2 dX10_clear_7
abbrev wX10_drop (h0 h1 : Nat) (V0 : Nat → Value) (V1 : Nat → Value) (v1_height : Int32) (v1_wordChanges : Int32) : va_W := [(h0, .inr (10, [.ref h1, V0 1, V0 2, V0 3, V0 4, V0 5, V0 6, V0 7, V0 8, V0 9, V0 10, V0 11])), (h1, .inr (6, [V1 0, V1 1, V1 2, V1 3, V1 4, V1 5, V1 6, V1 7, V1 8, V1 9, .int v1_height, V1 11, .int v1_wordChanges, V1 13]))]
set_option maxHeartbeats 4000000 in
set_option maxRecDepth 100000 in
theorem mX10_drop (l : Launch) (dC : Nat → ClassId) (dI : Nat → Nat → Nat) (h0 h1 : Nat) (sz : Nat) (base : Nat × Nat × Nat) (v1_height : Int32) (v1_wordChanges : Int32) (V0 : Nat → Value) (V1 : Nat → Value) (o : Int32 × Int32 × Int32) (hf : fX10_drop v1_height v1_wordChanges = some o) : Met l yX10_drop (.code yX10_drop cX10_drop 1 (some .int) :: wsL_law) ({ frames := 1, cells := 0, slots := 0, locals := 21 }) (cPre (dC, dI) vwCl [.ref h0] sz base (wX10_drop h0 h1 V0 V1 v1_height v1_wordChanges) []) (va_Qi (fun r u => r = o.1 ∧ u = o.2) (fun (u : Int32 × Int32) t => cPost (dC, dI) vwCl (va_A (wX10_drop h0 h1 V0 V1 v1_height v1_wordChanges) sz) (wX10_drop h0 h1 V0 V1 u.1 u.2) [] t) (va_A (wX10_drop h0 h1 V0 V1 v1_height v1_wordChanges) sz)) 0 0 (va_A (wX10_drop h0 h1 V0 V1 v1_height v1_wordChanges) sz) := by
  refine Met.ofW (cc := cX10_drop) (maxL := 1) (ret := (some .int)) (by decide) rfl ?_
  intro p e s m args below meth c s₁ B hml hv
  obtain ⟨rfl, hsz, hP, hK, hD0, hE⟩ := hv
  have hx := B.exec
  have hb := B.bytes
  have hr := B.returns
  have hts : ∀ w ∈ wsL_law, _ := fun w h => atoms_spec (ws := .code yX10_drop cX10_drop 1 (some .int) :: wsL_law) B.pre w (List.mem_cons_of_mem _ h)
  have hown : s.vm.findClass RX10 = some m.cls := findClass_of_methodNamed B.named
  have hlocks := B.notSynchronized
  have w0_ := hts _ q16
  subst hsz
  have hD := hD0.self (sz := s.heap.size)
  generalize hAe : va_A (wX10_drop h0 h1 V0 V1 v1_height v1_wordChanges) s.heap.size = A at hD ⊢
  have hA : ∀ q : Nat, s.heap.size ≤ q → A q := fun q h => by rw [← hAe]; exact Or.inr h
  have hAB : ∀ q : Nat, A q → base.1 ≤ q := fun q h => by rw [← hAe] at h; exact h.elim (fun ⟨k, e, hk⟩ => hD0.2 k _ hk) (fun hk => Nat.le_trans hE.1 hk)
  have hS : va_S A s.heap s.heap [] := va_S.rf
  have hl := lv_entry ([.ref h0]) (n := 1) (Nat.le_of_ble_eq_true rfl)
  rw [lg_entry_eq]
  generalize (lg_sl ([.ref h0]) ++ List.replicate (1 - (lg_sl ([.ref h0])).length) Slot.unset).toArray = ls at hl ⊢
  have hl : lv_has ls 1 [(0, .ref h0)] := hl
  have hP : va_P (dC, dI) vwCl (wX10_drop h0 h1 V0 V1 v1_height v1_wordChanges) s.heap := hP
  obtain ⟨H, hH⟩ : ∃ H, H = s.heap := ⟨_, rfl⟩
  have hS : va_S A s.heap H [] := by rw [hH]; exact hS
  rw [← hH] at hP ⊢
  generalize ([] : List Loc) = locs at hS ⊢
  unfold fX10_drop at hf
  refine lv_aload_n hx hb dX10_drop_0 rfl (lv_at hl 0 rfl) ?_
  refine va_get (D := (dC, dI)) (ci := 10) (v := .ref h1) (C := RX10) (T := TX10) (N := 12) hx hb hts inlX10 hown hK hP 0 rfl rfl 0 (by decide) w0_ (fun _ h9 => h9) rfl dX10_drop_1 ?_
  obtain ⟨o1, e1, hf⟩ := ob_some hf
  refine kVi (As := []) (rest := []) ⟨hx, hb, hml, hown, hts⟩ (mX6_emptyWord l dC dI h1 H.size base v1_height v1_wordChanges V1 o1 e1) (cwV 0 hts (gTV q221 q222 q223 q15 q224) rfl rfl rfl (by decide +kernel) ⟨Nat.le_of_ble_eq_true rfl, Nat.le_of_ble_eq_true rfl⟩) hK hP hD hS hA hE hAB [1] [0] [] (wr := [(h0, .inr (10, [.ref h1, V0 1, V0 2, V0 3, V0 4, V0 5, V0 6, V0 7, V0 8, V0 9, V0 10, V0 11]))]) rfl rfl (by decide) (by decide) (by decide) rfl (ci := 6) (q0 := 0) rfl rfl rfl rfl hl.1 rfl (Nat.le_of_ble_eq_true rfl) dX10_drop_4 ⟨Nat.zero_le _, Nat.zero_le _⟩ (fun r1 u1 H locs hw1 hP hD hS => ?_)
  obtain ⟨hw11, hw12⟩ := hw1
  subst hw11 hw12
  have hP : va_P (dC, dI) vwCl (wX10_drop h0 h1 V0 V1 o1.2.1 o1.2.2) H := hP.sub [0, 1] rfl
  have hD : va_D A (wX10_drop h0 h1 V0 V1 o1.2.1 o1.2.2) := hD.sub [0, 1] (by decide) rfl
  have hf1 := Option.some.inj hf
  subst hf1
  have hP9 := hP.sub (ws' := (wX10_drop h0 h1 V0 V1 o1.2.1 o1.2.2)) [0, 1] rfl
  have hD9 := hD.sub (ws' := (wX10_drop h0 h1 V0 V1 o1.2.1 o1.2.2)) [0, 1] (by decide) rfl
  exact W.iret (v := o1.1) hx hb hr (fun t ht hW => ⟨⟨o1.1, (o1.2.1, o1.2.2), rfl, ⟨rfl, rfl⟩, by rw [ht]; exact hP9, va_K.moved hW.alike hK, hD9⟩, hS.F ht⟩) hS.2.2 dX10_drop_7
abbrev wX10_end (h0 h1 : Nat) (V0 : Nat → Value) (V1 : Nat → Value) (v1_ends : Int32) (v1_systemChanges : Int32) : va_W := [(h0, .inr (10, [.ref h1, V0 1, V0 2, V0 3, V0 4, V0 5, V0 6, V0 7, V0 8, V0 9, V0 10, V0 11])), (h1, .inr (6, [V1 0, V1 1, V1 2, V1 3, V1 4, V1 5, V1 6, V1 7, .int v1_ends, V1 9, V1 10, .int v1_systemChanges, V1 12, V1 13]))]
set_option maxHeartbeats 4000000 in
set_option maxRecDepth 100000 in
theorem mX10_end (l : Launch) (dC : Nat → ClassId) (dI : Nat → Nat → Nat) (h0 h1 : Nat) (sz : Nat) (base : Nat × Nat × Nat) (a0 : Int32) (a1 : Int32) (v1_ends : Int32) (v1_systemChanges : Int32) (V0 : Nat → Value) (V1 : Nat → Value) (o : Int32 × Int32 × Int32) (hf : fX10_end a0 a1 v1_ends v1_systemChanges = some o) : Met l yX10_end (.code yX10_end cX10_end 3 (some .int) :: wsL_law) ({ frames := 1, cells := 0, slots := 0, locals := 23 }) (cPre (dC, dI) vwCl [.ref h0, .int a0, .int a1] sz base (wX10_end h0 h1 V0 V1 v1_ends v1_systemChanges) []) (va_Qi (fun r u => r = o.1 ∧ u = o.2) (fun (u : Int32 × Int32) t => cPost (dC, dI) vwCl (va_A (wX10_end h0 h1 V0 V1 v1_ends v1_systemChanges) sz) (wX10_end h0 h1 V0 V1 u.1 u.2) [] t) (va_A (wX10_end h0 h1 V0 V1 v1_ends v1_systemChanges) sz)) 0 0 (va_A (wX10_end h0 h1 V0 V1 v1_ends v1_systemChanges) sz) := by
  refine Met.ofW (cc := cX10_end) (maxL := 3) (ret := (some .int)) (by decide) rfl ?_
  intro p e s m args below meth c s₁ B hml hv
  obtain ⟨rfl, hsz, hP, hK, hD0, hE⟩ := hv
  have hx := B.exec
  have hb := B.bytes
  have hr := B.returns
  have hts : ∀ w ∈ wsL_law, _ := fun w h => atoms_spec (ws := .code yX10_end cX10_end 3 (some .int) :: wsL_law) B.pre w (List.mem_cons_of_mem _ h)
  have hown : s.vm.findClass RX10 = some m.cls := findClass_of_methodNamed B.named
  have hlocks := B.notSynchronized
  have w0_ := hts _ q16
  subst hsz
  have hD := hD0.self (sz := s.heap.size)
  generalize hAe : va_A (wX10_end h0 h1 V0 V1 v1_ends v1_systemChanges) s.heap.size = A at hD ⊢
  have hA : ∀ q : Nat, s.heap.size ≤ q → A q := fun q h => by rw [← hAe]; exact Or.inr h
  have hAB : ∀ q : Nat, A q → base.1 ≤ q := fun q h => by rw [← hAe] at h; exact h.elim (fun ⟨k, e, hk⟩ => hD0.2 k _ hk) (fun hk => Nat.le_trans hE.1 hk)
  have hS : va_S A s.heap s.heap [] := va_S.rf
  have hl := lv_entry ([.ref h0, .int a0, .int a1]) (n := 3) (Nat.le_of_ble_eq_true rfl)
  rw [lg_entry_eq]
  generalize (lg_sl ([.ref h0, .int a0, .int a1]) ++ List.replicate (3 - (lg_sl ([.ref h0, .int a0, .int a1])).length) Slot.unset).toArray = ls at hl ⊢
  have hl : lv_has ls 3 [(0, .ref h0), (1, .int a0), (2, .int a1)] := hl
  have hP : va_P (dC, dI) vwCl (wX10_end h0 h1 V0 V1 v1_ends v1_systemChanges) s.heap := hP
  refine gl_intro (fun G hG => ?_)
  have J16 : ∀ (v1_ends : Int32) (v1_systemChanges : Int32) (H : Heap) (locs : List Loc) (ls : Array Slot), va_P (dC, dI) vwCl (wX10_end h0 h1 V0 V1 v1_ends v1_systemChanges) H → va_D A (wX10_end h0 h1 V0 V1 v1_ends v1_systemChanges) → va_S A s.heap H locs → lv_has ls 3 [(0, .ref h0)] → fX10_end_p16   v1_ends v1_systemChanges = some o → G 0 0 H locs (F0 m 16 ls []) := by
    intro  v1_ends v1_systemChanges H locs ls hP hD hS hl hf
    refine (hG _ _ _ _ _).mpr ?_
    unfold fX10_end_p16 at hf
    refine lv_bipush (v := (-2)) hx hb dX10_end_16 (by decide +kernel) ?_
    have hf1 := Option.some.inj hf
    subst hf1
    have hP9 := hP.sub (ws' := (wX10_end h0 h1 V0 V1 v1_ends v1_systemChanges)) [0, 1] rfl
    have hD9 := hD.sub (ws' := (wX10_end h0 h1 V0 V1 v1_ends v1_systemChanges)) [0, 1] (by decide) rfl
    exact W.iret (v := (-2)) hx hb hr (fun t ht hW => ⟨⟨(-2), (v1_ends, v1_systemChanges), rfl, ⟨rfl, rfl⟩, by rw [ht]; exact hP9, va_K.moved hW.alike hK, hD9⟩, hS.F ht⟩) hS.2.2 dX10_end_18
  refine (hG _ _ _ _ _).mpr ?_
  obtain ⟨H, hH⟩ : ∃ H, H = s.heap := ⟨_, rfl⟩
  have hS : va_S A s.heap H [] := by rw [hH]; exact hS
  rw [← hH] at hP ⊢
  generalize ([] : List Loc) = locs at hS ⊢
  unfold fX10_end at hf
  refine lv_iload_n hx hb dX10_end_0 rfl (lv_at hl 1 rfl) ?_
  obtain ⟨o1, e1, hf⟩ := ob_some hf
  refine kSi (As := [.int a0]) (rest := []) ⟨hx, hb, hml, hown, hts⟩ (mX10_isNode l dC dI H.size base a0 o1 e1) (va_cwS 1 hts (gTS q160 q161 q2 q162) rfl rfl rfl (by decide +kernel) ⟨Nat.le_of_ble_eq_true rfl, Nat.le_of_ble_eq_true rfl⟩) hK hP hD hS hA hE hAB [] [0, 1] [] (wr := (wX10_end h0 h1 V0 V1 v1_ends v1_systemChanges)) rfl rfl (by decide) (by decide) (by decide) rfl rfl hl.1 rfl (Nat.le_of_ble_eq_true rfl) dX10_end_1 ⟨Nat.zero_le _, Nat.zero_le _⟩ (fun r1 u1 H locs hw1 hP hD hS => ?_)
  obtain ⟨hw11, hw12⟩ := hw1
  subst hw11 hw12
  have hP : va_P (dC, dI) vwCl (wX10_end h0 h1 V0 V1 v1_ends v1_systemChanges) H := hP.sub [0, 1] rfl
  have hD : va_D A (wX10_end h0 h1 V0 V1 v1_ends v1_systemChanges) := hD.sub [0, 1] (by decide) rfl
  refine lv_if_eq (tgt := 16) hx hb dX10_end_4 (by decide) (fun cq2 => ?_) (fun cq2 => ?_)
  · replace hf := if_at hf cq2
    exact (hG _ _ _ _ _).mp (J16 v1_ends v1_systemChanges H locs ls (hP.sub [0, 1] rfl) (hD.sub [0, 1] (by decide) rfl) hS (lv_sub hl [0] rfl) hf)
  · replace hf := if_no hf cq2
    refine lv_iload_n hx hb dX10_end_7 rfl (lv_at hl 2 rfl) ?_
    refine lv_if_lt (tgt := 16) hx hb dX10_end_8 (by decide) (fun cq3 => ?_) (fun cq3 => ?_)
    · replace hf := if_at hf cq3
      exact (hG _ _ _ _ _).mp (J16 v1_ends v1_systemChanges H locs ls (hP.sub [0, 1] rfl) (hD.sub [0, 1] (by decide) rfl) hS (lv_sub hl [0] rfl) hf)
    · replace hf := if_no hf cq3
      refine lv_iload_n hx hb dX10_end_11 rfl (lv_at hl 2 rfl) ?_
      refine lv_iconst (v := 1) hx hb dX10_end_12 (by decide +kernel) ?_
      refine lv_icmp_le (tgt := 19) hx hb dX10_end_13 (by decide) (fun cq4 => ?_) (fun cq4 => ?_)
      · replace hf := if_at hf cq4
        refine lv_aload_n hx hb dX10_end_19 rfl (lv_at hl 0 rfl) ?_
        refine va_get (D := (dC, dI)) (ci := 10) (v := .ref h1) (C := RX10) (T := TX10) (N := 12) hx hb hts inlX10 hown hK hP 0 rfl rfl 0 (by decide) w0_ (fun _ h9 => h9) rfl dX10_end_20 ?_
        refine lv_iload_n hx hb dX10_end_23 rfl (lv_at hl 1 rfl) ?_
        refine lv_iload_n hx hb dX10_end_24 rfl (lv_at hl 2 rfl) ?_
        obtain ⟨o5, e5, hf⟩ := ob_some hf
        refine kVi (As := [.int a0, .int a1]) (rest := []) ⟨hx, hb, hml, hown, hts⟩ (mX6_setEnd l dC dI h1 H.size base a0 a1 v1_ends v1_systemChanges V1 o5 e5) (cwV 2 hts (gTV q177 q178 q179 q15 q180) rfl rfl rfl (by decide +kernel) ⟨Nat.le_of_ble_eq_true rfl, Nat.le_of_ble_eq_true rfl⟩) hK hP hD hS hA hE hAB [1] [0] [] (wr := [(h0, .inr (10, [.ref h1, V0 1, V0 2, V0 3, V0 4, V0 5, V0 6, V0 7, V0 8, V0 9, V0 10, V0 11]))]) rfl rfl (by decide) (by decide) (by decide) rfl (ci := 6) (q0 := 0) rfl rfl rfl rfl hl.1 rfl (Nat.le_of_ble_eq_true rfl) dX10_end_25 ⟨Nat.zero_le _, Nat.zero_le _⟩ (fun r5 u5 H locs hw5 hP hD hS => ?_)
        obtain ⟨hw51, hw52⟩ := hw5
        subst hw51 hw52
        have hP : va_P (dC, dI) vwCl (wX10_end h0 h1 V0 V1 o5.2.1 o5.2.2) H := hP.sub [0, 1] rfl
        have hD : va_D A (wX10_end h0 h1 V0 V1 o5.2.1 o5.2.2) := hD.sub [0, 1] (by decide) rfl
        have hf1 := Option.some.inj hf
        subst hf1
        have hP9 := hP.sub (ws' := (wX10_end h0 h1 V0 V1 o5.2.1 o5.2.2)) [0, 1] rfl
        have hD9 := hD.sub (ws' := (wX10_end h0 h1 V0 V1 o5.2.1 o5.2.2)) [0, 1] (by decide) rfl
        exact W.iret (v := o5.1) hx hb hr (fun t ht hW => ⟨⟨o5.1, (o5.2.1, o5.2.2), rfl, ⟨rfl, rfl⟩, by rw [ht]; exact hP9, va_K.moved hW.alike hK, hD9⟩, hS.F ht⟩) hS.2.2 dX10_end_28
      · replace hf := if_no hf cq4
        exact (hG _ _ _ _ _).mp (J16 v1_ends v1_systemChanges H locs ls (hP.sub [0, 1] rfl) (hD.sub [0, 1] (by decide) rfl) hS (lv_sub hl [0] rfl) hf)
abbrev wX10_lies (h0 h1 h2 h3 : Nat) (kc2 kc3 : ClassId) (V0 : Nat → Value) (V1 : Nat → Value) (v1_ends : Int32) (v1_height : Int32) (c2 : Nat → Int32) (c3 : Nat → Int32) : va_W := [(h0, .inr (10, [.ref h1, V0 1, V0 2, V0 3, V0 4, V0 5, V0 6, V0 7, V0 8, V0 9, V0 10, V0 11])), (h1, .inr (6, [V1 0, V1 1, V1 2, V1 3, V1 4, V1 5, V1 6, .ref h3, .int v1_ends, .ref h2, .int v1_height, V1 11, V1 12, V1 13])), (h2, .inl (kc2, 30, .inl c2)), (h3, .inl (kc3, 192, .inl c3))]
set_option maxHeartbeats 4000000 in
set_option maxRecDepth 100000 in
theorem mX10_lies (l : Launch) (dC : Nat → ClassId) (dI : Nat → Nat → Nat) (h0 h1 h2 h3 : Nat) (kc2 kc3 : ClassId) (sz : Nat) (base : Nat × Nat × Nat) (a0 : Int32) (v1_ends : Int32) (v1_height : Int32) (c2 : Nat → Int32) (c3 : Nat → Int32) (V0 : Nat → Value) (V1 : Nat → Value) (o : Int32 × Unit) (hf : fX10_lies a0 v1_ends v1_height c2 c3 = some o) : Met l yX10_lies (.code yX10_lies cX10_lies 2 (some .int) :: wsL_law) ({ frames := 2, cells := 0, slots := 0, locals := 47 }) (cPre (dC, dI) vwCl [.ref h0, .int a0] sz base (wX10_lies h0 h1 h2 h3 kc2 kc3 V0 V1 v1_ends v1_height c2 c3) [(kc2, .int), (kc3, .int)]) (va_Qi (fun r u => r = o.1 ∧ u = o.2) (fun (u : Unit) t => cPost (dC, dI) vwCl (va_A (wX10_lies h0 h1 h2 h3 kc2 kc3 V0 V1 v1_ends v1_height c2 c3) sz) (wX10_lies h0 h1 h2 h3 kc2 kc3 V0 V1 v1_ends v1_height c2 c3) [(kc2, .int), (kc3, .int)] t) (va_A (wX10_lies h0 h1 h2 h3 kc2 kc3 V0 V1 v1_ends v1_height c2 c3) sz)) 0 0 (va_A (wX10_lies h0 h1 h2 h3 kc2 kc3 V0 V1 v1_ends v1_height c2 c3) sz) := by
  refine Met.ofW (cc := cX10_lies) (maxL := 2) (ret := (some .int)) (by decide) rfl ?_
  intro p e s m args below meth c s₁ B hml hv
  obtain ⟨rfl, hsz, hP, hK, hD0, hE⟩ := hv
  have hx := B.exec
  have hb := B.bytes
  have hr := B.returns
  have hts : ∀ w ∈ wsL_law, _ := fun w h => atoms_spec (ws := .code yX10_lies cX10_lies 2 (some .int) :: wsL_law) B.pre w (List.mem_cons_of_mem _ h)
  have hown : s.vm.findClass RX10 = some m.cls := findClass_of_methodNamed B.named
  have hlocks := B.notSynchronized
  have w0_ := hts _ q16
  subst hsz
  have hD := hD0.self (sz := s.heap.size)
  generalize hAe : va_A (wX10_lies h0 h1 h2 h3 kc2 kc3 V0 V1 v1_ends v1_height c2 c3) s.heap.size = A at hD ⊢
  have hA : ∀ q : Nat, s.heap.size ≤ q → A q := fun q h => by rw [← hAe]; exact Or.inr h
  have hAB : ∀ q : Nat, A q → base.1 ≤ q := fun q h => by rw [← hAe] at h; exact h.elim (fun ⟨k, e, hk⟩ => hD0.2 k _ hk) (fun hk => Nat.le_trans hE.1 hk)
  have hS : va_S A s.heap s.heap [] := va_S.rf
  have hl := lv_entry ([.ref h0, .int a0]) (n := 2) (Nat.le_of_ble_eq_true rfl)
  rw [lg_entry_eq]
  generalize (lg_sl ([.ref h0, .int a0]) ++ List.replicate (2 - (lg_sl ([.ref h0, .int a0])).length) Slot.unset).toArray = ls at hl ⊢
  have hl : lv_has ls 2 [(0, .ref h0), (1, .int a0)] := hl
  have hP : va_P (dC, dI) vwCl (wX10_lies h0 h1 h2 h3 kc2 kc3 V0 V1 v1_ends v1_height c2 c3) s.heap := hP
  refine gl_intro (fun G hG => ?_)
  have J26 : ∀ (z0 : Int32) (H : Heap) (locs : List Loc) (ls : Array Slot), va_P (dC, dI) vwCl (wX10_lies h0 h1 h2 h3 kc2 kc3 V0 V1 v1_ends v1_height c2 c3) H → va_D A (wX10_lies h0 h1 h2 h3 kc2 kc3 V0 V1 v1_ends v1_height c2 c3) → va_S A s.heap H locs → lv_has ls 2 [(0, .ref h0)] → fX10_lies_p26 v1_ends v1_height c2 c3  z0 = some o → G 0 0 H locs (F0 m 26 ls [.int z0]) := by
    intro  z0 H locs ls hP hD hS hl hf
    refine (hG _ _ _ _ _).mpr ?_
    unfold fX10_lies_p26 at hf
    have hf1 := Option.some.inj hf
    subst hf1
    have hP9 := hP.sub (ws' := (wX10_lies h0 h1 h2 h3 kc2 kc3 V0 V1 v1_ends v1_height c2 c3)) [0, 1, 2, 3] rfl
    have hD9 := hD.sub (ws' := (wX10_lies h0 h1 h2 h3 kc2 kc3 V0 V1 v1_ends v1_height c2 c3)) [0, 1, 2, 3] (by decide) rfl
    exact W.iret (v := z0) hx hb hr (fun t ht hW => ⟨⟨z0, (), rfl, ⟨rfl, rfl⟩, by rw [ht]; exact hP9, va_K.moved hW.alike hK, hD9⟩, hS.F ht⟩) hS.2.2 dX10_lies_26
  refine (hG _ _ _ _ _).mpr ?_
  obtain ⟨H, hH⟩ : ∃ H, H = s.heap := ⟨_, rfl⟩
  have hS : va_S A s.heap H [] := by rw [hH]; exact hS
  rw [← hH] at hP ⊢
  generalize ([] : List Loc) = locs at hS ⊢
  unfold fX10_lies at hf
  refine lv_iload_n hx hb dX10_lies_0 rfl (lv_at hl 1 rfl) ?_
  obtain ⟨o1, e1, hf⟩ := ob_some hf
  refine kSi (As := [.int a0]) (rest := []) ⟨hx, hb, hml, hown, hts⟩ (mX10_isState l dC dI H.size base a0 o1 e1) (va_cwS 1 hts (gTS q130 q131 q2 q132) rfl rfl rfl (by decide +kernel) ⟨Nat.le_of_ble_eq_true rfl, Nat.le_of_ble_eq_true rfl⟩) hK hP hD hS hA hE hAB [] [0, 1, 2, 3] [] (wr := (wX10_lies h0 h1 h2 h3 kc2 kc3 V0 V1 v1_ends v1_height c2 c3)) rfl rfl (by decide) (by decide) (by decide) rfl rfl hl.1 rfl (Nat.le_of_ble_eq_true rfl) dX10_lies_1 ⟨Nat.zero_le _, Nat.zero_le _⟩ (fun r1 u1 H locs hw1 hP hD hS => ?_)
  obtain ⟨hw11, hw12⟩ := hw1
  subst hw11 hw12
  have hP : va_P (dC, dI) vwCl (wX10_lies h0 h1 h2 h3 kc2 kc3 V0 V1 v1_ends v1_height c2 c3) H := hP.sub [0, 1, 2, 3] rfl
  have hD : va_D A (wX10_lies h0 h1 h2 h3 kc2 kc3 V0 V1 v1_ends v1_height c2 c3) := hD.sub [0, 1, 2, 3] (by decide) rfl
  refine lv_if_ne (tgt := 10) hx hb dX10_lies_4 (by decide) (fun cq2 => ?_) (fun cq2 => ?_)
  · replace hf := if_no hf cq2
    refine lv_aload_n hx hb dX10_lies_10 rfl (lv_at hl 0 rfl) ?_
    refine va_get (D := (dC, dI)) (ci := 10) (v := .ref h1) (C := RX10) (T := TX10) (N := 12) hx hb hts inlX10 hown hK hP 0 rfl rfl 0 (by decide) w0_ (fun _ h9 => h9) rfl dX10_lies_11 ?_
    refine lv_iload_n hx hb dX10_lies_14 rfl (lv_at hl 1 rfl) ?_
    obtain ⟨o3, e3, hf⟩ := ob_some hf
    refine kVi (As := [.int a0]) (rest := []) ⟨hx, hb, hml, hown, hts⟩ (mX6_holdsWord l dC dI h1 h2 h3 kc2 kc3 H.size base a0 v1_ends v1_height c2 c3 V1 o3 e3) (cwV 1 hts (gTV q233 q234 q235 q15 q236) rfl rfl rfl (by decide +kernel) ⟨Nat.le_of_ble_eq_true rfl, Nat.le_of_ble_eq_true rfl⟩) hK hP hD hS hA hE hAB [1, 2, 3] [0] [0, 1] (wr := [(h0, .inr (10, [.ref h1, V0 1, V0 2, V0 3, V0 4, V0 5, V0 6, V0 7, V0 8, V0 9, V0 10, V0 11]))]) rfl rfl (by decide) (by decide) (by decide) rfl (ci := 6) (q0 := 0) rfl rfl rfl rfl hl.1 rfl (Nat.le_of_ble_eq_true rfl) dX10_lies_15 ⟨Nat.zero_le _, Nat.zero_le _⟩ (fun r3 u3 H locs hw3 hP hD hS => ?_)
    obtain ⟨hw31, hw32⟩ := hw3
    subst hw31 hw32
    have hP : va_P (dC, dI) vwCl (wX10_lies h0 h1 h2 h3 kc2 kc3 V0 V1 v1_ends v1_height c2 c3) H := hP.sub [0, 1, 2, 3] rfl
    have hD : va_D A (wX10_lies h0 h1 h2 h3 kc2 kc3 V0 V1 v1_ends v1_height c2 c3) := hD.sub [0, 1, 2, 3] (by decide) rfl
    refine lv_if_eq (tgt := 25) hx hb dX10_lies_18 (by decide) (fun cq4 => ?_) (fun cq4 => ?_)
    · replace hf := if_at hf cq4
      refine lv_iconst (v := 0) hx hb dX10_lies_25 (by decide +kernel) ?_
      exact (hG _ _ _ _ _).mp (J26 0 H locs ls (hP.sub [0, 1, 2, 3] rfl) (hD.sub [0, 1, 2, 3] (by decide) rfl) hS (lv_sub hl [0] rfl) hf)
    · replace hf := if_no hf cq4
      refine lv_iconst (v := 1) hx hb dX10_lies_21 (by decide +kernel) ?_
      refine lv_goto (tgt := 26) hx hb dX10_lies_22 (by decide) ?_
      exact (hG _ _ _ _ _).mp (J26 1 H locs ls (hP.sub [0, 1, 2, 3] rfl) (hD.sub [0, 1, 2, 3] (by decide) rfl) hS (lv_sub hl [0] rfl) hf)
  · replace hf := if_at hf cq2
    refine lv_bipush (v := (-2)) hx hb dX10_lies_7 (by decide +kernel) ?_
    have hf1 := Option.some.inj hf
    subst hf1
    have hP9 := hP.sub (ws' := (wX10_lies h0 h1 h2 h3 kc2 kc3 V0 V1 v1_ends v1_height c2 c3)) [0, 1, 2, 3] rfl
    have hD9 := hD.sub (ws' := (wX10_lies h0 h1 h2 h3 kc2 kc3 V0 V1 v1_ends v1_height c2 c3)) [0, 1, 2, 3] (by decide) rfl
    exact W.iret (v := (-2)) hx hb hr (fun t ht hW => ⟨⟨(-2), (), rfl, ⟨rfl, rfl⟩, by rw [ht]; exact hP9, va_K.moved hW.alike hK, hD9⟩, hS.F ht⟩) hS.2.2 dX10_lies_9
abbrev wX10_place (h0 h1 : Nat) (V0 : Nat → Value) (V1 : Nat → Value) (v1_fault : Int32) (v1_faultAt : Int32) : va_W := [(h0, .inr (10, [V0 0, .ref h1, V0 2, V0 3, V0 4, V0 5, V0 6, V0 7, V0 8, V0 9, V0 10, V0 11])), (h1, .inr (4, [V1 0, V1 1, V1 2, .int v1_fault, .int v1_faultAt, V1 5, V1 6, V1 7]))]
set_option maxHeartbeats 4000000 in
set_option maxRecDepth 100000 in
theorem mX10_place (l : Launch) (dC : Nat → ClassId) (dI : Nat → Nat → Nat) (h0 h1 : Nat) (sz : Nat) (base : Nat × Nat × Nat) (v1_fault : Int32) (v1_faultAt : Int32) (V0 : Nat → Value) (V1 : Nat → Value) (o : Int32 × Unit) (hf : fX10_place v1_fault v1_faultAt = some o) : Met l yX10_place (.code yX10_place cX10_place 1 (some .int) :: wsL_law) ({ frames := 0, cells := 0, slots := 0, locals := 0 }) (cPre (dC, dI) vwCl [.ref h0] sz base (wX10_place h0 h1 V0 V1 v1_fault v1_faultAt) []) (va_Qi (fun r u => r = o.1 ∧ u = o.2) (fun (u : Unit) t => cPost (dC, dI) vwCl (va_A (wX10_place h0 h1 V0 V1 v1_fault v1_faultAt) sz) (wX10_place h0 h1 V0 V1 v1_fault v1_faultAt) [] t) (va_A (wX10_place h0 h1 V0 V1 v1_fault v1_faultAt) sz)) 0 0 (va_A (wX10_place h0 h1 V0 V1 v1_fault v1_faultAt) sz) := by
  refine Met.ofW (cc := cX10_place) (maxL := 1) (ret := (some .int)) (by decide) rfl ?_
  intro p e s m args below meth c s₁ B hml hv
  obtain ⟨rfl, hsz, hP, hK, hD0, hE⟩ := hv
  have hx := B.exec
  have hb := B.bytes
  have hr := B.returns
  have hts : ∀ w ∈ wsL_law, _ := fun w h => atoms_spec (ws := .code yX10_place cX10_place 1 (some .int) :: wsL_law) B.pre w (List.mem_cons_of_mem _ h)
  have hown : s.vm.findClass RX10 = some m.cls := findClass_of_methodNamed B.named
  have hlocks := B.notSynchronized
  have w0_ := hts _ q20
  have w1_ := hts _ q537
  have w2_ := hts _ q914
  subst hsz
  have hD := hD0.self (sz := s.heap.size)
  generalize hAe : va_A (wX10_place h0 h1 V0 V1 v1_fault v1_faultAt) s.heap.size = A at hD ⊢
  have hA : ∀ q : Nat, s.heap.size ≤ q → A q := fun q h => by rw [← hAe]; exact Or.inr h
  have hAB : ∀ q : Nat, A q → base.1 ≤ q := fun q h => by rw [← hAe] at h; exact h.elim (fun ⟨k, e, hk⟩ => hD0.2 k _ hk) (fun hk => Nat.le_trans hE.1 hk)
  have hS : va_S A s.heap s.heap [] := va_S.rf
  have hl := lv_entry ([.ref h0]) (n := 1) (Nat.le_of_ble_eq_true rfl)
  rw [lg_entry_eq]
  generalize (lg_sl ([.ref h0]) ++ List.replicate (1 - (lg_sl ([.ref h0])).length) Slot.unset).toArray = ls at hl ⊢
  have hl : lv_has ls 1 [(0, .ref h0)] := hl
  have hP : va_P (dC, dI) vwCl (wX10_place h0 h1 V0 V1 v1_fault v1_faultAt) s.heap := hP
  refine gl_intro (fun G hG => ?_)
  have J21 : ∀ (z0 : Int32) (H : Heap) (locs : List Loc) (ls : Array Slot), va_P (dC, dI) vwCl (wX10_place h0 h1 V0 V1 v1_fault v1_faultAt) H → va_D A (wX10_place h0 h1 V0 V1 v1_fault v1_faultAt) → va_S A s.heap H locs → lv_has ls 1 [(0, .ref h0)] → fX10_place_p21 v1_fault v1_faultAt  z0 = some o → G 0 0 H locs (F0 m 21 ls [.int z0]) := by
    intro  z0 H locs ls hP hD hS hl hf
    refine (hG _ _ _ _ _).mpr ?_
    unfold fX10_place_p21 at hf
    have hf1 := Option.some.inj hf
    subst hf1
    have hP9 := hP.sub (ws' := (wX10_place h0 h1 V0 V1 v1_fault v1_faultAt)) [0, 1] rfl
    have hD9 := hD.sub (ws' := (wX10_place h0 h1 V0 V1 v1_fault v1_faultAt)) [0, 1] (by decide) rfl
    exact W.iret (v := z0) hx hb hr (fun t ht hW => ⟨⟨z0, (), rfl, ⟨rfl, rfl⟩, by rw [ht]; exact hP9, va_K.moved hW.alike hK, hD9⟩, hS.F ht⟩) hS.2.2 dX10_place_21
  refine (hG _ _ _ _ _).mpr ?_
  obtain ⟨H, hH⟩ : ∃ H, H = s.heap := ⟨_, rfl⟩
  have hS : va_S A s.heap H [] := by rw [hH]; exact hS
  rw [← hH] at hP ⊢
  generalize ([] : List Loc) = locs at hS ⊢
  unfold fX10_place at hf
  refine lv_aload_n hx hb dX10_place_0 rfl (lv_at hl 0 rfl) ?_
  refine va_get (D := (dC, dI)) (ci := 10) (v := .ref h1) (C := RX10) (T := TX10) (N := 12) hx hb hts inlX10 hown hK hP 0 rfl rfl 1 (by decide) w0_ (fun _ h9 => h9) rfl dX10_place_1 ?_
  refine va_get (D := (dC, dI)) (ci := 4) (v := .int v1_fault) (C := RX4) (T := TX4) (N := 8) hx hb hts inlX4 hown hK hP 1 rfl rfl 3 (by decide) w1_ (fun _ h9 => h9) rfl dX10_place_4 ?_
  refine lv_if_ne (tgt := 14) hx hb dX10_place_7 (by decide) (fun cq1 => ?_) (fun cq1 => ?_)
  · replace hf := if_no hf cq1
    refine lv_aload_n hx hb dX10_place_14 rfl (lv_at hl 0 rfl) ?_
    refine va_get (D := (dC, dI)) (ci := 10) (v := .ref h1) (C := RX10) (T := TX10) (N := 12) hx hb hts inlX10 hown hK hP 0 rfl rfl 1 (by decide) w0_ (fun _ h9 => h9) rfl dX10_place_15 ?_
    refine va_get (D := (dC, dI)) (ci := 4) (v := .int v1_faultAt) (C := RX4) (T := TX4) (N := 8) hx hb hts inlX4 hown hK hP 1 rfl rfl 4 (by decide) w2_ (fun _ h9 => h9) rfl dX10_place_18 ?_
    exact (hG _ _ _ _ _).mp (J21 v1_faultAt H locs ls (hP.sub [0, 1] rfl) (hD.sub [0, 1] (by decide) rfl) hS (lv_sub hl [0] rfl) hf)
  · replace hf := if_at hf cq1
    refine lv_iconst (v := (-1)) hx hb dX10_place_10 (by decide +kernel) ?_
    refine lv_goto (tgt := 21) hx hb dX10_place_11 (by decide) ?_
    exact (hG _ _ _ _ _).mp (J21 (-1) H locs ls (hP.sub [0, 1] rfl) (hD.sub [0, 1] (by decide) rfl) hS (lv_sub hl [0] rfl) hf)
abbrev wX10_push (h0 h1 h2 : Nat) (kc2 : ClassId) (V0 : Nat → Value) (V1 : Nat → Value) (v1_height : Int32) (v1_wordChanges : Int32) (c2 : Nat → Int32) : va_W := [(h0, .inr (10, [.ref h1, V0 1, V0 2, V0 3, V0 4, V0 5, V0 6, V0 7, V0 8, V0 9, V0 10, V0 11])), (h1, .inr (6, [V1 0, V1 1, V1 2, V1 3, V1 4, V1 5, V1 6, V1 7, V1 8, .ref h2, .int v1_height, V1 11, .int v1_wordChanges, V1 13])), (h2, .inl (kc2, 30, .inl c2))]
set_option maxHeartbeats 4000000 in
set_option maxRecDepth 100000 in
theorem mX10_push (l : Launch) (dC : Nat → ClassId) (dI : Nat → Nat → Nat) (h0 h1 h2 : Nat) (kc2 : ClassId) (sz : Nat) (base : Nat × Nat × Nat) (a0 : Int32) (v1_height : Int32) (v1_wordChanges : Int32) (c2 : Nat → Int32) (V0 : Nat → Value) (V1 : Nat → Value) (o : Int32 × Int32 × Int32 × (Nat → Int32)) (hf : fX10_push a0 v1_height v1_wordChanges c2 = some o) : Met l yX10_push (.code yX10_push cX10_push 2 (some .int) :: wsL_law) ({ frames := 1, cells := 0, slots := 0, locals := 21 }) (cPre (dC, dI) vwCl [.ref h0, .int a0] sz base (wX10_push h0 h1 h2 kc2 V0 V1 v1_height v1_wordChanges c2) [(kc2, .int)]) (va_Qi (fun r u => r = o.1 ∧ u = o.2) (fun (u : Int32 × Int32 × (Nat → Int32)) t => cPost (dC, dI) vwCl (va_A (wX10_push h0 h1 h2 kc2 V0 V1 v1_height v1_wordChanges c2) sz) (wX10_push h0 h1 h2 kc2 V0 V1 u.1 u.2.1 u.2.2) [(kc2, .int)] t) (va_A (wX10_push h0 h1 h2 kc2 V0 V1 v1_height v1_wordChanges c2) sz)) 0 0 (va_A (wX10_push h0 h1 h2 kc2 V0 V1 v1_height v1_wordChanges c2) sz) := by
  refine Met.ofW (cc := cX10_push) (maxL := 2) (ret := (some .int)) (by decide) rfl ?_
  intro p e s m args below meth c s₁ B hml hv
  obtain ⟨rfl, hsz, hP, hK, hD0, hE⟩ := hv
  have hx := B.exec
  have hb := B.bytes
  have hr := B.returns
  have hts : ∀ w ∈ wsL_law, _ := fun w h => atoms_spec (ws := .code yX10_push cX10_push 2 (some .int) :: wsL_law) B.pre w (List.mem_cons_of_mem _ h)
  have hown : s.vm.findClass RX10 = some m.cls := findClass_of_methodNamed B.named
  have hlocks := B.notSynchronized
  have w0_ := hts _ q16
  subst hsz
  have hD := hD0.self (sz := s.heap.size)
  generalize hAe : va_A (wX10_push h0 h1 h2 kc2 V0 V1 v1_height v1_wordChanges c2) s.heap.size = A at hD ⊢
  have hA : ∀ q : Nat, s.heap.size ≤ q → A q := fun q h => by rw [← hAe]; exact Or.inr h
  have hAB : ∀ q : Nat, A q → base.1 ≤ q := fun q h => by rw [← hAe] at h; exact h.elim (fun ⟨k, e, hk⟩ => hD0.2 k _ hk) (fun hk => Nat.le_trans hE.1 hk)
  have hS : va_S A s.heap s.heap [] := va_S.rf
  have hl := lv_entry ([.ref h0, .int a0]) (n := 2) (Nat.le_of_ble_eq_true rfl)
  rw [lg_entry_eq]
  generalize (lg_sl ([.ref h0, .int a0]) ++ List.replicate (2 - (lg_sl ([.ref h0, .int a0])).length) Slot.unset).toArray = ls at hl ⊢
  have hl : lv_has ls 2 [(0, .ref h0), (1, .int a0)] := hl
  have hP : va_P (dC, dI) vwCl (wX10_push h0 h1 h2 kc2 V0 V1 v1_height v1_wordChanges c2) s.heap := hP
  refine gl_intro (fun G hG => ?_)
  have J20 : ∀ (z0 : Int32) (v1_height : Int32) (v1_wordChanges : Int32) (c2 : (Nat → Int32)) (H : Heap) (locs : List Loc) (ls : Array Slot), va_P (dC, dI) vwCl (wX10_push h0 h1 h2 kc2 V0 V1 v1_height v1_wordChanges c2) H → va_D A (wX10_push h0 h1 h2 kc2 V0 V1 v1_height v1_wordChanges c2) → va_S A s.heap H locs → lv_has ls 2 [(0, .ref h0)] → fX10_push_p20   z0 v1_height v1_wordChanges c2 = some o → G 0 0 H locs (F0 m 20 ls [.int z0]) := by
    intro  z0 v1_height v1_wordChanges c2 H locs ls hP hD hS hl hf
    refine (hG _ _ _ _ _).mpr ?_
    unfold fX10_push_p20 at hf
    have hf1 := Option.some.inj hf
    subst hf1
    have hP9 := hP.sub (ws' := (wX10_push h0 h1 h2 kc2 V0 V1 v1_height v1_wordChanges c2)) [0, 1, 2] rfl
    have hD9 := hD.sub (ws' := (wX10_push h0 h1 h2 kc2 V0 V1 v1_height v1_wordChanges c2)) [0, 1, 2] (by decide) rfl
    exact W.iret (v := z0) hx hb hr (fun t ht hW => ⟨⟨z0, (v1_height, v1_wordChanges, c2), rfl, ⟨rfl, rfl⟩, by rw [ht]; exact hP9, va_K.moved hW.alike hK, hD9⟩, hS.F ht⟩) hS.2.2 dX10_push_20
  refine (hG _ _ _ _ _).mpr ?_
  obtain ⟨H, hH⟩ : ∃ H, H = s.heap := ⟨_, rfl⟩
  have hS : va_S A s.heap H [] := by rw [hH]; exact hS
  rw [← hH] at hP ⊢
  generalize ([] : List Loc) = locs at hS ⊢
  unfold fX10_push at hf
  refine lv_iload_n hx hb dX10_push_0 rfl (lv_at hl 1 rfl) ?_
  obtain ⟨o1, e1, hf⟩ := ob_some hf
  refine kSi (As := [.int a0]) (rest := []) ⟨hx, hb, hml, hown, hts⟩ (mX10_isSign l dC dI H.size base a0 o1 e1) (va_cwS 1 hts (gTS q133 q134 q2 q135) rfl rfl rfl (by decide +kernel) ⟨Nat.le_of_ble_eq_true rfl, Nat.le_of_ble_eq_true rfl⟩) hK hP hD hS hA hE hAB [] [0, 1, 2] [] (wr := (wX10_push h0 h1 h2 kc2 V0 V1 v1_height v1_wordChanges c2)) rfl rfl (by decide) (by decide) (by decide) rfl rfl hl.1 rfl (Nat.le_of_ble_eq_true rfl) dX10_push_1 ⟨Nat.zero_le _, Nat.zero_le _⟩ (fun r1 u1 H locs hw1 hP hD hS => ?_)
  obtain ⟨hw11, hw12⟩ := hw1
  subst hw11 hw12
  have hP : va_P (dC, dI) vwCl (wX10_push h0 h1 h2 kc2 V0 V1 v1_height v1_wordChanges c2) H := hP.sub [0, 1, 2] rfl
  have hD : va_D A (wX10_push h0 h1 h2 kc2 V0 V1 v1_height v1_wordChanges c2) := hD.sub [0, 1, 2] (by decide) rfl
  refine lv_if_eq (tgt := 18) hx hb dX10_push_4 (by decide) (fun cq2 => ?_) (fun cq2 => ?_)
  · replace hf := if_at hf cq2
    refine lv_bipush (v := (-2)) hx hb dX10_push_18 (by decide +kernel) ?_
    exact (hG _ _ _ _ _).mp (J20 (-2) v1_height v1_wordChanges c2 H locs ls (hP.sub [0, 1, 2] rfl) (hD.sub [0, 1, 2] (by decide) rfl) hS (lv_sub hl [0] rfl) hf)
  · replace hf := if_no hf cq2
    refine lv_aload_n hx hb dX10_push_7 rfl (lv_at hl 0 rfl) ?_
    refine va_get (D := (dC, dI)) (ci := 10) (v := .ref h1) (C := RX10) (T := TX10) (N := 12) hx hb hts inlX10 hown hK hP 0 rfl rfl 0 (by decide) w0_ (fun _ h9 => h9) rfl dX10_push_8 ?_
    refine lv_iload_n hx hb dX10_push_11 rfl (lv_at hl 1 rfl) ?_
    obtain ⟨o3, e3, hf⟩ := ob_some hf
    refine kVi (As := [.int a0]) (rest := []) ⟨hx, hb, hml, hown, hts⟩ (mX6_addToWord l dC dI h1 h2 kc2 H.size base a0 v1_height v1_wordChanges c2 V1 o3 e3) (cwV 1 hts (gTV q206 q207 q208 q15 q209) rfl rfl rfl (by decide +kernel) ⟨Nat.le_of_ble_eq_true rfl, Nat.le_of_ble_eq_true rfl⟩) hK hP hD hS hA hE hAB [1, 2] [0] [0] (wr := [(h0, .inr (10, [.ref h1, V0 1, V0 2, V0 3, V0 4, V0 5, V0 6, V0 7, V0 8, V0 9, V0 10, V0 11]))]) rfl rfl (by decide) (by decide) (by decide) rfl (ci := 6) (q0 := 0) rfl rfl rfl rfl hl.1 rfl (Nat.le_of_ble_eq_true rfl) dX10_push_12 ⟨Nat.zero_le _, Nat.zero_le _⟩ (fun r3 u3 H locs hw3 hP hD hS => ?_)
    obtain ⟨hw31, hw32⟩ := hw3
    subst hw31 hw32
    have hP : va_P (dC, dI) vwCl (wX10_push h0 h1 h2 kc2 V0 V1 o3.2.1 o3.2.2.1 o3.2.2.2) H := hP.sub [0, 1, 2] rfl
    have hD : va_D A (wX10_push h0 h1 h2 kc2 V0 V1 o3.2.1 o3.2.2.1 o3.2.2.2) := hD.sub [0, 1, 2] (by decide) rfl
    refine lv_goto (tgt := 20) hx hb dX10_push_15 (by decide) ?_
    exact (hG _ _ _ _ _).mp (J20 o3.1 o3.2.1 o3.2.2.1 o3.2.2.2 H locs ls (hP.sub [0, 1, 2] rfl) (hD.sub [0, 1, 2] (by decide) rfl) hS (lv_sub hl [0] rfl) hf)
abbrev wX10_read (h0 h1 h2 h3 h4 h5 h6 h7 h8 h9 h10 h11 h12 h13 h14 h15 h16 h17 h18 h19 h20 h21 h22 : Nat) (kc4 kc5 kc6 kc7 kc8 kc9 kc10 kc11 kc12 kc13 kc14 kc15 kc16 kc17 kc18 kc19 kc20 kc21 kc22 : ClassId) (V0 : Nat → Value) (v0_isChecked : Int32) (v1_locals : Int32) (v2_isThere : Int32) (v2_globals : Int32) (v2_procedures : Int32) (v2_statements : Int32) (v3_token : Int32) (v3_tokenAt : Int32) (v3_name : Int64) (v3_fault : Int32) (v3_faultAt : Int32) (v3_size : Int32) (v3_next : Int32) (c4 : Nat → Int32) (c5 : Nat → Int64) (c6 : Nat → Int64) (c7 : Nat → Int32) (c8 : Nat → Int32) (c9 : Nat → Int32) (c10 : Nat → Int64) (c11 : Nat → Int32) (c12 : Nat → Int32) (c13 : Nat → Int32) (c14 : Nat → Int32) (c15 : Nat → Int32) (c16 : Nat → Int32) (c17 : Nat → Int64) (c18 : Nat → Int32) (c19 : Nat → Int32) (c20 : Nat → Int32) (c21 : Nat → Int32) (c22 : Nat → Int32) : va_W := [(h0, .inr (10, [V0 0, .ref h3, .ref h2, .ref h1, V0 4, V0 5, V0 6, V0 7, V0 8, V0 9, .int v0_isChecked, V0 11])), (h1, .inr (2, [.ref h3, .ref h2, .ref h5, .int v1_locals, .ref h6, .ref h17, .ref h18])), (h2, .inr (3, [.int v2_isThere, .int v2_globals, .int v2_procedures, .int v2_statements, .ref h19, .ref h7, .ref h8, .ref h9, .ref h10, .ref h11, .ref h12, .ref h22, .ref h21, .ref h13, .ref h14, .ref h15, .ref h16, .ref h20])), (h3, .inr (4, [.int v3_token, .int v3_tokenAt, .long v3_name, .int v3_fault, .int v3_faultAt, .ref h4, .int v3_size, .int v3_next])), (h4, .inl (kc4, 600, .inl c4)), (h5, .inl (kc5, 5, .inr (.inl c5))), (h6, .inl (kc6, 6, .inr (.inl c6))), (h7, .inl (kc7, 40, .inl c7)), (h8, .inl (kc8, 40, .inl c8)), (h9, .inl (kc9, 40, .inl c9)), (h10, .inl (kc10, 40, .inr (.inl c10))), (h11, .inl (kc11, 40, .inl c11)), (h12, .inl (kc12, 40, .inl c12)), (h13, .inl (kc13, 40, .inl c13)), (h14, .inl (kc14, 40, .inl c14)), (h15, .inl (kc15, 40, .inl c15)), (h16, .inl (kc16, 40, .inl c16)), (h17, .inl (kc17, 40, .inr (.inl c17))), (h18, .inl (kc18, 40, .inl c18)), (h19, .inl (kc19, 6, .inl c19)), (h20, .inl (kc20, 40, .inl c20)), (h21, .inl (kc21, 40, .inl c21)), (h22, .inl (kc22, 40, .inl c22))]
set_option maxHeartbeats 4000000 in
set_option maxRecDepth 100000 in
theorem mX10_read (l : Launch) (dC : Nat → ClassId) (dI : Nat → Nat → Nat) (h0 h1 h2 h3 h4 h5 h6 h7 h8 h9 h10 h11 h12 h13 h14 h15 h16 h17 h18 h19 h20 h21 h22 : Nat) (kc4 kc5 kc6 kc7 kc8 kc9 kc10 kc11 kc12 kc13 kc14 kc15 kc16 kc17 kc18 kc19 kc20 kc21 kc22 : ClassId) (sz : Nat) (base : Nat × Nat × Nat) (v0_isChecked : Int32) (v1_locals : Int32) (v2_isThere : Int32) (v2_globals : Int32) (v2_procedures : Int32) (v2_statements : Int32) (v3_token : Int32) (v3_tokenAt : Int32) (v3_name : Int64) (v3_fault : Int32) (v3_faultAt : Int32) (v3_size : Int32) (v3_next : Int32) (c4 : Nat → Int32) (c5 : Nat → Int64) (c6 : Nat → Int64) (c7 : Nat → Int32) (c8 : Nat → Int32) (c9 : Nat → Int32) (c10 : Nat → Int64) (c11 : Nat → Int32) (c12 : Nat → Int32) (c13 : Nat → Int32) (c14 : Nat → Int32) (c15 : Nat → Int32) (c16 : Nat → Int32) (c17 : Nat → Int64) (c18 : Nat → Int32) (c19 : Nat → Int32) (c20 : Nat → Int32) (c21 : Nat → Int32) (c22 : Nat → Int32) (V0 : Nat → Value) (o : Int32 × Int32 × Int32 × Int32 × Int32 × Int32 × Int32 × Int32 × Int32 × Int64 × Int32 × Int32 × Int32 × Int32 × (Nat → Int64) × (Nat → Int64) × (Nat → Int32) × (Nat → Int32) × (Nat → Int32) × (Nat → Int64) × (Nat → Int32) × (Nat → Int32) × (Nat → Int32) × (Nat → Int32) × (Nat → Int32) × (Nat → Int32) × (Nat → Int64) × (Nat → Int32) × (Nat → Int32) × (Nat → Int32) × (Nat → Int32) × (Nat → Int32)) (hf : fX10_read v0_isChecked v1_locals v2_isThere v2_globals v2_procedures v2_statements v3_token v3_tokenAt v3_name v3_fault v3_faultAt v3_size v3_next c4 c5 c6 c7 c8 c9 c10 c11 c12 c13 c14 c15 c16 c17 c18 c19 c20 c21 c22 = some o) : Met l yX10_read (.code yX10_read cX10_read 1 (some .int) :: wsL_law) ({ frames := 104, cells := 0, slots := 0, locals := 2488 }) (cPre (dC, dI) vwCl [.ref h0] sz base (wX10_read h0 h1 h2 h3 h4 h5 h6 h7 h8 h9 h10 h11 h12 h13 h14 h15 h16 h17 h18 h19 h20 h21 h22 kc4 kc5 kc6 kc7 kc8 kc9 kc10 kc11 kc12 kc13 kc14 kc15 kc16 kc17 kc18 kc19 kc20 kc21 kc22 V0 v0_isChecked v1_locals v2_isThere v2_globals v2_procedures v2_statements v3_token v3_tokenAt v3_name v3_fault v3_faultAt v3_size v3_next c4 c5 c6 c7 c8 c9 c10 c11 c12 c13 c14 c15 c16 c17 c18 c19 c20 c21 c22) [(kc4, .byte), (kc5, .long), (kc6, .long), (kc7, .int), (kc8, .int), (kc9, .int), (kc10, .long), (kc11, .int), (kc12, .int), (kc13, .int), (kc14, .int), (kc15, .int), (kc16, .int), (kc17, .long), (kc18, .int), (kc19, .int), (kc20, .int), (kc21, .int), (kc22, .int)]) (va_Qi (fun r u => r = o.1 ∧ u = o.2) (fun (u : Int32 × Int32 × Int32 × Int32 × Int32 × Int32 × Int32 × Int32 × Int64 × Int32 × Int32 × Int32 × Int32 × (Nat → Int64) × (Nat → Int64) × (Nat → Int32) × (Nat → Int32) × (Nat → Int32) × (Nat → Int64) × (Nat → Int32) × (Nat → Int32) × (Nat → Int32) × (Nat → Int32) × (Nat → Int32) × (Nat → Int32) × (Nat → Int64) × (Nat → Int32) × (Nat → Int32) × (Nat → Int32) × (Nat → Int32) × (Nat → Int32)) t => cPost (dC, dI) vwCl (va_A (wX10_read h0 h1 h2 h3 h4 h5 h6 h7 h8 h9 h10 h11 h12 h13 h14 h15 h16 h17 h18 h19 h20 h21 h22 kc4 kc5 kc6 kc7 kc8 kc9 kc10 kc11 kc12 kc13 kc14 kc15 kc16 kc17 kc18 kc19 kc20 kc21 kc22 V0 v0_isChecked v1_locals v2_isThere v2_globals v2_procedures v2_statements v3_token v3_tokenAt v3_name v3_fault v3_faultAt v3_size v3_next c4 c5 c6 c7 c8 c9 c10 c11 c12 c13 c14 c15 c16 c17 c18 c19 c20 c21 c22) sz) (wX10_read h0 h1 h2 h3 h4 h5 h6 h7 h8 h9 h10 h11 h12 h13 h14 h15 h16 h17 h18 h19 h20 h21 h22 kc4 kc5 kc6 kc7 kc8 kc9 kc10 kc11 kc12 kc13 kc14 kc15 kc16 kc17 kc18 kc19 kc20 kc21 kc22 V0 u.1 u.2.1 u.2.2.1 u.2.2.2.1 u.2.2.2.2.1 u.2.2.2.2.2.1 u.2.2.2.2.2.2.1 u.2.2.2.2.2.2.2.1 u.2.2.2.2.2.2.2.2.1 u.2.2.2.2.2.2.2.2.2.1 u.2.2.2.2.2.2.2.2.2.2.1 u.2.2.2.2.2.2.2.2.2.2.2.1 u.2.2.2.2.2.2.2.2.2.2.2.2.1 c4 u.2.2.2.2.2.2.2.2.2.2.2.2.2.1 u.2.2.2.2.2.2.2.2.2.2.2.2.2.2.1 u.2.2.2.2.2.2.2.2.2.2.2.2.2.2.2.1 u.2.2.2.2.2.2.2.2.2.2.2.2.2.2.2.2.1 u.2.2.2.2.2.2.2.2.2.2.2.2.2.2.2.2.2.1 u.2.2.2.2.2.2.2.2.2.2.2.2.2.2.2.2.2.2.1 u.2.2.2.2.2.2.2.2.2.2.2.2.2.2.2.2.2.2.2.1 u.2.2.2.2.2.2.2.2.2.2.2.2.2.2.2.2.2.2.2.2.1 u.2.2.2.2.2.2.2.2.2.2.2.2.2.2.2.2.2.2.2.2.2.1 u.2.2.2.2.2.2.2.2.2.2.2.2.2.2.2.2.2.2.2.2.2.2.1 u.2.2.2.2.2.2.2.2.2.2.2.2.2.2.2.2.2.2.2.2.2.2.2.1 u.2.2.2.2.2.2.2.2.2.2.2.2.2.2.2.2.2.2.2.2.2.2.2.2.1 u.2.2.2.2.2.2.2.2.2.2.2.2.2.2.2.2.2.2.2.2.2.2.2.2.2.1 u.2.2.2.2.2.2.2.2.2.2.2.2.2.2.2.2.2.2.2.2.2.2.2.2.2.2.1 u.2.2.2.2.2.2.2.2.2.2.2.2.2.2.2.2.2.2.2.2.2.2.2.2.2.2.2.1 u.2.2.2.2.2.2.2.2.2.2.2.2.2.2.2.2.2.2.2.2.2.2.2.2.2.2.2.2.1 u.2.2.2.2.2.2.2.2.2.2.2.2.2.2.2.2.2.2.2.2.2.2.2.2.2.2.2.2.2.1 u.2.2.2.2.2.2.2.2.2.2.2.2.2.2.2.2.2.2.2.2.2.2.2.2.2.2.2.2.2.2) [(kc4, .byte), (kc5, .long), (kc6, .long), (kc7, .int), (kc8, .int), (kc9, .int), (kc10, .long), (kc11, .int), (kc12, .int), (kc13, .int), (kc14, .int), (kc15, .int), (kc16, .int), (kc17, .long), (kc18, .int), (kc19, .int), (kc20, .int), (kc21, .int), (kc22, .int)] t) (va_A (wX10_read h0 h1 h2 h3 h4 h5 h6 h7 h8 h9 h10 h11 h12 h13 h14 h15 h16 h17 h18 h19 h20 h21 h22 kc4 kc5 kc6 kc7 kc8 kc9 kc10 kc11 kc12 kc13 kc14 kc15 kc16 kc17 kc18 kc19 kc20 kc21 kc22 V0 v0_isChecked v1_locals v2_isThere v2_globals v2_procedures v2_statements v3_token v3_tokenAt v3_name v3_fault v3_faultAt v3_size v3_next c4 c5 c6 c7 c8 c9 c10 c11 c12 c13 c14 c15 c16 c17 c18 c19 c20 c21 c22) sz)) 0 0 (va_A (wX10_read h0 h1 h2 h3 h4 h5 h6 h7 h8 h9 h10 h11 h12 h13 h14 h15 h16 h17 h18 h19 h20 h21 h22 kc4 kc5 kc6 kc7 kc8 kc9 kc10 kc11 kc12 kc13 kc14 kc15 kc16 kc17 kc18 kc19 kc20 kc21 kc22 V0 v0_isChecked v1_locals v2_isThere v2_globals v2_procedures v2_statements v3_token v3_tokenAt v3_name v3_fault v3_faultAt v3_size v3_next c4 c5 c6 c7 c8 c9 c10 c11 c12 c13 c14 c15 c16 c17 c18 c19 c20 c21 c22) sz) := by
  refine Met.ofW (cc := cX10_read) (maxL := 1) (ret := (some .int)) (by decide) rfl ?_
  intro p e s m args below meth c s₁ B hml hv
  obtain ⟨rfl, hsz, hP, hK, hD0, hE⟩ := hv
  have hx := B.exec
  have hb := B.bytes
  have hr := B.returns
  have hts : ∀ w ∈ wsL_law, _ := fun w h => atoms_spec (ws := .code yX10_read cX10_read 1 (some .int) :: wsL_law) B.pre w (List.mem_cons_of_mem _ h)
  have hown : s.vm.findClass RX10 = some m.cls := findClass_of_methodNamed B.named
  have hlocks := B.notSynchronized
  have w0_ := hts _ q536
  have w1_ := hts _ q28
  have w2_ := hts _ q20
  have w3_ := hts _ q537
  have w4_ := hts _ q24
  have w5_ := hts _ q538
  subst hsz
  have hD := hD0.self (sz := s.heap.size)
  generalize hAe : va_A (wX10_read h0 h1 h2 h3 h4 h5 h6 h7 h8 h9 h10 h11 h12 h13 h14 h15 h16 h17 h18 h19 h20 h21 h22 kc4 kc5 kc6 kc7 kc8 kc9 kc10 kc11 kc12 kc13 kc14 kc15 kc16 kc17 kc18 kc19 kc20 kc21 kc22 V0 v0_isChecked v1_locals v2_isThere v2_globals v2_procedures v2_statements v3_token v3_tokenAt v3_name v3_fault v3_faultAt v3_size v3_next c4 c5 c6 c7 c8 c9 c10 c11 c12 c13 c14 c15 c16 c17 c18 c19 c20 c21 c22) s.heap.size = A at hD ⊢
  have hA : ∀ q : Nat, s.heap.size ≤ q → A q := fun q h => by rw [← hAe]; exact Or.inr h
  have hAB : ∀ q : Nat, A q → base.1 ≤ q := fun q h => by rw [← hAe] at h; exact h.elim (fun ⟨k, e, hk⟩ => hD0.2 k _ hk) (fun hk => Nat.le_trans hE.1 hk)
  have hS : va_S A s.heap s.heap [] := va_S.rf
  have hl := lv_entry ([.ref h0]) (n := 1) (Nat.le_of_ble_eq_true rfl)
  rw [lg_entry_eq]
  generalize (lg_sl ([.ref h0]) ++ List.replicate (1 - (lg_sl ([.ref h0])).length) Slot.unset).toArray = ls at hl ⊢
  have hl : lv_has ls 1 [(0, .ref h0)] := hl
  have hP : va_P (dC, dI) vwCl (wX10_read h0 h1 h2 h3 h4 h5 h6 h7 h8 h9 h10 h11 h12 h13 h14 h15 h16 h17 h18 h19 h20 h21 h22 kc4 kc5 kc6 kc7 kc8 kc9 kc10 kc11 kc12 kc13 kc14 kc15 kc16 kc17 kc18 kc19 kc20 kc21 kc22 V0 v0_isChecked v1_locals v2_isThere v2_globals v2_procedures v2_statements v3_token v3_tokenAt v3_name v3_fault v3_faultAt v3_size v3_next c4 c5 c6 c7 c8 c9 c10 c11 c12 c13 c14 c15 c16 c17 c18 c19 c20 c21 c22) s.heap := hP
  refine gl_intro (fun G hG => ?_)
  have J42 : ∀ (z0 : Int32) (v0_isChecked : Int32) (v1_locals : Int32) (v2_isThere : Int32) (v2_globals : Int32) (v2_procedures : Int32) (v2_statements : Int32) (v3_token : Int32) (v3_tokenAt : Int32) (v3_name : Int64) (v3_fault : Int32) (v3_faultAt : Int32) (v3_size : Int32) (v3_next : Int32) (c5 : (Nat → Int64)) (c6 : (Nat → Int64)) (c7 : (Nat → Int32)) (c8 : (Nat → Int32)) (c9 : (Nat → Int32)) (c10 : (Nat → Int64)) (c11 : (Nat → Int32)) (c12 : (Nat → Int32)) (c13 : (Nat → Int32)) (c14 : (Nat → Int32)) (c15 : (Nat → Int32)) (c16 : (Nat → Int32)) (c17 : (Nat → Int64)) (c18 : (Nat → Int32)) (c19 : (Nat → Int32)) (c20 : (Nat → Int32)) (c21 : (Nat → Int32)) (c22 : (Nat → Int32)) (H : Heap) (locs : List Loc) (ls : Array Slot), va_P (dC, dI) vwCl (wX10_read h0 h1 h2 h3 h4 h5 h6 h7 h8 h9 h10 h11 h12 h13 h14 h15 h16 h17 h18 h19 h20 h21 h22 kc4 kc5 kc6 kc7 kc8 kc9 kc10 kc11 kc12 kc13 kc14 kc15 kc16 kc17 kc18 kc19 kc20 kc21 kc22 V0 v0_isChecked v1_locals v2_isThere v2_globals v2_procedures v2_statements v3_token v3_tokenAt v3_name v3_fault v3_faultAt v3_size v3_next c4 c5 c6 c7 c8 c9 c10 c11 c12 c13 c14 c15 c16 c17 c18 c19 c20 c21 c22) H → va_D A (wX10_read h0 h1 h2 h3 h4 h5 h6 h7 h8 h9 h10 h11 h12 h13 h14 h15 h16 h17 h18 h19 h20 h21 h22 kc4 kc5 kc6 kc7 kc8 kc9 kc10 kc11 kc12 kc13 kc14 kc15 kc16 kc17 kc18 kc19 kc20 kc21 kc22 V0 v0_isChecked v1_locals v2_isThere v2_globals v2_procedures v2_statements v3_token v3_tokenAt v3_name v3_fault v3_faultAt v3_size v3_next c4 c5 c6 c7 c8 c9 c10 c11 c12 c13 c14 c15 c16 c17 c18 c19 c20 c21 c22) → va_S A s.heap H locs → lv_has ls 1 [(0, .ref h0)] → fX10_read_p42 c4  z0 v0_isChecked v1_locals v2_isThere v2_globals v2_procedures v2_statements v3_token v3_tokenAt v3_name v3_fault v3_faultAt v3_size v3_next c5 c6 c7 c8 c9 c10 c11 c12 c13 c14 c15 c16 c17 c18 c19 c20 c21 c22 = some o → G 0 0 H locs (F0 m 42 ls [.int z0]) := by
    intro  z0 v0_isChecked v1_locals v2_isThere v2_globals v2_procedures v2_statements v3_token v3_tokenAt v3_name v3_fault v3_faultAt v3_size v3_next c5 c6 c7 c8 c9 c10 c11 c12 c13 c14 c15 c16 c17 c18 c19 c20 c21 c22 H locs ls hP hD hS hl hf
    refine (hG _ _ _ _ _).mpr ?_
    unfold fX10_read_p42 at hf
    have hf1 := Option.some.inj hf
    subst hf1
    have hP9 := hP.sub (ws' := (wX10_read h0 h1 h2 h3 h4 h5 h6 h7 h8 h9 h10 h11 h12 h13 h14 h15 h16 h17 h18 h19 h20 h21 h22 kc4 kc5 kc6 kc7 kc8 kc9 kc10 kc11 kc12 kc13 kc14 kc15 kc16 kc17 kc18 kc19 kc20 kc21 kc22 V0 v0_isChecked v1_locals v2_isThere v2_globals v2_procedures v2_statements v3_token v3_tokenAt v3_name v3_fault v3_faultAt v3_size v3_next c4 c5 c6 c7 c8 c9 c10 c11 c12 c13 c14 c15 c16 c17 c18 c19 c20 c21 c22)) [0, 1, 2, 3, 4, 5, 6, 7, 8, 9, 10, 11, 12, 13, 14, 15, 16, 17, 18, 19, 20, 21, 22] rfl
    have hD9 := hD.sub (ws' := (wX10_read h0 h1 h2 h3 h4 h5 h6 h7 h8 h9 h10 h11 h12 h13 h14 h15 h16 h17 h18 h19 h20 h21 h22 kc4 kc5 kc6 kc7 kc8 kc9 kc10 kc11 kc12 kc13 kc14 kc15 kc16 kc17 kc18 kc19 kc20 kc21 kc22 V0 v0_isChecked v1_locals v2_isThere v2_globals v2_procedures v2_statements v3_token v3_tokenAt v3_name v3_fault v3_faultAt v3_size v3_next c4 c5 c6 c7 c8 c9 c10 c11 c12 c13 c14 c15 c16 c17 c18 c19 c20 c21 c22)) [0, 1, 2, 3, 4, 5, 6, 7, 8, 9, 10, 11, 12, 13, 14, 15, 16, 17, 18, 19, 20, 21, 22] (by decide) rfl
    exact W.iret (v := z0) hx hb hr (fun t ht hW => ⟨⟨z0, (v0_isChecked, v1_locals, v2_isThere, v2_globals, v2_procedures, v2_statements, v3_token, v3_tokenAt, v3_name, v3_fault, v3_faultAt, v3_size, v3_next, c5, c6, c7, c8, c9, c10, c11, c12, c13, c14, c15, c16, c17, c18, c19, c20, c21, c22), rfl, ⟨rfl, rfl⟩, by rw [ht]; exact hP9, va_K.moved hW.alike hK, hD9⟩, hS.F ht⟩) hS.2.2 dX10_read_42
  refine (hG _ _ _ _ _).mpr ?_
  obtain ⟨H, hH⟩ : ∃ H, H = s.heap := ⟨_, rfl⟩
  have hS : va_S A s.heap H [] := by rw [hH]; exact hS
  rw [← hH] at hP ⊢
  generalize ([] : List Loc) = locs at hS ⊢
  unfold fX10_read at hf
  refine lv_aload_n hx hb dX10_read_0 rfl (lv_at hl 0 rfl) ?_
  refine lv_iconst (v := 0) hx hb dX10_read_1 (by decide +kernel) ?_
  refine va_put (D := (dC, dI)) (ci := 10) (v := .int 0) (ty := .boolean) (C := RX10) (T := TX10) (N := 12) hx hb hts inlX10 tyX10 tyX10_ok nmX10 hown hK hP hD hS 0 rfl rfl 10 (by decide) w0_ (fun _ h9 => h9) rfl (by decide +kernel) rfl rfl (Nat.le_of_ble_eq_true rfl) dX10_read_2 (fun H locs hP hD hS => ?_)
  have hP : va_P (dC, dI) vwCl (wX10_read h0 h1 h2 h3 h4 h5 h6 h7 h8 h9 h10 h11 h12 h13 h14 h15 h16 h17 h18 h19 h20 h21 h22 kc4 kc5 kc6 kc7 kc8 kc9 kc10 kc11 kc12 kc13 kc14 kc15 kc16 kc17 kc18 kc19 kc20 kc21 kc22 V0 0 v1_locals v2_isThere v2_globals v2_procedures v2_statements v3_token v3_tokenAt v3_name v3_fault v3_faultAt v3_size v3_next c4 c5 c6 c7 c8 c9 c10 c11 c12 c13 c14 c15 c16 c17 c18 c19 c20 c21 c22) H := hP
  have hD : va_D A (wX10_read h0 h1 h2 h3 h4 h5 h6 h7 h8 h9 h10 h11 h12 h13 h14 h15 h16 h17 h18 h19 h20 h21 h22 kc4 kc5 kc6 kc7 kc8 kc9 kc10 kc11 kc12 kc13 kc14 kc15 kc16 kc17 kc18 kc19 kc20 kc21 kc22 V0 0 v1_locals v2_isThere v2_globals v2_procedures v2_statements v3_token v3_tokenAt v3_name v3_fault v3_faultAt v3_size v3_next c4 c5 c6 c7 c8 c9 c10 c11 c12 c13 c14 c15 c16 c17 c18 c19 c20 c21 c22) := hD
  refine lv_aload_n hx hb dX10_read_5 rfl (lv_at hl 0 rfl) ?_
  refine va_get (D := (dC, dI)) (ci := 10) (v := .ref h1) (C := RX10) (T := TX10) (N := 12) hx hb hts inlX10 hown hK hP 0 rfl rfl 3 (by decide) w1_ (fun _ h9 => h9) rfl dX10_read_6 ?_
  obtain ⟨o1, e1, hf⟩ := ob_some hf
  refine kVv (As := []) (rest := []) ⟨hx, hb, hml, hown, hts⟩ (mX2_readProgram l dC dI h1 h2 h3 h4 h5 h6 h7 h8 h9 h10 h11 h12 h13 h14 h15 h16 h17 h18 h19 h20 h21 h22 kc4 kc5 kc6 kc7 kc8 kc9 kc10 kc11 kc12 kc13 kc14 kc15 kc16 kc17 kc18 kc19 kc20 kc21 kc22 H.size base v1_locals v2_isThere v2_globals v2_procedures v2_statements v3_token v3_tokenAt v3_name v3_fault v3_faultAt v3_size v3_next c4 c5 c6 c7 c8 c9 c10 c11 c12 c13 c14 c15 c16 c17 c18 c19 c20 c21 c22 o1 e1) (cwV 0 hts (gTV q539 q540 q541 q27 q542) rfl rfl rfl (by decide +kernel) ⟨Nat.le_of_ble_eq_true rfl, Nat.le_of_ble_eq_true rfl⟩) hK hP hD hS hA hE hAB [1, 2, 3, 4, 5, 6, 7, 8, 9, 10, 11, 12, 13, 14, 15, 16, 17, 18, 19, 20, 21, 22] [0] [0, 1, 2, 3, 4, 5, 6, 7, 8, 9, 10, 11, 12, 13, 14, 15, 16, 17, 18] (wr := [(h0, .inr (10, [V0 0, .ref h3, .ref h2, .ref h1, V0 4, V0 5, V0 6, V0 7, V0 8, V0 9, .int 0, V0 11]))]) rfl rfl (by decide) (by decide) (by decide) rfl (ci := 2) (q0 := 0) rfl rfl rfl rfl hl.1 rfl (Nat.le_of_ble_eq_true rfl) dX10_read_9 ⟨Nat.zero_le _, Nat.zero_le _⟩ (fun u1 H locs hw1 hP hD hS => ?_)
  have hw11 : o1 = u1 := Eq.symm hw1
  subst hw11
  have hP : va_P (dC, dI) vwCl (wX10_read h0 h1 h2 h3 h4 h5 h6 h7 h8 h9 h10 h11 h12 h13 h14 h15 h16 h17 h18 h19 h20 h21 h22 kc4 kc5 kc6 kc7 kc8 kc9 kc10 kc11 kc12 kc13 kc14 kc15 kc16 kc17 kc18 kc19 kc20 kc21 kc22 V0 0 o1.1 o1.2.1 o1.2.2.1 o1.2.2.2.1 o1.2.2.2.2.1 o1.2.2.2.2.2.1 o1.2.2.2.2.2.2.1 o1.2.2.2.2.2.2.2.1 o1.2.2.2.2.2.2.2.2.1 o1.2.2.2.2.2.2.2.2.2.1 o1.2.2.2.2.2.2.2.2.2.2.1 o1.2.2.2.2.2.2.2.2.2.2.2.1 c4 o1.2.2.2.2.2.2.2.2.2.2.2.2.1 o1.2.2.2.2.2.2.2.2.2.2.2.2.2.1 o1.2.2.2.2.2.2.2.2.2.2.2.2.2.2.1 o1.2.2.2.2.2.2.2.2.2.2.2.2.2.2.2.1 o1.2.2.2.2.2.2.2.2.2.2.2.2.2.2.2.2.1 o1.2.2.2.2.2.2.2.2.2.2.2.2.2.2.2.2.2.1 o1.2.2.2.2.2.2.2.2.2.2.2.2.2.2.2.2.2.2.1 o1.2.2.2.2.2.2.2.2.2.2.2.2.2.2.2.2.2.2.2.1 o1.2.2.2.2.2.2.2.2.2.2.2.2.2.2.2.2.2.2.2.2.1 o1.2.2.2.2.2.2.2.2.2.2.2.2.2.2.2.2.2.2.2.2.2.1 o1.2.2.2.2.2.2.2.2.2.2.2.2.2.2.2.2.2.2.2.2.2.2.1 o1.2.2.2.2.2.2.2.2.2.2.2.2.2.2.2.2.2.2.2.2.2.2.2.1 o1.2.2.2.2.2.2.2.2.2.2.2.2.2.2.2.2.2.2.2.2.2.2.2.2.1 o1.2.2.2.2.2.2.2.2.2.2.2.2.2.2.2.2.2.2.2.2.2.2.2.2.2.1 o1.2.2.2.2.2.2.2.2.2.2.2.2.2.2.2.2.2.2.2.2.2.2.2.2.2.2.1 o1.2.2.2.2.2.2.2.2.2.2.2.2.2.2.2.2.2.2.2.2.2.2.2.2.2.2.2.1 o1.2.2.2.2.2.2.2.2.2.2.2.2.2.2.2.2.2.2.2.2.2.2.2.2.2.2.2.2.1 o1.2.2.2.2.2.2.2.2.2.2.2.2.2.2.2.2.2.2.2.2.2.2.2.2.2.2.2.2.2) H := hP.sub [0, 1, 2, 3, 4, 5, 6, 7, 8, 9, 10, 11, 12, 13, 14, 15, 16, 17, 18, 19, 20, 21, 22] rfl
  have hD : va_D A (wX10_read h0 h1 h2 h3 h4 h5 h6 h7 h8 h9 h10 h11 h12 h13 h14 h15 h16 h17 h18 h19 h20 h21 h22 kc4 kc5 kc6 kc7 kc8 kc9 kc10 kc11 kc12 kc13 kc14 kc15 kc16 kc17 kc18 kc19 kc20 kc21 kc22 V0 0 o1.1 o1.2.1 o1.2.2.1 o1.2.2.2.1 o1.2.2.2.2.1 o1.2.2.2.2.2.1 o1.2.2.2.2.2.2.1 o1.2.2.2.2.2.2.2.1 o1.2.2.2.2.2.2.2.2.1 o1.2.2.2.2.2.2.2.2.2.1 o1.2.2.2.2.2.2.2.2.2.2.1 o1.2.2.2.2.2.2.2.2.2.2.2.1 c4 o1.2.2.2.2.2.2.2.2.2.2.2.2.1 o1.2.2.2.2.2.2.2.2.2.2.2.2.2.1 o1.2.2.2.2.2.2.2.2.2.2.2.2.2.2.1 o1.2.2.2.2.2.2.2.2.2.2.2.2.2.2.2.1 o1.2.2.2.2.2.2.2.2.2.2.2.2.2.2.2.2.1 o1.2.2.2.2.2.2.2.2.2.2.2.2.2.2.2.2.2.1 o1.2.2.2.2.2.2.2.2.2.2.2.2.2.2.2.2.2.2.1 o1.2.2.2.2.2.2.2.2.2.2.2.2.2.2.2.2.2.2.2.1 o1.2.2.2.2.2.2.2.2.2.2.2.2.2.2.2.2.2.2.2.2.1 o1.2.2.2.2.2.2.2.2.2.2.2.2.2.2.2.2.2.2.2.2.2.1 o1.2.2.2.2.2.2.2.2.2.2.2.2.2.2.2.2.2.2.2.2.2.2.1 o1.2.2.2.2.2.2.2.2.2.2.2.2.2.2.2.2.2.2.2.2.2.2.2.1 o1.2.2.2.2.2.2.2.2.2.2.2.2.2.2.2.2.2.2.2.2.2.2.2.2.1 o1.2.2.2.2.2.2.2.2.2.2.2.2.2.2.2.2.2.2.2.2.2.2.2.2.2.1 o1.2.2.2.2.2.2.2.2.2.2.2.2.2.2.2.2.2.2.2.2.2.2.2.2.2.2.1 o1.2.2.2.2.2.2.2.2.2.2.2.2.2.2.2.2.2.2.2.2.2.2.2.2.2.2.2.1 o1.2.2.2.2.2.2.2.2.2.2.2.2.2.2.2.2.2.2.2.2.2.2.2.2.2.2.2.2.1 o1.2.2.2.2.2.2.2.2.2.2.2.2.2.2.2.2.2.2.2.2.2.2.2.2.2.2.2.2.2) := hD.sub [0, 1, 2, 3, 4, 5, 6, 7, 8, 9, 10, 11, 12, 13, 14, 15, 16, 17, 18, 19, 20, 21, 22] (by decide) rfl
  refine lv_aload_n hx hb dX10_read_12 rfl (lv_at hl 0 rfl) ?_
  refine va_get (D := (dC, dI)) (ci := 10) (v := .ref h3) (C := RX10) (T := TX10) (N := 12) hx hb hts inlX10 hown hK hP 0 rfl rfl 1 (by decide) w2_ (fun _ h9 => h9) rfl dX10_read_13 ?_
  refine va_get (D := (dC, dI)) (ci := 4) (v := .int o1.2.2.2.2.2.2.2.2.1) (C := RX4) (T := TX4) (N := 8) hx hb hts inlX4 hown hK hP 3 rfl rfl 3 (by decide) w3_ (fun _ h9 => h9) rfl dX10_read_16 ?_
  refine lv_if_ne (tgt := 32) hx hb dX10_read_19 (by decide) (fun cq2 => ?_) (fun cq2 => ?_)
  · replace hf := if_no hf cq2
    refine lv_bipush (v := (-10)) hx hb dX10_read_32 (by decide +kernel) ?_
    refine lv_aload_n hx hb dX10_read_34 rfl (lv_at hl 0 rfl) ?_
    refine va_get (D := (dC, dI)) (ci := 10) (v := .ref h3) (C := RX10) (T := TX10) (N := 12) hx hb hts inlX10 hown hK hP 0 rfl rfl 1 (by decide) w2_ (fun _ h9 => h9) rfl dX10_read_35 ?_
    refine va_get (D := (dC, dI)) (ci := 4) (v := .int o1.2.2.2.2.2.2.2.2.1) (C := RX4) (T := TX4) (N := 8) hx hb hts inlX4 hown hK hP 3 rfl rfl 3 (by decide) w3_ (fun _ h9 => h9) rfl dX10_read_38 ?_
    refine lv_isub hx hb dX10_read_41 ?_
    refine lv_topi (fun x3 e3 => ?_)
    replace hf := nm_at hf e3
    exact (hG _ _ _ _ _).mp (J42 x3 0 o1.1 o1.2.1 o1.2.2.1 o1.2.2.2.1 o1.2.2.2.2.1 o1.2.2.2.2.2.1 o1.2.2.2.2.2.2.1 o1.2.2.2.2.2.2.2.1 o1.2.2.2.2.2.2.2.2.1 o1.2.2.2.2.2.2.2.2.2.1 o1.2.2.2.2.2.2.2.2.2.2.1 o1.2.2.2.2.2.2.2.2.2.2.2.1 o1.2.2.2.2.2.2.2.2.2.2.2.2.1 o1.2.2.2.2.2.2.2.2.2.2.2.2.2.1 o1.2.2.2.2.2.2.2.2.2.2.2.2.2.2.1 o1.2.2.2.2.2.2.2.2.2.2.2.2.2.2.2.1 o1.2.2.2.2.2.2.2.2.2.2.2.2.2.2.2.2.1 o1.2.2.2.2.2.2.2.2.2.2.2.2.2.2.2.2.2.1 o1.2.2.2.2.2.2.2.2.2.2.2.2.2.2.2.2.2.2.1 o1.2.2.2.2.2.2.2.2.2.2.2.2.2.2.2.2.2.2.2.1 o1.2.2.2.2.2.2.2.2.2.2.2.2.2.2.2.2.2.2.2.2.1 o1.2.2.2.2.2.2.2.2.2.2.2.2.2.2.2.2.2.2.2.2.2.1 o1.2.2.2.2.2.2.2.2.2.2.2.2.2.2.2.2.2.2.2.2.2.2.1 o1.2.2.2.2.2.2.2.2.2.2.2.2.2.2.2.2.2.2.2.2.2.2.2.1 o1.2.2.2.2.2.2.2.2.2.2.2.2.2.2.2.2.2.2.2.2.2.2.2.2.1 o1.2.2.2.2.2.2.2.2.2.2.2.2.2.2.2.2.2.2.2.2.2.2.2.2.2.1 o1.2.2.2.2.2.2.2.2.2.2.2.2.2.2.2.2.2.2.2.2.2.2.2.2.2.2.1 o1.2.2.2.2.2.2.2.2.2.2.2.2.2.2.2.2.2.2.2.2.2.2.2.2.2.2.2.1 o1.2.2.2.2.2.2.2.2.2.2.2.2.2.2.2.2.2.2.2.2.2.2.2.2.2.2.2.2.1 o1.2.2.2.2.2.2.2.2.2.2.2.2.2.2.2.2.2.2.2.2.2.2.2.2.2.2.2.2.2 H locs ls (hP.sub [0, 1, 2, 3, 4, 5, 6, 7, 8, 9, 10, 11, 12, 13, 14, 15, 16, 17, 18, 19, 20, 21, 22] rfl) (hD.sub [0, 1, 2, 3, 4, 5, 6, 7, 8, 9, 10, 11, 12, 13, 14, 15, 16, 17, 18, 19, 20, 21, 22] (by decide) rfl) hS (lv_sub hl [0] rfl) hf)
  · replace hf := if_at hf cq2
    refine lv_aload_n hx hb dX10_read_22 rfl (lv_at hl 0 rfl) ?_
    refine va_get (D := (dC, dI)) (ci := 10) (v := .ref h2) (C := RX10) (T := TX10) (N := 12) hx hb hts inlX10 hown hK hP 0 rfl rfl 2 (by decide) w4_ (fun _ h9 => h9) rfl dX10_read_23 ?_
    refine va_get (D := (dC, dI)) (ci := 3) (v := .int o1.2.2.2.2.1) (C := RX3) (T := TX3) (N := 18) hx hb hts inlX3 hown hK hP 2 rfl rfl 3 (by decide) w5_ (fun _ h9 => h9) rfl dX10_read_26 ?_
    refine lv_goto (tgt := 42) hx hb dX10_read_29 (by decide) ?_
    exact (hG _ _ _ _ _).mp (J42 o1.2.2.2.2.1 0 o1.1 o1.2.1 o1.2.2.1 o1.2.2.2.1 o1.2.2.2.2.1 o1.2.2.2.2.2.1 o1.2.2.2.2.2.2.1 o1.2.2.2.2.2.2.2.1 o1.2.2.2.2.2.2.2.2.1 o1.2.2.2.2.2.2.2.2.2.1 o1.2.2.2.2.2.2.2.2.2.2.1 o1.2.2.2.2.2.2.2.2.2.2.2.1 o1.2.2.2.2.2.2.2.2.2.2.2.2.1 o1.2.2.2.2.2.2.2.2.2.2.2.2.2.1 o1.2.2.2.2.2.2.2.2.2.2.2.2.2.2.1 o1.2.2.2.2.2.2.2.2.2.2.2.2.2.2.2.1 o1.2.2.2.2.2.2.2.2.2.2.2.2.2.2.2.2.1 o1.2.2.2.2.2.2.2.2.2.2.2.2.2.2.2.2.2.1 o1.2.2.2.2.2.2.2.2.2.2.2.2.2.2.2.2.2.2.1 o1.2.2.2.2.2.2.2.2.2.2.2.2.2.2.2.2.2.2.2.1 o1.2.2.2.2.2.2.2.2.2.2.2.2.2.2.2.2.2.2.2.2.1 o1.2.2.2.2.2.2.2.2.2.2.2.2.2.2.2.2.2.2.2.2.2.1 o1.2.2.2.2.2.2.2.2.2.2.2.2.2.2.2.2.2.2.2.2.2.2.1 o1.2.2.2.2.2.2.2.2.2.2.2.2.2.2.2.2.2.2.2.2.2.2.2.1 o1.2.2.2.2.2.2.2.2.2.2.2.2.2.2.2.2.2.2.2.2.2.2.2.2.1 o1.2.2.2.2.2.2.2.2.2.2.2.2.2.2.2.2.2.2.2.2.2.2.2.2.2.1 o1.2.2.2.2.2.2.2.2.2.2.2.2.2.2.2.2.2.2.2.2.2.2.2.2.2.2.1 o1.2.2.2.2.2.2.2.2.2.2.2.2.2.2.2.2.2.2.2.2.2.2.2.2.2.2.2.1 o1.2.2.2.2.2.2.2.2.2.2.2.2.2.2.2.2.2.2.2.2.2.2.2.2.2.2.2.2.1 o1.2.2.2.2.2.2.2.2.2.2.2.2.2.2.2.2.2.2.2.2.2.2.2.2.2.2.2.2.2 H locs ls (hP.sub [0, 1, 2, 3, 4, 5, 6, 7, 8, 9, 10, 11, 12, 13, 14, 15, 16, 17, 18, 19, 20, 21, 22] rfl) (hD.sub [0, 1, 2, 3, 4, 5, 6, 7, 8, 9, 10, 11, 12, 13, 14, 15, 16, 17, 18, 19, 20, 21, 22] (by decide) rfl) hS (lv_sub hl [0] rfl) hf)
abbrev wX10_rule (h0 h1 h2 h3 h4 h5 h6 h7 : Nat) (kc2 kc3 kc4 kc5 kc6 kc7 : ClassId) (V0 : Nat → Value) (V1 : Nat → Value) (v1_rules : Int32) (v1_systemChanges : Int32) (c2 : Nat → Int32) (c3 : Nat → Int32) (c4 : Nat → Int32) (c5 : Nat → Int32) (c6 : Nat → Int32) (c7 : Nat → Int32) : va_W := [(h0, .inr (10, [.ref h1, V0 1, V0 2, V0 3, V0 4, V0 5, V0 6, V0 7, V0 8, V0 9, V0 10, V0 11])), (h1, .inr (6, [.ref h2, .ref h3, .ref h4, .ref h5, .ref h6, .ref h7, .int v1_rules, V1 7, V1 8, V1 9, V1 10, .int v1_systemChanges, V1 12, V1 13])), (h2, .inl (kc2, 48, .inl c2)), (h3, .inl (kc3, 48, .inl c3)), (h4, .inl (kc4, 48, .inl c4)), (h5, .inl (kc5, 48, .inl c5)), (h6, .inl (kc6, 48, .inl c6)), (h7, .inl (kc7, 48, .inl c7))]
set_option maxHeartbeats 4000000 in
set_option maxRecDepth 100000 in
theorem mX10_rule (l : Launch) (dC : Nat → ClassId) (dI : Nat → Nat → Nat) (h0 h1 h2 h3 h4 h5 h6 h7 : Nat) (kc2 kc3 kc4 kc5 kc6 kc7 : ClassId) (sz : Nat) (base : Nat × Nat × Nat) (a0 : Int32) (a1 : Int32) (a2 : Int32) (a3 : Int32) (a4 : Int32) (a5 : Int32) (v1_rules : Int32) (v1_systemChanges : Int32) (c2 : Nat → Int32) (c3 : Nat → Int32) (c4 : Nat → Int32) (c5 : Nat → Int32) (c6 : Nat → Int32) (c7 : Nat → Int32) (V0 : Nat → Value) (V1 : Nat → Value) (o : Int32 × Int32 × Int32 × (Nat → Int32) × (Nat → Int32) × (Nat → Int32) × (Nat → Int32) × (Nat → Int32) × (Nat → Int32)) (hf : fX10_rule a0 a1 a2 a3 a4 a5 v1_rules v1_systemChanges c2 c3 c4 c5 c6 c7 = some o) : Met l yX10_rule (.code yX10_rule cX10_rule 7 (some .int) :: wsL_law) ({ frames := 1, cells := 0, slots := 0, locals := 26 }) (cPre (dC, dI) vwCl [.ref h0, .int a0, .int a1, .int a2, .int a3, .int a4, .int a5] sz base (wX10_rule h0 h1 h2 h3 h4 h5 h6 h7 kc2 kc3 kc4 kc5 kc6 kc7 V0 V1 v1_rules v1_systemChanges c2 c3 c4 c5 c6 c7) [(kc2, .int), (kc3, .int), (kc4, .int), (kc5, .int), (kc6, .int), (kc7, .int)]) (va_Qi (fun r u => r = o.1 ∧ u = o.2) (fun (u : Int32 × Int32 × (Nat → Int32) × (Nat → Int32) × (Nat → Int32) × (Nat → Int32) × (Nat → Int32) × (Nat → Int32)) t => cPost (dC, dI) vwCl (va_A (wX10_rule h0 h1 h2 h3 h4 h5 h6 h7 kc2 kc3 kc4 kc5 kc6 kc7 V0 V1 v1_rules v1_systemChanges c2 c3 c4 c5 c6 c7) sz) (wX10_rule h0 h1 h2 h3 h4 h5 h6 h7 kc2 kc3 kc4 kc5 kc6 kc7 V0 V1 u.1 u.2.1 u.2.2.1 u.2.2.2.1 u.2.2.2.2.1 u.2.2.2.2.2.1 u.2.2.2.2.2.2.1 u.2.2.2.2.2.2.2) [(kc2, .int), (kc3, .int), (kc4, .int), (kc5, .int), (kc6, .int), (kc7, .int)] t) (va_A (wX10_rule h0 h1 h2 h3 h4 h5 h6 h7 kc2 kc3 kc4 kc5 kc6 kc7 V0 V1 v1_rules v1_systemChanges c2 c3 c4 c5 c6 c7) sz)) 0 0 (va_A (wX10_rule h0 h1 h2 h3 h4 h5 h6 h7 kc2 kc3 kc4 kc5 kc6 kc7 V0 V1 v1_rules v1_systemChanges c2 c3 c4 c5 c6 c7) sz) := by
  refine Met.ofW (cc := cX10_rule) (maxL := 7) (ret := (some .int)) (by decide) rfl ?_
  intro p e s m args below meth c s₁ B hml hv
  obtain ⟨rfl, hsz, hP, hK, hD0, hE⟩ := hv
  have hx := B.exec
  have hb := B.bytes
  have hr := B.returns
  have hts : ∀ w ∈ wsL_law, _ := fun w h => atoms_spec (ws := .code yX10_rule cX10_rule 7 (some .int) :: wsL_law) B.pre w (List.mem_cons_of_mem _ h)
  have hown : s.vm.findClass RX10 = some m.cls := findClass_of_methodNamed B.named
  have hlocks := B.notSynchronized
  have w0_ := hts _ q16
  subst hsz
  have hD := hD0.self (sz := s.heap.size)
  generalize hAe : va_A (wX10_rule h0 h1 h2 h3 h4 h5 h6 h7 kc2 kc3 kc4 kc5 kc6 kc7 V0 V1 v1_rules v1_systemChanges c2 c3 c4 c5 c6 c7) s.heap.size = A at hD ⊢
  have hA : ∀ q : Nat, s.heap.size ≤ q → A q := fun q h => by rw [← hAe]; exact Or.inr h
  have hAB : ∀ q : Nat, A q → base.1 ≤ q := fun q h => by rw [← hAe] at h; exact h.elim (fun ⟨k, e, hk⟩ => hD0.2 k _ hk) (fun hk => Nat.le_trans hE.1 hk)
  have hS : va_S A s.heap s.heap [] := va_S.rf
  have hl := lv_entry ([.ref h0, .int a0, .int a1, .int a2, .int a3, .int a4, .int a5]) (n := 7) (Nat.le_of_ble_eq_true rfl)
  rw [lg_entry_eq]
  generalize (lg_sl ([.ref h0, .int a0, .int a1, .int a2, .int a3, .int a4, .int a5]) ++ List.replicate (7 - (lg_sl ([.ref h0, .int a0, .int a1, .int a2, .int a3, .int a4, .int a5])).length) Slot.unset).toArray = ls at hl ⊢
  have hl : lv_has ls 7 [(0, .ref h0), (1, .int a0), (2, .int a1), (3, .int a2), (4, .int a3), (5, .int a4), (6, .int a5)] := hl
  have hP : va_P (dC, dI) vwCl (wX10_rule h0 h1 h2 h3 h4 h5 h6 h7 kc2 kc3 kc4 kc5 kc6 kc7 V0 V1 v1_rules v1_systemChanges c2 c3 c4 c5 c6 c7) s.heap := hP
  refine gl_intro (fun G hG => ?_)
  have J32 : ∀ (v1_rules : Int32) (v1_systemChanges : Int32) (c2 : (Nat → Int32)) (c3 : (Nat → Int32)) (c4 : (Nat → Int32)) (c5 : (Nat → Int32)) (c6 : (Nat → Int32)) (c7 : (Nat → Int32)) (H : Heap) (locs : List Loc) (ls : Array Slot), va_P (dC, dI) vwCl (wX10_rule h0 h1 h2 h3 h4 h5 h6 h7 kc2 kc3 kc4 kc5 kc6 kc7 V0 V1 v1_rules v1_systemChanges c2 c3 c4 c5 c6 c7) H → va_D A (wX10_rule h0 h1 h2 h3 h4 h5 h6 h7 kc2 kc3 kc4 kc5 kc6 kc7 V0 V1 v1_rules v1_systemChanges c2 c3 c4 c5 c6 c7) → va_S A s.heap H locs → lv_has ls 7 [(0, .ref h0)] → fX10_rule_p32   v1_rules v1_systemChanges c2 c3 c4 c5 c6 c7 = some o → G 0 0 H locs (F0 m 32 ls []) := by
    intro  v1_rules v1_systemChanges c2 c3 c4 c5 c6 c7 H locs ls hP hD hS hl hf
    refine (hG _ _ _ _ _).mpr ?_
    unfold fX10_rule_p32 at hf
    refine lv_bipush (v := (-2)) hx hb dX10_rule_32 (by decide +kernel) ?_
    have hf1 := Option.some.inj hf
    subst hf1
    have hP9 := hP.sub (ws' := (wX10_rule h0 h1 h2 h3 h4 h5 h6 h7 kc2 kc3 kc4 kc5 kc6 kc7 V0 V1 v1_rules v1_systemChanges c2 c3 c4 c5 c6 c7)) [0, 1, 2, 3, 4, 5, 6, 7] rfl
    have hD9 := hD.sub (ws' := (wX10_rule h0 h1 h2 h3 h4 h5 h6 h7 kc2 kc3 kc4 kc5 kc6 kc7 V0 V1 v1_rules v1_systemChanges c2 c3 c4 c5 c6 c7)) [0, 1, 2, 3, 4, 5, 6, 7] (by decide) rfl
    exact W.iret (v := (-2)) hx hb hr (fun t ht hW => ⟨⟨(-2), (v1_rules, v1_systemChanges, c2, c3, c4, c5, c6, c7), rfl, ⟨rfl, rfl⟩, by rw [ht]; exact hP9, va_K.moved hW.alike hK, hD9⟩, hS.F ht⟩) hS.2.2 dX10_rule_34
  have J66 : ∀ (y1 : Int32) (y2 : Int32) (y3 : Int32) (y4 : Int32) (y5 : Int32) (y6 : Int32) (v1_rules : Int32) (v1_systemChanges : Int32) (c2 : (Nat → Int32)) (c3 : (Nat → Int32)) (c4 : (Nat → Int32)) (c5 : (Nat → Int32)) (c6 : (Nat → Int32)) (c7 : (Nat → Int32)) (H : Heap) (locs : List Loc) (ls : Array Slot), va_P (dC, dI) vwCl (wX10_rule h0 h1 h2 h3 h4 h5 h6 h7 kc2 kc3 kc4 kc5 kc6 kc7 V0 V1 v1_rules v1_systemChanges c2 c3 c4 c5 c6 c7) H → va_D A (wX10_rule h0 h1 h2 h3 h4 h5 h6 h7 kc2 kc3 kc4 kc5 kc6 kc7 V0 V1 v1_rules v1_systemChanges c2 c3 c4 c5 c6 c7) → va_S A s.heap H locs → lv_has ls 7 [(0, .ref h0), (1, .int y1), (2, .int y2), (3, .int y3), (4, .int y4), (5, .int y5), (6, .int y6)] → fX10_rule_p66   y1 y2 y3 y4 y5 y6 v1_rules v1_systemChanges c2 c3 c4 c5 c6 c7 = some o → G 0 0 H locs (F0 m 66 ls []) := by
    intro  y1 y2 y3 y4 y5 y6 v1_rules v1_systemChanges c2 c3 c4 c5 c6 c7 H locs ls hP hD hS hl hf
    refine (hG _ _ _ _ _).mpr ?_
    unfold fX10_rule_p66 at hf
    refine lv_aload_n hx hb dX10_rule_66 rfl (lv_at hl 0 rfl) ?_
    refine va_get (D := (dC, dI)) (ci := 10) (v := .ref h1) (C := RX10) (T := TX10) (N := 12) hx hb hts inlX10 hown hK hP 0 rfl rfl 0 (by decide) w0_ (fun _ h9 => h9) rfl dX10_rule_67 ?_
    refine lv_iload_n hx hb dX10_rule_70 rfl (lv_at hl 1 rfl) ?_
    refine lv_iload_n hx hb dX10_rule_71 rfl (lv_at hl 2 rfl) ?_
    refine lv_iload_n hx hb dX10_rule_72 rfl (lv_at hl 3 rfl) ?_
    refine lv_iload hx hb dX10_rule_73 (lv_at hl 4 rfl) ?_
    refine lv_iload hx hb dX10_rule_75 (lv_at hl 5 rfl) ?_
    refine lv_iload hx hb dX10_rule_77 (lv_at hl 6 rfl) ?_
    obtain ⟨o1, e1, hf⟩ := ob_some hf
    refine kVi (As := [.int y1, .int y2, .int y3, .int y4, .int y5, .int y6]) (rest := []) ⟨hx, hb, hml, hown, hts⟩ (mX6_addRule l dC dI h1 h2 h3 h4 h5 h6 h7 kc2 kc3 kc4 kc5 kc6 kc7 H.size base y1 y2 y3 y4 y5 y6 v1_rules v1_systemChanges c2 c3 c4 c5 c6 c7 V1 o1 e1) (cwV 6 hts (gTV q136 q137 q138 q15 q139) rfl rfl rfl (by decide +kernel) ⟨Nat.le_of_ble_eq_true rfl, Nat.le_of_ble_eq_true rfl⟩) hK hP hD hS hA hE hAB [1, 2, 3, 4, 5, 6, 7] [0] [0, 1, 2, 3, 4, 5] (wr := [(h0, .inr (10, [.ref h1, V0 1, V0 2, V0 3, V0 4, V0 5, V0 6, V0 7, V0 8, V0 9, V0 10, V0 11]))]) rfl rfl (by decide) (by decide) (by decide) rfl (ci := 6) (q0 := 0) rfl rfl rfl rfl hl.1 rfl (Nat.le_of_ble_eq_true rfl) dX10_rule_79 ⟨Nat.zero_le _, Nat.zero_le _⟩ (fun r1 u1 H locs hw1 hP hD hS => ?_)
    obtain ⟨hw11, hw12⟩ := hw1
    subst hw11 hw12
    have hP : va_P (dC, dI) vwCl (wX10_rule h0 h1 h2 h3 h4 h5 h6 h7 kc2 kc3 kc4 kc5 kc6 kc7 V0 V1 o1.2.1 o1.2.2.1 o1.2.2.2.1 o1.2.2.2.2.1 o1.2.2.2.2.2.1 o1.2.2.2.2.2.2.1 o1.2.2.2.2.2.2.2.1 o1.2.2.2.2.2.2.2.2) H := hP.sub [0, 1, 2, 3, 4, 5, 6, 7] rfl
    have hD : va_D A (wX10_rule h0 h1 h2 h3 h4 h5 h6 h7 kc2 kc3 kc4 kc5 kc6 kc7 V0 V1 o1.2.1 o1.2.2.1 o1.2.2.2.1 o1.2.2.2.2.1 o1.2.2.2.2.2.1 o1.2.2.2.2.2.2.1 o1.2.2.2.2.2.2.2.1 o1.2.2.2.2.2.2.2.2) := hD.sub [0, 1, 2, 3, 4, 5, 6, 7] (by decide) rfl
    have hf1 := Option.some.inj hf
    subst hf1
    have hP9 := hP.sub (ws' := (wX10_rule h0 h1 h2 h3 h4 h5 h6 h7 kc2 kc3 kc4 kc5 kc6 kc7 V0 V1 o1.2.1 o1.2.2.1 o1.2.2.2.1 o1.2.2.2.2.1 o1.2.2.2.2.2.1 o1.2.2.2.2.2.2.1 o1.2.2.2.2.2.2.2.1 o1.2.2.2.2.2.2.2.2)) [0, 1, 2, 3, 4, 5, 6, 7] rfl
    have hD9 := hD.sub (ws' := (wX10_rule h0 h1 h2 h3 h4 h5 h6 h7 kc2 kc3 kc4 kc5 kc6 kc7 V0 V1 o1.2.1 o1.2.2.1 o1.2.2.2.1 o1.2.2.2.2.1 o1.2.2.2.2.2.1 o1.2.2.2.2.2.2.1 o1.2.2.2.2.2.2.2.1 o1.2.2.2.2.2.2.2.2)) [0, 1, 2, 3, 4, 5, 6, 7] (by decide) rfl
    exact W.iret (v := o1.1) hx hb hr (fun t ht hW => ⟨⟨o1.1, (o1.2.1, o1.2.2.1, o1.2.2.2.1, o1.2.2.2.2.1, o1.2.2.2.2.2.1, o1.2.2.2.2.2.2.1, o1.2.2.2.2.2.2.2.1, o1.2.2.2.2.2.2.2.2), rfl, ⟨rfl, rfl⟩, by rw [ht]; exact hP9, va_K.moved hW.alike hK, hD9⟩, hS.F ht⟩) hS.2.2 dX10_rule_82
  have J63 : ∀ (v1_rules : Int32) (v1_systemChanges : Int32) (c2 : (Nat → Int32)) (c3 : (Nat → Int32)) (c4 : (Nat → Int32)) (c5 : (Nat → Int32)) (c6 : (Nat → Int32)) (c7 : (Nat → Int32)) (H : Heap) (locs : List Loc) (ls : Array Slot), va_P (dC, dI) vwCl (wX10_rule h0 h1 h2 h3 h4 h5 h6 h7 kc2 kc3 kc4 kc5 kc6 kc7 V0 V1 v1_rules v1_systemChanges c2 c3 c4 c5 c6 c7) H → va_D A (wX10_rule h0 h1 h2 h3 h4 h5 h6 h7 kc2 kc3 kc4 kc5 kc6 kc7 V0 V1 v1_rules v1_systemChanges c2 c3 c4 c5 c6 c7) → va_S A s.heap H locs → lv_has ls 7 [(0, .ref h0)] → fX10_rule_p63   v1_rules v1_systemChanges c2 c3 c4 c5 c6 c7 = some o → G 0 0 H locs (F0 m 63 ls []) := by
    intro  v1_rules v1_systemChanges c2 c3 c4 c5 c6 c7 H locs ls hP hD hS hl hf
    refine (hG _ _ _ _ _).mpr ?_
    unfold fX10_rule_p63 at hf
    refine lv_bipush (v := (-2)) hx hb dX10_rule_63 (by decide +kernel) ?_
    have hf1 := Option.some.inj hf
    subst hf1
    have hP9 := hP.sub (ws' := (wX10_rule h0 h1 h2 h3 h4 h5 h6 h7 kc2 kc3 kc4 kc5 kc6 kc7 V0 V1 v1_rules v1_systemChanges c2 c3 c4 c5 c6 c7)) [0, 1, 2, 3, 4, 5, 6, 7] rfl
    have hD9 := hD.sub (ws' := (wX10_rule h0 h1 h2 h3 h4 h5 h6 h7 kc2 kc3 kc4 kc5 kc6 kc7 V0 V1 v1_rules v1_systemChanges c2 c3 c4 c5 c6 c7)) [0, 1, 2, 3, 4, 5, 6, 7] (by decide) rfl
    exact W.iret (v := (-2)) hx hb hr (fun t ht hW => ⟨⟨(-2), (v1_rules, v1_systemChanges, c2, c3, c4, c5, c6, c7), rfl, ⟨rfl, rfl⟩, by rw [ht]; exact hP9, va_K.moved hW.alike hK, hD9⟩, hS.F ht⟩) hS.2.2 dX10_rule_65
  have J49 : ∀ (y1 : Int32) (y2 : Int32) (y3 : Int32) (y4 : Int32) (y5 : Int32) (y6 : Int32) (v1_rules : Int32) (v1_systemChanges : Int32) (c2 : (Nat → Int32)) (c3 : (Nat → Int32)) (c4 : (Nat → Int32)) (c5 : (Nat → Int32)) (c6 : (Nat → Int32)) (c7 : (Nat → Int32)) (H : Heap) (locs : List Loc) (ls : Array Slot), va_P (dC, dI) vwCl (wX10_rule h0 h1 h2 h3 h4 h5 h6 h7 kc2 kc3 kc4 kc5 kc6 kc7 V0 V1 v1_rules v1_systemChanges c2 c3 c4 c5 c6 c7) H → va_D A (wX10_rule h0 h1 h2 h3 h4 h5 h6 h7 kc2 kc3 kc4 kc5 kc6 kc7 V0 V1 v1_rules v1_systemChanges c2 c3 c4 c5 c6 c7) → va_S A s.heap H locs → lv_has ls 7 [(0, .ref h0), (1, .int y1), (2, .int y2), (3, .int y3), (4, .int y4), (5, .int y5), (6, .int y6)] → fX10_rule_p49   y1 y2 y3 y4 y5 y6 v1_rules v1_systemChanges c2 c3 c4 c5 c6 c7 = some o → G 0 0 H locs (F0 m 49 ls []) := by
    intro  y1 y2 y3 y4 y5 y6 v1_rules v1_systemChanges c2 c3 c4 c5 c6 c7 H locs ls hP hD hS hl hf
    refine (hG _ _ _ _ _).mpr ?_
    unfold fX10_rule_p49 at hf
    refine lv_iload hx hb dX10_rule_49 (lv_at hl 4 rfl) ?_
    refine lv_iconst (v := 2) hx hb dX10_rule_51 (by decide +kernel) ?_
    refine lv_icmp_ne (tgt := 66) hx hb dX10_rule_52 (by decide) (fun cq2 => ?_) (fun cq2 => ?_)
    · replace hf := if_no hf cq2
      exact (hG _ _ _ _ _).mp (J66 y1 y2 y3 y4 y5 y6 v1_rules v1_systemChanges c2 c3 c4 c5 c6 c7 H locs ls (hP.sub [0, 1, 2, 3, 4, 5, 6, 7] rfl) (hD.sub [0, 1, 2, 3, 4, 5, 6, 7] (by decide) rfl) hS (lv_sub hl [0, 1, 2, 3, 4, 5, 6] rfl) hf)
    · replace hf := if_at hf cq2
      refine lv_iload hx hb dX10_rule_55 (lv_at hl 6 rfl) ?_
      obtain ⟨o3, e3, hf⟩ := ob_some hf
      refine kSi (As := [.int y6]) (rest := []) ⟨hx, hb, hml, hown, hts⟩ (mX10_isSign l dC dI H.size base y6 o3 e3) (va_cwS 1 hts (gTS q133 q134 q2 q135) rfl rfl rfl (by decide +kernel) ⟨Nat.le_of_ble_eq_true rfl, Nat.le_of_ble_eq_true rfl⟩) hK hP hD hS hA hE hAB [] [0, 1, 2, 3, 4, 5, 6, 7] [] (wr := (wX10_rule h0 h1 h2 h3 h4 h5 h6 h7 kc2 kc3 kc4 kc5 kc6 kc7 V0 V1 v1_rules v1_systemChanges c2 c3 c4 c5 c6 c7)) rfl rfl (by decide) (by decide) (by decide) rfl rfl hl.1 rfl (Nat.le_of_ble_eq_true rfl) dX10_rule_57 ⟨Nat.zero_le _, Nat.zero_le _⟩ (fun r3 u3 H locs hw3 hP hD hS => ?_)
      obtain ⟨hw31, hw32⟩ := hw3
      subst hw31 hw32
      have hP : va_P (dC, dI) vwCl (wX10_rule h0 h1 h2 h3 h4 h5 h6 h7 kc2 kc3 kc4 kc5 kc6 kc7 V0 V1 v1_rules v1_systemChanges c2 c3 c4 c5 c6 c7) H := hP.sub [0, 1, 2, 3, 4, 5, 6, 7] rfl
      have hD : va_D A (wX10_rule h0 h1 h2 h3 h4 h5 h6 h7 kc2 kc3 kc4 kc5 kc6 kc7 V0 V1 v1_rules v1_systemChanges c2 c3 c4 c5 c6 c7) := hD.sub [0, 1, 2, 3, 4, 5, 6, 7] (by decide) rfl
      refine lv_if_ne (tgt := 66) hx hb dX10_rule_60 (by decide) (fun cq4 => ?_) (fun cq4 => ?_)
      · replace hf := if_no hf cq4
        exact (hG _ _ _ _ _).mp (J66 y1 y2 y3 y4 y5 y6 v1_rules v1_systemChanges c2 c3 c4 c5 c6 c7 H locs ls (hP.sub [0, 1, 2, 3, 4, 5, 6, 7] rfl) (hD.sub [0, 1, 2, 3, 4, 5, 6, 7] (by decide) rfl) hS (lv_sub hl [0, 1, 2, 3, 4, 5, 6] rfl) hf)
      · replace hf := if_at hf cq4
        exact (hG _ _ _ _ _).mp (J63 v1_rules v1_systemChanges c2 c3 c4 c5 c6 c7 H locs ls (hP.sub [0, 1, 2, 3, 4, 5, 6, 7] rfl) (hD.sub [0, 1, 2, 3, 4, 5, 6, 7] (by decide) rfl) hS (lv_sub hl [0] rfl) hf)
  refine (hG _ _ _ _ _).mpr ?_
  obtain ⟨H, hH⟩ : ∃ H, H = s.heap := ⟨_, rfl⟩
  have hS : va_S A s.heap H [] := by rw [hH]; exact hS
  rw [← hH] at hP ⊢
  generalize ([] : List Loc) = locs at hS ⊢
  unfold fX10_rule at hf
  refine lv_iload_n hx hb dX10_rule_0 rfl (lv_at hl 1 rfl) ?_
  obtain ⟨o5, e5, hf⟩ := ob_some hf
  refine kSi (As := [.int a0]) (rest := []) ⟨hx, hb, hml, hown, hts⟩ (mX10_isState l dC dI H.size base a0 o5 e5) (va_cwS 1 hts (gTS q130 q131 q2 q132) rfl rfl rfl (by decide +kernel) ⟨Nat.le_of_ble_eq_true rfl, Nat.le_of_ble_eq_true rfl⟩) hK hP hD hS hA hE hAB [] [0, 1, 2, 3, 4, 5, 6, 7] [] (wr := (wX10_rule h0 h1 h2 h3 h4 h5 h6 h7 kc2 kc3 kc4 kc5 kc6 kc7 V0 V1 v1_rules v1_systemChanges c2 c3 c4 c5 c6 c7)) rfl rfl (by decide) (by decide) (by decide) rfl rfl hl.1 rfl (Nat.le_of_ble_eq_true rfl) dX10_rule_1 ⟨Nat.zero_le _, Nat.zero_le _⟩ (fun r5 u5 H locs hw5 hP hD hS => ?_)
  obtain ⟨hw51, hw52⟩ := hw5
  subst hw51 hw52
  have hP : va_P (dC, dI) vwCl (wX10_rule h0 h1 h2 h3 h4 h5 h6 h7 kc2 kc3 kc4 kc5 kc6 kc7 V0 V1 v1_rules v1_systemChanges c2 c3 c4 c5 c6 c7) H := hP.sub [0, 1, 2, 3, 4, 5, 6, 7] rfl
  have hD : va_D A (wX10_rule h0 h1 h2 h3 h4 h5 h6 h7 kc2 kc3 kc4 kc5 kc6 kc7 V0 V1 v1_rules v1_systemChanges c2 c3 c4 c5 c6 c7) := hD.sub [0, 1, 2, 3, 4, 5, 6, 7] (by decide) rfl
  refine lv_if_eq (tgt := 32) hx hb dX10_rule_4 (by decide) (fun cq6 => ?_) (fun cq6 => ?_)
  · replace hf := if_at hf cq6
    exact (hG _ _ _ _ _).mp (J32 v1_rules v1_systemChanges c2 c3 c4 c5 c6 c7 H locs ls (hP.sub [0, 1, 2, 3, 4, 5, 6, 7] rfl) (hD.sub [0, 1, 2, 3, 4, 5, 6, 7] (by decide) rfl) hS (lv_sub hl [0] rfl) hf)
  · replace hf := if_no hf cq6
    refine lv_iload_n hx hb dX10_rule_7 rfl (lv_at hl 2 rfl) ?_
    obtain ⟨o7, e7, hf⟩ := ob_some hf
    refine kSi (As := [.int a1]) (rest := []) ⟨hx, hb, hml, hown, hts⟩ (mX10_isSign l dC dI H.size base a1 o7 e7) (va_cwS 1 hts (gTS q133 q134 q2 q135) rfl rfl rfl (by decide +kernel) ⟨Nat.le_of_ble_eq_true rfl, Nat.le_of_ble_eq_true rfl⟩) hK hP hD hS hA hE hAB [] [0, 1, 2, 3, 4, 5, 6, 7] [] (wr := (wX10_rule h0 h1 h2 h3 h4 h5 h6 h7 kc2 kc3 kc4 kc5 kc6 kc7 V0 V1 v1_rules v1_systemChanges c2 c3 c4 c5 c6 c7)) rfl rfl (by decide) (by decide) (by decide) rfl rfl hl.1 rfl (Nat.le_of_ble_eq_true rfl) dX10_rule_8 ⟨Nat.zero_le _, Nat.zero_le _⟩ (fun r7 u7 H locs hw7 hP hD hS => ?_)
    obtain ⟨hw71, hw72⟩ := hw7
    subst hw71 hw72
    have hP : va_P (dC, dI) vwCl (wX10_rule h0 h1 h2 h3 h4 h5 h6 h7 kc2 kc3 kc4 kc5 kc6 kc7 V0 V1 v1_rules v1_systemChanges c2 c3 c4 c5 c6 c7) H := hP.sub [0, 1, 2, 3, 4, 5, 6, 7] rfl
    have hD : va_D A (wX10_rule h0 h1 h2 h3 h4 h5 h6 h7 kc2 kc3 kc4 kc5 kc6 kc7 V0 V1 v1_rules v1_systemChanges c2 c3 c4 c5 c6 c7) := hD.sub [0, 1, 2, 3, 4, 5, 6, 7] (by decide) rfl
    refine lv_if_eq (tgt := 32) hx hb dX10_rule_11 (by decide) (fun cq8 => ?_) (fun cq8 => ?_)
    · replace hf := if_at hf cq8
      exact (hG _ _ _ _ _).mp (J32 v1_rules v1_systemChanges c2 c3 c4 c5 c6 c7 H locs ls (hP.sub [0, 1, 2, 3, 4, 5, 6, 7] rfl) (hD.sub [0, 1, 2, 3, 4, 5, 6, 7] (by decide) rfl) hS (lv_sub hl [0] rfl) hf)
    · replace hf := if_no hf cq8
      refine lv_iload_n hx hb dX10_rule_14 rfl (lv_at hl 3 rfl) ?_
      obtain ⟨o9, e9, hf⟩ := ob_some hf
      refine kSi (As := [.int a2]) (rest := []) ⟨hx, hb, hml, hown, hts⟩ (mX10_isState l dC dI H.size base a2 o9 e9) (va_cwS 1 hts (gTS q130 q131 q2 q132) rfl rfl rfl (by decide +kernel) ⟨Nat.le_of_ble_eq_true rfl, Nat.le_of_ble_eq_true rfl⟩) hK hP hD hS hA hE hAB [] [0, 1, 2, 3, 4, 5, 6, 7] [] (wr := (wX10_rule h0 h1 h2 h3 h4 h5 h6 h7 kc2 kc3 kc4 kc5 kc6 kc7 V0 V1 v1_rules v1_systemChanges c2 c3 c4 c5 c6 c7)) rfl rfl (by decide) (by decide) (by decide) rfl rfl hl.1 rfl (Nat.le_of_ble_eq_true rfl) dX10_rule_15 ⟨Nat.zero_le _, Nat.zero_le _⟩ (fun r9 u9 H locs hw9 hP hD hS => ?_)
      obtain ⟨hw91, hw92⟩ := hw9
      subst hw91 hw92
      have hP : va_P (dC, dI) vwCl (wX10_rule h0 h1 h2 h3 h4 h5 h6 h7 kc2 kc3 kc4 kc5 kc6 kc7 V0 V1 v1_rules v1_systemChanges c2 c3 c4 c5 c6 c7) H := hP.sub [0, 1, 2, 3, 4, 5, 6, 7] rfl
      have hD : va_D A (wX10_rule h0 h1 h2 h3 h4 h5 h6 h7 kc2 kc3 kc4 kc5 kc6 kc7 V0 V1 v1_rules v1_systemChanges c2 c3 c4 c5 c6 c7) := hD.sub [0, 1, 2, 3, 4, 5, 6, 7] (by decide) rfl
      refine lv_if_eq (tgt := 32) hx hb dX10_rule_18 (by decide) (fun cq10 => ?_) (fun cq10 => ?_)
      · replace hf := if_at hf cq10
        exact (hG _ _ _ _ _).mp (J32 v1_rules v1_systemChanges c2 c3 c4 c5 c6 c7 H locs ls (hP.sub [0, 1, 2, 3, 4, 5, 6, 7] rfl) (hD.sub [0, 1, 2, 3, 4, 5, 6, 7] (by decide) rfl) hS (lv_sub hl [0] rfl) hf)
      · replace hf := if_no hf cq10
        refine lv_iload hx hb dX10_rule_21 (lv_at hl 4 rfl) ?_
        refine lv_if_lt (tgt := 32) hx hb dX10_rule_23 (by decide) (fun cq11 => ?_) (fun cq11 => ?_)
        · replace hf := if_at hf cq11
          exact (hG _ _ _ _ _).mp (J32 v1_rules v1_systemChanges c2 c3 c4 c5 c6 c7 H locs ls (hP.sub [0, 1, 2, 3, 4, 5, 6, 7] rfl) (hD.sub [0, 1, 2, 3, 4, 5, 6, 7] (by decide) rfl) hS (lv_sub hl [0] rfl) hf)
        · replace hf := if_no hf cq11
          refine lv_iload hx hb dX10_rule_26 (lv_at hl 4 rfl) ?_
          refine lv_iconst (v := 2) hx hb dX10_rule_28 (by decide +kernel) ?_
          refine lv_icmp_le (tgt := 35) hx hb dX10_rule_29 (by decide) (fun cq12 => ?_) (fun cq12 => ?_)
          · replace hf := if_at hf cq12
            refine lv_iload hx hb dX10_rule_35 (lv_at hl 4 rfl) ?_
            refine lv_iconst (v := 1) hx hb dX10_rule_37 (by decide +kernel) ?_
            refine lv_icmp_lt (tgt := 49) hx hb dX10_rule_38 (by decide) (fun cq13 => ?_) (fun cq13 => ?_)
            · replace hf := if_at hf cq13
              exact (hG _ _ _ _ _).mp (J49 a0 a1 a2 a3 a4 a5 v1_rules v1_systemChanges c2 c3 c4 c5 c6 c7 H locs ls (hP.sub [0, 1, 2, 3, 4, 5, 6, 7] rfl) (hD.sub [0, 1, 2, 3, 4, 5, 6, 7] (by decide) rfl) hS (lv_sub hl [0, 1, 2, 3, 4, 5, 6] rfl) hf)
            · replace hf := if_no hf cq13
              refine lv_iload hx hb dX10_rule_41 (lv_at hl 5 rfl) ?_
              obtain ⟨o14, e14, hf⟩ := ob_some hf
              refine kSi (As := [.int a4]) (rest := []) ⟨hx, hb, hml, hown, hts⟩ (mX10_isSign l dC dI H.size base a4 o14 e14) (va_cwS 1 hts (gTS q133 q134 q2 q135) rfl rfl rfl (by decide +kernel) ⟨Nat.le_of_ble_eq_true rfl, Nat.le_of_ble_eq_true rfl⟩) hK hP hD hS hA hE hAB [] [0, 1, 2, 3, 4, 5, 6, 7] [] (wr := (wX10_rule h0 h1 h2 h3 h4 h5 h6 h7 kc2 kc3 kc4 kc5 kc6 kc7 V0 V1 v1_rules v1_systemChanges c2 c3 c4 c5 c6 c7)) rfl rfl (by decide) (by decide) (by decide) rfl rfl hl.1 rfl (Nat.le_of_ble_eq_true rfl) dX10_rule_43 ⟨Nat.zero_le _, Nat.zero_le _⟩ (fun r14 u14 H locs hw14 hP hD hS => ?_)
              obtain ⟨hw141, hw142⟩ := hw14
              subst hw141 hw142
              have hP : va_P (dC, dI) vwCl (wX10_rule h0 h1 h2 h3 h4 h5 h6 h7 kc2 kc3 kc4 kc5 kc6 kc7 V0 V1 v1_rules v1_systemChanges c2 c3 c4 c5 c6 c7) H := hP.sub [0, 1, 2, 3, 4, 5, 6, 7] rfl
              have hD : va_D A (wX10_rule h0 h1 h2 h3 h4 h5 h6 h7 kc2 kc3 kc4 kc5 kc6 kc7 V0 V1 v1_rules v1_systemChanges c2 c3 c4 c5 c6 c7) := hD.sub [0, 1, 2, 3, 4, 5, 6, 7] (by decide) rfl
              refine lv_if_eq (tgt := 63) hx hb dX10_rule_46 (by decide) (fun cq15 => ?_) (fun cq15 => ?_)
              · replace hf := if_at hf cq15
                exact (hG _ _ _ _ _).mp (J63 v1_rules v1_systemChanges c2 c3 c4 c5 c6 c7 H locs ls (hP.sub [0, 1, 2, 3, 4, 5, 6, 7] rfl) (hD.sub [0, 1, 2, 3, 4, 5, 6, 7] (by decide) rfl) hS (lv_sub hl [0] rfl) hf)
              · replace hf := if_no hf cq15
                exact (hG _ _ _ _ _).mp (J49 a0 a1 a2 a3 a4 a5 v1_rules v1_systemChanges c2 c3 c4 c5 c6 c7 H locs ls (hP.sub [0, 1, 2, 3, 4, 5, 6, 7] rfl) (hD.sub [0, 1, 2, 3, 4, 5, 6, 7] (by decide) rfl) hS (lv_sub hl [0, 1, 2, 3, 4, 5, 6] rfl) hf)
          · replace hf := if_no hf cq12
            exact (hG _ _ _ _ _).mp (J32 v1_rules v1_systemChanges c2 c3 c4 c5 c6 c7 H locs ls (hP.sub [0, 1, 2, 3, 4, 5, 6, 7] rfl) (hD.sub [0, 1, 2, 3, 4, 5, 6, 7] (by decide) rfl) hS (lv_sub hl [0] rfl) hf)
abbrev wX10_told (h0 h1 h2 h3 h4 : Nat) (kc2 kc3 kc4 : ClassId) (V0 : Nat → Value) (V1 : Nat → Value) (v1_globals : Int32) (v1_procedures : Int32) (v1_statements : Int32) (c2 : Nat → Int32) (c3 : Nat → Int32) (c4 : Nat → Int32) : va_W := [(h0, .inr (10, [V0 0, V0 1, .ref h1, V0 3, V0 4, V0 5, V0 6, V0 7, V0 8, V0 9, V0 10, V0 11])), (h1, .inr (3, [V1 0, .int v1_globals, .int v1_procedures, .int v1_statements, V1 4, .ref h2, .ref h4, .ref h3, V1 8, V1 9, V1 10, V1 11, V1 12, V1 13, V1 14, V1 15, V1 16, V1 17])), (h2, .inl (kc2, 40, .inl c2)), (h3, .inl (kc3, 40, .inl c3)), (h4, .inl (kc4, 40, .inl c4))]
set_option maxHeartbeats 4000000 in
set_option maxRecDepth 100000 in
theorem mX10_told (l : Launch) (dC : Nat → ClassId) (dI : Nat → Nat → Nat) (h0 h1 h2 h3 h4 : Nat) (kc2 kc3 kc4 : ClassId) (sz : Nat) (base : Nat × Nat × Nat) (a0 : Int32) (a1 : Int32) (v1_globals : Int32) (v1_procedures : Int32) (v1_statements : Int32) (c2 : Nat → Int32) (c3 : Nat → Int32) (c4 : Nat → Int32) (V0 : Nat → Value) (V1 : Nat → Value) (o : Int32 × Unit) (hf : fX10_told a0 a1 v1_globals v1_procedures v1_statements c2 c3 c4 = some o) : Met l yX10_told (.code yX10_told cX10_told 3 (some .int) :: wsL_law) ({ frames := 1, cells := 0, slots := 0, locals := 22 }) (cPre (dC, dI) vwCl [.ref h0, .int a0, .int a1] sz base (wX10_told h0 h1 h2 h3 h4 kc2 kc3 kc4 V0 V1 v1_globals v1_procedures v1_statements c2 c3 c4) [(kc2, .int), (kc3, .int), (kc4, .int)]) (va_Qi (fun r u => r = o.1 ∧ u = o.2) (fun (u : Unit) t => cPost (dC, dI) vwCl (va_A (wX10_told h0 h1 h2 h3 h4 kc2 kc3 kc4 V0 V1 v1_globals v1_procedures v1_statements c2 c3 c4) sz) (wX10_told h0 h1 h2 h3 h4 kc2 kc3 kc4 V0 V1 v1_globals v1_procedures v1_statements c2 c3 c4) [(kc2, .int), (kc3, .int), (kc4, .int)] t) (va_A (wX10_told h0 h1 h2 h3 h4 kc2 kc3 kc4 V0 V1 v1_globals v1_procedures v1_statements c2 c3 c4) sz)) 0 0 (va_A (wX10_told h0 h1 h2 h3 h4 kc2 kc3 kc4 V0 V1 v1_globals v1_procedures v1_statements c2 c3 c4) sz) := by
  refine Met.ofW (cc := cX10_told) (maxL := 3) (ret := (some .int)) (by decide) rfl ?_
  intro p e s m args below meth c s₁ B hml hv
  obtain ⟨rfl, hsz, hP, hK, hD0, hE⟩ := hv
  have hx := B.exec
  have hb := B.bytes
  have hr := B.returns
  have hts : ∀ w ∈ wsL_law, _ := fun w h => atoms_spec (ws := .code yX10_told cX10_told 3 (some .int) :: wsL_law) B.pre w (List.mem_cons_of_mem _ h)
  have hown : s.vm.findClass RX10 = some m.cls := findClass_of_methodNamed B.named
  have hlocks := B.notSynchronized
  have w0_ := hts _ q24
  have w1_ := hts _ q923
  have w2_ := hts _ q924
  have w3_ := hts _ q538
  subst hsz
  have hD := hD0.self (sz := s.heap.size)
  generalize hAe : va_A (wX10_told h0 h1 h2 h3 h4 kc2 kc3 kc4 V0 V1 v1_globals v1_procedures v1_statements c2 c3 c4) s.heap.size = A at hD ⊢
  have hA : ∀ q : Nat, s.heap.size ≤ q → A q := fun q h => by rw [← hAe]; exact Or.inr h
  have hAB : ∀ q : Nat, A q → base.1 ≤ q := fun q h => by rw [← hAe] at h; exact h.elim (fun ⟨k, e, hk⟩ => hD0.2 k _ hk) (fun hk => Nat.le_trans hE.1 hk)
  have hS : va_S A s.heap s.heap [] := va_S.rf
  have hl := lv_entry ([.ref h0, .int a0, .int a1]) (n := 3) (Nat.le_of_ble_eq_true rfl)
  rw [lg_entry_eq]
  generalize (lg_sl ([.ref h0, .int a0, .int a1]) ++ List.replicate (3 - (lg_sl ([.ref h0, .int a0, .int a1])).length) Slot.unset).toArray = ls at hl ⊢
  have hl : lv_has ls 3 [(0, .ref h0), (1, .int a0), (2, .int a1)] := hl
  have hP : va_P (dC, dI) vwCl (wX10_told h0 h1 h2 h3 h4 kc2 kc3 kc4 V0 V1 v1_globals v1_procedures v1_statements c2 c3 c4) s.heap := hP
  obtain ⟨H, hH⟩ : ∃ H, H = s.heap := ⟨_, rfl⟩
  have hS : va_S A s.heap H [] := by rw [hH]; exact hS
  rw [← hH] at hP ⊢
  generalize ([] : List Loc) = locs at hS ⊢
  unfold fX10_told at hf
  refine lv_iload_n hx hb dX10_told_0 rfl (lv_at hl 1 rfl) ?_
  by_cases cq1 : a0 = 0
  · replace hf := if_at hf cq1
    refine lv_tableIn (off := 27) (tgt := 28) hx hb dX10_told_1 (by rw [cq1]; decide) (by rw [cq1]; decide) (by rw [cq1]; rfl) (by decide) ?_
    refine lv_aload_n hx hb dX10_told_28 rfl (lv_at hl 0 rfl) ?_
    refine va_get (D := (dC, dI)) (ci := 10) (v := .ref h1) (C := RX10) (T := TX10) (N := 12) hx hb hts inlX10 hown hK hP 0 rfl rfl 2 (by decide) w0_ (fun _ h9 => h9) rfl dX10_told_29 ?_
    refine va_get (D := (dC, dI)) (ci := 3) (v := .int v1_globals) (C := RX3) (T := TX3) (N := 18) hx hb hts inlX3 hown hK hP 1 rfl rfl 1 (by decide) w1_ (fun _ h9 => h9) rfl dX10_told_32 ?_
    have hf1 := Option.some.inj hf
    subst hf1
    have hP9 := hP.sub (ws' := (wX10_told h0 h1 h2 h3 h4 kc2 kc3 kc4 V0 V1 v1_globals v1_procedures v1_statements c2 c3 c4)) [0, 1, 2, 3, 4] rfl
    have hD9 := hD.sub (ws' := (wX10_told h0 h1 h2 h3 h4 kc2 kc3 kc4 V0 V1 v1_globals v1_procedures v1_statements c2 c3 c4)) [0, 1, 2, 3, 4] (by decide) rfl
    exact W.iret (v := v1_globals) hx hb hr (fun t ht hW => ⟨⟨v1_globals, (), rfl, ⟨rfl, rfl⟩, by rw [ht]; exact hP9, va_K.moved hW.alike hK, hD9⟩, hS.F ht⟩) hS.2.2 dX10_told_35
  · replace hf := if_no hf cq1
    by_cases cq2 : a0 = 1
    · replace hf := if_at hf cq2
      refine lv_tableIn (off := 35) (tgt := 36) hx hb dX10_told_1 (by rw [cq2]; decide) (by rw [cq2]; decide) (by rw [cq2]; rfl) (by decide) ?_
      refine lv_aload_n hx hb dX10_told_36 rfl (lv_at hl 0 rfl) ?_
      refine va_get (D := (dC, dI)) (ci := 10) (v := .ref h1) (C := RX10) (T := TX10) (N := 12) hx hb hts inlX10 hown hK hP 0 rfl rfl 2 (by decide) w0_ (fun _ h9 => h9) rfl dX10_told_37 ?_
      refine va_get (D := (dC, dI)) (ci := 3) (v := .int v1_procedures) (C := RX3) (T := TX3) (N := 18) hx hb hts inlX3 hown hK hP 1 rfl rfl 2 (by decide) w2_ (fun _ h9 => h9) rfl dX10_told_40 ?_
      have hf1 := Option.some.inj hf
      subst hf1
      have hP9 := hP.sub (ws' := (wX10_told h0 h1 h2 h3 h4 kc2 kc3 kc4 V0 V1 v1_globals v1_procedures v1_statements c2 c3 c4)) [0, 1, 2, 3, 4] rfl
      have hD9 := hD.sub (ws' := (wX10_told h0 h1 h2 h3 h4 kc2 kc3 kc4 V0 V1 v1_globals v1_procedures v1_statements c2 c3 c4)) [0, 1, 2, 3, 4] (by decide) rfl
      exact W.iret (v := v1_procedures) hx hb hr (fun t ht hW => ⟨⟨v1_procedures, (), rfl, ⟨rfl, rfl⟩, by rw [ht]; exact hP9, va_K.moved hW.alike hK, hD9⟩, hS.F ht⟩) hS.2.2 dX10_told_43
    · replace hf := if_no hf cq2
      by_cases cq3 : a0 = 2
      · replace hf := if_at hf cq3
        refine lv_tableIn (off := 43) (tgt := 44) hx hb dX10_told_1 (by rw [cq3]; decide) (by rw [cq3]; decide) (by rw [cq3]; rfl) (by decide) ?_
        refine lv_aload_n hx hb dX10_told_44 rfl (lv_at hl 0 rfl) ?_
        refine va_get (D := (dC, dI)) (ci := 10) (v := .ref h1) (C := RX10) (T := TX10) (N := 12) hx hb hts inlX10 hown hK hP 0 rfl rfl 2 (by decide) w0_ (fun _ h9 => h9) rfl dX10_told_45 ?_
        refine va_get (D := (dC, dI)) (ci := 3) (v := .int v1_statements) (C := RX3) (T := TX3) (N := 18) hx hb hts inlX3 hown hK hP 1 rfl rfl 3 (by decide) w3_ (fun _ h9 => h9) rfl dX10_told_48 ?_
        have hf1 := Option.some.inj hf
        subst hf1
        have hP9 := hP.sub (ws' := (wX10_told h0 h1 h2 h3 h4 kc2 kc3 kc4 V0 V1 v1_globals v1_procedures v1_statements c2 c3 c4)) [0, 1, 2, 3, 4] rfl
        have hD9 := hD.sub (ws' := (wX10_told h0 h1 h2 h3 h4 kc2 kc3 kc4 V0 V1 v1_globals v1_procedures v1_statements c2 c3 c4)) [0, 1, 2, 3, 4] (by decide) rfl
        exact W.iret (v := v1_statements) hx hb hr (fun t ht hW => ⟨⟨v1_statements, (), rfl, ⟨rfl, rfl⟩, by rw [ht]; exact hP9, va_K.moved hW.alike hK, hD9⟩, hS.F ht⟩) hS.2.2 dX10_told_51
      · replace hf := if_no hf cq3
        refine lv_tableOut (tgt := 52) hx hb dX10_told_1 (by have n1 := lv_neT cq1 (show (0 : Int32).toInt = 0 from rfl); have n2 := lv_neT cq2 (show (1 : Int32).toInt = 1 from rfl); have n3 := lv_neT cq3 (show (2 : Int32).toInt = 2 from rfl); omega) (by decide) ?_
        refine lv_aload_n hx hb dX10_told_52 rfl (lv_at hl 0 rfl) ?_
        refine va_get (D := (dC, dI)) (ci := 10) (v := .ref h1) (C := RX10) (T := TX10) (N := 12) hx hb hts inlX10 hown hK hP 0 rfl rfl 2 (by decide) w0_ (fun _ h9 => h9) rfl dX10_told_53 ?_
        refine lv_iload_n hx hb dX10_told_56 rfl (lv_at hl 1 rfl) ?_
        refine lv_iload_n hx hb dX10_told_57 rfl (lv_at hl 2 rfl) ?_
        obtain ⟨o4, e4, hf⟩ := ob_some hf
        refine kVi (As := [.int a0, .int a1]) (rest := []) ⟨hx, hb, hml, hown, hts⟩ (mX3_aboutStatement l dC dI h1 h2 h3 h4 kc2 kc3 kc4 H.size base a0 a1 v1_statements c2 c3 c4 (fun k => match k with | 1 => .int v1_globals | 2 => .int v1_procedures | k => V1 k) o4 e4) (cwV 2 hts (gTV q925 q926 q927 q23 q928) rfl rfl rfl (by decide +kernel) ⟨Nat.le_of_ble_eq_true rfl, Nat.le_of_ble_eq_true rfl⟩) hK hP hD hS hA hE hAB [1, 2, 3, 4] [0] [0, 1, 2] (wr := [(h0, .inr (10, [V0 0, V0 1, .ref h1, V0 3, V0 4, V0 5, V0 6, V0 7, V0 8, V0 9, V0 10, V0 11]))]) rfl rfl (by decide) (by decide) (by decide) rfl (ci := 3) (q0 := 0) rfl rfl rfl rfl hl.1 rfl (Nat.le_of_ble_eq_true rfl) dX10_told_58 ⟨Nat.zero_le _, Nat.zero_le _⟩ (fun r4 u4 H locs hw4 hP hD hS => ?_)
        obtain ⟨hw41, hw42⟩ := hw4
        subst hw41 hw42
        have hP : va_P (dC, dI) vwCl (wX10_told h0 h1 h2 h3 h4 kc2 kc3 kc4 V0 V1 v1_globals v1_procedures v1_statements c2 c3 c4) H := hP.sub [0, 1, 2, 3, 4] rfl
        have hD : va_D A (wX10_told h0 h1 h2 h3 h4 kc2 kc3 kc4 V0 V1 v1_globals v1_procedures v1_statements c2 c3 c4) := hD.sub [0, 1, 2, 3, 4] (by decide) rfl
        have hf1 := Option.some.inj hf
        subst hf1
        have hP9 := hP.sub (ws' := (wX10_told h0 h1 h2 h3 h4 kc2 kc3 kc4 V0 V1 v1_globals v1_procedures v1_statements c2 c3 c4)) [0, 1, 2, 3, 4] rfl
        have hD9 := hD.sub (ws' := (wX10_told h0 h1 h2 h3 h4 kc2 kc3 kc4 V0 V1 v1_globals v1_procedures v1_statements c2 c3 c4)) [0, 1, 2, 3, 4] (by decide) rfl
        exact W.iret (v := o4.1) hx hb hr (fun t ht hW => ⟨⟨o4.1, (), rfl, ⟨rfl, rfl⟩, by rw [ht]; exact hP9, va_K.moved hW.alike hK, hD9⟩, hS.F ht⟩) hS.2.2 dX10_told_61
abbrev wX10_type (h0 h1 h2 : Nat) (kc2 : ClassId) (V0 : Nat → Value) (V1 : Nat → Value) (v1_size : Int32) (c2 : Nat → Int32) : va_W := [(h0, .inr (10, [V0 0, .ref h1, V0 2, V0 3, V0 4, V0 5, V0 6, V0 7, V0 8, V0 9, V0 10, V0 11])), (h1, .inr (4, [V1 0, V1 1, V1 2, V1 3, V1 4, .ref h2, .int v1_size, V1 7])), (h2, .inl (kc2, 600, .inl c2))]
set_option maxHeartbeats 4000000 in
set_option maxRecDepth 100000 in
theorem mX10_type (l : Launch) (dC : Nat → ClassId) (dI : Nat → Nat → Nat) (h0 h1 h2 : Nat) (kc2 : ClassId) (sz : Nat) (base : Nat × Nat × Nat) (a0 : Int64) (a1 : Int32) (v1_size : Int32) (c2 : Nat → Int32) (V0 : Nat → Value) (V1 : Nat → Value) (o : Int32 × Int32 × (Nat → Int32)) (hf : fX10_type a0 a1 v1_size c2 = some o) : Met l yX10_type (.code yX10_type cX10_type 4 (some .int) :: wsL_law) ({ frames := 1, cells := 0, slots := 0, locals := 24 }) (cPre (dC, dI) vwCl [.ref h0, .long a0, .int a1] sz base (wX10_type h0 h1 h2 kc2 V0 V1 v1_size c2) [(kc2, .byte)]) (va_Qi (fun r u => r = o.1 ∧ u = o.2) (fun (u : Int32 × (Nat → Int32)) t => cPost (dC, dI) vwCl (va_A (wX10_type h0 h1 h2 kc2 V0 V1 v1_size c2) sz) (wX10_type h0 h1 h2 kc2 V0 V1 u.1 u.2) [(kc2, .byte)] t) (va_A (wX10_type h0 h1 h2 kc2 V0 V1 v1_size c2) sz)) 0 0 (va_A (wX10_type h0 h1 h2 kc2 V0 V1 v1_size c2) sz) := by
  refine Met.ofW (cc := cX10_type) (maxL := 4) (ret := (some .int)) (by decide) rfl ?_
  intro p e s m args below meth c s₁ B hml hv
  obtain ⟨rfl, hsz, hP, hK, hD0, hE⟩ := hv
  have hx := B.exec
  have hb := B.bytes
  have hr := B.returns
  have hts : ∀ w ∈ wsL_law, _ := fun w h => atoms_spec (ws := .code yX10_type cX10_type 4 (some .int) :: wsL_law) B.pre w (List.mem_cons_of_mem _ h)
  have hown : s.vm.findClass RX10 = some m.cls := findClass_of_methodNamed B.named
  have hlocks := B.notSynchronized
  have w0_ := hts _ q20
  subst hsz
  have hD := hD0.self (sz := s.heap.size)
  generalize hAe : va_A (wX10_type h0 h1 h2 kc2 V0 V1 v1_size c2) s.heap.size = A at hD ⊢
  have hA : ∀ q : Nat, s.heap.size ≤ q → A q := fun q h => by rw [← hAe]; exact Or.inr h
  have hAB : ∀ q : Nat, A q → base.1 ≤ q := fun q h => by rw [← hAe] at h; exact h.elim (fun ⟨k, e, hk⟩ => hD0.2 k _ hk) (fun hk => Nat.le_trans hE.1 hk)
  have hS : va_S A s.heap s.heap [] := va_S.rf
  have hl := lv_entry ([.ref h0, .long a0, .int a1]) (n := 4) (Nat.le_of_ble_eq_true rfl)
  rw [lg_entry_eq]
  generalize (lg_sl ([.ref h0, .long a0, .int a1]) ++ List.replicate (4 - (lg_sl ([.ref h0, .long a0, .int a1])).length) Slot.unset).toArray = ls at hl ⊢
  have hl : lv_has ls 4 [(0, .ref h0), (1, .long a0), (3, .int a1)] := hl
  have hP : va_P (dC, dI) vwCl (wX10_type h0 h1 h2 kc2 V0 V1 v1_size c2) s.heap := hP
  refine gl_intro (fun G hG => ?_)
  have J11 : ∀ (v1_size : Int32) (c2 : (Nat → Int32)) (H : Heap) (locs : List Loc) (ls : Array Slot), va_P (dC, dI) vwCl (wX10_type h0 h1 h2 kc2 V0 V1 v1_size c2) H → va_D A (wX10_type h0 h1 h2 kc2 V0 V1 v1_size c2) → va_S A s.heap H locs → lv_has ls 4 [(0, .ref h0)] → fX10_type_p11   v1_size c2 = some o → G 0 0 H locs (F0 m 11 ls []) := by
    intro  v1_size c2 H locs ls hP hD hS hl hf
    refine (hG _ _ _ _ _).mpr ?_
    unfold fX10_type_p11 at hf
    refine lv_bipush (v := (-2)) hx hb dX10_type_11 (by decide +kernel) ?_
    have hf1 := Option.some.inj hf
    subst hf1
    have hP9 := hP.sub (ws' := (wX10_type h0 h1 h2 kc2 V0 V1 v1_size c2)) [0, 1, 2] rfl
    have hD9 := hD.sub (ws' := (wX10_type h0 h1 h2 kc2 V0 V1 v1_size c2)) [0, 1, 2] (by decide) rfl
    exact W.iret (v := (-2)) hx hb hr (fun t ht hW => ⟨⟨(-2), (v1_size, c2), rfl, ⟨rfl, rfl⟩, by rw [ht]; exact hP9, va_K.moved hW.alike hK, hD9⟩, hS.F ht⟩) hS.2.2 dX10_type_13
  refine (hG _ _ _ _ _).mpr ?_
  obtain ⟨H, hH⟩ : ∃ H, H = s.heap := ⟨_, rfl⟩
  have hS : va_S A s.heap H [] := by rw [hH]; exact hS
  rw [← hH] at hP ⊢
  generalize ([] : List Loc) = locs at hS ⊢
  unfold fX10_type at hf
  refine lv_iload_n hx hb dX10_type_0 rfl (lv_at hl 2 rfl) ?_
  refine lv_iconst (v := 1) hx hb dX10_type_1 (by decide +kernel) ?_
  refine lv_icmp_lt (tgt := 11) hx hb dX10_type_2 (by decide) (fun cq1 => ?_) (fun cq1 => ?_)
  · replace hf := if_at hf cq1
    exact (hG _ _ _ _ _).mp (J11 v1_size c2 H locs ls (hP.sub [0, 1, 2] rfl) (hD.sub [0, 1, 2] (by decide) rfl) hS (lv_sub hl [0] rfl) hf)
  · replace hf := if_no hf cq1
    refine lv_iload_n hx hb dX10_type_5 rfl (lv_at hl 2 rfl) ?_
    refine lv_bipush (v := 8) hx hb dX10_type_6 (by decide +kernel) ?_
    refine lv_icmp_le (tgt := 14) hx hb dX10_type_8 (by decide) (fun cq2 => ?_) (fun cq2 => ?_)
    · replace hf := if_at hf cq2
      refine lv_aload_n hx hb dX10_type_14 rfl (lv_at hl 0 rfl) ?_
      refine va_get (D := (dC, dI)) (ci := 10) (v := .ref h1) (C := RX10) (T := TX10) (N := 12) hx hb hts inlX10 hown hK hP 0 rfl rfl 1 (by decide) w0_ (fun _ h9 => h9) rfl dX10_type_15 ?_
      refine lv_lload_n hx hb dX10_type_18 rfl (lv_at hl 1 rfl) ?_
      refine lv_iload_n hx hb dX10_type_19 rfl (lv_at hl 2 rfl) ?_
      obtain ⟨o3, e3, hf⟩ := ob_some hf
      refine kVi (As := [.long a0, .int a1]) (rest := []) ⟨hx, hb, hml, hown, hts⟩ (mX4_addBytes l dC dI h1 h2 kc2 H.size base a0 a1 v1_size c2 V1 o3 e3) (cwV 2 hts (gTV q521 q522 q523 q19 q524) rfl rfl rfl (by decide +kernel) ⟨Nat.le_of_ble_eq_true rfl, Nat.le_of_ble_eq_true rfl⟩) hK hP hD hS hA hE hAB [1, 2] [0] [0] (wr := [(h0, .inr (10, [V0 0, .ref h1, V0 2, V0 3, V0 4, V0 5, V0 6, V0 7, V0 8, V0 9, V0 10, V0 11]))]) rfl rfl (by decide) (by decide) (by decide) rfl (ci := 4) (q0 := 0) rfl rfl rfl rfl hl.1 rfl (Nat.le_of_ble_eq_true rfl) dX10_type_20 ⟨Nat.zero_le _, Nat.zero_le _⟩ (fun r3 u3 H locs hw3 hP hD hS => ?_)
      obtain ⟨hw31, hw32⟩ := hw3
      subst hw31 hw32
      have hP : va_P (dC, dI) vwCl (wX10_type h0 h1 h2 kc2 V0 V1 o3.2.1 o3.2.2) H := hP.sub [0, 1, 2] rfl
      have hD : va_D A (wX10_type h0 h1 h2 kc2 V0 V1 o3.2.1 o3.2.2) := hD.sub [0, 1, 2] (by decide) rfl
      have hf1 := Option.some.inj hf
      subst hf1
      have hP9 := hP.sub (ws' := (wX10_type h0 h1 h2 kc2 V0 V1 o3.2.1 o3.2.2)) [0, 1, 2] rfl
      have hD9 := hD.sub (ws' := (wX10_type h0 h1 h2 kc2 V0 V1 o3.2.1 o3.2.2)) [0, 1, 2] (by decide) rfl
      exact W.iret (v := o3.1) hx hb hr (fun t ht hW => ⟨⟨o3.1, (o3.2.1, o3.2.2), rfl, ⟨rfl, rfl⟩, by rw [ht]; exact hP9, va_K.moved hW.alike hK, hD9⟩, hS.F ht⟩) hS.2.2 dX10_type_23
    · replace hf := if_no hf cq2
      exact (hG _ _ _ _ _).mp (J11 v1_size c2 H locs ls (hP.sub [0, 1, 2] rfl) (hD.sub [0, 1, 2] (by decide) rfl) hS (lv_sub hl [0] rfl) hf)
