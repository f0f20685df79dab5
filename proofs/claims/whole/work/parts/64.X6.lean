abbrev wX6_addArc (h0 h1 : Nat) (kc1 : ClassId) (V0 : Nat → Value) (v0_systemChanges : Int32) (v0_arcs : Int32) (c1 : Nat → Int32) : va_W := [(h0, .inr (6, [V0 0, V0 1, V0 2, V0 3, V0 4, V0 5, V0 6, .ref h1, V0 8, V0 9, V0 10, .int v0_systemChanges, V0 12, .int v0_arcs])), (h1, .inl (kc1, 192, .inl c1))]
set_option maxHeartbeats 4000000 in
set_option maxRecDepth 100000 in
theorem mX6_addArc (l : Launch) (dC : Nat → ClassId) (dI : Nat → Nat → Nat) (h0 h1 : Nat) (kc1 : ClassId) (sz : Nat) (base : Nat × Nat × Nat) (a0 : Int32) (a1 : Int32) (a2 : Int32) (v0_systemChanges : Int32) (v0_arcs : Int32) (c1 : Nat → Int32) (V0 : Nat → Value) (o : Int32 × Int32 × Int32 × (Nat → Int32)) (hf : fX6_addArc a0 a1 a2 v0_systemChanges v0_arcs c1 = some o) : Met l yX6_addArc (.code yX6_addArc cX6_addArc 5 (some .int) :: wsL_law) ({ frames := 0, cells := 0, slots := 0, locals := 0 }) (cPre (dC, dI) vwCl [.ref h0, .int a0, .int a1, .int a2] sz base (wX6_addArc h0 h1 kc1 V0 v0_systemChanges v0_arcs c1) [(kc1, .int)]) (va_Qi (fun r u => r = o.1 ∧ u = o.2) (fun (u : Int32 × Int32 × (Nat → Int32)) t => cPost (dC, dI) vwCl (va_A (wX6_addArc h0 h1 kc1 V0 v0_systemChanges v0_arcs c1) sz) (wX6_addArc h0 h1 kc1 V0 u.1 u.2.1 u.2.2) [(kc1, .int)] t) (va_A (wX6_addArc h0 h1 kc1 V0 v0_systemChanges v0_arcs c1) sz)) 0 0 (va_A (wX6_addArc h0 h1 kc1 V0 v0_systemChanges v0_arcs c1) sz) := by
  refine Met.ofW (cc := cX6_addArc) (maxL := 5) (ret := (some .int)) (by decide) rfl ?_
  intro p e s m args below meth c s₁ B hml hv
  obtain ⟨rfl, hsz, hP, hK, hD0, hE⟩ := hv
  have hx := B.exec
  have hb := B.bytes
  have hr := B.returns
  have hts : ∀ w ∈ wsL_law, _ := fun w h => atoms_spec (ws := .code yX6_addArc cX6_addArc 5 (some .int) :: wsL_law) B.pre w (List.mem_cons_of_mem _ h)
  have hown : s.vm.findClass RX6 = some m.cls := findClass_of_methodNamed B.named
  have hlocks := B.notSynchronized
  have w0_ := hts _ q39
  have w1_ := hts _ q167
  have w2_ := hts _ q141
  subst hsz
  have hD := hD0.self (sz := s.heap.size)
  generalize hAe : va_A (wX6_addArc h0 h1 kc1 V0 v0_systemChanges v0_arcs c1) s.heap.size = A at hD ⊢
  have hA : ∀ q : Nat, s.heap.size ≤ q → A q := fun q h => by rw [← hAe]; exact Or.inr h
  have hAB : ∀ q : Nat, A q → base.1 ≤ q := fun q h => by rw [← hAe] at h; exact h.elim (fun ⟨k, e, hk⟩ => hD0.2 k _ hk) (fun hk => Nat.le_trans hE.1 hk)
  have hS : va_S A s.heap s.heap [] := va_S.rf
  have hl := lv_entry ([.ref h0, .int a0, .int a1, .int a2]) (n := 5) (Nat.le_of_ble_eq_true rfl)
  rw [lg_entry_eq]
  generalize (lg_sl ([.ref h0, .int a0, .int a1, .int a2]) ++ List.replicate (5 - (lg_sl ([.ref h0, .int a0, .int a1, .int a2])).length) Slot.unset).toArray = ls at hl ⊢
  have hl : lv_has ls 5 [(0, .ref h0), (1, .int a0), (2, .int a1), (3, .int a2)] := hl
  have hP : va_P (dC, dI) vwCl (wX6_addArc h0 h1 kc1 V0 v0_systemChanges v0_arcs c1) s.heap := hP
  obtain ⟨H, hH⟩ : ∃ H, H = s.heap := ⟨_, rfl⟩
  have hS : va_S A s.heap H [] := by rw [hH]; exact hS
  rw [← hH] at hP ⊢
  generalize ([] : List Loc) = locs at hS ⊢
  unfold fX6_addArc at hf
  refine lv_iload_n hx hb dX6_addArc_0 rfl (lv_at hl 1 rfl) ?_
  refine lv_bipush (v := 12) hx hb dX6_addArc_1 (by decide +kernel) ?_
  refine lv_imul hx hb dX6_addArc_3 ?_
  refine lv_topi (fun x1 e1 => ?_)
  replace hf := nm_at hf e1
  refine lv_iload_n hx hb dX6_addArc_4 rfl (lv_at hl 2 rfl) ?_
  refine lv_iadd hx hb dX6_addArc_5 ?_
  refine lv_topi (fun x2 e2 => ?_)
  replace hf := nm_at hf e2
  refine lv_istore (lv' := [(4, .int x2), (0, .ref h0), (1, .int a0), (2, .int a1), (3, .int a2)]) hx hb dX6_addArc_6 hl (by decide) rfl (fun ls hl => ?_)
  refine lv_aload_n hx hb dX6_addArc_8 rfl (lv_at hl 1 rfl) ?_
  refine va_get (D := (dC, dI)) (ci := 6) (v := .ref h1) (C := RX6) (T := TX6) (N := 14) hx hb hts inlX6 hown hK hP 0 rfl rfl 7 (by decide) w0_ (fun _ h9 => h9) rfl dX6_addArc_9 ?_
  refine lv_iload hx hb dX6_addArc_12 (lv_at hl 0 rfl) ?_
  have b3 := bd_in hf
  replace hf := bd_k hf
  refine va_iald hx hb hK hP 1 0 rfl rfl b3 dX6_addArc_14 ?_
  refine lv_topi (fun x4 e4 => ?_)
  replace hf := nm_at hf e4
  refine lv_iload_n hx hb dX6_addArc_15 rfl (lv_at hl 4 rfl) ?_
  refine lv_iushr hx hb dX6_addArc_16 rfl ?_
  refine lv_topi (fun x5 e5 => ?_)
  replace hf := nm_at hf e5
  refine lv_iconst (v := 1) hx hb dX6_addArc_17 (by decide +kernel) ?_
  refine lv_iand hx hb dX6_addArc_18 ?_
  refine lv_topi (fun x6 e6 => ?_)
  replace hf := nm_at hf e6
  refine lv_if_eq (tgt := 27) hx hb dX6_addArc_19 (by decide) (fun cq7 => ?_) (fun cq7 => ?_)
  · replace hf := if_at hf cq7
    refine lv_aload_n hx hb dX6_addArc_27 rfl (lv_at hl 1 rfl) ?_
    refine va_get (D := (dC, dI)) (ci := 6) (v := .int v0_arcs) (C := RX6) (T := TX6) (N := 14) hx hb hts inlX6 hown hK hP 0 rfl rfl 13 (by decide) w1_ (fun _ h9 => h9) rfl dX6_addArc_28 ?_
    refine lv_bipush (v := 64) hx hb dX6_addArc_31 (by decide +kernel) ?_
    refine lv_icmp_lt (tgt := 39) hx hb dX6_addArc_33 (by decide) (fun cq8 => ?_) (fun cq8 => ?_)
    · replace hf := if_at hf cq8
      refine lv_aload_n hx hb dX6_addArc_39 rfl (lv_at hl 1 rfl) ?_
      refine va_get (D := (dC, dI)) (ci := 6) (v := .ref h1) (C := RX6) (T := TX6) (N := 14) hx hb hts inlX6 hown hK hP 0 rfl rfl 7 (by decide) w0_ (fun _ h9 => h9) rfl dX6_addArc_40 ?_
      refine lv_iload hx hb dX6_addArc_43 (lv_at hl 0 rfl) ?_
      refine lv_dup2_11 hx hb dX6_addArc_45 rfl rfl ?_
      have b9 := bd_in hf
      replace hf := bd_k hf
      refine va_iald hx hb hK hP 1 0 rfl rfl b9 dX6_addArc_46 ?_
      refine lv_topi (fun x10 e10 => ?_)
      replace hf := nm_at hf e10
      refine lv_iconst (v := 1) hx hb dX6_addArc_47 (by decide +kernel) ?_
      refine lv_iload_n hx hb dX6_addArc_48 rfl (lv_at hl 4 rfl) ?_
      refine lv_ishl hx hb dX6_addArc_49 ?_
      refine lv_topi (fun x11 e11 => ?_)
      replace hf := nm_at hf e11
      refine lv_ior hx hb dX6_addArc_50 ?_
      refine lv_topi (fun x12 e12 => ?_)
      replace hf := nm_at hf e12
      have b13 := bd_in hf
      replace hf := bd_k hf
      obtain ⟨c13x, e13⟩ : ∃ y, y = upd c1 x2.toNatClampNeg x12 := ⟨_, rfl⟩
      replace hf := nm_at hf e13
      refine va_iast hx hb hK hP hD hS 1 0 rfl rfl b13 dX6_addArc_51 (fun H locs hP hD hS => ?_)
      have hP : va_P (dC, dI) vwCl (wX6_addArc h0 h1 kc1 V0 v0_systemChanges v0_arcs c13x) H := by rw [e13]; exact hP
      have hD : va_D A (wX6_addArc h0 h1 kc1 V0 v0_systemChanges v0_arcs c13x) := by rw [e13]; exact hD
      refine lv_aload_n hx hb dX6_addArc_52 rfl (lv_at hl 1 rfl) ?_
      refine lv_dup hx hb dX6_addArc_53 rfl ?_
      refine va_get (D := (dC, dI)) (ci := 6) (v := .int v0_systemChanges) (C := RX6) (T := TX6) (N := 14) hx hb hts inlX6 hown hK hP 0 rfl rfl 11 (by decide) w2_ (fun _ h9 => h9) rfl dX6_addArc_54 ?_
      refine lv_iconst (v := 1) hx hb dX6_addArc_57 (by decide +kernel) ?_
      refine lv_iadd hx hb dX6_addArc_58 ?_
      refine lv_topi (fun x14 e14 => ?_)
      replace hf := nm_at hf e14
      refine va_put (D := (dC, dI)) (ci := 6) (v := .int x14) (ty := .int) (C := RX6) (T := TX6) (N := 14) hx hb hts inlX6 tyX6 tyX6_ok nmX6 hown hK hP hD hS 0 rfl rfl 11 (by decide) w2_ (fun _ h9 => h9) rfl (by decide +kernel) rfl rfl (Nat.le_of_ble_eq_true rfl) dX6_addArc_59 (fun H locs hP hD hS => ?_)
      have hP : va_P (dC, dI) vwCl (wX6_addArc h0 h1 kc1 V0 x14 v0_arcs c13x) H := hP
      have hD : va_D A (wX6_addArc h0 h1 kc1 V0 x14 v0_arcs c13x) := hD
      refine lv_aload_n hx hb dX6_addArc_62 rfl (lv_at hl 1 rfl) ?_
      refine lv_dup hx hb dX6_addArc_63 rfl ?_
      refine va_get (D := (dC, dI)) (ci := 6) (v := .int v0_arcs) (C := RX6) (T := TX6) (N := 14) hx hb hts inlX6 hown hK hP 0 rfl rfl 13 (by decide) w1_ (fun _ h9 => h9) rfl dX6_addArc_64 ?_
      refine lv_iconst (v := 1) hx hb dX6_addArc_67 (by decide +kernel) ?_
      refine lv_iadd hx hb dX6_addArc_68 ?_
      refine lv_topi (fun x15 e15 => ?_)
      replace hf := nm_at hf e15
      refine va_put (D := (dC, dI)) (ci := 6) (v := .int x15) (ty := .int) (C := RX6) (T := TX6) (N := 14) hx hb hts inlX6 tyX6 tyX6_ok nmX6 hown hK hP hD hS 0 rfl rfl 13 (by decide) w1_ (fun _ h9 => h9) rfl (by decide +kernel) rfl rfl (Nat.le_of_ble_eq_true rfl) dX6_addArc_69 (fun H locs hP hD hS => ?_)
      have hP : va_P (dC, dI) vwCl (wX6_addArc h0 h1 kc1 V0 x14 x15 c13x) H := hP
      have hD : va_D A (wX6_addArc h0 h1 kc1 V0 x14 x15 c13x) := hD
      refine lv_aload_n hx hb dX6_addArc_72 rfl (lv_at hl 1 rfl) ?_
      refine va_get (D := (dC, dI)) (ci := 6) (v := .int x15) (C := RX6) (T := TX6) (N := 14) hx hb hts inlX6 hown hK hP 0 rfl rfl 13 (by decide) w1_ (fun _ h9 => h9) rfl dX6_addArc_73 ?_
      have hf1 := Option.some.inj hf
      subst hf1
      have hP9 := hP.sub (ws' := (wX6_addArc h0 h1 kc1 V0 x14 x15 c13x)) [0, 1] rfl
      have hD9 := hD.sub (ws' := (wX6_addArc h0 h1 kc1 V0 x14 x15 c13x)) [0, 1] (by decide) rfl
      exact W.iret (v := x15) hx hb hr (fun t ht hW => ⟨⟨x15, (x14, x15, c13x), rfl, ⟨rfl, rfl⟩, by rw [ht]; exact hP9, va_K.moved hW.alike hK, hD9⟩, hS.F ht⟩) hS.2.2 dX6_addArc_76
    · replace hf := if_no hf cq8
      refine lv_bipush (v := (-3)) hx hb dX6_addArc_36 (by decide +kernel) ?_
      have hf1 := Option.some.inj hf
      subst hf1
      have hP9 := hP.sub (ws' := (wX6_addArc h0 h1 kc1 V0 v0_systemChanges v0_arcs c1)) [0, 1] rfl
      have hD9 := hD.sub (ws' := (wX6_addArc h0 h1 kc1 V0 v0_systemChanges v0_arcs c1)) [0, 1] (by decide) rfl
      exact W.iret (v := (-3)) hx hb hr (fun t ht hW => ⟨⟨(-3), (v0_systemChanges, v0_arcs, c1), rfl, ⟨rfl, rfl⟩, by rw [ht]; exact hP9, va_K.moved hW.alike hK, hD9⟩, hS.F ht⟩) hS.2.2 dX6_addArc_38
  · replace hf := if_no hf cq7
    refine lv_aload_n hx hb dX6_addArc_22 rfl (lv_at hl 1 rfl) ?_
    refine va_get (D := (dC, dI)) (ci := 6) (v := .int v0_arcs) (C := RX6) (T := TX6) (N := 14) hx hb hts inlX6 hown hK hP 0 rfl rfl 13 (by decide) w1_ (fun _ h9 => h9) rfl dX6_addArc_23 ?_
    have hf1 := Option.some.inj hf
    subst hf1
    have hP9 := hP.sub (ws' := (wX6_addArc h0 h1 kc1 V0 v0_systemChanges v0_arcs c1)) [0, 1] rfl
    have hD9 := hD.sub (ws' := (wX6_addArc h0 h1 kc1 V0 v0_systemChanges v0_arcs c1)) [0, 1] (by decide) rfl
    exact W.iret (v := v0_arcs) hx hb hr (fun t ht hW => ⟨⟨v0_arcs, (v0_systemChanges, v0_arcs, c1), rfl, ⟨rfl, rfl⟩, by rw [ht]; exact hP9, va_K.moved hW.alike hK, hD9⟩, hS.F ht⟩) hS.2.2 dX6_addArc_26
abbrev wX6_addRule (h0 h1 h2 h3 h4 h5 h6 : Nat) (kc1 kc2 kc3 kc4 kc5 kc6 : ClassId) (V0 : Nat → Value) (v0_rules : Int32) (v0_systemChanges : Int32) (c1 : Nat → Int32) (c2 : Nat → Int32) (c3 : Nat → Int32) (c4 : Nat → Int32) (c5 : Nat → Int32) (c6 : Nat → Int32) : va_W := [(h0, .inr (6, [.ref h1, .ref h2, .ref h3, .ref h4, .ref h5, .ref h6, .int v0_rules, V0 7, V0 8, V0 9, V0 10, .int v0_systemChanges, V0 12, V0 13])), (h1, .inl (kc1, 48, .inl c1)), (h2, .inl (kc2, 48, .inl c2)), (h3, .inl (kc3, 48, .inl c3)), (h4, .inl (kc4, 48, .inl c4)), (h5, .inl (kc5, 48, .inl c5)), (h6, .inl (kc6, 48, .inl c6))]
set_option maxHeartbeats 4000000 in
set_option maxRecDepth 100000 in
theorem mX6_addRule (l : Launch) (dC : Nat → ClassId) (dI : Nat → Nat → Nat) (h0 h1 h2 h3 h4 h5 h6 : Nat) (kc1 kc2 kc3 kc4 kc5 kc6 : ClassId) (sz : Nat) (base : Nat × Nat × Nat) (a0 : Int32) (a1 : Int32) (a2 : Int32) (a3 : Int32) (a4 : Int32) (a5 : Int32) (v0_rules : Int32) (v0_systemChanges : Int32) (c1 : Nat → Int32) (c2 : Nat → Int32) (c3 : Nat → Int32) (c4 : Nat → Int32) (c5 : Nat → Int32) (c6 : Nat → Int32) (V0 : Nat → Value) (o : Int32 × Int32 × Int32 × (Nat → Int32) × (Nat → Int32) × (Nat → Int32) × (Nat → Int32) × (Nat → Int32) × (Nat → Int32)) (hf : fX6_addRule a0 a1 a2 a3 a4 a5 v0_rules v0_systemChanges c1 c2 c3 c4 c5 c6 = some o) : Met l yX6_addRule (.code yX6_addRule cX6_addRule 7 (some .int) :: wsL_law) ({ frames := 0, cells := 0, slots := 0, locals := 0 }) (cPre (dC, dI) vwCl [.ref h0, .int a0, .int a1, .int a2, .int a3, .int a4, .int a5] sz base (wX6_addRule h0 h1 h2 h3 h4 h5 h6 kc1 kc2 kc3 kc4 kc5 kc6 V0 v0_rules v0_systemChanges c1 c2 c3 c4 c5 c6) [(kc1, .int), (kc2, .int), (kc3, .int), (kc4, .int), (kc5, .int), (kc6, .int)]) (va_Qi (fun r u => r = o.1 ∧ u = o.2) (fun (u : Int32 × Int32 × (Nat → Int32) × (Nat → Int32) × (Nat → Int32) × (Nat → Int32) × (Nat → Int32) × (Nat → Int32)) t => cPost (dC, dI) vwCl (va_A (wX6_addRule h0 h1 h2 h3 h4 h5 h6 kc1 kc2 kc3 kc4 kc5 kc6 V0 v0_rules v0_systemChanges c1 c2 c3 c4 c5 c6) sz) (wX6_addRule h0 h1 h2 h3 h4 h5 h6 kc1 kc2 kc3 kc4 kc5 kc6 V0 u.1 u.2.1 u.2.2.1 u.2.2.2.1 u.2.2.2.2.1 u.2.2.2.2.2.1 u.2.2.2.2.2.2.1 u.2.2.2.2.2.2.2) [(kc1, .int), (kc2, .int), (kc3, .int), (kc4, .int), (kc5, .int), (kc6, .int)] t) (va_A (wX6_addRule h0 h1 h2 h3 h4 h5 h6 kc1 kc2 kc3 kc4 kc5 kc6 V0 v0_rules v0_systemChanges c1 c2 c3 c4 c5 c6) sz)) 0 0 (va_A (wX6_addRule h0 h1 h2 h3 h4 h5 h6 kc1 kc2 kc3 kc4 kc5 kc6 V0 v0_rules v0_systemChanges c1 c2 c3 c4 c5 c6) sz) := by
  refine Met.ofW (cc := cX6_addRule) (maxL := 7) (ret := (some .int)) (by decide) rfl ?_
  intro p e s m args below meth c s₁ B hml hv
  obtain ⟨rfl, hsz, hP, hK, hD0, hE⟩ := hv
  have hx := B.exec
  have hb := B.bytes
  have hr := B.returns
  have hts : ∀ w ∈ wsL_law, _ := fun w h => atoms_spec (ws := .code yX6_addRule cX6_addRule 7 (some .int) :: wsL_law) B.pre w (List.mem_cons_of_mem _ h)
  have hown : s.vm.findClass RX6 = some m.cls := findClass_of_methodNamed B.named
  have hlocks := B.notSynchronized
  have w0_ := hts _ q141
  have w1_ := hts _ q140
  have w2_ := hts _ q38
  have w3_ := hts _ q33
  have w4_ := hts _ q34
  have w5_ := hts _ q35
  have w6_ := hts _ q36
  have w7_ := hts _ q37
  subst hsz
  have hD := hD0.self (sz := s.heap.size)
  generalize hAe : va_A (wX6_addRule h0 h1 h2 h3 h4 h5 h6 kc1 kc2 kc3 kc4 kc5 kc6 V0 v0_rules v0_systemChanges c1 c2 c3 c4 c5 c6) s.heap.size = A at hD ⊢
  have hA : ∀ q : Nat, s.heap.size ≤ q → A q := fun q h => by rw [← hAe]; exact Or.inr h
  have hAB : ∀ q : Nat, A q → base.1 ≤ q := fun q h => by rw [← hAe] at h; exact h.elim (fun ⟨k, e, hk⟩ => hD0.2 k _ hk) (fun hk => Nat.le_trans hE.1 hk)
  have hS : va_S A s.heap s.heap [] := va_S.rf
  have hl := lv_entry ([.ref h0, .int a0, .int a1, .int a2, .int a3, .int a4, .int a5]) (n := 7) (Nat.le_of_ble_eq_true rfl)
  rw [lg_entry_eq]
  generalize (lg_sl ([.ref h0, .int a0, .int a1, .int a2, .int a3, .int a4, .int a5]) ++ List.replicate (7 - (lg_sl ([.ref h0, .int a0, .int a1, .int a2, .int a3, .int a4, .int a5])).length) Slot.unset).toArray = ls at hl ⊢
  have hl : lv_has ls 7 [(0, .ref h0), (1, .int a0), (2, .int a1), (3, .int a2), (4, .int a3), (5, .int a4), (6, .int a5)] := hl
  have hP : va_P (dC, dI) vwCl (wX6_addRule h0 h1 h2 h3 h4 h5 h6 kc1 kc2 kc3 kc4 kc5 kc6 V0 v0_rules v0_systemChanges c1 c2 c3 c4 c5 c6) s.heap := hP
  refine gl_intro (fun G hG => ?_)
  have J94 : ∀ (z0 : Int32) (z1 : Int32) (v0_rules : Int32) (v0_systemChanges : Int32) (c1 : (Nat → Int32)) (c2 : (Nat → Int32)) (c3 : (Nat → Int32)) (c4 : (Nat → Int32)) (c5 : (Nat → Int32)) (c6 : (Nat → Int32)) (H : Heap) (locs : List Loc) (ls : Array Slot), va_P (dC, dI) vwCl (wX6_addRule h0 h1 h2 h3 h4 h5 h6 kc1 kc2 kc3 kc4 kc5 kc6 V0 v0_rules v0_systemChanges c1 c2 c3 c4 c5 c6) H → va_D A (wX6_addRule h0 h1 h2 h3 h4 h5 h6 kc1 kc2 kc3 kc4 kc5 kc6 V0 v0_rules v0_systemChanges c1 c2 c3 c4 c5 c6) → va_S A s.heap H locs → lv_has ls 7 [(0, .ref h0)] → fX6_addRule_p94   z0 z1 v0_rules v0_systemChanges c1 c2 c3 c4 c5 c6 = some o → G 0 0 H locs (F0 m 94 ls [.int z0, .int z1, .ref h6]) := by
    intro  z0 z1 v0_rules v0_systemChanges c1 c2 c3 c4 c5 c6 H locs ls hP hD hS hl hf
    refine (hG _ _ _ _ _).mpr ?_
    unfold fX6_addRule_p94 at hf
    have b1 := bd_in hf
    replace hf := bd_k hf
    obtain ⟨c1x, e1⟩ : ∃ y, y = upd c6 z1.toNatClampNeg z0 := ⟨_, rfl⟩
    replace hf := nm_at hf e1
    refine va_iast hx hb hK hP hD hS 6 5 rfl rfl b1 dX6_addRule_94 (fun H locs hP hD hS => ?_)
    have hP : va_P (dC, dI) vwCl (wX6_addRule h0 h1 h2 h3 h4 h5 h6 kc1 kc2 kc3 kc4 kc5 kc6 V0 v0_rules v0_systemChanges c1 c2 c3 c4 c5 c1x) H := by rw [e1]; exact hP
    have hD : va_D A (wX6_addRule h0 h1 h2 h3 h4 h5 h6 kc1 kc2 kc3 kc4 kc5 kc6 V0 v0_rules v0_systemChanges c1 c2 c3 c4 c5 c1x) := by rw [e1]; exact hD
    refine lv_aload_n hx hb dX6_addRule_95 rfl (lv_at hl 0 rfl) ?_
    refine lv_dup hx hb dX6_addRule_96 rfl ?_
    refine va_get (D := (dC, dI)) (ci := 6) (v := .int v0_systemChanges) (C := RX6) (T := TX6) (N := 14) hx hb hts inlX6 hown hK hP 0 rfl rfl 11 (by decide) w0_ (fun _ h9 => h9) rfl dX6_addRule_97 ?_
    refine lv_iconst (v := 1) hx hb dX6_addRule_100 (by decide +kernel) ?_
    refine lv_iadd hx hb dX6_addRule_101 ?_
    refine lv_topi (fun x2 e2 => ?_)
    replace hf := nm_at hf e2
    refine va_put (D := (dC, dI)) (ci := 6) (v := .int x2) (ty := .int) (C := RX6) (T := TX6) (N := 14) hx hb hts inlX6 tyX6 tyX6_ok nmX6 hown hK hP hD hS 0 rfl rfl 11 (by decide) w0_ (fun _ h9 => h9) rfl (by decide +kernel) rfl rfl (Nat.le_of_ble_eq_true rfl) dX6_addRule_102 (fun H locs hP hD hS => ?_)
    have hP : va_P (dC, dI) vwCl (wX6_addRule h0 h1 h2 h3 h4 h5 h6 kc1 kc2 kc3 kc4 kc5 kc6 V0 v0_rules x2 c1 c2 c3 c4 c5 c1x) H := hP
    have hD : va_D A (wX6_addRule h0 h1 h2 h3 h4 h5 h6 kc1 kc2 kc3 kc4 kc5 kc6 V0 v0_rules x2 c1 c2 c3 c4 c5 c1x) := hD
    refine lv_aload_n hx hb dX6_addRule_105 rfl (lv_at hl 0 rfl) ?_
    refine lv_dup hx hb dX6_addRule_106 rfl ?_
    refine va_get (D := (dC, dI)) (ci := 6) (v := .int v0_rules) (C := RX6) (T := TX6) (N := 14) hx hb hts inlX6 hown hK hP 0 rfl rfl 6 (by decide) w1_ (fun _ h9 => h9) rfl dX6_addRule_107 ?_
    refine lv_iconst (v := 1) hx hb dX6_addRule_110 (by decide +kernel) ?_
    refine lv_iadd hx hb dX6_addRule_111 ?_
    refine lv_topi (fun x3 e3 => ?_)
    replace hf := nm_at hf e3
    refine va_put (D := (dC, dI)) (ci := 6) (v := .int x3) (ty := .int) (C := RX6) (T := TX6) (N := 14) hx hb hts inlX6 tyX6 tyX6_ok nmX6 hown hK hP hD hS 0 rfl rfl 6 (by decide) w1_ (fun _ h9 => h9) rfl (by decide +kernel) rfl rfl (Nat.le_of_ble_eq_true rfl) dX6_addRule_112 (fun H locs hP hD hS => ?_)
    have hP : va_P (dC, dI) vwCl (wX6_addRule h0 h1 h2 h3 h4 h5 h6 kc1 kc2 kc3 kc4 kc5 kc6 V0 x3 x2 c1 c2 c3 c4 c5 c1x) H := hP
    have hD : va_D A (wX6_addRule h0 h1 h2 h3 h4 h5 h6 kc1 kc2 kc3 kc4 kc5 kc6 V0 x3 x2 c1 c2 c3 c4 c5 c1x) := hD
    refine lv_aload_n hx hb dX6_addRule_115 rfl (lv_at hl 0 rfl) ?_
    refine va_get (D := (dC, dI)) (ci := 6) (v := .int x3) (C := RX6) (T := TX6) (N := 14) hx hb hts inlX6 hown hK hP 0 rfl rfl 6 (by decide) w1_ (fun _ h9 => h9) rfl dX6_addRule_116 ?_
    refine lv_iconst (v := 1) hx hb dX6_addRule_119 (by decide +kernel) ?_
    refine lv_isub hx hb dX6_addRule_120 ?_
    refine lv_topi (fun x4 e4 => ?_)
    replace hf := nm_at hf e4
    have hf1 := Option.some.inj hf
    subst hf1
    have hP9 := hP.sub (ws' := (wX6_addRule h0 h1 h2 h3 h4 h5 h6 kc1 kc2 kc3 kc4 kc5 kc6 V0 x3 x2 c1 c2 c3 c4 c5 c1x)) [0, 1, 2, 3, 4, 5, 6] rfl
    have hD9 := hD.sub (ws' := (wX6_addRule h0 h1 h2 h3 h4 h5 h6 kc1 kc2 kc3 kc4 kc5 kc6 V0 x3 x2 c1 c2 c3 c4 c5 c1x)) [0, 1, 2, 3, 4, 5, 6] (by decide) rfl
    exact W.iret (v := x4) hx hb hr (fun t ht hW => ⟨⟨x4, (x3, x2, c1, c2, c3, c4, c5, c1x), rfl, ⟨rfl, rfl⟩, by rw [ht]; exact hP9, va_K.moved hW.alike hK, hD9⟩, hS.F ht⟩) hS.2.2 dX6_addRule_121
  have J73 : ∀ (y4 : Int32) (y6 : Int32) (z0 : Int32) (z1 : Int32) (v0_rules : Int32) (v0_systemChanges : Int32) (c1 : (Nat → Int32)) (c2 : (Nat → Int32)) (c3 : (Nat → Int32)) (c4 : (Nat → Int32)) (c5 : (Nat → Int32)) (c6 : (Nat → Int32)) (H : Heap) (locs : List Loc) (ls : Array Slot), va_P (dC, dI) vwCl (wX6_addRule h0 h1 h2 h3 h4 h5 h6 kc1 kc2 kc3 kc4 kc5 kc6 V0 v0_rules v0_systemChanges c1 c2 c3 c4 c5 c6) H → va_D A (wX6_addRule h0 h1 h2 h3 h4 h5 h6 kc1 kc2 kc3 kc4 kc5 kc6 V0 v0_rules v0_systemChanges c1 c2 c3 c4 c5 c6) → va_S A s.heap H locs → lv_has ls 7 [(0, .ref h0), (4, .int y4), (6, .int y6)] → fX6_addRule_p73   y4 y6 z0 z1 v0_rules v0_systemChanges c1 c2 c3 c4 c5 c6 = some o → G 0 0 H locs (F0 m 73 ls [.int z0, .int z1, .ref h5]) := by
    intro  y4 y6 z0 z1 v0_rules v0_systemChanges c1 c2 c3 c4 c5 c6 H locs ls hP hD hS hl hf
    refine (hG _ _ _ _ _).mpr ?_
    unfold fX6_addRule_p73 at hf
    have b5 := bd_in hf
    replace hf := bd_k hf
    obtain ⟨c5x, e5⟩ : ∃ y, y = upd c5 z1.toNatClampNeg z0 := ⟨_, rfl⟩
    replace hf := nm_at hf e5
    refine va_iast hx hb hK hP hD hS 5 4 rfl rfl b5 dX6_addRule_73 (fun H locs hP hD hS => ?_)
    have hP : va_P (dC, dI) vwCl (wX6_addRule h0 h1 h2 h3 h4 h5 h6 kc1 kc2 kc3 kc4 kc5 kc6 V0 v0_rules v0_systemChanges c1 c2 c3 c4 c5x c6) H := by rw [e5]; exact hP
    have hD : va_D A (wX6_addRule h0 h1 h2 h3 h4 h5 h6 kc1 kc2 kc3 kc4 kc5 kc6 V0 v0_rules v0_systemChanges c1 c2 c3 c4 c5x c6) := by rw [e5]; exact hD
    refine lv_aload_n hx hb dX6_addRule_74 rfl (lv_at hl 0 rfl) ?_
    refine va_get (D := (dC, dI)) (ci := 6) (v := .ref h6) (C := RX6) (T := TX6) (N := 14) hx hb hts inlX6 hown hK hP 0 rfl rfl 5 (by decide) w2_ (fun _ h9 => h9) rfl dX6_addRule_75 ?_
    refine lv_aload_n hx hb dX6_addRule_78 rfl (lv_at hl 0 rfl) ?_
    refine va_get (D := (dC, dI)) (ci := 6) (v := .int v0_rules) (C := RX6) (T := TX6) (N := 14) hx hb hts inlX6 hown hK hP 0 rfl rfl 6 (by decide) w1_ (fun _ h9 => h9) rfl dX6_addRule_79 ?_
    refine lv_iload hx hb dX6_addRule_82 (lv_at hl 1 rfl) ?_
    refine lv_iconst (v := 2) hx hb dX6_addRule_84 (by decide +kernel) ?_
    refine lv_icmp_ne (tgt := 93) hx hb dX6_addRule_85 (by decide) (fun cq6 => ?_) (fun cq6 => ?_)
    · replace hf := if_no hf cq6
      refine lv_iconst (v := 0) hx hb dX6_addRule_93 (by decide +kernel) ?_
      exact (hG _ _ _ _ _).mp (J94 0 v0_rules v0_rules v0_systemChanges c1 c2 c3 c4 c5x c6 H locs ls (hP.sub [0, 1, 2, 3, 4, 5, 6] rfl) (hD.sub [0, 1, 2, 3, 4, 5, 6] (by decide) rfl) hS (lv_sub hl [0] rfl) hf)
    · replace hf := if_at hf cq6
      refine lv_iload hx hb dX6_addRule_88 (lv_at hl 2 rfl) ?_
      refine lv_goto (tgt := 94) hx hb dX6_addRule_90 (by decide) ?_
      exact (hG _ _ _ _ _).mp (J94 y6 v0_rules v0_rules v0_systemChanges c1 c2 c3 c4 c5x c6 H locs ls (hP.sub [0, 1, 2, 3, 4, 5, 6] rfl) (hD.sub [0, 1, 2, 3, 4, 5, 6] (by decide) rfl) hS (lv_sub hl [0] rfl) hf)
  refine (hG _ _ _ _ _).mpr ?_
  obtain ⟨H, hH⟩ : ∃ H, H = s.heap := ⟨_, rfl⟩
  have hS : va_S A s.heap H [] := by rw [hH]; exact hS
  rw [← hH] at hP ⊢
  generalize ([] : List Loc) = locs at hS ⊢
  unfold fX6_addRule at hf
  refine lv_aload_n hx hb dX6_addRule_0 rfl (lv_at hl 0 rfl) ?_
  refine va_get (D := (dC, dI)) (ci := 6) (v := .int v0_rules) (C := RX6) (T := TX6) (N := 14) hx hb hts inlX6 hown hK hP 0 rfl rfl 6 (by decide) w1_ (fun _ h9 => h9) rfl dX6_addRule_1 ?_
  refine lv_bipush (v := 48) hx hb dX6_addRule_4 (by decide +kernel) ?_
  refine lv_icmp_lt (tgt := 12) hx hb dX6_addRule_6 (by decide) (fun cq7 => ?_) (fun cq7 => ?_)
  · replace hf := if_at hf cq7
    refine lv_aload_n hx hb dX6_addRule_12 rfl (lv_at hl 0 rfl) ?_
    refine va_get (D := (dC, dI)) (ci := 6) (v := .ref h1) (C := RX6) (T := TX6) (N := 14) hx hb hts inlX6 hown hK hP 0 rfl rfl 0 (by decide) w3_ (fun _ h9 => h9) rfl dX6_addRule_13 ?_
    refine lv_aload_n hx hb dX6_addRule_16 rfl (lv_at hl 0 rfl) ?_
    refine va_get (D := (dC, dI)) (ci := 6) (v := .int v0_rules) (C := RX6) (T := TX6) (N := 14) hx hb hts inlX6 hown hK hP 0 rfl rfl 6 (by decide) w1_ (fun _ h9 => h9) rfl dX6_addRule_17 ?_
    refine lv_iload_n hx hb dX6_addRule_20 rfl (lv_at hl 1 rfl) ?_
    have b8 := bd_in hf
    replace hf := bd_k hf
    obtain ⟨c8x, e8⟩ : ∃ y, y = upd c1 v0_rules.toNatClampNeg a0 := ⟨_, rfl⟩
    replace hf := nm_at hf e8
    refine va_iast hx hb hK hP hD hS 1 0 rfl rfl b8 dX6_addRule_21 (fun H locs hP hD hS => ?_)
    have hP : va_P (dC, dI) vwCl (wX6_addRule h0 h1 h2 h3 h4 h5 h6 kc1 kc2 kc3 kc4 kc5 kc6 V0 v0_rules v0_systemChanges c8x c2 c3 c4 c5 c6) H := by rw [e8]; exact hP
    have hD : va_D A (wX6_addRule h0 h1 h2 h3 h4 h5 h6 kc1 kc2 kc3 kc4 kc5 kc6 V0 v0_rules v0_systemChanges c8x c2 c3 c4 c5 c6) := by rw [e8]; exact hD
    refine lv_aload_n hx hb dX6_addRule_22 rfl (lv_at hl 0 rfl) ?_
    refine va_get (D := (dC, dI)) (ci := 6) (v := .ref h2) (C := RX6) (T := TX6) (N := 14) hx hb hts inlX6 hown hK hP 0 rfl rfl 1 (by decide) w4_ (fun _ h9 => h9) rfl dX6_addRule_23 ?_
    refine lv_aload_n hx hb dX6_addRule_26 rfl (lv_at hl 0 rfl) ?_
    refine va_get (D := (dC, dI)) (ci := 6) (v := .int v0_rules) (C := RX6) (T := TX6) (N := 14) hx hb hts inlX6 hown hK hP 0 rfl rfl 6 (by decide) w1_ (fun _ h9 => h9) rfl dX6_addRule_27 ?_
    refine lv_iload_n hx hb dX6_addRule_30 rfl (lv_at hl 2 rfl) ?_
    have b9 := bd_in hf
    replace hf := bd_k hf
    obtain ⟨c9x, e9⟩ : ∃ y, y = upd c2 v0_rules.toNatClampNeg a1 := ⟨_, rfl⟩
    replace hf := nm_at hf e9
    refine va_iast hx hb hK hP hD hS 2 1 rfl rfl b9 dX6_addRule_31 (fun H locs hP hD hS => ?_)
    have hP : va_P (dC, dI) vwCl (wX6_addRule h0 h1 h2 h3 h4 h5 h6 kc1 kc2 kc3 kc4 kc5 kc6 V0 v0_rules v0_systemChanges c8x c9x c3 c4 c5 c6) H := by rw [e9]; exact hP
    have hD : va_D A (wX6_addRule h0 h1 h2 h3 h4 h5 h6 kc1 kc2 kc3 kc4 kc5 kc6 V0 v0_rules v0_systemChanges c8x c9x c3 c4 c5 c6) := by rw [e9]; exact hD
    refine lv_aload_n hx hb dX6_addRule_32 rfl (lv_at hl 0 rfl) ?_
    refine va_get (D := (dC, dI)) (ci := 6) (v := .ref h3) (C := RX6) (T := TX6) (N := 14) hx hb hts inlX6 hown hK hP 0 rfl rfl 2 (by decide) w5_ (fun _ h9 => h9) rfl dX6_addRule_33 ?_
    refine lv_aload_n hx hb dX6_addRule_36 rfl (lv_at hl 0 rfl) ?_
    refine va_get (D := (dC, dI)) (ci := 6) (v := .int v0_rules) (C := RX6) (T := TX6) (N := 14) hx hb hts inlX6 hown hK hP 0 rfl rfl 6 (by decide) w1_ (fun _ h9 => h9) rfl dX6_addRule_37 ?_
    refine lv_iload_n hx hb dX6_addRule_40 rfl (lv_at hl 3 rfl) ?_
    have b10 := bd_in hf
    replace hf := bd_k hf
    obtain ⟨c10x, e10⟩ : ∃ y, y = upd c3 v0_rules.toNatClampNeg a2 := ⟨_, rfl⟩
    replace hf := nm_at hf e10
    refine va_iast hx hb hK hP hD hS 3 2 rfl rfl b10 dX6_addRule_41 (fun H locs hP hD hS => ?_)
    have hP : va_P (dC, dI) vwCl (wX6_addRule h0 h1 h2 h3 h4 h5 h6 kc1 kc2 kc3 kc4 kc5 kc6 V0 v0_rules v0_systemChanges c8x c9x c10x c4 c5 c6) H := by rw [e10]; exact hP
    have hD : va_D A (wX6_addRule h0 h1 h2 h3 h4 h5 h6 kc1 kc2 kc3 kc4 kc5 kc6 V0 v0_rules v0_systemChanges c8x c9x c10x c4 c5 c6) := by rw [e10]; exact hD
    refine lv_aload_n hx hb dX6_addRule_42 rfl (lv_at hl 0 rfl) ?_
    refine va_get (D := (dC, dI)) (ci := 6) (v := .ref h4) (C := RX6) (T := TX6) (N := 14) hx hb hts inlX6 hown hK hP 0 rfl rfl 3 (by decide) w6_ (fun _ h9 => h9) rfl dX6_addRule_43 ?_
    refine lv_aload_n hx hb dX6_addRule_46 rfl (lv_at hl 0 rfl) ?_
    refine va_get (D := (dC, dI)) (ci := 6) (v := .int v0_rules) (C := RX6) (T := TX6) (N := 14) hx hb hts inlX6 hown hK hP 0 rfl rfl 6 (by decide) w1_ (fun _ h9 => h9) rfl dX6_addRule_47 ?_
    refine lv_iload hx hb dX6_addRule_50 (lv_at hl 4 rfl) ?_
    have b11 := bd_in hf
    replace hf := bd_k hf
    obtain ⟨c11x, e11⟩ : ∃ y, y = upd c4 v0_rules.toNatClampNeg a3 := ⟨_, rfl⟩
    replace hf := nm_at hf e11
    refine va_iast hx hb hK hP hD hS 4 3 rfl rfl b11 dX6_addRule_52 (fun H locs hP hD hS => ?_)
    have hP : va_P (dC, dI) vwCl (wX6_addRule h0 h1 h2 h3 h4 h5 h6 kc1 kc2 kc3 kc4 kc5 kc6 V0 v0_rules v0_systemChanges c8x c9x c10x c11x c5 c6) H := by rw [e11]; exact hP
    have hD : va_D A (wX6_addRule h0 h1 h2 h3 h4 h5 h6 kc1 kc2 kc3 kc4 kc5 kc6 V0 v0_rules v0_systemChanges c8x c9x c10x c11x c5 c6) := by rw [e11]; exact hD
    refine lv_aload_n hx hb dX6_addRule_53 rfl (lv_at hl 0 rfl) ?_
    refine va_get (D := (dC, dI)) (ci := 6) (v := .ref h5) (C := RX6) (T := TX6) (N := 14) hx hb hts inlX6 hown hK hP 0 rfl rfl 4 (by decide) w7_ (fun _ h9 => h9) rfl dX6_addRule_54 ?_
    refine lv_aload_n hx hb dX6_addRule_57 rfl (lv_at hl 0 rfl) ?_
    refine va_get (D := (dC, dI)) (ci := 6) (v := .int v0_rules) (C := RX6) (T := TX6) (N := 14) hx hb hts inlX6 hown hK hP 0 rfl rfl 6 (by decide) w1_ (fun _ h9 => h9) rfl dX6_addRule_58 ?_
    refine lv_iload hx hb dX6_addRule_61 (lv_at hl 4 rfl) ?_
    refine lv_iconst (v := 1) hx hb dX6_addRule_63 (by decide +kernel) ?_
    refine lv_icmp_lt (tgt := 72) hx hb dX6_addRule_64 (by decide) (fun cq12 => ?_) (fun cq12 => ?_)
    · replace hf := if_at hf cq12
      refine lv_iconst (v := 0) hx hb dX6_addRule_72 (by decide +kernel) ?_
      exact (hG _ _ _ _ _).mp (J73 a3 a5 0 v0_rules v0_rules v0_systemChanges c8x c9x c10x c11x c5 c6 H locs ls (hP.sub [0, 1, 2, 3, 4, 5, 6] rfl) (hD.sub [0, 1, 2, 3, 4, 5, 6] (by decide) rfl) hS (lv_sub hl [0, 4, 6] rfl) hf)
    · replace hf := if_no hf cq12
      refine lv_iload hx hb dX6_addRule_67 (lv_at hl 5 rfl) ?_
      refine lv_goto (tgt := 73) hx hb dX6_addRule_69 (by decide) ?_
      exact (hG _ _ _ _ _).mp (J73 a3 a5 a4 v0_rules v0_rules v0_systemChanges c8x c9x c10x c11x c5 c6 H locs ls (hP.sub [0, 1, 2, 3, 4, 5, 6] rfl) (hD.sub [0, 1, 2, 3, 4, 5, 6] (by decide) rfl) hS (lv_sub hl [0, 4, 6] rfl) hf)
  · replace hf := if_no hf cq7
    refine lv_bipush (v := (-3)) hx hb dX6_addRule_9 (by decide +kernel) ?_
    have hf1 := Option.some.inj hf
    subst hf1
    have hP9 := hP.sub (ws' := (wX6_addRule h0 h1 h2 h3 h4 h5 h6 kc1 kc2 kc3 kc4 kc5 kc6 V0 v0_rules v0_systemChanges c1 c2 c3 c4 c5 c6)) [0, 1, 2, 3, 4, 5, 6] rfl
    have hD9 := hD.sub (ws' := (wX6_addRule h0 h1 h2 h3 h4 h5 h6 kc1 kc2 kc3 kc4 kc5 kc6 V0 v0_rules v0_systemChanges c1 c2 c3 c4 c5 c6)) [0, 1, 2, 3, 4, 5, 6] (by decide) rfl
    exact W.iret (v := (-3)) hx hb hr (fun t ht hW => ⟨⟨(-3), (v0_rules, v0_systemChanges, c1, c2, c3, c4, c5, c6), rfl, ⟨rfl, rfl⟩, by rw [ht]; exact hP9, va_K.moved hW.alike hK, hD9⟩, hS.F ht⟩) hS.2.2 dX6_addRule_11
abbrev wX6_addToWord (h0 h1 : Nat) (kc1 : ClassId) (V0 : Nat → Value) (v0_height : Int32) (v0_wordChanges : Int32) (c1 : Nat → Int32) : va_W := [(h0, .inr (6, [V0 0, V0 1, V0 2, V0 3, V0 4, V0 5, V0 6, V0 7, V0 8, .ref h1, .int v0_height, V0 11, .int v0_wordChanges, V0 13])), (h1, .inl (kc1, 30, .inl c1))]
set_option maxHeartbeats 4000000 in
set_option maxRecDepth 100000 in
theorem mX6_addToWord (l : Launch) (dC : Nat → ClassId) (dI : Nat → Nat → Nat) (h0 h1 : Nat) (kc1 : ClassId) (sz : Nat) (base : Nat × Nat × Nat) (a0 : Int32) (v0_height : Int32) (v0_wordChanges : Int32) (c1 : Nat → Int32) (V0 : Nat → Value) (o : Int32 × Int32 × Int32 × (Nat → Int32)) (hf : fX6_addToWord a0 v0_height v0_wordChanges c1 = some o) : Met l yX6_addToWord (.code yX6_addToWord cX6_addToWord 2 (some .int) :: wsL_law) ({ frames := 0, cells := 0, slots := 0, locals := 0 }) (cPre (dC, dI) vwCl [.ref h0, .int a0] sz base (wX6_addToWord h0 h1 kc1 V0 v0_height v0_wordChanges c1) [(kc1, .int)]) (va_Qi (fun r u => r = o.1 ∧ u = o.2) (fun (u : Int32 × Int32 × (Nat → Int32)) t => cPost (dC, dI) vwCl (va_A (wX6_addToWord h0 h1 kc1 V0 v0_height v0_wordChanges c1) sz) (wX6_addToWord h0 h1 kc1 V0 u.1 u.2.1 u.2.2) [(kc1, .int)] t) (va_A (wX6_addToWord h0 h1 kc1 V0 v0_height v0_wordChanges c1) sz)) 0 0 (va_A (wX6_addToWord h0 h1 kc1 V0 v0_height v0_wordChanges c1) sz) := by
  refine Met.ofW (cc := cX6_addToWord) (maxL := 2) (ret := (some .int)) (by decide) rfl ?_
  intro p e s m args below meth c s₁ B hml hv
  obtain ⟨rfl, hsz, hP, hK, hD0, hE⟩ := hv
  have hx := B.exec
  have hb := B.bytes
  have hr := B.returns
  have hts : ∀ w ∈ wsL_law, _ := fun w h => atoms_spec (ws := .code yX6_addToWord cX6_addToWord 2 (some .int) :: wsL_law) B.pre w (List.mem_cons_of_mem _ h)
  have hown : s.vm.findClass RX6 = some m.cls := findClass_of_methodNamed B.named
  have hlocks := B.notSynchronized
  have w0_ := hts _ q210
  have w1_ := hts _ q40
  have w2_ := hts _ q211
  subst hsz
  have hD := hD0.self (sz := s.heap.size)
  generalize hAe : va_A (wX6_addToWord h0 h1 kc1 V0 v0_height v0_wordChanges c1) s.heap.size = A at hD ⊢
  have hA : ∀ q : Nat, s.heap.size ≤ q → A q := fun q h => by rw [← hAe]; exact Or.inr h
  have hAB : ∀ q : Nat, A q → base.1 ≤ q := fun q h => by rw [← hAe] at h; exact h.elim (fun ⟨k, e, hk⟩ => hD0.2 k _ hk) (fun hk => Nat.le_trans hE.1 hk)
  have hS : va_S A s.heap s.heap [] := va_S.rf
  have hl := lv_entry ([.ref h0, .int a0]) (n := 2) (Nat.le_of_ble_eq_true rfl)
  rw [lg_entry_eq]
  generalize (lg_sl ([.ref h0, .int a0]) ++ List.replicate (2 - (lg_sl ([.ref h0, .int a0])).length) Slot.unset).toArray = ls at hl ⊢
  have hl : lv_has ls 2 [(0, .ref h0), (1, .int a0)] := hl
  have hP : va_P (dC, dI) vwCl (wX6_addToWord h0 h1 kc1 V0 v0_height v0_wordChanges c1) s.heap := hP
  obtain ⟨H, hH⟩ : ∃ H, H = s.heap := ⟨_, rfl⟩
  have hS : va_S A s.heap H [] := by rw [hH]; exact hS
  rw [← hH] at hP ⊢
  generalize ([] : List Loc) = locs at hS ⊢
  unfold fX6_addToWord at hf
  refine lv_aload_n hx hb dX6_addToWord_0 rfl (lv_at hl 0 rfl) ?_
  refine va_get (D := (dC, dI)) (ci := 6) (v := .int v0_height) (C := RX6) (T := TX6) (N := 14) hx hb hts inlX6 hown hK hP 0 rfl rfl 10 (by decide) w0_ (fun _ h9 => h9) rfl dX6_addToWord_1 ?_
  refine lv_bipush (v := 30) hx hb dX6_addToWord_4 (by decide +kernel) ?_
  refine lv_icmp_lt (tgt := 12) hx hb dX6_addToWord_6 (by decide) (fun cq1 => ?_) (fun cq1 => ?_)
  · replace hf := if_at hf cq1
    refine lv_aload_n hx hb dX6_addToWord_12 rfl (lv_at hl 0 rfl) ?_
    refine va_get (D := (dC, dI)) (ci := 6) (v := .ref h1) (C := RX6) (T := TX6) (N := 14) hx hb hts inlX6 hown hK hP 0 rfl rfl 9 (by decide) w1_ (fun _ h9 => h9) rfl dX6_addToWord_13 ?_
    refine lv_aload_n hx hb dX6_addToWord_16 rfl (lv_at hl 0 rfl) ?_
    refine va_get (D := (dC, dI)) (ci := 6) (v := .int v0_height) (C := RX6) (T := TX6) (N := 14) hx hb hts inlX6 hown hK hP 0 rfl rfl 10 (by decide) w0_ (fun _ h9 => h9) rfl dX6_addToWord_17 ?_
    refine lv_iload_n hx hb dX6_addToWord_20 rfl (lv_at hl 1 rfl) ?_
    have b2 := bd_in hf
    replace hf := bd_k hf
    obtain ⟨c2x, e2⟩ : ∃ y, y = upd c1 v0_height.toNatClampNeg a0 := ⟨_, rfl⟩
    replace hf := nm_at hf e2
    refine va_iast hx hb hK hP hD hS 1 0 rfl rfl b2 dX6_addToWord_21 (fun H locs hP hD hS => ?_)
    have hP : va_P (dC, dI) vwCl (wX6_addToWord h0 h1 kc1 V0 v0_height v0_wordChanges c2x) H := by rw [e2]; exact hP
    have hD : va_D A (wX6_addToWord h0 h1 kc1 V0 v0_height v0_wordChanges c2x) := by rw [e2]; exact hD
    refine lv_aload_n hx hb dX6_addToWord_22 rfl (lv_at hl 0 rfl) ?_
    refine lv_dup hx hb dX6_addToWord_23 rfl ?_
    refine va_get (D := (dC, dI)) (ci := 6) (v := .int v0_wordChanges) (C := RX6) (T := TX6) (N := 14) hx hb hts inlX6 hown hK hP 0 rfl rfl 12 (by decide) w2_ (fun _ h9 => h9) rfl dX6_addToWord_24 ?_
    refine lv_iconst (v := 1) hx hb dX6_addToWord_27 (by decide +kernel) ?_
    refine lv_iadd hx hb dX6_addToWord_28 ?_
    refine lv_topi (fun x3 e3 => ?_)
    replace hf := nm_at hf e3
    refine va_put (D := (dC, dI)) (ci := 6) (v := .int x3) (ty := .int) (C := RX6) (T := TX6) (N := 14) hx hb hts inlX6 tyX6 tyX6_ok nmX6 hown hK hP hD hS 0 rfl rfl 12 (by decide) w2_ (fun _ h9 => h9) rfl (by decide +kernel) rfl rfl (Nat.le_of_ble_eq_true rfl) dX6_addToWord_29 (fun H locs hP hD hS => ?_)
    have hP : va_P (dC, dI) vwCl (wX6_addToWord h0 h1 kc1 V0 v0_height x3 c2x) H := hP
    have hD : va_D A (wX6_addToWord h0 h1 kc1 V0 v0_height x3 c2x) := hD
    refine lv_aload_n hx hb dX6_addToWord_32 rfl (lv_at hl 0 rfl) ?_
    refine lv_dup hx hb dX6_addToWord_33 rfl ?_
    refine va_get (D := (dC, dI)) (ci := 6) (v := .int v0_height) (C := RX6) (T := TX6) (N := 14) hx hb hts inlX6 hown hK hP 0 rfl rfl 10 (by decide) w0_ (fun _ h9 => h9) rfl dX6_addToWord_34 ?_
    refine lv_iconst (v := 1) hx hb dX6_addToWord_37 (by decide +kernel) ?_
    refine lv_iadd hx hb dX6_addToWord_38 ?_
    refine lv_topi (fun x4 e4 => ?_)
    replace hf := nm_at hf e4
    refine va_put (D := (dC, dI)) (ci := 6) (v := .int x4) (ty := .int) (C := RX6) (T := TX6) (N := 14) hx hb hts inlX6 tyX6 tyX6_ok nmX6 hown hK hP hD hS 0 rfl rfl 10 (by decide) w0_ (fun _ h9 => h9) rfl (by decide +kernel) rfl rfl (Nat.le_of_ble_eq_true rfl) dX6_addToWord_39 (fun H locs hP hD hS => ?_)
    have hP : va_P (dC, dI) vwCl (wX6_addToWord h0 h1 kc1 V0 x4 x3 c2x) H := hP
    have hD : va_D A (wX6_addToWord h0 h1 kc1 V0 x4 x3 c2x) := hD
    refine lv_aload_n hx hb dX6_addToWord_42 rfl (lv_at hl 0 rfl) ?_
    refine va_get (D := (dC, dI)) (ci := 6) (v := .int x4) (C := RX6) (T := TX6) (N := 14) hx hb hts inlX6 hown hK hP 0 rfl rfl 10 (by decide) w0_ (fun _ h9 => h9) rfl dX6_addToWord_43 ?_
    have hf1 := Option.some.inj hf
    subst hf1
    have hP9 := hP.sub (ws' := (wX6_addToWord h0 h1 kc1 V0 x4 x3 c2x)) [0, 1] rfl
    have hD9 := hD.sub (ws' := (wX6_addToWord h0 h1 kc1 V0 x4 x3 c2x)) [0, 1] (by decide) rfl
    exact W.iret (v := x4) hx hb hr (fun t ht hW => ⟨⟨x4, (x4, x3, c2x), rfl, ⟨rfl, rfl⟩, by rw [ht]; exact hP9, va_K.moved hW.alike hK, hD9⟩, hS.F ht⟩) hS.2.2 dX6_addToWord_46
  · replace hf := if_no hf cq1
    refine lv_bipush (v := (-3)) hx hb dX6_addToWord_9 (by decide +kernel) ?_
    have hf1 := Option.some.inj hf
    subst hf1
    have hP9 := hP.sub (ws' := (wX6_addToWord h0 h1 kc1 V0 v0_height v0_wordChanges c1)) [0, 1] rfl
    have hD9 := hD.sub (ws' := (wX6_addToWord h0 h1 kc1 V0 v0_height v0_wordChanges c1)) [0, 1] (by decide) rfl
    exact W.iret (v := (-3)) hx hb hr (fun t ht hW => ⟨⟨(-3), (v0_height, v0_wordChanges, c1), rfl, ⟨rfl, rfl⟩, by rw [ht]; exact hP9, va_K.moved hW.alike hK, hD9⟩, hS.F ht⟩) hS.2.2 dX6_addToWord_11
set_option maxHeartbeats 4000000 in
set_option maxRecDepth 100000 in
theorem mX6_emptyWord (l : Launch) (dC : Nat → ClassId) (dI : Nat → Nat → Nat) (h0 : Nat) (sz : Nat) (base : Nat × Nat × Nat) (v0_height : Int32) (v0_wordChanges : Int32) (V0 : Nat → Value) (o : Int32 × Int32 × Int32) (hf : fX6_emptyWord v0_height v0_wordChanges = some o) : Met l yX6_emptyWord (.code yX6_emptyWord cX6_emptyWord 2 (some .int) :: wsL_law) ({ frames := 0, cells := 0, slots := 0, locals := 0 }) (cPre (dC, dI) vwCl [.ref h0] sz base [(h0, .inr (6, [V0 0, V0 1, V0 2, V0 3, V0 4, V0 5, V0 6, V0 7, V0 8, V0 9, .int v0_height, V0 11, .int v0_wordChanges, V0 13]))] []) (va_Qi (fun r u => r = o.1 ∧ u = o.2) (fun (u : Int32 × Int32) t => cPost (dC, dI) vwCl (va_A [(h0, .inr (6, [V0 0, V0 1, V0 2, V0 3, V0 4, V0 5, V0 6, V0 7, V0 8, V0 9, .int v0_height, V0 11, .int v0_wordChanges, V0 13]))] sz) [(h0, .inr (6, [V0 0, V0 1, V0 2, V0 3, V0 4, V0 5, V0 6, V0 7, V0 8, V0 9, .int u.1, V0 11, .int u.2, V0 13]))] [] t) (va_A [(h0, .inr (6, [V0 0, V0 1, V0 2, V0 3, V0 4, V0 5, V0 6, V0 7, V0 8, V0 9, .int v0_height, V0 11, .int v0_wordChanges, V0 13]))] sz)) 0 0 (va_A [(h0, .inr (6, [V0 0, V0 1, V0 2, V0 3, V0 4, V0 5, V0 6, V0 7, V0 8, V0 9, .int v0_height, V0 11, .int v0_wordChanges, V0 13]))] sz) := by
  refine Met.ofW (cc := cX6_emptyWord) (maxL := 2) (ret := (some .int)) (by decide) rfl ?_
  intro p e s m args below meth c s₁ B hml hv
  obtain ⟨rfl, hsz, hP, hK, hD0, hE⟩ := hv
  have hx := B.exec
  have hb := B.bytes
  have hr := B.returns
  have hts : ∀ w ∈ wsL_law, _ := fun w h => atoms_spec (ws := .code yX6_emptyWord cX6_emptyWord 2 (some .int) :: wsL_law) B.pre w (List.mem_cons_of_mem _ h)
  have hown : s.vm.findClass RX6 = some m.cls := findClass_of_methodNamed B.named
  have hlocks := B.notSynchronized
  have w0_ := hts _ q210
  have w1_ := hts _ q211
  subst hsz
  have hD := hD0.self (sz := s.heap.size)
  generalize hAe : va_A [(h0, .inr (6, [V0 0, V0 1, V0 2, V0 3, V0 4, V0 5, V0 6, V0 7, V0 8, V0 9, .int v0_height, V0 11, .int v0_wordChanges, V0 13]))] s.heap.size = A at hD ⊢
  have hA : ∀ q : Nat, s.heap.size ≤ q → A q := fun q h => by rw [← hAe]; exact Or.inr h
  have hAB : ∀ q : Nat, A q → base.1 ≤ q := fun q h => by rw [← hAe] at h; exact h.elim (fun ⟨k, e, hk⟩ => hD0.2 k _ hk) (fun hk => Nat.le_trans hE.1 hk)
  have hS : va_S A s.heap s.heap [] := va_S.rf
  have hl := lv_entry ([.ref h0]) (n := 2) (Nat.le_of_ble_eq_true rfl)
  rw [lg_entry_eq]
  generalize (lg_sl ([.ref h0]) ++ List.replicate (2 - (lg_sl ([.ref h0])).length) Slot.unset).toArray = ls at hl ⊢
  have hl : lv_has ls 2 [(0, .ref h0)] := hl
  have hP : va_P (dC, dI) vwCl [(h0, .inr (6, [V0 0, V0 1, V0 2, V0 3, V0 4, V0 5, V0 6, V0 7, V0 8, V0 9, .int v0_height, V0 11, .int v0_wordChanges, V0 13]))] s.heap := hP
  obtain ⟨H, hH⟩ : ∃ H, H = s.heap := ⟨_, rfl⟩
  have hS : va_S A s.heap H [] := by rw [hH]; exact hS
  rw [← hH] at hP ⊢
  generalize ([] : List Loc) = locs at hS ⊢
  unfold fX6_emptyWord at hf
  refine lv_aload_n hx hb dX6_emptyWord_0 rfl (lv_at hl 0 rfl) ?_
  refine va_get (D := (dC, dI)) (ci := 6) (v := .int v0_height) (C := RX6) (T := TX6) (N := 14) hx hb hts inlX6 hown hK hP 0 rfl rfl 10 (by decide) w0_ (fun _ h9 => h9) rfl dX6_emptyWord_1 ?_
  refine lv_istore_n (lv' := [(1, .int v0_height), (0, .ref h0)]) hx hb dX6_emptyWord_4 rfl hl (by decide) rfl (fun ls hl => ?_)
  refine lv_aload_n hx hb dX6_emptyWord_5 rfl (lv_at hl 1 rfl) ?_
  refine lv_iconst (v := 0) hx hb dX6_emptyWord_6 (by decide +kernel) ?_
  refine va_put (D := (dC, dI)) (ci := 6) (v := .int 0) (ty := .int) (C := RX6) (T := TX6) (N := 14) hx hb hts inlX6 tyX6 tyX6_ok nmX6 hown hK hP hD hS 0 rfl rfl 10 (by decide) w0_ (fun _ h9 => h9) rfl (by decide +kernel) rfl rfl (Nat.le_of_ble_eq_true rfl) dX6_emptyWord_7 (fun H locs hP hD hS => ?_)
  have hP : va_P (dC, dI) vwCl [(h0, .inr (6, [V0 0, V0 1, V0 2, V0 3, V0 4, V0 5, V0 6, V0 7, V0 8, V0 9, .int 0, V0 11, .int v0_wordChanges, V0 13]))] H := hP
  have hD : va_D A [(h0, .inr (6, [V0 0, V0 1, V0 2, V0 3, V0 4, V0 5, V0 6, V0 7, V0 8, V0 9, .int 0, V0 11, .int v0_wordChanges, V0 13]))] := hD
  refine lv_aload_n hx hb dX6_emptyWord_10 rfl (lv_at hl 1 rfl) ?_
  refine lv_dup hx hb dX6_emptyWord_11 rfl ?_
  refine va_get (D := (dC, dI)) (ci := 6) (v := .int v0_wordChanges) (C := RX6) (T := TX6) (N := 14) hx hb hts inlX6 hown hK hP 0 rfl rfl 12 (by decide) w1_ (fun _ h9 => h9) rfl dX6_emptyWord_12 ?_
  refine lv_iconst (v := 1) hx hb dX6_emptyWord_15 (by decide +kernel) ?_
  refine lv_iadd hx hb dX6_emptyWord_16 ?_
  refine lv_topi (fun x1 e1 => ?_)
  replace hf := nm_at hf e1
  refine va_put (D := (dC, dI)) (ci := 6) (v := .int x1) (ty := .int) (C := RX6) (T := TX6) (N := 14) hx hb hts inlX6 tyX6 tyX6_ok nmX6 hown hK hP hD hS 0 rfl rfl 12 (by decide) w1_ (fun _ h9 => h9) rfl (by decide +kernel) rfl rfl (Nat.le_of_ble_eq_true rfl) dX6_emptyWord_17 (fun H locs hP hD hS => ?_)
  have hP : va_P (dC, dI) vwCl [(h0, .inr (6, [V0 0, V0 1, V0 2, V0 3, V0 4, V0 5, V0 6, V0 7, V0 8, V0 9, .int 0, V0 11, .int x1, V0 13]))] H := hP
  have hD : va_D A [(h0, .inr (6, [V0 0, V0 1, V0 2, V0 3, V0 4, V0 5, V0 6, V0 7, V0 8, V0 9, .int 0, V0 11, .int x1, V0 13]))] := hD
  refine lv_iload_n hx hb dX6_emptyWord_20 rfl (lv_at hl 0 rfl) ?_
  have hf1 := Option.some.inj hf
  subst hf1
  have hP9 := hP.sub (ws' := [(h0, .inr (6, [V0 0, V0 1, V0 2, V0 3, V0 4, V0 5, V0 6, V0 7, V0 8, V0 9, .int 0, V0 11, .int x1, V0 13]))]) [0] rfl
  have hD9 := hD.sub (ws' := [(h0, .inr (6, [V0 0, V0 1, V0 2, V0 3, V0 4, V0 5, V0 6, V0 7, V0 8, V0 9, .int 0, V0 11, .int x1, V0 13]))]) [0] (by decide) rfl
  exact W.iret (v := v0_height) hx hb hr (fun t ht hW => ⟨⟨v0_height, (0, x1), rfl, ⟨rfl, rfl⟩, by rw [ht]; exact hP9, va_K.moved hW.alike hK, hD9⟩, hS.F ht⟩) hS.2.2 dX6_emptyWord_21
abbrev wX6_nodesBehind (h0 h1 : Nat) (kc1 : ClassId) (V0 : Nat → Value) (c1 : Nat → Int32) : va_W := [(h0, .inr (6, [V0 0, V0 1, V0 2, V0 3, V0 4, V0 5, V0 6, .ref h1, V0 8, V0 9, V0 10, V0 11, V0 12, V0 13])), (h1, .inl (kc1, 192, .inl c1))]
set_option maxHeartbeats 4000000 in
set_option maxRecDepth 100000 in
theorem mX6_nodesBehind (l : Launch) (dC : Nat → ClassId) (dI : Nat → Nat → Nat) (h0 h1 : Nat) (kc1 : ClassId) (sz : Nat) (base : Nat × Nat × Nat) (a0 : Int32) (a1 : Int32) (c1 : Nat → Int32) (V0 : Nat → Value) (o : Int32 × Unit) (hf : fX6_nodesBehind a0 a1 c1 = some o) : Met l yX6_nodesBehind (.code yX6_nodesBehind cX6_nodesBehind 5 (some .int) :: wsL_law) ({ frames := 0, cells := 0, slots := 0, locals := 0 }) (cPre (dC, dI) vwCl [.ref h0, .int a0, .int a1] sz base (wX6_nodesBehind h0 h1 kc1 V0 c1) [(kc1, .int)]) (va_Qi (fun r u => r = o.1 ∧ u = o.2) (fun (u : Unit) t => cPost (dC, dI) vwCl (va_A (wX6_nodesBehind h0 h1 kc1 V0 c1) sz) (wX6_nodesBehind h0 h1 kc1 V0 c1) [(kc1, .int)] t) (va_A (wX6_nodesBehind h0 h1 kc1 V0 c1) sz)) 0 0 (va_A (wX6_nodesBehind h0 h1 kc1 V0 c1) sz) := by
  refine Met.ofW (cc := cX6_nodesBehind) (maxL := 5) (ret := (some .int)) (by decide) rfl ?_
  intro p e s m args below meth c s₁ B hml hv
  obtain ⟨rfl, hsz, hP, hK, hD0, hE⟩ := hv
  have hx := B.exec
  have hb := B.bytes
  have hr := B.returns
  have hts : ∀ w ∈ wsL_law, _ := fun w h => atoms_spec (ws := .code yX6_nodesBehind cX6_nodesBehind 5 (some .int) :: wsL_law) B.pre w (List.mem_cons_of_mem _ h)
  have hown : s.vm.findClass RX6 = some m.cls := findClass_of_methodNamed B.named
  have hlocks := B.notSynchronized
  have w0_ := hts _ q39
  subst hsz
  have hD := hD0.self (sz := s.heap.size)
  generalize hAe : va_A (wX6_nodesBehind h0 h1 kc1 V0 c1) s.heap.size = A at hD ⊢
  have hA : ∀ q : Nat, s.heap.size ≤ q → A q := fun q h => by rw [← hAe]; exact Or.inr h
  have hAB : ∀ q : Nat, A q → base.1 ≤ q := fun q h => by rw [← hAe] at h; exact h.elim (fun ⟨k, e, hk⟩ => hD0.2 k _ hk) (fun hk => Nat.le_trans hE.1 hk)
  have hS : va_S A s.heap s.heap [] := va_S.rf
  have hl := lv_entry ([.ref h0, .int a0, .int a1]) (n := 5) (Nat.le_of_ble_eq_true rfl)
  rw [lg_entry_eq]
  generalize (lg_sl ([.ref h0, .int a0, .int a1]) ++ List.replicate (5 - (lg_sl ([.ref h0, .int a0, .int a1])).length) Slot.unset).toArray = ls at hl ⊢
  have hl : lv_has ls 5 [(0, .ref h0), (1, .int a0), (2, .int a1)] := hl
  have hP : va_P (dC, dI) vwCl (wX6_nodesBehind h0 h1 kc1 V0 c1) s.heap := hP
  refine gl_intro (fun G hG => ?_)
  have J36 : ∀ (k5 : Int32 → Int32 → Int32 → Int32 → Option (Int32 × Unit)) (hk5 : ∀ (y1 : Int32) (y2 : Int32) (y3 : Int32) (y4 : Int32) (H : Heap) (locs : List Loc) (ls : Array Slot), va_P (dC, dI) vwCl (wX6_nodesBehind h0 h1 kc1 V0 c1) H → va_D A (wX6_nodesBehind h0 h1 kc1 V0 c1) → va_S A s.heap H locs → lv_has ls 5 [(0, .ref h0), (1, .int y1), (2, .int y2), (3, .int y3), (4, .int y4)] → k5 y1 y2 y3 y4 = some o → G 0 0 H locs (F0 m 5 ls [])), ∀ (y1 : Int32) (y2 : Int32) (y3 : Int32) (y4 : Int32) (H : Heap) (locs : List Loc) (ls : Array Slot), va_P (dC, dI) vwCl (wX6_nodesBehind h0 h1 kc1 V0 c1) H → va_D A (wX6_nodesBehind h0 h1 kc1 V0 c1) → va_S A s.heap H locs → lv_has ls 5 [(0, .ref h0), (1, .int y1), (2, .int y2), (3, .int y3), (4, .int y4)] → fX6_nodesBehind_p36 c1 k5 y1 y2 y3 y4 = some o → G 0 0 H locs (F0 m 36 ls []) := by
    intro k5 hk5 y1 y2 y3 y4 H locs ls hP hD hS hl hf
    refine (hG _ _ _ _ _).mpr ?_
    unfold fX6_nodesBehind_p36 at hf
    obtain ⟨x1, e1⟩ : ∃ y : Int32, y = y4 + 1 := ⟨_, rfl⟩
    replace hf := nm_at hf e1
    refine lv_iinc (v := x1) (lv' := [(4, .int x1), (0, .ref h0), (1, .int y1), (2, .int y2), (3, .int y3)]) hx hb dX6_nodesBehind_36 hl (k := 4) rfl (by rw [e1]; rfl) (by decide) rfl (fun ls hl => ?_)
    refine lv_goto (tgt := 5) hx hb dX6_nodesBehind_39 (by decide) ?_
    exact (hG _ _ _ _ _).mp (hk5 y1 y2 y3 x1 H locs ls (hP.sub [0, 1] rfl) (hD.sub [0, 1] (by decide) rfl) hS (lv_sub hl [1, 2, 3, 4, 0] rfl) hf)
  have B5 : ∀ (k5 : Int32 → Int32 → Int32 → Int32 → Option (Int32 × Unit)) (hk5 : ∀ (y1 : Int32) (y2 : Int32) (y3 : Int32) (y4 : Int32) (H : Heap) (locs : List Loc) (ls : Array Slot), va_P (dC, dI) vwCl (wX6_nodesBehind h0 h1 kc1 V0 c1) H → va_D A (wX6_nodesBehind h0 h1 kc1 V0 c1) → va_S A s.heap H locs → lv_has ls 5 [(0, .ref h0), (1, .int y1), (2, .int y2), (3, .int y3), (4, .int y4)] → k5 y1 y2 y3 y4 = some o → G 0 0 H locs (F0 m 5 ls [])), ∀ (y1 : Int32) (y2 : Int32) (y3 : Int32) (y4 : Int32) (H : Heap) (locs : List Loc) (ls : Array Slot), va_P (dC, dI) vwCl (wX6_nodesBehind h0 h1 kc1 V0 c1) H → va_D A (wX6_nodesBehind h0 h1 kc1 V0 c1) → va_S A s.heap H locs → lv_has ls 5 [(0, .ref h0), (1, .int y1), (2, .int y2), (3, .int y3), (4, .int y4)] → fX6_nodesBehind_b5 c1  k5 y1 y2 y3 y4 = some o → G 0 0 H locs (F0 m 5 ls []) := by
    intro  k5 hk5 y1 y2 y3 y4 H locs ls hP hD hS hl hf
    refine (hG _ _ _ _ _).mpr ?_
    unfold fX6_nodesBehind_b5 at hf
    refine lv_iload hx hb dX6_nodesBehind_5 (lv_at hl 4 rfl) ?_
    refine lv_bipush (v := 16) hx hb dX6_nodesBehind_7 (by decide +kernel) ?_
    refine lv_icmp_ge (tgt := 42) hx hb dX6_nodesBehind_9 (by decide) (fun cq2 => ?_) (fun cq2 => ?_)
    · replace hf := if_at hf cq2
      refine lv_iload_n hx hb dX6_nodesBehind_42 rfl (lv_at hl 3 rfl) ?_
      have hf1 := Option.some.inj hf
      subst hf1
      have hP9 := hP.sub (ws' := (wX6_nodesBehind h0 h1 kc1 V0 c1)) [0, 1] rfl
      have hD9 := hD.sub (ws' := (wX6_nodesBehind h0 h1 kc1 V0 c1)) [0, 1] (by decide) rfl
      exact W.iret (v := y3) hx hb hr (fun t ht hW => ⟨⟨y3, (), rfl, ⟨rfl, rfl⟩, by rw [ht]; exact hP9, va_K.moved hW.alike hK, hD9⟩, hS.F ht⟩) hS.2.2 dX6_nodesBehind_43
    · replace hf := if_no hf cq2
      refine lv_iload_n hx hb dX6_nodesBehind_12 rfl (lv_at hl 1 rfl) ?_
      refine lv_iload hx hb dX6_nodesBehind_13 (lv_at hl 4 rfl) ?_
      refine lv_iushr hx hb dX6_nodesBehind_15 rfl ?_
      refine lv_topi (fun x3 e3 => ?_)
      replace hf := nm_at hf e3
      refine lv_iconst (v := 1) hx hb dX6_nodesBehind_16 (by decide +kernel) ?_
      refine lv_iand hx hb dX6_nodesBehind_17 ?_
      refine lv_topi (fun x4 e4 => ?_)
      replace hf := nm_at hf e4
      refine lv_if_eq (tgt := 36) hx hb dX6_nodesBehind_18 (by decide) (fun cq5 => ?_) (fun cq5 => ?_)
      · replace hf := if_at hf cq5
        exact (hG _ _ _ _ _).mp (J36 k5 hk5 y1 y2 y3 y4 H locs ls (hP.sub [0, 1] rfl) (hD.sub [0, 1] (by decide) rfl) hS (lv_sub hl [0, 1, 2, 3, 4] rfl) hf)
      · replace hf := if_no hf cq5
        refine lv_iload_n hx hb dX6_nodesBehind_21 rfl (lv_at hl 3 rfl) ?_
        refine lv_aload_n hx hb dX6_nodesBehind_22 rfl (lv_at hl 0 rfl) ?_
        refine va_get (D := (dC, dI)) (ci := 6) (v := .ref h1) (C := RX6) (T := TX6) (N := 14) hx hb hts inlX6 hown hK hP 0 rfl rfl 7 (by decide) w0_ (fun _ h9 => h9) rfl dX6_nodesBehind_23 ?_
        refine lv_iload hx hb dX6_nodesBehind_26 (lv_at hl 4 rfl) ?_
        refine lv_bipush (v := 12) hx hb dX6_nodesBehind_28 (by decide +kernel) ?_
        refine lv_imul hx hb dX6_nodesBehind_30 ?_
        refine lv_topi (fun x6 e6 => ?_)
        replace hf := nm_at hf e6
        refine lv_iload_n hx hb dX6_nodesBehind_31 rfl (lv_at hl 2 rfl) ?_
        refine lv_iadd hx hb dX6_nodesBehind_32 ?_
        refine lv_topi (fun x7 e7 => ?_)
        replace hf := nm_at hf e7
        have b8 := bd_in hf
        replace hf := bd_k hf
        refine va_iald hx hb hK hP 1 0 rfl rfl b8 dX6_nodesBehind_33 ?_
        refine lv_topi (fun x9 e9 => ?_)
        replace hf := nm_at hf e9
        refine lv_ior hx hb dX6_nodesBehind_34 ?_
        refine lv_topi (fun x10 e10 => ?_)
        replace hf := nm_at hf e10
        refine lv_istore_n (lv' := [(3, .int x10), (0, .ref h0), (1, .int y1), (2, .int y2), (4, .int y4)]) hx hb dX6_nodesBehind_35 rfl hl (by decide) rfl (fun ls hl => ?_)
        exact (hG _ _ _ _ _).mp (J36 k5 hk5 y1 y2 x10 y4 H locs ls (hP.sub [0, 1] rfl) (hD.sub [0, 1] (by decide) rfl) hS (lv_sub hl [1, 2, 3, 0, 4] rfl) hf)
  have L5 : ∀ (n : Nat), ∀ (y1 : Int32) (y2 : Int32) (y3 : Int32) (y4 : Int32) (H : Heap) (locs : List Loc) (ls : Array Slot), va_P (dC, dI) vwCl (wX6_nodesBehind h0 h1 kc1 V0 c1) H → va_D A (wX6_nodesBehind h0 h1 kc1 V0 c1) → va_S A s.heap H locs → lv_has ls 5 [(0, .ref h0), (1, .int y1), (2, .int y2), (3, .int y3), (4, .int y4)] → fX6_nodesBehind_l5 c1  n y1 y2 y3 y4 = some o → G 0 0 H locs (F0 m 5 ls []) := by
    intro  n
    induction n with
    | zero => intro y1 y2 y3 y4 H locs ls _ _ _ _ hf; cases hf
    | succ n ih => exact B5  _ ih
  refine (hG _ _ _ _ _).mpr ?_
  obtain ⟨H, hH⟩ : ∃ H, H = s.heap := ⟨_, rfl⟩
  have hS : va_S A s.heap H [] := by rw [hH]; exact hS
  rw [← hH] at hP ⊢
  generalize ([] : List Loc) = locs at hS ⊢
  unfold fX6_nodesBehind at hf
  refine lv_iconst (v := 0) hx hb dX6_nodesBehind_0 (by decide +kernel) ?_
  refine lv_istore_n (lv' := [(3, .int 0), (0, .ref h0), (1, .int a0), (2, .int a1)]) hx hb dX6_nodesBehind_1 rfl hl (by decide) rfl (fun ls hl => ?_)
  refine lv_iconst (v := 0) hx hb dX6_nodesBehind_2 (by decide +kernel) ?_
  refine lv_istore (lv' := [(4, .int 0), (3, .int 0), (0, .ref h0), (1, .int a0), (2, .int a1)]) hx hb dX6_nodesBehind_3 hl (by decide) rfl (fun ls hl => ?_)
  exact (hG _ _ _ _ _).mp (L5 FU a0 a1 0 0 H locs ls (hP.sub [0, 1] rfl) (hD.sub [0, 1] (by decide) rfl) hS (lv_sub hl [2, 3, 4, 1, 0] rfl) hf)
abbrev wX6_holdsWord (h0 h1 h2 : Nat) (kc1 kc2 : ClassId) (V0 : Nat → Value) (v0_ends : Int32) (v0_height : Int32) (c1 : Nat → Int32) (c2 : Nat → Int32) : va_W := [(h0, .inr (6, [V0 0, V0 1, V0 2, V0 3, V0 4, V0 5, V0 6, .ref h2, .int v0_ends, .ref h1, .int v0_height, V0 11, V0 12, V0 13])), (h1, .inl (kc1, 30, .inl c1)), (h2, .inl (kc2, 192, .inl c2))]
set_option maxHeartbeats 4000000 in
set_option maxRecDepth 100000 in
theorem mX6_holdsWord (l : Launch) (dC : Nat → ClassId) (dI : Nat → Nat → Nat) (h0 h1 h2 : Nat) (kc1 kc2 : ClassId) (sz : Nat) (base : Nat × Nat × Nat) (a0 : Int32) (v0_ends : Int32) (v0_height : Int32) (c1 : Nat → Int32) (c2 : Nat → Int32) (V0 : Nat → Value) (o : Int32 × Unit) (hf : fX6_holdsWord a0 v0_ends v0_height c1 c2 = some o) : Met l yX6_holdsWord (.code yX6_holdsWord cX6_holdsWord 4 (some .boolean) :: wsL_law) ({ frames := 1, cells := 0, slots := 0, locals := 24 }) (cPre (dC, dI) vwCl [.ref h0, .int a0] sz base (wX6_holdsWord h0 h1 h2 kc1 kc2 V0 v0_ends v0_height c1 c2) [(kc1, .int), (kc2, .int)]) (va_Qi (fun r u => r = o.1 ∧ u = o.2) (fun (u : Unit) t => cPost (dC, dI) vwCl (va_A (wX6_holdsWord h0 h1 h2 kc1 kc2 V0 v0_ends v0_height c1 c2) sz) (wX6_holdsWord h0 h1 h2 kc1 kc2 V0 v0_ends v0_height c1 c2) [(kc1, .int), (kc2, .int)] t) (va_A (wX6_holdsWord h0 h1 h2 kc1 kc2 V0 v0_ends v0_height c1 c2) sz)) 0 0 (va_A (wX6_holdsWord h0 h1 h2 kc1 kc2 V0 v0_ends v0_height c1 c2) sz) := by
  refine Met.ofW (cc := cX6_holdsWord) (maxL := 4) (ret := (some .boolean)) (by decide) rfl ?_
  intro p e s m args below meth c s₁ B hml hv
  obtain ⟨rfl, hsz, hP, hK, hD0, hE⟩ := hv
  have hx := B.exec
  have hb := B.bytes
  have hr := B.returns
  have hts : ∀ w ∈ wsL_law, _ := fun w h => atoms_spec (ws := .code yX6_holdsWord cX6_holdsWord 4 (some .boolean) :: wsL_law) B.pre w (List.mem_cons_of_mem _ h)
  have hown : s.vm.findClass RX6 = some m.cls := findClass_of_methodNamed B.named
  have hlocks := B.notSynchronized
  have w0_ := hts _ q181
  have w1_ := hts _ q40
  have w2_ := hts _ q210
  subst hsz
  have hD := hD0.self (sz := s.heap.size)
  generalize hAe : va_A (wX6_holdsWord h0 h1 h2 kc1 kc2 V0 v0_ends v0_height c1 c2) s.heap.size = A at hD ⊢
  have hA : ∀ q : Nat, s.heap.size ≤ q → A q := fun q h => by rw [← hAe]; exact Or.inr h
  have hAB : ∀ q : Nat, A q → base.1 ≤ q := fun q h => by rw [← hAe] at h; exact h.elim (fun ⟨k, e, hk⟩ => hD0.2 k _ hk) (fun hk => Nat.le_trans hE.1 hk)
  have hS : va_S A s.heap s.heap [] := va_S.rf
  have hl := lv_entry ([.ref h0, .int a0]) (n := 4) (Nat.le_of_ble_eq_true rfl)
  rw [lg_entry_eq]
  generalize (lg_sl ([.ref h0, .int a0]) ++ List.replicate (4 - (lg_sl ([.ref h0, .int a0])).length) Slot.unset).toArray = ls at hl ⊢
  have hl : lv_has ls 4 [(0, .ref h0), (1, .int a0)] := hl
  have hP : va_P (dC, dI) vwCl (wX6_holdsWord h0 h1 h2 kc1 kc2 V0 v0_ends v0_height c1 c2) s.heap := hP
  refine gl_intro (fun G hG => ?_)
  have J47 : ∀ (z0 : Int32) (H : Heap) (locs : List Loc) (ls : Array Slot), va_P (dC, dI) vwCl (wX6_holdsWord h0 h1 h2 kc1 kc2 V0 v0_ends v0_height c1 c2) H → va_D A (wX6_holdsWord h0 h1 h2 kc1 kc2 V0 v0_ends v0_height c1 c2) → va_S A s.heap H locs → lv_has ls 4 [(0, .ref h0)] → fX6_holdsWord_p47 v0_ends v0_height c1 c2  z0 = some o → G 0 0 H locs (F0 m 47 ls [.int z0]) := by
    intro  z0 H locs ls hP hD hS hl hf
    refine (hG _ _ _ _ _).mpr ?_
    unfold fX6_holdsWord_p47 at hf
    have b1 := bd_b hf
    replace hf := bd_k hf
    have hf1 := Option.some.inj hf
    subst hf1
    have hP9 := hP.sub (ws' := (wX6_holdsWord h0 h1 h2 kc1 kc2 V0 v0_ends v0_height c1 c2)) [0, 1, 2] rfl
    have hD9 := hD.sub (ws' := (wX6_holdsWord h0 h1 h2 kc1 kc2 V0 v0_ends v0_height c1 c2)) [0, 1, 2] (by decide) rfl
    exact W.zret (v := z0) (ty := .boolean) hx hb hr (bz_nar b1) (fun t ht hW => ⟨⟨z0, (), rfl, ⟨rfl, rfl⟩, by rw [ht]; exact hP9, va_K.moved hW.alike hK, hD9⟩, hS.F ht⟩) hS.2.2 dX6_holdsWord_47
  have B11 : ∀ (k11 : Int32 → Int32 → Option (Int32 × Unit)) (hk11 : ∀ (y2 : Int32) (y3 : Int32) (H : Heap) (locs : List Loc) (ls : Array Slot), va_P (dC, dI) vwCl (wX6_holdsWord h0 h1 h2 kc1 kc2 V0 v0_ends v0_height c1 c2) H → va_D A (wX6_holdsWord h0 h1 h2 kc1 kc2 V0 v0_ends v0_height c1 c2) → va_S A s.heap H locs → lv_has ls 4 [(0, .ref h0), (2, .int y2), (3, .int y3)] → k11 y2 y3 = some o → G 0 0 H locs (F0 m 11 ls [])), ∀ (y2 : Int32) (y3 : Int32) (H : Heap) (locs : List Loc) (ls : Array Slot), va_P (dC, dI) vwCl (wX6_holdsWord h0 h1 h2 kc1 kc2 V0 v0_ends v0_height c1 c2) H → va_D A (wX6_holdsWord h0 h1 h2 kc1 kc2 V0 v0_ends v0_height c1 c2) → va_S A s.heap H locs → lv_has ls 4 [(0, .ref h0), (2, .int y2), (3, .int y3)] → fX6_holdsWord_b11 v0_ends v0_height c1 c2  k11 y2 y3 = some o → G 0 0 H locs (F0 m 11 ls []) := by
    intro  k11 hk11 y2 y3 H locs ls hP hD hS hl hf
    refine (hG _ _ _ _ _).mpr ?_
    unfold fX6_holdsWord_b11 at hf
    refine lv_iload_n hx hb dX6_holdsWord_11 rfl (lv_at hl 2 rfl) ?_
    refine lv_if_lt (tgt := 33) hx hb dX6_holdsWord_12 (by decide) (fun cq2 => ?_) (fun cq2 => ?_)
    · replace hf := if_at hf cq2
      refine lv_iload_n hx hb dX6_holdsWord_33 rfl (lv_at hl 1 rfl) ?_
      refine lv_aload_n hx hb dX6_holdsWord_34 rfl (lv_at hl 0 rfl) ?_
      refine va_get (D := (dC, dI)) (ci := 6) (v := .int v0_ends) (C := RX6) (T := TX6) (N := 14) hx hb hts inlX6 hown hK hP 0 rfl rfl 8 (by decide) w0_ (fun _ h9 => h9) rfl dX6_holdsWord_35 ?_
      refine lv_iand hx hb dX6_holdsWord_38 ?_
      refine lv_topi (fun x3 e3 => ?_)
      replace hf := nm_at hf e3
      refine lv_if_eq (tgt := 46) hx hb dX6_holdsWord_39 (by decide) (fun cq4 => ?_) (fun cq4 => ?_)
      · replace hf := if_at hf cq4
        refine lv_iconst (v := 0) hx hb dX6_holdsWord_46 (by decide +kernel) ?_
        exact (hG _ _ _ _ _).mp (J47 0 H locs ls (hP.sub [0, 1, 2] rfl) (hD.sub [0, 1, 2] (by decide) rfl) hS (lv_sub hl [0] rfl) hf)
      · replace hf := if_no hf cq4
        refine lv_iconst (v := 1) hx hb dX6_holdsWord_42 (by decide +kernel) ?_
        refine lv_goto (tgt := 47) hx hb dX6_holdsWord_43 (by decide) ?_
        exact (hG _ _ _ _ _).mp (J47 1 H locs ls (hP.sub [0, 1, 2] rfl) (hD.sub [0, 1, 2] (by decide) rfl) hS (lv_sub hl [0] rfl) hf)
    · replace hf := if_no hf cq2
      refine lv_aload_n hx hb dX6_holdsWord_15 rfl (lv_at hl 0 rfl) ?_
      refine lv_iload_n hx hb dX6_holdsWord_16 rfl (lv_at hl 1 rfl) ?_
      refine lv_aload_n hx hb dX6_holdsWord_17 rfl (lv_at hl 0 rfl) ?_
      refine va_get (D := (dC, dI)) (ci := 6) (v := .ref h1) (C := RX6) (T := TX6) (N := 14) hx hb hts inlX6 hown hK hP 0 rfl rfl 9 (by decide) w1_ (fun _ h9 => h9) rfl dX6_holdsWord_18 ?_
      refine lv_iload_n hx hb dX6_holdsWord_21 rfl (lv_at hl 2 rfl) ?_
      have b5 := bd_in hf
      replace hf := bd_k hf
      refine va_iald hx hb hK hP 1 0 rfl rfl b5 dX6_holdsWord_22 ?_
      refine lv_topi (fun x6 e6 => ?_)
      replace hf := nm_at hf e6
      obtain ⟨o7, e7, hf⟩ := ob_some hf
      refine kVi (As := [.int y2, .int x6]) (rest := []) ⟨hx, hb, hml, hown, hts⟩ (mX6_nodesBehind l dC dI h0 h2 kc2 H.size base y2 x6 c2 (fun k => match k with | 8 => .int v0_ends | 9 => .ref h1 | 10 => .int v0_height | k => V0 k) o7 e7) (cwV 2 hts (gTV q237 q238 q239 q15 q240) rfl rfl rfl (by decide +kernel) ⟨Nat.le_of_ble_eq_true rfl, Nat.le_of_ble_eq_true rfl⟩) hK hP hD hS hA hE hAB [0, 2] [1] [1] (wr := [(h1, .inl (kc1, 30, .inl c1))]) rfl rfl (by decide) (by decide) (by decide) rfl (ci := 6) (q0 := 0) rfl rfl rfl rfl hl.1 rfl (Nat.le_of_ble_eq_true rfl) dX6_holdsWord_23 ⟨Nat.zero_le _, Nat.zero_le _⟩ (fun r7 u7 H locs hw7 hP hD hS => ?_)
      obtain ⟨hw71, hw72⟩ := hw7
      subst hw71 hw72
      have hP : va_P (dC, dI) vwCl (wX6_holdsWord h0 h1 h2 kc1 kc2 V0 v0_ends v0_height c1 c2) H := hP.sub [1, 0, 2] rfl
      have hD : va_D A (wX6_holdsWord h0 h1 h2 kc1 kc2 V0 v0_ends v0_height c1 c2) := hD.sub [1, 0, 2] (by decide) rfl
      refine lv_istore_n (lv' := [(2, .int o7.1), (0, .ref h0), (3, .int y3)]) hx hb dX6_holdsWord_26 rfl hl (by decide) rfl (fun ls hl => ?_)
      obtain ⟨x8, e8⟩ : ∃ y : Int32, y = y3 + (-1) := ⟨_, rfl⟩
      replace hf := nm_at hf e8
      refine lv_iinc (v := x8) (lv' := [(3, .int x8), (2, .int o7.1), (0, .ref h0)]) hx hb dX6_holdsWord_27 hl (k := 2) rfl (by rw [e8]; rfl) (by decide) rfl (fun ls hl => ?_)
      refine lv_goto (tgt := 11) hx hb dX6_holdsWord_30 (by decide) ?_
      exact (hG _ _ _ _ _).mp (hk11 o7.1 x8 H locs ls (hP.sub [0, 1, 2] rfl) (hD.sub [0, 1, 2] (by decide) rfl) hS (lv_sub hl [2, 1, 0] rfl) hf)
  have L11 : ∀ (n : Nat), ∀ (y2 : Int32) (y3 : Int32) (H : Heap) (locs : List Loc) (ls : Array Slot), va_P (dC, dI) vwCl (wX6_holdsWord h0 h1 h2 kc1 kc2 V0 v0_ends v0_height c1 c2) H → va_D A (wX6_holdsWord h0 h1 h2 kc1 kc2 V0 v0_ends v0_height c1 c2) → va_S A s.heap H locs → lv_has ls 4 [(0, .ref h0), (2, .int y2), (3, .int y3)] → fX6_holdsWord_l11 v0_ends v0_height c1 c2  n y2 y3 = some o → G 0 0 H locs (F0 m 11 ls []) := by
    intro  n
    induction n with
    | zero => intro y2 y3 H locs ls _ _ _ _ hf; cases hf
    | succ n ih => exact B11  _ ih
  refine (hG _ _ _ _ _).mpr ?_
  obtain ⟨H, hH⟩ : ∃ H, H = s.heap := ⟨_, rfl⟩
  have hS : va_S A s.heap H [] := by rw [hH]; exact hS
  rw [← hH] at hP ⊢
  generalize ([] : List Loc) = locs at hS ⊢
  unfold fX6_holdsWord at hf
  refine lv_iconst (v := 1) hx hb dX6_holdsWord_0 (by decide +kernel) ?_
  refine lv_iload_n hx hb dX6_holdsWord_1 rfl (lv_at hl 1 rfl) ?_
  refine lv_ishl hx hb dX6_holdsWord_2 ?_
  refine lv_topi (fun x9 e9 => ?_)
  replace hf := nm_at hf e9
  refine lv_istore_n (lv' := [(2, .int x9), (0, .ref h0), (1, .int a0)]) hx hb dX6_holdsWord_3 rfl hl (by decide) rfl (fun ls hl => ?_)
  refine lv_aload_n hx hb dX6_holdsWord_4 rfl (lv_at hl 1 rfl) ?_
  refine va_get (D := (dC, dI)) (ci := 6) (v := .int v0_height) (C := RX6) (T := TX6) (N := 14) hx hb hts inlX6 hown hK hP 0 rfl rfl 10 (by decide) w2_ (fun _ h9 => h9) rfl dX6_holdsWord_5 ?_
  refine lv_iconst (v := 1) hx hb dX6_holdsWord_8 (by decide +kernel) ?_
  refine lv_isub hx hb dX6_holdsWord_9 ?_
  refine lv_topi (fun x10 e10 => ?_)
  replace hf := nm_at hf e10
  refine lv_istore_n (lv' := [(3, .int x10), (2, .int x9), (0, .ref h0), (1, .int a0)]) hx hb dX6_holdsWord_10 rfl hl (by decide) rfl (fun ls hl => ?_)
  exact (hG _ _ _ _ _).mp (L11 FU x9 x10 H locs ls (hP.sub [0, 1, 2] rfl) (hD.sub [0, 1, 2] (by decide) rfl) hS (lv_sub hl [2, 1, 0] rfl) hf)
abbrev wX6_removeAll (h0 h1 : Nat) (kc1 : ClassId) (V0 : Nat → Value) (v0_rules : Int32) (v0_ends : Int32) (v0_systemChanges : Int32) (v0_arcs : Int32) (c1 : Nat → Int32) : va_W := [(h0, .inr (6, [V0 0, V0 1, V0 2, V0 3, V0 4, V0 5, .int v0_rules, .ref h1, .int v0_ends, V0 9, V0 10, .int v0_systemChanges, V0 12, .int v0_arcs])), (h1, .inl (kc1, 192, .inl c1))]
set_option maxHeartbeats 4000000 in
set_option maxRecDepth 100000 in
theorem mX6_removeAll (l : Launch) (dC : Nat → ClassId) (dI : Nat → Nat → Nat) (h0 h1 : Nat) (kc1 : ClassId) (sz : Nat) (base : Nat × Nat × Nat) (v0_rules : Int32) (v0_ends : Int32) (v0_systemChanges : Int32) (v0_arcs : Int32) (c1 : Nat → Int32) (V0 : Nat → Value) (o : Int32 × Int32 × Int32 × Int32 × Int32 × (Nat → Int32)) (hf : fX6_removeAll v0_rules v0_ends v0_systemChanges v0_arcs c1 = some o) : Met l yX6_removeAll (.code yX6_removeAll cX6_removeAll 2 (some .int) :: wsL_law) ({ frames := 1, cells := 0, slots := 0, locals := 23 }) (cPre (dC, dI) vwCl [.ref h0] sz base (wX6_removeAll h0 h1 kc1 V0 v0_rules v0_ends v0_systemChanges v0_arcs c1) [(kc1, .int)]) (va_Qi (fun r u => r = o.1 ∧ u = o.2) (fun (u : Int32 × Int32 × Int32 × Int32 × (Nat → Int32)) t => cPost (dC, dI) vwCl (va_A (wX6_removeAll h0 h1 kc1 V0 v0_rules v0_ends v0_systemChanges v0_arcs c1) sz) (wX6_removeAll h0 h1 kc1 V0 u.1 u.2.1 u.2.2.1 u.2.2.2.1 u.2.2.2.2) [(kc1, .int)] t) (va_A (wX6_removeAll h0 h1 kc1 V0 v0_rules v0_ends v0_systemChanges v0_arcs c1) sz)) 0 0 (va_A (wX6_removeAll h0 h1 kc1 V0 v0_rules v0_ends v0_systemChanges v0_arcs c1) sz) := by
  refine Met.ofW (cc := cX6_removeAll) (maxL := 2) (ret := (some .int)) (by decide) rfl ?_
  intro p e s m args below meth c s₁ B hml hv
  obtain ⟨rfl, hsz, hP, hK, hD0, hE⟩ := hv
  have hx := B.exec
  have hb := B.bytes
  have hr := B.returns
  have hts : ∀ w ∈ wsL_law, _ := fun w h => atoms_spec (ws := .code yX6_removeAll cX6_removeAll 2 (some .int) :: wsL_law) B.pre w (List.mem_cons_of_mem _ h)
  have hown : s.vm.findClass RX6 = some m.cls := findClass_of_methodNamed B.named
  have hlocks := B.notSynchronized
  have w0_ := hts _ q140
  have w1_ := hts _ q167
  have w2_ := hts _ q181
  have w3_ := hts _ q39
  have w4_ := hts _ q141
  subst hsz
  have hD := hD0.self (sz := s.heap.size)
  generalize hAe : va_A (wX6_removeAll h0 h1 kc1 V0 v0_rules v0_ends v0_systemChanges v0_arcs c1) s.heap.size = A at hD ⊢
  have hA : ∀ q : Nat, s.heap.size ≤ q → A q := fun q h => by rw [← hAe]; exact Or.inr h
  have hAB : ∀ q : Nat, A q → base.1 ≤ q := fun q h => by rw [← hAe] at h; exact h.elim (fun ⟨k, e, hk⟩ => hD0.2 k _ hk) (fun hk => Nat.le_trans hE.1 hk)
  have hS : va_S A s.heap s.heap [] := va_S.rf
  have hl := lv_entry ([.ref h0]) (n := 2) (Nat.le_of_ble_eq_true rfl)
  rw [lg_entry_eq]
  generalize (lg_sl ([.ref h0]) ++ List.replicate (2 - (lg_sl ([.ref h0])).length) Slot.unset).toArray = ls at hl ⊢
  have hl : lv_has ls 2 [(0, .ref h0)] := hl
  have hP : va_P (dC, dI) vwCl (wX6_removeAll h0 h1 kc1 V0 v0_rules v0_ends v0_systemChanges v0_arcs c1) s.heap := hP
  obtain ⟨H, hH⟩ : ∃ H, H = s.heap := ⟨_, rfl⟩
  have hS : va_S A s.heap H [] := by rw [hH]; exact hS
  rw [← hH] at hP ⊢
  generalize ([] : List Loc) = locs at hS ⊢
  unfold fX6_removeAll at hf
  refine lv_aload_n hx hb dX6_removeAll_0 rfl (lv_at hl 0 rfl) ?_
  refine va_get (D := (dC, dI)) (ci := 6) (v := .int v0_rules) (C := RX6) (T := TX6) (N := 14) hx hb hts inlX6 hown hK hP 0 rfl rfl 6 (by decide) w0_ (fun _ h9 => h9) rfl dX6_removeAll_1 ?_
  refine lv_istore_n (lv' := [(1, .int v0_rules), (0, .ref h0)]) hx hb dX6_removeAll_4 rfl hl (by decide) rfl (fun ls hl => ?_)
  refine lv_aload_n hx hb dX6_removeAll_5 rfl (lv_at hl 1 rfl) ?_
  refine lv_iconst (v := 0) hx hb dX6_removeAll_6 (by decide +kernel) ?_
  refine va_put (D := (dC, dI)) (ci := 6) (v := .int 0) (ty := .int) (C := RX6) (T := TX6) (N := 14) hx hb hts inlX6 tyX6 tyX6_ok nmX6 hown hK hP hD hS 0 rfl rfl 6 (by decide) w0_ (fun _ h9 => h9) rfl (by decide +kernel) rfl rfl (Nat.le_of_ble_eq_true rfl) dX6_removeAll_7 (fun H locs hP hD hS => ?_)
  have hP : va_P (dC, dI) vwCl (wX6_removeAll h0 h1 kc1 V0 0 v0_ends v0_systemChanges v0_arcs c1) H := hP
  have hD : va_D A (wX6_removeAll h0 h1 kc1 V0 0 v0_ends v0_systemChanges v0_arcs c1) := hD
  refine lv_aload_n hx hb dX6_removeAll_10 rfl (lv_at hl 1 rfl) ?_
  refine lv_iconst (v := 0) hx hb dX6_removeAll_11 (by decide +kernel) ?_
  refine va_put (D := (dC, dI)) (ci := 6) (v := .int 0) (ty := .int) (C := RX6) (T := TX6) (N := 14) hx hb hts inlX6 tyX6 tyX6_ok nmX6 hown hK hP hD hS 0 rfl rfl 13 (by decide) w1_ (fun _ h9 => h9) rfl (by decide +kernel) rfl rfl (Nat.le_of_ble_eq_true rfl) dX6_removeAll_12 (fun H locs hP hD hS => ?_)
  have hP : va_P (dC, dI) vwCl (wX6_removeAll h0 h1 kc1 V0 0 v0_ends v0_systemChanges 0 c1) H := hP
  have hD : va_D A (wX6_removeAll h0 h1 kc1 V0 0 v0_ends v0_systemChanges 0 c1) := hD
  refine lv_aload_n hx hb dX6_removeAll_15 rfl (lv_at hl 1 rfl) ?_
  refine lv_iconst (v := 0) hx hb dX6_removeAll_16 (by decide +kernel) ?_
  refine va_put (D := (dC, dI)) (ci := 6) (v := .int 0) (ty := .int) (C := RX6) (T := TX6) (N := 14) hx hb hts inlX6 tyX6 tyX6_ok nmX6 hown hK hP hD hS 0 rfl rfl 8 (by decide) w2_ (fun _ h9 => h9) rfl (by decide +kernel) rfl rfl (Nat.le_of_ble_eq_true rfl) dX6_removeAll_17 (fun H locs hP hD hS => ?_)
  have hP : va_P (dC, dI) vwCl (wX6_removeAll h0 h1 kc1 V0 0 0 v0_systemChanges 0 c1) H := hP
  have hD : va_D A (wX6_removeAll h0 h1 kc1 V0 0 0 v0_systemChanges 0 c1) := hD
  refine lv_aload_n hx hb dX6_removeAll_20 rfl (lv_at hl 1 rfl) ?_
  refine va_get (D := (dC, dI)) (ci := 6) (v := .ref h1) (C := RX6) (T := TX6) (N := 14) hx hb hts inlX6 hown hK hP 0 rfl rfl 7 (by decide) w3_ (fun _ h9 => h9) rfl dX6_removeAll_21 ?_
  refine lv_iconst (v := 0) hx hb dX6_removeAll_24 (by decide +kernel) ?_
  obtain ⟨o1, e1, hf⟩ := ob_some hf
  refine kSv (As := [.ref h1, .int 0]) (rest := []) ⟨hx, hb, hml, hown, hts⟩ (mJ7_fill_53178 l dC dI h1 kc1 H.size base 0 192 c1 o1 e1) (va_cwS 2 hts (gTS q194 q195 q196 q197) rfl rfl rfl (by decide +kernel) ⟨Nat.le_of_ble_eq_true rfl, Nat.le_of_ble_eq_true rfl⟩) hK hP hD hS hA hE hAB [1] [0] [0] (wr := [(h0, .inr (6, [V0 0, V0 1, V0 2, V0 3, V0 4, V0 5, .int 0, .ref h1, .int 0, V0 9, V0 10, .int v0_systemChanges, V0 12, .int 0]))]) rfl rfl (by decide) (by decide) (by decide) rfl rfl hl.1 rfl (Nat.le_of_ble_eq_true rfl) dX6_removeAll_25 ⟨Nat.zero_le _, Nat.zero_le _⟩ (fun u1 H locs hw1 hP hD hS => ?_)
  have hw11 : o1 = u1 := Eq.symm hw1
  subst hw11
  have hP : va_P (dC, dI) vwCl (wX6_removeAll h0 h1 kc1 V0 0 0 v0_systemChanges 0 o1) H := hP.sub [0, 1] rfl
  have hD : va_D A (wX6_removeAll h0 h1 kc1 V0 0 0 v0_systemChanges 0 o1) := hD.sub [0, 1] (by decide) rfl
  refine lv_aload_n hx hb dX6_removeAll_28 rfl (lv_at hl 1 rfl) ?_
  refine lv_dup hx hb dX6_removeAll_29 rfl ?_
  refine va_get (D := (dC, dI)) (ci := 6) (v := .int v0_systemChanges) (C := RX6) (T := TX6) (N := 14) hx hb hts inlX6 hown hK hP 0 rfl rfl 11 (by decide) w4_ (fun _ h9 => h9) rfl dX6_removeAll_30 ?_
  refine lv_iconst (v := 1) hx hb dX6_removeAll_33 (by decide +kernel) ?_
  refine lv_iadd hx hb dX6_removeAll_34 ?_
  refine lv_topi (fun x2 e2 => ?_)
  replace hf := nm_at hf e2
  refine va_put (D := (dC, dI)) (ci := 6) (v := .int x2) (ty := .int) (C := RX6) (T := TX6) (N := 14) hx hb hts inlX6 tyX6 tyX6_ok nmX6 hown hK hP hD hS 0 rfl rfl 11 (by decide) w4_ (fun _ h9 => h9) rfl (by decide +kernel) rfl rfl (Nat.le_of_ble_eq_true rfl) dX6_removeAll_35 (fun H locs hP hD hS => ?_)
  have hP : va_P (dC, dI) vwCl (wX6_removeAll h0 h1 kc1 V0 0 0 x2 0 o1) H := hP
  have hD : va_D A (wX6_removeAll h0 h1 kc1 V0 0 0 x2 0 o1) := hD
  refine lv_iload_n hx hb dX6_removeAll_38 rfl (lv_at hl 0 rfl) ?_
  have hf1 := Option.some.inj hf
  subst hf1
  have hP9 := hP.sub (ws' := (wX6_removeAll h0 h1 kc1 V0 0 0 x2 0 o1)) [0, 1] rfl
  have hD9 := hD.sub (ws' := (wX6_removeAll h0 h1 kc1 V0 0 0 x2 0 o1)) [0, 1] (by decide) rfl
  exact W.iret (v := v0_rules) hx hb hr (fun t ht hW => ⟨⟨v0_rules, (0, 0, x2, 0, o1), rfl, ⟨rfl, rfl⟩, by rw [ht]; exact hP9, va_K.moved hW.alike hK, hD9⟩, hS.F ht⟩) hS.2.2 dX6_removeAll_39
set_option maxHeartbeats 4000000 in
set_option maxRecDepth 100000 in
theorem mX6_setEnd (l : Launch) (dC : Nat → ClassId) (dI : Nat → Nat → Nat) (h0 : Nat) (sz : Nat) (base : Nat × Nat × Nat) (a0 : Int32) (a1 : Int32) (v0_ends : Int32) (v0_systemChanges : Int32) (V0 : Nat → Value) (o : Int32 × Int32 × Int32) (hf : fX6_setEnd a0 a1 v0_ends v0_systemChanges = some o) : Met l yX6_setEnd (.code yX6_setEnd cX6_setEnd 4 (some .int) :: wsL_law) ({ frames := 0, cells := 0, slots := 0, locals := 0 }) (cPre (dC, dI) vwCl [.ref h0, .int a0, .int a1] sz base [(h0, .inr (6, [V0 0, V0 1, V0 2, V0 3, V0 4, V0 5, V0 6, V0 7, .int v0_ends, V0 9, V0 10, .int v0_systemChanges, V0 12, V0 13]))] []) (va_Qi (fun r u => r = o.1 ∧ u = o.2) (fun (u : Int32 × Int32) t => cPost (dC, dI) vwCl (va_A [(h0, .inr (6, [V0 0, V0 1, V0 2, V0 3, V0 4, V0 5, V0 6, V0 7, .int v0_ends, V0 9, V0 10, .int v0_systemChanges, V0 12, V0 13]))] sz) [(h0, .inr (6, [V0 0, V0 1, V0 2, V0 3, V0 4, V0 5, V0 6, V0 7, .int u.1, V0 9, V0 10, .int u.2, V0 12, V0 13]))] [] t) (va_A [(h0, .inr (6, [V0 0, V0 1, V0 2, V0 3, V0 4, V0 5, V0 6, V0 7, .int v0_ends, V0 9, V0 10, .int v0_systemChanges, V0 12, V0 13]))] sz)) 0 0 (va_A [(h0, .inr (6, [V0 0, V0 1, V0 2, V0 3, V0 4, V0 5, V0 6, V0 7, .int v0_ends, V0 9, V0 10, .int v0_systemChanges, V0 12, V0 13]))] sz) := by
  refine Met.ofW (cc := cX6_setEnd) (maxL := 4) (ret := (some .int)) (by decide) rfl ?_
  intro p e s m args below meth c s₁ B hml hv
  obtain ⟨rfl, hsz, hP, hK, hD0, hE⟩ := hv
  have hx := B.exec
  have hb := B.bytes
  have hr := B.returns
  have hts : ∀ w ∈ wsL_law, _ := fun w h => atoms_spec (ws := .code yX6_setEnd cX6_setEnd 4 (some .int) :: wsL_law) B.pre w (List.mem_cons_of_mem _ h)
  have hown : s.vm.findClass RX6 = some m.cls := findClass_of_methodNamed B.named
  have hlocks := B.notSynchronized
  have w0_ := hts _ q181
  have w1_ := hts _ q141
  subst hsz
  have hD := hD0.self (sz := s.heap.size)
  generalize hAe : va_A [(h0, .inr (6, [V0 0, V0 1, V0 2, V0 3, V0 4, V0 5, V0 6, V0 7, .int v0_ends, V0 9, V0 10, .int v0_systemChanges, V0 12, V0 13]))] s.heap.size = A at hD ⊢
  have hA : ∀ q : Nat, s.heap.size ≤ q → A q := fun q h => by rw [← hAe]; exact Or.inr h
  have hAB : ∀ q : Nat, A q → base.1 ≤ q := fun q h => by rw [← hAe] at h; exact h.elim (fun ⟨k, e, hk⟩ => hD0.2 k _ hk) (fun hk => Nat.le_trans hE.1 hk)
  have hS : va_S A s.heap s.heap [] := va_S.rf
  have hl := lv_entry ([.ref h0, .int a0, .int a1]) (n := 4) (Nat.le_of_ble_eq_true rfl)
  rw [lg_entry_eq]
  generalize (lg_sl ([.ref h0, .int a0, .int a1]) ++ List.replicate (4 - (lg_sl ([.ref h0, .int a0, .int a1])).length) Slot.unset).toArray = ls at hl ⊢
  have hl : lv_has ls 4 [(0, .ref h0), (1, .int a0), (2, .int a1)] := hl
  have hP : va_P (dC, dI) vwCl [(h0, .inr (6, [V0 0, V0 1, V0 2, V0 3, V0 4, V0 5, V0 6, V0 7, .int v0_ends, V0 9, V0 10, .int v0_systemChanges, V0 12, V0 13]))] s.heap := hP
  refine gl_intro (fun G hG => ?_)
  have J36 : ∀ (y3 : Int32) (v0_ends : Int32) (v0_systemChanges : Int32) (H : Heap) (locs : List Loc) (ls : Array Slot), va_P (dC, dI) vwCl [(h0, .inr (6, [V0 0, V0 1, V0 2, V0 3, V0 4, V0 5, V0 6, V0 7, .int v0_ends, V0 9, V0 10, .int v0_systemChanges, V0 12, V0 13]))] H → va_D A [(h0, .inr (6, [V0 0, V0 1, V0 2, V0 3, V0 4, V0 5, V0 6, V0 7, .int v0_ends, V0 9, V0 10, .int v0_systemChanges, V0 12, V0 13]))] → va_S A s.heap H locs → lv_has ls 4 [(0, .ref h0), (3, .int y3)] → fX6_setEnd_p36   y3 v0_ends v0_systemChanges = some o → G 0 0 H locs (F0 m 36 ls []) := by
    intro  y3 v0_ends v0_systemChanges H locs ls hP hD hS hl hf
    refine (hG _ _ _ _ _).mpr ?_
    unfold fX6_setEnd_p36 at hf
    refine lv_iload_n hx hb dX6_setEnd_36 rfl (lv_at hl 1 rfl) ?_
    have hf1 := Option.some.inj hf
    subst hf1
    have hP9 := hP.sub (ws' := [(h0, .inr (6, [V0 0, V0 1, V0 2, V0 3, V0 4, V0 5, V0 6, V0 7, .int v0_ends, V0 9, V0 10, .int v0_systemChanges, V0 12, V0 13]))]) [0] rfl
    have hD9 := hD.sub (ws' := [(h0, .inr (6, [V0 0, V0 1, V0 2, V0 3, V0 4, V0 5, V0 6, V0 7, .int v0_ends, V0 9, V0 10, .int v0_systemChanges, V0 12, V0 13]))]) [0] (by decide) rfl
    exact W.iret (v := y3) hx hb hr (fun t ht hW => ⟨⟨y3, (v0_ends, v0_systemChanges), rfl, ⟨rfl, rfl⟩, by rw [ht]; exact hP9, va_K.moved hW.alike hK, hD9⟩, hS.F ht⟩) hS.2.2 dX6_setEnd_37
  refine (hG _ _ _ _ _).mpr ?_
  obtain ⟨H, hH⟩ : ∃ H, H = s.heap := ⟨_, rfl⟩
  have hS : va_S A s.heap H [] := by rw [hH]; exact hS
  rw [← hH] at hP ⊢
  generalize ([] : List Loc) = locs at hS ⊢
  unfold fX6_setEnd at hf
  refine lv_aload_n hx hb dX6_setEnd_0 rfl (lv_at hl 0 rfl) ?_
  refine va_get (D := (dC, dI)) (ci := 6) (v := .int v0_ends) (C := RX6) (T := TX6) (N := 14) hx hb hts inlX6 hown hK hP 0 rfl rfl 8 (by decide) w0_ (fun _ h9 => h9) rfl dX6_setEnd_1 ?_
  refine lv_iload_n hx hb dX6_setEnd_4 rfl (lv_at hl 1 rfl) ?_
  refine lv_iushr hx hb dX6_setEnd_5 rfl ?_
  refine lv_topi (fun x1 e1 => ?_)
  replace hf := nm_at hf e1
  refine lv_iconst (v := 1) hx hb dX6_setEnd_6 (by decide +kernel) ?_
  refine lv_iand hx hb dX6_setEnd_7 ?_
  refine lv_topi (fun x2 e2 => ?_)
  replace hf := nm_at hf e2
  refine lv_istore_n (lv' := [(3, .int x2), (0, .ref h0), (1, .int a0), (2, .int a1)]) hx hb dX6_setEnd_8 rfl hl (by decide) rfl (fun ls hl => ?_)
  refine lv_iload_n hx hb dX6_setEnd_9 rfl (lv_at hl 0 rfl) ?_
  refine lv_iload_n hx hb dX6_setEnd_10 rfl (lv_at hl 3 rfl) ?_
  refine lv_icmp_eq (tgt := 36) hx hb dX6_setEnd_11 (by decide) (fun cq3 => ?_) (fun cq3 => ?_)
  · replace hf := if_at hf cq3
    exact (hG _ _ _ _ _).mp (J36 x2 v0_ends v0_systemChanges H locs ls (hP.sub [0] rfl) (hD.sub [0] (by decide) rfl) hS (lv_sub hl [1, 0] rfl) hf)
  · replace hf := if_no hf cq3
    refine lv_aload_n hx hb dX6_setEnd_14 rfl (lv_at hl 1 rfl) ?_
    refine lv_dup hx hb dX6_setEnd_15 rfl ?_
    refine va_get (D := (dC, dI)) (ci := 6) (v := .int v0_ends) (C := RX6) (T := TX6) (N := 14) hx hb hts inlX6 hown hK hP 0 rfl rfl 8 (by decide) w0_ (fun _ h9 => h9) rfl dX6_setEnd_16 ?_
    refine lv_iconst (v := 1) hx hb dX6_setEnd_19 (by decide +kernel) ?_
    refine lv_iload_n hx hb dX6_setEnd_20 rfl (lv_at hl 2 rfl) ?_
    refine lv_ishl hx hb dX6_setEnd_21 ?_
    refine lv_topi (fun x4 e4 => ?_)
    replace hf := nm_at hf e4
    refine lv_ixor hx hb dX6_setEnd_22 ?_
    refine lv_topi (fun x5 e5 => ?_)
    replace hf := nm_at hf e5
    refine va_put (D := (dC, dI)) (ci := 6) (v := .int x5) (ty := .int) (C := RX6) (T := TX6) (N := 14) hx hb hts inlX6 tyX6 tyX6_ok nmX6 hown hK hP hD hS 0 rfl rfl 8 (by decide) w0_ (fun _ h9 => h9) rfl (by decide +kernel) rfl rfl (Nat.le_of_ble_eq_true rfl) dX6_setEnd_23 (fun H locs hP hD hS => ?_)
    have hP : va_P (dC, dI) vwCl [(h0, .inr (6, [V0 0, V0 1, V0 2, V0 3, V0 4, V0 5, V0 6, V0 7, .int x5, V0 9, V0 10, .int v0_systemChanges, V0 12, V0 13]))] H := hP
    have hD : va_D A [(h0, .inr (6, [V0 0, V0 1, V0 2, V0 3, V0 4, V0 5, V0 6, V0 7, .int x5, V0 9, V0 10, .int v0_systemChanges, V0 12, V0 13]))] := hD
    refine lv_aload_n hx hb dX6_setEnd_26 rfl (lv_at hl 1 rfl) ?_
    refine lv_dup hx hb dX6_setEnd_27 rfl ?_
    refine va_get (D := (dC, dI)) (ci := 6) (v := .int v0_systemChanges) (C := RX6) (T := TX6) (N := 14) hx hb hts inlX6 hown hK hP 0 rfl rfl 11 (by decide) w1_ (fun _ h9 => h9) rfl dX6_setEnd_28 ?_
    refine lv_iconst (v := 1) hx hb dX6_setEnd_31 (by decide +kernel) ?_
    refine lv_iadd hx hb dX6_setEnd_32 ?_
    refine lv_topi (fun x6 e6 => ?_)
    replace hf := nm_at hf e6
    refine va_put (D := (dC, dI)) (ci := 6) (v := .int x6) (ty := .int) (C := RX6) (T := TX6) (N := 14) hx hb hts inlX6 tyX6 tyX6_ok nmX6 hown hK hP hD hS 0 rfl rfl 11 (by decide) w1_ (fun _ h9 => h9) rfl (by decide +kernel) rfl rfl (Nat.le_of_ble_eq_true rfl) dX6_setEnd_33 (fun H locs hP hD hS => ?_)
    have hP : va_P (dC, dI) vwCl [(h0, .inr (6, [V0 0, V0 1, V0 2, V0 3, V0 4, V0 5, V0 6, V0 7, .int x5, V0 9, V0 10, .int x6, V0 12, V0 13]))] H := hP
    have hD : va_D A [(h0, .inr (6, [V0 0, V0 1, V0 2, V0 3, V0 4, V0 5, V0 6, V0 7, .int x5, V0 9, V0 10, .int x6, V0 12, V0 13]))] := hD
    exact (hG _ _ _ _ _).mp (J36 x2 x5 x6 H locs ls (hP.sub [0] rfl) (hD.sub [0] (by decide) rfl) hS (lv_sub hl [1, 0] rfl) hf)
