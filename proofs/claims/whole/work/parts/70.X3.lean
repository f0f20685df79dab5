abbrev wX3_aboutStatement (h0 h1 h2 h3 : Nat) (kc1 kc2 kc3 : ClassId) (V0 : Nat → Value) (v0_statements : Int32) (c1 : Nat → Int32) (c2 : Nat → Int32) (c3 : Nat → Int32) : va_W := [(h0, .inr (3, [V0 0, V0 1, V0 2, .int v0_statements, V0 4, .ref h1, .ref h3, .ref h2, V0 8, V0 9, V0 10, V0 11, V0 12, V0 13, V0 14, V0 15, V0 16, V0 17])), (h1, .inl (kc1, 40, .inl c1)), (h2, .inl (kc2, 40, .inl c2)), (h3, .inl (kc3, 40, .inl c3))]
set_option maxHeartbeats 4000000 in
set_option maxRecDepth 100000 in
theorem mX3_aboutStatement (l : Launch) (dC : Nat → ClassId) (dI : Nat → Nat → Nat) (h0 h1 h2 h3 : Nat) (kc1 kc2 kc3 : ClassId) (sz : Nat) (base : Nat × Nat × Nat) (a0 : Int32) (a1 : Int32) (v0_statements : Int32) (c1 : Nat → Int32) (c2 : Nat → Int32) (c3 : Nat → Int32) (V0 : Nat → Value) (o : Int32 × Unit) (hf : fX3_aboutStatement a0 a1 v0_statements c1 c2 c3 = some o) : Met l yX3_aboutStatement (.code yX3_aboutStatement cX3_aboutStatement 3 (some .int) :: wsL_law) ({ frames := 0, cells := 0, slots := 0, locals := 0 }) (cPre (dC, dI) vwCl [.ref h0, .int a0, .int a1] sz base (wX3_aboutStatement h0 h1 h2 h3 kc1 kc2 kc3 V0 v0_statements c1 c2 c3) [(kc1, .int), (kc2, .int), (kc3, .int)]) (va_Qi (fun r u => r = o.1 ∧ u = o.2) (fun (u : Unit) t => cPost (dC, dI) vwCl (va_A (wX3_aboutStatement h0 h1 h2 h3 kc1 kc2 kc3 V0 v0_statements c1 c2 c3) sz) (wX3_aboutStatement h0 h1 h2 h3 kc1 kc2 kc3 V0 v0_statements c1 c2 c3) [(kc1, .int), (kc2, .int), (kc3, .int)] t) (va_A (wX3_aboutStatement h0 h1 h2 h3 kc1 kc2 kc3 V0 v0_statements c1 c2 c3) sz)) 0 0 (va_A (wX3_aboutStatement h0 h1 h2 h3 kc1 kc2 kc3 V0 v0_statements c1 c2 c3) sz) := by
  refine Met.ofW (cc := cX3_aboutStatement) (maxL := 3) (ret := (some .int)) (by decide) rfl ?_
  intro p e s m args below meth c s₁ B hml hv
  obtain ⟨rfl, hsz, hP, hK, hD0, hE⟩ := hv
  have hx := B.exec
  have hb := B.bytes
  have hr := B.returns
  have hts : ∀ w ∈ wsL_law, _ := fun w h => atoms_spec (ws := .code yX3_aboutStatement cX3_aboutStatement 3 (some .int) :: wsL_law) B.pre w (List.mem_cons_of_mem _ h)
  have hown : s.vm.findClass RX3 = some m.cls := findClass_of_methodNamed B.named
  have hlocks := B.notSynchronized
  have w0_ := hts _ q554
  have w1_ := hts _ q51
  have w2_ := hts _ q52
  have w3_ := hts _ q50
  subst hsz
  have hD := hD0.self (sz := s.heap.size)
  generalize hAe : va_A (wX3_aboutStatement h0 h1 h2 h3 kc1 kc2 kc3 V0 v0_statements c1 c2 c3) s.heap.size = A at hD ⊢
  have hA : ∀ q : Nat, s.heap.size ≤ q → A q := fun q h => by rw [← hAe]; exact Or.inr h
  have hAB : ∀ q : Nat, A q → base.1 ≤ q := fun q h => by rw [← hAe] at h; exact h.elim (fun ⟨k, e, hk⟩ => hD0.2 k _ hk) (fun hk => Nat.le_trans hE.1 hk)
  have hS : va_S A s.heap s.heap [] := va_S.rf
  have hl := lv_entry ([.ref h0, .int a0, .int a1]) (n := 3) (Nat.le_of_ble_eq_true rfl)
  rw [lg_entry_eq]
  generalize (lg_sl ([.ref h0, .int a0, .int a1]) ++ List.replicate (3 - (lg_sl ([.ref h0, .int a0, .int a1])).length) Slot.unset).toArray = ls at hl ⊢
  have hl : lv_has ls 3 [(0, .ref h0), (1, .int a0), (2, .int a1)] := hl
  have hP : va_P (dC, dI) vwCl (wX3_aboutStatement h0 h1 h2 h3 kc1 kc2 kc3 V0 v0_statements c1 c2 c3) s.heap := hP
  refine gl_intro (fun G hG => ?_)
  have J12 : ∀ (H : Heap) (locs : List Loc) (ls : Array Slot), va_P (dC, dI) vwCl (wX3_aboutStatement h0 h1 h2 h3 kc1 kc2 kc3 V0 v0_statements c1 c2 c3) H → va_D A (wX3_aboutStatement h0 h1 h2 h3 kc1 kc2 kc3 V0 v0_statements c1 c2 c3) → va_S A s.heap H locs → lv_has ls 3 [(0, .ref h0)] → fX3_aboutStatement_p12 v0_statements c1 c2 c3   = some o → G 0 0 H locs (F0 m 12 ls []) := by
    intro   H locs ls hP hD hS hl hf
    refine (hG _ _ _ _ _).mpr ?_
    unfold fX3_aboutStatement_p12 at hf
    refine lv_bipush (v := (-2)) hx hb dX3_aboutStatement_12 (by decide +kernel) ?_
    have hf1 := Option.some.inj hf
    subst hf1
    have hP9 := hP.sub (ws' := (wX3_aboutStatement h0 h1 h2 h3 kc1 kc2 kc3 V0 v0_statements c1 c2 c3)) [0, 1, 2, 3] rfl
    have hD9 := hD.sub (ws' := (wX3_aboutStatement h0 h1 h2 h3 kc1 kc2 kc3 V0 v0_statements c1 c2 c3)) [0, 1, 2, 3] (by decide) rfl
    exact W.iret (v := (-2)) hx hb hr (fun t ht hW => ⟨⟨(-2), (), rfl, ⟨rfl, rfl⟩, by rw [ht]; exact hP9, va_K.moved hW.alike hK, hD9⟩, hS.F ht⟩) hS.2.2 dX3_aboutStatement_14
  refine (hG _ _ _ _ _).mpr ?_
  obtain ⟨H, hH⟩ : ∃ H, H = s.heap := ⟨_, rfl⟩
  have hS : va_S A s.heap H [] := by rw [hH]; exact hS
  rw [← hH] at hP ⊢
  generalize ([] : List Loc) = locs at hS ⊢
  unfold fX3_aboutStatement at hf
  refine lv_iload_n hx hb dX3_aboutStatement_0 rfl (lv_at hl 2 rfl) ?_
  refine lv_if_lt (tgt := 12) hx hb dX3_aboutStatement_1 (by decide) (fun cq1 => ?_) (fun cq1 => ?_)
  · replace hf := if_at hf cq1
    exact (hG _ _ _ _ _).mp (J12 H locs ls (hP.sub [0, 1, 2, 3] rfl) (hD.sub [0, 1, 2, 3] (by decide) rfl) hS (lv_sub hl [0] rfl) hf)
  · replace hf := if_no hf cq1
    refine lv_iload_n hx hb dX3_aboutStatement_4 rfl (lv_at hl 2 rfl) ?_
    refine lv_aload_n hx hb dX3_aboutStatement_5 rfl (lv_at hl 0 rfl) ?_
    refine va_get (D := (dC, dI)) (ci := 3) (v := .int v0_statements) (C := RX3) (T := TX3) (N := 18) hx hb hts inlX3 hown hK hP 0 rfl rfl 3 (by decide) w0_ (fun _ h9 => h9) rfl dX3_aboutStatement_6 ?_
    refine lv_icmp_lt (tgt := 15) hx hb dX3_aboutStatement_9 (by decide) (fun cq2 => ?_) (fun cq2 => ?_)
    · replace hf := if_at hf cq2
      refine lv_iload_n hx hb dX3_aboutStatement_15 rfl (lv_at hl 1 rfl) ?_
      by_cases cq3 : a0 = 3
      · replace hf := if_at hf cq3
        refine lv_tableIn (off := 28) (tgt := 44) hx hb dX3_aboutStatement_16 (by rw [cq3]; decide) (by rw [cq3]; decide) (by rw [cq3]; rfl) (by decide) ?_
        refine lv_aload_n hx hb dX3_aboutStatement_44 rfl (lv_at hl 0 rfl) ?_
        refine va_get (D := (dC, dI)) (ci := 3) (v := .ref h3) (C := RX3) (T := TX3) (N := 18) hx hb hts inlX3 hown hK hP 0 rfl rfl 6 (by decide) w1_ (fun _ h9 => h9) rfl dX3_aboutStatement_45 ?_
        refine lv_iload_n hx hb dX3_aboutStatement_48 rfl (lv_at hl 2 rfl) ?_
        have b4 := bd_in hf
        replace hf := bd_k hf
        refine va_iald hx hb hK hP 3 2 rfl rfl b4 dX3_aboutStatement_49 ?_
        refine lv_topi (fun x5 e5 => ?_)
        replace hf := nm_at hf e5
        have hf1 := Option.some.inj hf
        subst hf1
        have hP9 := hP.sub (ws' := (wX3_aboutStatement h0 h1 h2 h3 kc1 kc2 kc3 V0 v0_statements c1 c2 c3)) [0, 1, 2, 3] rfl
        have hD9 := hD.sub (ws' := (wX3_aboutStatement h0 h1 h2 h3 kc1 kc2 kc3 V0 v0_statements c1 c2 c3)) [0, 1, 2, 3] (by decide) rfl
        exact W.iret (v := x5) hx hb hr (fun t ht hW => ⟨⟨x5, (), rfl, ⟨rfl, rfl⟩, by rw [ht]; exact hP9, va_K.moved hW.alike hK, hD9⟩, hS.F ht⟩) hS.2.2 dX3_aboutStatement_50
      · replace hf := if_no hf cq3
        by_cases cq6 : a0 = 4
        · replace hf := if_at hf cq6
          refine lv_tableIn (off := 35) (tgt := 51) hx hb dX3_aboutStatement_16 (by rw [cq6]; decide) (by rw [cq6]; decide) (by rw [cq6]; rfl) (by decide) ?_
          refine lv_aload_n hx hb dX3_aboutStatement_51 rfl (lv_at hl 0 rfl) ?_
          refine va_get (D := (dC, dI)) (ci := 3) (v := .ref h2) (C := RX3) (T := TX3) (N := 18) hx hb hts inlX3 hown hK hP 0 rfl rfl 7 (by decide) w2_ (fun _ h9 => h9) rfl dX3_aboutStatement_52 ?_
          refine lv_iload_n hx hb dX3_aboutStatement_55 rfl (lv_at hl 2 rfl) ?_
          have b7 := bd_in hf
          replace hf := bd_k hf
          refine va_iald hx hb hK hP 2 1 rfl rfl b7 dX3_aboutStatement_56 ?_
          refine lv_topi (fun x8 e8 => ?_)
          replace hf := nm_at hf e8
          have hf1 := Option.some.inj hf
          subst hf1
          have hP9 := hP.sub (ws' := (wX3_aboutStatement h0 h1 h2 h3 kc1 kc2 kc3 V0 v0_statements c1 c2 c3)) [0, 1, 2, 3] rfl
          have hD9 := hD.sub (ws' := (wX3_aboutStatement h0 h1 h2 h3 kc1 kc2 kc3 V0 v0_statements c1 c2 c3)) [0, 1, 2, 3] (by decide) rfl
          exact W.iret (v := x8) hx hb hr (fun t ht hW => ⟨⟨x8, (), rfl, ⟨rfl, rfl⟩, by rw [ht]; exact hP9, va_K.moved hW.alike hK, hD9⟩, hS.F ht⟩) hS.2.2 dX3_aboutStatement_57
        · replace hf := if_no hf cq6
          by_cases cq9 : a0 = 5
          · replace hf := if_at hf cq9
            refine lv_tableIn (off := 42) (tgt := 58) hx hb dX3_aboutStatement_16 (by rw [cq9]; decide) (by rw [cq9]; decide) (by rw [cq9]; rfl) (by decide) ?_
            refine lv_aload_n hx hb dX3_aboutStatement_58 rfl (lv_at hl 0 rfl) ?_
            refine va_get (D := (dC, dI)) (ci := 3) (v := .ref h1) (C := RX3) (T := TX3) (N := 18) hx hb hts inlX3 hown hK hP 0 rfl rfl 5 (by decide) w3_ (fun _ h9 => h9) rfl dX3_aboutStatement_59 ?_
            refine lv_iload_n hx hb dX3_aboutStatement_62 rfl (lv_at hl 2 rfl) ?_
            have b10 := bd_in hf
            replace hf := bd_k hf
            refine va_iald hx hb hK hP 1 0 rfl rfl b10 dX3_aboutStatement_63 ?_
            refine lv_topi (fun x11 e11 => ?_)
            replace hf := nm_at hf e11
            have hf1 := Option.some.inj hf
            subst hf1
            have hP9 := hP.sub (ws' := (wX3_aboutStatement h0 h1 h2 h3 kc1 kc2 kc3 V0 v0_statements c1 c2 c3)) [0, 1, 2, 3] rfl
            have hD9 := hD.sub (ws' := (wX3_aboutStatement h0 h1 h2 h3 kc1 kc2 kc3 V0 v0_statements c1 c2 c3)) [0, 1, 2, 3] (by decide) rfl
            exact W.iret (v := x11) hx hb hr (fun t ht hW => ⟨⟨x11, (), rfl, ⟨rfl, rfl⟩, by rw [ht]; exact hP9, va_K.moved hW.alike hK, hD9⟩, hS.F ht⟩) hS.2.2 dX3_aboutStatement_64
          · replace hf := if_no hf cq9
            refine lv_tableOut (tgt := 65) hx hb dX3_aboutStatement_16 (by have n3 := lv_neT cq3 (show (3 : Int32).toInt = 3 from rfl); have n6 := lv_neT cq6 (show (4 : Int32).toInt = 4 from rfl); have n9 := lv_neT cq9 (show (5 : Int32).toInt = 5 from rfl); omega) (by decide) ?_
            refine lv_bipush (v := (-2)) hx hb dX3_aboutStatement_65 (by decide +kernel) ?_
            have hf1 := Option.some.inj hf
            subst hf1
            have hP9 := hP.sub (ws' := (wX3_aboutStatement h0 h1 h2 h3 kc1 kc2 kc3 V0 v0_statements c1 c2 c3)) [0, 1, 2, 3] rfl
            have hD9 := hD.sub (ws' := (wX3_aboutStatement h0 h1 h2 h3 kc1 kc2 kc3 V0 v0_statements c1 c2 c3)) [0, 1, 2, 3] (by decide) rfl
            exact W.iret (v := (-2)) hx hb hr (fun t ht hW => ⟨⟨(-2), (), rfl, ⟨rfl, rfl⟩, by rw [ht]; exact hP9, va_K.moved hW.alike hK, hD9⟩, hS.F ht⟩) hS.2.2 dX3_aboutStatement_67
    · replace hf := if_no hf cq2
      exact (hG _ _ _ _ _).mp (J12 H locs ls (hP.sub [0, 1, 2, 3] rfl) (hD.sub [0, 1, 2, 3] (by decide) rfl) hS (lv_sub hl [0] rfl) hf)
abbrev wX3_addStatement (h0 h1 h2 h3 h4 h5 h6 h7 h8 h9 h10 : Nat) (kc1 kc2 kc3 kc4 kc5 kc6 kc7 kc8 kc9 kc10 : ClassId) (V0 : Nat → Value) (v0_procedures : Int32) (v0_statements : Int32) (c1 : Nat → Int32) (c2 : Nat → Int32) (c3 : Nat → Int32) (c4 : Nat → Int64) (c5 : Nat → Int32) (c6 : Nat → Int32) (c7 : Nat → Int32) (c8 : Nat → Int32) (c9 : Nat → Int32) (c10 : Nat → Int32) : va_W := [(h0, .inr (3, [V0 0, V0 1, .int v0_procedures, .int v0_statements, V0 4, .ref h1, .ref h2, .ref h3, .ref h4, .ref h5, .ref h6, V0 11, V0 12, .ref h7, .ref h8, .ref h9, .ref h10, V0 17])), (h1, .inl (kc1, 40, .inl c1)), (h2, .inl (kc2, 40, .inl c2)), (h3, .inl (kc3, 40, .inl c3)), (h4, .inl (kc4, 40, .inr (.inl c4))), (h5, .inl (kc5, 40, .inl c5)), (h6, .inl (kc6, 40, .inl c6)), (h7, .inl (kc7, 40, .inl c7)), (h8, .inl (kc8, 40, .inl c8)), (h9, .inl (kc9, 40, .inl c9)), (h10, .inl (kc10, 40, .inl c10))]
set_option maxHeartbeats 4000000 in
set_option maxRecDepth 100000 in
theorem mX3_addStatement (l : Launch) (dC : Nat → ClassId) (dI : Nat → Nat → Nat) (h0 h1 h2 h3 h4 h5 h6 h7 h8 h9 h10 : Nat) (kc1 kc2 kc3 kc4 kc5 kc6 kc7 kc8 kc9 kc10 : ClassId) (sz : Nat) (base : Nat × Nat × Nat) (a0 : Int32) (a1 : Int32) (a2 : Int32) (v0_procedures : Int32) (v0_statements : Int32) (c1 : Nat → Int32) (c2 : Nat → Int32) (c3 : Nat → Int32) (c4 : Nat → Int64) (c5 : Nat → Int32) (c6 : Nat → Int32) (c7 : Nat → Int32) (c8 : Nat → Int32) (c9 : Nat → Int32) (c10 : Nat → Int32) (V0 : Nat → Value) (o : Int32 × Int32 × (Nat → Int32) × (Nat → Int32) × (Nat → Int32) × (Nat → Int64) × (Nat → Int32) × (Nat → Int32) × (Nat → Int32) × (Nat → Int32) × (Nat → Int32) × (Nat → Int32)) (hf : fX3_addStatement a0 a1 a2 v0_procedures v0_statements c1 c2 c3 c4 c5 c6 c7 c8 c9 c10 = some o) : Met l yX3_addStatement (.code yX3_addStatement cX3_addStatement 5 (some .int) :: wsL_law) ({ frames := 0, cells := 0, slots := 0, locals := 0 }) (cPre (dC, dI) vwCl [.ref h0, .int a0, .int a1, .int a2] sz base (wX3_addStatement h0 h1 h2 h3 h4 h5 h6 h7 h8 h9 h10 kc1 kc2 kc3 kc4 kc5 kc6 kc7 kc8 kc9 kc10 V0 v0_procedures v0_statements c1 c2 c3 c4 c5 c6 c7 c8 c9 c10) [(kc1, .int), (kc2, .int), (kc3, .int), (kc4, .long), (kc5, .int), (kc6, .int), (kc7, .int), (kc8, .int), (kc9, .int), (kc10, .int)]) (va_Qi (fun r u => r = o.1 ∧ u = o.2) (fun (u : Int32 × (Nat → Int32) × (Nat → Int32) × (Nat → Int32) × (Nat → Int64) × (Nat → Int32) × (Nat → Int32) × (Nat → Int32) × (Nat → Int32) × (Nat → Int32) × (Nat → Int32)) t => cPost (dC, dI) vwCl (va_A (wX3_addStatement h0 h1 h2 h3 h4 h5 h6 h7 h8 h9 h10 kc1 kc2 kc3 kc4 kc5 kc6 kc7 kc8 kc9 kc10 V0 v0_procedures v0_statements c1 c2 c3 c4 c5 c6 c7 c8 c9 c10) sz) (wX3_addStatement h0 h1 h2 h3 h4 h5 h6 h7 h8 h9 h10 kc1 kc2 kc3 kc4 kc5 kc6 kc7 kc8 kc9 kc10 V0 v0_procedures u.1 u.2.1 u.2.2.1 u.2.2.2.1 u.2.2.2.2.1 u.2.2.2.2.2.1 u.2.2.2.2.2.2.1 u.2.2.2.2.2.2.2.1 u.2.2.2.2.2.2.2.2.1 u.2.2.2.2.2.2.2.2.2.1 u.2.2.2.2.2.2.2.2.2.2) [(kc1, .int), (kc2, .int), (kc3, .int), (kc4, .long), (kc5, .int), (kc6, .int), (kc7, .int), (kc8, .int), (kc9, .int), (kc10, .int)] t) (va_A (wX3_addStatement h0 h1 h2 h3 h4 h5 h6 h7 h8 h9 h10 kc1 kc2 kc3 kc4 kc5 kc6 kc7 kc8 kc9 kc10 V0 v0_procedures v0_statements c1 c2 c3 c4 c5 c6 c7 c8 c9 c10) sz)) 0 0 (va_A (wX3_addStatement h0 h1 h2 h3 h4 h5 h6 h7 h8 h9 h10 kc1 kc2 kc3 kc4 kc5 kc6 kc7 kc8 kc9 kc10 V0 v0_procedures v0_statements c1 c2 c3 c4 c5 c6 c7 c8 c9 c10) sz) := by
  refine Met.ofW (cc := cX3_addStatement) (maxL := 5) (ret := (some .int)) (by decide) rfl ?_
  intro p e s m args below meth c s₁ B hml hv
  obtain ⟨rfl, hsz, hP, hK, hD0, hE⟩ := hv
  have hx := B.exec
  have hb := B.bytes
  have hr := B.returns
  have hts : ∀ w ∈ wsL_law, _ := fun w h => atoms_spec (ws := .code yX3_addStatement cX3_addStatement 5 (some .int) :: wsL_law) B.pre w (List.mem_cons_of_mem _ h)
  have hown : s.vm.findClass RX3 = some m.cls := findClass_of_methodNamed B.named
  have hlocks := B.notSynchronized
  have w0_ := hts _ q554
  have w1_ := hts _ q50
  have w2_ := hts _ q51
  have w3_ := hts _ q52
  have w4_ := hts _ q553
  have w5_ := hts _ q54
  have w6_ := hts _ q757
  have w7_ := hts _ q55
  have w8_ := hts _ q56
  have w9_ := hts _ q59
  have w10_ := hts _ q60
  have w11_ := hts _ q61
  have w12_ := hts _ q62
  subst hsz
  have hD := hD0.self (sz := s.heap.size)
  generalize hAe : va_A (wX3_addStatement h0 h1 h2 h3 h4 h5 h6 h7 h8 h9 h10 kc1 kc2 kc3 kc4 kc5 kc6 kc7 kc8 kc9 kc10 V0 v0_procedures v0_statements c1 c2 c3 c4 c5 c6 c7 c8 c9 c10) s.heap.size = A at hD ⊢
  have hA : ∀ q : Nat, s.heap.size ≤ q → A q := fun q h => by rw [← hAe]; exact Or.inr h
  have hAB : ∀ q : Nat, A q → base.1 ≤ q := fun q h => by rw [← hAe] at h; exact h.elim (fun ⟨k, e, hk⟩ => hD0.2 k _ hk) (fun hk => Nat.le_trans hE.1 hk)
  have hS : va_S A s.heap s.heap [] := va_S.rf
  have hl := lv_entry ([.ref h0, .int a0, .int a1, .int a2]) (n := 5) (Nat.le_of_ble_eq_true rfl)
  rw [lg_entry_eq]
  generalize (lg_sl ([.ref h0, .int a0, .int a1, .int a2]) ++ List.replicate (5 - (lg_sl ([.ref h0, .int a0, .int a1, .int a2])).length) Slot.unset).toArray = ls at hl ⊢
  have hl : lv_has ls 5 [(0, .ref h0), (1, .int a0), (2, .int a1), (3, .int a2)] := hl
  have hP : va_P (dC, dI) vwCl (wX3_addStatement h0 h1 h2 h3 h4 h5 h6 h7 h8 h9 h10 kc1 kc2 kc3 kc4 kc5 kc6 kc7 kc8 kc9 kc10 V0 v0_procedures v0_statements c1 c2 c3 c4 c5 c6 c7 c8 c9 c10) s.heap := hP
  obtain ⟨H, hH⟩ : ∃ H, H = s.heap := ⟨_, rfl⟩
  have hS : va_S A s.heap H [] := by rw [hH]; exact hS
  rw [← hH] at hP ⊢
  generalize ([] : List Loc) = locs at hS ⊢
  unfold fX3_addStatement at hf
  refine lv_aload_n hx hb dX3_addStatement_0 rfl (lv_at hl 0 rfl) ?_
  refine va_get (D := (dC, dI)) (ci := 3) (v := .int v0_statements) (C := RX3) (T := TX3) (N := 18) hx hb hts inlX3 hown hK hP 0 rfl rfl 3 (by decide) w0_ (fun _ h9 => h9) rfl dX3_addStatement_1 ?_
  refine lv_bipush (v := 40) hx hb dX3_addStatement_4 (by decide +kernel) ?_
  refine lv_icmp_lt (tgt := 11) hx hb dX3_addStatement_6 (by decide) (fun cq1 => ?_) (fun cq1 => ?_)
  · replace hf := if_at hf cq1
    refine lv_aload_n hx hb dX3_addStatement_11 rfl (lv_at hl 0 rfl) ?_
    refine va_get (D := (dC, dI)) (ci := 3) (v := .int v0_statements) (C := RX3) (T := TX3) (N := 18) hx hb hts inlX3 hown hK hP 0 rfl rfl 3 (by decide) w0_ (fun _ h9 => h9) rfl dX3_addStatement_12 ?_
    refine lv_istore (lv' := [(4, .int v0_statements), (0, .ref h0), (1, .int a0), (2, .int a1), (3, .int a2)]) hx hb dX3_addStatement_15 hl (by decide) rfl (fun ls hl => ?_)
    refine lv_aload_n hx hb dX3_addStatement_17 rfl (lv_at hl 1 rfl) ?_
    refine va_get (D := (dC, dI)) (ci := 3) (v := .ref h1) (C := RX3) (T := TX3) (N := 18) hx hb hts inlX3 hown hK hP 0 rfl rfl 5 (by decide) w1_ (fun _ h9 => h9) rfl dX3_addStatement_18 ?_
    refine lv_iload hx hb dX3_addStatement_21 (lv_at hl 0 rfl) ?_
    refine lv_iload_n hx hb dX3_addStatement_23 rfl (lv_at hl 2 rfl) ?_
    have b2 := bd_in hf
    replace hf := bd_k hf
    obtain ⟨c2x, e2⟩ : ∃ y, y = upd c1 v0_statements.toNatClampNeg a0 := ⟨_, rfl⟩
    replace hf := nm_at hf e2
    refine va_iast hx hb hK hP hD hS 1 0 rfl rfl b2 dX3_addStatement_24 (fun H locs hP hD hS => ?_)
    have hP : va_P (dC, dI) vwCl (wX3_addStatement h0 h1 h2 h3 h4 h5 h6 h7 h8 h9 h10 kc1 kc2 kc3 kc4 kc5 kc6 kc7 kc8 kc9 kc10 V0 v0_procedures v0_statements c2x c2 c3 c4 c5 c6 c7 c8 c9 c10) H := by rw [e2]; exact hP
    have hD : va_D A (wX3_addStatement h0 h1 h2 h3 h4 h5 h6 h7 h8 h9 h10 kc1 kc2 kc3 kc4 kc5 kc6 kc7 kc8 kc9 kc10 V0 v0_procedures v0_statements c2x c2 c3 c4 c5 c6 c7 c8 c9 c10) := by rw [e2]; exact hD
    refine lv_aload_n hx hb dX3_addStatement_25 rfl (lv_at hl 1 rfl) ?_
    refine va_get (D := (dC, dI)) (ci := 3) (v := .ref h2) (C := RX3) (T := TX3) (N := 18) hx hb hts inlX3 hown hK hP 0 rfl rfl 6 (by decide) w2_ (fun _ h9 => h9) rfl dX3_addStatement_26 ?_
    refine lv_iload hx hb dX3_addStatement_29 (lv_at hl 0 rfl) ?_
    refine lv_iload_n hx hb dX3_addStatement_31 rfl (lv_at hl 3 rfl) ?_
    have b3 := bd_in hf
    replace hf := bd_k hf
    obtain ⟨c3x, e3⟩ : ∃ y, y = upd c2 v0_statements.toNatClampNeg a1 := ⟨_, rfl⟩
    replace hf := nm_at hf e3
    refine va_iast hx hb hK hP hD hS 2 1 rfl rfl b3 dX3_addStatement_32 (fun H locs hP hD hS => ?_)
    have hP : va_P (dC, dI) vwCl (wX3_addStatement h0 h1 h2 h3 h4 h5 h6 h7 h8 h9 h10 kc1 kc2 kc3 kc4 kc5 kc6 kc7 kc8 kc9 kc10 V0 v0_procedures v0_statements c2x c3x c3 c4 c5 c6 c7 c8 c9 c10) H := by rw [e3]; exact hP
    have hD : va_D A (wX3_addStatement h0 h1 h2 h3 h4 h5 h6 h7 h8 h9 h10 kc1 kc2 kc3 kc4 kc5 kc6 kc7 kc8 kc9 kc10 V0 v0_procedures v0_statements c2x c3x c3 c4 c5 c6 c7 c8 c9 c10) := by rw [e3]; exact hD
    refine lv_aload_n hx hb dX3_addStatement_33 rfl (lv_at hl 1 rfl) ?_
    refine va_get (D := (dC, dI)) (ci := 3) (v := .ref h3) (C := RX3) (T := TX3) (N := 18) hx hb hts inlX3 hown hK hP 0 rfl rfl 7 (by decide) w3_ (fun _ h9 => h9) rfl dX3_addStatement_34 ?_
    refine lv_iload hx hb dX3_addStatement_37 (lv_at hl 0 rfl) ?_
    refine lv_aload_n hx hb dX3_addStatement_39 rfl (lv_at hl 1 rfl) ?_
    refine va_get (D := (dC, dI)) (ci := 3) (v := .int v0_procedures) (C := RX3) (T := TX3) (N := 18) hx hb hts inlX3 hown hK hP 0 rfl rfl 2 (by decide) w4_ (fun _ h9 => h9) rfl dX3_addStatement_40 ?_
    refine lv_iconst (v := 1) hx hb dX3_addStatement_43 (by decide +kernel) ?_
    refine lv_isub hx hb dX3_addStatement_44 ?_
    refine lv_topi (fun x4 e4 => ?_)
    replace hf := nm_at hf e4
    have b5 := bd_in hf
    replace hf := bd_k hf
    obtain ⟨c5x, e5⟩ : ∃ y, y = upd c3 v0_statements.toNatClampNeg x4 := ⟨_, rfl⟩
    replace hf := nm_at hf e5
    refine va_iast hx hb hK hP hD hS 3 2 rfl rfl b5 dX3_addStatement_45 (fun H locs hP hD hS => ?_)
    have hP : va_P (dC, dI) vwCl (wX3_addStatement h0 h1 h2 h3 h4 h5 h6 h7 h8 h9 h10 kc1 kc2 kc3 kc4 kc5 kc6 kc7 kc8 kc9 kc10 V0 v0_procedures v0_statements c2x c3x c5x c4 c5 c6 c7 c8 c9 c10) H := by rw [e5]; exact hP
    have hD : va_D A (wX3_addStatement h0 h1 h2 h3 h4 h5 h6 h7 h8 h9 h10 kc1 kc2 kc3 kc4 kc5 kc6 kc7 kc8 kc9 kc10 V0 v0_procedures v0_statements c2x c3x c5x c4 c5 c6 c7 c8 c9 c10) := by rw [e5]; exact hD
    refine lv_aload_n hx hb dX3_addStatement_46 rfl (lv_at hl 1 rfl) ?_
    refine va_get (D := (dC, dI)) (ci := 3) (v := .ref h4) (C := RX3) (T := TX3) (N := 18) hx hb hts inlX3 hown hK hP 0 rfl rfl 8 (by decide) w5_ (fun _ h9 => h9) rfl dX3_addStatement_47 ?_
    refine lv_iload hx hb dX3_addStatement_50 (lv_at hl 0 rfl) ?_
    refine lv_ldc2 (v := (-4294967296)) hx hb hown w6_ dX3_addStatement_52 ?_
    have b6 := bd_in hf
    replace hf := bd_k hf
    obtain ⟨c6x, e6⟩ : ∃ y, y = vp_updL c4 v0_statements.toNatClampNeg (-4294967296) := ⟨_, rfl⟩
    replace hf := nm_at hf e6
    refine va_last hx hb hK hP hD hS 4 3 rfl rfl b6 dX3_addStatement_55 (fun H locs hP hD hS => ?_)
    have hP : va_P (dC, dI) vwCl (wX3_addStatement h0 h1 h2 h3 h4 h5 h6 h7 h8 h9 h10 kc1 kc2 kc3 kc4 kc5 kc6 kc7 kc8 kc9 kc10 V0 v0_procedures v0_statements c2x c3x c5x c6x c5 c6 c7 c8 c9 c10) H := by rw [e6]; exact hP
    have hD : va_D A (wX3_addStatement h0 h1 h2 h3 h4 h5 h6 h7 h8 h9 h10 kc1 kc2 kc3 kc4 kc5 kc6 kc7 kc8 kc9 kc10 V0 v0_procedures v0_statements c2x c3x c5x c6x c5 c6 c7 c8 c9 c10) := by rw [e6]; exact hD
    refine lv_aload_n hx hb dX3_addStatement_56 rfl (lv_at hl 1 rfl) ?_
    refine va_get (D := (dC, dI)) (ci := 3) (v := .ref h5) (C := RX3) (T := TX3) (N := 18) hx hb hts inlX3 hown hK hP 0 rfl rfl 9 (by decide) w7_ (fun _ h9 => h9) rfl dX3_addStatement_57 ?_
    refine lv_iload hx hb dX3_addStatement_60 (lv_at hl 0 rfl) ?_
    refine lv_iconst (v := 0) hx hb dX3_addStatement_62 (by decide +kernel) ?_
    have b7 := bd_in hf
    replace hf := bd_k hf
    obtain ⟨c7x, e7⟩ : ∃ y, y = upd c5 v0_statements.toNatClampNeg 0 := ⟨_, rfl⟩
    replace hf := nm_at hf e7
    refine va_iast hx hb hK hP hD hS 5 4 rfl rfl b7 dX3_addStatement_63 (fun H locs hP hD hS => ?_)
    have hP : va_P (dC, dI) vwCl (wX3_addStatement h0 h1 h2 h3 h4 h5 h6 h7 h8 h9 h10 kc1 kc2 kc3 kc4 kc5 kc6 kc7 kc8 kc9 kc10 V0 v0_procedures v0_statements c2x c3x c5x c6x c7x c6 c7 c8 c9 c10) H := by rw [e7]; exact hP
    have hD : va_D A (wX3_addStatement h0 h1 h2 h3 h4 h5 h6 h7 h8 h9 h10 kc1 kc2 kc3 kc4 kc5 kc6 kc7 kc8 kc9 kc10 V0 v0_procedures v0_statements c2x c3x c5x c6x c7x c6 c7 c8 c9 c10) := by rw [e7]; exact hD
    refine lv_aload_n hx hb dX3_addStatement_64 rfl (lv_at hl 1 rfl) ?_
    refine va_get (D := (dC, dI)) (ci := 3) (v := .ref h6) (C := RX3) (T := TX3) (N := 18) hx hb hts inlX3 hown hK hP 0 rfl rfl 10 (by decide) w8_ (fun _ h9 => h9) rfl dX3_addStatement_65 ?_
    refine lv_iload hx hb dX3_addStatement_68 (lv_at hl 0 rfl) ?_
    refine lv_iconst (v := 0) hx hb dX3_addStatement_70 (by decide +kernel) ?_
    have b8 := bd_in hf
    replace hf := bd_k hf
    obtain ⟨c8x, e8⟩ : ∃ y, y = upd c6 v0_statements.toNatClampNeg 0 := ⟨_, rfl⟩
    replace hf := nm_at hf e8
    refine va_iast hx hb hK hP hD hS 6 5 rfl rfl b8 dX3_addStatement_71 (fun H locs hP hD hS => ?_)
    have hP : va_P (dC, dI) vwCl (wX3_addStatement h0 h1 h2 h3 h4 h5 h6 h7 h8 h9 h10 kc1 kc2 kc3 kc4 kc5 kc6 kc7 kc8 kc9 kc10 V0 v0_procedures v0_statements c2x c3x c5x c6x c7x c8x c7 c8 c9 c10) H := by rw [e8]; exact hP
    have hD : va_D A (wX3_addStatement h0 h1 h2 h3 h4 h5 h6 h7 h8 h9 h10 kc1 kc2 kc3 kc4 kc5 kc6 kc7 kc8 kc9 kc10 V0 v0_procedures v0_statements c2x c3x c5x c6x c7x c8x c7 c8 c9 c10) := by rw [e8]; exact hD
    refine lv_aload_n hx hb dX3_addStatement_72 rfl (lv_at hl 1 rfl) ?_
    refine va_get (D := (dC, dI)) (ci := 3) (v := .ref h7) (C := RX3) (T := TX3) (N := 18) hx hb hts inlX3 hown hK hP 0 rfl rfl 13 (by decide) w9_ (fun _ h9 => h9) rfl dX3_addStatement_73 ?_
    refine lv_iload hx hb dX3_addStatement_76 (lv_at hl 0 rfl) ?_
    refine lv_iload_n hx hb dX3_addStatement_78 rfl (lv_at hl 4 rfl) ?_
    have b9 := bd_in hf
    replace hf := bd_k hf
    obtain ⟨c9x, e9⟩ : ∃ y, y = upd c7 v0_statements.toNatClampNeg a2 := ⟨_, rfl⟩
    replace hf := nm_at hf e9
    refine va_iast hx hb hK hP hD hS 7 6 rfl rfl b9 dX3_addStatement_79 (fun H locs hP hD hS => ?_)
    have hP : va_P (dC, dI) vwCl (wX3_addStatement h0 h1 h2 h3 h4 h5 h6 h7 h8 h9 h10 kc1 kc2 kc3 kc4 kc5 kc6 kc7 kc8 kc9 kc10 V0 v0_procedures v0_statements c2x c3x c5x c6x c7x c8x c9x c8 c9 c10) H := by rw [e9]; exact hP
    have hD : va_D A (wX3_addStatement h0 h1 h2 h3 h4 h5 h6 h7 h8 h9 h10 kc1 kc2 kc3 kc4 kc5 kc6 kc7 kc8 kc9 kc10 V0 v0_procedures v0_statements c2x c3x c5x c6x c7x c8x c9x c8 c9 c10) := by rw [e9]; exact hD
    refine lv_aload_n hx hb dX3_addStatement_80 rfl (lv_at hl 1 rfl) ?_
    refine va_get (D := (dC, dI)) (ci := 3) (v := .ref h8) (C := RX3) (T := TX3) (N := 18) hx hb hts inlX3 hown hK hP 0 rfl rfl 14 (by decide) w10_ (fun _ h9 => h9) rfl dX3_addStatement_81 ?_
    refine lv_iload hx hb dX3_addStatement_84 (lv_at hl 0 rfl) ?_
    refine lv_iconst (v := (-1)) hx hb dX3_addStatement_86 (by decide +kernel) ?_
    have b10 := bd_in hf
    replace hf := bd_k hf
    obtain ⟨c10x, e10⟩ : ∃ y, y = upd c8 v0_statements.toNatClampNeg (-1) := ⟨_, rfl⟩
    replace hf := nm_at hf e10
    refine va_iast hx hb hK hP hD hS 8 7 rfl rfl b10 dX3_addStatement_87 (fun H locs hP hD hS => ?_)
    have hP : va_P (dC, dI) vwCl (wX3_addStatement h0 h1 h2 h3 h4 h5 h6 h7 h8 h9 h10 kc1 kc2 kc3 kc4 kc5 kc6 kc7 kc8 kc9 kc10 V0 v0_procedures v0_statements c2x c3x c5x c6x c7x c8x c9x c10x c9 c10) H := by rw [e10]; exact hP
    have hD : va_D A (wX3_addStatement h0 h1 h2 h3 h4 h5 h6 h7 h8 h9 h10 kc1 kc2 kc3 kc4 kc5 kc6 kc7 kc8 kc9 kc10 V0 v0_procedures v0_statements c2x c3x c5x c6x c7x c8x c9x c10x c9 c10) := by rw [e10]; exact hD
    refine lv_aload_n hx hb dX3_addStatement_88 rfl (lv_at hl 1 rfl) ?_
    refine va_get (D := (dC, dI)) (ci := 3) (v := .ref h9) (C := RX3) (T := TX3) (N := 18) hx hb hts inlX3 hown hK hP 0 rfl rfl 15 (by decide) w11_ (fun _ h9 => h9) rfl dX3_addStatement_89 ?_
    refine lv_iload hx hb dX3_addStatement_92 (lv_at hl 0 rfl) ?_
    refine lv_iconst (v := (-1)) hx hb dX3_addStatement_94 (by decide +kernel) ?_
    have b11 := bd_in hf
    replace hf := bd_k hf
    obtain ⟨c11x, e11⟩ : ∃ y, y = upd c9 v0_statements.toNatClampNeg (-1) := ⟨_, rfl⟩
    replace hf := nm_at hf e11
    refine va_iast hx hb hK hP hD hS 9 8 rfl rfl b11 dX3_addStatement_95 (fun H locs hP hD hS => ?_)
    have hP : va_P (dC, dI) vwCl (wX3_addStatement h0 h1 h2 h3 h4 h5 h6 h7 h8 h9 h10 kc1 kc2 kc3 kc4 kc5 kc6 kc7 kc8 kc9 kc10 V0 v0_procedures v0_statements c2x c3x c5x c6x c7x c8x c9x c10x c11x c10) H := by rw [e11]; exact hP
    have hD : va_D A (wX3_addStatement h0 h1 h2 h3 h4 h5 h6 h7 h8 h9 h10 kc1 kc2 kc3 kc4 kc5 kc6 kc7 kc8 kc9 kc10 V0 v0_procedures v0_statements c2x c3x c5x c6x c7x c8x c9x c10x c11x c10) := by rw [e11]; exact hD
    refine lv_aload_n hx hb dX3_addStatement_96 rfl (lv_at hl 1 rfl) ?_
    refine va_get (D := (dC, dI)) (ci := 3) (v := .ref h10) (C := RX3) (T := TX3) (N := 18) hx hb hts inlX3 hown hK hP 0 rfl rfl 16 (by decide) w12_ (fun _ h9 => h9) rfl dX3_addStatement_97 ?_
    refine lv_iload hx hb dX3_addStatement_100 (lv_at hl 0 rfl) ?_
    refine lv_iconst (v := (-1)) hx hb dX3_addStatement_102 (by decide +kernel) ?_
    have b12 := bd_in hf
    replace hf := bd_k hf
    obtain ⟨c12x, e12⟩ : ∃ y, y = upd c10 v0_statements.toNatClampNeg (-1) := ⟨_, rfl⟩
    replace hf := nm_at hf e12
    refine va_iast hx hb hK hP hD hS 10 9 rfl rfl b12 dX3_addStatement_103 (fun H locs hP hD hS => ?_)
    have hP : va_P (dC, dI) vwCl (wX3_addStatement h0 h1 h2 h3 h4 h5 h6 h7 h8 h9 h10 kc1 kc2 kc3 kc4 kc5 kc6 kc7 kc8 kc9 kc10 V0 v0_procedures v0_statements c2x c3x c5x c6x c7x c8x c9x c10x c11x c12x) H := by rw [e12]; exact hP
    have hD : va_D A (wX3_addStatement h0 h1 h2 h3 h4 h5 h6 h7 h8 h9 h10 kc1 kc2 kc3 kc4 kc5 kc6 kc7 kc8 kc9 kc10 V0 v0_procedures v0_statements c2x c3x c5x c6x c7x c8x c9x c10x c11x c12x) := by rw [e12]; exact hD
    refine lv_aload_n hx hb dX3_addStatement_104 rfl (lv_at hl 1 rfl) ?_
    refine lv_dup hx hb dX3_addStatement_105 rfl ?_
    refine va_get (D := (dC, dI)) (ci := 3) (v := .int v0_statements) (C := RX3) (T := TX3) (N := 18) hx hb hts inlX3 hown hK hP 0 rfl rfl 3 (by decide) w0_ (fun _ h9 => h9) rfl dX3_addStatement_106 ?_
    refine lv_iconst (v := 1) hx hb dX3_addStatement_109 (by decide +kernel) ?_
    refine lv_iadd hx hb dX3_addStatement_110 ?_
    refine lv_topi (fun x13 e13 => ?_)
    replace hf := nm_at hf e13
    refine va_put (D := (dC, dI)) (ci := 3) (v := .int x13) (ty := .int) (C := RX3) (T := TX3) (N := 18) hx hb hts inlX3 tyX3 tyX3_ok nmX3 hown hK hP hD hS 0 rfl rfl 3 (by decide) w0_ (fun _ h9 => h9) rfl (by decide +kernel) rfl rfl (Nat.le_of_ble_eq_true rfl) dX3_addStatement_111 (fun H locs hP hD hS => ?_)
    have hP : va_P (dC, dI) vwCl (wX3_addStatement h0 h1 h2 h3 h4 h5 h6 h7 h8 h9 h10 kc1 kc2 kc3 kc4 kc5 kc6 kc7 kc8 kc9 kc10 V0 v0_procedures x13 c2x c3x c5x c6x c7x c8x c9x c10x c11x c12x) H := hP
    have hD : va_D A (wX3_addStatement h0 h1 h2 h3 h4 h5 h6 h7 h8 h9 h10 kc1 kc2 kc3 kc4 kc5 kc6 kc7 kc8 kc9 kc10 V0 v0_procedures x13 c2x c3x c5x c6x c7x c8x c9x c10x c11x c12x) := hD
    refine lv_iload hx hb dX3_addStatement_114 (lv_at hl 0 rfl) ?_
    have hf1 := Option.some.inj hf
    subst hf1
    have hP9 := hP.sub (ws' := (wX3_addStatement h0 h1 h2 h3 h4 h5 h6 h7 h8 h9 h10 kc1 kc2 kc3 kc4 kc5 kc6 kc7 kc8 kc9 kc10 V0 v0_procedures x13 c2x c3x c5x c6x c7x c8x c9x c10x c11x c12x)) [0, 1, 2, 3, 4, 5, 6, 7, 8, 9, 10] rfl
    have hD9 := hD.sub (ws' := (wX3_addStatement h0 h1 h2 h3 h4 h5 h6 h7 h8 h9 h10 kc1 kc2 kc3 kc4 kc5 kc6 kc7 kc8 kc9 kc10 V0 v0_procedures x13 c2x c3x c5x c6x c7x c8x c9x c10x c11x c12x)) [0, 1, 2, 3, 4, 5, 6, 7, 8, 9, 10] (by decide) rfl
    exact W.iret (v := v0_statements) hx hb hr (fun t ht hW => ⟨⟨v0_statements, (x13, c2x, c3x, c5x, c6x, c7x, c8x, c9x, c10x, c11x, c12x), rfl, ⟨rfl, rfl⟩, by rw [ht]; exact hP9, va_K.moved hW.alike hK, hD9⟩, hS.F ht⟩) hS.2.2 dX3_addStatement_116
  · replace hf := if_no hf cq1
    refine lv_iconst (v := (-1)) hx hb dX3_addStatement_9 (by decide +kernel) ?_
    have hf1 := Option.some.inj hf
    subst hf1
    have hP9 := hP.sub (ws' := (wX3_addStatement h0 h1 h2 h3 h4 h5 h6 h7 h8 h9 h10 kc1 kc2 kc3 kc4 kc5 kc6 kc7 kc8 kc9 kc10 V0 v0_procedures v0_statements c1 c2 c3 c4 c5 c6 c7 c8 c9 c10)) [0, 1, 2, 3, 4, 5, 6, 7, 8, 9, 10] rfl
    have hD9 := hD.sub (ws' := (wX3_addStatement h0 h1 h2 h3 h4 h5 h6 h7 h8 h9 h10 kc1 kc2 kc3 kc4 kc5 kc6 kc7 kc8 kc9 kc10 V0 v0_procedures v0_statements c1 c2 c3 c4 c5 c6 c7 c8 c9 c10)) [0, 1, 2, 3, 4, 5, 6, 7, 8, 9, 10] (by decide) rfl
    exact W.iret (v := (-1)) hx hb hr (fun t ht hW => ⟨⟨(-1), (v0_statements, c1, c2, c3, c4, c5, c6, c7, c8, c9, c10), rfl, ⟨rfl, rfl⟩, by rw [ht]; exact hP9, va_K.moved hW.alike hK, hD9⟩, hS.F ht⟩) hS.2.2 dX3_addStatement_10
abbrev wX3_firstPoint (h0 h1 : Nat) (kc1 : ClassId) (V0 : Nat → Value) (v0_procedures : Int32) (c1 : Nat → Int32) : va_W := [(h0, .inr (3, [V0 0, V0 1, .int v0_procedures, V0 3, .ref h1, V0 5, V0 6, V0 7, V0 8, V0 9, V0 10, V0 11, V0 12, V0 13, V0 14, V0 15, V0 16, V0 17])), (h1, .inl (kc1, 6, .inl c1))]
set_option maxHeartbeats 4000000 in
set_option maxRecDepth 100000 in
theorem mX3_firstPoint (l : Launch) (dC : Nat → ClassId) (dI : Nat → Nat → Nat) (h0 h1 : Nat) (kc1 : ClassId) (sz : Nat) (base : Nat × Nat × Nat) (v0_procedures : Int32) (c1 : Nat → Int32) (V0 : Nat → Value) (o : Int32 × Unit) (hf : fX3_firstPoint v0_procedures c1 = some o) : Met l yX3_firstPoint (.code yX3_firstPoint cX3_firstPoint 1 (some .int) :: wsL_law) ({ frames := 0, cells := 0, slots := 0, locals := 0 }) (cPre (dC, dI) vwCl [.ref h0] sz base (wX3_firstPoint h0 h1 kc1 V0 v0_procedures c1) [(kc1, .int)]) (va_Qi (fun r u => r = o.1 ∧ u = o.2) (fun (u : Unit) t => cPost (dC, dI) vwCl (va_A (wX3_firstPoint h0 h1 kc1 V0 v0_procedures c1) sz) (wX3_firstPoint h0 h1 kc1 V0 v0_procedures c1) [(kc1, .int)] t) (va_A (wX3_firstPoint h0 h1 kc1 V0 v0_procedures c1) sz)) 0 0 (va_A (wX3_firstPoint h0 h1 kc1 V0 v0_procedures c1) sz) := by
  refine Met.ofW (cc := cX3_firstPoint) (maxL := 1) (ret := (some .int)) (by decide) rfl ?_
  intro p e s m args below meth c s₁ B hml hv
  obtain ⟨rfl, hsz, hP, hK, hD0, hE⟩ := hv
  have hx := B.exec
  have hb := B.bytes
  have hr := B.returns
  have hts : ∀ w ∈ wsL_law, _ := fun w h => atoms_spec (ws := .code yX3_firstPoint cX3_firstPoint 1 (some .int) :: wsL_law) B.pre w (List.mem_cons_of_mem _ h)
  have hown : s.vm.findClass RX3 = some m.cls := findClass_of_methodNamed B.named
  have hlocks := B.notSynchronized
  have w0_ := hts _ q553
  have w1_ := hts _ q49
  subst hsz
  have hD := hD0.self (sz := s.heap.size)
  generalize hAe : va_A (wX3_firstPoint h0 h1 kc1 V0 v0_procedures c1) s.heap.size = A at hD ⊢
  have hA : ∀ q : Nat, s.heap.size ≤ q → A q := fun q h => by rw [← hAe]; exact Or.inr h
  have hAB : ∀ q : Nat, A q → base.1 ≤ q := fun q h => by rw [← hAe] at h; exact h.elim (fun ⟨k, e, hk⟩ => hD0.2 k _ hk) (fun hk => Nat.le_trans hE.1 hk)
  have hS : va_S A s.heap s.heap [] := va_S.rf
  have hl := lv_entry ([.ref h0]) (n := 1) (Nat.le_of_ble_eq_true rfl)
  rw [lg_entry_eq]
  generalize (lg_sl ([.ref h0]) ++ List.replicate (1 - (lg_sl ([.ref h0])).length) Slot.unset).toArray = ls at hl ⊢
  have hl : lv_has ls 1 [(0, .ref h0)] := hl
  have hP : va_P (dC, dI) vwCl (wX3_firstPoint h0 h1 kc1 V0 v0_procedures c1) s.heap := hP
  refine gl_intro (fun G hG => ?_)
  have J17 : ∀ (z0 : Int32) (H : Heap) (locs : List Loc) (ls : Array Slot), va_P (dC, dI) vwCl (wX3_firstPoint h0 h1 kc1 V0 v0_procedures c1) H → va_D A (wX3_firstPoint h0 h1 kc1 V0 v0_procedures c1) → va_S A s.heap H locs → lv_has ls 1 [(0, .ref h0)] → fX3_firstPoint_p17 v0_procedures c1  z0 = some o → G 0 0 H locs (F0 m 17 ls [.int z0]) := by
    intro  z0 H locs ls hP hD hS hl hf
    refine (hG _ _ _ _ _).mpr ?_
    unfold fX3_firstPoint_p17 at hf
    have hf1 := Option.some.inj hf
    subst hf1
    have hP9 := hP.sub (ws' := (wX3_firstPoint h0 h1 kc1 V0 v0_procedures c1)) [0, 1] rfl
    have hD9 := hD.sub (ws' := (wX3_firstPoint h0 h1 kc1 V0 v0_procedures c1)) [0, 1] (by decide) rfl
    exact W.iret (v := z0) hx hb hr (fun t ht hW => ⟨⟨z0, (), rfl, ⟨rfl, rfl⟩, by rw [ht]; exact hP9, va_K.moved hW.alike hK, hD9⟩, hS.F ht⟩) hS.2.2 dX3_firstPoint_17
  refine (hG _ _ _ _ _).mpr ?_
  obtain ⟨H, hH⟩ : ∃ H, H = s.heap := ⟨_, rfl⟩
  have hS : va_S A s.heap H [] := by rw [hH]; exact hS
  rw [← hH] at hP ⊢
  generalize ([] : List Loc) = locs at hS ⊢
  unfold fX3_firstPoint at hf
  refine lv_aload_n hx hb dX3_firstPoint_0 rfl (lv_at hl 0 rfl) ?_
  refine va_get (D := (dC, dI)) (ci := 3) (v := .int v0_procedures) (C := RX3) (T := TX3) (N := 18) hx hb hts inlX3 hown hK hP 0 rfl rfl 2 (by decide) w0_ (fun _ h9 => h9) rfl dX3_firstPoint_1 ?_
  refine lv_if_le (tgt := 16) hx hb dX3_firstPoint_4 (by decide) (fun cq1 => ?_) (fun cq1 => ?_)
  · replace hf := if_at hf cq1
    refine lv_iconst (v := (-1)) hx hb dX3_firstPoint_16 (by decide +kernel) ?_
    exact (hG _ _ _ _ _).mp (J17 (-1) H locs ls (hP.sub [0, 1] rfl) (hD.sub [0, 1] (by decide) rfl) hS (lv_sub hl [0] rfl) hf)
  · replace hf := if_no hf cq1
    refine lv_aload_n hx hb dX3_firstPoint_7 rfl (lv_at hl 0 rfl) ?_
    refine va_get (D := (dC, dI)) (ci := 3) (v := .ref h1) (C := RX3) (T := TX3) (N := 18) hx hb hts inlX3 hown hK hP 0 rfl rfl 4 (by decide) w1_ (fun _ h9 => h9) rfl dX3_firstPoint_8 ?_
    refine lv_iconst (v := 0) hx hb dX3_firstPoint_11 (by decide +kernel) ?_
    have b2 := bd_in hf
    replace hf := bd_k hf
    refine va_iald hx hb hK hP 1 0 rfl rfl b2 dX3_firstPoint_12 ?_
    refine lv_topi (fun x3 e3 => ?_)
    replace hf := nm_at hf e3
    refine lv_goto (tgt := 17) hx hb dX3_firstPoint_13 (by decide) ?_
    exact (hG _ _ _ _ _).mp (J17 x3 H locs ls (hP.sub [0, 1] rfl) (hD.sub [0, 1] (by decide) rfl) hS (lv_sub hl [0] rfl) hf)
abbrev wX3_pointBehind (h0 h1 h2 h3 h4 : Nat) (kc1 kc2 kc3 kc4 : ClassId) (V0 : Nat → Value) (c1 : Nat → Int32) (c2 : Nat → Int32) (c3 : Nat → Int32) (c4 : Nat → Int32) : va_W := [(h0, .inr (3, [V0 0, V0 1, V0 2, V0 3, V0 4, .ref h3, V0 6, V0 7, V0 8, V0 9, V0 10, V0 11, V0 12, .ref h2, .ref h1, V0 15, V0 16, .ref h4])), (h1, .inl (kc1, 40, .inl c1)), (h2, .inl (kc2, 40, .inl c2)), (h3, .inl (kc3, 40, .inl c3)), (h4, .inl (kc4, 40, .inl c4))]
set_option maxHeartbeats 4000000 in
set_option maxRecDepth 100000 in
theorem mX3_pointBehind (l : Launch) (dC : Nat → ClassId) (dI : Nat → Nat → Nat) (h0 h1 h2 h3 h4 : Nat) (kc1 kc2 kc3 kc4 : ClassId) (sz : Nat) (base : Nat × Nat × Nat) (a0 : Int32) (c1 : Nat → Int32) (c2 : Nat → Int32) (c3 : Nat → Int32) (c4 : Nat → Int32) (V0 : Nat → Value) (o : Int32 × Unit) (hf : fX3_pointBehind a0 c1 c2 c3 c4 = some o) : Met l yX3_pointBehind (.code yX3_pointBehind cX3_pointBehind 3 (some .int) :: wsL_law) ({ frames := 0, cells := 0, slots := 0, locals := 0 }) (cPre (dC, dI) vwCl [.ref h0, .int a0] sz base (wX3_pointBehind h0 h1 h2 h3 h4 kc1 kc2 kc3 kc4 V0 c1 c2 c3 c4) [(kc1, .int), (kc2, .int), (kc3, .int), (kc4, .int)]) (va_Qi (fun r u => r = o.1 ∧ u = o.2) (fun (u : Unit) t => cPost (dC, dI) vwCl (va_A (wX3_pointBehind h0 h1 h2 h3 h4 kc1 kc2 kc3 kc4 V0 c1 c2 c3 c4) sz) (wX3_pointBehind h0 h1 h2 h3 h4 kc1 kc2 kc3 kc4 V0 c1 c2 c3 c4) [(kc1, .int), (kc2, .int), (kc3, .int), (kc4, .int)] t) (va_A (wX3_pointBehind h0 h1 h2 h3 h4 kc1 kc2 kc3 kc4 V0 c1 c2 c3 c4) sz)) 0 0 (va_A (wX3_pointBehind h0 h1 h2 h3 h4 kc1 kc2 kc3 kc4 V0 c1 c2 c3 c4) sz) := by
  refine Met.ofW (cc := cX3_pointBehind) (maxL := 3) (ret := (some .int)) (by decide) rfl ?_
  intro p e s m args below meth c s₁ B hml hv
  obtain ⟨rfl, hsz, hP, hK, hD0, hE⟩ := hv
  have hx := B.exec
  have hb := B.bytes
  have hr := B.returns
  have hts : ∀ w ∈ wsL_law, _ := fun w h => atoms_spec (ws := .code yX3_pointBehind cX3_pointBehind 3 (some .int) :: wsL_law) B.pre w (List.mem_cons_of_mem _ h)
  have hown : s.vm.findClass RX3 = some m.cls := findClass_of_methodNamed B.named
  have hlocks := B.notSynchronized
  have w0_ := hts _ q60
  have w1_ := hts _ q59
  have w2_ := hts _ q50
  have w3_ := hts _ q63
  subst hsz
  have hD := hD0.self (sz := s.heap.size)
  generalize hAe : va_A (wX3_pointBehind h0 h1 h2 h3 h4 kc1 kc2 kc3 kc4 V0 c1 c2 c3 c4) s.heap.size = A at hD ⊢
  have hA : ∀ q : Nat, s.heap.size ≤ q → A q := fun q h => by rw [← hAe]; exact Or.inr h
  have hAB : ∀ q : Nat, A q → base.1 ≤ q := fun q h => by rw [← hAe] at h; exact h.elim (fun ⟨k, e, hk⟩ => hD0.2 k _ hk) (fun hk => Nat.le_trans hE.1 hk)
  have hS : va_S A s.heap s.heap [] := va_S.rf
  have hl := lv_entry ([.ref h0, .int a0]) (n := 3) (Nat.le_of_ble_eq_true rfl)
  rw [lg_entry_eq]
  generalize (lg_sl ([.ref h0, .int a0]) ++ List.replicate (3 - (lg_sl ([.ref h0, .int a0])).length) Slot.unset).toArray = ls at hl ⊢
  have hl : lv_has ls 3 [(0, .ref h0), (1, .int a0)] := hl
  have hP : va_P (dC, dI) vwCl (wX3_pointBehind h0 h1 h2 h3 h4 kc1 kc2 kc3 kc4 V0 c1 c2 c3 c4) s.heap := hP
  refine gl_intro (fun G hG => ?_)
  have J51 : ∀ (z0 : Int32) (H : Heap) (locs : List Loc) (ls : Array Slot), va_P (dC, dI) vwCl (wX3_pointBehind h0 h1 h2 h3 h4 kc1 kc2 kc3 kc4 V0 c1 c2 c3 c4) H → va_D A (wX3_pointBehind h0 h1 h2 h3 h4 kc1 kc2 kc3 kc4 V0 c1 c2 c3 c4) → va_S A s.heap H locs → lv_has ls 3 [(0, .ref h0)] → fX3_pointBehind_p51 c1 c2 c3 c4  z0 = some o → G 0 0 H locs (F0 m 51 ls [.int z0]) := by
    intro  z0 H locs ls hP hD hS hl hf
    refine (hG _ _ _ _ _).mpr ?_
    unfold fX3_pointBehind_p51 at hf
    have hf1 := Option.some.inj hf
    subst hf1
    have hP9 := hP.sub (ws' := (wX3_pointBehind h0 h1 h2 h3 h4 kc1 kc2 kc3 kc4 V0 c1 c2 c3 c4)) [0, 1, 2, 3, 4] rfl
    have hD9 := hD.sub (ws' := (wX3_pointBehind h0 h1 h2 h3 h4 kc1 kc2 kc3 kc4 V0 c1 c2 c3 c4)) [0, 1, 2, 3, 4] (by decide) rfl
    exact W.iret (v := z0) hx hb hr (fun t ht hW => ⟨⟨z0, (), rfl, ⟨rfl, rfl⟩, by rw [ht]; exact hP9, va_K.moved hW.alike hK, hD9⟩, hS.F ht⟩) hS.2.2 dX3_pointBehind_51
  refine (hG _ _ _ _ _).mpr ?_
  obtain ⟨H, hH⟩ : ∃ H, H = s.heap := ⟨_, rfl⟩
  have hS : va_S A s.heap H [] := by rw [hH]; exact hS
  rw [← hH] at hP ⊢
  generalize ([] : List Loc) = locs at hS ⊢
  unfold fX3_pointBehind at hf
  refine lv_aload_n hx hb dX3_pointBehind_0 rfl (lv_at hl 0 rfl) ?_
  refine va_get (D := (dC, dI)) (ci := 3) (v := .ref h1) (C := RX3) (T := TX3) (N := 18) hx hb hts inlX3 hown hK hP 0 rfl rfl 14 (by decide) w0_ (fun _ h9 => h9) rfl dX3_pointBehind_1 ?_
  refine lv_iload_n hx hb dX3_pointBehind_4 rfl (lv_at hl 1 rfl) ?_
  have b1 := bd_in hf
  replace hf := bd_k hf
  refine va_iald hx hb hK hP 1 0 rfl rfl b1 dX3_pointBehind_5 ?_
  refine lv_topi (fun x2 e2 => ?_)
  replace hf := nm_at hf e2
  refine lv_iconst (v := (-1)) hx hb dX3_pointBehind_6 (by decide +kernel) ?_
  refine lv_icmp_eq (tgt := 17) hx hb dX3_pointBehind_7 (by decide) (fun cq3 => ?_) (fun cq3 => ?_)
  · replace hf := if_at hf cq3
    refine lv_aload_n hx hb dX3_pointBehind_17 rfl (lv_at hl 0 rfl) ?_
    refine va_get (D := (dC, dI)) (ci := 3) (v := .ref h2) (C := RX3) (T := TX3) (N := 18) hx hb hts inlX3 hown hK hP 0 rfl rfl 13 (by decide) w1_ (fun _ h9 => h9) rfl dX3_pointBehind_18 ?_
    refine lv_iload_n hx hb dX3_pointBehind_21 rfl (lv_at hl 1 rfl) ?_
    have b4 := bd_in hf
    replace hf := bd_k hf
    refine va_iald hx hb hK hP 2 1 rfl rfl b4 dX3_pointBehind_22 ?_
    refine lv_topi (fun x5 e5 => ?_)
    replace hf := nm_at hf e5
    refine lv_istore_n (lv' := [(2, .int x5), (0, .ref h0), (1, .int a0)]) hx hb dX3_pointBehind_23 rfl hl (by decide) rfl (fun ls hl => ?_)
    refine lv_iload_n hx hb dX3_pointBehind_24 rfl (lv_at hl 0 rfl) ?_
    refine lv_iconst (v := (-1)) hx hb dX3_pointBehind_25 (by decide +kernel) ?_
    refine lv_icmp_ne (tgt := 31) hx hb dX3_pointBehind_26 (by decide) (fun cq6 => ?_) (fun cq6 => ?_)
    · replace hf := if_no hf cq6
      refine lv_aload_n hx hb dX3_pointBehind_31 rfl (lv_at hl 1 rfl) ?_
      refine va_get (D := (dC, dI)) (ci := 3) (v := .ref h3) (C := RX3) (T := TX3) (N := 18) hx hb hts inlX3 hown hK hP 0 rfl rfl 5 (by decide) w2_ (fun _ h9 => h9) rfl dX3_pointBehind_32 ?_
      refine lv_iload_n hx hb dX3_pointBehind_35 rfl (lv_at hl 0 rfl) ?_
      have b7 := bd_in hf
      replace hf := bd_k hf
      refine va_iald hx hb hK hP 3 2 rfl rfl b7 dX3_pointBehind_36 ?_
      refine lv_topi (fun x8 e8 => ?_)
      replace hf := nm_at hf e8
      refine lv_iconst (v := 2) hx hb dX3_pointBehind_37 (by decide +kernel) ?_
      refine lv_icmp_ne (tgt := 45) hx hb dX3_pointBehind_38 (by decide) (fun cq9 => ?_) (fun cq9 => ?_)
      · replace hf := if_no hf cq9
        refine lv_aload_n hx hb dX3_pointBehind_45 rfl (lv_at hl 1 rfl) ?_
        refine va_get (D := (dC, dI)) (ci := 3) (v := .ref h4) (C := RX3) (T := TX3) (N := 18) hx hb hts inlX3 hown hK hP 0 rfl rfl 17 (by decide) w3_ (fun _ h9 => h9) rfl dX3_pointBehind_46 ?_
        refine lv_iload_n hx hb dX3_pointBehind_49 rfl (lv_at hl 0 rfl) ?_
        have b10 := bd_in hf
        replace hf := bd_k hf
        refine va_iald hx hb hK hP 4 3 rfl rfl b10 dX3_pointBehind_50 ?_
        refine lv_topi (fun x11 e11 => ?_)
        replace hf := nm_at hf e11
        exact (hG _ _ _ _ _).mp (J51 x11 H locs ls (hP.sub [0, 1, 2, 3, 4] rfl) (hD.sub [0, 1, 2, 3, 4] (by decide) rfl) hS (lv_sub hl [1] rfl) hf)
      · replace hf := if_at hf cq9
        refine lv_iload_n hx hb dX3_pointBehind_41 rfl (lv_at hl 0 rfl) ?_
        refine lv_goto (tgt := 51) hx hb dX3_pointBehind_42 (by decide) ?_
        exact (hG _ _ _ _ _).mp (J51 x5 H locs ls (hP.sub [0, 1, 2, 3, 4] rfl) (hD.sub [0, 1, 2, 3, 4] (by decide) rfl) hS (lv_sub hl [1] rfl) hf)
    · replace hf := if_at hf cq6
      refine lv_iconst (v := (-1)) hx hb dX3_pointBehind_29 (by decide +kernel) ?_
      have hf1 := Option.some.inj hf
      subst hf1
      have hP9 := hP.sub (ws' := (wX3_pointBehind h0 h1 h2 h3 h4 kc1 kc2 kc3 kc4 V0 c1 c2 c3 c4)) [0, 1, 2, 3, 4] rfl
      have hD9 := hD.sub (ws' := (wX3_pointBehind h0 h1 h2 h3 h4 kc1 kc2 kc3 kc4 V0 c1 c2 c3 c4)) [0, 1, 2, 3, 4] (by decide) rfl
      exact W.iret (v := (-1)) hx hb hr (fun t ht hW => ⟨⟨(-1), (), rfl, ⟨rfl, rfl⟩, by rw [ht]; exact hP9, va_K.moved hW.alike hK, hD9⟩, hS.F ht⟩) hS.2.2 dX3_pointBehind_30
  · replace hf := if_no hf cq3
    refine lv_aload_n hx hb dX3_pointBehind_10 rfl (lv_at hl 0 rfl) ?_
    refine va_get (D := (dC, dI)) (ci := 3) (v := .ref h1) (C := RX3) (T := TX3) (N := 18) hx hb hts inlX3 hown hK hP 0 rfl rfl 14 (by decide) w0_ (fun _ h9 => h9) rfl dX3_pointBehind_11 ?_
    refine lv_iload_n hx hb dX3_pointBehind_14 rfl (lv_at hl 1 rfl) ?_
    have b12 := bd_in hf
    replace hf := bd_k hf
    refine va_iald hx hb hK hP 1 0 rfl rfl b12 dX3_pointBehind_15 ?_
    refine lv_topi (fun x13 e13 => ?_)
    replace hf := nm_at hf e13
    have hf1 := Option.some.inj hf
    subst hf1
    have hP9 := hP.sub (ws' := (wX3_pointBehind h0 h1 h2 h3 h4 kc1 kc2 kc3 kc4 V0 c1 c2 c3 c4)) [0, 1, 2, 3, 4] rfl
    have hD9 := hD.sub (ws' := (wX3_pointBehind h0 h1 h2 h3 h4 kc1 kc2 kc3 kc4 V0 c1 c2 c3 c4)) [0, 1, 2, 3, 4] (by decide) rfl
    exact W.iret (v := x13) hx hb hr (fun t ht hW => ⟨⟨x13, (), rfl, ⟨rfl, rfl⟩, by rw [ht]; exact hP9, va_K.moved hW.alike hK, hD9⟩, hS.F ht⟩) hS.2.2 dX3_pointBehind_16
abbrev wX3_link (h0 h1 h2 h3 h4 h5 h6 h7 h8 : Nat) (kc1 kc2 kc3 kc4 kc5 kc6 kc7 kc8 : ClassId) (V0 : Nat → Value) (v0_statements : Int32) (c1 : Nat → Int32) (c2 : Nat → Int32) (c3 : Nat → Int32) (c4 : Nat → Int32) (c5 : Nat → Int32) (c6 : Nat → Int32) (c7 : Nat → Int32) (c8 : Nat → Int32) : va_W := [(h0, .inr (3, [V0 0, V0 1, V0 2, .int v0_statements, V0 4, .ref h3, V0 6, V0 7, V0 8, V0 9, V0 10, .ref h6, .ref h5, .ref h2, .ref h1, .ref h7, .ref h8, .ref h4])), (h1, .inl (kc1, 40, .inl c1)), (h2, .inl (kc2, 40, .inl c2)), (h3, .inl (kc3, 40, .inl c3)), (h4, .inl (kc4, 40, .inl c4)), (h5, .inl (kc5, 40, .inl c5)), (h6, .inl (kc6, 40, .inl c6)), (h7, .inl (kc7, 40, .inl c7)), (h8, .inl (kc8, 40, .inl c8))]
set_option maxHeartbeats 4000000 in
set_option maxRecDepth 100000 in
theorem mX3_link (l : Launch) (dC : Nat → ClassId) (dI : Nat → Nat → Nat) (h0 h1 h2 h3 h4 h5 h6 h7 h8 : Nat) (kc1 kc2 kc3 kc4 kc5 kc6 kc7 kc8 : ClassId) (sz : Nat) (base : Nat × Nat × Nat) (v0_statements : Int32) (c1 : Nat → Int32) (c2 : Nat → Int32) (c3 : Nat → Int32) (c4 : Nat → Int32) (c5 : Nat → Int32) (c6 : Nat → Int32) (c7 : Nat → Int32) (c8 : Nat → Int32) (V0 : Nat → Value) (o : (Nat → Int32) × (Nat → Int32) × (Nat → Int32)) (hf : fX3_link v0_statements c1 c2 c3 c4 c5 c6 c7 c8 = some o) : Met l yX3_link (.code yX3_link cX3_link 2 none :: wsL_law) ({ frames := 1, cells := 0, slots := 0, locals := 22 }) (cPre (dC, dI) vwCl [.ref h0] sz base (wX3_link h0 h1 h2 h3 h4 h5 h6 h7 h8 kc1 kc2 kc3 kc4 kc5 kc6 kc7 kc8 V0 v0_statements c1 c2 c3 c4 c5 c6 c7 c8) [(kc1, .int), (kc2, .int), (kc3, .int), (kc4, .int), (kc5, .int), (kc6, .int), (kc7, .int), (kc8, .int)]) (va_Qv (fun u => u = o) (fun (u : (Nat → Int32) × (Nat → Int32) × (Nat → Int32)) t => cPost (dC, dI) vwCl (va_A (wX3_link h0 h1 h2 h3 h4 h5 h6 h7 h8 kc1 kc2 kc3 kc4 kc5 kc6 kc7 kc8 V0 v0_statements c1 c2 c3 c4 c5 c6 c7 c8) sz) (wX3_link h0 h1 h2 h3 h4 h5 h6 h7 h8 kc1 kc2 kc3 kc4 kc5 kc6 kc7 kc8 V0 v0_statements c1 c2 c3 u.1 u.2.1 u.2.2 c7 c8) [(kc1, .int), (kc2, .int), (kc3, .int), (kc4, .int), (kc5, .int), (kc6, .int), (kc7, .int), (kc8, .int)] t) (va_A (wX3_link h0 h1 h2 h3 h4 h5 h6 h7 h8 kc1 kc2 kc3 kc4 kc5 kc6 kc7 kc8 V0 v0_statements c1 c2 c3 c4 c5 c6 c7 c8) sz)) 0 0 (va_A (wX3_link h0 h1 h2 h3 h4 h5 h6 h7 h8 kc1 kc2 kc3 kc4 kc5 kc6 kc7 kc8 V0 v0_statements c1 c2 c3 c4 c5 c6 c7 c8) sz) := by
  refine Met.ofW (cc := cX3_link) (maxL := 2) (ret := none) (by decide) rfl ?_
  intro p e s m args below meth c s₁ B hml hv
  obtain ⟨rfl, hsz, hP, hK, hD0, hE⟩ := hv
  have hx := B.exec
  have hb := B.bytes
  have hr := B.returns
  have hts : ∀ w ∈ wsL_law, _ := fun w h => atoms_spec (ws := .code yX3_link cX3_link 2 none :: wsL_law) B.pre w (List.mem_cons_of_mem _ h)
  have hown : s.vm.findClass RX3 = some m.cls := findClass_of_methodNamed B.named
  have hlocks := B.notSynchronized
  have w0_ := hts _ q57
  have w1_ := hts _ q62
  have w2_ := hts _ q63
  have w3_ := hts _ q50
  have w4_ := hts _ q58
  have w5_ := hts _ q61
  have w6_ := hts _ q554
  subst hsz
  have hD := hD0.self (sz := s.heap.size)
  generalize hAe : va_A (wX3_link h0 h1 h2 h3 h4 h5 h6 h7 h8 kc1 kc2 kc3 kc4 kc5 kc6 kc7 kc8 V0 v0_statements c1 c2 c3 c4 c5 c6 c7 c8) s.heap.size = A at hD ⊢
  have hA : ∀ q : Nat, s.heap.size ≤ q → A q := fun q h => by rw [← hAe]; exact Or.inr h
  have hAB : ∀ q : Nat, A q → base.1 ≤ q := fun q h => by rw [← hAe] at h; exact h.elim (fun ⟨k, e, hk⟩ => hD0.2 k _ hk) (fun hk => Nat.le_trans hE.1 hk)
  have hS : va_S A s.heap s.heap [] := va_S.rf
  have hl := lv_entry ([.ref h0]) (n := 2) (Nat.le_of_ble_eq_true rfl)
  rw [lg_entry_eq]
  generalize (lg_sl ([.ref h0]) ++ List.replicate (2 - (lg_sl ([.ref h0])).length) Slot.unset).toArray = ls at hl ⊢
  have hl : lv_has ls 2 [(0, .ref h0)] := hl
  have hP : va_P (dC, dI) vwCl (wX3_link h0 h1 h2 h3 h4 h5 h6 h7 h8 kc1 kc2 kc3 kc4 kc5 kc6 kc7 kc8 V0 v0_statements c1 c2 c3 c4 c5 c6 c7 c8) s.heap := hP
  refine gl_intro (fun G hG => ?_)
  have J213 : ∀ (k2 : Int32 → (Nat → Int32) → (Nat → Int32) → (Nat → Int32) → Option ((Nat → Int32) × (Nat → Int32) × (Nat → Int32))) (hk2 : ∀ (y1 : Int32) (c4 : (Nat → Int32)) (c5 : (Nat → Int32)) (c6 : (Nat → Int32)) (H : Heap) (locs : List Loc) (ls : Array Slot), va_P (dC, dI) vwCl (wX3_link h0 h1 h2 h3 h4 h5 h6 h7 h8 kc1 kc2 kc3 kc4 kc5 kc6 kc7 kc8 V0 v0_statements c1 c2 c3 c4 c5 c6 c7 c8) H → va_D A (wX3_link h0 h1 h2 h3 h4 h5 h6 h7 h8 kc1 kc2 kc3 kc4 kc5 kc6 kc7 kc8 V0 v0_statements c1 c2 c3 c4 c5 c6 c7 c8) → va_S A s.heap H locs → lv_has ls 2 [(0, .ref h0), (1, .int y1)] → k2 y1 c4 c5 c6 = some o → G 0 0 H locs (F0 m 2 ls [])), ∀ (y1 : Int32) (c4 : (Nat → Int32)) (c5 : (Nat → Int32)) (c6 : (Nat → Int32)) (H : Heap) (locs : List Loc) (ls : Array Slot), va_P (dC, dI) vwCl (wX3_link h0 h1 h2 h3 h4 h5 h6 h7 h8 kc1 kc2 kc3 kc4 kc5 kc6 kc7 kc8 V0 v0_statements c1 c2 c3 c4 c5 c6 c7 c8) H → va_D A (wX3_link h0 h1 h2 h3 h4 h5 h6 h7 h8 kc1 kc2 kc3 kc4 kc5 kc6 kc7 kc8 V0 v0_statements c1 c2 c3 c4 c5 c6 c7 c8) → va_S A s.heap H locs → lv_has ls 2 [(0, .ref h0), (1, .int y1)] → fX3_link_p213 v0_statements c1 c2 c3 c7 c8 k2 y1 c4 c5 c6 = some o → G 0 0 H locs (F0 m 213 ls []) := by
    intro k2 hk2 y1 c4 c5 c6 H locs ls hP hD hS hl hf
    refine (hG _ _ _ _ _).mpr ?_
    unfold fX3_link_p213 at hf
    obtain ⟨x1, e1⟩ : ∃ y : Int32, y = y1 + 1 := ⟨_, rfl⟩
    replace hf := nm_at hf e1
    refine lv_iinc (v := x1) (lv' := [(1, .int x1), (0, .ref h0)]) hx hb dX3_link_213 hl (k := 1) rfl (by rw [e1]; rfl) (by decide) rfl (fun ls hl => ?_)
    refine lv_goto (tgt := 2) hx hb dX3_link_216 (by decide) ?_
    exact (hG _ _ _ _ _).mp (hk2 x1 c4 c5 c6 H locs ls (hP.sub [0, 1, 2, 3, 4, 5, 6, 7, 8] rfl) (hD.sub [0, 1, 2, 3, 4, 5, 6, 7, 8] (by decide) rfl) hS (lv_sub hl [1, 0] rfl) hf)
  have J170 : ∀ (k2 : Int32 → (Nat → Int32) → (Nat → Int32) → (Nat → Int32) → Option ((Nat → Int32) × (Nat → Int32) × (Nat → Int32))) (hk2 : ∀ (y1 : Int32) (c4 : (Nat → Int32)) (c5 : (Nat → Int32)) (c6 : (Nat → Int32)) (H : Heap) (locs : List Loc) (ls : Array Slot), va_P (dC, dI) vwCl (wX3_link h0 h1 h2 h3 h4 h5 h6 h7 h8 kc1 kc2 kc3 kc4 kc5 kc6 kc7 kc8 V0 v0_statements c1 c2 c3 c4 c5 c6 c7 c8) H → va_D A (wX3_link h0 h1 h2 h3 h4 h5 h6 h7 h8 kc1 kc2 kc3 kc4 kc5 kc6 kc7 kc8 V0 v0_statements c1 c2 c3 c4 c5 c6 c7 c8) → va_S A s.heap H locs → lv_has ls 2 [(0, .ref h0), (1, .int y1)] → k2 y1 c4 c5 c6 = some o → G 0 0 H locs (F0 m 2 ls [])), ∀ (y1 : Int32) (z0 : Int32) (z1 : Int32) (c4 : (Nat → Int32)) (c5 : (Nat → Int32)) (c6 : (Nat → Int32)) (H : Heap) (locs : List Loc) (ls : Array Slot), va_P (dC, dI) vwCl (wX3_link h0 h1 h2 h3 h4 h5 h6 h7 h8 kc1 kc2 kc3 kc4 kc5 kc6 kc7 kc8 V0 v0_statements c1 c2 c3 c4 c5 c6 c7 c8) H → va_D A (wX3_link h0 h1 h2 h3 h4 h5 h6 h7 h8 kc1 kc2 kc3 kc4 kc5 kc6 kc7 kc8 V0 v0_statements c1 c2 c3 c4 c5 c6 c7 c8) → va_S A s.heap H locs → lv_has ls 2 [(0, .ref h0), (1, .int y1)] → fX3_link_p170 v0_statements c1 c2 c3 c7 c8 k2 y1 z0 z1 c4 c5 c6 = some o → G 0 0 H locs (F0 m 170 ls [.int z0, .int z1, .ref h5]) := by
    intro k2 hk2 y1 z0 z1 c4 c5 c6 H locs ls hP hD hS hl hf
    refine (hG _ _ _ _ _).mpr ?_
    unfold fX3_link_p170 at hf
    have b2 := bd_in hf
    replace hf := bd_k hf
    obtain ⟨c2x, e2⟩ : ∃ y, y = upd c5 z1.toNatClampNeg z0 := ⟨_, rfl⟩
    replace hf := nm_at hf e2
    refine va_iast hx hb hK hP hD hS 5 4 rfl rfl b2 dX3_link_170 (fun H locs hP hD hS => ?_)
    have hP : va_P (dC, dI) vwCl (wX3_link h0 h1 h2 h3 h4 h5 h6 h7 h8 kc1 kc2 kc3 kc4 kc5 kc6 kc7 kc8 V0 v0_statements c1 c2 c3 c4 c2x c6 c7 c8) H := by rw [e2]; exact hP
    have hD : va_D A (wX3_link h0 h1 h2 h3 h4 h5 h6 h7 h8 kc1 kc2 kc3 kc4 kc5 kc6 kc7 kc8 V0 v0_statements c1 c2 c3 c4 c2x c6 c7 c8) := by rw [e2]; exact hD
    refine lv_goto (tgt := 213) hx hb dX3_link_171 (by decide) ?_
    exact (hG _ _ _ _ _).mp (J213 k2 hk2 y1 c4 c2x c6 H locs ls (hP.sub [0, 1, 2, 3, 4, 5, 6, 7, 8] rfl) (hD.sub [0, 1, 2, 3, 4, 5, 6, 7, 8] (by decide) rfl) hS (lv_sub hl [0, 1] rfl) hf)
  have J131 : ∀ (k2 : Int32 → (Nat → Int32) → (Nat → Int32) → (Nat → Int32) → Option ((Nat → Int32) × (Nat → Int32) × (Nat → Int32))) (hk2 : ∀ (y1 : Int32) (c4 : (Nat → Int32)) (c5 : (Nat → Int32)) (c6 : (Nat → Int32)) (H : Heap) (locs : List Loc) (ls : Array Slot), va_P (dC, dI) vwCl (wX3_link h0 h1 h2 h3 h4 h5 h6 h7 h8 kc1 kc2 kc3 kc4 kc5 kc6 kc7 kc8 V0 v0_statements c1 c2 c3 c4 c5 c6 c7 c8) H → va_D A (wX3_link h0 h1 h2 h3 h4 h5 h6 h7 h8 kc1 kc2 kc3 kc4 kc5 kc6 kc7 kc8 V0 v0_statements c1 c2 c3 c4 c5 c6 c7 c8) → va_S A s.heap H locs → lv_has ls 2 [(0, .ref h0), (1, .int y1)] → k2 y1 c4 c5 c6 = some o → G 0 0 H locs (F0 m 2 ls [])), ∀ (y1 : Int32) (z0 : Int32) (z1 : Int32) (c4 : (Nat → Int32)) (c5 : (Nat → Int32)) (c6 : (Nat → Int32)) (H : Heap) (locs : List Loc) (ls : Array Slot), va_P (dC, dI) vwCl (wX3_link h0 h1 h2 h3 h4 h5 h6 h7 h8 kc1 kc2 kc3 kc4 kc5 kc6 kc7 kc8 V0 v0_statements c1 c2 c3 c4 c5 c6 c7 c8) H → va_D A (wX3_link h0 h1 h2 h3 h4 h5 h6 h7 h8 kc1 kc2 kc3 kc4 kc5 kc6 kc7 kc8 V0 v0_statements c1 c2 c3 c4 c5 c6 c7 c8) → va_S A s.heap H locs → lv_has ls 2 [(0, .ref h0), (1, .int y1)] → fX3_link_p131 v0_statements c1 c2 c3 c7 c8 k2 y1 z0 z1 c4 c5 c6 = some o → G 0 0 H locs (F0 m 131 ls [.int z0, .int z1, .ref h6]) := by
    intro k2 hk2 y1 z0 z1 c4 c5 c6 H locs ls hP hD hS hl hf
    refine (hG _ _ _ _ _).mpr ?_
    unfold fX3_link_p131 at hf
    have b3 := bd_in hf
    replace hf := bd_k hf
    obtain ⟨c3x, e3⟩ : ∃ y, y = upd c6 z1.toNatClampNeg z0 := ⟨_, rfl⟩
    replace hf := nm_at hf e3
    refine va_iast hx hb hK hP hD hS 6 5 rfl rfl b3 dX3_link_131 (fun H locs hP hD hS => ?_)
    have hP : va_P (dC, dI) vwCl (wX3_link h0 h1 h2 h3 h4 h5 h6 h7 h8 kc1 kc2 kc3 kc4 kc5 kc6 kc7 kc8 V0 v0_statements c1 c2 c3 c4 c5 c3x c7 c8) H := by rw [e3]; exact hP
    have hD : va_D A (wX3_link h0 h1 h2 h3 h4 h5 h6 h7 h8 kc1 kc2 kc3 kc4 kc5 kc6 kc7 kc8 V0 v0_statements c1 c2 c3 c4 c5 c3x c7 c8) := by rw [e3]; exact hD
    refine lv_goto (tgt := 213) hx hb dX3_link_132 (by decide) ?_
    exact (hG _ _ _ _ _).mp (J213 k2 hk2 y1 c4 c5 c3x H locs ls (hP.sub [0, 1, 2, 3, 4, 5, 6, 7, 8] rfl) (hD.sub [0, 1, 2, 3, 4, 5, 6, 7, 8] (by decide) rfl) hS (lv_sub hl [0, 1] rfl) hf)
  have J100 : ∀ (k2 : Int32 → (Nat → Int32) → (Nat → Int32) → (Nat → Int32) → Option ((Nat → Int32) × (Nat → Int32) × (Nat → Int32))) (hk2 : ∀ (y1 : Int32) (c4 : (Nat → Int32)) (c5 : (Nat → Int32)) (c6 : (Nat → Int32)) (H : Heap) (locs : List Loc) (ls : Array Slot), va_P (dC, dI) vwCl (wX3_link h0 h1 h2 h3 h4 h5 h6 h7 h8 kc1 kc2 kc3 kc4 kc5 kc6 kc7 kc8 V0 v0_statements c1 c2 c3 c4 c5 c6 c7 c8) H → va_D A (wX3_link h0 h1 h2 h3 h4 h5 h6 h7 h8 kc1 kc2 kc3 kc4 kc5 kc6 kc7 kc8 V0 v0_statements c1 c2 c3 c4 c5 c6 c7 c8) → va_S A s.heap H locs → lv_has ls 2 [(0, .ref h0), (1, .int y1)] → k2 y1 c4 c5 c6 = some o → G 0 0 H locs (F0 m 2 ls [])), ∀ (y1 : Int32) (z0 : Int32) (z1 : Int32) (c4 : (Nat → Int32)) (c5 : (Nat → Int32)) (c6 : (Nat → Int32)) (H : Heap) (locs : List Loc) (ls : Array Slot), va_P (dC, dI) vwCl (wX3_link h0 h1 h2 h3 h4 h5 h6 h7 h8 kc1 kc2 kc3 kc4 kc5 kc6 kc7 kc8 V0 v0_statements c1 c2 c3 c4 c5 c6 c7 c8) H → va_D A (wX3_link h0 h1 h2 h3 h4 h5 h6 h7 h8 kc1 kc2 kc3 kc4 kc5 kc6 kc7 kc8 V0 v0_statements c1 c2 c3 c4 c5 c6 c7 c8) → va_S A s.heap H locs → lv_has ls 2 [(0, .ref h0), (1, .int y1)] → fX3_link_p100 v0_statements c1 c2 c3 c7 c8 k2 y1 z0 z1 c4 c5 c6 = some o → G 0 0 H locs (F0 m 100 ls [.int z0, .int z1, .ref h5]) := by
    intro k2 hk2 y1 z0 z1 c4 c5 c6 H locs ls hP hD hS hl hf
    refine (hG _ _ _ _ _).mpr ?_
    unfold fX3_link_p100 at hf
    have b4 := bd_in hf
    replace hf := bd_k hf
    obtain ⟨c4x, e4⟩ : ∃ y, y = upd c5 z1.toNatClampNeg z0 := ⟨_, rfl⟩
    replace hf := nm_at hf e4
    refine va_iast hx hb hK hP hD hS 5 4 rfl rfl b4 dX3_link_100 (fun H locs hP hD hS => ?_)
    have hP : va_P (dC, dI) vwCl (wX3_link h0 h1 h2 h3 h4 h5 h6 h7 h8 kc1 kc2 kc3 kc4 kc5 kc6 kc7 kc8 V0 v0_statements c1 c2 c3 c4 c4x c6 c7 c8) H := by rw [e4]; exact hP
    have hD : va_D A (wX3_link h0 h1 h2 h3 h4 h5 h6 h7 h8 kc1 kc2 kc3 kc4 kc5 kc6 kc7 kc8 V0 v0_statements c1 c2 c3 c4 c4x c6 c7 c8) := by rw [e4]; exact hD
    refine lv_aload_n hx hb dX3_link_101 rfl (lv_at hl 0 rfl) ?_
    refine va_get (D := (dC, dI)) (ci := 3) (v := .ref h6) (C := RX3) (T := TX3) (N := 18) hx hb hts inlX3 hown hK hP 0 rfl rfl 11 (by decide) w0_ (fun _ h9 => h9) rfl dX3_link_102 ?_
    refine lv_iload_n hx hb dX3_link_105 rfl (lv_at hl 1 rfl) ?_
    refine lv_aload_n hx hb dX3_link_106 rfl (lv_at hl 0 rfl) ?_
    refine va_get (D := (dC, dI)) (ci := 3) (v := .ref h8) (C := RX3) (T := TX3) (N := 18) hx hb hts inlX3 hown hK hP 0 rfl rfl 16 (by decide) w1_ (fun _ h9 => h9) rfl dX3_link_107 ?_
    refine lv_iload_n hx hb dX3_link_110 rfl (lv_at hl 1 rfl) ?_
    have b5 := bd_in hf
    replace hf := bd_k hf
    refine va_iald hx hb hK hP 8 7 rfl rfl b5 dX3_link_111 ?_
    refine lv_topi (fun x6 e6 => ?_)
    replace hf := nm_at hf e6
    refine lv_iconst (v := (-1)) hx hb dX3_link_112 (by decide +kernel) ?_
    refine lv_icmp_ne (tgt := 125) hx hb dX3_link_113 (by decide) (fun cq7 => ?_) (fun cq7 => ?_)
    · replace hf := if_no hf cq7
      refine lv_aload_n hx hb dX3_link_125 rfl (lv_at hl 0 rfl) ?_
      refine va_get (D := (dC, dI)) (ci := 3) (v := .ref h8) (C := RX3) (T := TX3) (N := 18) hx hb hts inlX3 hown hK hP 0 rfl rfl 16 (by decide) w1_ (fun _ h9 => h9) rfl dX3_link_126 ?_
      refine lv_iload_n hx hb dX3_link_129 rfl (lv_at hl 1 rfl) ?_
      have b8 := bd_in hf
      replace hf := bd_k hf
      refine va_iald hx hb hK hP 8 7 rfl rfl b8 dX3_link_130 ?_
      refine lv_topi (fun x9 e9 => ?_)
      replace hf := nm_at hf e9
      exact (hG _ _ _ _ _).mp (J131 k2 hk2 y1 x9 y1 c4 c4x c6 H locs ls (hP.sub [0, 1, 2, 3, 4, 5, 6, 7, 8] rfl) (hD.sub [0, 1, 2, 3, 4, 5, 6, 7, 8] (by decide) rfl) hS (lv_sub hl [0, 1] rfl) hf)
    · replace hf := if_at hf cq7
      refine lv_aload_n hx hb dX3_link_116 rfl (lv_at hl 0 rfl) ?_
      refine va_get (D := (dC, dI)) (ci := 3) (v := .ref h4) (C := RX3) (T := TX3) (N := 18) hx hb hts inlX3 hown hK hP 0 rfl rfl 17 (by decide) w2_ (fun _ h9 => h9) rfl dX3_link_117 ?_
      refine lv_iload_n hx hb dX3_link_120 rfl (lv_at hl 1 rfl) ?_
      have b10 := bd_in hf
      replace hf := bd_k hf
      refine va_iald hx hb hK hP 4 3 rfl rfl b10 dX3_link_121 ?_
      refine lv_topi (fun x11 e11 => ?_)
      replace hf := nm_at hf e11
      refine lv_goto (tgt := 131) hx hb dX3_link_122 (by decide) ?_
      exact (hG _ _ _ _ _).mp (J131 k2 hk2 y1 x11 y1 c4 c4x c6 H locs ls (hP.sub [0, 1, 2, 3, 4, 5, 6, 7, 8] rfl) (hD.sub [0, 1, 2, 3, 4, 5, 6, 7, 8] (by decide) rfl) hS (lv_sub hl [0, 1] rfl) hf)
  have J47 : ∀ (k2 : Int32 → (Nat → Int32) → (Nat → Int32) → (Nat → Int32) → Option ((Nat → Int32) × (Nat → Int32) × (Nat → Int32))) (hk2 : ∀ (y1 : Int32) (c4 : (Nat → Int32)) (c5 : (Nat → Int32)) (c6 : (Nat → Int32)) (H : Heap) (locs : List Loc) (ls : Array Slot), va_P (dC, dI) vwCl (wX3_link h0 h1 h2 h3 h4 h5 h6 h7 h8 kc1 kc2 kc3 kc4 kc5 kc6 kc7 kc8 V0 v0_statements c1 c2 c3 c4 c5 c6 c7 c8) H → va_D A (wX3_link h0 h1 h2 h3 h4 h5 h6 h7 h8 kc1 kc2 kc3 kc4 kc5 kc6 kc7 kc8 V0 v0_statements c1 c2 c3 c4 c5 c6 c7 c8) → va_S A s.heap H locs → lv_has ls 2 [(0, .ref h0), (1, .int y1)] → k2 y1 c4 c5 c6 = some o → G 0 0 H locs (F0 m 2 ls [])), ∀ (y1 : Int32) (z0 : Int32) (z1 : Int32) (c4 : (Nat → Int32)) (c5 : (Nat → Int32)) (c6 : (Nat → Int32)) (H : Heap) (locs : List Loc) (ls : Array Slot), va_P (dC, dI) vwCl (wX3_link h0 h1 h2 h3 h4 h5 h6 h7 h8 kc1 kc2 kc3 kc4 kc5 kc6 kc7 kc8 V0 v0_statements c1 c2 c3 c4 c5 c6 c7 c8) H → va_D A (wX3_link h0 h1 h2 h3 h4 h5 h6 h7 h8 kc1 kc2 kc3 kc4 kc5 kc6 kc7 kc8 V0 v0_statements c1 c2 c3 c4 c5 c6 c7 c8) → va_S A s.heap H locs → lv_has ls 2 [(0, .ref h0), (1, .int y1)] → fX3_link_p47 v0_statements c1 c2 c3 c7 c8 k2 y1 z0 z1 c4 c5 c6 = some o → G 0 0 H locs (F0 m 47 ls [.int z0, .int z1, .ref h5]) := by
    intro k2 hk2 y1 z0 z1 c4 c5 c6 H locs ls hP hD hS hl hf
    refine (hG _ _ _ _ _).mpr ?_
    unfold fX3_link_p47 at hf
    have b12 := bd_in hf
    replace hf := bd_k hf
    obtain ⟨c12x, e12⟩ : ∃ y, y = upd c5 z1.toNatClampNeg z0 := ⟨_, rfl⟩
    replace hf := nm_at hf e12
    refine va_iast hx hb hK hP hD hS 5 4 rfl rfl b12 dX3_link_47 (fun H locs hP hD hS => ?_)
    have hP : va_P (dC, dI) vwCl (wX3_link h0 h1 h2 h3 h4 h5 h6 h7 h8 kc1 kc2 kc3 kc4 kc5 kc6 kc7 kc8 V0 v0_statements c1 c2 c3 c4 c12x c6 c7 c8) H := by rw [e12]; exact hP
    have hD : va_D A (wX3_link h0 h1 h2 h3 h4 h5 h6 h7 h8 kc1 kc2 kc3 kc4 kc5 kc6 kc7 kc8 V0 v0_statements c1 c2 c3 c4 c12x c6 c7 c8) := by rw [e12]; exact hD
    refine lv_aload_n hx hb dX3_link_48 rfl (lv_at hl 0 rfl) ?_
    refine va_get (D := (dC, dI)) (ci := 3) (v := .ref h6) (C := RX3) (T := TX3) (N := 18) hx hb hts inlX3 hown hK hP 0 rfl rfl 11 (by decide) w0_ (fun _ h9 => h9) rfl dX3_link_49 ?_
    refine lv_iload_n hx hb dX3_link_52 rfl (lv_at hl 1 rfl) ?_
    refine lv_aload_n hx hb dX3_link_53 rfl (lv_at hl 0 rfl) ?_
    refine va_get (D := (dC, dI)) (ci := 3) (v := .ref h4) (C := RX3) (T := TX3) (N := 18) hx hb hts inlX3 hown hK hP 0 rfl rfl 17 (by decide) w2_ (fun _ h9 => h9) rfl dX3_link_54 ?_
    refine lv_iload_n hx hb dX3_link_57 rfl (lv_at hl 1 rfl) ?_
    have b13 := bd_in hf
    replace hf := bd_k hf
    refine va_iald hx hb hK hP 4 3 rfl rfl b13 dX3_link_58 ?_
    refine lv_topi (fun x14 e14 => ?_)
    replace hf := nm_at hf e14
    have b15 := bd_in hf
    replace hf := bd_k hf
    obtain ⟨c15x, e15⟩ : ∃ y, y = upd c6 y1.toNatClampNeg x14 := ⟨_, rfl⟩
    replace hf := nm_at hf e15
    refine va_iast hx hb hK hP hD hS 6 5 rfl rfl b15 dX3_link_59 (fun H locs hP hD hS => ?_)
    have hP : va_P (dC, dI) vwCl (wX3_link h0 h1 h2 h3 h4 h5 h6 h7 h8 kc1 kc2 kc3 kc4 kc5 kc6 kc7 kc8 V0 v0_statements c1 c2 c3 c4 c12x c15x c7 c8) H := by rw [e15]; exact hP
    have hD : va_D A (wX3_link h0 h1 h2 h3 h4 h5 h6 h7 h8 kc1 kc2 kc3 kc4 kc5 kc6 kc7 kc8 V0 v0_statements c1 c2 c3 c4 c12x c15x c7 c8) := by rw [e15]; exact hD
    refine lv_aload_n hx hb dX3_link_60 rfl (lv_at hl 0 rfl) ?_
    refine va_get (D := (dC, dI)) (ci := 3) (v := .ref h3) (C := RX3) (T := TX3) (N := 18) hx hb hts inlX3 hown hK hP 0 rfl rfl 5 (by decide) w3_ (fun _ h9 => h9) rfl dX3_link_61 ?_
    refine lv_iload_n hx hb dX3_link_64 rfl (lv_at hl 1 rfl) ?_
    have b16 := bd_in hf
    replace hf := bd_k hf
    refine va_iald hx hb hK hP 3 2 rfl rfl b16 dX3_link_65 ?_
    refine lv_topi (fun x17 e17 => ?_)
    replace hf := nm_at hf e17
    refine lv_iconst (v := 1) hx hb dX3_link_66 (by decide +kernel) ?_
    refine lv_icmp_ne (tgt := 135) hx hb dX3_link_67 (by decide) (fun cq18 => ?_) (fun cq18 => ?_)
    · replace hf := if_no hf cq18
      refine lv_aload_n hx hb dX3_link_135 rfl (lv_at hl 0 rfl) ?_
      refine va_get (D := (dC, dI)) (ci := 3) (v := .ref h3) (C := RX3) (T := TX3) (N := 18) hx hb hts inlX3 hown hK hP 0 rfl rfl 5 (by decide) w3_ (fun _ h9 => h9) rfl dX3_link_136 ?_
      refine lv_iload_n hx hb dX3_link_139 rfl (lv_at hl 1 rfl) ?_
      have b19 := bd_in hf
      replace hf := bd_k hf
      refine va_iald hx hb hK hP 3 2 rfl rfl b19 dX3_link_140 ?_
      refine lv_topi (fun x20 e20 => ?_)
      replace hf := nm_at hf e20
      refine lv_iconst (v := 2) hx hb dX3_link_141 (by decide +kernel) ?_
      refine lv_icmp_ne (tgt := 174) hx hb dX3_link_142 (by decide) (fun cq21 => ?_) (fun cq21 => ?_)
      · replace hf := if_no hf cq21
        refine lv_aload_n hx hb dX3_link_174 rfl (lv_at hl 0 rfl) ?_
        refine va_get (D := (dC, dI)) (ci := 3) (v := .ref h3) (C := RX3) (T := TX3) (N := 18) hx hb hts inlX3 hown hK hP 0 rfl rfl 5 (by decide) w3_ (fun _ h9 => h9) rfl dX3_link_175 ?_
        refine lv_iload_n hx hb dX3_link_178 rfl (lv_at hl 1 rfl) ?_
        have b22 := bd_in hf
        replace hf := bd_k hf
        refine va_iald hx hb hK hP 3 2 rfl rfl b22 dX3_link_179 ?_
        refine lv_topi (fun x23 e23 => ?_)
        replace hf := nm_at hf e23
        refine lv_iconst (v := 4) hx hb dX3_link_180 (by decide +kernel) ?_
        refine lv_icmp_ne (tgt := 195) hx hb dX3_link_181 (by decide) (fun cq24 => ?_) (fun cq24 => ?_)
        · replace hf := if_no hf cq24
          refine lv_aload_n hx hb dX3_link_195 rfl (lv_at hl 0 rfl) ?_
          refine va_get (D := (dC, dI)) (ci := 3) (v := .ref h3) (C := RX3) (T := TX3) (N := 18) hx hb hts inlX3 hown hK hP 0 rfl rfl 5 (by decide) w3_ (fun _ h9 => h9) rfl dX3_link_196 ?_
          refine lv_iload_n hx hb dX3_link_199 rfl (lv_at hl 1 rfl) ?_
          have b25 := bd_in hf
          replace hf := bd_k hf
          refine va_iald hx hb hK hP 3 2 rfl rfl b25 dX3_link_200 ?_
          refine lv_topi (fun x26 e26 => ?_)
          replace hf := nm_at hf e26
          refine lv_iconst (v := 5) hx hb dX3_link_201 (by decide +kernel) ?_
          refine lv_icmp_ne (tgt := 213) hx hb dX3_link_202 (by decide) (fun cq27 => ?_) (fun cq27 => ?_)
          · replace hf := if_no hf cq27
            exact (hG _ _ _ _ _).mp (J213 k2 hk2 y1 c4 c12x c15x H locs ls (hP.sub [0, 1, 2, 3, 4, 5, 6, 7, 8] rfl) (hD.sub [0, 1, 2, 3, 4, 5, 6, 7, 8] (by decide) rfl) hS (lv_sub hl [0, 1] rfl) hf)
          · replace hf := if_at hf cq27
            refine lv_aload_n hx hb dX3_link_205 rfl (lv_at hl 0 rfl) ?_
            refine va_get (D := (dC, dI)) (ci := 3) (v := .ref h6) (C := RX3) (T := TX3) (N := 18) hx hb hts inlX3 hown hK hP 0 rfl rfl 11 (by decide) w0_ (fun _ h9 => h9) rfl dX3_link_206 ?_
            refine lv_iload_n hx hb dX3_link_209 rfl (lv_at hl 1 rfl) ?_
            refine lv_bipush (v := (-3)) hx hb dX3_link_210 (by decide +kernel) ?_
            have b28 := bd_in hf
            replace hf := bd_k hf
            obtain ⟨c28x, e28⟩ : ∃ y, y = upd c15x y1.toNatClampNeg (-3) := ⟨_, rfl⟩
            replace hf := nm_at hf e28
            refine va_iast hx hb hK hP hD hS 6 5 rfl rfl b28 dX3_link_212 (fun H locs hP hD hS => ?_)
            have hP : va_P (dC, dI) vwCl (wX3_link h0 h1 h2 h3 h4 h5 h6 h7 h8 kc1 kc2 kc3 kc4 kc5 kc6 kc7 kc8 V0 v0_statements c1 c2 c3 c4 c12x c28x c7 c8) H := by rw [e28]; exact hP
            have hD : va_D A (wX3_link h0 h1 h2 h3 h4 h5 h6 h7 h8 kc1 kc2 kc3 kc4 kc5 kc6 kc7 kc8 V0 v0_statements c1 c2 c3 c4 c12x c28x c7 c8) := by rw [e28]; exact hD
            exact (hG _ _ _ _ _).mp (J213 k2 hk2 y1 c4 c12x c28x H locs ls (hP.sub [0, 1, 2, 3, 4, 5, 6, 7, 8] rfl) (hD.sub [0, 1, 2, 3, 4, 5, 6, 7, 8] (by decide) rfl) hS (lv_sub hl [0, 1] rfl) hf)
        · replace hf := if_at hf cq24
          refine lv_aload_n hx hb dX3_link_184 rfl (lv_at hl 0 rfl) ?_
          refine va_get (D := (dC, dI)) (ci := 3) (v := .ref h6) (C := RX3) (T := TX3) (N := 18) hx hb hts inlX3 hown hK hP 0 rfl rfl 11 (by decide) w0_ (fun _ h9 => h9) rfl dX3_link_185 ?_
          refine lv_iload_n hx hb dX3_link_188 rfl (lv_at hl 1 rfl) ?_
          refine lv_bipush (v := (-2)) hx hb dX3_link_189 (by decide +kernel) ?_
          have b29 := bd_in hf
          replace hf := bd_k hf
          obtain ⟨c29x, e29⟩ : ∃ y, y = upd c15x y1.toNatClampNeg (-2) := ⟨_, rfl⟩
          replace hf := nm_at hf e29
          refine va_iast hx hb hK hP hD hS 6 5 rfl rfl b29 dX3_link_191 (fun H locs hP hD hS => ?_)
          have hP : va_P (dC, dI) vwCl (wX3_link h0 h1 h2 h3 h4 h5 h6 h7 h8 kc1 kc2 kc3 kc4 kc5 kc6 kc7 kc8 V0 v0_statements c1 c2 c3 c4 c12x c29x c7 c8) H := by rw [e29]; exact hP
          have hD : va_D A (wX3_link h0 h1 h2 h3 h4 h5 h6 h7 h8 kc1 kc2 kc3 kc4 kc5 kc6 kc7 kc8 V0 v0_statements c1 c2 c3 c4 c12x c29x c7 c8) := by rw [e29]; exact hD
          refine lv_goto (tgt := 213) hx hb dX3_link_192 (by decide) ?_
          exact (hG _ _ _ _ _).mp (J213 k2 hk2 y1 c4 c12x c29x H locs ls (hP.sub [0, 1, 2, 3, 4, 5, 6, 7, 8] rfl) (hD.sub [0, 1, 2, 3, 4, 5, 6, 7, 8] (by decide) rfl) hS (lv_sub hl [0, 1] rfl) hf)
      · replace hf := if_at hf cq21
        refine lv_aload_n hx hb dX3_link_145 rfl (lv_at hl 0 rfl) ?_
        refine va_get (D := (dC, dI)) (ci := 3) (v := .ref h5) (C := RX3) (T := TX3) (N := 18) hx hb hts inlX3 hown hK hP 0 rfl rfl 12 (by decide) w4_ (fun _ h9 => h9) rfl dX3_link_146 ?_
        refine lv_iload_n hx hb dX3_link_149 rfl (lv_at hl 1 rfl) ?_
        refine lv_aload_n hx hb dX3_link_150 rfl (lv_at hl 0 rfl) ?_
        refine va_get (D := (dC, dI)) (ci := 3) (v := .ref h7) (C := RX3) (T := TX3) (N := 18) hx hb hts inlX3 hown hK hP 0 rfl rfl 15 (by decide) w5_ (fun _ h9 => h9) rfl dX3_link_151 ?_
        refine lv_iload_n hx hb dX3_link_154 rfl (lv_at hl 1 rfl) ?_
        have b30 := bd_in hf
        replace hf := bd_k hf
        refine va_iald hx hb hK hP 7 6 rfl rfl b30 dX3_link_155 ?_
        refine lv_topi (fun x31 e31 => ?_)
        replace hf := nm_at hf e31
        refine lv_iconst (v := (-1)) hx hb dX3_link_156 (by decide +kernel) ?_
        refine lv_icmp_ne (tgt := 164) hx hb dX3_link_157 (by decide) (fun cq32 => ?_) (fun cq32 => ?_)
        · replace hf := if_no hf cq32
          refine lv_aload_n hx hb dX3_link_164 rfl (lv_at hl 0 rfl) ?_
          refine va_get (D := (dC, dI)) (ci := 3) (v := .ref h7) (C := RX3) (T := TX3) (N := 18) hx hb hts inlX3 hown hK hP 0 rfl rfl 15 (by decide) w5_ (fun _ h9 => h9) rfl dX3_link_165 ?_
          refine lv_iload_n hx hb dX3_link_168 rfl (lv_at hl 1 rfl) ?_
          have b33 := bd_in hf
          replace hf := bd_k hf
          refine va_iald hx hb hK hP 7 6 rfl rfl b33 dX3_link_169 ?_
          refine lv_topi (fun x34 e34 => ?_)
          replace hf := nm_at hf e34
          exact (hG _ _ _ _ _).mp (J170 k2 hk2 y1 x34 y1 c4 c12x c15x H locs ls (hP.sub [0, 1, 2, 3, 4, 5, 6, 7, 8] rfl) (hD.sub [0, 1, 2, 3, 4, 5, 6, 7, 8] (by decide) rfl) hS (lv_sub hl [0, 1] rfl) hf)
        · replace hf := if_at hf cq32
          refine lv_iload_n hx hb dX3_link_160 rfl (lv_at hl 1 rfl) ?_
          refine lv_goto (tgt := 170) hx hb dX3_link_161 (by decide) ?_
          exact (hG _ _ _ _ _).mp (J170 k2 hk2 y1 y1 y1 c4 c12x c15x H locs ls (hP.sub [0, 1, 2, 3, 4, 5, 6, 7, 8] rfl) (hD.sub [0, 1, 2, 3, 4, 5, 6, 7, 8] (by decide) rfl) hS (lv_sub hl [0, 1] rfl) hf)
    · replace hf := if_at hf cq18
      refine lv_aload_n hx hb dX3_link_70 rfl (lv_at hl 0 rfl) ?_
      refine va_get (D := (dC, dI)) (ci := 3) (v := .ref h5) (C := RX3) (T := TX3) (N := 18) hx hb hts inlX3 hown hK hP 0 rfl rfl 12 (by decide) w4_ (fun _ h9 => h9) rfl dX3_link_71 ?_
      refine lv_iload_n hx hb dX3_link_74 rfl (lv_at hl 1 rfl) ?_
      refine lv_aload_n hx hb dX3_link_75 rfl (lv_at hl 0 rfl) ?_
      refine va_get (D := (dC, dI)) (ci := 3) (v := .ref h7) (C := RX3) (T := TX3) (N := 18) hx hb hts inlX3 hown hK hP 0 rfl rfl 15 (by decide) w5_ (fun _ h9 => h9) rfl dX3_link_76 ?_
      refine lv_iload_n hx hb dX3_link_79 rfl (lv_at hl 1 rfl) ?_
      have b35 := bd_in hf
      replace hf := bd_k hf
      refine va_iald hx hb hK hP 7 6 rfl rfl b35 dX3_link_80 ?_
      refine lv_topi (fun x36 e36 => ?_)
      replace hf := nm_at hf e36
      refine lv_iconst (v := (-1)) hx hb dX3_link_81 (by decide +kernel) ?_
      refine lv_icmp_ne (tgt := 94) hx hb dX3_link_82 (by decide) (fun cq37 => ?_) (fun cq37 => ?_)
      · replace hf := if_no hf cq37
        refine lv_aload_n hx hb dX3_link_94 rfl (lv_at hl 0 rfl) ?_
        refine va_get (D := (dC, dI)) (ci := 3) (v := .ref h7) (C := RX3) (T := TX3) (N := 18) hx hb hts inlX3 hown hK hP 0 rfl rfl 15 (by decide) w5_ (fun _ h9 => h9) rfl dX3_link_95 ?_
        refine lv_iload_n hx hb dX3_link_98 rfl (lv_at hl 1 rfl) ?_
        have b38 := bd_in hf
        replace hf := bd_k hf
        refine va_iald hx hb hK hP 7 6 rfl rfl b38 dX3_link_99 ?_
        refine lv_topi (fun x39 e39 => ?_)
        replace hf := nm_at hf e39
        exact (hG _ _ _ _ _).mp (J100 k2 hk2 y1 x39 y1 c4 c12x c15x H locs ls (hP.sub [0, 1, 2, 3, 4, 5, 6, 7, 8] rfl) (hD.sub [0, 1, 2, 3, 4, 5, 6, 7, 8] (by decide) rfl) hS (lv_sub hl [0, 1] rfl) hf)
      · replace hf := if_at hf cq37
        refine lv_aload_n hx hb dX3_link_85 rfl (lv_at hl 0 rfl) ?_
        refine va_get (D := (dC, dI)) (ci := 3) (v := .ref h4) (C := RX3) (T := TX3) (N := 18) hx hb hts inlX3 hown hK hP 0 rfl rfl 17 (by decide) w2_ (fun _ h9 => h9) rfl dX3_link_86 ?_
        refine lv_iload_n hx hb dX3_link_89 rfl (lv_at hl 1 rfl) ?_
        have b40 := bd_in hf
        replace hf := bd_k hf
        refine va_iald hx hb hK hP 4 3 rfl rfl b40 dX3_link_90 ?_
        refine lv_topi (fun x41 e41 => ?_)
        replace hf := nm_at hf e41
        refine lv_goto (tgt := 100) hx hb dX3_link_91 (by decide) ?_
        exact (hG _ _ _ _ _).mp (J100 k2 hk2 y1 x41 y1 c4 c12x c15x H locs ls (hP.sub [0, 1, 2, 3, 4, 5, 6, 7, 8] rfl) (hD.sub [0, 1, 2, 3, 4, 5, 6, 7, 8] (by decide) rfl) hS (lv_sub hl [0, 1] rfl) hf)
  have B2 : ∀ (k2 : Int32 → (Nat → Int32) → (Nat → Int32) → (Nat → Int32) → Option ((Nat → Int32) × (Nat → Int32) × (Nat → Int32))) (hk2 : ∀ (y1 : Int32) (c4 : (Nat → Int32)) (c5 : (Nat → Int32)) (c6 : (Nat → Int32)) (H : Heap) (locs : List Loc) (ls : Array Slot), va_P (dC, dI) vwCl (wX3_link h0 h1 h2 h3 h4 h5 h6 h7 h8 kc1 kc2 kc3 kc4 kc5 kc6 kc7 kc8 V0 v0_statements c1 c2 c3 c4 c5 c6 c7 c8) H → va_D A (wX3_link h0 h1 h2 h3 h4 h5 h6 h7 h8 kc1 kc2 kc3 kc4 kc5 kc6 kc7 kc8 V0 v0_statements c1 c2 c3 c4 c5 c6 c7 c8) → va_S A s.heap H locs → lv_has ls 2 [(0, .ref h0), (1, .int y1)] → k2 y1 c4 c5 c6 = some o → G 0 0 H locs (F0 m 2 ls [])), ∀ (y1 : Int32) (c4 : (Nat → Int32)) (c5 : (Nat → Int32)) (c6 : (Nat → Int32)) (H : Heap) (locs : List Loc) (ls : Array Slot), va_P (dC, dI) vwCl (wX3_link h0 h1 h2 h3 h4 h5 h6 h7 h8 kc1 kc2 kc3 kc4 kc5 kc6 kc7 kc8 V0 v0_statements c1 c2 c3 c4 c5 c6 c7 c8) H → va_D A (wX3_link h0 h1 h2 h3 h4 h5 h6 h7 h8 kc1 kc2 kc3 kc4 kc5 kc6 kc7 kc8 V0 v0_statements c1 c2 c3 c4 c5 c6 c7 c8) → va_S A s.heap H locs → lv_has ls 2 [(0, .ref h0), (1, .int y1)] → fX3_link_b2 v0_statements c1 c2 c3 c7 c8  k2 y1 c4 c5 c6 = some o → G 0 0 H locs (F0 m 2 ls []) := by
    intro  k2 hk2 y1 c4 c5 c6 H locs ls hP hD hS hl hf
    refine (hG _ _ _ _ _).mpr ?_
    unfold fX3_link_b2 at hf
    refine lv_iload_n hx hb dX3_link_2 rfl (lv_at hl 1 rfl) ?_
    refine lv_aload_n hx hb dX3_link_3 rfl (lv_at hl 0 rfl) ?_
    refine va_get (D := (dC, dI)) (ci := 3) (v := .int v0_statements) (C := RX3) (T := TX3) (N := 18) hx hb hts inlX3 hown hK hP 0 rfl rfl 3 (by decide) w6_ (fun _ h9 => h9) rfl dX3_link_4 ?_
    refine lv_icmp_ge (tgt := 219) hx hb dX3_link_7 (by decide) (fun cq42 => ?_) (fun cq42 => ?_)
    · replace hf := if_at hf cq42
      have hf1 := Option.some.inj hf
      subst hf1
      have hP9 := hP.sub (ws' := (wX3_link h0 h1 h2 h3 h4 h5 h6 h7 h8 kc1 kc2 kc3 kc4 kc5 kc6 kc7 kc8 V0 v0_statements c1 c2 c3 c4 c5 c6 c7 c8)) [0, 1, 2, 3, 4, 5, 6, 7, 8] rfl
      have hD9 := hD.sub (ws' := (wX3_link h0 h1 h2 h3 h4 h5 h6 h7 h8 kc1 kc2 kc3 kc4 kc5 kc6 kc7 kc8 V0 v0_statements c1 c2 c3 c4 c5 c6 c7 c8)) [0, 1, 2, 3, 4, 5, 6, 7, 8] (by decide) rfl
      exact W.vret hx hb hr (fun t ht hW => ⟨⟨(c4, c5, c6), rfl, rfl, by rw [ht]; exact hP9, va_K.moved hW.alike hK, hD9⟩, hS.F ht⟩) hS.2.2 dX3_link_219
    · replace hf := if_no hf cq42
      refine lv_aload_n hx hb dX3_link_10 rfl (lv_at hl 0 rfl) ?_
      refine va_get (D := (dC, dI)) (ci := 3) (v := .ref h4) (C := RX3) (T := TX3) (N := 18) hx hb hts inlX3 hown hK hP 0 rfl rfl 17 (by decide) w2_ (fun _ h9 => h9) rfl dX3_link_11 ?_
      refine lv_iload_n hx hb dX3_link_14 rfl (lv_at hl 1 rfl) ?_
      refine lv_aload_n hx hb dX3_link_15 rfl (lv_at hl 0 rfl) ?_
      refine lv_iload_n hx hb dX3_link_16 rfl (lv_at hl 1 rfl) ?_
      obtain ⟨o43, e43, hf⟩ := ob_some hf
      refine kVi (As := [.int y1]) (rest := [.int y1, .ref h4]) ⟨hx, hb, hml, hown, hts⟩ (mX3_pointBehind l dC dI h0 h1 h2 h3 h4 kc1 kc2 kc3 kc4 H.size base y1 c1 c2 c3 c4 (fun k => match k with | 3 => .int v0_statements | 11 => .ref h6 | 12 => .ref h5 | 15 => .ref h7 | 16 => .ref h8 | k => V0 k) o43 e43) (cwV 1 hts (gTV q785 q786 q787 q23 q788) rfl rfl rfl (by decide +kernel) ⟨Nat.le_of_ble_eq_true rfl, Nat.le_of_ble_eq_true rfl⟩) hK hP hD hS hA hE hAB [0, 1, 2, 3, 4] [5, 6, 7, 8] [0, 1, 2, 3] (wr := [(h5, .inl (kc5, 40, .inl c5)), (h6, .inl (kc6, 40, .inl c6)), (h7, .inl (kc7, 40, .inl c7)), (h8, .inl (kc8, 40, .inl c8))]) rfl rfl (by decide) (by decide) (by decide) rfl (ci := 3) (q0 := 0) rfl rfl rfl rfl hl.1 rfl (Nat.le_of_ble_eq_true rfl) dX3_link_17 ⟨Nat.zero_le _, Nat.zero_le _⟩ (fun r43 u43 H locs hw43 hP hD hS => ?_)
      obtain ⟨hw431, hw432⟩ := hw43
      subst hw431 hw432
      have hP : va_P (dC, dI) vwCl (wX3_link h0 h1 h2 h3 h4 h5 h6 h7 h8 kc1 kc2 kc3 kc4 kc5 kc6 kc7 kc8 V0 v0_statements c1 c2 c3 c4 c5 c6 c7 c8) H := hP.sub [4, 5, 6, 7, 8, 0, 1, 2, 3] rfl
      have hD : va_D A (wX3_link h0 h1 h2 h3 h4 h5 h6 h7 h8 kc1 kc2 kc3 kc4 kc5 kc6 kc7 kc8 V0 v0_statements c1 c2 c3 c4 c5 c6 c7 c8) := hD.sub [4, 5, 6, 7, 8, 0, 1, 2, 3] (by decide) rfl
      have b44 := bd_in hf
      replace hf := bd_k hf
      obtain ⟨c44x, e44⟩ : ∃ y, y = upd c4 y1.toNatClampNeg o43.1 := ⟨_, rfl⟩
      replace hf := nm_at hf e44
      refine va_iast hx hb hK hP hD hS 4 3 rfl rfl b44 dX3_link_20 (fun H locs hP hD hS => ?_)
      have hP : va_P (dC, dI) vwCl (wX3_link h0 h1 h2 h3 h4 h5 h6 h7 h8 kc1 kc2 kc3 kc4 kc5 kc6 kc7 kc8 V0 v0_statements c1 c2 c3 c44x c5 c6 c7 c8) H := by rw [e44]; exact hP
      have hD : va_D A (wX3_link h0 h1 h2 h3 h4 h5 h6 h7 h8 kc1 kc2 kc3 kc4 kc5 kc6 kc7 kc8 V0 v0_statements c1 c2 c3 c44x c5 c6 c7 c8) := by rw [e44]; exact hD
      refine lv_aload_n hx hb dX3_link_21 rfl (lv_at hl 0 rfl) ?_
      refine va_get (D := (dC, dI)) (ci := 3) (v := .ref h5) (C := RX3) (T := TX3) (N := 18) hx hb hts inlX3 hown hK hP 0 rfl rfl 12 (by decide) w4_ (fun _ h9 => h9) rfl dX3_link_22 ?_
      refine lv_iload_n hx hb dX3_link_25 rfl (lv_at hl 1 rfl) ?_
      refine lv_aload_n hx hb dX3_link_26 rfl (lv_at hl 0 rfl) ?_
      refine va_get (D := (dC, dI)) (ci := 3) (v := .ref h3) (C := RX3) (T := TX3) (N := 18) hx hb hts inlX3 hown hK hP 0 rfl rfl 5 (by decide) w3_ (fun _ h9 => h9) rfl dX3_link_27 ?_
      refine lv_iload_n hx hb dX3_link_30 rfl (lv_at hl 1 rfl) ?_
      have b45 := bd_in hf
      replace hf := bd_k hf
      refine va_iald hx hb hK hP 3 2 rfl rfl b45 dX3_link_31 ?_
      refine lv_topi (fun x46 e46 => ?_)
      replace hf := nm_at hf e46
      refine lv_bipush (v := 6) hx hb dX3_link_32 (by decide +kernel) ?_
      refine lv_icmp_ne (tgt := 41) hx hb dX3_link_34 (by decide) (fun cq47 => ?_) (fun cq47 => ?_)
      · replace hf := if_no hf cq47
        refine lv_aload_n hx hb dX3_link_41 rfl (lv_at hl 0 rfl) ?_
        refine va_get (D := (dC, dI)) (ci := 3) (v := .ref h4) (C := RX3) (T := TX3) (N := 18) hx hb hts inlX3 hown hK hP 0 rfl rfl 17 (by decide) w2_ (fun _ h9 => h9) rfl dX3_link_42 ?_
        refine lv_iload_n hx hb dX3_link_45 rfl (lv_at hl 1 rfl) ?_
        have b48 := bd_in hf
        replace hf := bd_k hf
        refine va_iald hx hb hK hP 4 3 rfl rfl b48 dX3_link_46 ?_
        refine lv_topi (fun x49 e49 => ?_)
        replace hf := nm_at hf e49
        exact (hG _ _ _ _ _).mp (J47 k2 hk2 y1 x49 y1 c44x c5 c6 H locs ls (hP.sub [0, 1, 2, 3, 4, 5, 6, 7, 8] rfl) (hD.sub [0, 1, 2, 3, 4, 5, 6, 7, 8] (by decide) rfl) hS (lv_sub hl [0, 1] rfl) hf)
      · replace hf := if_at hf cq47
        refine lv_iconst (v := (-1)) hx hb dX3_link_37 (by decide +kernel) ?_
        refine lv_goto (tgt := 47) hx hb dX3_link_38 (by decide) ?_
        exact (hG _ _ _ _ _).mp (J47 k2 hk2 y1 (-1) y1 c44x c5 c6 H locs ls (hP.sub [0, 1, 2, 3, 4, 5, 6, 7, 8] rfl) (hD.sub [0, 1, 2, 3, 4, 5, 6, 7, 8] (by decide) rfl) hS (lv_sub hl [0, 1] rfl) hf)
  have L2 : ∀ (n : Nat), ∀ (y1 : Int32) (c4 : (Nat → Int32)) (c5 : (Nat → Int32)) (c6 : (Nat → Int32)) (H : Heap) (locs : List Loc) (ls : Array Slot), va_P (dC, dI) vwCl (wX3_link h0 h1 h2 h3 h4 h5 h6 h7 h8 kc1 kc2 kc3 kc4 kc5 kc6 kc7 kc8 V0 v0_statements c1 c2 c3 c4 c5 c6 c7 c8) H → va_D A (wX3_link h0 h1 h2 h3 h4 h5 h6 h7 h8 kc1 kc2 kc3 kc4 kc5 kc6 kc7 kc8 V0 v0_statements c1 c2 c3 c4 c5 c6 c7 c8) → va_S A s.heap H locs → lv_has ls 2 [(0, .ref h0), (1, .int y1)] → fX3_link_l2 v0_statements c1 c2 c3 c7 c8  n y1 c4 c5 c6 = some o → G 0 0 H locs (F0 m 2 ls []) := by
    intro  n
    induction n with
    | zero => intro y1 c4 c5 c6 H locs ls _ _ _ _ hf; cases hf
    | succ n ih => exact B2  _ ih
  refine (hG _ _ _ _ _).mpr ?_
  obtain ⟨H, hH⟩ : ∃ H, H = s.heap := ⟨_, rfl⟩
  have hS : va_S A s.heap H [] := by rw [hH]; exact hS
  rw [← hH] at hP ⊢
  generalize ([] : List Loc) = locs at hS ⊢
  unfold fX3_link at hf
  refine lv_iconst (v := 0) hx hb dX3_link_0 (by decide +kernel) ?_
  refine lv_istore_n (lv' := [(1, .int 0), (0, .ref h0)]) hx hb dX3_link_1 rfl hl (by decide) rfl (fun ls hl => ?_)
  exact (hG _ _ _ _ _).mp (L2 FU 0 c4 c5 c6 H locs ls (hP.sub [0, 1, 2, 3, 4, 5, 6, 7, 8] rfl) (hD.sub [0, 1, 2, 3, 4, 5, 6, 7, 8] (by decide) rfl) hS (lv_sub hl [1, 0] rfl) hf)
abbrev wX3_pointAfter (h0 h1 h2 : Nat) (kc1 kc2 : ClassId) (V0 : Nat → Value) (c1 : Nat → Int32) (c2 : Nat → Int32) : va_W := [(h0, .inr (3, [V0 0, V0 1, V0 2, V0 3, V0 4, V0 5, V0 6, V0 7, V0 8, V0 9, V0 10, .ref h1, .ref h2, V0 13, V0 14, V0 15, V0 16, V0 17])), (h1, .inl (kc1, 40, .inl c1)), (h2, .inl (kc2, 40, .inl c2))]
set_option maxHeartbeats 4000000 in
set_option maxRecDepth 100000 in
theorem mX3_pointAfter (l : Launch) (dC : Nat → ClassId) (dI : Nat → Nat → Nat) (h0 h1 h2 : Nat) (kc1 kc2 : ClassId) (sz : Nat) (base : Nat × Nat × Nat) (a0 : Int32) (a1 : Int32) (c1 : Nat → Int32) (c2 : Nat → Int32) (V0 : Nat → Value) (o : Int32 × Unit) (hf : fX3_pointAfter a0 a1 c1 c2 = some o) : Met l yX3_pointAfter (.code yX3_pointAfter cX3_pointAfter 3 (some .int) :: wsL_law) ({ frames := 0, cells := 0, slots := 0, locals := 0 }) (cPre (dC, dI) vwCl [.ref h0, .int a0, .int a1] sz base (wX3_pointAfter h0 h1 h2 kc1 kc2 V0 c1 c2) [(kc1, .int), (kc2, .int)]) (va_Qi (fun r u => r = o.1 ∧ u = o.2) (fun (u : Unit) t => cPost (dC, dI) vwCl (va_A (wX3_pointAfter h0 h1 h2 kc1 kc2 V0 c1 c2) sz) (wX3_pointAfter h0 h1 h2 kc1 kc2 V0 c1 c2) [(kc1, .int), (kc2, .int)] t) (va_A (wX3_pointAfter h0 h1 h2 kc1 kc2 V0 c1 c2) sz)) 0 0 (va_A (wX3_pointAfter h0 h1 h2 kc1 kc2 V0 c1 c2) sz) := by
  refine Met.ofW (cc := cX3_pointAfter) (maxL := 3) (ret := (some .int)) (by decide) rfl ?_
  intro p e s m args below meth c s₁ B hml hv
  obtain ⟨rfl, hsz, hP, hK, hD0, hE⟩ := hv
  have hx := B.exec
  have hb := B.bytes
  have hr := B.returns
  have hts : ∀ w ∈ wsL_law, _ := fun w h => atoms_spec (ws := .code yX3_pointAfter cX3_pointAfter 3 (some .int) :: wsL_law) B.pre w (List.mem_cons_of_mem _ h)
  have hown : s.vm.findClass RX3 = some m.cls := findClass_of_methodNamed B.named
  have hlocks := B.notSynchronized
  have w0_ := hts _ q58
  have w1_ := hts _ q57
  subst hsz
  have hD := hD0.self (sz := s.heap.size)
  generalize hAe : va_A (wX3_pointAfter h0 h1 h2 kc1 kc2 V0 c1 c2) s.heap.size = A at hD ⊢
  have hA : ∀ q : Nat, s.heap.size ≤ q → A q := fun q h => by rw [← hAe]; exact Or.inr h
  have hAB : ∀ q : Nat, A q → base.1 ≤ q := fun q h => by rw [← hAe] at h; exact h.elim (fun ⟨k, e, hk⟩ => hD0.2 k _ hk) (fun hk => Nat.le_trans hE.1 hk)
  have hS : va_S A s.heap s.heap [] := va_S.rf
  have hl := lv_entry ([.ref h0, .int a0, .int a1]) (n := 3) (Nat.le_of_ble_eq_true rfl)
  rw [lg_entry_eq]
  generalize (lg_sl ([.ref h0, .int a0, .int a1]) ++ List.replicate (3 - (lg_sl ([.ref h0, .int a0, .int a1])).length) Slot.unset).toArray = ls at hl ⊢
  have hl : lv_has ls 3 [(0, .ref h0), (1, .int a0), (2, .int a1)] := hl
  have hP : va_P (dC, dI) vwCl (wX3_pointAfter h0 h1 h2 kc1 kc2 V0 c1 c2) s.heap := hP
  refine gl_intro (fun G hG => ?_)
  have J19 : ∀ (z0 : Int32) (H : Heap) (locs : List Loc) (ls : Array Slot), va_P (dC, dI) vwCl (wX3_pointAfter h0 h1 h2 kc1 kc2 V0 c1 c2) H → va_D A (wX3_pointAfter h0 h1 h2 kc1 kc2 V0 c1 c2) → va_S A s.heap H locs → lv_has ls 3 [(0, .ref h0)] → fX3_pointAfter_p19 c1 c2  z0 = some o → G 0 0 H locs (F0 m 19 ls [.int z0]) := by
    intro  z0 H locs ls hP hD hS hl hf
    refine (hG _ _ _ _ _).mpr ?_
    unfold fX3_pointAfter_p19 at hf
    have hf1 := Option.some.inj hf
    subst hf1
    have hP9 := hP.sub (ws' := (wX3_pointAfter h0 h1 h2 kc1 kc2 V0 c1 c2)) [0, 1, 2] rfl
    have hD9 := hD.sub (ws' := (wX3_pointAfter h0 h1 h2 kc1 kc2 V0 c1 c2)) [0, 1, 2] (by decide) rfl
    exact W.iret (v := z0) hx hb hr (fun t ht hW => ⟨⟨z0, (), rfl, ⟨rfl, rfl⟩, by rw [ht]; exact hP9, va_K.moved hW.alike hK, hD9⟩, hS.F ht⟩) hS.2.2 dX3_pointAfter_19
  refine (hG _ _ _ _ _).mpr ?_
  obtain ⟨H, hH⟩ : ∃ H, H = s.heap := ⟨_, rfl⟩
  have hS : va_S A s.heap H [] := by rw [hH]; exact hS
  rw [← hH] at hP ⊢
  generalize ([] : List Loc) = locs at hS ⊢
  unfold fX3_pointAfter at hf
  refine lv_iload_n hx hb dX3_pointAfter_0 rfl (lv_at hl 2 rfl) ?_
  refine lv_if_ne (tgt := 13) hx hb dX3_pointAfter_1 (by decide) (fun cq1 => ?_) (fun cq1 => ?_)
  · replace hf := if_no hf cq1
    refine lv_aload_n hx hb dX3_pointAfter_13 rfl (lv_at hl 0 rfl) ?_
    refine va_get (D := (dC, dI)) (ci := 3) (v := .ref h2) (C := RX3) (T := TX3) (N := 18) hx hb hts inlX3 hown hK hP 0 rfl rfl 12 (by decide) w0_ (fun _ h9 => h9) rfl dX3_pointAfter_14 ?_
    refine lv_iload_n hx hb dX3_pointAfter_17 rfl (lv_at hl 1 rfl) ?_
    have b2 := bd_in hf
    replace hf := bd_k hf
    refine va_iald hx hb hK hP 2 1 rfl rfl b2 dX3_pointAfter_18 ?_
    refine lv_topi (fun x3 e3 => ?_)
    replace hf := nm_at hf e3
    exact (hG _ _ _ _ _).mp (J19 x3 H locs ls (hP.sub [0, 1, 2] rfl) (hD.sub [0, 1, 2] (by decide) rfl) hS (lv_sub hl [0] rfl) hf)
  · replace hf := if_at hf cq1
    refine lv_aload_n hx hb dX3_pointAfter_4 rfl (lv_at hl 0 rfl) ?_
    refine va_get (D := (dC, dI)) (ci := 3) (v := .ref h1) (C := RX3) (T := TX3) (N := 18) hx hb hts inlX3 hown hK hP 0 rfl rfl 11 (by decide) w1_ (fun _ h9 => h9) rfl dX3_pointAfter_5 ?_
    refine lv_iload_n hx hb dX3_pointAfter_8 rfl (lv_at hl 1 rfl) ?_
    have b4 := bd_in hf
    replace hf := bd_k hf
    refine va_iald hx hb hK hP 1 0 rfl rfl b4 dX3_pointAfter_9 ?_
    refine lv_topi (fun x5 e5 => ?_)
    replace hf := nm_at hf e5
    refine lv_goto (tgt := 19) hx hb dX3_pointAfter_10 (by decide) ?_
    exact (hG _ _ _ _ _).mp (J19 x5 H locs ls (hP.sub [0, 1, 2] rfl) (hD.sub [0, 1, 2] (by decide) rfl) hS (lv_sub hl [0] rfl) hf)
set_option maxHeartbeats 4000000 in
set_option maxRecDepth 100000 in
theorem mX3_removeAll (l : Launch) (dC : Nat → ClassId) (dI : Nat → Nat → Nat) (h0 : Nat) (sz : Nat) (base : Nat × Nat × Nat) (v0_isThere : Int32) (v0_globals : Int32) (v0_procedures : Int32) (v0_statements : Int32) (V0 : Nat → Value) (o : Int32 × Int32 × Int32 × Int32) (hf : fX3_removeAll v0_isThere v0_globals v0_procedures v0_statements = some o) : Met l yX3_removeAll (.code yX3_removeAll cX3_removeAll 1 none :: wsL_law) ({ frames := 0, cells := 0, slots := 0, locals := 0 }) (cPre (dC, dI) vwCl [.ref h0] sz base [(h0, .inr (3, [.int v0_isThere, .int v0_globals, .int v0_procedures, .int v0_statements, V0 4, V0 5, V0 6, V0 7, V0 8, V0 9, V0 10, V0 11, V0 12, V0 13, V0 14, V0 15, V0 16, V0 17]))] []) (va_Qv (fun u => u = o) (fun (u : Int32 × Int32 × Int32 × Int32) t => cPost (dC, dI) vwCl (va_A [(h0, .inr (3, [.int v0_isThere, .int v0_globals, .int v0_procedures, .int v0_statements, V0 4, V0 5, V0 6, V0 7, V0 8, V0 9, V0 10, V0 11, V0 12, V0 13, V0 14, V0 15, V0 16, V0 17]))] sz) [(h0, .inr (3, [.int u.1, .int u.2.1, .int u.2.2.1, .int u.2.2.2, V0 4, V0 5, V0 6, V0 7, V0 8, V0 9, V0 10, V0 11, V0 12, V0 13, V0 14, V0 15, V0 16, V0 17]))] [] t) (va_A [(h0, .inr (3, [.int v0_isThere, .int v0_globals, .int v0_procedures, .int v0_statements, V0 4, V0 5, V0 6, V0 7, V0 8, V0 9, V0 10, V0 11, V0 12, V0 13, V0 14, V0 15, V0 16, V0 17]))] sz)) 0 0 (va_A [(h0, .inr (3, [.int v0_isThere, .int v0_globals, .int v0_procedures, .int v0_statements, V0 4, V0 5, V0 6, V0 7, V0 8, V0 9, V0 10, V0 11, V0 12, V0 13, V0 14, V0 15, V0 16, V0 17]))] sz) := by
  refine Met.ofW (cc := cX3_removeAll) (maxL := 1) (ret := none) (by decide) rfl ?_
  intro p e s m args below meth c s₁ B hml hv
  obtain ⟨rfl, hsz, hP, hK, hD0, hE⟩ := hv
  have hx := B.exec
  have hb := B.bytes
  have hr := B.returns
  have hts : ∀ w ∈ wsL_law, _ := fun w h => atoms_spec (ws := .code yX3_removeAll cX3_removeAll 1 none :: wsL_law) B.pre w (List.mem_cons_of_mem _ h)
  have hown : s.vm.findClass RX3 = some m.cls := findClass_of_methodNamed B.named
  have hlocks := B.notSynchronized
  have w0_ := hts _ q551
  have w1_ := hts _ q552
  have w2_ := hts _ q553
  have w3_ := hts _ q554
  subst hsz
  have hD := hD0.self (sz := s.heap.size)
  generalize hAe : va_A [(h0, .inr (3, [.int v0_isThere, .int v0_globals, .int v0_procedures, .int v0_statements, V0 4, V0 5, V0 6, V0 7, V0 8, V0 9, V0 10, V0 11, V0 12, V0 13, V0 14, V0 15, V0 16, V0 17]))] s.heap.size = A at hD ⊢
  have hA : ∀ q : Nat, s.heap.size ≤ q → A q := fun q h => by rw [← hAe]; exact Or.inr h
  have hAB : ∀ q : Nat, A q → base.1 ≤ q := fun q h => by rw [← hAe] at h; exact h.elim (fun ⟨k, e, hk⟩ => hD0.2 k _ hk) (fun hk => Nat.le_trans hE.1 hk)
  have hS : va_S A s.heap s.heap [] := va_S.rf
  have hl := lv_entry ([.ref h0]) (n := 1) (Nat.le_of_ble_eq_true rfl)
  rw [lg_entry_eq]
  generalize (lg_sl ([.ref h0]) ++ List.replicate (1 - (lg_sl ([.ref h0])).length) Slot.unset).toArray = ls at hl ⊢
  have hl : lv_has ls 1 [(0, .ref h0)] := hl
  have hP : va_P (dC, dI) vwCl [(h0, .inr (3, [.int v0_isThere, .int v0_globals, .int v0_procedures, .int v0_statements, V0 4, V0 5, V0 6, V0 7, V0 8, V0 9, V0 10, V0 11, V0 12, V0 13, V0 14, V0 15, V0 16, V0 17]))] s.heap := hP
  obtain ⟨H, hH⟩ : ∃ H, H = s.heap := ⟨_, rfl⟩
  have hS : va_S A s.heap H [] := by rw [hH]; exact hS
  rw [← hH] at hP ⊢
  generalize ([] : List Loc) = locs at hS ⊢
  unfold fX3_removeAll at hf
  refine lv_aload_n hx hb dX3_removeAll_0 rfl (lv_at hl 0 rfl) ?_
  refine lv_iconst (v := 0) hx hb dX3_removeAll_1 (by decide +kernel) ?_
  refine va_put (D := (dC, dI)) (ci := 3) (v := .int 0) (ty := .boolean) (C := RX3) (T := TX3) (N := 18) hx hb hts inlX3 tyX3 tyX3_ok nmX3 hown hK hP hD hS 0 rfl rfl 0 (by decide) w0_ (fun _ h9 => h9) rfl (by decide +kernel) rfl rfl (Nat.le_of_ble_eq_true rfl) dX3_removeAll_2 (fun H locs hP hD hS => ?_)
  have hP : va_P (dC, dI) vwCl [(h0, .inr (3, [.int 0, .int v0_globals, .int v0_procedures, .int v0_statements, V0 4, V0 5, V0 6, V0 7, V0 8, V0 9, V0 10, V0 11, V0 12, V0 13, V0 14, V0 15, V0 16, V0 17]))] H := hP
  have hD : va_D A [(h0, .inr (3, [.int 0, .int v0_globals, .int v0_procedures, .int v0_statements, V0 4, V0 5, V0 6, V0 7, V0 8, V0 9, V0 10, V0 11, V0 12, V0 13, V0 14, V0 15, V0 16, V0 17]))] := hD
  refine lv_aload_n hx hb dX3_removeAll_5 rfl (lv_at hl 0 rfl) ?_
  refine lv_iconst (v := 0) hx hb dX3_removeAll_6 (by decide +kernel) ?_
  refine va_put (D := (dC, dI)) (ci := 3) (v := .int 0) (ty := .int) (C := RX3) (T := TX3) (N := 18) hx hb hts inlX3 tyX3 tyX3_ok nmX3 hown hK hP hD hS 0 rfl rfl 1 (by decide) w1_ (fun _ h9 => h9) rfl (by decide +kernel) rfl rfl (Nat.le_of_ble_eq_true rfl) dX3_removeAll_7 (fun H locs hP hD hS => ?_)
  have hP : va_P (dC, dI) vwCl [(h0, .inr (3, [.int 0, .int 0, .int v0_procedures, .int v0_statements, V0 4, V0 5, V0 6, V0 7, V0 8, V0 9, V0 10, V0 11, V0 12, V0 13, V0 14, V0 15, V0 16, V0 17]))] H := hP
  have hD : va_D A [(h0, .inr (3, [.int 0, .int 0, .int v0_procedures, .int v0_statements, V0 4, V0 5, V0 6, V0 7, V0 8, V0 9, V0 10, V0 11, V0 12, V0 13, V0 14, V0 15, V0 16, V0 17]))] := hD
  refine lv_aload_n hx hb dX3_removeAll_10 rfl (lv_at hl 0 rfl) ?_
  refine lv_iconst (v := 0) hx hb dX3_removeAll_11 (by decide +kernel) ?_
  refine va_put (D := (dC, dI)) (ci := 3) (v := .int 0) (ty := .int) (C := RX3) (T := TX3) (N := 18) hx hb hts inlX3 tyX3 tyX3_ok nmX3 hown hK hP hD hS 0 rfl rfl 2 (by decide) w2_ (fun _ h9 => h9) rfl (by decide +kernel) rfl rfl (Nat.le_of_ble_eq_true rfl) dX3_removeAll_12 (fun H locs hP hD hS => ?_)
  have hP : va_P (dC, dI) vwCl [(h0, .inr (3, [.int 0, .int 0, .int 0, .int v0_statements, V0 4, V0 5, V0 6, V0 7, V0 8, V0 9, V0 10, V0 11, V0 12, V0 13, V0 14, V0 15, V0 16, V0 17]))] H := hP
  have hD : va_D A [(h0, .inr (3, [.int 0, .int 0, .int 0, .int v0_statements, V0 4, V0 5, V0 6, V0 7, V0 8, V0 9, V0 10, V0 11, V0 12, V0 13, V0 14, V0 15, V0 16, V0 17]))] := hD
  refine lv_aload_n hx hb dX3_removeAll_15 rfl (lv_at hl 0 rfl) ?_
  refine lv_iconst (v := 0) hx hb dX3_removeAll_16 (by decide +kernel) ?_
  refine va_put (D := (dC, dI)) (ci := 3) (v := .int 0) (ty := .int) (C := RX3) (T := TX3) (N := 18) hx hb hts inlX3 tyX3 tyX3_ok nmX3 hown hK hP hD hS 0 rfl rfl 3 (by decide) w3_ (fun _ h9 => h9) rfl (by decide +kernel) rfl rfl (Nat.le_of_ble_eq_true rfl) dX3_removeAll_17 (fun H locs hP hD hS => ?_)
  have hP : va_P (dC, dI) vwCl [(h0, .inr (3, [.int 0, .int 0, .int 0, .int 0, V0 4, V0 5, V0 6, V0 7, V0 8, V0 9, V0 10, V0 11, V0 12, V0 13, V0 14, V0 15, V0 16, V0 17]))] H := hP
  have hD : va_D A [(h0, .inr (3, [.int 0, .int 0, .int 0, .int 0, V0 4, V0 5, V0 6, V0 7, V0 8, V0 9, V0 10, V0 11, V0 12, V0 13, V0 14, V0 15, V0 16, V0 17]))] := hD
  have hf1 := Option.some.inj hf
  subst hf1
  have hP9 := hP.sub (ws' := [(h0, .inr (3, [.int 0, .int 0, .int 0, .int 0, V0 4, V0 5, V0 6, V0 7, V0 8, V0 9, V0 10, V0 11, V0 12, V0 13, V0 14, V0 15, V0 16, V0 17]))]) [0] rfl
  have hD9 := hD.sub (ws' := [(h0, .inr (3, [.int 0, .int 0, .int 0, .int 0, V0 4, V0 5, V0 6, V0 7, V0 8, V0 9, V0 10, V0 11, V0 12, V0 13, V0 14, V0 15, V0 16, V0 17]))]) [0] (by decide) rfl
  exact W.vret hx hb hr (fun t ht hW => ⟨⟨(0, 0, 0, 0), rfl, rfl, by rw [ht]; exact hP9, va_K.moved hW.alike hK, hD9⟩, hS.F ht⟩) hS.2.2 dX3_removeAll_20
abbrev wX3_settingAfter (h0 h1 h2 : Nat) (kc1 kc2 : ClassId) (V0 : Nat → Value) (c1 : Nat → Int32) (c2 : Nat → Int32) : va_W := [(h0, .inr (3, [V0 0, V0 1, V0 2, V0 3, V0 4, .ref h1, V0 6, V0 7, V0 8, .ref h2, V0 10, V0 11, V0 12, V0 13, V0 14, V0 15, V0 16, V0 17])), (h1, .inl (kc1, 40, .inl c1)), (h2, .inl (kc2, 40, .inl c2))]
set_option maxHeartbeats 4000000 in
set_option maxRecDepth 100000 in
theorem mX3_settingAfter (l : Launch) (dC : Nat → ClassId) (dI : Nat → Nat → Nat) (h0 h1 h2 : Nat) (kc1 kc2 : ClassId) (sz : Nat) (base : Nat × Nat × Nat) (a0 : Int32) (a1 : Int32) (a2 : Int32) (c1 : Nat → Int32) (c2 : Nat → Int32) (V0 : Nat → Value) (o : Int32 × Unit) (hf : fX3_settingAfter a0 a1 a2 c1 c2 = some o) : Met l yX3_settingAfter (.code yX3_settingAfter cX3_settingAfter 5 (some .int) :: wsL_law) ({ frames := 0, cells := 0, slots := 0, locals := 0 }) (cPre (dC, dI) vwCl [.ref h0, .int a0, .int a1, .int a2] sz base (wX3_settingAfter h0 h1 h2 kc1 kc2 V0 c1 c2) [(kc1, .int), (kc2, .int)]) (va_Qi (fun r u => r = o.1 ∧ u = o.2) (fun (u : Unit) t => cPost (dC, dI) vwCl (va_A (wX3_settingAfter h0 h1 h2 kc1 kc2 V0 c1 c2) sz) (wX3_settingAfter h0 h1 h2 kc1 kc2 V0 c1 c2) [(kc1, .int), (kc2, .int)] t) (va_A (wX3_settingAfter h0 h1 h2 kc1 kc2 V0 c1 c2) sz)) 0 0 (va_A (wX3_settingAfter h0 h1 h2 kc1 kc2 V0 c1 c2) sz) := by
  refine Met.ofW (cc := cX3_settingAfter) (maxL := 5) (ret := (some .int)) (by decide) rfl ?_
  intro p e s m args below meth c s₁ B hml hv
  obtain ⟨rfl, hsz, hP, hK, hD0, hE⟩ := hv
  have hx := B.exec
  have hb := B.bytes
  have hr := B.returns
  have hts : ∀ w ∈ wsL_law, _ := fun w h => atoms_spec (ws := .code yX3_settingAfter cX3_settingAfter 5 (some .int) :: wsL_law) B.pre w (List.mem_cons_of_mem _ h)
  have hown : s.vm.findClass RX3 = some m.cls := findClass_of_methodNamed B.named
  have hlocks := B.notSynchronized
  have w0_ := hts _ q50
  have w1_ := hts _ q55
  subst hsz
  have hD := hD0.self (sz := s.heap.size)
  generalize hAe : va_A (wX3_settingAfter h0 h1 h2 kc1 kc2 V0 c1 c2) s.heap.size = A at hD ⊢
  have hA : ∀ q : Nat, s.heap.size ≤ q → A q := fun q h => by rw [← hAe]; exact Or.inr h
  have hAB : ∀ q : Nat, A q → base.1 ≤ q := fun q h => by rw [← hAe] at h; exact h.elim (fun ⟨k, e, hk⟩ => hD0.2 k _ hk) (fun hk => Nat.le_trans hE.1 hk)
  have hS : va_S A s.heap s.heap [] := va_S.rf
  have hl := lv_entry ([.ref h0, .int a0, .int a1, .int a2]) (n := 5) (Nat.le_of_ble_eq_true rfl)
  rw [lg_entry_eq]
  generalize (lg_sl ([.ref h0, .int a0, .int a1, .int a2]) ++ List.replicate (5 - (lg_sl ([.ref h0, .int a0, .int a1, .int a2])).length) Slot.unset).toArray = ls at hl ⊢
  have hl : lv_has ls 5 [(0, .ref h0), (1, .int a0), (2, .int a1), (3, .int a2)] := hl
  have hP : va_P (dC, dI) vwCl (wX3_settingAfter h0 h1 h2 kc1 kc2 V0 c1 c2) s.heap := hP
  refine gl_intro (fun G hG => ?_)
  have J38 : ∀ (z0 : Int32) (H : Heap) (locs : List Loc) (ls : Array Slot), va_P (dC, dI) vwCl (wX3_settingAfter h0 h1 h2 kc1 kc2 V0 c1 c2) H → va_D A (wX3_settingAfter h0 h1 h2 kc1 kc2 V0 c1 c2) → va_S A s.heap H locs → lv_has ls 5 [(0, .ref h0)] → fX3_settingAfter_p38 c1 c2  z0 = some o → G 0 0 H locs (F0 m 38 ls [.int z0]) := by
    intro  z0 H locs ls hP hD hS hl hf
    refine (hG _ _ _ _ _).mpr ?_
    unfold fX3_settingAfter_p38 at hf
    have hf1 := Option.some.inj hf
    subst hf1
    have hP9 := hP.sub (ws' := (wX3_settingAfter h0 h1 h2 kc1 kc2 V0 c1 c2)) [0, 1, 2] rfl
    have hD9 := hD.sub (ws' := (wX3_settingAfter h0 h1 h2 kc1 kc2 V0 c1 c2)) [0, 1, 2] (by decide) rfl
    exact W.iret (v := z0) hx hb hr (fun t ht hW => ⟨⟨z0, (), rfl, ⟨rfl, rfl⟩, by rw [ht]; exact hP9, va_K.moved hW.alike hK, hD9⟩, hS.F ht⟩) hS.2.2 dX3_settingAfter_38
  refine (hG _ _ _ _ _).mpr ?_
  obtain ⟨H, hH⟩ : ∃ H, H = s.heap := ⟨_, rfl⟩
  have hS : va_S A s.heap H [] := by rw [hH]; exact hS
  rw [← hH] at hP ⊢
  generalize ([] : List Loc) = locs at hS ⊢
  unfold fX3_settingAfter at hf
  refine lv_aload_n hx hb dX3_settingAfter_0 rfl (lv_at hl 0 rfl) ?_
  refine va_get (D := (dC, dI)) (ci := 3) (v := .ref h1) (C := RX3) (T := TX3) (N := 18) hx hb hts inlX3 hown hK hP 0 rfl rfl 5 (by decide) w0_ (fun _ h9 => h9) rfl dX3_settingAfter_1 ?_
  refine lv_iload_n hx hb dX3_settingAfter_4 rfl (lv_at hl 1 rfl) ?_
  have b1 := bd_in hf
  replace hf := bd_k hf
  refine va_iald hx hb hK hP 1 0 rfl rfl b1 dX3_settingAfter_5 ?_
  refine lv_topi (fun x2 e2 => ?_)
  replace hf := nm_at hf e2
  refine lv_if_eq (tgt := 11) hx hb dX3_settingAfter_6 (by decide) (fun cq3 => ?_) (fun cq3 => ?_)
  · replace hf := if_at hf cq3
    refine lv_iconst (v := 1) hx hb dX3_settingAfter_11 (by decide +kernel) ?_
    refine lv_aload_n hx hb dX3_settingAfter_12 rfl (lv_at hl 0 rfl) ?_
    refine va_get (D := (dC, dI)) (ci := 3) (v := .ref h2) (C := RX3) (T := TX3) (N := 18) hx hb hts inlX3 hown hK hP 0 rfl rfl 9 (by decide) w1_ (fun _ h9 => h9) rfl dX3_settingAfter_13 ?_
    refine lv_iload_n hx hb dX3_settingAfter_16 rfl (lv_at hl 1 rfl) ?_
    have b4 := bd_in hf
    replace hf := bd_k hf
    refine va_iald hx hb hK hP 2 1 rfl rfl b4 dX3_settingAfter_17 ?_
    refine lv_topi (fun x5 e5 => ?_)
    replace hf := nm_at hf e5
    refine lv_ishl hx hb dX3_settingAfter_18 ?_
    refine lv_topi (fun x6 e6 => ?_)
    replace hf := nm_at hf e6
    refine lv_istore (lv' := [(4, .int x6), (0, .ref h0), (1, .int a0), (2, .int a1), (3, .int a2)]) hx hb dX3_settingAfter_19 hl (by decide) rfl (fun ls hl => ?_)
    refine lv_iload_n hx hb dX3_settingAfter_21 rfl (lv_at hl 4 rfl) ?_
    refine lv_if_ne (tgt := 34) hx hb dX3_settingAfter_22 (by decide) (fun cq7 => ?_) (fun cq7 => ?_)
    · replace hf := if_no hf cq7
      refine lv_iload_n hx hb dX3_settingAfter_34 rfl (lv_at hl 3 rfl) ?_
      refine lv_iload hx hb dX3_settingAfter_35 (lv_at hl 0 rfl) ?_
      refine lv_ior hx hb dX3_settingAfter_37 ?_
      refine lv_topi (fun x8 e8 => ?_)
      replace hf := nm_at hf e8
      exact (hG _ _ _ _ _).mp (J38 x8 H locs ls (hP.sub [0, 1, 2] rfl) (hD.sub [0, 1, 2] (by decide) rfl) hS (lv_sub hl [1] rfl) hf)
    · replace hf := if_at hf cq7
      refine lv_iload_n hx hb dX3_settingAfter_25 rfl (lv_at hl 3 rfl) ?_
      refine lv_iload hx hb dX3_settingAfter_26 (lv_at hl 0 rfl) ?_
      refine lv_iconst (v := (-1)) hx hb dX3_settingAfter_28 (by decide +kernel) ?_
      refine lv_ixor hx hb dX3_settingAfter_29 ?_
      refine lv_topi (fun x9 e9 => ?_)
      replace hf := nm_at hf e9
      refine lv_iand hx hb dX3_settingAfter_30 ?_
      refine lv_topi (fun x10 e10 => ?_)
      replace hf := nm_at hf e10
      refine lv_goto (tgt := 38) hx hb dX3_settingAfter_31 (by decide) ?_
      exact (hG _ _ _ _ _).mp (J38 x10 H locs ls (hP.sub [0, 1, 2] rfl) (hD.sub [0, 1, 2] (by decide) rfl) hS (lv_sub hl [1] rfl) hf)
  · replace hf := if_no hf cq3
    refine lv_iload_n hx hb dX3_settingAfter_9 rfl (lv_at hl 2 rfl) ?_
    have hf1 := Option.some.inj hf
    subst hf1
    have hP9 := hP.sub (ws' := (wX3_settingAfter h0 h1 h2 kc1 kc2 V0 c1 c2)) [0, 1, 2] rfl
    have hD9 := hD.sub (ws' := (wX3_settingAfter h0 h1 h2 kc1 kc2 V0 c1 c2)) [0, 1, 2] (by decide) rfl
    exact W.iret (v := a1) hx hb hr (fun t ht hW => ⟨⟨a1, (), rfl, ⟨rfl, rfl⟩, by rw [ht]; exact hP9, va_K.moved hW.alike hK, hD9⟩, hS.F ht⟩) hS.2.2 dX3_settingAfter_10
abbrev wX3_settingsFor (h0 h1 : Nat) (kc1 : ClassId) (V0 : Nat → Value) (c1 : Nat → Int64) : va_W := [(h0, .inr (3, [V0 0, V0 1, V0 2, V0 3, V0 4, V0 5, V0 6, V0 7, .ref h1, V0 9, V0 10, V0 11, V0 12, V0 13, V0 14, V0 15, V0 16, V0 17])), (h1, .inl (kc1, 40, .inr (.inl c1)))]
set_option maxHeartbeats 4000000 in
set_option maxRecDepth 100000 in
theorem mX3_settingsFor (l : Launch) (dC : Nat → ClassId) (dI : Nat → Nat → Nat) (h0 h1 : Nat) (kc1 : ClassId) (sz : Nat) (base : Nat × Nat × Nat) (a0 : Int32) (a1 : Int32) (c1 : Nat → Int64) (V0 : Nat → Value) (o : Int32 × Unit) (hf : fX3_settingsFor a0 a1 c1 = some o) : Met l yX3_settingsFor (.code yX3_settingsFor cX3_settingsFor 3 (some .int) :: wsL_law) ({ frames := 0, cells := 0, slots := 0, locals := 0 }) (cPre (dC, dI) vwCl [.ref h0, .int a0, .int a1] sz base (wX3_settingsFor h0 h1 kc1 V0 c1) [(kc1, .long)]) (va_Qi (fun r u => r = o.1 ∧ u = o.2) (fun (u : Unit) t => cPost (dC, dI) vwCl (va_A (wX3_settingsFor h0 h1 kc1 V0 c1) sz) (wX3_settingsFor h0 h1 kc1 V0 c1) [(kc1, .long)] t) (va_A (wX3_settingsFor h0 h1 kc1 V0 c1) sz)) 0 0 (va_A (wX3_settingsFor h0 h1 kc1 V0 c1) sz) := by
  refine Met.ofW (cc := cX3_settingsFor) (maxL := 3) (ret := (some .int)) (by decide) rfl ?_
  intro p e s m args below meth c s₁ B hml hv
  obtain ⟨rfl, hsz, hP, hK, hD0, hE⟩ := hv
  have hx := B.exec
  have hb := B.bytes
  have hr := B.returns
  have hts : ∀ w ∈ wsL_law, _ := fun w h => atoms_spec (ws := .code yX3_settingsFor cX3_settingsFor 3 (some .int) :: wsL_law) B.pre w (List.mem_cons_of_mem _ h)
  have hown : s.vm.findClass RX3 = some m.cls := findClass_of_methodNamed B.named
  have hlocks := B.notSynchronized
  have w0_ := hts _ q54
  subst hsz
  have hD := hD0.self (sz := s.heap.size)
  generalize hAe : va_A (wX3_settingsFor h0 h1 kc1 V0 c1) s.heap.size = A at hD ⊢
  have hA : ∀ q : Nat, s.heap.size ≤ q → A q := fun q h => by rw [← hAe]; exact Or.inr h
  have hAB : ∀ q : Nat, A q → base.1 ≤ q := fun q h => by rw [← hAe] at h; exact h.elim (fun ⟨k, e, hk⟩ => hD0.2 k _ hk) (fun hk => Nat.le_trans hE.1 hk)
  have hS : va_S A s.heap s.heap [] := va_S.rf
  have hl := lv_entry ([.ref h0, .int a0, .int a1]) (n := 3) (Nat.le_of_ble_eq_true rfl)
  rw [lg_entry_eq]
  generalize (lg_sl ([.ref h0, .int a0, .int a1]) ++ List.replicate (3 - (lg_sl ([.ref h0, .int a0, .int a1])).length) Slot.unset).toArray = ls at hl ⊢
  have hl : lv_has ls 3 [(0, .ref h0), (1, .int a0), (2, .int a1)] := hl
  have hP : va_P (dC, dI) vwCl (wX3_settingsFor h0 h1 kc1 V0 c1) s.heap := hP
  refine gl_intro (fun G hG => ?_)
  have J22 : ∀ (z0 : Int64) (H : Heap) (locs : List Loc) (ls : Array Slot), va_P (dC, dI) vwCl (wX3_settingsFor h0 h1 kc1 V0 c1) H → va_D A (wX3_settingsFor h0 h1 kc1 V0 c1) → va_S A s.heap H locs → lv_has ls 3 [(0, .ref h0)] → fX3_settingsFor_p22 c1  z0 = some o → G 0 0 H locs (F0 m 22 ls [.long z0]) := by
    intro  z0 H locs ls hP hD hS hl hf
    refine (hG _ _ _ _ _).mpr ?_
    unfold fX3_settingsFor_p22 at hf
    refine lv_l2i hx hb dX3_settingsFor_22 rfl ?_
    refine lv_topi (fun x1 e1 => ?_)
    replace hf := nm_at hf e1
    have hf1 := Option.some.inj hf
    subst hf1
    have hP9 := hP.sub (ws' := (wX3_settingsFor h0 h1 kc1 V0 c1)) [0, 1] rfl
    have hD9 := hD.sub (ws' := (wX3_settingsFor h0 h1 kc1 V0 c1)) [0, 1] (by decide) rfl
    exact W.iret (v := x1) hx hb hr (fun t ht hW => ⟨⟨x1, (), rfl, ⟨rfl, rfl⟩, by rw [ht]; exact hP9, va_K.moved hW.alike hK, hD9⟩, hS.F ht⟩) hS.2.2 dX3_settingsFor_23
  refine (hG _ _ _ _ _).mpr ?_
  obtain ⟨H, hH⟩ : ∃ H, H = s.heap := ⟨_, rfl⟩
  have hS : va_S A s.heap H [] := by rw [hH]; exact hS
  rw [← hH] at hP ⊢
  generalize ([] : List Loc) = locs at hS ⊢
  unfold fX3_settingsFor at hf
  refine lv_iload_n hx hb dX3_settingsFor_0 rfl (lv_at hl 2 rfl) ?_
  refine lv_if_ne (tgt := 13) hx hb dX3_settingsFor_1 (by decide) (fun cq2 => ?_) (fun cq2 => ?_)
  · replace hf := if_no hf cq2
    refine lv_aload_n hx hb dX3_settingsFor_13 rfl (lv_at hl 0 rfl) ?_
    refine va_get (D := (dC, dI)) (ci := 3) (v := .ref h1) (C := RX3) (T := TX3) (N := 18) hx hb hts inlX3 hown hK hP 0 rfl rfl 8 (by decide) w0_ (fun _ h9 => h9) rfl dX3_settingsFor_14 ?_
    refine lv_iload_n hx hb dX3_settingsFor_17 rfl (lv_at hl 1 rfl) ?_
    have b3 := bd_in hf
    replace hf := bd_k hf
    refine va_lald hx hb hK hP 1 0 rfl rfl b3 dX3_settingsFor_18 ?_
    refine lv_topl (fun x4 e4 => ?_)
    replace hf := nm_at hf e4
    refine lv_bipush (v := 32) hx hb dX3_settingsFor_19 (by decide +kernel) ?_
    refine lv_lushr hx hb dX3_settingsFor_21 rfl ?_
    refine lv_topl (fun x5 e5 => ?_)
    replace hf := nm_at hf e5
    exact (hG _ _ _ _ _).mp (J22 x5 H locs ls (hP.sub [0, 1] rfl) (hD.sub [0, 1] (by decide) rfl) hS (lv_sub hl [0] rfl) hf)
  · replace hf := if_at hf cq2
    refine lv_aload_n hx hb dX3_settingsFor_4 rfl (lv_at hl 0 rfl) ?_
    refine va_get (D := (dC, dI)) (ci := 3) (v := .ref h1) (C := RX3) (T := TX3) (N := 18) hx hb hts inlX3 hown hK hP 0 rfl rfl 8 (by decide) w0_ (fun _ h9 => h9) rfl dX3_settingsFor_5 ?_
    refine lv_iload_n hx hb dX3_settingsFor_8 rfl (lv_at hl 1 rfl) ?_
    have b6 := bd_in hf
    replace hf := bd_k hf
    refine va_lald hx hb hK hP 1 0 rfl rfl b6 dX3_settingsFor_9 ?_
    refine lv_topl (fun x7 e7 => ?_)
    replace hf := nm_at hf e7
    refine lv_goto (tgt := 22) hx hb dX3_settingsFor_10 (by decide) ?_
    exact (hG _ _ _ _ _).mp (J22 x7 H locs ls (hP.sub [0, 1] rfl) (hD.sub [0, 1] (by decide) rfl) hS (lv_sub hl [0] rfl) hf)
abbrev wX3_takesValue (h0 h1 : Nat) (kc1 : ClassId) (V0 : Nat → Value) (c1 : Nat → Int32) : va_W := [(h0, .inr (3, [V0 0, V0 1, V0 2, V0 3, V0 4, .ref h1, V0 6, V0 7, V0 8, V0 9, V0 10, V0 11, V0 12, V0 13, V0 14, V0 15, V0 16, V0 17])), (h1, .inl (kc1, 40, .inl c1))]
set_option maxHeartbeats 4000000 in
set_option maxRecDepth 100000 in
theorem mX3_takesValue (l : Launch) (dC : Nat → ClassId) (dI : Nat → Nat → Nat) (h0 h1 : Nat) (kc1 : ClassId) (sz : Nat) (base : Nat × Nat × Nat) (a0 : Int32) (c1 : Nat → Int32) (V0 : Nat → Value) (o : Int32 × Unit) (hf : fX3_takesValue a0 c1 = some o) : Met l yX3_takesValue (.code yX3_takesValue cX3_takesValue 2 (some .boolean) :: wsL_law) ({ frames := 0, cells := 0, slots := 0, locals := 0 }) (cPre (dC, dI) vwCl [.ref h0, .int a0] sz base (wX3_takesValue h0 h1 kc1 V0 c1) [(kc1, .int)]) (va_Qi (fun r u => r = o.1 ∧ u = o.2) (fun (u : Unit) t => cPost (dC, dI) vwCl (va_A (wX3_takesValue h0 h1 kc1 V0 c1) sz) (wX3_takesValue h0 h1 kc1 V0 c1) [(kc1, .int)] t) (va_A (wX3_takesValue h0 h1 kc1 V0 c1) sz)) 0 0 (va_A (wX3_takesValue h0 h1 kc1 V0 c1) sz) := by
  refine Met.ofW (cc := cX3_takesValue) (maxL := 2) (ret := (some .boolean)) (by decide) rfl ?_
  intro p e s m args below meth c s₁ B hml hv
  obtain ⟨rfl, hsz, hP, hK, hD0, hE⟩ := hv
  have hx := B.exec
  have hb := B.bytes
  have hr := B.returns
  have hts : ∀ w ∈ wsL_law, _ := fun w h => atoms_spec (ws := .code yX3_takesValue cX3_takesValue 2 (some .boolean) :: wsL_law) B.pre w (List.mem_cons_of_mem _ h)
  have hown : s.vm.findClass RX3 = some m.cls := findClass_of_methodNamed B.named
  have hlocks := B.notSynchronized
  have w0_ := hts _ q50
  subst hsz
  have hD := hD0.self (sz := s.heap.size)
  generalize hAe : va_A (wX3_takesValue h0 h1 kc1 V0 c1) s.heap.size = A at hD ⊢
  have hA : ∀ q : Nat, s.heap.size ≤ q → A q := fun q h => by rw [← hAe]; exact Or.inr h
  have hAB : ∀ q : Nat, A q → base.1 ≤ q := fun q h => by rw [← hAe] at h; exact h.elim (fun ⟨k, e, hk⟩ => hD0.2 k _ hk) (fun hk => Nat.le_trans hE.1 hk)
  have hS : va_S A s.heap s.heap [] := va_S.rf
  have hl := lv_entry ([.ref h0, .int a0]) (n := 2) (Nat.le_of_ble_eq_true rfl)
  rw [lg_entry_eq]
  generalize (lg_sl ([.ref h0, .int a0]) ++ List.replicate (2 - (lg_sl ([.ref h0, .int a0])).length) Slot.unset).toArray = ls at hl ⊢
  have hl : lv_has ls 2 [(0, .ref h0), (1, .int a0)] := hl
  have hP : va_P (dC, dI) vwCl (wX3_takesValue h0 h1 kc1 V0 c1) s.heap := hP
  refine gl_intro (fun G hG => ?_)
  have J25 : ∀ (z0 : Int32) (H : Heap) (locs : List Loc) (ls : Array Slot), va_P (dC, dI) vwCl (wX3_takesValue h0 h1 kc1 V0 c1) H → va_D A (wX3_takesValue h0 h1 kc1 V0 c1) → va_S A s.heap H locs → lv_has ls 2 [(0, .ref h0)] → fX3_takesValue_p25 c1  z0 = some o → G 0 0 H locs (F0 m 25 ls [.int z0]) := by
    intro  z0 H locs ls hP hD hS hl hf
    refine (hG _ _ _ _ _).mpr ?_
    unfold fX3_takesValue_p25 at hf
    have b1 := bd_b hf
    replace hf := bd_k hf
    have hf1 := Option.some.inj hf
    subst hf1
    have hP9 := hP.sub (ws' := (wX3_takesValue h0 h1 kc1 V0 c1)) [0, 1] rfl
    have hD9 := hD.sub (ws' := (wX3_takesValue h0 h1 kc1 V0 c1)) [0, 1] (by decide) rfl
    exact W.zret (v := z0) (ty := .boolean) hx hb hr (bz_nar b1) (fun t ht hW => ⟨⟨z0, (), rfl, ⟨rfl, rfl⟩, by rw [ht]; exact hP9, va_K.moved hW.alike hK, hD9⟩, hS.F ht⟩) hS.2.2 dX3_takesValue_25
  have J24 : ∀ (H : Heap) (locs : List Loc) (ls : Array Slot), va_P (dC, dI) vwCl (wX3_takesValue h0 h1 kc1 V0 c1) H → va_D A (wX3_takesValue h0 h1 kc1 V0 c1) → va_S A s.heap H locs → lv_has ls 2 [(0, .ref h0)] → fX3_takesValue_p24 c1   = some o → G 0 0 H locs (F0 m 24 ls []) := by
    intro   H locs ls hP hD hS hl hf
    refine (hG _ _ _ _ _).mpr ?_
    unfold fX3_takesValue_p24 at hf
    refine lv_iconst (v := 0) hx hb dX3_takesValue_24 (by decide +kernel) ?_
    exact (hG _ _ _ _ _).mp (J25 0 H locs ls (hP.sub [0, 1] rfl) (hD.sub [0, 1] (by decide) rfl) hS (lv_sub hl [0] rfl) hf)
  refine (hG _ _ _ _ _).mpr ?_
  obtain ⟨H, hH⟩ : ∃ H, H = s.heap := ⟨_, rfl⟩
  have hS : va_S A s.heap H [] := by rw [hH]; exact hS
  rw [← hH] at hP ⊢
  generalize ([] : List Loc) = locs at hS ⊢
  unfold fX3_takesValue at hf
  refine lv_aload_n hx hb dX3_takesValue_0 rfl (lv_at hl 0 rfl) ?_
  refine va_get (D := (dC, dI)) (ci := 3) (v := .ref h1) (C := RX3) (T := TX3) (N := 18) hx hb hts inlX3 hown hK hP 0 rfl rfl 5 (by decide) w0_ (fun _ h9 => h9) rfl dX3_takesValue_1 ?_
  refine lv_iload_n hx hb dX3_takesValue_4 rfl (lv_at hl 1 rfl) ?_
  have b2 := bd_in hf
  replace hf := bd_k hf
  refine va_iald hx hb hK hP 1 0 rfl rfl b2 dX3_takesValue_5 ?_
  refine lv_topi (fun x3 e3 => ?_)
  replace hf := nm_at hf e3
  refine lv_iconst (v := 3) hx hb dX3_takesValue_6 (by decide +kernel) ?_
  refine lv_icmp_eq (tgt := 24) hx hb dX3_takesValue_7 (by decide) (fun cq4 => ?_) (fun cq4 => ?_)
  · replace hf := if_at hf cq4
    exact (hG _ _ _ _ _).mp (J24 H locs ls (hP.sub [0, 1] rfl) (hD.sub [0, 1] (by decide) rfl) hS (lv_sub hl [0] rfl) hf)
  · replace hf := if_no hf cq4
    refine lv_aload_n hx hb dX3_takesValue_10 rfl (lv_at hl 0 rfl) ?_
    refine va_get (D := (dC, dI)) (ci := 3) (v := .ref h1) (C := RX3) (T := TX3) (N := 18) hx hb hts inlX3 hown hK hP 0 rfl rfl 5 (by decide) w0_ (fun _ h9 => h9) rfl dX3_takesValue_11 ?_
    refine lv_iload_n hx hb dX3_takesValue_14 rfl (lv_at hl 1 rfl) ?_
    have b5 := bd_in hf
    replace hf := bd_k hf
    refine va_iald hx hb hK hP 1 0 rfl rfl b5 dX3_takesValue_15 ?_
    refine lv_topi (fun x6 e6 => ?_)
    replace hf := nm_at hf e6
    refine lv_iconst (v := 5) hx hb dX3_takesValue_16 (by decide +kernel) ?_
    refine lv_icmp_gt (tgt := 24) hx hb dX3_takesValue_17 (by decide) (fun cq7 => ?_) (fun cq7 => ?_)
    · replace hf := if_at hf cq7
      exact (hG _ _ _ _ _).mp (J24 H locs ls (hP.sub [0, 1] rfl) (hD.sub [0, 1] (by decide) rfl) hS (lv_sub hl [0] rfl) hf)
    · replace hf := if_no hf cq7
      refine lv_iconst (v := 1) hx hb dX3_takesValue_20 (by decide +kernel) ?_
      refine lv_goto (tgt := 25) hx hb dX3_takesValue_21 (by decide) ?_
      exact (hG _ _ _ _ _).mp (J25 1 H locs ls (hP.sub [0, 1] rfl) (hD.sub [0, 1] (by decide) rfl) hS (lv_sub hl [0] rfl) hf)
