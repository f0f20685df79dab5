abbrev wX8_aboutStep (h0 h1 h2 h3 h4 : Nat) (kc1 kc2 kc3 kc4 : ClassId) (V0 : Nat → Value) (v0_length : Int32) (c1 : Nat → Int32) (c2 : Nat → Int32) (c3 : Nat → Int32) (c4 : Nat → Int32) : va_W := [(h0, .inr (8, [V0 0, V0 1, .ref h4, .ref h3, .ref h2, .ref h1, .int v0_length, V0 7, V0 8, V0 9, V0 10, V0 11, V0 12])), (h1, .inl (kc1, 2000, .inl c1)), (h2, .inl (kc2, 2000, .inl c2)), (h3, .inl (kc3, 2000, .inl c3)), (h4, .inl (kc4, 2000, .inl c4))]
set_option maxHeartbeats 4000000 in
set_option maxRecDepth 100000 in
theorem mX8_aboutStep (l : Launch) (dC : Nat → ClassId) (dI : Nat → Nat → Nat) (h0 h1 h2 h3 h4 : Nat) (kc1 kc2 kc3 kc4 : ClassId) (sz : Nat) (base : Nat × Nat × Nat) (a0 : Int32) (a1 : Int32) (v0_length : Int32) (c1 : Nat → Int32) (c2 : Nat → Int32) (c3 : Nat → Int32) (c4 : Nat → Int32) (V0 : Nat → Value) (o : Int32 × Unit) (hf : fX8_aboutStep a0 a1 v0_length c1 c2 c3 c4 = some o) : Met l yX8_aboutStep (.code yX8_aboutStep cX8_aboutStep 3 (some .int) :: wsL_law) ({ frames := 0, cells := 0, slots := 0, locals := 0 }) (cPre (dC, dI) vwCl [.ref h0, .int a0, .int a1] sz base (wX8_aboutStep h0 h1 h2 h3 h4 kc1 kc2 kc3 kc4 V0 v0_length c1 c2 c3 c4) [(kc1, .int), (kc2, .int), (kc3, .int), (kc4, .int)]) (va_Qi (fun r u => r = o.1 ∧ u = o.2) (fun (u : Unit) t => cPost (dC, dI) vwCl (va_A (wX8_aboutStep h0 h1 h2 h3 h4 kc1 kc2 kc3 kc4 V0 v0_length c1 c2 c3 c4) sz) (wX8_aboutStep h0 h1 h2 h3 h4 kc1 kc2 kc3 kc4 V0 v0_length c1 c2 c3 c4) [(kc1, .int), (kc2, .int), (kc3, .int), (kc4, .int)] t) (va_A (wX8_aboutStep h0 h1 h2 h3 h4 kc1 kc2 kc3 kc4 V0 v0_length c1 c2 c3 c4) sz)) 0 0 (va_A (wX8_aboutStep h0 h1 h2 h3 h4 kc1 kc2 kc3 kc4 V0 v0_length c1 c2 c3 c4) sz) := by
  refine Met.ofW (cc := cX8_aboutStep) (maxL := 3) (ret := (some .int)) (by decide) rfl ?_
  intro p e s m args below meth c s₁ B hml hv
  obtain ⟨rfl, hsz, hP, hK, hD0, hE⟩ := hv
  have hx := B.exec
  have hb := B.bytes
  have hr := B.returns
  have hts : ∀ w ∈ wsL_law, _ := fun w h => atoms_spec (ws := .code yX8_aboutStep cX8_aboutStep 3 (some .int) :: wsL_law) B.pre w (List.mem_cons_of_mem _ h)
  have hown : s.vm.findClass RX8 = some m.cls := findClass_of_methodNamed B.named
  have hlocks := B.notSynchronized
  have w0_ := hts _ q1051
  have w1_ := hts _ q1056
  have w2_ := hts _ q1057
  have w3_ := hts _ q1058
  have w4_ := hts _ q1059
  subst hsz
  have hD := hD0.self (sz := s.heap.size)
  generalize hAe : va_A (wX8_aboutStep h0 h1 h2 h3 h4 kc1 kc2 kc3 kc4 V0 v0_length c1 c2 c3 c4) s.heap.size = A at hD ⊢
  have hA : ∀ q : Nat, s.heap.size ≤ q → A q := fun q h => by rw [← hAe]; exact Or.inr h
  have hAB : ∀ q : Nat, A q → base.1 ≤ q := fun q h => by rw [← hAe] at h; exact h.elim (fun ⟨k, e, hk⟩ => hD0.2 k _ hk) (fun hk => Nat.le_trans hE.1 hk)
  have hS : va_S A s.heap s.heap [] := va_S.rf
  have hl := lv_entry ([.ref h0, .int a0, .int a1]) (n := 3) (Nat.le_of_ble_eq_true rfl)
  rw [lg_entry_eq]
  generalize (lg_sl ([.ref h0, .int a0, .int a1]) ++ List.replicate (3 - (lg_sl ([.ref h0, .int a0, .int a1])).length) Slot.unset).toArray = ls at hl ⊢
  have hl : lv_has ls 3 [(0, .ref h0), (1, .int a0), (2, .int a1)] := hl
  have hP : va_P (dC, dI) vwCl (wX8_aboutStep h0 h1 h2 h3 h4 kc1 kc2 kc3 kc4 V0 v0_length c1 c2 c3 c4) s.heap := hP
  refine gl_intro (fun G hG => ?_)
  have J12 : ∀ (H : Heap) (locs : List Loc) (ls : Array Slot), va_P (dC, dI) vwCl (wX8_aboutStep h0 h1 h2 h3 h4 kc1 kc2 kc3 kc4 V0 v0_length c1 c2 c3 c4) H → va_D A (wX8_aboutStep h0 h1 h2 h3 h4 kc1 kc2 kc3 kc4 V0 v0_length c1 c2 c3 c4) → va_S A s.heap H locs → lv_has ls 3 [(0, .ref h0)] → fX8_aboutStep_p12 v0_length c1 c2 c3 c4   = some o → G 0 0 H locs (F0 m 12 ls []) := by
    intro   H locs ls hP hD hS hl hf
    refine (hG _ _ _ _ _).mpr ?_
    unfold fX8_aboutStep_p12 at hf
    refine lv_iconst (v := (-1)) hx hb dX8_aboutStep_12 (by decide +kernel) ?_
    have hf1 := Option.some.inj hf
    subst hf1
    have hP9 := hP.sub (ws' := (wX8_aboutStep h0 h1 h2 h3 h4 kc1 kc2 kc3 kc4 V0 v0_length c1 c2 c3 c4)) [0, 1, 2, 3, 4] rfl
    have hD9 := hD.sub (ws' := (wX8_aboutStep h0 h1 h2 h3 h4 kc1 kc2 kc3 kc4 V0 v0_length c1 c2 c3 c4)) [0, 1, 2, 3, 4] (by decide) rfl
    exact W.iret (v := (-1)) hx hb hr (fun t ht hW => ⟨⟨(-1), (), rfl, ⟨rfl, rfl⟩, by rw [ht]; exact hP9, va_K.moved hW.alike hK, hD9⟩, hS.F ht⟩) hS.2.2 dX8_aboutStep_13
  refine (hG _ _ _ _ _).mpr ?_
  obtain ⟨H, hH⟩ : ∃ H, H = s.heap := ⟨_, rfl⟩
  have hS : va_S A s.heap H [] := by rw [hH]; exact hS
  rw [← hH] at hP ⊢
  generalize ([] : List Loc) = locs at hS ⊢
  unfold fX8_aboutStep at hf
  refine lv_iload_n hx hb dX8_aboutStep_0 rfl (lv_at hl 1 rfl) ?_
  refine lv_if_lt (tgt := 12) hx hb dX8_aboutStep_1 (by decide) (fun cq1 => ?_) (fun cq1 => ?_)
  · replace hf := if_at hf cq1
    exact (hG _ _ _ _ _).mp (J12 H locs ls (hP.sub [0, 1, 2, 3, 4] rfl) (hD.sub [0, 1, 2, 3, 4] (by decide) rfl) hS (lv_sub hl [0] rfl) hf)
  · replace hf := if_no hf cq1
    refine lv_iload_n hx hb dX8_aboutStep_4 rfl (lv_at hl 1 rfl) ?_
    refine lv_aload_n hx hb dX8_aboutStep_5 rfl (lv_at hl 0 rfl) ?_
    refine va_get (D := (dC, dI)) (ci := 8) (v := .int v0_length) (C := RX8) (T := TX8) (N := 13) hx hb hts inlX8 hown hK hP 0 rfl rfl 6 (by decide) w0_ (fun _ h9 => h9) rfl dX8_aboutStep_6 ?_
    refine lv_icmp_lt (tgt := 14) hx hb dX8_aboutStep_9 (by decide) (fun cq2 => ?_) (fun cq2 => ?_)
    · replace hf := if_at hf cq2
      refine lv_iload_n hx hb dX8_aboutStep_14 rfl (lv_at hl 2 rfl) ?_
      by_cases cq3 : a1 = 0
      · replace hf := if_at hf cq3
        refine lv_tableIn (off := 29) (tgt := 44) hx hb dX8_aboutStep_15 (by rw [cq3]; decide) (by rw [cq3]; decide) (by rw [cq3]; rfl) (by decide) ?_
        refine lv_aload_n hx hb dX8_aboutStep_44 rfl (lv_at hl 0 rfl) ?_
        refine va_get (D := (dC, dI)) (ci := 8) (v := .ref h4) (C := RX8) (T := TX8) (N := 13) hx hb hts inlX8 hown hK hP 0 rfl rfl 2 (by decide) w1_ (fun _ h9 => h9) rfl dX8_aboutStep_45 ?_
        refine lv_iload_n hx hb dX8_aboutStep_48 rfl (lv_at hl 1 rfl) ?_
        have b4 := bd_in hf
        replace hf := bd_k hf
        refine va_iald hx hb hK hP 4 3 rfl rfl b4 dX8_aboutStep_49 ?_
        refine lv_topi (fun x5 e5 => ?_)
        replace hf := nm_at hf e5
        have hf1 := Option.some.inj hf
        subst hf1
        have hP9 := hP.sub (ws' := (wX8_aboutStep h0 h1 h2 h3 h4 kc1 kc2 kc3 kc4 V0 v0_length c1 c2 c3 c4)) [0, 1, 2, 3, 4] rfl
        have hD9 := hD.sub (ws' := (wX8_aboutStep h0 h1 h2 h3 h4 kc1 kc2 kc3 kc4 V0 v0_length c1 c2 c3 c4)) [0, 1, 2, 3, 4] (by decide) rfl
        exact W.iret (v := x5) hx hb hr (fun t ht hW => ⟨⟨x5, (), rfl, ⟨rfl, rfl⟩, by rw [ht]; exact hP9, va_K.moved hW.alike hK, hD9⟩, hS.F ht⟩) hS.2.2 dX8_aboutStep_50
      · replace hf := if_no hf cq3
        by_cases cq6 : a1 = 1
        · replace hf := if_at hf cq6
          refine lv_tableIn (off := 36) (tgt := 51) hx hb dX8_aboutStep_15 (by rw [cq6]; decide) (by rw [cq6]; decide) (by rw [cq6]; rfl) (by decide) ?_
          refine lv_aload_n hx hb dX8_aboutStep_51 rfl (lv_at hl 0 rfl) ?_
          refine va_get (D := (dC, dI)) (ci := 8) (v := .ref h3) (C := RX8) (T := TX8) (N := 13) hx hb hts inlX8 hown hK hP 0 rfl rfl 3 (by decide) w2_ (fun _ h9 => h9) rfl dX8_aboutStep_52 ?_
          refine lv_iload_n hx hb dX8_aboutStep_55 rfl (lv_at hl 1 rfl) ?_
          have b7 := bd_in hf
          replace hf := bd_k hf
          refine va_iald hx hb hK hP 3 2 rfl rfl b7 dX8_aboutStep_56 ?_
          refine lv_topi (fun x8 e8 => ?_)
          replace hf := nm_at hf e8
          have hf1 := Option.some.inj hf
          subst hf1
          have hP9 := hP.sub (ws' := (wX8_aboutStep h0 h1 h2 h3 h4 kc1 kc2 kc3 kc4 V0 v0_length c1 c2 c3 c4)) [0, 1, 2, 3, 4] rfl
          have hD9 := hD.sub (ws' := (wX8_aboutStep h0 h1 h2 h3 h4 kc1 kc2 kc3 kc4 V0 v0_length c1 c2 c3 c4)) [0, 1, 2, 3, 4] (by decide) rfl
          exact W.iret (v := x8) hx hb hr (fun t ht hW => ⟨⟨x8, (), rfl, ⟨rfl, rfl⟩, by rw [ht]; exact hP9, va_K.moved hW.alike hK, hD9⟩, hS.F ht⟩) hS.2.2 dX8_aboutStep_57
        · replace hf := if_no hf cq6
          by_cases cq9 : a1 = 2
          · replace hf := if_at hf cq9
            refine lv_tableIn (off := 43) (tgt := 58) hx hb dX8_aboutStep_15 (by rw [cq9]; decide) (by rw [cq9]; decide) (by rw [cq9]; rfl) (by decide) ?_
            refine lv_aload_n hx hb dX8_aboutStep_58 rfl (lv_at hl 0 rfl) ?_
            refine va_get (D := (dC, dI)) (ci := 8) (v := .ref h2) (C := RX8) (T := TX8) (N := 13) hx hb hts inlX8 hown hK hP 0 rfl rfl 4 (by decide) w3_ (fun _ h9 => h9) rfl dX8_aboutStep_59 ?_
            refine lv_iload_n hx hb dX8_aboutStep_62 rfl (lv_at hl 1 rfl) ?_
            have b10 := bd_in hf
            replace hf := bd_k hf
            refine va_iald hx hb hK hP 2 1 rfl rfl b10 dX8_aboutStep_63 ?_
            refine lv_topi (fun x11 e11 => ?_)
            replace hf := nm_at hf e11
            refine lv_bipush (v := 7) hx hb dX8_aboutStep_64 (by decide +kernel) ?_
            refine lv_iand hx hb dX8_aboutStep_66 ?_
            refine lv_topi (fun x12 e12 => ?_)
            replace hf := nm_at hf e12
            have hf1 := Option.some.inj hf
            subst hf1
            have hP9 := hP.sub (ws' := (wX8_aboutStep h0 h1 h2 h3 h4 kc1 kc2 kc3 kc4 V0 v0_length c1 c2 c3 c4)) [0, 1, 2, 3, 4] rfl
            have hD9 := hD.sub (ws' := (wX8_aboutStep h0 h1 h2 h3 h4 kc1 kc2 kc3 kc4 V0 v0_length c1 c2 c3 c4)) [0, 1, 2, 3, 4] (by decide) rfl
            exact W.iret (v := x12) hx hb hr (fun t ht hW => ⟨⟨x12, (), rfl, ⟨rfl, rfl⟩, by rw [ht]; exact hP9, va_K.moved hW.alike hK, hD9⟩, hS.F ht⟩) hS.2.2 dX8_aboutStep_67
          · replace hf := if_no hf cq9
            by_cases cq13 : a1 = 3
            · replace hf := if_at hf cq13
              refine lv_tableIn (off := 53) (tgt := 68) hx hb dX8_aboutStep_15 (by rw [cq13]; decide) (by rw [cq13]; decide) (by rw [cq13]; rfl) (by decide) ?_
              refine lv_aload_n hx hb dX8_aboutStep_68 rfl (lv_at hl 0 rfl) ?_
              refine va_get (D := (dC, dI)) (ci := 8) (v := .ref h2) (C := RX8) (T := TX8) (N := 13) hx hb hts inlX8 hown hK hP 0 rfl rfl 4 (by decide) w3_ (fun _ h9 => h9) rfl dX8_aboutStep_69 ?_
              refine lv_iload_n hx hb dX8_aboutStep_72 rfl (lv_at hl 1 rfl) ?_
              have b14 := bd_in hf
              replace hf := bd_k hf
              refine va_iald hx hb hK hP 2 1 rfl rfl b14 dX8_aboutStep_73 ?_
              refine lv_topi (fun x15 e15 => ?_)
              replace hf := nm_at hf e15
              refine lv_iconst (v := 3) hx hb dX8_aboutStep_74 (by decide +kernel) ?_
              refine lv_iushr hx hb dX8_aboutStep_75 rfl ?_
              refine lv_topi (fun x16 e16 => ?_)
              replace hf := nm_at hf e16
              have hf1 := Option.some.inj hf
              subst hf1
              have hP9 := hP.sub (ws' := (wX8_aboutStep h0 h1 h2 h3 h4 kc1 kc2 kc3 kc4 V0 v0_length c1 c2 c3 c4)) [0, 1, 2, 3, 4] rfl
              have hD9 := hD.sub (ws' := (wX8_aboutStep h0 h1 h2 h3 h4 kc1 kc2 kc3 kc4 V0 v0_length c1 c2 c3 c4)) [0, 1, 2, 3, 4] (by decide) rfl
              exact W.iret (v := x16) hx hb hr (fun t ht hW => ⟨⟨x16, (), rfl, ⟨rfl, rfl⟩, by rw [ht]; exact hP9, va_K.moved hW.alike hK, hD9⟩, hS.F ht⟩) hS.2.2 dX8_aboutStep_76
            · replace hf := if_no hf cq13
              refine lv_tableOut (tgt := 77) hx hb dX8_aboutStep_15 (by have n3 := lv_neT cq3 (show (0 : Int32).toInt = 0 from rfl); have n6 := lv_neT cq6 (show (1 : Int32).toInt = 1 from rfl); have n9 := lv_neT cq9 (show (2 : Int32).toInt = 2 from rfl); have n13 := lv_neT cq13 (show (3 : Int32).toInt = 3 from rfl); omega) (by decide) ?_
              refine lv_aload_n hx hb dX8_aboutStep_77 rfl (lv_at hl 0 rfl) ?_
              refine va_get (D := (dC, dI)) (ci := 8) (v := .ref h1) (C := RX8) (T := TX8) (N := 13) hx hb hts inlX8 hown hK hP 0 rfl rfl 5 (by decide) w4_ (fun _ h9 => h9) rfl dX8_aboutStep_78 ?_
              refine lv_iload_n hx hb dX8_aboutStep_81 rfl (lv_at hl 1 rfl) ?_
              have b17 := bd_in hf
              replace hf := bd_k hf
              refine va_iald hx hb hK hP 1 0 rfl rfl b17 dX8_aboutStep_82 ?_
              refine lv_topi (fun x18 e18 => ?_)
              replace hf := nm_at hf e18
              have hf1 := Option.some.inj hf
              subst hf1
              have hP9 := hP.sub (ws' := (wX8_aboutStep h0 h1 h2 h3 h4 kc1 kc2 kc3 kc4 V0 v0_length c1 c2 c3 c4)) [0, 1, 2, 3, 4] rfl
              have hD9 := hD.sub (ws' := (wX8_aboutStep h0 h1 h2 h3 h4 kc1 kc2 kc3 kc4 V0 v0_length c1 c2 c3 c4)) [0, 1, 2, 3, 4] (by decide) rfl
              exact W.iret (v := x18) hx hb hr (fun t ht hW => ⟨⟨x18, (), rfl, ⟨rfl, rfl⟩, by rw [ht]; exact hP9, va_K.moved hW.alike hK, hD9⟩, hS.F ht⟩) hS.2.2 dX8_aboutStep_83
    · replace hf := if_no hf cq2
      exact (hG _ _ _ _ _).mp (J12 H locs ls (hP.sub [0, 1, 2, 3, 4] rfl) (hD.sub [0, 1, 2, 3, 4] (by decide) rfl) hS (lv_sub hl [0] rfl) hf)
set_option maxHeartbeats 4000000 in
set_option maxRecDepth 100000 in
theorem mX8_forget (l : Launch) (dC : Nat → ClassId) (dI : Nat → Nat → Nat) (h0 : Nat) (sz : Nat) (base : Nat × Nat × Nat) (v0_length : Int32) (V0 : Nat → Value) (o : Int32) (hf : fX8_forget v0_length = some o) : Met l yX8_forget (.code yX8_forget cX8_forget 1 none :: wsL_law) ({ frames := 0, cells := 0, slots := 0, locals := 0 }) (cPre (dC, dI) vwCl [.ref h0] sz base [(h0, .inr (8, [V0 0, V0 1, V0 2, V0 3, V0 4, V0 5, .int v0_length, V0 7, V0 8, V0 9, V0 10, V0 11, V0 12]))] []) (va_Qv (fun u => u = o) (fun (u : Int32) t => cPost (dC, dI) vwCl (va_A [(h0, .inr (8, [V0 0, V0 1, V0 2, V0 3, V0 4, V0 5, .int v0_length, V0 7, V0 8, V0 9, V0 10, V0 11, V0 12]))] sz) [(h0, .inr (8, [V0 0, V0 1, V0 2, V0 3, V0 4, V0 5, .int u, V0 7, V0 8, V0 9, V0 10, V0 11, V0 12]))] [] t) (va_A [(h0, .inr (8, [V0 0, V0 1, V0 2, V0 3, V0 4, V0 5, .int v0_length, V0 7, V0 8, V0 9, V0 10, V0 11, V0 12]))] sz)) 0 0 (va_A [(h0, .inr (8, [V0 0, V0 1, V0 2, V0 3, V0 4, V0 5, .int v0_length, V0 7, V0 8, V0 9, V0 10, V0 11, V0 12]))] sz) := by
  refine Met.ofW (cc := cX8_forget) (maxL := 1) (ret := none) (by decide) rfl ?_
  intro p e s m args below meth c s₁ B hml hv
  obtain ⟨rfl, hsz, hP, hK, hD0, hE⟩ := hv
  have hx := B.exec
  have hb := B.bytes
  have hr := B.returns
  have hts : ∀ w ∈ wsL_law, _ := fun w h => atoms_spec (ws := .code yX8_forget cX8_forget 1 none :: wsL_law) B.pre w (List.mem_cons_of_mem _ h)
  have hown : s.vm.findClass RX8 = some m.cls := findClass_of_methodNamed B.named
  have hlocks := B.notSynchronized
  have w0_ := hts _ q1051
  subst hsz
  have hD := hD0.self (sz := s.heap.size)
  generalize hAe : va_A [(h0, .inr (8, [V0 0, V0 1, V0 2, V0 3, V0 4, V0 5, .int v0_length, V0 7, V0 8, V0 9, V0 10, V0 11, V0 12]))] s.heap.size = A at hD ⊢
  have hA : ∀ q : Nat, s.heap.size ≤ q → A q := fun q h => by rw [← hAe]; exact Or.inr h
  have hAB : ∀ q : Nat, A q → base.1 ≤ q := fun q h => by rw [← hAe] at h; exact h.elim (fun ⟨k, e, hk⟩ => hD0.2 k _ hk) (fun hk => Nat.le_trans hE.1 hk)
  have hS : va_S A s.heap s.heap [] := va_S.rf
  have hl := lv_entry ([.ref h0]) (n := 1) (Nat.le_of_ble_eq_true rfl)
  rw [lg_entry_eq]
  generalize (lg_sl ([.ref h0]) ++ List.replicate (1 - (lg_sl ([.ref h0])).length) Slot.unset).toArray = ls at hl ⊢
  have hl : lv_has ls 1 [(0, .ref h0)] := hl
  have hP : va_P (dC, dI) vwCl [(h0, .inr (8, [V0 0, V0 1, V0 2, V0 3, V0 4, V0 5, .int v0_length, V0 7, V0 8, V0 9, V0 10, V0 11, V0 12]))] s.heap := hP
  obtain ⟨H, hH⟩ : ∃ H, H = s.heap := ⟨_, rfl⟩
  have hS : va_S A s.heap H [] := by rw [hH]; exact hS
  rw [← hH] at hP ⊢
  generalize ([] : List Loc) = locs at hS ⊢
  unfold fX8_forget at hf
  refine lv_aload_n hx hb dX8_forget_0 rfl (lv_at hl 0 rfl) ?_
  refine lv_iconst (v := 0) hx hb dX8_forget_1 (by decide +kernel) ?_
  refine va_put (D := (dC, dI)) (ci := 8) (v := .int 0) (ty := .int) (C := RX8) (T := TX8) (N := 13) hx hb hts inlX8 tyX8 tyX8_ok nmX8 hown hK hP hD hS 0 rfl rfl 6 (by decide) w0_ (fun _ h9 => h9) rfl (by decide +kernel) rfl rfl (Nat.le_of_ble_eq_true rfl) dX8_forget_2 (fun H locs hP hD hS => ?_)
  have hP : va_P (dC, dI) vwCl [(h0, .inr (8, [V0 0, V0 1, V0 2, V0 3, V0 4, V0 5, .int 0, V0 7, V0 8, V0 9, V0 10, V0 11, V0 12]))] H := hP
  have hD : va_D A [(h0, .inr (8, [V0 0, V0 1, V0 2, V0 3, V0 4, V0 5, .int 0, V0 7, V0 8, V0 9, V0 10, V0 11, V0 12]))] := hD
  have hf1 := Option.some.inj hf
  subst hf1
  have hP9 := hP.sub (ws' := [(h0, .inr (8, [V0 0, V0 1, V0 2, V0 3, V0 4, V0 5, .int 0, V0 7, V0 8, V0 9, V0 10, V0 11, V0 12]))]) [0] rfl
  have hD9 := hD.sub (ws' := [(h0, .inr (8, [V0 0, V0 1, V0 2, V0 3, V0 4, V0 5, .int 0, V0 7, V0 8, V0 9, V0 10, V0 11, V0 12]))]) [0] (by decide) rfl
  exact W.vret hx hb hr (fun t ht hW => ⟨⟨0, rfl, rfl, by rw [ht]; exact hP9, va_K.moved hW.alike hK, hD9⟩, hS.F ht⟩) hS.2.2 dX8_forget_5
abbrev wX8_leaveEndedCalls (h0 h1 h2 : Nat) (kc1 kc2 : ClassId) (V0 : Nat → Value) (v0_open : Int32) (v0_point : Int32) (v0_setting : Int32) (c1 : Nat → Int32) (c2 : Nat → Int32) : va_W := [(h0, .inr (8, [V0 0, V0 1, V0 2, V0 3, V0 4, V0 5, V0 6, .ref h1, .ref h2, V0 9, .int v0_open, .int v0_point, .int v0_setting])), (h1, .inl (kc1, 2001, .inl c1)), (h2, .inl (kc2, 2001, .inl c2))]
set_option maxHeartbeats 4000000 in
set_option maxRecDepth 100000 in
theorem mX8_leaveEndedCalls (l : Launch) (dC : Nat → ClassId) (dI : Nat → Nat → Nat) (h0 h1 h2 : Nat) (kc1 kc2 : ClassId) (sz : Nat) (base : Nat × Nat × Nat) (v0_open : Int32) (v0_point : Int32) (v0_setting : Int32) (c1 : Nat → Int32) (c2 : Nat → Int32) (V0 : Nat → Value) (o : Int32 × Int32 × Int32) (hf : fX8_leaveEndedCalls v0_open v0_point v0_setting c1 c2 = some o) : Met l yX8_leaveEndedCalls (.code yX8_leaveEndedCalls cX8_leaveEndedCalls 1 none :: wsL_law) ({ frames := 0, cells := 0, slots := 0, locals := 0 }) (cPre (dC, dI) vwCl [.ref h0] sz base (wX8_leaveEndedCalls h0 h1 h2 kc1 kc2 V0 v0_open v0_point v0_setting c1 c2) [(kc1, .int), (kc2, .int)]) (va_Qv (fun u => u = o) (fun (u : Int32 × Int32 × Int32) t => cPost (dC, dI) vwCl (va_A (wX8_leaveEndedCalls h0 h1 h2 kc1 kc2 V0 v0_open v0_point v0_setting c1 c2) sz) (wX8_leaveEndedCalls h0 h1 h2 kc1 kc2 V0 u.1 u.2.1 u.2.2 c1 c2) [(kc1, .int), (kc2, .int)] t) (va_A (wX8_leaveEndedCalls h0 h1 h2 kc1 kc2 V0 v0_open v0_point v0_setting c1 c2) sz)) 0 0 (va_A (wX8_leaveEndedCalls h0 h1 h2 kc1 kc2 V0 v0_open v0_point v0_setting c1 c2) sz) := by
  refine Met.ofW (cc := cX8_leaveEndedCalls) (maxL := 1) (ret := none) (by decide) rfl ?_
  intro p e s m args below meth c s₁ B hml hv
  obtain ⟨rfl, hsz, hP, hK, hD0, hE⟩ := hv
  have hx := B.exec
  have hb := B.bytes
  have hr := B.returns
  have hts : ∀ w ∈ wsL_law, _ := fun w h => atoms_spec (ws := .code yX8_leaveEndedCalls cX8_leaveEndedCalls 1 none :: wsL_law) B.pre w (List.mem_cons_of_mem _ h)
  have hown : s.vm.findClass RX8 = some m.cls := findClass_of_methodNamed B.named
  have hlocks := B.notSynchronized
  have w0_ := hts _ q1070
  have w1_ := hts _ q1069
  have w2_ := hts _ q1060
  have w3_ := hts _ q1071
  have w4_ := hts _ q1061
  subst hsz
  have hD := hD0.self (sz := s.heap.size)
  generalize hAe : va_A (wX8_leaveEndedCalls h0 h1 h2 kc1 kc2 V0 v0_open v0_point v0_setting c1 c2) s.heap.size = A at hD ⊢
  have hA : ∀ q : Nat, s.heap.size ≤ q → A q := fun q h => by rw [← hAe]; exact Or.inr h
  have hAB : ∀ q : Nat, A q → base.1 ≤ q := fun q h => by rw [← hAe] at h; exact h.elim (fun ⟨k, e, hk⟩ => hD0.2 k _ hk) (fun hk => Nat.le_trans hE.1 hk)
  have hS : va_S A s.heap s.heap [] := va_S.rf
  have hl := lv_entry ([.ref h0]) (n := 1) (Nat.le_of_ble_eq_true rfl)
  rw [lg_entry_eq]
  generalize (lg_sl ([.ref h0]) ++ List.replicate (1 - (lg_sl ([.ref h0])).length) Slot.unset).toArray = ls at hl ⊢
  have hl : lv_has ls 1 [(0, .ref h0)] := hl
  have hP : va_P (dC, dI) vwCl (wX8_leaveEndedCalls h0 h1 h2 kc1 kc2 V0 v0_open v0_point v0_setting c1 c2) s.heap := hP
  refine gl_intro (fun G hG => ?_)
  have J62 : ∀ (v0_open : Int32) (v0_point : Int32) (v0_setting : Int32) (H : Heap) (locs : List Loc) (ls : Array Slot), va_P (dC, dI) vwCl (wX8_leaveEndedCalls h0 h1 h2 kc1 kc2 V0 v0_open v0_point v0_setting c1 c2) H → va_D A (wX8_leaveEndedCalls h0 h1 h2 kc1 kc2 V0 v0_open v0_point v0_setting c1 c2) → va_S A s.heap H locs → lv_has ls 1 [(0, .ref h0)] → fX8_leaveEndedCalls_p62 c1 c2  v0_open v0_point v0_setting = some o → G 0 0 H locs (F0 m 62 ls []) := by
    intro  v0_open v0_point v0_setting H locs ls hP hD hS hl hf
    refine (hG _ _ _ _ _).mpr ?_
    unfold fX8_leaveEndedCalls_p62 at hf
    have hf1 := Option.some.inj hf
    subst hf1
    have hP9 := hP.sub (ws' := (wX8_leaveEndedCalls h0 h1 h2 kc1 kc2 V0 v0_open v0_point v0_setting c1 c2)) [0, 1, 2] rfl
    have hD9 := hD.sub (ws' := (wX8_leaveEndedCalls h0 h1 h2 kc1 kc2 V0 v0_open v0_point v0_setting c1 c2)) [0, 1, 2] (by decide) rfl
    exact W.vret hx hb hr (fun t ht hW => ⟨⟨(v0_open, v0_point, v0_setting), rfl, rfl, by rw [ht]; exact hP9, va_K.moved hW.alike hK, hD9⟩, hS.F ht⟩) hS.2.2 dX8_leaveEndedCalls_62
  have B0 : ∀ (k0 : Int32 → Int32 → Int32 → Option (Int32 × Int32 × Int32)) (hk0 : ∀ (v0_open : Int32) (v0_point : Int32) (v0_setting : Int32) (H : Heap) (locs : List Loc) (ls : Array Slot), va_P (dC, dI) vwCl (wX8_leaveEndedCalls h0 h1 h2 kc1 kc2 V0 v0_open v0_point v0_setting c1 c2) H → va_D A (wX8_leaveEndedCalls h0 h1 h2 kc1 kc2 V0 v0_open v0_point v0_setting c1 c2) → va_S A s.heap H locs → lv_has ls 1 [(0, .ref h0)] → k0 v0_open v0_point v0_setting = some o → G 0 0 H locs (F0 m 0 ls [])), ∀ (v0_open : Int32) (v0_point : Int32) (v0_setting : Int32) (H : Heap) (locs : List Loc) (ls : Array Slot), va_P (dC, dI) vwCl (wX8_leaveEndedCalls h0 h1 h2 kc1 kc2 V0 v0_open v0_point v0_setting c1 c2) H → va_D A (wX8_leaveEndedCalls h0 h1 h2 kc1 kc2 V0 v0_open v0_point v0_setting c1 c2) → va_S A s.heap H locs → lv_has ls 1 [(0, .ref h0)] → fX8_leaveEndedCalls_b0 c1 c2  k0 v0_open v0_point v0_setting = some o → G 0 0 H locs (F0 m 0 ls []) := by
    intro  k0 hk0 v0_open v0_point v0_setting H locs ls hP hD hS hl hf
    refine (hG _ _ _ _ _).mpr ?_
    unfold fX8_leaveEndedCalls_b0 at hf
    refine lv_aload_n hx hb dX8_leaveEndedCalls_0 rfl (lv_at hl 0 rfl) ?_
    refine va_get (D := (dC, dI)) (ci := 8) (v := .int v0_point) (C := RX8) (T := TX8) (N := 13) hx hb hts inlX8 hown hK hP 0 rfl rfl 11 (by decide) w0_ (fun _ h9 => h9) rfl dX8_leaveEndedCalls_1 ?_
    refine lv_iconst (v := (-1)) hx hb dX8_leaveEndedCalls_4 (by decide +kernel) ?_
    refine lv_icmp_ne (tgt := 62) hx hb dX8_leaveEndedCalls_5 (by decide) (fun cq1 => ?_) (fun cq1 => ?_)
    · replace hf := if_no hf cq1
      exact (hG _ _ _ _ _).mp (J62 v0_open v0_point v0_setting H locs ls (hP.sub [0, 1, 2] rfl) (hD.sub [0, 1, 2] (by decide) rfl) hS (lv_sub hl [0] rfl) hf)
    · replace hf := if_at hf cq1
      refine lv_aload_n hx hb dX8_leaveEndedCalls_8 rfl (lv_at hl 0 rfl) ?_
      refine va_get (D := (dC, dI)) (ci := 8) (v := .int v0_open) (C := RX8) (T := TX8) (N := 13) hx hb hts inlX8 hown hK hP 0 rfl rfl 10 (by decide) w1_ (fun _ h9 => h9) rfl dX8_leaveEndedCalls_9 ?_
      refine lv_if_le (tgt := 62) hx hb dX8_leaveEndedCalls_12 (by decide) (fun cq2 => ?_) (fun cq2 => ?_)
      · replace hf := if_at hf cq2
        exact (hG _ _ _ _ _).mp (J62 v0_open v0_point v0_setting H locs ls (hP.sub [0, 1, 2] rfl) (hD.sub [0, 1, 2] (by decide) rfl) hS (lv_sub hl [0] rfl) hf)
      · replace hf := if_no hf cq2
        refine lv_aload_n hx hb dX8_leaveEndedCalls_15 rfl (lv_at hl 0 rfl) ?_
        refine lv_aload_n hx hb dX8_leaveEndedCalls_16 rfl (lv_at hl 0 rfl) ?_
        refine va_get (D := (dC, dI)) (ci := 8) (v := .ref h1) (C := RX8) (T := TX8) (N := 13) hx hb hts inlX8 hown hK hP 0 rfl rfl 7 (by decide) w2_ (fun _ h9 => h9) rfl dX8_leaveEndedCalls_17 ?_
        refine lv_aload_n hx hb dX8_leaveEndedCalls_20 rfl (lv_at hl 0 rfl) ?_
        refine va_get (D := (dC, dI)) (ci := 8) (v := .int v0_open) (C := RX8) (T := TX8) (N := 13) hx hb hts inlX8 hown hK hP 0 rfl rfl 10 (by decide) w1_ (fun _ h9 => h9) rfl dX8_leaveEndedCalls_21 ?_
        have b3 := bd_in hf
        replace hf := bd_k hf
        refine va_iald hx hb hK hP 1 0 rfl rfl b3 dX8_leaveEndedCalls_24 ?_
        refine lv_topi (fun x4 e4 => ?_)
        replace hf := nm_at hf e4
        refine va_put (D := (dC, dI)) (ci := 8) (v := .int x4) (ty := .int) (C := RX8) (T := TX8) (N := 13) hx hb hts inlX8 tyX8 tyX8_ok nmX8 hown hK hP hD hS 0 rfl rfl 11 (by decide) w0_ (fun _ h9 => h9) rfl (by decide +kernel) rfl rfl (Nat.le_of_ble_eq_true rfl) dX8_leaveEndedCalls_25 (fun H locs hP hD hS => ?_)
        have hP : va_P (dC, dI) vwCl (wX8_leaveEndedCalls h0 h1 h2 kc1 kc2 V0 v0_open x4 v0_setting c1 c2) H := hP
        have hD : va_D A (wX8_leaveEndedCalls h0 h1 h2 kc1 kc2 V0 v0_open x4 v0_setting c1 c2) := hD
        refine lv_aload_n hx hb dX8_leaveEndedCalls_28 rfl (lv_at hl 0 rfl) ?_
        refine lv_aload_n hx hb dX8_leaveEndedCalls_29 rfl (lv_at hl 0 rfl) ?_
        refine va_get (D := (dC, dI)) (ci := 8) (v := .int v0_setting) (C := RX8) (T := TX8) (N := 13) hx hb hts inlX8 hown hK hP 0 rfl rfl 12 (by decide) w3_ (fun _ h9 => h9) rfl dX8_leaveEndedCalls_30 ?_
        refine lv_bipush (v := 7) hx hb dX8_leaveEndedCalls_33 (by decide +kernel) ?_
        refine lv_iand hx hb dX8_leaveEndedCalls_35 ?_
        refine lv_topi (fun x5 e5 => ?_)
        replace hf := nm_at hf e5
        refine lv_aload_n hx hb dX8_leaveEndedCalls_36 rfl (lv_at hl 0 rfl) ?_
        refine va_get (D := (dC, dI)) (ci := 8) (v := .ref h2) (C := RX8) (T := TX8) (N := 13) hx hb hts inlX8 hown hK hP 0 rfl rfl 8 (by decide) w4_ (fun _ h9 => h9) rfl dX8_leaveEndedCalls_37 ?_
        refine lv_aload_n hx hb dX8_leaveEndedCalls_40 rfl (lv_at hl 0 rfl) ?_
        refine va_get (D := (dC, dI)) (ci := 8) (v := .int v0_open) (C := RX8) (T := TX8) (N := 13) hx hb hts inlX8 hown hK hP 0 rfl rfl 10 (by decide) w1_ (fun _ h9 => h9) rfl dX8_leaveEndedCalls_41 ?_
        have b6 := bd_in hf
        replace hf := bd_k hf
        refine va_iald hx hb hK hP 2 1 rfl rfl b6 dX8_leaveEndedCalls_44 ?_
        refine lv_topi (fun x7 e7 => ?_)
        replace hf := nm_at hf e7
        refine lv_ior hx hb dX8_leaveEndedCalls_45 ?_
        refine lv_topi (fun x8 e8 => ?_)
        replace hf := nm_at hf e8
        refine va_put (D := (dC, dI)) (ci := 8) (v := .int x8) (ty := .int) (C := RX8) (T := TX8) (N := 13) hx hb hts inlX8 tyX8 tyX8_ok nmX8 hown hK hP hD hS 0 rfl rfl 12 (by decide) w3_ (fun _ h9 => h9) rfl (by decide +kernel) rfl rfl (Nat.le_of_ble_eq_true rfl) dX8_leaveEndedCalls_46 (fun H locs hP hD hS => ?_)
        have hP : va_P (dC, dI) vwCl (wX8_leaveEndedCalls h0 h1 h2 kc1 kc2 V0 v0_open x4 x8 c1 c2) H := hP
        have hD : va_D A (wX8_leaveEndedCalls h0 h1 h2 kc1 kc2 V0 v0_open x4 x8 c1 c2) := hD
        refine lv_aload_n hx hb dX8_leaveEndedCalls_49 rfl (lv_at hl 0 rfl) ?_
        refine lv_dup hx hb dX8_leaveEndedCalls_50 rfl ?_
        refine va_get (D := (dC, dI)) (ci := 8) (v := .int v0_open) (C := RX8) (T := TX8) (N := 13) hx hb hts inlX8 hown hK hP 0 rfl rfl 10 (by decide) w1_ (fun _ h9 => h9) rfl dX8_leaveEndedCalls_51 ?_
        refine lv_iconst (v := 1) hx hb dX8_leaveEndedCalls_54 (by decide +kernel) ?_
        refine lv_isub hx hb dX8_leaveEndedCalls_55 ?_
        refine lv_topi (fun x9 e9 => ?_)
        replace hf := nm_at hf e9
        refine va_put (D := (dC, dI)) (ci := 8) (v := .int x9) (ty := .int) (C := RX8) (T := TX8) (N := 13) hx hb hts inlX8 tyX8 tyX8_ok nmX8 hown hK hP hD hS 0 rfl rfl 10 (by decide) w1_ (fun _ h9 => h9) rfl (by decide +kernel) rfl rfl (Nat.le_of_ble_eq_true rfl) dX8_leaveEndedCalls_56 (fun H locs hP hD hS => ?_)
        have hP : va_P (dC, dI) vwCl (wX8_leaveEndedCalls h0 h1 h2 kc1 kc2 V0 x9 x4 x8 c1 c2) H := hP
        have hD : va_D A (wX8_leaveEndedCalls h0 h1 h2 kc1 kc2 V0 x9 x4 x8 c1 c2) := hD
        refine lv_goto (tgt := 0) hx hb dX8_leaveEndedCalls_59 (by decide) ?_
        exact (hG _ _ _ _ _).mp (hk0 x9 x4 x8 H locs ls (hP.sub [0, 1, 2] rfl) (hD.sub [0, 1, 2] (by decide) rfl) hS (lv_sub hl [0] rfl) hf)
  have L0 : ∀ (n : Nat), ∀ (v0_open : Int32) (v0_point : Int32) (v0_setting : Int32) (H : Heap) (locs : List Loc) (ls : Array Slot), va_P (dC, dI) vwCl (wX8_leaveEndedCalls h0 h1 h2 kc1 kc2 V0 v0_open v0_point v0_setting c1 c2) H → va_D A (wX8_leaveEndedCalls h0 h1 h2 kc1 kc2 V0 v0_open v0_point v0_setting c1 c2) → va_S A s.heap H locs → lv_has ls 1 [(0, .ref h0)] → fX8_leaveEndedCalls_l0 c1 c2  n v0_open v0_point v0_setting = some o → G 0 0 H locs (F0 m 0 ls []) := by
    intro  n
    induction n with
    | zero => intro v0_open v0_point v0_setting H locs ls _ _ _ _ hf; cases hf
    | succ n ih => exact B0  _ ih
  refine (hG _ _ _ _ _).mpr ?_
  obtain ⟨H, hH⟩ : ∃ H, H = s.heap := ⟨_, rfl⟩
  have hS : va_S A s.heap H [] := by rw [hH]; exact hS
  rw [← hH] at hP ⊢
  generalize ([] : List Loc) = locs at hS ⊢
  unfold fX8_leaveEndedCalls at hf
  exact (hG _ _ _ _ _).mp (L0 FU v0_open v0_point v0_setting H locs ls (hP.sub [0, 1, 2] rfl) (hD.sub [0, 1, 2] (by decide) rfl) hS (lv_sub hl [0] rfl) hf)
abbrev wX8_stepsToFail (h0 h1 h2 h3 : Nat) (kc1 kc3 : ClassId) (V0 : Nat → Value) (V2 : Nat → Value) (v0_open : Int32) (c1 : Nat → Int32) (c3 : Nat → Int32) : va_W := [(h0, .inr (8, [V0 0, .ref h2, V0 2, V0 3, V0 4, V0 5, V0 6, V0 7, V0 8, .ref h1, .int v0_open, V0 11, V0 12])), (h1, .inl (kc1, 16008, .inl c1)), (h2, .inr (0, [.ref h3, V2 1, V2 2, V2 3, V2 4, V2 5, V2 6])), (h3, .inl (kc3, 11520, .inl c3))]
set_option maxHeartbeats 4000000 in
set_option maxRecDepth 100000 in
theorem mX8_stepsToFail (l : Launch) (dC : Nat → ClassId) (dI : Nat → Nat → Nat) (h0 h1 h2 h3 : Nat) (kc1 kc3 : ClassId) (sz : Nat) (base : Nat × Nat × Nat) (a0 : Int32) (a1 : Int32) (v0_open : Int32) (c1 : Nat → Int32) (c3 : Nat → Int32) (V0 : Nat → Value) (V2 : Nat → Value) (o : Int32 × Unit) (hf : fX8_stepsToFail a0 a1 v0_open c1 c3 = some o) : Met l yX8_stepsToFail (.code yX8_stepsToFail cX8_stepsToFail 7 (some .int) :: wsL_law) ({ frames := 2, cells := 0, slots := 0, locals := 42 }) (cPre (dC, dI) vwCl [.ref h0, .int a0, .int a1] sz base (wX8_stepsToFail h0 h1 h2 h3 kc1 kc3 V0 V2 v0_open c1 c3) [(kc1, .int), (kc3, .int)]) (va_Qi (fun r u => r = o.1 ∧ u = o.2) (fun (u : Unit) t => cPost (dC, dI) vwCl (va_A (wX8_stepsToFail h0 h1 h2 h3 kc1 kc3 V0 V2 v0_open c1 c3) sz) (wX8_stepsToFail h0 h1 h2 h3 kc1 kc3 V0 V2 v0_open c1 c3) [(kc1, .int), (kc3, .int)] t) (va_A (wX8_stepsToFail h0 h1 h2 h3 kc1 kc3 V0 V2 v0_open c1 c3) sz)) 0 0 (va_A (wX8_stepsToFail h0 h1 h2 h3 kc1 kc3 V0 V2 v0_open c1 c3) sz) := by
  refine Met.ofW (cc := cX8_stepsToFail) (maxL := 7) (ret := (some .int)) (by decide) rfl ?_
  intro p e s m args below meth c s₁ B hml hv
  obtain ⟨rfl, hsz, hP, hK, hD0, hE⟩ := hv
  have hx := B.exec
  have hb := B.bytes
  have hr := B.returns
  have hts : ∀ w ∈ wsL_law, _ := fun w h => atoms_spec (ws := .code yX8_stepsToFail cX8_stepsToFail 7 (some .int) :: wsL_law) B.pre w (List.mem_cons_of_mem _ h)
  have hown : s.vm.findClass RX8 = some m.cls := findClass_of_methodNamed B.named
  have hlocks := B.notSynchronized
  have w0_ := hts _ q1064
  have w1_ := hts _ q1086
  have w2_ := hts _ q1062
  have w3_ := hts _ q1087
  have w4_ := hts _ q316
  have w5_ := hts _ q280
  have w6_ := hts _ q317
  have w7_ := hts _ q1069
  have w8_ := hts _ q1072
  subst hsz
  have hD := hD0.self (sz := s.heap.size)
  generalize hAe : va_A (wX8_stepsToFail h0 h1 h2 h3 kc1 kc3 V0 V2 v0_open c1 c3) s.heap.size = A at hD ⊢
  have hA : ∀ q : Nat, s.heap.size ≤ q → A q := fun q h => by rw [← hAe]; exact Or.inr h
  have hAB : ∀ q : Nat, A q → base.1 ≤ q := fun q h => by rw [← hAe] at h; exact h.elim (fun ⟨k, e, hk⟩ => hD0.2 k _ hk) (fun hk => Nat.le_trans hE.1 hk)
  have hS : va_S A s.heap s.heap [] := va_S.rf
  have hl := lv_entry ([.ref h0, .int a0, .int a1]) (n := 7) (Nat.le_of_ble_eq_true rfl)
  rw [lg_entry_eq]
  generalize (lg_sl ([.ref h0, .int a0, .int a1]) ++ List.replicate (7 - (lg_sl ([.ref h0, .int a0, .int a1])).length) Slot.unset).toArray = ls at hl ⊢
  have hl : lv_has ls 7 [(0, .ref h0), (1, .int a0), (2, .int a1)] := hl
  have hP : va_P (dC, dI) vwCl (wX8_stepsToFail h0 h1 h2 h3 kc1 kc3 V0 V2 v0_open c1 c3) s.heap := hP
  refine gl_intro (fun G hG => ?_)
  have B67 : ∀ (k67 : Int32 → Int32 → Int32 → Int32 → Option (Int32 × Unit)) (hk67 : ∀ (y3 : Int32) (y4 : Int32) (y5 : Int32) (y6 : Int32) (H : Heap) (locs : List Loc) (ls : Array Slot), va_P (dC, dI) vwCl (wX8_stepsToFail h0 h1 h2 h3 kc1 kc3 V0 V2 v0_open c1 c3) H → va_D A (wX8_stepsToFail h0 h1 h2 h3 kc1 kc3 V0 V2 v0_open c1 c3) → va_S A s.heap H locs → lv_has ls 7 [(0, .ref h0), (3, .int y3), (4, .int y4), (5, .int y5), (6, .int y6)] → k67 y3 y4 y5 y6 = some o → G 0 0 H locs (F0 m 67 ls [])), ∀ (y3 : Int32) (y4 : Int32) (y5 : Int32) (y6 : Int32) (H : Heap) (locs : List Loc) (ls : Array Slot), va_P (dC, dI) vwCl (wX8_stepsToFail h0 h1 h2 h3 kc1 kc3 V0 V2 v0_open c1 c3) H → va_D A (wX8_stepsToFail h0 h1 h2 h3 kc1 kc3 V0 V2 v0_open c1 c3) → va_S A s.heap H locs → lv_has ls 7 [(0, .ref h0), (3, .int y3), (4, .int y4), (5, .int y5), (6, .int y6)] → fX8_stepsToFail_b67 v0_open c1 c3  k67 y3 y4 y5 y6 = some o → G 0 0 H locs (F0 m 67 ls []) := by
    intro  k67 hk67 y3 y4 y5 y6 H locs ls hP hD hS hl hf
    refine (hG _ _ _ _ _).mpr ?_
    unfold fX8_stepsToFail_b67 at hf
    refine lv_iload hx hb dX8_stepsToFail_67 (lv_at hl 4 rfl) ?_
    refine lv_bipush (v := 8) hx hb dX8_stepsToFail_69 (by decide +kernel) ?_
    refine lv_icmp_ge (tgt := 112) hx hb dX8_stepsToFail_71 (by decide) (fun cq1 => ?_) (fun cq1 => ?_)
    · replace hf := if_at hf cq1
      refine lv_iload hx hb dX8_stepsToFail_112 (lv_at hl 3 rfl) ?_
      have hf1 := Option.some.inj hf
      subst hf1
      have hP9 := hP.sub (ws' := (wX8_stepsToFail h0 h1 h2 h3 kc1 kc3 V0 V2 v0_open c1 c3)) [0, 1, 2, 3] rfl
      have hD9 := hD.sub (ws' := (wX8_stepsToFail h0 h1 h2 h3 kc1 kc3 V0 V2 v0_open c1 c3)) [0, 1, 2, 3] (by decide) rfl
      exact W.iret (v := y5) hx hb hr (fun t ht hW => ⟨⟨y5, (), rfl, ⟨rfl, rfl⟩, by rw [ht]; exact hP9, va_K.moved hW.alike hK, hD9⟩, hS.F ht⟩) hS.2.2 dX8_stepsToFail_114
    · replace hf := if_no hf cq1
      refine lv_iload hx hb dX8_stepsToFail_74 (lv_at hl 3 rfl) ?_
      refine lv_aload_n hx hb dX8_stepsToFail_76 rfl (lv_at hl 0 rfl) ?_
      refine va_get (D := (dC, dI)) (ci := 8) (v := .ref h2) (C := RX8) (T := TX8) (N := 13) hx hb hts inlX8 hown hK hP 0 rfl rfl 1 (by decide) w0_ (fun _ h9 => h9) rfl dX8_stepsToFail_77 ?_
      refine va_get (D := (dC, dI)) (ci := 0) (v := .ref h3) (C := RX0) (T := TX0) (N := 7) hx hb hts inlX0 hown hK hP 2 rfl rfl 0 (by decide) w1_ (fun _ h9 => h9) rfl dX8_stepsToFail_80 ?_
      refine lv_iload hx hb dX8_stepsToFail_83 (lv_at hl 2 rfl) ?_
      refine lv_iload hx hb dX8_stepsToFail_85 (lv_at hl 4 rfl) ?_
      refine lv_iadd hx hb dX8_stepsToFail_87 ?_
      refine lv_topi (fun x2 e2 => ?_)
      replace hf := nm_at hf e2
      have b3 := bd_in hf
      replace hf := bd_k hf
      refine va_iald hx hb hK hP 3 1 rfl rfl b3 dX8_stepsToFail_88 ?_
      refine lv_topi (fun x4 e4 => ?_)
      replace hf := nm_at hf e4
      refine lv_aload_n hx hb dX8_stepsToFail_89 rfl (lv_at hl 0 rfl) ?_
      refine va_get (D := (dC, dI)) (ci := 8) (v := .ref h1) (C := RX8) (T := TX8) (N := 13) hx hb hts inlX8 hown hK hP 0 rfl rfl 9 (by decide) w2_ (fun _ h9 => h9) rfl dX8_stepsToFail_90 ?_
      refine lv_iload_n hx hb dX8_stepsToFail_93 rfl (lv_at hl 1 rfl) ?_
      refine lv_iload hx hb dX8_stepsToFail_94 (lv_at hl 4 rfl) ?_
      refine lv_iadd hx hb dX8_stepsToFail_96 ?_
      refine lv_topi (fun x5 e5 => ?_)
      replace hf := nm_at hf e5
      have b6 := bd_in hf
      replace hf := bd_k hf
      refine va_iald hx hb hK hP 1 0 rfl rfl b6 dX8_stepsToFail_97 ?_
      refine lv_topi (fun x7 e7 => ?_)
      replace hf := nm_at hf e7
      obtain ⟨o8, e8, hf⟩ := ob_some hf
      refine kSNi (As := [.int x4, .int x7]) (rest := [.int y5]) ⟨hx, hb, hml, hown, hts⟩ (mX10_sum l dC dI H.size base x4 x7 o8 e8) ⟨va_cnB 2 hts (gT q343) rfl rfl rfl hE.2.1.2.1 (hts _ q2) (by decide +kernel) ⟨Nat.le_of_ble_eq_true rfl, Nat.le_of_ble_eq_true rfl⟩, hts _ q342, trivial⟩ hK hP hD hS hA hE hAB [] [0, 1, 2, 3] [] (wr := (wX8_stepsToFail h0 h1 h2 h3 kc1 kc3 V0 V2 v0_open c1 c3)) rfl rfl (by decide) (by decide) (by decide) rfl rfl hl.1 rfl (Nat.le_of_ble_eq_true rfl) dX8_stepsToFail_98 ⟨Nat.zero_le _, Nat.zero_le _⟩ (fun r8 u8 H locs hw8 hP hD hS => ?_)
      obtain ⟨hw81, hw82⟩ := hw8
      subst hw81 hw82
      have hP : va_P (dC, dI) vwCl (wX8_stepsToFail h0 h1 h2 h3 kc1 kc3 V0 V2 v0_open c1 c3) H := hP.sub [0, 1, 2, 3] rfl
      have hD : va_D A (wX8_stepsToFail h0 h1 h2 h3 kc1 kc3 V0 V2 v0_open c1 c3) := hD.sub [0, 1, 2, 3] (by decide) rfl
      refine va_mmin hx hb (by rw [hml]; exact hl.1.symm) hown w3_ w4_ w5_ w6_ (Nat.le_of_ble_eq_true rfl) (Nat.le_of_ble_eq_true rfl) (Nat.zero_le _) (Nat.zero_le _) dX8_stepsToFail_101 ?_
      refine lv_topi (fun x9 e9 => ?_)
      replace hf := nm_at hf e9
      refine lv_istore (lv' := [(5, .int x9), (0, .ref h0), (3, .int y3), (4, .int y4), (6, .int y6)]) hx hb dX8_stepsToFail_104 hl (by decide) rfl (fun ls hl => ?_)
      obtain ⟨x10, e10⟩ : ∃ y : Int32, y = y6 + 1 := ⟨_, rfl⟩
      replace hf := nm_at hf e10
      refine lv_iinc (v := x10) (lv' := [(6, .int x10), (5, .int x9), (0, .ref h0), (3, .int y3), (4, .int y4)]) hx hb dX8_stepsToFail_106 hl (k := 4) rfl (by rw [e10]; rfl) (by decide) rfl (fun ls hl => ?_)
      refine lv_goto (tgt := 67) hx hb dX8_stepsToFail_109 (by decide) ?_
      exact (hG _ _ _ _ _).mp (hk67 y3 y4 x9 x10 H locs ls (hP.sub [0, 1, 2, 3] rfl) (hD.sub [0, 1, 2, 3] (by decide) rfl) hS (lv_sub hl [2, 3, 4, 1, 0] rfl) hf)
  have L67 : ∀ (n : Nat), ∀ (y3 : Int32) (y4 : Int32) (y5 : Int32) (y6 : Int32) (H : Heap) (locs : List Loc) (ls : Array Slot), va_P (dC, dI) vwCl (wX8_stepsToFail h0 h1 h2 h3 kc1 kc3 V0 V2 v0_open c1 c3) H → va_D A (wX8_stepsToFail h0 h1 h2 h3 kc1 kc3 V0 V2 v0_open c1 c3) → va_S A s.heap H locs → lv_has ls 7 [(0, .ref h0), (3, .int y3), (4, .int y4), (5, .int y5), (6, .int y6)] → fX8_stepsToFail_l67 v0_open c1 c3  n y3 y4 y5 y6 = some o → G 0 0 H locs (F0 m 67 ls []) := by
    intro  n
    induction n with
    | zero => intro y3 y4 y5 y6 H locs ls _ _ _ _ hf; cases hf
    | succ n ih => exact B67  _ ih
  have J41 : ∀ (z0 : Int32) (H : Heap) (locs : List Loc) (ls : Array Slot), va_P (dC, dI) vwCl (wX8_stepsToFail h0 h1 h2 h3 kc1 kc3 V0 V2 v0_open c1 c3) H → va_D A (wX8_stepsToFail h0 h1 h2 h3 kc1 kc3 V0 V2 v0_open c1 c3) → va_S A s.heap H locs → lv_has ls 7 [(0, .ref h0)] → fX8_stepsToFail_p41 v0_open c1 c3  z0 = some o → G 0 0 H locs (F0 m 41 ls [.int z0]) := by
    intro  z0 H locs ls hP hD hS hl hf
    refine (hG _ _ _ _ _).mpr ?_
    unfold fX8_stepsToFail_p41 at hf
    have hf1 := Option.some.inj hf
    subst hf1
    have hP9 := hP.sub (ws' := (wX8_stepsToFail h0 h1 h2 h3 kc1 kc3 V0 V2 v0_open c1 c3)) [0, 1, 2, 3] rfl
    have hD9 := hD.sub (ws' := (wX8_stepsToFail h0 h1 h2 h3 kc1 kc3 V0 V2 v0_open c1 c3)) [0, 1, 2, 3] (by decide) rfl
    exact W.iret (v := z0) hx hb hr (fun t ht hW => ⟨⟨z0, (), rfl, ⟨rfl, rfl⟩, by rw [ht]; exact hP9, va_K.moved hW.alike hK, hD9⟩, hS.F ht⟩) hS.2.2 dX8_stepsToFail_41
  refine (hG _ _ _ _ _).mpr ?_
  obtain ⟨H, hH⟩ : ∃ H, H = s.heap := ⟨_, rfl⟩
  have hS : va_S A s.heap H [] := by rw [hH]; exact hS
  rw [← hH] at hP ⊢
  generalize ([] : List Loc) = locs at hS ⊢
  unfold fX8_stepsToFail at hf
  refine lv_aload_n hx hb dX8_stepsToFail_0 rfl (lv_at hl 0 rfl) ?_
  refine va_get (D := (dC, dI)) (ci := 8) (v := .int v0_open) (C := RX8) (T := TX8) (N := 13) hx hb hts inlX8 hown hK hP 0 rfl rfl 10 (by decide) w7_ (fun _ h9 => h9) rfl dX8_stepsToFail_1 ?_
  refine lv_bipush (v := 8) hx hb dX8_stepsToFail_4 (by decide +kernel) ?_
  refine lv_imul hx hb dX8_stepsToFail_6 ?_
  refine lv_topi (fun x11 e11 => ?_)
  replace hf := nm_at hf e11
  refine lv_istore_n (lv' := [(3, .int x11), (0, .ref h0), (1, .int a0), (2, .int a1)]) hx hb dX8_stepsToFail_7 rfl hl (by decide) rfl (fun ls hl => ?_)
  refine lv_iload_n hx hb dX8_stepsToFail_8 rfl (lv_at hl 2 rfl) ?_
  refine lv_iconst (v := (-1)) hx hb dX8_stepsToFail_9 (by decide +kernel) ?_
  refine lv_icmp_ne (tgt := 25) hx hb dX8_stepsToFail_10 (by decide) (fun cq12 => ?_) (fun cq12 => ?_)
  · replace hf := if_no hf cq12
    refine lv_iload_n hx hb dX8_stepsToFail_25 rfl (lv_at hl 2 rfl) ?_
    refine lv_if_ge (tgt := 42) hx hb dX8_stepsToFail_26 (by decide) (fun cq13 => ?_) (fun cq13 => ?_)
    · replace hf := if_at hf cq13
      refine lv_iload_n hx hb dX8_stepsToFail_42 rfl (lv_at hl 2 rfl) ?_
      refine lv_iload_n hx hb dX8_stepsToFail_43 rfl (lv_at hl 3 rfl) ?_
      obtain ⟨o14, e14, hf⟩ := ob_some hf
      refine kSi (As := [.int a0, .int a1]) (rest := []) ⟨hx, hb, hml, hown, hts⟩ (mX0_row l dC dI H.size base a0 a1 o14 e14) (va_cwS 2 hts (gTS q1088 q1010 q946 q1011) rfl rfl rfl (by decide +kernel) ⟨Nat.le_of_ble_eq_true rfl, Nat.le_of_ble_eq_true rfl⟩) hK hP hD hS hA hE hAB [] [0, 1, 2, 3] [] (wr := (wX8_stepsToFail h0 h1 h2 h3 kc1 kc3 V0 V2 v0_open c1 c3)) rfl rfl (by decide) (by decide) (by decide) rfl rfl hl.1 rfl (Nat.le_of_ble_eq_true rfl) dX8_stepsToFail_44 ⟨Nat.zero_le _, Nat.zero_le _⟩ (fun r14 u14 H locs hw14 hP hD hS => ?_)
      obtain ⟨hw141, hw142⟩ := hw14
      subst hw141 hw142
      have hP : va_P (dC, dI) vwCl (wX8_stepsToFail h0 h1 h2 h3 kc1 kc3 V0 V2 v0_open c1 c3) H := hP.sub [0, 1, 2, 3] rfl
      have hD : va_D A (wX8_stepsToFail h0 h1 h2 h3 kc1 kc3 V0 V2 v0_open c1 c3) := hD.sub [0, 1, 2, 3] (by decide) rfl
      refine lv_istore (lv' := [(4, .int o14.1), (3, .int x11), (0, .ref h0), (1, .int a0), (2, .int a1)]) hx hb dX8_stepsToFail_47 hl (by decide) rfl (fun ls hl => ?_)
      refine lv_aload_n hx hb dX8_stepsToFail_49 rfl (lv_at hl 2 rfl) ?_
      refine va_get (D := (dC, dI)) (ci := 8) (v := .ref h2) (C := RX8) (T := TX8) (N := 13) hx hb hts inlX8 hown hK hP 0 rfl rfl 1 (by decide) w0_ (fun _ h9 => h9) rfl dX8_stepsToFail_50 ?_
      refine va_get (D := (dC, dI)) (ci := 0) (v := .ref h3) (C := RX0) (T := TX0) (N := 7) hx hb hts inlX0 hown hK hP 2 rfl rfl 0 (by decide) w1_ (fun _ h9 => h9) rfl dX8_stepsToFail_53 ?_
      refine lv_iload hx hb dX8_stepsToFail_56 (lv_at hl 0 rfl) ?_
      refine lv_bipush (v := 8) hx hb dX8_stepsToFail_58 (by decide +kernel) ?_
      refine lv_iadd hx hb dX8_stepsToFail_60 ?_
      refine lv_topi (fun x15 e15 => ?_)
      replace hf := nm_at hf e15
      have b16 := bd_in hf
      replace hf := bd_k hf
      refine va_iald hx hb hK hP 3 1 rfl rfl b16 dX8_stepsToFail_61 ?_
      refine lv_topi (fun x17 e17 => ?_)
      replace hf := nm_at hf e17
      refine lv_istore (lv' := [(5, .int x17), (4, .int o14.1), (3, .int x11), (0, .ref h0), (1, .int a0), (2, .int a1)]) hx hb dX8_stepsToFail_62 hl (by decide) rfl (fun ls hl => ?_)
      refine lv_iconst (v := 0) hx hb dX8_stepsToFail_64 (by decide +kernel) ?_
      refine lv_istore (lv' := [(6, .int 0), (5, .int x17), (4, .int o14.1), (3, .int x11), (0, .ref h0), (1, .int a0), (2, .int a1)]) hx hb dX8_stepsToFail_65 hl (by decide) rfl (fun ls hl => ?_)
      exact (hG _ _ _ _ _).mp (L67 FU x11 o14.1 x17 0 H locs ls (hP.sub [0, 1, 2, 3] rfl) (hD.sub [0, 1, 2, 3] (by decide) rfl) hS (lv_sub hl [4, 3, 2, 1, 0] rfl) hf)
    · replace hf := if_no hf cq13
      refine lv_iload_n hx hb dX8_stepsToFail_29 rfl (lv_at hl 2 rfl) ?_
      refine lv_bipush (v := (-2)) hx hb dX8_stepsToFail_30 (by decide +kernel) ?_
      refine lv_icmp_ne (tgt := 39) hx hb dX8_stepsToFail_32 (by decide) (fun cq18 => ?_) (fun cq18 => ?_)
      · replace hf := if_no hf cq18
        refine lv_ldc (v := 536870912) hx hb hown w8_ dX8_stepsToFail_39 ?_
        exact (hG _ _ _ _ _).mp (J41 536870912 H locs ls (hP.sub [0, 1, 2, 3] rfl) (hD.sub [0, 1, 2, 3] (by decide) rfl) hS (lv_sub hl [1] rfl) hf)
      · replace hf := if_at hf cq18
        refine lv_iconst (v := 0) hx hb dX8_stepsToFail_35 (by decide +kernel) ?_
        refine lv_goto (tgt := 41) hx hb dX8_stepsToFail_36 (by decide) ?_
        exact (hG _ _ _ _ _).mp (J41 0 H locs ls (hP.sub [0, 1, 2, 3] rfl) (hD.sub [0, 1, 2, 3] (by decide) rfl) hS (lv_sub hl [1] rfl) hf)
  · replace hf := if_at hf cq12
    refine lv_aload_n hx hb dX8_stepsToFail_13 rfl (lv_at hl 1 rfl) ?_
    refine va_get (D := (dC, dI)) (ci := 8) (v := .ref h1) (C := RX8) (T := TX8) (N := 13) hx hb hts inlX8 hown hK hP 0 rfl rfl 9 (by decide) w2_ (fun _ h9 => h9) rfl dX8_stepsToFail_14 ?_
    refine lv_iload_n hx hb dX8_stepsToFail_17 rfl (lv_at hl 0 rfl) ?_
    refine lv_iload_n hx hb dX8_stepsToFail_18 rfl (lv_at hl 3 rfl) ?_
    refine lv_bipush (v := 7) hx hb dX8_stepsToFail_19 (by decide +kernel) ?_
    refine lv_iand hx hb dX8_stepsToFail_21 ?_
    refine lv_topi (fun x19 e19 => ?_)
    replace hf := nm_at hf e19
    refine lv_iadd hx hb dX8_stepsToFail_22 ?_
    refine lv_topi (fun x20 e20 => ?_)
    replace hf := nm_at hf e20
    have b21 := bd_in hf
    replace hf := bd_k hf
    refine va_iald hx hb hK hP 1 0 rfl rfl b21 dX8_stepsToFail_23 ?_
    refine lv_topi (fun x22 e22 => ?_)
    replace hf := nm_at hf e22
    have hf1 := Option.some.inj hf
    subst hf1
    have hP9 := hP.sub (ws' := (wX8_stepsToFail h0 h1 h2 h3 kc1 kc3 V0 V2 v0_open c1 c3)) [0, 1, 2, 3] rfl
    have hD9 := hD.sub (ws' := (wX8_stepsToFail h0 h1 h2 h3 kc1 kc3 V0 V2 v0_open c1 c3)) [0, 1, 2, 3] (by decide) rfl
    exact W.iret (v := x22) hx hb hr (fun t ht hW => ⟨⟨x22, (), rfl, ⟨rfl, rfl⟩, by rw [ht]; exact hP9, va_K.moved hW.alike hK, hD9⟩, hS.F ht⟩) hS.2.2 dX8_stepsToFail_24
abbrev wX8_openCall (h0 h1 h2 h3 h4 h5 h6 h7 h8 h9 h10 : Nat) (kc2 kc3 kc4 kc6 kc7 kc8 kc9 kc10 : ClassId) (V0 : Nat → Value) (V1 : Nat → Value) (V5 : Nat → Value) (v0_open : Int32) (v0_point : Int32) (v0_setting : Int32) (c2 : Nat → Int32) (c3 : Nat → Int32) (c4 : Nat → Int32) (c6 : Nat → Int32) (c7 : Nat → Int32) (c8 : Nat → Int32) (c9 : Nat → Int32) (c10 : Nat → Int32) : va_W := [(h0, .inr (8, [.ref h1, .ref h5, V0 2, V0 3, V0 4, V0 5, V0 6, .ref h7, .ref h8, .ref h4, .int v0_open, .int v0_point, .int v0_setting])), (h1, .inr (3, [V1 0, V1 1, V1 2, V1 3, .ref h10, V1 5, V1 6, V1 7, V1 8, V1 9, .ref h9, .ref h2, .ref h3, V1 13, V1 14, V1 15, V1 16, V1 17])), (h2, .inl (kc2, 40, .inl c2)), (h3, .inl (kc3, 40, .inl c3)), (h4, .inl (kc4, 16008, .inl c4)), (h5, .inr (0, [.ref h6, V5 1, V5 2, V5 3, V5 4, V5 5, V5 6])), (h6, .inl (kc6, 11520, .inl c6)), (h7, .inl (kc7, 2001, .inl c7)), (h8, .inl (kc8, 2001, .inl c8)), (h9, .inl (kc9, 40, .inl c9)), (h10, .inl (kc10, 6, .inl c10))]
set_option maxHeartbeats 4000000 in
set_option maxRecDepth 100000 in
theorem mX8_openCall (l : Launch) (dC : Nat → ClassId) (dI : Nat → Nat → Nat) (h0 h1 h2 h3 h4 h5 h6 h7 h8 h9 h10 : Nat) (kc2 kc3 kc4 kc6 kc7 kc8 kc9 kc10 : ClassId) (sz : Nat) (base : Nat × Nat × Nat) (a0 : Int32) (v0_open : Int32) (v0_point : Int32) (v0_setting : Int32) (c2 : Nat → Int32) (c3 : Nat → Int32) (c4 : Nat → Int32) (c6 : Nat → Int32) (c7 : Nat → Int32) (c8 : Nat → Int32) (c9 : Nat → Int32) (c10 : Nat → Int32) (V0 : Nat → Value) (V1 : Nat → Value) (V5 : Nat → Value) (o : Int32 × Int32 × Int32 × (Nat → Int32) × (Nat → Int32) × (Nat → Int32)) (hf : fX8_openCall a0 v0_open v0_point v0_setting c2 c3 c4 c6 c7 c8 c9 c10 = some o) : Met l yX8_openCall (.code yX8_openCall cX8_openCall 6 none :: wsL_law) ({ frames := 3, cells := 0, slots := 0, locals := 68 }) (cPre (dC, dI) vwCl [.ref h0, .int a0] sz base (wX8_openCall h0 h1 h2 h3 h4 h5 h6 h7 h8 h9 h10 kc2 kc3 kc4 kc6 kc7 kc8 kc9 kc10 V0 V1 V5 v0_open v0_point v0_setting c2 c3 c4 c6 c7 c8 c9 c10) [(kc2, .int), (kc3, .int), (kc4, .int), (kc6, .int), (kc7, .int), (kc8, .int), (kc9, .int), (kc10, .int)]) (va_Qv (fun u => u = o) (fun (u : Int32 × Int32 × Int32 × (Nat → Int32) × (Nat → Int32) × (Nat → Int32)) t => cPost (dC, dI) vwCl (va_A (wX8_openCall h0 h1 h2 h3 h4 h5 h6 h7 h8 h9 h10 kc2 kc3 kc4 kc6 kc7 kc8 kc9 kc10 V0 V1 V5 v0_open v0_point v0_setting c2 c3 c4 c6 c7 c8 c9 c10) sz) (wX8_openCall h0 h1 h2 h3 h4 h5 h6 h7 h8 h9 h10 kc2 kc3 kc4 kc6 kc7 kc8 kc9 kc10 V0 V1 V5 u.1 u.2.1 u.2.2.1 c2 c3 u.2.2.2.1 c6 u.2.2.2.2.1 u.2.2.2.2.2 c9 c10) [(kc2, .int), (kc3, .int), (kc4, .int), (kc6, .int), (kc7, .int), (kc8, .int), (kc9, .int), (kc10, .int)] t) (va_A (wX8_openCall h0 h1 h2 h3 h4 h5 h6 h7 h8 h9 h10 kc2 kc3 kc4 kc6 kc7 kc8 kc9 kc10 V0 V1 V5 v0_open v0_point v0_setting c2 c3 c4 c6 c7 c8 c9 c10) sz)) 0 0 (va_A (wX8_openCall h0 h1 h2 h3 h4 h5 h6 h7 h8 h9 h10 kc2 kc3 kc4 kc6 kc7 kc8 kc9 kc10 V0 V1 V5 v0_open v0_point v0_setting c2 c3 c4 c6 c7 c8 c9 c10) sz) := by
  refine Met.ofW (cc := cX8_openCall) (maxL := 6) (ret := none) (by decide) rfl ?_
  intro p e s m args below meth c s₁ B hml hv
  obtain ⟨rfl, hsz, hP, hK, hD0, hE⟩ := hv
  have hx := B.exec
  have hb := B.bytes
  have hr := B.returns
  have hts : ∀ w ∈ wsL_law, _ := fun w h => atoms_spec (ws := .code yX8_openCall cX8_openCall 6 none :: wsL_law) B.pre w (List.mem_cons_of_mem _ h)
  have hown : s.vm.findClass RX8 = some m.cls := findClass_of_methodNamed B.named
  have hlocks := B.notSynchronized
  have w0_ := hts _ q1069
  have w1_ := hts _ q1060
  have w2_ := hts _ q1061
  have w3_ := hts _ q1071
  have w4_ := hts _ q1063
  have w5_ := hts _ q1079
  have w6_ := hts _ q1080
  have w7_ := hts _ q1070
  have w8_ := hts _ q1062
  subst hsz
  have hD := hD0.self (sz := s.heap.size)
  generalize hAe : va_A (wX8_openCall h0 h1 h2 h3 h4 h5 h6 h7 h8 h9 h10 kc2 kc3 kc4 kc6 kc7 kc8 kc9 kc10 V0 V1 V5 v0_open v0_point v0_setting c2 c3 c4 c6 c7 c8 c9 c10) s.heap.size = A at hD ⊢
  have hA : ∀ q : Nat, s.heap.size ≤ q → A q := fun q h => by rw [← hAe]; exact Or.inr h
  have hAB : ∀ q : Nat, A q → base.1 ≤ q := fun q h => by rw [← hAe] at h; exact h.elim (fun ⟨k, e, hk⟩ => hD0.2 k _ hk) (fun hk => Nat.le_trans hE.1 hk)
  have hS : va_S A s.heap s.heap [] := va_S.rf
  have hl := lv_entry ([.ref h0, .int a0]) (n := 6) (Nat.le_of_ble_eq_true rfl)
  rw [lg_entry_eq]
  generalize (lg_sl ([.ref h0, .int a0]) ++ List.replicate (6 - (lg_sl ([.ref h0, .int a0])).length) Slot.unset).toArray = ls at hl ⊢
  have hl : lv_has ls 6 [(0, .ref h0), (1, .int a0)] := hl
  have hP : va_P (dC, dI) vwCl (wX8_openCall h0 h1 h2 h3 h4 h5 h6 h7 h8 h9 h10 kc2 kc3 kc4 kc6 kc7 kc8 kc9 kc10 V0 V1 V5 v0_open v0_point v0_setting c2 c3 c4 c6 c7 c8 c9 c10) s.heap := hP
  refine gl_intro (fun G hG => ?_)
  have B43 : ∀ (k43 : Int32 → Int32 → Int32 → Int32 → Int32 → Int32 → Int32 → Int32 → (Nat → Int32) → (Nat → Int32) → (Nat → Int32) → Option (Int32 × Int32 × Int32 × (Nat → Int32) × (Nat → Int32) × (Nat → Int32))) (hk43 : ∀ (y1 : Int32) (y2 : Int32) (y3 : Int32) (y4 : Int32) (y5 : Int32) (v0_open : Int32) (v0_point : Int32) (v0_setting : Int32) (c4 : (Nat → Int32)) (c7 : (Nat → Int32)) (c8 : (Nat → Int32)) (H : Heap) (locs : List Loc) (ls : Array Slot), va_P (dC, dI) vwCl (wX8_openCall h0 h1 h2 h3 h4 h5 h6 h7 h8 h9 h10 kc2 kc3 kc4 kc6 kc7 kc8 kc9 kc10 V0 V1 V5 v0_open v0_point v0_setting c2 c3 c4 c6 c7 c8 c9 c10) H → va_D A (wX8_openCall h0 h1 h2 h3 h4 h5 h6 h7 h8 h9 h10 kc2 kc3 kc4 kc6 kc7 kc8 kc9 kc10 V0 V1 V5 v0_open v0_point v0_setting c2 c3 c4 c6 c7 c8 c9 c10) → va_S A s.heap H locs → lv_has ls 6 [(0, .ref h0), (1, .int y1), (2, .int y2), (3, .int y3), (4, .int y4), (5, .int y5)] → k43 y1 y2 y3 y4 y5 v0_open v0_point v0_setting c4 c7 c8 = some o → G 0 0 H locs (F0 m 43 ls [])), ∀ (y1 : Int32) (y2 : Int32) (y3 : Int32) (y4 : Int32) (y5 : Int32) (v0_open : Int32) (v0_point : Int32) (v0_setting : Int32) (c4 : (Nat → Int32)) (c7 : (Nat → Int32)) (c8 : (Nat → Int32)) (H : Heap) (locs : List Loc) (ls : Array Slot), va_P (dC, dI) vwCl (wX8_openCall h0 h1 h2 h3 h4 h5 h6 h7 h8 h9 h10 kc2 kc3 kc4 kc6 kc7 kc8 kc9 kc10 V0 V1 V5 v0_open v0_point v0_setting c2 c3 c4 c6 c7 c8 c9 c10) H → va_D A (wX8_openCall h0 h1 h2 h3 h4 h5 h6 h7 h8 h9 h10 kc2 kc3 kc4 kc6 kc7 kc8 kc9 kc10 V0 V1 V5 v0_open v0_point v0_setting c2 c3 c4 c6 c7 c8 c9 c10) → va_S A s.heap H locs → lv_has ls 6 [(0, .ref h0), (1, .int y1), (2, .int y2), (3, .int y3), (4, .int y4), (5, .int y5)] → fX8_openCall_b43 c2 c3 c6 c9 c10  k43 y1 y2 y3 y4 y5 v0_open v0_point v0_setting c4 c7 c8 = some o → G 0 0 H locs (F0 m 43 ls []) := by
    intro  k43 hk43 y1 y2 y3 y4 y5 v0_open v0_point v0_setting c4 c7 c8 H locs ls hP hD hS hl hf
    refine (hG _ _ _ _ _).mpr ?_
    unfold fX8_openCall_b43 at hf
    refine lv_iload hx hb dX8_openCall_43 (lv_at hl 5 rfl) ?_
    refine lv_bipush (v := 8) hx hb dX8_openCall_45 (by decide +kernel) ?_
    refine lv_icmp_ge (tgt := 75) hx hb dX8_openCall_47 (by decide) (fun cq1 => ?_) (fun cq1 => ?_)
    · replace hf := if_at hf cq1
      refine lv_aload_n hx hb dX8_openCall_75 rfl (lv_at hl 0 rfl) ?_
      refine lv_dup hx hb dX8_openCall_76 rfl ?_
      refine va_get (D := (dC, dI)) (ci := 8) (v := .int v0_open) (C := RX8) (T := TX8) (N := 13) hx hb hts inlX8 hown hK hP 0 rfl rfl 10 (by decide) w0_ (fun _ h9 => h9) rfl dX8_openCall_77 ?_
      refine lv_iconst (v := 1) hx hb dX8_openCall_80 (by decide +kernel) ?_
      refine lv_iadd hx hb dX8_openCall_81 ?_
      refine lv_topi (fun x2 e2 => ?_)
      replace hf := nm_at hf e2
      refine va_put (D := (dC, dI)) (ci := 8) (v := .int x2) (ty := .int) (C := RX8) (T := TX8) (N := 13) hx hb hts inlX8 tyX8 tyX8_ok nmX8 hown hK hP hD hS 0 rfl rfl 10 (by decide) w0_ (fun _ h9 => h9) rfl (by decide +kernel) rfl rfl (Nat.le_of_ble_eq_true rfl) dX8_openCall_82 (fun H locs hP hD hS => ?_)
      have hP : va_P (dC, dI) vwCl (wX8_openCall h0 h1 h2 h3 h4 h5 h6 h7 h8 h9 h10 kc2 kc3 kc4 kc6 kc7 kc8 kc9 kc10 V0 V1 V5 x2 v0_point v0_setting c2 c3 c4 c6 c7 c8 c9 c10) H := hP
      have hD : va_D A (wX8_openCall h0 h1 h2 h3 h4 h5 h6 h7 h8 h9 h10 kc2 kc3 kc4 kc6 kc7 kc8 kc9 kc10 V0 V1 V5 x2 v0_point v0_setting c2 c3 c4 c6 c7 c8 c9 c10) := hD
      refine lv_aload_n hx hb dX8_openCall_85 rfl (lv_at hl 0 rfl) ?_
      refine va_get (D := (dC, dI)) (ci := 8) (v := .ref h7) (C := RX8) (T := TX8) (N := 13) hx hb hts inlX8 hown hK hP 0 rfl rfl 7 (by decide) w1_ (fun _ h9 => h9) rfl dX8_openCall_86 ?_
      refine lv_aload_n hx hb dX8_openCall_89 rfl (lv_at hl 0 rfl) ?_
      refine va_get (D := (dC, dI)) (ci := 8) (v := .int x2) (C := RX8) (T := TX8) (N := 13) hx hb hts inlX8 hown hK hP 0 rfl rfl 10 (by decide) w0_ (fun _ h9 => h9) rfl dX8_openCall_90 ?_
      refine lv_iload_n hx hb dX8_openCall_93 rfl (lv_at hl 2 rfl) ?_
      have b3 := bd_in hf
      replace hf := bd_k hf
      obtain ⟨c3x, e3⟩ : ∃ y, y = upd c7 x2.toNatClampNeg y2 := ⟨_, rfl⟩
      replace hf := nm_at hf e3
      refine va_iast hx hb hK hP hD hS 7 4 rfl rfl b3 dX8_openCall_94 (fun H locs hP hD hS => ?_)
      have hP : va_P (dC, dI) vwCl (wX8_openCall h0 h1 h2 h3 h4 h5 h6 h7 h8 h9 h10 kc2 kc3 kc4 kc6 kc7 kc8 kc9 kc10 V0 V1 V5 x2 v0_point v0_setting c2 c3 c4 c6 c3x c8 c9 c10) H := by rw [e3]; exact hP
      have hD : va_D A (wX8_openCall h0 h1 h2 h3 h4 h5 h6 h7 h8 h9 h10 kc2 kc3 kc4 kc6 kc7 kc8 kc9 kc10 V0 V1 V5 x2 v0_point v0_setting c2 c3 c4 c6 c3x c8 c9 c10) := by rw [e3]; exact hD
      refine lv_aload_n hx hb dX8_openCall_95 rfl (lv_at hl 0 rfl) ?_
      refine va_get (D := (dC, dI)) (ci := 8) (v := .ref h8) (C := RX8) (T := TX8) (N := 13) hx hb hts inlX8 hown hK hP 0 rfl rfl 8 (by decide) w2_ (fun _ h9 => h9) rfl dX8_openCall_96 ?_
      refine lv_aload_n hx hb dX8_openCall_99 rfl (lv_at hl 0 rfl) ?_
      refine va_get (D := (dC, dI)) (ci := 8) (v := .int x2) (C := RX8) (T := TX8) (N := 13) hx hb hts inlX8 hown hK hP 0 rfl rfl 10 (by decide) w0_ (fun _ h9 => h9) rfl dX8_openCall_100 ?_
      refine lv_iload_n hx hb dX8_openCall_103 rfl (lv_at hl 3 rfl) ?_
      have b4 := bd_in hf
      replace hf := bd_k hf
      obtain ⟨c4x, e4⟩ : ∃ y, y = upd c8 x2.toNatClampNeg y3 := ⟨_, rfl⟩
      replace hf := nm_at hf e4
      refine va_iast hx hb hK hP hD hS 8 5 rfl rfl b4 dX8_openCall_104 (fun H locs hP hD hS => ?_)
      have hP : va_P (dC, dI) vwCl (wX8_openCall h0 h1 h2 h3 h4 h5 h6 h7 h8 h9 h10 kc2 kc3 kc4 kc6 kc7 kc8 kc9 kc10 V0 V1 V5 x2 v0_point v0_setting c2 c3 c4 c6 c3x c4x c9 c10) H := by rw [e4]; exact hP
      have hD : va_D A (wX8_openCall h0 h1 h2 h3 h4 h5 h6 h7 h8 h9 h10 kc2 kc3 kc4 kc6 kc7 kc8 kc9 kc10 V0 V1 V5 x2 v0_point v0_setting c2 c3 c4 c6 c3x c4x c9 c10) := by rw [e4]; exact hD
      refine lv_aload_n hx hb dX8_openCall_105 rfl (lv_at hl 0 rfl) ?_
      refine lv_dup hx hb dX8_openCall_106 rfl ?_
      refine va_get (D := (dC, dI)) (ci := 8) (v := .int v0_setting) (C := RX8) (T := TX8) (N := 13) hx hb hts inlX8 hown hK hP 0 rfl rfl 12 (by decide) w3_ (fun _ h9 => h9) rfl dX8_openCall_107 ?_
      refine lv_bipush (v := 7) hx hb dX8_openCall_110 (by decide +kernel) ?_
      refine lv_iand hx hb dX8_openCall_112 ?_
      refine lv_topi (fun x5 e5 => ?_)
      replace hf := nm_at hf e5
      refine va_put (D := (dC, dI)) (ci := 8) (v := .int x5) (ty := .int) (C := RX8) (T := TX8) (N := 13) hx hb hts inlX8 tyX8 tyX8_ok nmX8 hown hK hP hD hS 0 rfl rfl 12 (by decide) w3_ (fun _ h9 => h9) rfl (by decide +kernel) rfl rfl (Nat.le_of_ble_eq_true rfl) dX8_openCall_113 (fun H locs hP hD hS => ?_)
      have hP : va_P (dC, dI) vwCl (wX8_openCall h0 h1 h2 h3 h4 h5 h6 h7 h8 h9 h10 kc2 kc3 kc4 kc6 kc7 kc8 kc9 kc10 V0 V1 V5 x2 v0_point x5 c2 c3 c4 c6 c3x c4x c9 c10) H := hP
      have hD : va_D A (wX8_openCall h0 h1 h2 h3 h4 h5 h6 h7 h8 h9 h10 kc2 kc3 kc4 kc6 kc7 kc8 kc9 kc10 V0 V1 V5 x2 v0_point x5 c2 c3 c4 c6 c3x c4x c9 c10) := hD
      refine lv_aload_n hx hb dX8_openCall_116 rfl (lv_at hl 0 rfl) ?_
      refine lv_aload_n hx hb dX8_openCall_117 rfl (lv_at hl 0 rfl) ?_
      refine va_get (D := (dC, dI)) (ci := 8) (v := .ref h1) (C := RX8) (T := TX8) (N := 13) hx hb hts inlX8 hown hK hP 0 rfl rfl 0 (by decide) w4_ (fun _ h9 => h9) rfl dX8_openCall_118 ?_
      refine va_get (D := (dC, dI)) (ci := 3) (v := .ref h10) (C := RX3) (T := TX3) (N := 18) hx hb hts inlX3 hown hK hP 1 rfl rfl 4 (by decide) w5_ (fun _ h9 => h9) rfl dX8_openCall_121 ?_
      refine lv_aload_n hx hb dX8_openCall_124 rfl (lv_at hl 0 rfl) ?_
      refine va_get (D := (dC, dI)) (ci := 8) (v := .ref h1) (C := RX8) (T := TX8) (N := 13) hx hb hts inlX8 hown hK hP 0 rfl rfl 0 (by decide) w4_ (fun _ h9 => h9) rfl dX8_openCall_125 ?_
      refine va_get (D := (dC, dI)) (ci := 3) (v := .ref h9) (C := RX3) (T := TX3) (N := 18) hx hb hts inlX3 hown hK hP 1 rfl rfl 10 (by decide) w6_ (fun _ h9 => h9) rfl dX8_openCall_128 ?_
      refine lv_iload_n hx hb dX8_openCall_131 rfl (lv_at hl 1 rfl) ?_
      have b6 := bd_in hf
      replace hf := bd_k hf
      refine va_iald hx hb hK hP 9 6 rfl rfl b6 dX8_openCall_132 ?_
      refine lv_topi (fun x7 e7 => ?_)
      replace hf := nm_at hf e7
      have b8 := bd_in hf
      replace hf := bd_k hf
      refine va_iald hx hb hK hP 10 7 rfl rfl b8 dX8_openCall_133 ?_
      refine lv_topi (fun x9 e9 => ?_)
      replace hf := nm_at hf e9
      refine va_put (D := (dC, dI)) (ci := 8) (v := .int x9) (ty := .int) (C := RX8) (T := TX8) (N := 13) hx hb hts inlX8 tyX8 tyX8_ok nmX8 hown hK hP hD hS 0 rfl rfl 11 (by decide) w7_ (fun _ h9 => h9) rfl (by decide +kernel) rfl rfl (Nat.le_of_ble_eq_true rfl) dX8_openCall_134 (fun H locs hP hD hS => ?_)
      have hP : va_P (dC, dI) vwCl (wX8_openCall h0 h1 h2 h3 h4 h5 h6 h7 h8 h9 h10 kc2 kc3 kc4 kc6 kc7 kc8 kc9 kc10 V0 V1 V5 x2 x9 x5 c2 c3 c4 c6 c3x c4x c9 c10) H := hP
      have hD : va_D A (wX8_openCall h0 h1 h2 h3 h4 h5 h6 h7 h8 h9 h10 kc2 kc3 kc4 kc6 kc7 kc8 kc9 kc10 V0 V1 V5 x2 x9 x5 c2 c3 c4 c6 c3x c4x c9 c10) := hD
      have hf1 := Option.some.inj hf
      subst hf1
      have hP9 := hP.sub (ws' := (wX8_openCall h0 h1 h2 h3 h4 h5 h6 h7 h8 h9 h10 kc2 kc3 kc4 kc6 kc7 kc8 kc9 kc10 V0 V1 V5 x2 x9 x5 c2 c3 c4 c6 c3x c4x c9 c10)) [0, 1, 2, 3, 4, 5, 6, 7, 8, 9, 10] rfl
      have hD9 := hD.sub (ws' := (wX8_openCall h0 h1 h2 h3 h4 h5 h6 h7 h8 h9 h10 kc2 kc3 kc4 kc6 kc7 kc8 kc9 kc10 V0 V1 V5 x2 x9 x5 c2 c3 c4 c6 c3x c4x c9 c10)) [0, 1, 2, 3, 4, 5, 6, 7, 8, 9, 10] (by decide) rfl
      exact W.vret hx hb hr (fun t ht hW => ⟨⟨(x2, x9, x5, c4, c3x, c4x), rfl, rfl, by rw [ht]; exact hP9, va_K.moved hW.alike hK, hD9⟩, hS.F ht⟩) hS.2.2 dX8_openCall_137
    · replace hf := if_no hf cq1
      refine lv_aload_n hx hb dX8_openCall_50 rfl (lv_at hl 0 rfl) ?_
      refine va_get (D := (dC, dI)) (ci := 8) (v := .ref h4) (C := RX8) (T := TX8) (N := 13) hx hb hts inlX8 hown hK hP 0 rfl rfl 9 (by decide) w8_ (fun _ h9 => h9) rfl dX8_openCall_51 ?_
      refine lv_iload hx hb dX8_openCall_54 (lv_at hl 4 rfl) ?_
      refine lv_iload hx hb dX8_openCall_56 (lv_at hl 5 rfl) ?_
      refine lv_iadd hx hb dX8_openCall_58 ?_
      refine lv_topi (fun x10 e10 => ?_)
      replace hf := nm_at hf e10
      refine lv_aload_n hx hb dX8_openCall_59 rfl (lv_at hl 0 rfl) ?_
      refine lv_iload_n hx hb dX8_openCall_60 rfl (lv_at hl 2 rfl) ?_
      refine lv_iload_n hx hb dX8_openCall_61 rfl (lv_at hl 3 rfl) ?_
      refine lv_iload hx hb dX8_openCall_62 (lv_at hl 5 rfl) ?_
      refine lv_ior hx hb dX8_openCall_64 ?_
      refine lv_topi (fun x11 e11 => ?_)
      replace hf := nm_at hf e11
      obtain ⟨o12, e12, hf⟩ := ob_some hf
      refine kVi (As := [.int y2, .int x11]) (rest := [.int x10, .ref h4]) ⟨hx, hb, hml, hown, hts⟩ (mX8_stepsToFail l dC dI h0 h4 h5 h6 kc4 kc6 H.size base y2 x11 v0_open c4 c6 (fun k => match k with | 0 => .ref h1 | 7 => .ref h7 | 8 => .ref h8 | 11 => .int v0_point | 12 => .int v0_setting | k => V0 k) V5 o12 e12) (cwV 2 hts (gTV q1082 q1083 q1084 q950 q1085) rfl rfl rfl (by decide +kernel) ⟨Nat.le_of_ble_eq_true rfl, Nat.le_of_ble_eq_true rfl⟩) hK hP hD hS hA hE hAB [0, 4, 5, 6] [1, 2, 3, 7, 8, 9, 10] [2, 3] (wr := [(h1, .inr (3, [V1 0, V1 1, V1 2, V1 3, .ref h10, V1 5, V1 6, V1 7, V1 8, V1 9, .ref h9, .ref h2, .ref h3, V1 13, V1 14, V1 15, V1 16, V1 17])), (h2, .inl (kc2, 40, .inl c2)), (h3, .inl (kc3, 40, .inl c3)), (h7, .inl (kc7, 2001, .inl c7)), (h8, .inl (kc8, 2001, .inl c8)), (h9, .inl (kc9, 40, .inl c9)), (h10, .inl (kc10, 6, .inl c10))]) rfl rfl (by decide) (by decide) (by decide) rfl (ci := 8) (q0 := 0) rfl rfl rfl rfl hl.1 rfl (Nat.le_of_ble_eq_true rfl) dX8_openCall_65 ⟨Nat.zero_le _, Nat.zero_le _⟩ (fun r12 u12 H locs hw12 hP hD hS => ?_)
      obtain ⟨hw121, hw122⟩ := hw12
      subst hw121 hw122
      have hP : va_P (dC, dI) vwCl (wX8_openCall h0 h1 h2 h3 h4 h5 h6 h7 h8 h9 h10 kc2 kc3 kc4 kc6 kc7 kc8 kc9 kc10 V0 V1 V5 v0_open v0_point v0_setting c2 c3 c4 c6 c7 c8 c9 c10) H := hP.sub [7, 0, 1, 2, 8, 9, 10, 3, 4, 5, 6] rfl
      have hD : va_D A (wX8_openCall h0 h1 h2 h3 h4 h5 h6 h7 h8 h9 h10 kc2 kc3 kc4 kc6 kc7 kc8 kc9 kc10 V0 V1 V5 v0_open v0_point v0_setting c2 c3 c4 c6 c7 c8 c9 c10) := hD.sub [7, 0, 1, 2, 8, 9, 10, 3, 4, 5, 6] (by decide) rfl
      have b13 := bd_in hf
      replace hf := bd_k hf
      obtain ⟨c13x, e13⟩ : ∃ y, y = upd c4 x10.toNatClampNeg o12.1 := ⟨_, rfl⟩
      replace hf := nm_at hf e13
      refine va_iast hx hb hK hP hD hS 4 2 rfl rfl b13 dX8_openCall_68 (fun H locs hP hD hS => ?_)
      have hP : va_P (dC, dI) vwCl (wX8_openCall h0 h1 h2 h3 h4 h5 h6 h7 h8 h9 h10 kc2 kc3 kc4 kc6 kc7 kc8 kc9 kc10 V0 V1 V5 v0_open v0_point v0_setting c2 c3 c13x c6 c7 c8 c9 c10) H := by rw [e13]; exact hP
      have hD : va_D A (wX8_openCall h0 h1 h2 h3 h4 h5 h6 h7 h8 h9 h10 kc2 kc3 kc4 kc6 kc7 kc8 kc9 kc10 V0 V1 V5 v0_open v0_point v0_setting c2 c3 c13x c6 c7 c8 c9 c10) := by rw [e13]; exact hD
      obtain ⟨x14, e14⟩ : ∃ y : Int32, y = y5 + 1 := ⟨_, rfl⟩
      replace hf := nm_at hf e14
      refine lv_iinc (v := x14) (lv' := [(5, .int x14), (0, .ref h0), (1, .int y1), (2, .int y2), (3, .int y3), (4, .int y4)]) hx hb dX8_openCall_69 hl (k := 5) rfl (by rw [e14]; rfl) (by decide) rfl (fun ls hl => ?_)
      refine lv_goto (tgt := 43) hx hb dX8_openCall_72 (by decide) ?_
      exact (hG _ _ _ _ _).mp (hk43 y1 y2 y3 y4 x14 v0_open v0_point v0_setting c13x c7 c8 H locs ls (hP.sub [0, 1, 2, 3, 4, 5, 6, 7, 8, 9, 10] rfl) (hD.sub [0, 1, 2, 3, 4, 5, 6, 7, 8, 9, 10] (by decide) rfl) hS (lv_sub hl [1, 2, 3, 4, 5, 0] rfl) hf)
  have L43 : ∀ (n : Nat), ∀ (y1 : Int32) (y2 : Int32) (y3 : Int32) (y4 : Int32) (y5 : Int32) (v0_open : Int32) (v0_point : Int32) (v0_setting : Int32) (c4 : (Nat → Int32)) (c7 : (Nat → Int32)) (c8 : (Nat → Int32)) (H : Heap) (locs : List Loc) (ls : Array Slot), va_P (dC, dI) vwCl (wX8_openCall h0 h1 h2 h3 h4 h5 h6 h7 h8 h9 h10 kc2 kc3 kc4 kc6 kc7 kc8 kc9 kc10 V0 V1 V5 v0_open v0_point v0_setting c2 c3 c4 c6 c7 c8 c9 c10) H → va_D A (wX8_openCall h0 h1 h2 h3 h4 h5 h6 h7 h8 h9 h10 kc2 kc3 kc4 kc6 kc7 kc8 kc9 kc10 V0 V1 V5 v0_open v0_point v0_setting c2 c3 c4 c6 c7 c8 c9 c10) → va_S A s.heap H locs → lv_has ls 6 [(0, .ref h0), (1, .int y1), (2, .int y2), (3, .int y3), (4, .int y4), (5, .int y5)] → fX8_openCall_l43 c2 c3 c6 c9 c10  n y1 y2 y3 y4 y5 v0_open v0_point v0_setting c4 c7 c8 = some o → G 0 0 H locs (F0 m 43 ls []) := by
    intro  n
    induction n with
    | zero => intro y1 y2 y3 y4 y5 v0_open v0_point v0_setting c4 c7 c8 H locs ls _ _ _ _ hf; cases hf
    | succ n ih => exact B43  _ ih
  refine (hG _ _ _ _ _).mpr ?_
  obtain ⟨H, hH⟩ : ∃ H, H = s.heap := ⟨_, rfl⟩
  have hS : va_S A s.heap H [] := by rw [hH]; exact hS
  rw [← hH] at hP ⊢
  generalize ([] : List Loc) = locs at hS ⊢
  unfold fX8_openCall at hf
  refine lv_aload_n hx hb dX8_openCall_0 rfl (lv_at hl 0 rfl) ?_
  refine va_get (D := (dC, dI)) (ci := 8) (v := .ref h1) (C := RX8) (T := TX8) (N := 13) hx hb hts inlX8 hown hK hP 0 rfl rfl 0 (by decide) w4_ (fun _ h9 => h9) rfl dX8_openCall_1 ?_
  refine lv_iload_n hx hb dX8_openCall_4 rfl (lv_at hl 1 rfl) ?_
  refine lv_iconst (v := 1) hx hb dX8_openCall_5 (by decide +kernel) ?_
  obtain ⟨o15, e15, hf⟩ := ob_some hf
  refine kVi (As := [.int a0, .int 1]) (rest := []) ⟨hx, hb, hml, hown, hts⟩ (mX3_pointAfter l dC dI h1 h2 h3 kc2 kc3 H.size base a0 1 c2 c3 (fun k => match k with | 4 => .ref h10 | 10 => .ref h9 | k => V1 k) o15 e15) (cwV 2 hts (gTV q1081 q987 q988 q23 q989) rfl rfl rfl (by decide +kernel) ⟨Nat.le_of_ble_eq_true rfl, Nat.le_of_ble_eq_true rfl⟩) hK hP hD hS hA hE hAB [1, 2, 3] [0, 4, 5, 6, 7, 8, 9, 10] [0, 1] (wr := [(h0, .inr (8, [.ref h1, .ref h5, V0 2, V0 3, V0 4, V0 5, V0 6, .ref h7, .ref h8, .ref h4, .int v0_open, .int v0_point, .int v0_setting])), (h4, .inl (kc4, 16008, .inl c4)), (h5, .inr (0, [.ref h6, V5 1, V5 2, V5 3, V5 4, V5 5, V5 6])), (h6, .inl (kc6, 11520, .inl c6)), (h7, .inl (kc7, 2001, .inl c7)), (h8, .inl (kc8, 2001, .inl c8)), (h9, .inl (kc9, 40, .inl c9)), (h10, .inl (kc10, 6, .inl c10))]) rfl rfl (by decide) (by decide) (by decide) rfl (ci := 3) (q0 := 0) rfl rfl rfl rfl hl.1 rfl (Nat.le_of_ble_eq_true rfl) dX8_openCall_6 ⟨Nat.zero_le _, Nat.zero_le _⟩ (fun r15 u15 H locs hw15 hP hD hS => ?_)
  obtain ⟨hw151, hw152⟩ := hw15
  subst hw151 hw152
  have hP : va_P (dC, dI) vwCl (wX8_openCall h0 h1 h2 h3 h4 h5 h6 h7 h8 h9 h10 kc2 kc3 kc4 kc6 kc7 kc8 kc9 kc10 V0 V1 V5 v0_open v0_point v0_setting c2 c3 c4 c6 c7 c8 c9 c10) H := hP.sub [0, 8, 9, 10, 1, 2, 3, 4, 5, 6, 7] rfl
  have hD : va_D A (wX8_openCall h0 h1 h2 h3 h4 h5 h6 h7 h8 h9 h10 kc2 kc3 kc4 kc6 kc7 kc8 kc9 kc10 V0 V1 V5 v0_open v0_point v0_setting c2 c3 c4 c6 c7 c8 c9 c10) := hD.sub [0, 8, 9, 10, 1, 2, 3, 4, 5, 6, 7] (by decide) rfl
  refine lv_istore_n (lv' := [(2, .int o15.1), (0, .ref h0), (1, .int a0)]) hx hb dX8_openCall_9 rfl hl (by decide) rfl (fun ls hl => ?_)
  refine lv_aload_n hx hb dX8_openCall_10 rfl (lv_at hl 1 rfl) ?_
  refine va_get (D := (dC, dI)) (ci := 8) (v := .int v0_setting) (C := RX8) (T := TX8) (N := 13) hx hb hts inlX8 hown hK hP 0 rfl rfl 12 (by decide) w3_ (fun _ h9 => h9) rfl dX8_openCall_11 ?_
  refine lv_bipush (v := 24) hx hb dX8_openCall_14 (by decide +kernel) ?_
  refine lv_iand hx hb dX8_openCall_16 ?_
  refine lv_topi (fun x16 e16 => ?_)
  replace hf := nm_at hf e16
  refine lv_istore_n (lv' := [(3, .int x16), (2, .int o15.1), (0, .ref h0), (1, .int a0)]) hx hb dX8_openCall_17 rfl hl (by decide) rfl (fun ls hl => ?_)
  refine lv_aload_n hx hb dX8_openCall_18 rfl (lv_at hl 2 rfl) ?_
  refine va_get (D := (dC, dI)) (ci := 8) (v := .int v0_open) (C := RX8) (T := TX8) (N := 13) hx hb hts inlX8 hown hK hP 0 rfl rfl 10 (by decide) w0_ (fun _ h9 => h9) rfl dX8_openCall_19 ?_
  refine lv_iconst (v := 1) hx hb dX8_openCall_22 (by decide +kernel) ?_
  refine lv_iadd hx hb dX8_openCall_23 ?_
  refine lv_topi (fun x17 e17 => ?_)
  replace hf := nm_at hf e17
  refine lv_bipush (v := 8) hx hb dX8_openCall_24 (by decide +kernel) ?_
  refine lv_imul hx hb dX8_openCall_26 ?_
  refine lv_topi (fun x18 e18 => ?_)
  replace hf := nm_at hf e18
  refine lv_istore (lv' := [(4, .int x18), (3, .int x16), (2, .int o15.1), (0, .ref h0), (1, .int a0)]) hx hb dX8_openCall_27 hl (by decide) rfl (fun ls hl => ?_)
  refine lv_aload_n hx hb dX8_openCall_29 rfl (lv_at hl 3 rfl) ?_
  refine va_get (D := (dC, dI)) (ci := 8) (v := .int v0_open) (C := RX8) (T := TX8) (N := 13) hx hb hts inlX8 hown hK hP 0 rfl rfl 10 (by decide) w0_ (fun _ h9 => h9) rfl dX8_openCall_30 ?_
  refine lv_sipush (v := 2000) hx hb dX8_openCall_33 (by decide +kernel) ?_
  refine lv_icmp_lt (tgt := 40) hx hb dX8_openCall_36 (by decide) (fun cq19 => ?_) (fun cq19 => ?_)
  · replace hf := if_at hf cq19
    refine lv_iconst (v := 0) hx hb dX8_openCall_40 (by decide +kernel) ?_
    refine lv_istore (lv' := [(5, .int 0), (4, .int x18), (3, .int x16), (2, .int o15.1), (0, .ref h0), (1, .int a0)]) hx hb dX8_openCall_41 hl (by decide) rfl (fun ls hl => ?_)
    exact (hG _ _ _ _ _).mp (L43 FU a0 o15.1 x16 x18 0 v0_open v0_point v0_setting c4 c7 c8 H locs ls (hP.sub [0, 1, 2, 3, 4, 5, 6, 7, 8, 9, 10] rfl) (hD.sub [0, 1, 2, 3, 4, 5, 6, 7, 8, 9, 10] (by decide) rfl) hS (lv_sub hl [4, 5, 3, 2, 1, 0] rfl) hf)
  · replace hf := if_no hf cq19
    have hf1 := Option.some.inj hf
    subst hf1
    have hP9 := hP.sub (ws' := (wX8_openCall h0 h1 h2 h3 h4 h5 h6 h7 h8 h9 h10 kc2 kc3 kc4 kc6 kc7 kc8 kc9 kc10 V0 V1 V5 v0_open v0_point v0_setting c2 c3 c4 c6 c7 c8 c9 c10)) [0, 1, 2, 3, 4, 5, 6, 7, 8, 9, 10] rfl
    have hD9 := hD.sub (ws' := (wX8_openCall h0 h1 h2 h3 h4 h5 h6 h7 h8 h9 h10 kc2 kc3 kc4 kc6 kc7 kc8 kc9 kc10 V0 V1 V5 v0_open v0_point v0_setting c2 c3 c4 c6 c7 c8 c9 c10)) [0, 1, 2, 3, 4, 5, 6, 7, 8, 9, 10] (by decide) rfl
    exact W.vret hx hb hr (fun t ht hW => ⟨⟨(v0_open, v0_point, v0_setting, c4, c7, c8), rfl, rfl, by rw [ht]; exact hP9, va_K.moved hW.alike hK, hD9⟩, hS.F ht⟩) hS.2.2 dX8_openCall_39
abbrev wX8_takeStep (h0 h1 h2 h3 h4 h5 h6 h7 h8 h9 h10 : Nat) (kc2 kc3 kc4 kc5 kc6 kc7 kc9 kc10 : ClassId) (V0 : Nat → Value) (V1 : Nat → Value) (V8 : Nat → Value) (v0_open : Int32) (v0_point : Int32) (v0_setting : Int32) (c2 : Nat → Int64) (c3 : Nat → Int32) (c4 : Nat → Int32) (c5 : Nat → Int32) (c6 : Nat → Int32) (c7 : Nat → Int32) (c9 : Nat → Int32) (c10 : Nat → Int32) : va_W := [(h0, .inr (8, [.ref h1, .ref h8, V0 2, V0 3, V0 4, .ref h10, V0 6, V0 7, V0 8, .ref h7, .int v0_open, .int v0_point, .int v0_setting])), (h1, .inr (3, [V1 0, V1 1, V1 2, V1 3, V1 4, .ref h3, V1 6, V1 7, .ref h2, .ref h4, V1 10, .ref h5, .ref h6, V1 13, V1 14, V1 15, V1 16, V1 17])), (h2, .inl (kc2, 40, .inr (.inl c2))), (h3, .inl (kc3, 40, .inl c3)), (h4, .inl (kc4, 40, .inl c4)), (h5, .inl (kc5, 40, .inl c5)), (h6, .inl (kc6, 40, .inl c6)), (h7, .inl (kc7, 16008, .inl c7)), (h8, .inr (0, [.ref h9, V8 1, V8 2, V8 3, V8 4, V8 5, V8 6])), (h9, .inl (kc9, 11520, .inl c9)), (h10, .inl (kc10, 2000, .inl c10))]
set_option maxHeartbeats 4000000 in
set_option maxRecDepth 100000 in
theorem mX8_takeStep (l : Launch) (dC : Nat → ClassId) (dI : Nat → Nat → Nat) (h0 h1 h2 h3 h4 h5 h6 h7 h8 h9 h10 : Nat) (kc2 kc3 kc4 kc5 kc6 kc7 kc9 kc10 : ClassId) (sz : Nat) (base : Nat × Nat × Nat) (a0 : Int32) (a1 : Int32) (v0_open : Int32) (v0_point : Int32) (v0_setting : Int32) (c2 : Nat → Int64) (c3 : Nat → Int32) (c4 : Nat → Int32) (c5 : Nat → Int32) (c6 : Nat → Int32) (c7 : Nat → Int32) (c9 : Nat → Int32) (c10 : Nat → Int32) (V0 : Nat → Value) (V1 : Nat → Value) (V8 : Nat → Value) (o : Int32 × Int32 × (Nat → Int32)) (hf : fX8_takeStep a0 a1 v0_open v0_point v0_setting c2 c3 c4 c5 c6 c7 c9 c10 = some o) : Met l yX8_takeStep (.code yX8_takeStep cX8_takeStep 7 none :: wsL_law) ({ frames := 3, cells := 0, slots := 0, locals := 68 }) (cPre (dC, dI) vwCl [.ref h0, .int a0, .int a1] sz base (wX8_takeStep h0 h1 h2 h3 h4 h5 h6 h7 h8 h9 h10 kc2 kc3 kc4 kc5 kc6 kc7 kc9 kc10 V0 V1 V8 v0_open v0_point v0_setting c2 c3 c4 c5 c6 c7 c9 c10) [(kc2, .long), (kc3, .int), (kc4, .int), (kc5, .int), (kc6, .int), (kc7, .int), (kc9, .int), (kc10, .int)]) (va_Qv (fun u => u = o) (fun (u : Int32 × Int32 × (Nat → Int32)) t => cPost (dC, dI) vwCl (va_A (wX8_takeStep h0 h1 h2 h3 h4 h5 h6 h7 h8 h9 h10 kc2 kc3 kc4 kc5 kc6 kc7 kc9 kc10 V0 V1 V8 v0_open v0_point v0_setting c2 c3 c4 c5 c6 c7 c9 c10) sz) (wX8_takeStep h0 h1 h2 h3 h4 h5 h6 h7 h8 h9 h10 kc2 kc3 kc4 kc5 kc6 kc7 kc9 kc10 V0 V1 V8 v0_open u.1 u.2.1 c2 c3 c4 c5 c6 c7 c9 u.2.2) [(kc2, .long), (kc3, .int), (kc4, .int), (kc5, .int), (kc6, .int), (kc7, .int), (kc9, .int), (kc10, .int)] t) (va_A (wX8_takeStep h0 h1 h2 h3 h4 h5 h6 h7 h8 h9 h10 kc2 kc3 kc4 kc5 kc6 kc7 kc9 kc10 V0 V1 V8 v0_open v0_point v0_setting c2 c3 c4 c5 c6 c7 c9 c10) sz)) 0 0 (va_A (wX8_takeStep h0 h1 h2 h3 h4 h5 h6 h7 h8 h9 h10 kc2 kc3 kc4 kc5 kc6 kc7 kc9 kc10 V0 V1 V8 v0_open v0_point v0_setting c2 c3 c4 c5 c6 c7 c9 c10) sz) := by
  refine Met.ofW (cc := cX8_takeStep) (maxL := 7) (ret := none) (by decide) rfl ?_
  intro p e s m args below meth c s₁ B hml hv
  obtain ⟨rfl, hsz, hP, hK, hD0, hE⟩ := hv
  have hx := B.exec
  have hb := B.bytes
  have hr := B.returns
  have hts : ∀ w ∈ wsL_law, _ := fun w h => atoms_spec (ws := .code yX8_takeStep cX8_takeStep 7 none :: wsL_law) B.pre w (List.mem_cons_of_mem _ h)
  have hown : s.vm.findClass RX8 = some m.cls := findClass_of_methodNamed B.named
  have hlocks := B.notSynchronized
  have w0_ := hts _ q1071
  have w1_ := hts _ q1063
  have w2_ := hts _ q1070
  have w3_ := hts _ q1059
  subst hsz
  have hD := hD0.self (sz := s.heap.size)
  generalize hAe : va_A (wX8_takeStep h0 h1 h2 h3 h4 h5 h6 h7 h8 h9 h10 kc2 kc3 kc4 kc5 kc6 kc7 kc9 kc10 V0 V1 V8 v0_open v0_point v0_setting c2 c3 c4 c5 c6 c7 c9 c10) s.heap.size = A at hD ⊢
  have hA : ∀ q : Nat, s.heap.size ≤ q → A q := fun q h => by rw [← hAe]; exact Or.inr h
  have hAB : ∀ q : Nat, A q → base.1 ≤ q := fun q h => by rw [← hAe] at h; exact h.elim (fun ⟨k, e, hk⟩ => hD0.2 k _ hk) (fun hk => Nat.le_trans hE.1 hk)
  have hS : va_S A s.heap s.heap [] := va_S.rf
  have hl := lv_entry ([.ref h0, .int a0, .int a1]) (n := 7) (Nat.le_of_ble_eq_true rfl)
  rw [lg_entry_eq]
  generalize (lg_sl ([.ref h0, .int a0, .int a1]) ++ List.replicate (7 - (lg_sl ([.ref h0, .int a0, .int a1])).length) Slot.unset).toArray = ls at hl ⊢
  have hl : lv_has ls 7 [(0, .ref h0), (1, .int a0), (2, .int a1)] := hl
  have hP : va_P (dC, dI) vwCl (wX8_takeStep h0 h1 h2 h3 h4 h5 h6 h7 h8 h9 h10 kc2 kc3 kc4 kc5 kc6 kc7 kc9 kc10 V0 V1 V8 v0_open v0_point v0_setting c2 c3 c4 c5 c6 c7 c9 c10) s.heap := hP
  refine gl_intro (fun G hG => ?_)
  have J126 : ∀ (k8 : Int32 → Int32 → Int32 → Int32 → Int32 → Int32 → (Nat → Int32) → Option (Int32 × Int32 × (Nat → Int32))) (hk8 : ∀ (y1 : Int32) (y2 : Int32) (y3 : Int32) (y4 : Int32) (v0_point : Int32) (v0_setting : Int32) (c10 : (Nat → Int32)) (H : Heap) (locs : List Loc) (ls : Array Slot), va_P (dC, dI) vwCl (wX8_takeStep h0 h1 h2 h3 h4 h5 h6 h7 h8 h9 h10 kc2 kc3 kc4 kc5 kc6 kc7 kc9 kc10 V0 V1 V8 v0_open v0_point v0_setting c2 c3 c4 c5 c6 c7 c9 c10) H → va_D A (wX8_takeStep h0 h1 h2 h3 h4 h5 h6 h7 h8 h9 h10 kc2 kc3 kc4 kc5 kc6 kc7 kc9 kc10 V0 V1 V8 v0_open v0_point v0_setting c2 c3 c4 c5 c6 c7 c9 c10) → va_S A s.heap H locs → lv_has ls 7 [(0, .ref h0), (1, .int y1), (2, .int y2), (3, .int y3), (4, .int y4)] → k8 y1 y2 y3 y4 v0_point v0_setting c10 = some o → G 0 0 H locs (F0 m 8 ls [])), ∀ (y1 : Int32) (y2 : Int32) (y3 : Int32) (y4 : Int32) (v0_point : Int32) (v0_setting : Int32) (c10 : (Nat → Int32)) (H : Heap) (locs : List Loc) (ls : Array Slot), va_P (dC, dI) vwCl (wX8_takeStep h0 h1 h2 h3 h4 h5 h6 h7 h8 h9 h10 kc2 kc3 kc4 kc5 kc6 kc7 kc9 kc10 V0 V1 V8 v0_open v0_point v0_setting c2 c3 c4 c5 c6 c7 c9 c10) H → va_D A (wX8_takeStep h0 h1 h2 h3 h4 h5 h6 h7 h8 h9 h10 kc2 kc3 kc4 kc5 kc6 kc7 kc9 kc10 V0 V1 V8 v0_open v0_point v0_setting c2 c3 c4 c5 c6 c7 c9 c10) → va_S A s.heap H locs → lv_has ls 7 [(0, .ref h0), (1, .int y1), (2, .int y2), (3, .int y3), (4, .int y4)] → fX8_takeStep_p126 v0_open c2 c3 c4 c5 c6 c7 c9 k8 y1 y2 y3 y4 v0_point v0_setting c10 = some o → G 0 0 H locs (F0 m 126 ls []) := by
    intro k8 hk8 y1 y2 y3 y4 v0_point v0_setting c10 H locs ls hP hD hS hl hf
    refine (hG _ _ _ _ _).mpr ?_
    unfold fX8_takeStep_p126 at hf
    obtain ⟨x1, e1⟩ : ∃ y : Int32, y = y4 + 1 := ⟨_, rfl⟩
    replace hf := nm_at hf e1
    refine lv_iinc (v := x1) (lv' := [(4, .int x1), (0, .ref h0), (1, .int y1), (2, .int y2), (3, .int y3)]) hx hb dX8_takeStep_126 hl (k := 4) rfl (by rw [e1]; rfl) (by decide) rfl (fun ls hl => ?_)
    refine lv_goto (tgt := 8) hx hb dX8_takeStep_129 (by decide) ?_
    exact (hG _ _ _ _ _).mp (hk8 y1 y2 y3 x1 v0_point v0_setting c10 H locs ls (hP.sub [0, 1, 2, 3, 4, 5, 6, 7, 8, 9, 10] rfl) (hD.sub [0, 1, 2, 3, 4, 5, 6, 7, 8, 9, 10] (by decide) rfl) hS (lv_sub hl [1, 2, 3, 4, 0] rfl) hf)
  have J104 : ∀ (y3 : Int32) (y4 : Int32) (y6 : Int32) (z0 : Int32) (z1 : Int32) (v0_point : Int32) (v0_setting : Int32) (c10 : (Nat → Int32)) (H : Heap) (locs : List Loc) (ls : Array Slot), va_P (dC, dI) vwCl (wX8_takeStep h0 h1 h2 h3 h4 h5 h6 h7 h8 h9 h10 kc2 kc3 kc4 kc5 kc6 kc7 kc9 kc10 V0 V1 V8 v0_open v0_point v0_setting c2 c3 c4 c5 c6 c7 c9 c10) H → va_D A (wX8_takeStep h0 h1 h2 h3 h4 h5 h6 h7 h8 h9 h10 kc2 kc3 kc4 kc5 kc6 kc7 kc9 kc10 V0 V1 V8 v0_open v0_point v0_setting c2 c3 c4 c5 c6 c7 c9 c10) → va_S A s.heap H locs → lv_has ls 7 [(0, .ref h0), (3, .int y3), (4, .int y4), (6, .int y6)] → fX8_takeStep_p104 v0_open c2 c3 c4 c5 c6 c7 c9  y3 y4 y6 z0 z1 v0_point v0_setting c10 = some o → G 0 0 H locs (F0 m 104 ls [.int z0, .int z1, .ref h10]) := by
    intro  y3 y4 y6 z0 z1 v0_point v0_setting c10 H locs ls hP hD hS hl hf
    refine (hG _ _ _ _ _).mpr ?_
    unfold fX8_takeStep_p104 at hf
    have b2 := bd_in hf
    replace hf := bd_k hf
    obtain ⟨c2x, e2⟩ : ∃ y, y = upd c10 z1.toNatClampNeg z0 := ⟨_, rfl⟩
    replace hf := nm_at hf e2
    refine va_iast hx hb hK hP hD hS 10 7 rfl rfl b2 dX8_takeStep_104 (fun H locs hP hD hS => ?_)
    have hP : va_P (dC, dI) vwCl (wX8_takeStep h0 h1 h2 h3 h4 h5 h6 h7 h8 h9 h10 kc2 kc3 kc4 kc5 kc6 kc7 kc9 kc10 V0 V1 V8 v0_open v0_point v0_setting c2 c3 c4 c5 c6 c7 c9 c2x) H := by rw [e2]; exact hP
    have hD : va_D A (wX8_takeStep h0 h1 h2 h3 h4 h5 h6 h7 h8 h9 h10 kc2 kc3 kc4 kc5 kc6 kc7 kc9 kc10 V0 V1 V8 v0_open v0_point v0_setting c2 c3 c4 c5 c6 c7 c9 c2x) := by rw [e2]; exact hD
    refine lv_aload_n hx hb dX8_takeStep_105 rfl (lv_at hl 0 rfl) ?_
    refine lv_iload hx hb dX8_takeStep_106 (lv_at hl 3 rfl) ?_
    refine va_put (D := (dC, dI)) (ci := 8) (v := .int y6) (ty := .int) (C := RX8) (T := TX8) (N := 13) hx hb hts inlX8 tyX8 tyX8_ok nmX8 hown hK hP hD hS 0 rfl rfl 12 (by decide) w0_ (fun _ h9 => h9) rfl (by decide +kernel) rfl rfl (Nat.le_of_ble_eq_true rfl) dX8_takeStep_108 (fun H locs hP hD hS => ?_)
    have hP : va_P (dC, dI) vwCl (wX8_takeStep h0 h1 h2 h3 h4 h5 h6 h7 h8 h9 h10 kc2 kc3 kc4 kc5 kc6 kc7 kc9 kc10 V0 V1 V8 v0_open v0_point y6 c2 c3 c4 c5 c6 c7 c9 c2x) H := hP
    have hD : va_D A (wX8_takeStep h0 h1 h2 h3 h4 h5 h6 h7 h8 h9 h10 kc2 kc3 kc4 kc5 kc6 kc7 kc9 kc10 V0 V1 V8 v0_open v0_point y6 c2 c3 c4 c5 c6 c7 c9 c2x) := hD
    refine lv_aload_n hx hb dX8_takeStep_111 rfl (lv_at hl 0 rfl) ?_
    refine lv_aload_n hx hb dX8_takeStep_112 rfl (lv_at hl 0 rfl) ?_
    refine va_get (D := (dC, dI)) (ci := 8) (v := .ref h1) (C := RX8) (T := TX8) (N := 13) hx hb hts inlX8 hown hK hP 0 rfl rfl 0 (by decide) w1_ (fun _ h9 => h9) rfl dX8_takeStep_113 ?_
    refine lv_iload_n hx hb dX8_takeStep_116 rfl (lv_at hl 1 rfl) ?_
    refine lv_iload hx hb dX8_takeStep_117 (lv_at hl 2 rfl) ?_
    obtain ⟨o3, e3, hf⟩ := ob_some hf
    refine kVi (As := [.int y3, .int y4]) (rest := [.ref h0]) ⟨hx, hb, hml, hown, hts⟩ (mX3_pointAfter l dC dI h1 h5 h6 kc5 kc6 H.size base y3 y4 c5 c6 (fun k => match k with | 5 => .ref h3 | 8 => .ref h2 | 9 => .ref h4 | k => V1 k) o3 e3) (cwV 2 hts (gTV q1081 q987 q988 q23 q989) rfl rfl rfl (by decide +kernel) ⟨Nat.le_of_ble_eq_true rfl, Nat.le_of_ble_eq_true rfl⟩) hK hP hD hS hA hE hAB [1, 5, 6] [0, 2, 3, 4, 7, 8, 9, 10] [3, 4] (wr := [(h0, .inr (8, [.ref h1, .ref h8, V0 2, V0 3, V0 4, .ref h10, V0 6, V0 7, V0 8, .ref h7, .int v0_open, .int v0_point, .int y6])), (h2, .inl (kc2, 40, .inr (.inl c2))), (h3, .inl (kc3, 40, .inl c3)), (h4, .inl (kc4, 40, .inl c4)), (h7, .inl (kc7, 16008, .inl c7)), (h8, .inr (0, [.ref h9, V8 1, V8 2, V8 3, V8 4, V8 5, V8 6])), (h9, .inl (kc9, 11520, .inl c9)), (h10, .inl (kc10, 2000, .inl c2x))]) rfl rfl (by decide) (by decide) (by decide) rfl (ci := 3) (q0 := 0) rfl rfl rfl rfl hl.1 rfl (Nat.le_of_ble_eq_true rfl) dX8_takeStep_119 ⟨Nat.zero_le _, Nat.zero_le _⟩ (fun r3 u3 H locs hw3 hP hD hS => ?_)
    obtain ⟨hw31, hw32⟩ := hw3
    subst hw31 hw32
    have hP : va_P (dC, dI) vwCl (wX8_takeStep h0 h1 h2 h3 h4 h5 h6 h7 h8 h9 h10 kc2 kc3 kc4 kc5 kc6 kc7 kc9 kc10 V0 V1 V8 v0_open v0_point y6 c2 c3 c4 c5 c6 c7 c9 c2x) H := hP.sub [0, 8, 1, 2, 3, 9, 10, 4, 5, 6, 7] rfl
    have hD : va_D A (wX8_takeStep h0 h1 h2 h3 h4 h5 h6 h7 h8 h9 h10 kc2 kc3 kc4 kc5 kc6 kc7 kc9 kc10 V0 V1 V8 v0_open v0_point y6 c2 c3 c4 c5 c6 c7 c9 c2x) := hD.sub [0, 8, 1, 2, 3, 9, 10, 4, 5, 6, 7] (by decide) rfl
    refine va_put (D := (dC, dI)) (ci := 8) (v := .int o3.1) (ty := .int) (C := RX8) (T := TX8) (N := 13) hx hb hts inlX8 tyX8 tyX8_ok nmX8 hown hK hP hD hS 0 rfl rfl 11 (by decide) w2_ (fun _ h9 => h9) rfl (by decide +kernel) rfl rfl (Nat.le_of_ble_eq_true rfl) dX8_takeStep_122 (fun H locs hP hD hS => ?_)
    have hP : va_P (dC, dI) vwCl (wX8_takeStep h0 h1 h2 h3 h4 h5 h6 h7 h8 h9 h10 kc2 kc3 kc4 kc5 kc6 kc7 kc9 kc10 V0 V1 V8 v0_open o3.1 y6 c2 c3 c4 c5 c6 c7 c9 c2x) H := hP
    have hD : va_D A (wX8_takeStep h0 h1 h2 h3 h4 h5 h6 h7 h8 h9 h10 kc2 kc3 kc4 kc5 kc6 kc7 kc9 kc10 V0 V1 V8 v0_open o3.1 y6 c2 c3 c4 c5 c6 c7 c9 c2x) := hD
    have hf1 := Option.some.inj hf
    subst hf1
    have hP9 := hP.sub (ws' := (wX8_takeStep h0 h1 h2 h3 h4 h5 h6 h7 h8 h9 h10 kc2 kc3 kc4 kc5 kc6 kc7 kc9 kc10 V0 V1 V8 v0_open o3.1 y6 c2 c3 c4 c5 c6 c7 c9 c2x)) [0, 1, 2, 3, 4, 5, 6, 7, 8, 9, 10] rfl
    have hD9 := hD.sub (ws' := (wX8_takeStep h0 h1 h2 h3 h4 h5 h6 h7 h8 h9 h10 kc2 kc3 kc4 kc5 kc6 kc7 kc9 kc10 V0 V1 V8 v0_open o3.1 y6 c2 c3 c4 c5 c6 c7 c9 c2x)) [0, 1, 2, 3, 4, 5, 6, 7, 8, 9, 10] (by decide) rfl
    exact W.vret hx hb hr (fun t ht hW => ⟨⟨(o3.1, y6, c2x), rfl, rfl, by rw [ht]; exact hP9, va_K.moved hW.alike hK, hD9⟩, hS.F ht⟩) hS.2.2 dX8_takeStep_125
  have J39 : ∀ (k8 : Int32 → Int32 → Int32 → Int32 → Int32 → Int32 → (Nat → Int32) → Option (Int32 × Int32 × (Nat → Int32))) (hk8 : ∀ (y1 : Int32) (y2 : Int32) (y3 : Int32) (y4 : Int32) (v0_point : Int32) (v0_setting : Int32) (c10 : (Nat → Int32)) (H : Heap) (locs : List Loc) (ls : Array Slot), va_P (dC, dI) vwCl (wX8_takeStep h0 h1 h2 h3 h4 h5 h6 h7 h8 h9 h10 kc2 kc3 kc4 kc5 kc6 kc7 kc9 kc10 V0 V1 V8 v0_open v0_point v0_setting c2 c3 c4 c5 c6 c7 c9 c10) H → va_D A (wX8_takeStep h0 h1 h2 h3 h4 h5 h6 h7 h8 h9 h10 kc2 kc3 kc4 kc5 kc6 kc7 kc9 kc10 V0 V1 V8 v0_open v0_point v0_setting c2 c3 c4 c5 c6 c7 c9 c10) → va_S A s.heap H locs → lv_has ls 7 [(0, .ref h0), (1, .int y1), (2, .int y2), (3, .int y3), (4, .int y4)] → k8 y1 y2 y3 y4 v0_point v0_setting c10 = some o → G 0 0 H locs (F0 m 8 ls [])), ∀ (y1 : Int32) (y2 : Int32) (y3 : Int32) (y4 : Int32) (z0 : Int32) (v0_point : Int32) (v0_setting : Int32) (c10 : (Nat → Int32)) (H : Heap) (locs : List Loc) (ls : Array Slot), va_P (dC, dI) vwCl (wX8_takeStep h0 h1 h2 h3 h4 h5 h6 h7 h8 h9 h10 kc2 kc3 kc4 kc5 kc6 kc7 kc9 kc10 V0 V1 V8 v0_open v0_point v0_setting c2 c3 c4 c5 c6 c7 c9 c10) H → va_D A (wX8_takeStep h0 h1 h2 h3 h4 h5 h6 h7 h8 h9 h10 kc2 kc3 kc4 kc5 kc6 kc7 kc9 kc10 V0 V1 V8 v0_open v0_point v0_setting c2 c3 c4 c5 c6 c7 c9 c10) → va_S A s.heap H locs → lv_has ls 7 [(0, .ref h0), (1, .int y1), (2, .int y2), (3, .int y3), (4, .int y4)] → fX8_takeStep_p39 v0_open c2 c3 c4 c5 c6 c7 c9 k8 y1 y2 y3 y4 z0 v0_point v0_setting c10 = some o → G 0 0 H locs (F0 m 39 ls [.int z0]) := by
    intro k8 hk8 y1 y2 y3 y4 z0 v0_point v0_setting c10 H locs ls hP hD hS hl hf
    refine (hG _ _ _ _ _).mpr ?_
    unfold fX8_takeStep_p39 at hf
    refine lv_istore (lv' := [(5, .int z0), (0, .ref h0), (1, .int y1), (2, .int y2), (3, .int y3), (4, .int y4)]) hx hb dX8_takeStep_39 hl (by decide) rfl (fun ls hl => ?_)
    refine lv_aload_n hx hb dX8_takeStep_41 rfl (lv_at hl 1 rfl) ?_
    refine va_get (D := (dC, dI)) (ci := 8) (v := .ref h1) (C := RX8) (T := TX8) (N := 13) hx hb hts inlX8 hown hK hP 0 rfl rfl 0 (by decide) w1_ (fun _ h9 => h9) rfl dX8_takeStep_42 ?_
    refine lv_iload_n hx hb dX8_takeStep_45 rfl (lv_at hl 4 rfl) ?_
    refine lv_aload_n hx hb dX8_takeStep_46 rfl (lv_at hl 1 rfl) ?_
    refine va_get (D := (dC, dI)) (ci := 8) (v := .int v0_setting) (C := RX8) (T := TX8) (N := 13) hx hb hts inlX8 hown hK hP 0 rfl rfl 12 (by decide) w0_ (fun _ h9 => h9) rfl dX8_takeStep_47 ?_
    refine lv_iload hx hb dX8_takeStep_50 (lv_at hl 5 rfl) ?_
    obtain ⟨o4, e4, hf⟩ := ob_some hf
    refine kVi (As := [.int y3, .int v0_setting, .int y4]) (rest := []) ⟨hx, hb, hml, hown, hts⟩ (mX3_settingAfter l dC dI h1 h3 h4 kc3 kc4 H.size base y3 v0_setting y4 c3 c4 (fun k => match k with | 8 => .ref h2 | 11 => .ref h5 | 12 => .ref h6 | k => V1 k) o4 e4) (cwV 3 hts (gTV q1094 q1006 q1007 q23 q1008) rfl rfl rfl (by decide +kernel) ⟨Nat.le_of_ble_eq_true rfl, Nat.le_of_ble_eq_true rfl⟩) hK hP hD hS hA hE hAB [1, 3, 4] [0, 2, 5, 6, 7, 8, 9, 10] [1, 2] (wr := [(h0, .inr (8, [.ref h1, .ref h8, V0 2, V0 3, V0 4, .ref h10, V0 6, V0 7, V0 8, .ref h7, .int v0_open, .int v0_point, .int v0_setting])), (h2, .inl (kc2, 40, .inr (.inl c2))), (h5, .inl (kc5, 40, .inl c5)), (h6, .inl (kc6, 40, .inl c6)), (h7, .inl (kc7, 16008, .inl c7)), (h8, .inr (0, [.ref h9, V8 1, V8 2, V8 3, V8 4, V8 5, V8 6])), (h9, .inl (kc9, 11520, .inl c9)), (h10, .inl (kc10, 2000, .inl c10))]) rfl rfl (by decide) (by decide) (by decide) rfl (ci := 3) (q0 := 0) rfl rfl rfl rfl hl.1 rfl (Nat.le_of_ble_eq_true rfl) dX8_takeStep_52 ⟨Nat.zero_le _, Nat.zero_le _⟩ (fun r4 u4 H locs hw4 hP hD hS => ?_)
    obtain ⟨hw41, hw42⟩ := hw4
    subst hw41 hw42
    have hP : va_P (dC, dI) vwCl (wX8_takeStep h0 h1 h2 h3 h4 h5 h6 h7 h8 h9 h10 kc2 kc3 kc4 kc5 kc6 kc7 kc9 kc10 V0 V1 V8 v0_open v0_point v0_setting c2 c3 c4 c5 c6 c7 c9 c10) H := hP.sub [0, 8, 1, 9, 10, 2, 3, 4, 5, 6, 7] rfl
    have hD : va_D A (wX8_takeStep h0 h1 h2 h3 h4 h5 h6 h7 h8 h9 h10 kc2 kc3 kc4 kc5 kc6 kc7 kc9 kc10 V0 V1 V8 v0_open v0_point v0_setting c2 c3 c4 c5 c6 c7 c9 c10) := hD.sub [0, 8, 1, 9, 10, 2, 3, 4, 5, 6, 7] (by decide) rfl
    refine lv_istore (lv' := [(6, .int o4.1), (5, .int z0), (0, .ref h0), (1, .int y1), (2, .int y2), (3, .int y3), (4, .int y4)]) hx hb dX8_takeStep_55 hl (by decide) rfl (fun ls hl => ?_)
    refine lv_iload hx hb dX8_takeStep_57 (lv_at hl 1 rfl) ?_
    refine lv_if_eq (tgt := 126) hx hb dX8_takeStep_59 (by decide) (fun cq5 => ?_) (fun cq5 => ?_)
    · replace hf := if_at hf cq5
      exact (hG _ _ _ _ _).mp (J126 k8 hk8 y1 y2 y3 y4 v0_point v0_setting c10 H locs ls (hP.sub [0, 1, 2, 3, 4, 5, 6, 7, 8, 9, 10] rfl) (hD.sub [0, 1, 2, 3, 4, 5, 6, 7, 8, 9, 10] (by decide) rfl) hS (lv_sub hl [2, 3, 4, 5, 6] rfl) hf)
    · replace hf := if_no hf cq5
      refine lv_aload_n hx hb dX8_takeStep_62 rfl (lv_at hl 2 rfl) ?_
      refine lv_aload_n hx hb dX8_takeStep_63 rfl (lv_at hl 2 rfl) ?_
      refine va_get (D := (dC, dI)) (ci := 8) (v := .ref h1) (C := RX8) (T := TX8) (N := 13) hx hb hts inlX8 hown hK hP 0 rfl rfl 0 (by decide) w1_ (fun _ h9 => h9) rfl dX8_takeStep_64 ?_
      refine lv_iload_n hx hb dX8_takeStep_67 rfl (lv_at hl 5 rfl) ?_
      refine lv_iload hx hb dX8_takeStep_68 (lv_at hl 6 rfl) ?_
      obtain ⟨o6, e6, hf⟩ := ob_some hf
      refine kVi (As := [.int y3, .int y4]) (rest := [.ref h0]) ⟨hx, hb, hml, hown, hts⟩ (mX3_pointAfter l dC dI h1 h5 h6 kc5 kc6 H.size base y3 y4 c5 c6 (fun k => match k with | 5 => .ref h3 | 8 => .ref h2 | 9 => .ref h4 | k => V1 k) o6 e6) (cwV 2 hts (gTV q1081 q987 q988 q23 q989) rfl rfl rfl (by decide +kernel) ⟨Nat.le_of_ble_eq_true rfl, Nat.le_of_ble_eq_true rfl⟩) hK hP hD hS hA hE hAB [1, 5, 6] [0, 2, 3, 4, 7, 8, 9, 10] [3, 4] (wr := [(h0, .inr (8, [.ref h1, .ref h8, V0 2, V0 3, V0 4, .ref h10, V0 6, V0 7, V0 8, .ref h7, .int v0_open, .int v0_point, .int v0_setting])), (h2, .inl (kc2, 40, .inr (.inl c2))), (h3, .inl (kc3, 40, .inl c3)), (h4, .inl (kc4, 40, .inl c4)), (h7, .inl (kc7, 16008, .inl c7)), (h8, .inr (0, [.ref h9, V8 1, V8 2, V8 3, V8 4, V8 5, V8 6])), (h9, .inl (kc9, 11520, .inl c9)), (h10, .inl (kc10, 2000, .inl c10))]) rfl rfl (by decide) (by decide) (by decide) rfl (ci := 3) (q0 := 0) rfl rfl rfl rfl hl.1 rfl (Nat.le_of_ble_eq_true rfl) dX8_takeStep_70 ⟨Nat.zero_le _, Nat.zero_le _⟩ (fun r6 u6 H locs hw6 hP hD hS => ?_)
      obtain ⟨hw61, hw62⟩ := hw6
      subst hw61 hw62
      have hP : va_P (dC, dI) vwCl (wX8_takeStep h0 h1 h2 h3 h4 h5 h6 h7 h8 h9 h10 kc2 kc3 kc4 kc5 kc6 kc7 kc9 kc10 V0 V1 V8 v0_open v0_point v0_setting c2 c3 c4 c5 c6 c7 c9 c10) H := hP.sub [0, 8, 1, 2, 3, 9, 10, 4, 5, 6, 7] rfl
      have hD : va_D A (wX8_takeStep h0 h1 h2 h3 h4 h5 h6 h7 h8 h9 h10 kc2 kc3 kc4 kc5 kc6 kc7 kc9 kc10 V0 V1 V8 v0_open v0_point v0_setting c2 c3 c4 c5 c6 c7 c9 c10) := hD.sub [0, 8, 1, 2, 3, 9, 10, 4, 5, 6, 7] (by decide) rfl
      refine lv_iload hx hb dX8_takeStep_73 (lv_at hl 0 rfl) ?_
      obtain ⟨o7, e7, hf⟩ := ob_some hf
      refine kVi (As := [.int o6.1, .int o4.1]) (rest := []) ⟨hx, hb, hml, hown, hts⟩ (mX8_stepsToFail l dC dI h0 h7 h8 h9 kc7 kc9 H.size base o6.1 o4.1 v0_open c7 c9 (fun k => match k with | 0 => .ref h1 | 5 => .ref h10 | 11 => .int v0_point | 12 => .int v0_setting | k => V0 k) V8 o7 e7) (cwV 2 hts (gTV q1082 q1083 q1084 q950 q1085) rfl rfl rfl (by decide +kernel) ⟨Nat.le_of_ble_eq_true rfl, Nat.le_of_ble_eq_true rfl⟩) hK hP hD hS hA hE hAB [0, 7, 8, 9] [1, 2, 3, 4, 5, 6, 10] [5, 6] (wr := [(h1, .inr (3, [V1 0, V1 1, V1 2, V1 3, V1 4, .ref h3, V1 6, V1 7, .ref h2, .ref h4, V1 10, .ref h5, .ref h6, V1 13, V1 14, V1 15, V1 16, V1 17])), (h2, .inl (kc2, 40, .inr (.inl c2))), (h3, .inl (kc3, 40, .inl c3)), (h4, .inl (kc4, 40, .inl c4)), (h5, .inl (kc5, 40, .inl c5)), (h6, .inl (kc6, 40, .inl c6)), (h10, .inl (kc10, 2000, .inl c10))]) rfl rfl (by decide) (by decide) (by decide) rfl (ci := 8) (q0 := 0) rfl rfl rfl rfl hl.1 rfl (Nat.le_of_ble_eq_true rfl) dX8_takeStep_75 ⟨Nat.zero_le _, Nat.zero_le _⟩ (fun r7 u7 H locs hw7 hP hD hS => ?_)
      obtain ⟨hw71, hw72⟩ := hw7
      subst hw71 hw72
      have hP : va_P (dC, dI) vwCl (wX8_takeStep h0 h1 h2 h3 h4 h5 h6 h7 h8 h9 h10 kc2 kc3 kc4 kc5 kc6 kc7 kc9 kc10 V0 V1 V8 v0_open v0_point v0_setting c2 c3 c4 c5 c6 c7 c9 c10) H := hP.sub [7, 0, 1, 2, 3, 4, 5, 8, 9, 10, 6] rfl
      have hD : va_D A (wX8_takeStep h0 h1 h2 h3 h4 h5 h6 h7 h8 h9 h10 kc2 kc3 kc4 kc5 kc6 kc7 kc9 kc10 V0 V1 V8 v0_open v0_point v0_setting c2 c3 c4 c5 c6 c7 c9 c10) := hD.sub [7, 0, 1, 2, 3, 4, 5, 8, 9, 10, 6] (by decide) rfl
      refine lv_iload_n hx hb dX8_takeStep_78 rfl (lv_at hl 4 rfl) ?_
      refine lv_icmp_ne (tgt := 126) hx hb dX8_takeStep_79 (by decide) (fun cq8 => ?_) (fun cq8 => ?_)
      · replace hf := if_no hf cq8
        exact (hG _ _ _ _ _).mp (J126 k8 hk8 y1 y2 y3 y4 v0_point v0_setting c10 H locs ls (hP.sub [0, 1, 2, 3, 4, 5, 6, 7, 8, 9, 10] rfl) (hD.sub [0, 1, 2, 3, 4, 5, 6, 7, 8, 9, 10] (by decide) rfl) hS (lv_sub hl [2, 3, 4, 5, 6] rfl) hf)
      · replace hf := if_at hf cq8
        refine lv_aload_n hx hb dX8_takeStep_82 rfl (lv_at hl 2 rfl) ?_
        refine va_get (D := (dC, dI)) (ci := 8) (v := .ref h10) (C := RX8) (T := TX8) (N := 13) hx hb hts inlX8 hown hK hP 0 rfl rfl 5 (by decide) w3_ (fun _ h9 => h9) rfl dX8_takeStep_83 ?_
        refine lv_iload_n hx hb dX8_takeStep_86 rfl (lv_at hl 3 rfl) ?_
        refine lv_aload_n hx hb dX8_takeStep_87 rfl (lv_at hl 2 rfl) ?_
        refine va_get (D := (dC, dI)) (ci := 8) (v := .ref h1) (C := RX8) (T := TX8) (N := 13) hx hb hts inlX8 hown hK hP 0 rfl rfl 0 (by decide) w1_ (fun _ h9 => h9) rfl dX8_takeStep_88 ?_
        refine lv_iload_n hx hb dX8_takeStep_91 rfl (lv_at hl 5 rfl) ?_
        obtain ⟨o9, e9, hf⟩ := ob_some hf
        refine kVi (As := [.int y3]) (rest := [.int y1, .ref h10]) ⟨hx, hb, hml, hown, hts⟩ (mX3_takesValue l dC dI h1 h3 kc3 H.size base y3 c3 (fun k => match k with | 8 => .ref h2 | 9 => .ref h4 | 11 => .ref h5 | 12 => .ref h6 | k => V1 k) o9 e9) (cwV 1 hts (gTV q1095 q1096 q1097 q23 q1098) rfl rfl rfl (by decide +kernel) ⟨Nat.le_of_ble_eq_true rfl, Nat.le_of_ble_eq_true rfl⟩) hK hP hD hS hA hE hAB [1, 3] [0, 2, 4, 5, 6, 7, 8, 9, 10] [1] (wr := [(h0, .inr (8, [.ref h1, .ref h8, V0 2, V0 3, V0 4, .ref h10, V0 6, V0 7, V0 8, .ref h7, .int v0_open, .int v0_point, .int v0_setting])), (h2, .inl (kc2, 40, .inr (.inl c2))), (h4, .inl (kc4, 40, .inl c4)), (h5, .inl (kc5, 40, .inl c5)), (h6, .inl (kc6, 40, .inl c6)), (h7, .inl (kc7, 16008, .inl c7)), (h8, .inr (0, [.ref h9, V8 1, V8 2, V8 3, V8 4, V8 5, V8 6])), (h9, .inl (kc9, 11520, .inl c9)), (h10, .inl (kc10, 2000, .inl c10))]) rfl rfl (by decide) (by decide) (by decide) rfl (ci := 3) (q0 := 0) rfl rfl rfl rfl hl.1 rfl (Nat.le_of_ble_eq_true rfl) dX8_takeStep_92 ⟨Nat.zero_le _, Nat.zero_le _⟩ (fun r9 u9 H locs hw9 hP hD hS => ?_)
        obtain ⟨hw91, hw92⟩ := hw9
        subst hw91 hw92
        have hP : va_P (dC, dI) vwCl (wX8_takeStep h0 h1 h2 h3 h4 h5 h6 h7 h8 h9 h10 kc2 kc3 kc4 kc5 kc6 kc7 kc9 kc10 V0 V1 V8 v0_open v0_point v0_setting c2 c3 c4 c5 c6 c7 c9 c10) H := hP.sub [0, 9, 1, 10, 2, 3, 4, 5, 6, 7, 8] rfl
        have hD : va_D A (wX8_takeStep h0 h1 h2 h3 h4 h5 h6 h7 h8 h9 h10 kc2 kc3 kc4 kc5 kc6 kc7 kc9 kc10 V0 V1 V8 v0_open v0_point v0_setting c2 c3 c4 c5 c6 c7 c9 c10) := hD.sub [0, 9, 1, 10, 2, 3, 4, 5, 6, 7, 8] (by decide) rfl
        refine lv_if_eq (tgt := 103) hx hb dX8_takeStep_95 (by decide) (fun cq10 => ?_) (fun cq10 => ?_)
        · replace hf := if_at hf cq10
          refine lv_iconst (v := (-1)) hx hb dX8_takeStep_103 (by decide +kernel) ?_
          exact (hG _ _ _ _ _).mp (J104 y3 y4 o4.1 (-1) y1 v0_point v0_setting c10 H locs ls (hP.sub [0, 1, 2, 3, 4, 5, 6, 7, 8, 9, 10] rfl) (hD.sub [0, 1, 2, 3, 4, 5, 6, 7, 8, 9, 10] (by decide) rfl) hS (lv_sub hl [2, 5, 6, 0] rfl) hf)
        · replace hf := if_no hf cq10
          refine lv_iload hx hb dX8_takeStep_98 (lv_at hl 6 rfl) ?_
          refine lv_goto (tgt := 104) hx hb dX8_takeStep_100 (by decide) ?_
          exact (hG _ _ _ _ _).mp (J104 y3 y4 o4.1 y4 y1 v0_point v0_setting c10 H locs ls (hP.sub [0, 1, 2, 3, 4, 5, 6, 7, 8, 9, 10] rfl) (hD.sub [0, 1, 2, 3, 4, 5, 6, 7, 8, 9, 10] (by decide) rfl) hS (lv_sub hl [2, 5, 6, 0] rfl) hf)
  have B8 : ∀ (k8 : Int32 → Int32 → Int32 → Int32 → Int32 → Int32 → (Nat → Int32) → Option (Int32 × Int32 × (Nat → Int32))) (hk8 : ∀ (y1 : Int32) (y2 : Int32) (y3 : Int32) (y4 : Int32) (v0_point : Int32) (v0_setting : Int32) (c10 : (Nat → Int32)) (H : Heap) (locs : List Loc) (ls : Array Slot), va_P (dC, dI) vwCl (wX8_takeStep h0 h1 h2 h3 h4 h5 h6 h7 h8 h9 h10 kc2 kc3 kc4 kc5 kc6 kc7 kc9 kc10 V0 V1 V8 v0_open v0_point v0_setting c2 c3 c4 c5 c6 c7 c9 c10) H → va_D A (wX8_takeStep h0 h1 h2 h3 h4 h5 h6 h7 h8 h9 h10 kc2 kc3 kc4 kc5 kc6 kc7 kc9 kc10 V0 V1 V8 v0_open v0_point v0_setting c2 c3 c4 c5 c6 c7 c9 c10) → va_S A s.heap H locs → lv_has ls 7 [(0, .ref h0), (1, .int y1), (2, .int y2), (3, .int y3), (4, .int y4)] → k8 y1 y2 y3 y4 v0_point v0_setting c10 = some o → G 0 0 H locs (F0 m 8 ls [])), ∀ (y1 : Int32) (y2 : Int32) (y3 : Int32) (y4 : Int32) (v0_point : Int32) (v0_setting : Int32) (c10 : (Nat → Int32)) (H : Heap) (locs : List Loc) (ls : Array Slot), va_P (dC, dI) vwCl (wX8_takeStep h0 h1 h2 h3 h4 h5 h6 h7 h8 h9 h10 kc2 kc3 kc4 kc5 kc6 kc7 kc9 kc10 V0 V1 V8 v0_open v0_point v0_setting c2 c3 c4 c5 c6 c7 c9 c10) H → va_D A (wX8_takeStep h0 h1 h2 h3 h4 h5 h6 h7 h8 h9 h10 kc2 kc3 kc4 kc5 kc6 kc7 kc9 kc10 V0 V1 V8 v0_open v0_point v0_setting c2 c3 c4 c5 c6 c7 c9 c10) → va_S A s.heap H locs → lv_has ls 7 [(0, .ref h0), (1, .int y1), (2, .int y2), (3, .int y3), (4, .int y4)] → fX8_takeStep_b8 v0_open c2 c3 c4 c5 c6 c7 c9  k8 y1 y2 y3 y4 v0_point v0_setting c10 = some o → G 0 0 H locs (F0 m 8 ls []) := by
    intro  k8 hk8 y1 y2 y3 y4 v0_point v0_setting c10 H locs ls hP hD hS hl hf
    refine (hG _ _ _ _ _).mpr ?_
    unfold fX8_takeStep_b8 at hf
    refine lv_iload hx hb dX8_takeStep_8 (lv_at hl 4 rfl) ?_
    refine lv_iconst (v := 1) hx hb dX8_takeStep_10 (by decide +kernel) ?_
    refine lv_icmp_gt (tgt := 132) hx hb dX8_takeStep_11 (by decide) (fun cq11 => ?_) (fun cq11 => ?_)
    · replace hf := if_at hf cq11
      refine lv_aload_n hx hb dX8_takeStep_132 rfl (lv_at hl 0 rfl) ?_
      refine lv_bipush (v := (-3)) hx hb dX8_takeStep_133 (by decide +kernel) ?_
      refine va_put (D := (dC, dI)) (ci := 8) (v := .int (-3)) (ty := .int) (C := RX8) (T := TX8) (N := 13) hx hb hts inlX8 tyX8 tyX8_ok nmX8 hown hK hP hD hS 0 rfl rfl 11 (by decide) w2_ (fun _ h9 => h9) rfl (by decide +kernel) rfl rfl (Nat.le_of_ble_eq_true rfl) dX8_takeStep_135 (fun H locs hP hD hS => ?_)
      have hP : va_P (dC, dI) vwCl (wX8_takeStep h0 h1 h2 h3 h4 h5 h6 h7 h8 h9 h10 kc2 kc3 kc4 kc5 kc6 kc7 kc9 kc10 V0 V1 V8 v0_open (-3) v0_setting c2 c3 c4 c5 c6 c7 c9 c10) H := hP
      have hD : va_D A (wX8_takeStep h0 h1 h2 h3 h4 h5 h6 h7 h8 h9 h10 kc2 kc3 kc4 kc5 kc6 kc7 kc9 kc10 V0 V1 V8 v0_open (-3) v0_setting c2 c3 c4 c5 c6 c7 c9 c10) := hD
      have hf1 := Option.some.inj hf
      subst hf1
      have hP9 := hP.sub (ws' := (wX8_takeStep h0 h1 h2 h3 h4 h5 h6 h7 h8 h9 h10 kc2 kc3 kc4 kc5 kc6 kc7 kc9 kc10 V0 V1 V8 v0_open (-3) v0_setting c2 c3 c4 c5 c6 c7 c9 c10)) [0, 1, 2, 3, 4, 5, 6, 7, 8, 9, 10] rfl
      have hD9 := hD.sub (ws' := (wX8_takeStep h0 h1 h2 h3 h4 h5 h6 h7 h8 h9 h10 kc2 kc3 kc4 kc5 kc6 kc7 kc9 kc10 V0 V1 V8 v0_open (-3) v0_setting c2 c3 c4 c5 c6 c7 c9 c10)) [0, 1, 2, 3, 4, 5, 6, 7, 8, 9, 10] (by decide) rfl
      exact W.vret hx hb hr (fun t ht hW => ⟨⟨((-3), v0_setting, c10), rfl, rfl, by rw [ht]; exact hP9, va_K.moved hW.alike hK, hD9⟩, hS.F ht⟩) hS.2.2 dX8_takeStep_138
    · replace hf := if_no hf cq11
      refine lv_aload_n hx hb dX8_takeStep_14 rfl (lv_at hl 0 rfl) ?_
      refine va_get (D := (dC, dI)) (ci := 8) (v := .ref h1) (C := RX8) (T := TX8) (N := 13) hx hb hts inlX8 hown hK hP 0 rfl rfl 0 (by decide) w1_ (fun _ h9 => h9) rfl dX8_takeStep_15 ?_
      refine lv_iload_n hx hb dX8_takeStep_18 rfl (lv_at hl 3 rfl) ?_
      refine lv_iload hx hb dX8_takeStep_19 (lv_at hl 4 rfl) ?_
      obtain ⟨o12, e12, hf⟩ := ob_some hf
      refine kVi (As := [.int y3, .int y4]) (rest := []) ⟨hx, hb, hml, hown, hts⟩ (mX3_settingsFor l dC dI h1 h2 kc2 H.size base y3 y4 c2 (fun k => match k with | 5 => .ref h3 | 9 => .ref h4 | 11 => .ref h5 | 12 => .ref h6 | k => V1 k) o12 e12) (cwV 2 hts (gTV q1093 q1002 q1003 q23 q1004) rfl rfl rfl (by decide +kernel) ⟨Nat.le_of_ble_eq_true rfl, Nat.le_of_ble_eq_true rfl⟩) hK hP hD hS hA hE hAB [1, 2] [0, 3, 4, 5, 6, 7, 8, 9, 10] [0] (wr := [(h0, .inr (8, [.ref h1, .ref h8, V0 2, V0 3, V0 4, .ref h10, V0 6, V0 7, V0 8, .ref h7, .int v0_open, .int v0_point, .int v0_setting])), (h3, .inl (kc3, 40, .inl c3)), (h4, .inl (kc4, 40, .inl c4)), (h5, .inl (kc5, 40, .inl c5)), (h6, .inl (kc6, 40, .inl c6)), (h7, .inl (kc7, 16008, .inl c7)), (h8, .inr (0, [.ref h9, V8 1, V8 2, V8 3, V8 4, V8 5, V8 6])), (h9, .inl (kc9, 11520, .inl c9)), (h10, .inl (kc10, 2000, .inl c10))]) rfl rfl (by decide) (by decide) (by decide) rfl (ci := 3) (q0 := 0) rfl rfl rfl rfl hl.1 rfl (Nat.le_of_ble_eq_true rfl) dX8_takeStep_21 ⟨Nat.zero_le _, Nat.zero_le _⟩ (fun r12 u12 H locs hw12 hP hD hS => ?_)
      obtain ⟨hw121, hw122⟩ := hw12
      subst hw121 hw122
      have hP : va_P (dC, dI) vwCl (wX8_takeStep h0 h1 h2 h3 h4 h5 h6 h7 h8 h9 h10 kc2 kc3 kc4 kc5 kc6 kc7 kc9 kc10 V0 V1 V8 v0_open v0_point v0_setting c2 c3 c4 c5 c6 c7 c9 c10) H := hP.sub [0, 9, 10, 1, 2, 3, 4, 5, 6, 7, 8] rfl
      have hD : va_D A (wX8_takeStep h0 h1 h2 h3 h4 h5 h6 h7 h8 h9 h10 kc2 kc3 kc4 kc5 kc6 kc7 kc9 kc10 V0 V1 V8 v0_open v0_point v0_setting c2 c3 c4 c5 c6 c7 c9 c10) := hD.sub [0, 9, 10, 1, 2, 3, 4, 5, 6, 7, 8] (by decide) rfl
      refine lv_aload_n hx hb dX8_takeStep_24 rfl (lv_at hl 0 rfl) ?_
      refine va_get (D := (dC, dI)) (ci := 8) (v := .int v0_setting) (C := RX8) (T := TX8) (N := 13) hx hb hts inlX8 hown hK hP 0 rfl rfl 12 (by decide) w0_ (fun _ h9 => h9) rfl dX8_takeStep_25 ?_
      refine lv_iushr hx hb dX8_takeStep_28 rfl ?_
      refine lv_topi (fun x13 e13 => ?_)
      replace hf := nm_at hf e13
      refine lv_iconst (v := 1) hx hb dX8_takeStep_29 (by decide +kernel) ?_
      refine lv_iand hx hb dX8_takeStep_30 ?_
      refine lv_topi (fun x14 e14 => ?_)
      replace hf := nm_at hf e14
      refine lv_if_eq (tgt := 38) hx hb dX8_takeStep_31 (by decide) (fun cq15 => ?_) (fun cq15 => ?_)
      · replace hf := if_at hf cq15
        refine lv_iconst (v := 0) hx hb dX8_takeStep_38 (by decide +kernel) ?_
        exact (hG _ _ _ _ _).mp (J39 k8 hk8 y1 y2 y3 y4 0 v0_point v0_setting c10 H locs ls (hP.sub [0, 1, 2, 3, 4, 5, 6, 7, 8, 9, 10] rfl) (hD.sub [0, 1, 2, 3, 4, 5, 6, 7, 8, 9, 10] (by decide) rfl) hS (lv_sub hl [0, 1, 2, 3, 4] rfl) hf)
      · replace hf := if_no hf cq15
        refine lv_iconst (v := 1) hx hb dX8_takeStep_34 (by decide +kernel) ?_
        refine lv_goto (tgt := 39) hx hb dX8_takeStep_35 (by decide) ?_
        exact (hG _ _ _ _ _).mp (J39 k8 hk8 y1 y2 y3 y4 1 v0_point v0_setting c10 H locs ls (hP.sub [0, 1, 2, 3, 4, 5, 6, 7, 8, 9, 10] rfl) (hD.sub [0, 1, 2, 3, 4, 5, 6, 7, 8, 9, 10] (by decide) rfl) hS (lv_sub hl [0, 1, 2, 3, 4] rfl) hf)
  have L8 : ∀ (n : Nat), ∀ (y1 : Int32) (y2 : Int32) (y3 : Int32) (y4 : Int32) (v0_point : Int32) (v0_setting : Int32) (c10 : (Nat → Int32)) (H : Heap) (locs : List Loc) (ls : Array Slot), va_P (dC, dI) vwCl (wX8_takeStep h0 h1 h2 h3 h4 h5 h6 h7 h8 h9 h10 kc2 kc3 kc4 kc5 kc6 kc7 kc9 kc10 V0 V1 V8 v0_open v0_point v0_setting c2 c3 c4 c5 c6 c7 c9 c10) H → va_D A (wX8_takeStep h0 h1 h2 h3 h4 h5 h6 h7 h8 h9 h10 kc2 kc3 kc4 kc5 kc6 kc7 kc9 kc10 V0 V1 V8 v0_open v0_point v0_setting c2 c3 c4 c5 c6 c7 c9 c10) → va_S A s.heap H locs → lv_has ls 7 [(0, .ref h0), (1, .int y1), (2, .int y2), (3, .int y3), (4, .int y4)] → fX8_takeStep_l8 v0_open c2 c3 c4 c5 c6 c7 c9  n y1 y2 y3 y4 v0_point v0_setting c10 = some o → G 0 0 H locs (F0 m 8 ls []) := by
    intro  n
    induction n with
    | zero => intro y1 y2 y3 y4 v0_point v0_setting c10 H locs ls _ _ _ _ hf; cases hf
    | succ n ih => exact B8  _ ih
  refine (hG _ _ _ _ _).mpr ?_
  obtain ⟨H, hH⟩ : ∃ H, H = s.heap := ⟨_, rfl⟩
  have hS : va_S A s.heap H [] := by rw [hH]; exact hS
  rw [← hH] at hP ⊢
  generalize ([] : List Loc) = locs at hS ⊢
  unfold fX8_takeStep at hf
  refine lv_aload_n hx hb dX8_takeStep_0 rfl (lv_at hl 0 rfl) ?_
  refine va_get (D := (dC, dI)) (ci := 8) (v := .int v0_point) (C := RX8) (T := TX8) (N := 13) hx hb hts inlX8 hown hK hP 0 rfl rfl 11 (by decide) w2_ (fun _ h9 => h9) rfl dX8_takeStep_1 ?_
  refine lv_istore_n (lv' := [(3, .int v0_point), (0, .ref h0), (1, .int a0), (2, .int a1)]) hx hb dX8_takeStep_4 rfl hl (by decide) rfl (fun ls hl => ?_)
  refine lv_iconst (v := 0) hx hb dX8_takeStep_5 (by decide +kernel) ?_
  refine lv_istore (lv' := [(4, .int 0), (3, .int v0_point), (0, .ref h0), (1, .int a0), (2, .int a1)]) hx hb dX8_takeStep_6 hl (by decide) rfl (fun ls hl => ?_)
  exact (hG _ _ _ _ _).mp (L8 FU a0 a1 v0_point 0 v0_point v0_setting c10 H locs ls (hP.sub [0, 1, 2, 3, 4, 5, 6, 7, 8, 9, 10] rfl) (hD.sub [0, 1, 2, 3, 4, 5, 6, 7, 8, 9, 10] (by decide) rfl) hS (lv_sub hl [2, 3, 4, 1, 0] rfl) hf)
abbrev wX8_record (h0 h1 h2 h3 h4 h5 h6 h7 h8 h9 h10 h11 h12 h13 h14 h15 h16 h17 : Nat) (kc2 kc3 kc4 kc5 kc6 kc7 kc8 kc9 kc10 kc12 kc13 kc14 kc15 kc16 kc17 : ClassId) (V1 : Nat → Value) (V11 : Nat → Value) (v0_length : Int32) (v0_open : Int32) (v0_point : Int32) (v0_setting : Int32) (v1_procedures : Int32) (c2 : Nat → Int32) (c3 : Nat → Int32) (c4 : Nat → Int32) (c5 : Nat → Int32) (c6 : Nat → Int32) (c7 : Nat → Int32) (c8 : Nat → Int32) (c9 : Nat → Int32) (c10 : Nat → Int32) (c12 : Nat → Int32) (c13 : Nat → Int32) (c14 : Nat → Int32) (c15 : Nat → Int32) (c16 : Nat → Int64) (c17 : Nat → Int32) : va_W := [(h0, .inr (8, [.ref h1, .ref h11, .ref h4, .ref h5, .ref h6, .ref h7, .int v0_length, .ref h13, .ref h14, .ref h3, .int v0_open, .int v0_point, .int v0_setting])), (h1, .inr (3, [V1 0, V1 1, .int v1_procedures, V1 3, .ref h2, .ref h8, V1 6, V1 7, .ref h16, .ref h17, .ref h15, .ref h9, .ref h10, V1 13, V1 14, V1 15, V1 16, V1 17])), (h2, .inl (kc2, 6, .inl c2)), (h3, .inl (kc3, 16008, .inl c3)), (h4, .inl (kc4, 2000, .inl c4)), (h5, .inl (kc5, 2000, .inl c5)), (h6, .inl (kc6, 2000, .inl c6)), (h7, .inl (kc7, 2000, .inl c7)), (h8, .inl (kc8, 40, .inl c8)), (h9, .inl (kc9, 40, .inl c9)), (h10, .inl (kc10, 40, .inl c10)), (h11, .inr (0, [.ref h12, V11 1, V11 2, V11 3, V11 4, V11 5, V11 6])), (h12, .inl (kc12, 11520, .inl c12)), (h13, .inl (kc13, 2001, .inl c13)), (h14, .inl (kc14, 2001, .inl c14)), (h15, .inl (kc15, 40, .inl c15)), (h16, .inl (kc16, 40, .inr (.inl c16))), (h17, .inl (kc17, 40, .inl c17))]
set_option maxHeartbeats 4000000 in
set_option maxRecDepth 100000 in
theorem mX8_record (l : Launch) (dC : Nat → ClassId) (dI : Nat → Nat → Nat) (h0 h1 h2 h3 h4 h5 h6 h7 h8 h9 h10 h11 h12 h13 h14 h15 h16 h17 : Nat) (kc2 kc3 kc4 kc5 kc6 kc7 kc8 kc9 kc10 kc12 kc13 kc14 kc15 kc16 kc17 : ClassId) (sz : Nat) (base : Nat × Nat × Nat) (a0 : Int32) (v0_length : Int32) (v0_open : Int32) (v0_point : Int32) (v0_setting : Int32) (v1_procedures : Int32) (c2 : Nat → Int32) (c3 : Nat → Int32) (c4 : Nat → Int32) (c5 : Nat → Int32) (c6 : Nat → Int32) (c7 : Nat → Int32) (c8 : Nat → Int32) (c9 : Nat → Int32) (c10 : Nat → Int32) (c12 : Nat → Int32) (c13 : Nat → Int32) (c14 : Nat → Int32) (c15 : Nat → Int32) (c16 : Nat → Int64) (c17 : Nat → Int32) (V1 : Nat → Value) (V11 : Nat → Value) (o : Int32 × Int32 × Int32 × Int32 × (Nat → Int32) × (Nat → Int32) × (Nat → Int32) × (Nat → Int32) × (Nat → Int32) × (Nat → Int32) × (Nat → Int32)) (hf : fX8_record a0 v0_length v0_open v0_point v0_setting v1_procedures c2 c3 c4 c5 c6 c7 c8 c9 c10 c12 c13 c14 c15 c16 c17 = some o) : Met l yX8_record (.code yX8_record cX8_record 3 none :: wsL_law) ({ frames := 4, cells := 0, slots := 0, locals := 94 }) (cPre (dC, dI) vwCl [.ref h0, .int a0] sz base (wX8_record h0 h1 h2 h3 h4 h5 h6 h7 h8 h9 h10 h11 h12 h13 h14 h15 h16 h17 kc2 kc3 kc4 kc5 kc6 kc7 kc8 kc9 kc10 kc12 kc13 kc14 kc15 kc16 kc17 V1 V11 v0_length v0_open v0_point v0_setting v1_procedures c2 c3 c4 c5 c6 c7 c8 c9 c10 c12 c13 c14 c15 c16 c17) [(kc2, .int), (kc3, .int), (kc4, .int), (kc5, .int), (kc6, .int), (kc7, .int), (kc8, .int), (kc9, .int), (kc10, .int), (kc12, .int), (kc13, .int), (kc14, .int), (kc15, .int), (kc16, .long), (kc17, .int)]) (va_Qv (fun u => u = o) (fun (u : Int32 × Int32 × Int32 × Int32 × (Nat → Int32) × (Nat → Int32) × (Nat → Int32) × (Nat → Int32) × (Nat → Int32) × (Nat → Int32) × (Nat → Int32)) t => cPost (dC, dI) vwCl (va_A (wX8_record h0 h1 h2 h3 h4 h5 h6 h7 h8 h9 h10 h11 h12 h13 h14 h15 h16 h17 kc2 kc3 kc4 kc5 kc6 kc7 kc8 kc9 kc10 kc12 kc13 kc14 kc15 kc16 kc17 V1 V11 v0_length v0_open v0_point v0_setting v1_procedures c2 c3 c4 c5 c6 c7 c8 c9 c10 c12 c13 c14 c15 c16 c17) sz) (wX8_record h0 h1 h2 h3 h4 h5 h6 h7 h8 h9 h10 h11 h12 h13 h14 h15 h16 h17 kc2 kc3 kc4 kc5 kc6 kc7 kc8 kc9 kc10 kc12 kc13 kc14 kc15 kc16 kc17 V1 V11 u.1 u.2.1 u.2.2.1 u.2.2.2.1 v1_procedures c2 u.2.2.2.2.1 u.2.2.2.2.2.1 u.2.2.2.2.2.2.1 u.2.2.2.2.2.2.2.1 u.2.2.2.2.2.2.2.2.1 c8 c9 c10 c12 u.2.2.2.2.2.2.2.2.2.1 u.2.2.2.2.2.2.2.2.2.2 c15 c16 c17) [(kc2, .int), (kc3, .int), (kc4, .int), (kc5, .int), (kc6, .int), (kc7, .int), (kc8, .int), (kc9, .int), (kc10, .int), (kc12, .int), (kc13, .int), (kc14, .int), (kc15, .int), (kc16, .long), (kc17, .int)] t) (va_A (wX8_record h0 h1 h2 h3 h4 h5 h6 h7 h8 h9 h10 h11 h12 h13 h14 h15 h16 h17 kc2 kc3 kc4 kc5 kc6 kc7 kc8 kc9 kc10 kc12 kc13 kc14 kc15 kc16 kc17 V1 V11 v0_length v0_open v0_point v0_setting v1_procedures c2 c3 c4 c5 c6 c7 c8 c9 c10 c12 c13 c14 c15 c16 c17) sz)) 0 0 (va_A (wX8_record h0 h1 h2 h3 h4 h5 h6 h7 h8 h9 h10 h11 h12 h13 h14 h15 h16 h17 kc2 kc3 kc4 kc5 kc6 kc7 kc8 kc9 kc10 kc12 kc13 kc14 kc15 kc16 kc17 V1 V11 v0_length v0_open v0_point v0_setting v1_procedures c2 c3 c4 c5 c6 c7 c8 c9 c10 c12 c13 c14 c15 c16 c17) sz) := by
  refine Met.ofW (cc := cX8_record) (maxL := 3) (ret := none) (by decide) rfl ?_
  intro p e s m args below meth c s₁ B hml hv
  obtain ⟨rfl, hsz, hP, hK, hD0, hE⟩ := hv
  have hx := B.exec
  have hb := B.bytes
  have hr := B.returns
  have hts : ∀ w ∈ wsL_law, _ := fun w h => atoms_spec (ws := .code yX8_record cX8_record 3 none :: wsL_law) B.pre w (List.mem_cons_of_mem _ h)
  have hown : s.vm.findClass RX8 = some m.cls := findClass_of_methodNamed B.named
  have hlocks := B.notSynchronized
  have w0_ := hts _ q1070
  have w1_ := hts _ q1056
  have w2_ := hts _ q1057
  have w3_ := hts _ q1069
  have w4_ := hts _ q1058
  have w5_ := hts _ q1071
  have w6_ := hts _ q1059
  have w7_ := hts _ q1051
  have w8_ := hts _ q1063
  have w9_ := hts _ q1073
  have w10_ := hts _ q1062
  have w11_ := hts _ q1072
  subst hsz
  have hD := hD0.self (sz := s.heap.size)
  generalize hAe : va_A (wX8_record h0 h1 h2 h3 h4 h5 h6 h7 h8 h9 h10 h11 h12 h13 h14 h15 h16 h17 kc2 kc3 kc4 kc5 kc6 kc7 kc8 kc9 kc10 kc12 kc13 kc14 kc15 kc16 kc17 V1 V11 v0_length v0_open v0_point v0_setting v1_procedures c2 c3 c4 c5 c6 c7 c8 c9 c10 c12 c13 c14 c15 c16 c17) s.heap.size = A at hD ⊢
  have hA : ∀ q : Nat, s.heap.size ≤ q → A q := fun q h => by rw [← hAe]; exact Or.inr h
  have hAB : ∀ q : Nat, A q → base.1 ≤ q := fun q h => by rw [← hAe] at h; exact h.elim (fun ⟨k, e, hk⟩ => hD0.2 k _ hk) (fun hk => Nat.le_trans hE.1 hk)
  have hS : va_S A s.heap s.heap [] := va_S.rf
  have hl := lv_entry ([.ref h0, .int a0]) (n := 3) (Nat.le_of_ble_eq_true rfl)
  rw [lg_entry_eq]
  generalize (lg_sl ([.ref h0, .int a0]) ++ List.replicate (3 - (lg_sl ([.ref h0, .int a0])).length) Slot.unset).toArray = ls at hl ⊢
  have hl : lv_has ls 3 [(0, .ref h0), (1, .int a0)] := hl
  have hP : va_P (dC, dI) vwCl (wX8_record h0 h1 h2 h3 h4 h5 h6 h7 h8 h9 h10 h11 h12 h13 h14 h15 h16 h17 kc2 kc3 kc4 kc5 kc6 kc7 kc8 kc9 kc10 kc12 kc13 kc14 kc15 kc16 kc17 V1 V11 v0_length v0_open v0_point v0_setting v1_procedures c2 c3 c4 c5 c6 c7 c8 c9 c10 c12 c13 c14 c15 c16 c17) s.heap := hP
  refine gl_intro (fun G hG => ?_)
  have J165 : ∀ (v0_length : Int32) (v0_open : Int32) (v0_point : Int32) (v0_setting : Int32) (c3 : (Nat → Int32)) (c4 : (Nat → Int32)) (c5 : (Nat → Int32)) (c6 : (Nat → Int32)) (c7 : (Nat → Int32)) (c13 : (Nat → Int32)) (c14 : (Nat → Int32)) (H : Heap) (locs : List Loc) (ls : Array Slot), va_P (dC, dI) vwCl (wX8_record h0 h1 h2 h3 h4 h5 h6 h7 h8 h9 h10 h11 h12 h13 h14 h15 h16 h17 kc2 kc3 kc4 kc5 kc6 kc7 kc8 kc9 kc10 kc12 kc13 kc14 kc15 kc16 kc17 V1 V11 v0_length v0_open v0_point v0_setting v1_procedures c2 c3 c4 c5 c6 c7 c8 c9 c10 c12 c13 c14 c15 c16 c17) H → va_D A (wX8_record h0 h1 h2 h3 h4 h5 h6 h7 h8 h9 h10 h11 h12 h13 h14 h15 h16 h17 kc2 kc3 kc4 kc5 kc6 kc7 kc8 kc9 kc10 kc12 kc13 kc14 kc15 kc16 kc17 V1 V11 v0_length v0_open v0_point v0_setting v1_procedures c2 c3 c4 c5 c6 c7 c8 c9 c10 c12 c13 c14 c15 c16 c17) → va_S A s.heap H locs → lv_has ls 3 [(0, .ref h0)] → fX8_record_p165 v1_procedures c2 c8 c9 c10 c12 c15 c16 c17  v0_length v0_open v0_point v0_setting c3 c4 c5 c6 c7 c13 c14 = some o → G 0 0 H locs (F0 m 165 ls []) := by
    intro  v0_length v0_open v0_point v0_setting c3 c4 c5 c6 c7 c13 c14 H locs ls hP hD hS hl hf
    refine (hG _ _ _ _ _).mpr ?_
    unfold fX8_record_p165 at hf
    have hf1 := Option.some.inj hf
    subst hf1
    have hP9 := hP.sub (ws' := (wX8_record h0 h1 h2 h3 h4 h5 h6 h7 h8 h9 h10 h11 h12 h13 h14 h15 h16 h17 kc2 kc3 kc4 kc5 kc6 kc7 kc8 kc9 kc10 kc12 kc13 kc14 kc15 kc16 kc17 V1 V11 v0_length v0_open v0_point v0_setting v1_procedures c2 c3 c4 c5 c6 c7 c8 c9 c10 c12 c13 c14 c15 c16 c17)) [0, 1, 2, 3, 4, 5, 6, 7, 8, 9, 10, 11, 12, 13, 14, 15, 16, 17] rfl
    have hD9 := hD.sub (ws' := (wX8_record h0 h1 h2 h3 h4 h5 h6 h7 h8 h9 h10 h11 h12 h13 h14 h15 h16 h17 kc2 kc3 kc4 kc5 kc6 kc7 kc8 kc9 kc10 kc12 kc13 kc14 kc15 kc16 kc17 V1 V11 v0_length v0_open v0_point v0_setting v1_procedures c2 c3 c4 c5 c6 c7 c8 c9 c10 c12 c13 c14 c15 c16 c17)) [0, 1, 2, 3, 4, 5, 6, 7, 8, 9, 10, 11, 12, 13, 14, 15, 16, 17] (by decide) rfl
    exact W.vret hx hb hr (fun t ht hW => ⟨⟨(v0_length, v0_open, v0_point, v0_setting, c3, c4, c5, c6, c7, c13, c14), rfl, rfl, by rw [ht]; exact hP9, va_K.moved hW.alike hK, hD9⟩, hS.F ht⟩) hS.2.2 dX8_record_165
  have J155 : ∀ (k50 : Int32 → Int32 → Int32 → Int32 → Int32 → Int32 → (Nat → Int32) → (Nat → Int32) → (Nat → Int32) → (Nat → Int32) → (Nat → Int32) → (Nat → Int32) → (Nat → Int32) → Option (Int32 × Int32 × Int32 × Int32 × (Nat → Int32) × (Nat → Int32) × (Nat → Int32) × (Nat → Int32) × (Nat → Int32) × (Nat → Int32) × (Nat → Int32))) (hk50 : ∀ (y1 : Int32) (y2 : Int32) (v0_length : Int32) (v0_open : Int32) (v0_point : Int32) (v0_setting : Int32) (c3 : (Nat → Int32)) (c4 : (Nat → Int32)) (c5 : (Nat → Int32)) (c6 : (Nat → Int32)) (c7 : (Nat → Int32)) (c13 : (Nat → Int32)) (c14 : (Nat → Int32)) (H : Heap) (locs : List Loc) (ls : Array Slot), va_P (dC, dI) vwCl (wX8_record h0 h1 h2 h3 h4 h5 h6 h7 h8 h9 h10 h11 h12 h13 h14 h15 h16 h17 kc2 kc3 kc4 kc5 kc6 kc7 kc8 kc9 kc10 kc12 kc13 kc14 kc15 kc16 kc17 V1 V11 v0_length v0_open v0_point v0_setting v1_procedures c2 c3 c4 c5 c6 c7 c8 c9 c10 c12 c13 c14 c15 c16 c17) H → va_D A (wX8_record h0 h1 h2 h3 h4 h5 h6 h7 h8 h9 h10 h11 h12 h13 h14 h15 h16 h17 kc2 kc3 kc4 kc5 kc6 kc7 kc8 kc9 kc10 kc12 kc13 kc14 kc15 kc16 kc17 V1 V11 v0_length v0_open v0_point v0_setting v1_procedures c2 c3 c4 c5 c6 c7 c8 c9 c10 c12 c13 c14 c15 c16 c17) → va_S A s.heap H locs → lv_has ls 3 [(0, .ref h0), (1, .int y1), (2, .int y2)] → k50 y1 y2 v0_length v0_open v0_point v0_setting c3 c4 c5 c6 c7 c13 c14 = some o → G 0 0 H locs (F0 m 50 ls [])), ∀ (y1 : Int32) (y2 : Int32) (v0_length : Int32) (v0_open : Int32) (v0_point : Int32) (v0_setting : Int32) (c3 : (Nat → Int32)) (c4 : (Nat → Int32)) (c5 : (Nat → Int32)) (c6 : (Nat → Int32)) (c7 : (Nat → Int32)) (c13 : (Nat → Int32)) (c14 : (Nat → Int32)) (H : Heap) (locs : List Loc) (ls : Array Slot), va_P (dC, dI) vwCl (wX8_record h0 h1 h2 h3 h4 h5 h6 h7 h8 h9 h10 h11 h12 h13 h14 h15 h16 h17 kc2 kc3 kc4 kc5 kc6 kc7 kc8 kc9 kc10 kc12 kc13 kc14 kc15 kc16 kc17 V1 V11 v0_length v0_open v0_point v0_setting v1_procedures c2 c3 c4 c5 c6 c7 c8 c9 c10 c12 c13 c14 c15 c16 c17) H → va_D A (wX8_record h0 h1 h2 h3 h4 h5 h6 h7 h8 h9 h10 h11 h12 h13 h14 h15 h16 h17 kc2 kc3 kc4 kc5 kc6 kc7 kc8 kc9 kc10 kc12 kc13 kc14 kc15 kc16 kc17 V1 V11 v0_length v0_open v0_point v0_setting v1_procedures c2 c3 c4 c5 c6 c7 c8 c9 c10 c12 c13 c14 c15 c16 c17) → va_S A s.heap H locs → lv_has ls 3 [(0, .ref h0), (1, .int y1), (2, .int y2)] → fX8_record_p155 v1_procedures c2 c8 c9 c10 c12 c15 c16 c17 k50 y1 y2 v0_length v0_open v0_point v0_setting c3 c4 c5 c6 c7 c13 c14 = some o → G 0 0 H locs (F0 m 155 ls []) := by
    intro k50 hk50 y1 y2 v0_length v0_open v0_point v0_setting c3 c4 c5 c6 c7 c13 c14 H locs ls hP hD hS hl hf
    refine (hG _ _ _ _ _).mpr ?_
    unfold fX8_record_p155 at hf
    refine lv_aload_n hx hb dX8_record_155 rfl (lv_at hl 0 rfl) ?_
    obtain ⟨o1, e1, hf⟩ := ob_some hf
    refine kVv (As := []) (rest := []) ⟨hx, hb, hml, hown, hts⟩ (mX8_leaveEndedCalls l dC dI h0 h13 h14 kc13 kc14 H.size base v0_open v0_point v0_setting c13 c14 (fun k => match k with | 0 => .ref h1 | 1 => .ref h11 | 2 => .ref h4 | 3 => .ref h5 | 4 => .ref h6 | 5 => .ref h7 | 6 => .int v0_length | 9 => .ref h3 | _ => .null) o1 e1) (cwV 0 hts (gTV q1099 q1100 q1101 q950 q1102) rfl rfl rfl (by decide +kernel) ⟨Nat.le_of_ble_eq_true rfl, Nat.le_of_ble_eq_true rfl⟩) hK hP hD hS hA hE hAB [0, 13, 14] [1, 2, 3, 4, 5, 6, 7, 8, 9, 10, 11, 12, 15, 16, 17] [10, 11] (wr := [(h1, .inr (3, [V1 0, V1 1, .int v1_procedures, V1 3, .ref h2, .ref h8, V1 6, V1 7, .ref h16, .ref h17, .ref h15, .ref h9, .ref h10, V1 13, V1 14, V1 15, V1 16, V1 17])), (h2, .inl (kc2, 6, .inl c2)), (h3, .inl (kc3, 16008, .inl c3)), (h4, .inl (kc4, 2000, .inl c4)), (h5, .inl (kc5, 2000, .inl c5)), (h6, .inl (kc6, 2000, .inl c6)), (h7, .inl (kc7, 2000, .inl c7)), (h8, .inl (kc8, 40, .inl c8)), (h9, .inl (kc9, 40, .inl c9)), (h10, .inl (kc10, 40, .inl c10)), (h11, .inr (0, [.ref h12, V11 1, V11 2, V11 3, V11 4, V11 5, V11 6])), (h12, .inl (kc12, 11520, .inl c12)), (h15, .inl (kc15, 40, .inl c15)), (h16, .inl (kc16, 40, .inr (.inl c16))), (h17, .inl (kc17, 40, .inl c17))]) rfl rfl (by decide) (by decide) (by decide) rfl (ci := 8) (q0 := 0) rfl rfl rfl rfl hl.1 rfl (Nat.le_of_ble_eq_true rfl) dX8_record_156 ⟨Nat.zero_le _, Nat.zero_le _⟩ (fun u1 H locs hw1 hP hD hS => ?_)
    have hw11 : o1 = u1 := Eq.symm hw1
    subst hw11
    have hP : va_P (dC, dI) vwCl (wX8_record h0 h1 h2 h3 h4 h5 h6 h7 h8 h9 h10 h11 h12 h13 h14 h15 h16 h17 kc2 kc3 kc4 kc5 kc6 kc7 kc8 kc9 kc10 kc12 kc13 kc14 kc15 kc16 kc17 V1 V11 v0_length o1.1 o1.2.1 o1.2.2 v1_procedures c2 c3 c4 c5 c6 c7 c8 c9 c10 c12 c13 c14 c15 c16 c17) H := hP.sub [15, 0, 1, 2, 3, 4, 5, 6, 7, 8, 9, 10, 11, 16, 17, 12, 13, 14] rfl
    have hD : va_D A (wX8_record h0 h1 h2 h3 h4 h5 h6 h7 h8 h9 h10 h11 h12 h13 h14 h15 h16 h17 kc2 kc3 kc4 kc5 kc6 kc7 kc8 kc9 kc10 kc12 kc13 kc14 kc15 kc16 kc17 V1 V11 v0_length o1.1 o1.2.1 o1.2.2 v1_procedures c2 c3 c4 c5 c6 c7 c8 c9 c10 c12 c13 c14 c15 c16 c17) := hD.sub [15, 0, 1, 2, 3, 4, 5, 6, 7, 8, 9, 10, 11, 16, 17, 12, 13, 14] (by decide) rfl
    obtain ⟨x2, e2⟩ : ∃ y : Int32, y = y2 + 1 := ⟨_, rfl⟩
    replace hf := nm_at hf e2
    refine lv_iinc (v := x2) (lv' := [(2, .int x2), (0, .ref h0), (1, .int y1)]) hx hb dX8_record_159 hl (k := 2) rfl (by rw [e2]; rfl) (by decide) rfl (fun ls hl => ?_)
    refine lv_goto (tgt := 50) hx hb dX8_record_162 (by decide) ?_
    exact (hG _ _ _ _ _).mp (hk50 y1 x2 v0_length o1.1 o1.2.1 o1.2.2 c3 c4 c5 c6 c7 c13 c14 H locs ls (hP.sub [0, 1, 2, 3, 4, 5, 6, 7, 8, 9, 10, 11, 12, 13, 14, 15, 16, 17] rfl) (hD.sub [0, 1, 2, 3, 4, 5, 6, 7, 8, 9, 10, 11, 12, 13, 14, 15, 16, 17] (by decide) rfl) hS (lv_sub hl [1, 2, 0] rfl) hf)
  have B50 : ∀ (k50 : Int32 → Int32 → Int32 → Int32 → Int32 → Int32 → (Nat → Int32) → (Nat → Int32) → (Nat → Int32) → (Nat → Int32) → (Nat → Int32) → (Nat → Int32) → (Nat → Int32) → Option (Int32 × Int32 × Int32 × Int32 × (Nat → Int32) × (Nat → Int32) × (Nat → Int32) × (Nat → Int32) × (Nat → Int32) × (Nat → Int32) × (Nat → Int32))) (hk50 : ∀ (y1 : Int32) (y2 : Int32) (v0_length : Int32) (v0_open : Int32) (v0_point : Int32) (v0_setting : Int32) (c3 : (Nat → Int32)) (c4 : (Nat → Int32)) (c5 : (Nat → Int32)) (c6 : (Nat → Int32)) (c7 : (Nat → Int32)) (c13 : (Nat → Int32)) (c14 : (Nat → Int32)) (H : Heap) (locs : List Loc) (ls : Array Slot), va_P (dC, dI) vwCl (wX8_record h0 h1 h2 h3 h4 h5 h6 h7 h8 h9 h10 h11 h12 h13 h14 h15 h16 h17 kc2 kc3 kc4 kc5 kc6 kc7 kc8 kc9 kc10 kc12 kc13 kc14 kc15 kc16 kc17 V1 V11 v0_length v0_open v0_point v0_setting v1_procedures c2 c3 c4 c5 c6 c7 c8 c9 c10 c12 c13 c14 c15 c16 c17) H → va_D A (wX8_record h0 h1 h2 h3 h4 h5 h6 h7 h8 h9 h10 h11 h12 h13 h14 h15 h16 h17 kc2 kc3 kc4 kc5 kc6 kc7 kc8 kc9 kc10 kc12 kc13 kc14 kc15 kc16 kc17 V1 V11 v0_length v0_open v0_point v0_setting v1_procedures c2 c3 c4 c5 c6 c7 c8 c9 c10 c12 c13 c14 c15 c16 c17) → va_S A s.heap H locs → lv_has ls 3 [(0, .ref h0), (1, .int y1), (2, .int y2)] → k50 y1 y2 v0_length v0_open v0_point v0_setting c3 c4 c5 c6 c7 c13 c14 = some o → G 0 0 H locs (F0 m 50 ls [])), ∀ (y1 : Int32) (y2 : Int32) (v0_length : Int32) (v0_open : Int32) (v0_point : Int32) (v0_setting : Int32) (c3 : (Nat → Int32)) (c4 : (Nat → Int32)) (c5 : (Nat → Int32)) (c6 : (Nat → Int32)) (c7 : (Nat → Int32)) (c13 : (Nat → Int32)) (c14 : (Nat → Int32)) (H : Heap) (locs : List Loc) (ls : Array Slot), va_P (dC, dI) vwCl (wX8_record h0 h1 h2 h3 h4 h5 h6 h7 h8 h9 h10 h11 h12 h13 h14 h15 h16 h17 kc2 kc3 kc4 kc5 kc6 kc7 kc8 kc9 kc10 kc12 kc13 kc14 kc15 kc16 kc17 V1 V11 v0_length v0_open v0_point v0_setting v1_procedures c2 c3 c4 c5 c6 c7 c8 c9 c10 c12 c13 c14 c15 c16 c17) H → va_D A (wX8_record h0 h1 h2 h3 h4 h5 h6 h7 h8 h9 h10 h11 h12 h13 h14 h15 h16 h17 kc2 kc3 kc4 kc5 kc6 kc7 kc8 kc9 kc10 kc12 kc13 kc14 kc15 kc16 kc17 V1 V11 v0_length v0_open v0_point v0_setting v1_procedures c2 c3 c4 c5 c6 c7 c8 c9 c10 c12 c13 c14 c15 c16 c17) → va_S A s.heap H locs → lv_has ls 3 [(0, .ref h0), (1, .int y1), (2, .int y2)] → fX8_record_b50 v1_procedures c2 c8 c9 c10 c12 c15 c16 c17  k50 y1 y2 v0_length v0_open v0_point v0_setting c3 c4 c5 c6 c7 c13 c14 = some o → G 0 0 H locs (F0 m 50 ls []) := by
    intro  k50 hk50 y1 y2 v0_length v0_open v0_point v0_setting c3 c4 c5 c6 c7 c13 c14 H locs ls hP hD hS hl hf
    refine (hG _ _ _ _ _).mpr ?_
    unfold fX8_record_b50 at hf
    refine lv_iload_n hx hb dX8_record_50 rfl (lv_at hl 2 rfl) ?_
    refine lv_iload_n hx hb dX8_record_51 rfl (lv_at hl 1 rfl) ?_
    refine lv_icmp_ge (tgt := 165) hx hb dX8_record_52 (by decide) (fun cq3 => ?_) (fun cq3 => ?_)
    · replace hf := if_at hf cq3
      exact (hG _ _ _ _ _).mp (J165 v0_length v0_open v0_point v0_setting c3 c4 c5 c6 c7 c13 c14 H locs ls (hP.sub [0, 1, 2, 3, 4, 5, 6, 7, 8, 9, 10, 11, 12, 13, 14, 15, 16, 17] rfl) (hD.sub [0, 1, 2, 3, 4, 5, 6, 7, 8, 9, 10, 11, 12, 13, 14, 15, 16, 17] (by decide) rfl) hS (lv_sub hl [0] rfl) hf)
    · replace hf := if_no hf cq3
      refine lv_iload_n hx hb dX8_record_55 rfl (lv_at hl 2 rfl) ?_
      refine lv_sipush (v := 2000) hx hb dX8_record_56 (by decide +kernel) ?_
      refine lv_icmp_ge (tgt := 165) hx hb dX8_record_59 (by decide) (fun cq4 => ?_) (fun cq4 => ?_)
      · replace hf := if_at hf cq4
        exact (hG _ _ _ _ _).mp (J165 v0_length v0_open v0_point v0_setting c3 c4 c5 c6 c7 c13 c14 H locs ls (hP.sub [0, 1, 2, 3, 4, 5, 6, 7, 8, 9, 10, 11, 12, 13, 14, 15, 16, 17] rfl) (hD.sub [0, 1, 2, 3, 4, 5, 6, 7, 8, 9, 10, 11, 12, 13, 14, 15, 16, 17] (by decide) rfl) hS (lv_sub hl [0] rfl) hf)
      · replace hf := if_no hf cq4
        refine lv_aload_n hx hb dX8_record_62 rfl (lv_at hl 0 rfl) ?_
        refine va_get (D := (dC, dI)) (ci := 8) (v := .int v0_point) (C := RX8) (T := TX8) (N := 13) hx hb hts inlX8 hown hK hP 0 rfl rfl 11 (by decide) w0_ (fun _ h9 => h9) rfl dX8_record_63 ?_
        refine lv_if_lt (tgt := 165) hx hb dX8_record_66 (by decide) (fun cq5 => ?_) (fun cq5 => ?_)
        · replace hf := if_at hf cq5
          exact (hG _ _ _ _ _).mp (J165 v0_length v0_open v0_point v0_setting c3 c4 c5 c6 c7 c13 c14 H locs ls (hP.sub [0, 1, 2, 3, 4, 5, 6, 7, 8, 9, 10, 11, 12, 13, 14, 15, 16, 17] rfl) (hD.sub [0, 1, 2, 3, 4, 5, 6, 7, 8, 9, 10, 11, 12, 13, 14, 15, 16, 17] (by decide) rfl) hS (lv_sub hl [0] rfl) hf)
        · replace hf := if_no hf cq5
          refine lv_aload_n hx hb dX8_record_69 rfl (lv_at hl 0 rfl) ?_
          refine va_get (D := (dC, dI)) (ci := 8) (v := .ref h4) (C := RX8) (T := TX8) (N := 13) hx hb hts inlX8 hown hK hP 0 rfl rfl 2 (by decide) w1_ (fun _ h9 => h9) rfl dX8_record_70 ?_
          refine lv_iload_n hx hb dX8_record_73 rfl (lv_at hl 2 rfl) ?_
          refine lv_aload_n hx hb dX8_record_74 rfl (lv_at hl 0 rfl) ?_
          refine va_get (D := (dC, dI)) (ci := 8) (v := .int v0_point) (C := RX8) (T := TX8) (N := 13) hx hb hts inlX8 hown hK hP 0 rfl rfl 11 (by decide) w0_ (fun _ h9 => h9) rfl dX8_record_75 ?_
          have b6 := bd_in hf
          replace hf := bd_k hf
          obtain ⟨c6x, e6⟩ : ∃ y, y = upd c4 y2.toNatClampNeg v0_point := ⟨_, rfl⟩
          replace hf := nm_at hf e6
          refine va_iast hx hb hK hP hD hS 4 2 rfl rfl b6 dX8_record_78 (fun H locs hP hD hS => ?_)
          have hP : va_P (dC, dI) vwCl (wX8_record h0 h1 h2 h3 h4 h5 h6 h7 h8 h9 h10 h11 h12 h13 h14 h15 h16 h17 kc2 kc3 kc4 kc5 kc6 kc7 kc8 kc9 kc10 kc12 kc13 kc14 kc15 kc16 kc17 V1 V11 v0_length v0_open v0_point v0_setting v1_procedures c2 c3 c6x c5 c6 c7 c8 c9 c10 c12 c13 c14 c15 c16 c17) H := by rw [e6]; exact hP
          have hD : va_D A (wX8_record h0 h1 h2 h3 h4 h5 h6 h7 h8 h9 h10 h11 h12 h13 h14 h15 h16 h17 kc2 kc3 kc4 kc5 kc6 kc7 kc8 kc9 kc10 kc12 kc13 kc14 kc15 kc16 kc17 V1 V11 v0_length v0_open v0_point v0_setting v1_procedures c2 c3 c6x c5 c6 c7 c8 c9 c10 c12 c13 c14 c15 c16 c17) := by rw [e6]; exact hD
          refine lv_aload_n hx hb dX8_record_79 rfl (lv_at hl 0 rfl) ?_
          refine va_get (D := (dC, dI)) (ci := 8) (v := .ref h5) (C := RX8) (T := TX8) (N := 13) hx hb hts inlX8 hown hK hP 0 rfl rfl 3 (by decide) w2_ (fun _ h9 => h9) rfl dX8_record_80 ?_
          refine lv_iload_n hx hb dX8_record_83 rfl (lv_at hl 2 rfl) ?_
          refine lv_aload_n hx hb dX8_record_84 rfl (lv_at hl 0 rfl) ?_
          refine va_get (D := (dC, dI)) (ci := 8) (v := .int v0_open) (C := RX8) (T := TX8) (N := 13) hx hb hts inlX8 hown hK hP 0 rfl rfl 10 (by decide) w3_ (fun _ h9 => h9) rfl dX8_record_85 ?_
          refine lv_iconst (v := 1) hx hb dX8_record_88 (by decide +kernel) ?_
          refine lv_iadd hx hb dX8_record_89 ?_
          refine lv_topi (fun x7 e7 => ?_)
          replace hf := nm_at hf e7
          have b8 := bd_in hf
          replace hf := bd_k hf
          obtain ⟨c8x, e8⟩ : ∃ y, y = upd c5 y2.toNatClampNeg x7 := ⟨_, rfl⟩
          replace hf := nm_at hf e8
          refine va_iast hx hb hK hP hD hS 5 3 rfl rfl b8 dX8_record_90 (fun H locs hP hD hS => ?_)
          have hP : va_P (dC, dI) vwCl (wX8_record h0 h1 h2 h3 h4 h5 h6 h7 h8 h9 h10 h11 h12 h13 h14 h15 h16 h17 kc2 kc3 kc4 kc5 kc6 kc7 kc8 kc9 kc10 kc12 kc13 kc14 kc15 kc16 kc17 V1 V11 v0_length v0_open v0_point v0_setting v1_procedures c2 c3 c6x c8x c6 c7 c8 c9 c10 c12 c13 c14 c15 c16 c17) H := by rw [e8]; exact hP
          have hD : va_D A (wX8_record h0 h1 h2 h3 h4 h5 h6 h7 h8 h9 h10 h11 h12 h13 h14 h15 h16 h17 kc2 kc3 kc4 kc5 kc6 kc7 kc8 kc9 kc10 kc12 kc13 kc14 kc15 kc16 kc17 V1 V11 v0_length v0_open v0_point v0_setting v1_procedures c2 c3 c6x c8x c6 c7 c8 c9 c10 c12 c13 c14 c15 c16 c17) := by rw [e8]; exact hD
          refine lv_aload_n hx hb dX8_record_91 rfl (lv_at hl 0 rfl) ?_
          refine va_get (D := (dC, dI)) (ci := 8) (v := .ref h6) (C := RX8) (T := TX8) (N := 13) hx hb hts inlX8 hown hK hP 0 rfl rfl 4 (by decide) w4_ (fun _ h9 => h9) rfl dX8_record_92 ?_
          refine lv_iload_n hx hb dX8_record_95 rfl (lv_at hl 2 rfl) ?_
          refine lv_aload_n hx hb dX8_record_96 rfl (lv_at hl 0 rfl) ?_
          refine va_get (D := (dC, dI)) (ci := 8) (v := .int v0_setting) (C := RX8) (T := TX8) (N := 13) hx hb hts inlX8 hown hK hP 0 rfl rfl 12 (by decide) w5_ (fun _ h9 => h9) rfl dX8_record_97 ?_
          have b9 := bd_in hf
          replace hf := bd_k hf
          obtain ⟨c9x, e9⟩ : ∃ y, y = upd c6 y2.toNatClampNeg v0_setting := ⟨_, rfl⟩
          replace hf := nm_at hf e9
          refine va_iast hx hb hK hP hD hS 6 4 rfl rfl b9 dX8_record_100 (fun H locs hP hD hS => ?_)
          have hP : va_P (dC, dI) vwCl (wX8_record h0 h1 h2 h3 h4 h5 h6 h7 h8 h9 h10 h11 h12 h13 h14 h15 h16 h17 kc2 kc3 kc4 kc5 kc6 kc7 kc8 kc9 kc10 kc12 kc13 kc14 kc15 kc16 kc17 V1 V11 v0_length v0_open v0_point v0_setting v1_procedures c2 c3 c6x c8x c9x c7 c8 c9 c10 c12 c13 c14 c15 c16 c17) H := by rw [e9]; exact hP
          have hD : va_D A (wX8_record h0 h1 h2 h3 h4 h5 h6 h7 h8 h9 h10 h11 h12 h13 h14 h15 h16 h17 kc2 kc3 kc4 kc5 kc6 kc7 kc8 kc9 kc10 kc12 kc13 kc14 kc15 kc16 kc17 V1 V11 v0_length v0_open v0_point v0_setting v1_procedures c2 c3 c6x c8x c9x c7 c8 c9 c10 c12 c13 c14 c15 c16 c17) := by rw [e9]; exact hD
          refine lv_aload_n hx hb dX8_record_101 rfl (lv_at hl 0 rfl) ?_
          refine va_get (D := (dC, dI)) (ci := 8) (v := .ref h7) (C := RX8) (T := TX8) (N := 13) hx hb hts inlX8 hown hK hP 0 rfl rfl 5 (by decide) w6_ (fun _ h9 => h9) rfl dX8_record_102 ?_
          refine lv_iload_n hx hb dX8_record_105 rfl (lv_at hl 2 rfl) ?_
          refine lv_iconst (v := (-1)) hx hb dX8_record_106 (by decide +kernel) ?_
          have b10 := bd_in hf
          replace hf := bd_k hf
          obtain ⟨c10x, e10⟩ : ∃ y, y = upd c7 y2.toNatClampNeg (-1) := ⟨_, rfl⟩
          replace hf := nm_at hf e10
          refine va_iast hx hb hK hP hD hS 7 5 rfl rfl b10 dX8_record_107 (fun H locs hP hD hS => ?_)
          have hP : va_P (dC, dI) vwCl (wX8_record h0 h1 h2 h3 h4 h5 h6 h7 h8 h9 h10 h11 h12 h13 h14 h15 h16 h17 kc2 kc3 kc4 kc5 kc6 kc7 kc8 kc9 kc10 kc12 kc13 kc14 kc15 kc16 kc17 V1 V11 v0_length v0_open v0_point v0_setting v1_procedures c2 c3 c6x c8x c9x c10x c8 c9 c10 c12 c13 c14 c15 c16 c17) H := by rw [e10]; exact hP
          have hD : va_D A (wX8_record h0 h1 h2 h3 h4 h5 h6 h7 h8 h9 h10 h11 h12 h13 h14 h15 h16 h17 kc2 kc3 kc4 kc5 kc6 kc7 kc8 kc9 kc10 kc12 kc13 kc14 kc15 kc16 kc17 V1 V11 v0_length v0_open v0_point v0_setting v1_procedures c2 c3 c6x c8x c9x c10x c8 c9 c10 c12 c13 c14 c15 c16 c17) := by rw [e10]; exact hD
          refine lv_aload_n hx hb dX8_record_108 rfl (lv_at hl 0 rfl) ?_
          refine lv_dup hx hb dX8_record_109 rfl ?_
          refine va_get (D := (dC, dI)) (ci := 8) (v := .int v0_length) (C := RX8) (T := TX8) (N := 13) hx hb hts inlX8 hown hK hP 0 rfl rfl 6 (by decide) w7_ (fun _ h9 => h9) rfl dX8_record_110 ?_
          refine lv_iconst (v := 1) hx hb dX8_record_113 (by decide +kernel) ?_
          refine lv_iadd hx hb dX8_record_114 ?_
          refine lv_topi (fun x11 e11 => ?_)
          replace hf := nm_at hf e11
          refine va_put (D := (dC, dI)) (ci := 8) (v := .int x11) (ty := .int) (C := RX8) (T := TX8) (N := 13) hx hb hts inlX8 tyX8 tyX8_ok nmX8 hown hK hP hD hS 0 rfl rfl 6 (by decide) w7_ (fun _ h9 => h9) rfl (by decide +kernel) rfl rfl (Nat.le_of_ble_eq_true rfl) dX8_record_115 (fun H locs hP hD hS => ?_)
          have hP : va_P (dC, dI) vwCl (wX8_record h0 h1 h2 h3 h4 h5 h6 h7 h8 h9 h10 h11 h12 h13 h14 h15 h16 h17 kc2 kc3 kc4 kc5 kc6 kc7 kc8 kc9 kc10 kc12 kc13 kc14 kc15 kc16 kc17 V1 V11 x11 v0_open v0_point v0_setting v1_procedures c2 c3 c6x c8x c9x c10x c8 c9 c10 c12 c13 c14 c15 c16 c17) H := hP
          have hD : va_D A (wX8_record h0 h1 h2 h3 h4 h5 h6 h7 h8 h9 h10 h11 h12 h13 h14 h15 h16 h17 kc2 kc3 kc4 kc5 kc6 kc7 kc8 kc9 kc10 kc12 kc13 kc14 kc15 kc16 kc17 V1 V11 x11 v0_open v0_point v0_setting v1_procedures c2 c3 c6x c8x c9x c10x c8 c9 c10 c12 c13 c14 c15 c16 c17) := hD
          refine lv_aload_n hx hb dX8_record_118 rfl (lv_at hl 0 rfl) ?_
          refine va_get (D := (dC, dI)) (ci := 8) (v := .ref h1) (C := RX8) (T := TX8) (N := 13) hx hb hts inlX8 hown hK hP 0 rfl rfl 0 (by decide) w8_ (fun _ h9 => h9) rfl dX8_record_119 ?_
          refine va_get (D := (dC, dI)) (ci := 3) (v := .ref h8) (C := RX3) (T := TX3) (N := 18) hx hb hts inlX3 hown hK hP 1 rfl rfl 5 (by decide) w9_ (fun _ h9 => h9) rfl dX8_record_122 ?_
          refine lv_aload_n hx hb dX8_record_125 rfl (lv_at hl 0 rfl) ?_
          refine va_get (D := (dC, dI)) (ci := 8) (v := .int v0_point) (C := RX8) (T := TX8) (N := 13) hx hb hts inlX8 hown hK hP 0 rfl rfl 11 (by decide) w0_ (fun _ h9 => h9) rfl dX8_record_126 ?_
          have b12 := bd_in hf
          replace hf := bd_k hf
          refine va_iald hx hb hK hP 8 6 rfl rfl b12 dX8_record_129 ?_
          refine lv_topi (fun x13 e13 => ?_)
          replace hf := nm_at hf e13
          refine lv_iconst (v := 3) hx hb dX8_record_130 (by decide +kernel) ?_
          refine lv_icmp_ne (tgt := 145) hx hb dX8_record_131 (by decide) (fun cq14 => ?_) (fun cq14 => ?_)
          · replace hf := if_no hf cq14
            refine lv_aload_n hx hb dX8_record_145 rfl (lv_at hl 0 rfl) ?_
            refine lv_iload_n hx hb dX8_record_146 rfl (lv_at hl 2 rfl) ?_
            refine lv_iload_n hx hb dX8_record_147 rfl (lv_at hl 1 rfl) ?_
            refine lv_iload_n hx hb dX8_record_148 rfl (lv_at hl 2 rfl) ?_
            refine lv_isub hx hb dX8_record_149 ?_
            refine lv_topi (fun x15 e15 => ?_)
            replace hf := nm_at hf e15
            refine lv_iconst (v := 1) hx hb dX8_record_150 (by decide +kernel) ?_
            refine lv_isub hx hb dX8_record_151 ?_
            refine lv_topi (fun x16 e16 => ?_)
            replace hf := nm_at hf e16
            obtain ⟨o17, e17, hf⟩ := ob_some hf
            refine kVv (As := [.int y2, .int x16]) (rest := []) ⟨hx, hb, hml, hown, hts⟩ (mX8_takeStep l dC dI h0 h1 h16 h8 h17 h9 h10 h3 h11 h12 h7 kc16 kc8 kc17 kc9 kc10 kc3 kc12 kc7 H.size base y2 x16 v0_open v0_point v0_setting c16 c8 c17 c9 c10 c3 c12 c10x (fun k => match k with | 2 => .ref h4 | 3 => .ref h5 | 4 => .ref h6 | 6 => .int x11 | 7 => .ref h13 | 8 => .ref h14 | _ => .null) (fun k => match k with | 2 => .int v1_procedures | 4 => .ref h2 | 10 => .ref h15 | k => V1 k) V11 o17 e17) (cwV 2 hts (gTV q1089 q1090 q1091 q950 q1092) rfl rfl rfl (by decide +kernel) ⟨Nat.le_of_ble_eq_true rfl, Nat.le_of_ble_eq_true rfl⟩) hK hP hD hS hA hE hAB [0, 1, 16, 8, 17, 9, 10, 3, 11, 12, 7] [2, 4, 5, 6, 13, 14, 15] [13, 6, 14, 7, 8, 1, 9, 5] (wr := [(h2, .inl (kc2, 6, .inl c2)), (h4, .inl (kc4, 2000, .inl c6x)), (h5, .inl (kc5, 2000, .inl c8x)), (h6, .inl (kc6, 2000, .inl c9x)), (h13, .inl (kc13, 2001, .inl c13)), (h14, .inl (kc14, 2001, .inl c14)), (h15, .inl (kc15, 40, .inl c15))]) rfl rfl (by decide) (by decide) (by decide) rfl (ci := 8) (q0 := 0) rfl rfl rfl rfl hl.1 rfl (Nat.le_of_ble_eq_true rfl) dX8_record_152 ⟨Nat.zero_le _, Nat.zero_le _⟩ (fun u17 H locs hw17 hP hD hS => ?_)
            have hw171 : o17 = u17 := Eq.symm hw17
            subst hw171
            have hP : va_P (dC, dI) vwCl (wX8_record h0 h1 h2 h3 h4 h5 h6 h7 h8 h9 h10 h11 h12 h13 h14 h15 h16 h17 kc2 kc3 kc4 kc5 kc6 kc7 kc8 kc9 kc10 kc12 kc13 kc14 kc15 kc16 kc17 V1 V11 x11 v0_open o17.1 o17.2.1 v1_procedures c2 c3 c6x c8x c9x o17.2.2 c8 c9 c10 c12 c13 c14 c15 c16 c17) H := hP.sub [7, 8, 0, 14, 1, 2, 3, 17, 10, 12, 13, 15, 16, 4, 5, 6, 9, 11] rfl
            have hD : va_D A (wX8_record h0 h1 h2 h3 h4 h5 h6 h7 h8 h9 h10 h11 h12 h13 h14 h15 h16 h17 kc2 kc3 kc4 kc5 kc6 kc7 kc8 kc9 kc10 kc12 kc13 kc14 kc15 kc16 kc17 V1 V11 x11 v0_open o17.1 o17.2.1 v1_procedures c2 c3 c6x c8x c9x o17.2.2 c8 c9 c10 c12 c13 c14 c15 c16 c17) := hD.sub [7, 8, 0, 14, 1, 2, 3, 17, 10, 12, 13, 15, 16, 4, 5, 6, 9, 11] (by decide) rfl
            exact (hG _ _ _ _ _).mp (J155 k50 hk50 y1 y2 x11 v0_open o17.1 o17.2.1 c3 c6x c8x c9x o17.2.2 c13 c14 H locs ls (hP.sub [0, 1, 2, 3, 4, 5, 6, 7, 8, 9, 10, 11, 12, 13, 14, 15, 16, 17] rfl) (hD.sub [0, 1, 2, 3, 4, 5, 6, 7, 8, 9, 10, 11, 12, 13, 14, 15, 16, 17] (by decide) rfl) hS (lv_sub hl [0, 1, 2] rfl) hf)
          · replace hf := if_at hf cq14
            refine lv_aload_n hx hb dX8_record_134 rfl (lv_at hl 0 rfl) ?_
            refine lv_aload_n hx hb dX8_record_135 rfl (lv_at hl 0 rfl) ?_
            refine va_get (D := (dC, dI)) (ci := 8) (v := .int v0_point) (C := RX8) (T := TX8) (N := 13) hx hb hts inlX8 hown hK hP 0 rfl rfl 11 (by decide) w0_ (fun _ h9 => h9) rfl dX8_record_136 ?_
            obtain ⟨o18, e18, hf⟩ := ob_some hf
            refine kVv (As := [.int v0_point]) (rest := []) ⟨hx, hb, hml, hown, hts⟩ (mX8_openCall l dC dI h0 h1 h9 h10 h3 h11 h12 h13 h14 h15 h2 kc9 kc10 kc3 kc12 kc13 kc14 kc15 kc2 H.size base v0_point v0_open v0_point v0_setting c9 c10 c3 c12 c13 c14 c15 c2 (fun k => match k with | 2 => .ref h4 | 3 => .ref h5 | 4 => .ref h6 | 5 => .ref h7 | 6 => .int x11 | _ => .null) (fun k => match k with | 2 => .int v1_procedures | 5 => .ref h8 | 8 => .ref h16 | 9 => .ref h17 | k => V1 k) V11 o18 e18) (cwV 1 hts (gTV q1075 q1076 q1077 q950 q1078) rfl rfl rfl (by decide +kernel) ⟨Nat.le_of_ble_eq_true rfl, Nat.le_of_ble_eq_true rfl⟩) hK hP hD hS hA hE hAB [0, 1, 9, 10, 3, 11, 12, 13, 14, 15, 2] [4, 5, 6, 7, 8, 16, 17] [7, 8, 1, 9, 10, 11, 12, 0] (wr := [(h4, .inl (kc4, 2000, .inl c6x)), (h5, .inl (kc5, 2000, .inl c8x)), (h6, .inl (kc6, 2000, .inl c9x)), (h7, .inl (kc7, 2000, .inl c10x)), (h8, .inl (kc8, 40, .inl c8)), (h16, .inl (kc16, 40, .inr (.inl c16))), (h17, .inl (kc17, 40, .inl c17))]) rfl rfl (by decide) (by decide) (by decide) rfl (ci := 8) (q0 := 0) rfl rfl rfl rfl hl.1 rfl (Nat.le_of_ble_eq_true rfl) dX8_record_139 ⟨Nat.zero_le _, Nat.zero_le _⟩ (fun u18 H locs hw18 hP hD hS => ?_)
            have hw181 : o18 = u18 := Eq.symm hw18
            subst hw181
            have hP : va_P (dC, dI) vwCl (wX8_record h0 h1 h2 h3 h4 h5 h6 h7 h8 h9 h10 h11 h12 h13 h14 h15 h16 h17 kc2 kc3 kc4 kc5 kc6 kc7 kc8 kc9 kc10 kc12 kc13 kc14 kc15 kc16 kc17 V1 V11 x11 o18.1 o18.2.1 o18.2.2.1 v1_procedures c2 o18.2.2.2.1 c6x c8x c9x c10x c8 c9 c10 c12 o18.2.2.2.2.1 o18.2.2.2.2.2 c15 c16 c17) H := hP.sub [7, 8, 17, 11, 0, 1, 2, 3, 4, 9, 10, 12, 13, 14, 15, 16, 5, 6] rfl
            have hD : va_D A (wX8_record h0 h1 h2 h3 h4 h5 h6 h7 h8 h9 h10 h11 h12 h13 h14 h15 h16 h17 kc2 kc3 kc4 kc5 kc6 kc7 kc8 kc9 kc10 kc12 kc13 kc14 kc15 kc16 kc17 V1 V11 x11 o18.1 o18.2.1 o18.2.2.1 v1_procedures c2 o18.2.2.2.1 c6x c8x c9x c10x c8 c9 c10 c12 o18.2.2.2.2.1 o18.2.2.2.2.2 c15 c16 c17) := hD.sub [7, 8, 17, 11, 0, 1, 2, 3, 4, 9, 10, 12, 13, 14, 15, 16, 5, 6] (by decide) rfl
            refine lv_goto (tgt := 155) hx hb dX8_record_142 (by decide) ?_
            exact (hG _ _ _ _ _).mp (J155 k50 hk50 y1 y2 x11 o18.1 o18.2.1 o18.2.2.1 o18.2.2.2.1 c6x c8x c9x c10x o18.2.2.2.2.1 o18.2.2.2.2.2 H locs ls (hP.sub [0, 1, 2, 3, 4, 5, 6, 7, 8, 9, 10, 11, 12, 13, 14, 15, 16, 17] rfl) (hD.sub [0, 1, 2, 3, 4, 5, 6, 7, 8, 9, 10, 11, 12, 13, 14, 15, 16, 17] (by decide) rfl) hS (lv_sub hl [0, 1, 2] rfl) hf)
  have L50 : ∀ (n : Nat), ∀ (y1 : Int32) (y2 : Int32) (v0_length : Int32) (v0_open : Int32) (v0_point : Int32) (v0_setting : Int32) (c3 : (Nat → Int32)) (c4 : (Nat → Int32)) (c5 : (Nat → Int32)) (c6 : (Nat → Int32)) (c7 : (Nat → Int32)) (c13 : (Nat → Int32)) (c14 : (Nat → Int32)) (H : Heap) (locs : List Loc) (ls : Array Slot), va_P (dC, dI) vwCl (wX8_record h0 h1 h2 h3 h4 h5 h6 h7 h8 h9 h10 h11 h12 h13 h14 h15 h16 h17 kc2 kc3 kc4 kc5 kc6 kc7 kc8 kc9 kc10 kc12 kc13 kc14 kc15 kc16 kc17 V1 V11 v0_length v0_open v0_point v0_setting v1_procedures c2 c3 c4 c5 c6 c7 c8 c9 c10 c12 c13 c14 c15 c16 c17) H → va_D A (wX8_record h0 h1 h2 h3 h4 h5 h6 h7 h8 h9 h10 h11 h12 h13 h14 h15 h16 h17 kc2 kc3 kc4 kc5 kc6 kc7 kc8 kc9 kc10 kc12 kc13 kc14 kc15 kc16 kc17 V1 V11 v0_length v0_open v0_point v0_setting v1_procedures c2 c3 c4 c5 c6 c7 c8 c9 c10 c12 c13 c14 c15 c16 c17) → va_S A s.heap H locs → lv_has ls 3 [(0, .ref h0), (1, .int y1), (2, .int y2)] → fX8_record_l50 v1_procedures c2 c8 c9 c10 c12 c15 c16 c17  n y1 y2 v0_length v0_open v0_point v0_setting c3 c4 c5 c6 c7 c13 c14 = some o → G 0 0 H locs (F0 m 50 ls []) := by
    intro  n
    induction n with
    | zero => intro y1 y2 v0_length v0_open v0_point v0_setting c3 c4 c5 c6 c7 c13 c14 H locs ls _ _ _ _ hf; cases hf
    | succ n ih => exact B50  _ ih
  have B28 : ∀ (k28 : Int32 → Int32 → Int32 → Int32 → Int32 → Int32 → (Nat → Int32) → (Nat → Int32) → (Nat → Int32) → (Nat → Int32) → (Nat → Int32) → (Nat → Int32) → (Nat → Int32) → Option (Int32 × Int32 × Int32 × Int32 × (Nat → Int32) × (Nat → Int32) × (Nat → Int32) × (Nat → Int32) × (Nat → Int32) × (Nat → Int32) × (Nat → Int32))) (hk28 : ∀ (y1 : Int32) (y2 : Int32) (v0_length : Int32) (v0_open : Int32) (v0_point : Int32) (v0_setting : Int32) (c3 : (Nat → Int32)) (c4 : (Nat → Int32)) (c5 : (Nat → Int32)) (c6 : (Nat → Int32)) (c7 : (Nat → Int32)) (c13 : (Nat → Int32)) (c14 : (Nat → Int32)) (H : Heap) (locs : List Loc) (ls : Array Slot), va_P (dC, dI) vwCl (wX8_record h0 h1 h2 h3 h4 h5 h6 h7 h8 h9 h10 h11 h12 h13 h14 h15 h16 h17 kc2 kc3 kc4 kc5 kc6 kc7 kc8 kc9 kc10 kc12 kc13 kc14 kc15 kc16 kc17 V1 V11 v0_length v0_open v0_point v0_setting v1_procedures c2 c3 c4 c5 c6 c7 c8 c9 c10 c12 c13 c14 c15 c16 c17) H → va_D A (wX8_record h0 h1 h2 h3 h4 h5 h6 h7 h8 h9 h10 h11 h12 h13 h14 h15 h16 h17 kc2 kc3 kc4 kc5 kc6 kc7 kc8 kc9 kc10 kc12 kc13 kc14 kc15 kc16 kc17 V1 V11 v0_length v0_open v0_point v0_setting v1_procedures c2 c3 c4 c5 c6 c7 c8 c9 c10 c12 c13 c14 c15 c16 c17) → va_S A s.heap H locs → lv_has ls 3 [(0, .ref h0), (1, .int y1), (2, .int y2)] → k28 y1 y2 v0_length v0_open v0_point v0_setting c3 c4 c5 c6 c7 c13 c14 = some o → G 0 0 H locs (F0 m 28 ls [])), ∀ (y1 : Int32) (y2 : Int32) (v0_length : Int32) (v0_open : Int32) (v0_point : Int32) (v0_setting : Int32) (c3 : (Nat → Int32)) (c4 : (Nat → Int32)) (c5 : (Nat → Int32)) (c6 : (Nat → Int32)) (c7 : (Nat → Int32)) (c13 : (Nat → Int32)) (c14 : (Nat → Int32)) (H : Heap) (locs : List Loc) (ls : Array Slot), va_P (dC, dI) vwCl (wX8_record h0 h1 h2 h3 h4 h5 h6 h7 h8 h9 h10 h11 h12 h13 h14 h15 h16 h17 kc2 kc3 kc4 kc5 kc6 kc7 kc8 kc9 kc10 kc12 kc13 kc14 kc15 kc16 kc17 V1 V11 v0_length v0_open v0_point v0_setting v1_procedures c2 c3 c4 c5 c6 c7 c8 c9 c10 c12 c13 c14 c15 c16 c17) H → va_D A (wX8_record h0 h1 h2 h3 h4 h5 h6 h7 h8 h9 h10 h11 h12 h13 h14 h15 h16 h17 kc2 kc3 kc4 kc5 kc6 kc7 kc8 kc9 kc10 kc12 kc13 kc14 kc15 kc16 kc17 V1 V11 v0_length v0_open v0_point v0_setting v1_procedures c2 c3 c4 c5 c6 c7 c8 c9 c10 c12 c13 c14 c15 c16 c17) → va_S A s.heap H locs → lv_has ls 3 [(0, .ref h0), (1, .int y1), (2, .int y2)] → fX8_record_b28 v1_procedures c2 c8 c9 c10 c12 c15 c16 c17  k28 y1 y2 v0_length v0_open v0_point v0_setting c3 c4 c5 c6 c7 c13 c14 = some o → G 0 0 H locs (F0 m 28 ls []) := by
    intro  k28 hk28 y1 y2 v0_length v0_open v0_point v0_setting c3 c4 c5 c6 c7 c13 c14 H locs ls hP hD hS hl hf
    refine (hG _ _ _ _ _).mpr ?_
    unfold fX8_record_b28 at hf
    refine lv_iload_n hx hb dX8_record_28 rfl (lv_at hl 2 rfl) ?_
    refine lv_bipush (v := 8) hx hb dX8_record_29 (by decide +kernel) ?_
    refine lv_icmp_ge (tgt := 48) hx hb dX8_record_31 (by decide) (fun cq19 => ?_) (fun cq19 => ?_)
    · replace hf := if_at hf cq19
      refine lv_iconst (v := 0) hx hb dX8_record_48 (by decide +kernel) ?_
      refine lv_istore_n (lv' := [(2, .int 0), (0, .ref h0), (1, .int y1)]) hx hb dX8_record_49 rfl hl (by decide) rfl (fun ls hl => ?_)
      exact (hG _ _ _ _ _).mp (L50 FU y1 0 v0_length v0_open v0_point v0_setting c3 c4 c5 c6 c7 c13 c14 H locs ls (hP.sub [0, 1, 2, 3, 4, 5, 6, 7, 8, 9, 10, 11, 12, 13, 14, 15, 16, 17] rfl) (hD.sub [0, 1, 2, 3, 4, 5, 6, 7, 8, 9, 10, 11, 12, 13, 14, 15, 16, 17] (by decide) rfl) hS (lv_sub hl [1, 2, 0] rfl) hf)
    · replace hf := if_no hf cq19
      refine lv_aload_n hx hb dX8_record_34 rfl (lv_at hl 0 rfl) ?_
      refine va_get (D := (dC, dI)) (ci := 8) (v := .ref h3) (C := RX8) (T := TX8) (N := 13) hx hb hts inlX8 hown hK hP 0 rfl rfl 9 (by decide) w10_ (fun _ h9 => h9) rfl dX8_record_35 ?_
      refine lv_iload_n hx hb dX8_record_38 rfl (lv_at hl 2 rfl) ?_
      refine lv_ldc (v := 536870912) hx hb hown w11_ dX8_record_39 ?_
      have b20 := bd_in hf
      replace hf := bd_k hf
      obtain ⟨c20x, e20⟩ : ∃ y, y = upd c3 y2.toNatClampNeg 536870912 := ⟨_, rfl⟩
      replace hf := nm_at hf e20
      refine va_iast hx hb hK hP hD hS 3 1 rfl rfl b20 dX8_record_41 (fun H locs hP hD hS => ?_)
      have hP : va_P (dC, dI) vwCl (wX8_record h0 h1 h2 h3 h4 h5 h6 h7 h8 h9 h10 h11 h12 h13 h14 h15 h16 h17 kc2 kc3 kc4 kc5 kc6 kc7 kc8 kc9 kc10 kc12 kc13 kc14 kc15 kc16 kc17 V1 V11 v0_length v0_open v0_point v0_setting v1_procedures c2 c20x c4 c5 c6 c7 c8 c9 c10 c12 c13 c14 c15 c16 c17) H := by rw [e20]; exact hP
      have hD : va_D A (wX8_record h0 h1 h2 h3 h4 h5 h6 h7 h8 h9 h10 h11 h12 h13 h14 h15 h16 h17 kc2 kc3 kc4 kc5 kc6 kc7 kc8 kc9 kc10 kc12 kc13 kc14 kc15 kc16 kc17 V1 V11 v0_length v0_open v0_point v0_setting v1_procedures c2 c20x c4 c5 c6 c7 c8 c9 c10 c12 c13 c14 c15 c16 c17) := by rw [e20]; exact hD
      obtain ⟨x21, e21⟩ : ∃ y : Int32, y = y2 + 1 := ⟨_, rfl⟩
      replace hf := nm_at hf e21
      refine lv_iinc (v := x21) (lv' := [(2, .int x21), (0, .ref h0), (1, .int y1)]) hx hb dX8_record_42 hl (k := 2) rfl (by rw [e21]; rfl) (by decide) rfl (fun ls hl => ?_)
      refine lv_goto (tgt := 28) hx hb dX8_record_45 (by decide) ?_
      exact (hG _ _ _ _ _).mp (hk28 y1 x21 v0_length v0_open v0_point v0_setting c20x c4 c5 c6 c7 c13 c14 H locs ls (hP.sub [0, 1, 2, 3, 4, 5, 6, 7, 8, 9, 10, 11, 12, 13, 14, 15, 16, 17] rfl) (hD.sub [0, 1, 2, 3, 4, 5, 6, 7, 8, 9, 10, 11, 12, 13, 14, 15, 16, 17] (by decide) rfl) hS (lv_sub hl [1, 2, 0] rfl) hf)
  have L28 : ∀ (n : Nat), ∀ (y1 : Int32) (y2 : Int32) (v0_length : Int32) (v0_open : Int32) (v0_point : Int32) (v0_setting : Int32) (c3 : (Nat → Int32)) (c4 : (Nat → Int32)) (c5 : (Nat → Int32)) (c6 : (Nat → Int32)) (c7 : (Nat → Int32)) (c13 : (Nat → Int32)) (c14 : (Nat → Int32)) (H : Heap) (locs : List Loc) (ls : Array Slot), va_P (dC, dI) vwCl (wX8_record h0 h1 h2 h3 h4 h5 h6 h7 h8 h9 h10 h11 h12 h13 h14 h15 h16 h17 kc2 kc3 kc4 kc5 kc6 kc7 kc8 kc9 kc10 kc12 kc13 kc14 kc15 kc16 kc17 V1 V11 v0_length v0_open v0_point v0_setting v1_procedures c2 c3 c4 c5 c6 c7 c8 c9 c10 c12 c13 c14 c15 c16 c17) H → va_D A (wX8_record h0 h1 h2 h3 h4 h5 h6 h7 h8 h9 h10 h11 h12 h13 h14 h15 h16 h17 kc2 kc3 kc4 kc5 kc6 kc7 kc8 kc9 kc10 kc12 kc13 kc14 kc15 kc16 kc17 V1 V11 v0_length v0_open v0_point v0_setting v1_procedures c2 c3 c4 c5 c6 c7 c8 c9 c10 c12 c13 c14 c15 c16 c17) → va_S A s.heap H locs → lv_has ls 3 [(0, .ref h0), (1, .int y1), (2, .int y2)] → fX8_record_l28 v1_procedures c2 c8 c9 c10 c12 c15 c16 c17  n y1 y2 v0_length v0_open v0_point v0_setting c3 c4 c5 c6 c7 c13 c14 = some o → G 0 0 H locs (F0 m 28 ls []) := by
    intro  n
    induction n with
    | zero => intro y1 y2 v0_length v0_open v0_point v0_setting c3 c4 c5 c6 c7 c13 c14 H locs ls _ _ _ _ hf; cases hf
    | succ n ih => exact B28  _ ih
  refine (hG _ _ _ _ _).mpr ?_
  obtain ⟨H, hH⟩ : ∃ H, H = s.heap := ⟨_, rfl⟩
  have hS : va_S A s.heap H [] := by rw [hH]; exact hS
  rw [← hH] at hP ⊢
  generalize ([] : List Loc) = locs at hS ⊢
  unfold fX8_record at hf
  refine lv_aload_n hx hb dX8_record_0 rfl (lv_at hl 0 rfl) ?_
  refine lv_iconst (v := 0) hx hb dX8_record_1 (by decide +kernel) ?_
  refine va_put (D := (dC, dI)) (ci := 8) (v := .int 0) (ty := .int) (C := RX8) (T := TX8) (N := 13) hx hb hts inlX8 tyX8 tyX8_ok nmX8 hown hK hP hD hS 0 rfl rfl 6 (by decide) w7_ (fun _ h9 => h9) rfl (by decide +kernel) rfl rfl (Nat.le_of_ble_eq_true rfl) dX8_record_2 (fun H locs hP hD hS => ?_)
  have hP : va_P (dC, dI) vwCl (wX8_record h0 h1 h2 h3 h4 h5 h6 h7 h8 h9 h10 h11 h12 h13 h14 h15 h16 h17 kc2 kc3 kc4 kc5 kc6 kc7 kc8 kc9 kc10 kc12 kc13 kc14 kc15 kc16 kc17 V1 V11 0 v0_open v0_point v0_setting v1_procedures c2 c3 c4 c5 c6 c7 c8 c9 c10 c12 c13 c14 c15 c16 c17) H := hP
  have hD : va_D A (wX8_record h0 h1 h2 h3 h4 h5 h6 h7 h8 h9 h10 h11 h12 h13 h14 h15 h16 h17 kc2 kc3 kc4 kc5 kc6 kc7 kc8 kc9 kc10 kc12 kc13 kc14 kc15 kc16 kc17 V1 V11 0 v0_open v0_point v0_setting v1_procedures c2 c3 c4 c5 c6 c7 c8 c9 c10 c12 c13 c14 c15 c16 c17) := hD
  refine lv_aload_n hx hb dX8_record_5 rfl (lv_at hl 0 rfl) ?_
  refine lv_iconst (v := 0) hx hb dX8_record_6 (by decide +kernel) ?_
  refine va_put (D := (dC, dI)) (ci := 8) (v := .int 0) (ty := .int) (C := RX8) (T := TX8) (N := 13) hx hb hts inlX8 tyX8 tyX8_ok nmX8 hown hK hP hD hS 0 rfl rfl 10 (by decide) w3_ (fun _ h9 => h9) rfl (by decide +kernel) rfl rfl (Nat.le_of_ble_eq_true rfl) dX8_record_7 (fun H locs hP hD hS => ?_)
  have hP : va_P (dC, dI) vwCl (wX8_record h0 h1 h2 h3 h4 h5 h6 h7 h8 h9 h10 h11 h12 h13 h14 h15 h16 h17 kc2 kc3 kc4 kc5 kc6 kc7 kc8 kc9 kc10 kc12 kc13 kc14 kc15 kc16 kc17 V1 V11 0 0 v0_point v0_setting v1_procedures c2 c3 c4 c5 c6 c7 c8 c9 c10 c12 c13 c14 c15 c16 c17) H := hP
  have hD : va_D A (wX8_record h0 h1 h2 h3 h4 h5 h6 h7 h8 h9 h10 h11 h12 h13 h14 h15 h16 h17 kc2 kc3 kc4 kc5 kc6 kc7 kc8 kc9 kc10 kc12 kc13 kc14 kc15 kc16 kc17 V1 V11 0 0 v0_point v0_setting v1_procedures c2 c3 c4 c5 c6 c7 c8 c9 c10 c12 c13 c14 c15 c16 c17) := hD
  refine lv_aload_n hx hb dX8_record_10 rfl (lv_at hl 0 rfl) ?_
  refine lv_aload_n hx hb dX8_record_11 rfl (lv_at hl 0 rfl) ?_
  refine va_get (D := (dC, dI)) (ci := 8) (v := .ref h1) (C := RX8) (T := TX8) (N := 13) hx hb hts inlX8 hown hK hP 0 rfl rfl 0 (by decide) w8_ (fun _ h9 => h9) rfl dX8_record_12 ?_
  obtain ⟨o22, e22, hf⟩ := ob_some hf
  refine kVi (As := []) (rest := [.ref h0]) ⟨hx, hb, hml, hown, hts⟩ (mX3_firstPoint l dC dI h1 h2 kc2 H.size base v1_procedures c2 (fun k => match k with | 5 => .ref h8 | 8 => .ref h16 | 9 => .ref h17 | 10 => .ref h15 | 11 => .ref h9 | 12 => .ref h10 | k => V1 k) o22 e22) (cwV 0 hts (gTV q1074 q976 q977 q23 q978) rfl rfl rfl (by decide +kernel) ⟨Nat.le_of_ble_eq_true rfl, Nat.le_of_ble_eq_true rfl⟩) hK hP hD hS hA hE hAB [1, 2] [0, 3, 4, 5, 6, 7, 8, 9, 10, 11, 12, 13, 14, 15, 16, 17] [0] (wr := [(h0, .inr (8, [.ref h1, .ref h11, .ref h4, .ref h5, .ref h6, .ref h7, .int 0, .ref h13, .ref h14, .ref h3, .int 0, .int v0_point, .int v0_setting])), (h3, .inl (kc3, 16008, .inl c3)), (h4, .inl (kc4, 2000, .inl c4)), (h5, .inl (kc5, 2000, .inl c5)), (h6, .inl (kc6, 2000, .inl c6)), (h7, .inl (kc7, 2000, .inl c7)), (h8, .inl (kc8, 40, .inl c8)), (h9, .inl (kc9, 40, .inl c9)), (h10, .inl (kc10, 40, .inl c10)), (h11, .inr (0, [.ref h12, V11 1, V11 2, V11 3, V11 4, V11 5, V11 6])), (h12, .inl (kc12, 11520, .inl c12)), (h13, .inl (kc13, 2001, .inl c13)), (h14, .inl (kc14, 2001, .inl c14)), (h15, .inl (kc15, 40, .inl c15)), (h16, .inl (kc16, 40, .inr (.inl c16))), (h17, .inl (kc17, 40, .inl c17))]) rfl rfl (by decide) (by decide) (by decide) rfl (ci := 3) (q0 := 0) rfl rfl rfl rfl hl.1 rfl (Nat.le_of_ble_eq_true rfl) dX8_record_15 ⟨Nat.zero_le _, Nat.zero_le _⟩ (fun r22 u22 H locs hw22 hP hD hS => ?_)
  obtain ⟨hw221, hw222⟩ := hw22
  subst hw221 hw222
  have hP : va_P (dC, dI) vwCl (wX8_record h0 h1 h2 h3 h4 h5 h6 h7 h8 h9 h10 h11 h12 h13 h14 h15 h16 h17 kc2 kc3 kc4 kc5 kc6 kc7 kc8 kc9 kc10 kc12 kc13 kc14 kc15 kc16 kc17 V1 V11 0 0 v0_point v0_setting v1_procedures c2 c3 c4 c5 c6 c7 c8 c9 c10 c12 c13 c14 c15 c16 c17) H := hP.sub [0, 16, 17, 1, 2, 3, 4, 5, 6, 7, 8, 9, 10, 11, 12, 13, 14, 15] rfl
  have hD : va_D A (wX8_record h0 h1 h2 h3 h4 h5 h6 h7 h8 h9 h10 h11 h12 h13 h14 h15 h16 h17 kc2 kc3 kc4 kc5 kc6 kc7 kc8 kc9 kc10 kc12 kc13 kc14 kc15 kc16 kc17 V1 V11 0 0 v0_point v0_setting v1_procedures c2 c3 c4 c5 c6 c7 c8 c9 c10 c12 c13 c14 c15 c16 c17) := hD.sub [0, 16, 17, 1, 2, 3, 4, 5, 6, 7, 8, 9, 10, 11, 12, 13, 14, 15] (by decide) rfl
  refine va_put (D := (dC, dI)) (ci := 8) (v := .int o22.1) (ty := .int) (C := RX8) (T := TX8) (N := 13) hx hb hts inlX8 tyX8 tyX8_ok nmX8 hown hK hP hD hS 0 rfl rfl 11 (by decide) w0_ (fun _ h9 => h9) rfl (by decide +kernel) rfl rfl (Nat.le_of_ble_eq_true rfl) dX8_record_18 (fun H locs hP hD hS => ?_)
  have hP : va_P (dC, dI) vwCl (wX8_record h0 h1 h2 h3 h4 h5 h6 h7 h8 h9 h10 h11 h12 h13 h14 h15 h16 h17 kc2 kc3 kc4 kc5 kc6 kc7 kc8 kc9 kc10 kc12 kc13 kc14 kc15 kc16 kc17 V1 V11 0 0 o22.1 v0_setting v1_procedures c2 c3 c4 c5 c6 c7 c8 c9 c10 c12 c13 c14 c15 c16 c17) H := hP
  have hD : va_D A (wX8_record h0 h1 h2 h3 h4 h5 h6 h7 h8 h9 h10 h11 h12 h13 h14 h15 h16 h17 kc2 kc3 kc4 kc5 kc6 kc7 kc8 kc9 kc10 kc12 kc13 kc14 kc15 kc16 kc17 V1 V11 0 0 o22.1 v0_setting v1_procedures c2 c3 c4 c5 c6 c7 c8 c9 c10 c12 c13 c14 c15 c16 c17) := hD
  refine lv_aload_n hx hb dX8_record_21 rfl (lv_at hl 0 rfl) ?_
  refine lv_iconst (v := 0) hx hb dX8_record_22 (by decide +kernel) ?_
  refine va_put (D := (dC, dI)) (ci := 8) (v := .int 0) (ty := .int) (C := RX8) (T := TX8) (N := 13) hx hb hts inlX8 tyX8 tyX8_ok nmX8 hown hK hP hD hS 0 rfl rfl 12 (by decide) w5_ (fun _ h9 => h9) rfl (by decide +kernel) rfl rfl (Nat.le_of_ble_eq_true rfl) dX8_record_23 (fun H locs hP hD hS => ?_)
  have hP : va_P (dC, dI) vwCl (wX8_record h0 h1 h2 h3 h4 h5 h6 h7 h8 h9 h10 h11 h12 h13 h14 h15 h16 h17 kc2 kc3 kc4 kc5 kc6 kc7 kc8 kc9 kc10 kc12 kc13 kc14 kc15 kc16 kc17 V1 V11 0 0 o22.1 0 v1_procedures c2 c3 c4 c5 c6 c7 c8 c9 c10 c12 c13 c14 c15 c16 c17) H := hP
  have hD : va_D A (wX8_record h0 h1 h2 h3 h4 h5 h6 h7 h8 h9 h10 h11 h12 h13 h14 h15 h16 h17 kc2 kc3 kc4 kc5 kc6 kc7 kc8 kc9 kc10 kc12 kc13 kc14 kc15 kc16 kc17 V1 V11 0 0 o22.1 0 v1_procedures c2 c3 c4 c5 c6 c7 c8 c9 c10 c12 c13 c14 c15 c16 c17) := hD
  refine lv_iconst (v := 0) hx hb dX8_record_26 (by decide +kernel) ?_
  refine lv_istore_n (lv' := [(2, .int 0), (0, .ref h0), (1, .int a0)]) hx hb dX8_record_27 rfl hl (by decide) rfl (fun ls hl => ?_)
  exact (hG _ _ _ _ _).mp (L28 FU a0 0 0 0 o22.1 0 c3 c4 c5 c6 c7 c13 c14 H locs ls (hP.sub [0, 1, 2, 3, 4, 5, 6, 7, 8, 9, 10, 11, 12, 13, 14, 15, 16, 17] rfl) (hD.sub [0, 1, 2, 3, 4, 5, 6, 7, 8, 9, 10, 11, 12, 13, 14, 15, 16, 17] (by decide) rfl) hS (lv_sub hl [1, 2, 0] rfl) hf)
