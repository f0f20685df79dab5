set_option maxHeartbeats 4000000 in
set_option maxRecDepth 100000 in
theorem mX0_globalsOf (l : Launch) (dC : Nat → ClassId) (dI : Nat → Nat → Nat) (sz : Nat) (base : Nat × Nat × Nat) (a0 : Int32) (o : Int32 × Unit) (hf : fX0_globalsOf a0 = some o) : Met l yX0_globalsOf (.code yX0_globalsOf cX0_globalsOf 1 (some .int) :: wsL_law) ({ frames := 0, cells := 0, slots := 0, locals := 0 }) (cPre (dC, dI) vwCl [.int a0] sz base [] []) (va_Qi (fun r u => r = o.1 ∧ u = o.2) (fun (u : Unit) t => cPost (dC, dI) vwCl (va_A [] sz) [] [] t) (va_A [] sz)) 0 0 (va_A [] sz) := by
  refine Met.ofW (cc := cX0_globalsOf) (maxL := 1) (ret := (some .int)) (by decide) rfl ?_
  intro p e s m args below meth c s₁ B hml hv
  obtain ⟨rfl, hsz, hP, hK, hD0, hE⟩ := hv
  have hx := B.exec
  have hb := B.bytes
  have hr := B.returns
  have hts : ∀ w ∈ wsL_law, _ := fun w h => atoms_spec (ws := .code yX0_globalsOf cX0_globalsOf 1 (some .int) :: wsL_law) B.pre w (List.mem_cons_of_mem _ h)
  have hown : s.vm.findClass RX0 = some m.cls := findClass_of_methodNamed B.named
  have hlocks := B.notSynchronized
  skip
  subst hsz
  have hD := hD0.self (sz := s.heap.size)
  generalize hAe : va_A [] s.heap.size = A at hD ⊢
  have hA : ∀ q : Nat, s.heap.size ≤ q → A q := fun q h => by rw [← hAe]; exact Or.inr h
  have hAB : ∀ q : Nat, A q → base.1 ≤ q := fun q h => by rw [← hAe] at h; exact h.elim (fun ⟨k, e, hk⟩ => hD0.2 k _ hk) (fun hk => Nat.le_trans hE.1 hk)
  have hS : va_S A s.heap s.heap [] := va_S.rf
  have hl := lv_entry ([.int a0]) (n := 1) (Nat.le_of_ble_eq_true rfl)
  rw [lg_entry_eq]
  generalize (lg_sl ([.int a0]) ++ List.replicate (1 - (lg_sl ([.int a0])).length) Slot.unset).toArray = ls at hl ⊢
  have hl : lv_has ls 1 [(0, .int a0)] := hl
  have hP : va_P (dC, dI) vwCl [] s.heap := hP
  obtain ⟨H, hH⟩ : ∃ H, H = s.heap := ⟨_, rfl⟩
  have hS : va_S A s.heap H [] := by rw [hH]; exact hS
  rw [← hH] at hP ⊢
  generalize ([] : List Loc) = locs at hS ⊢
  unfold fX0_globalsOf at hf
  refine lv_iload_n hx hb dX0_globalsOf_0 rfl (lv_at hl 0 rfl) ?_
  refine lv_iload_n hx hb dX0_globalsOf_1 rfl (lv_at hl 0 rfl) ?_
  refine lv_bipush (v := 8) hx hb dX0_globalsOf_2 (by decide +kernel) ?_
  refine lv_iushr hx hb dX0_globalsOf_4 rfl ?_
  refine lv_topi (fun x1 e1 => ?_)
  replace hf := nm_at hf e1
  refine lv_ior hx hb dX0_globalsOf_5 ?_
  refine lv_topi (fun x2 e2 => ?_)
  replace hf := nm_at hf e2
  refine lv_iload_n hx hb dX0_globalsOf_6 rfl (lv_at hl 0 rfl) ?_
  refine lv_bipush (v := 16) hx hb dX0_globalsOf_7 (by decide +kernel) ?_
  refine lv_iushr hx hb dX0_globalsOf_9 rfl ?_
  refine lv_topi (fun x3 e3 => ?_)
  replace hf := nm_at hf e3
  refine lv_ior hx hb dX0_globalsOf_10 ?_
  refine lv_topi (fun x4 e4 => ?_)
  replace hf := nm_at hf e4
  refine lv_iload_n hx hb dX0_globalsOf_11 rfl (lv_at hl 0 rfl) ?_
  refine lv_bipush (v := 24) hx hb dX0_globalsOf_12 (by decide +kernel) ?_
  refine lv_iushr hx hb dX0_globalsOf_14 rfl ?_
  refine lv_topi (fun x5 e5 => ?_)
  replace hf := nm_at hf e5
  refine lv_ior hx hb dX0_globalsOf_15 ?_
  refine lv_topi (fun x6 e6 => ?_)
  replace hf := nm_at hf e6
  refine lv_sipush (v := 255) hx hb dX0_globalsOf_16 (by decide +kernel) ?_
  refine lv_iand hx hb dX0_globalsOf_19 ?_
  refine lv_topi (fun x7 e7 => ?_)
  replace hf := nm_at hf e7
  have hf1 := Option.some.inj hf
  subst hf1
  have hP9 := hP.sub (ws' := []) [] rfl
  have hD9 := hD.sub (ws' := []) [] (by decide) rfl
  exact W.iret (v := x7) hx hb hr (fun t ht hW => ⟨⟨x7, (), rfl, ⟨rfl, rfl⟩, by rw [ht]; exact hP9, va_K.moved hW.alike hK, hD9⟩, hS.F ht⟩) hS.2.2 dX0_globalsOf_20
abbrev wX0_isNewer (h0 h1 h2 : Nat) (kc1 kc2 : ClassId) (V0 : Nat → Value) (c1 : Nat → Int32) (c2 : Nat → Int32) : va_W := [(h0, .inr (0, [V0 0, V0 1, V0 2, V0 3, .ref h1, .ref h2, V0 6])), (h1, .inl (kc1, 40, .inl c1)), (h2, .inl (kc2, 40, .inl c2))]
set_option maxHeartbeats 4000000 in
set_option maxRecDepth 100000 in
theorem mX0_isNewer (l : Launch) (dC : Nat → ClassId) (dI : Nat → Nat → Nat) (h0 h1 h2 : Nat) (kc1 kc2 : ClassId) (sz : Nat) (base : Nat × Nat × Nat) (a0 : Int32) (a1 : Int32) (c1 : Nat → Int32) (c2 : Nat → Int32) (V0 : Nat → Value) (o : Int32 × Unit) (hf : fX0_isNewer a0 a1 c1 c2 = some o) : Met l yX0_isNewer (.code yX0_isNewer cX0_isNewer 3 (some .boolean) :: wsL_law) ({ frames := 0, cells := 0, slots := 0, locals := 0 }) (cPre (dC, dI) vwCl [.ref h0, .int a0, .int a1] sz base (wX0_isNewer h0 h1 h2 kc1 kc2 V0 c1 c2) [(kc1, .int), (kc2, .int)]) (va_Qi (fun r u => r = o.1 ∧ u = o.2) (fun (u : Unit) t => cPost (dC, dI) vwCl (va_A (wX0_isNewer h0 h1 h2 kc1 kc2 V0 c1 c2) sz) (wX0_isNewer h0 h1 h2 kc1 kc2 V0 c1 c2) [(kc1, .int), (kc2, .int)] t) (va_A (wX0_isNewer h0 h1 h2 kc1 kc2 V0 c1 c2) sz)) 0 0 (va_A (wX0_isNewer h0 h1 h2 kc1 kc2 V0 c1 c2) sz) := by
  refine Met.ofW (cc := cX0_isNewer) (maxL := 3) (ret := (some .boolean)) (by decide) rfl ?_
  intro p e s m args below meth c s₁ B hml hv
  obtain ⟨rfl, hsz, hP, hK, hD0, hE⟩ := hv
  have hx := B.exec
  have hb := B.bytes
  have hr := B.returns
  have hts : ∀ w ∈ wsL_law, _ := fun w h => atoms_spec (ws := .code yX0_isNewer cX0_isNewer 3 (some .boolean) :: wsL_law) B.pre w (List.mem_cons_of_mem _ h)
  have hown : s.vm.findClass RX0 = some m.cls := findClass_of_methodNamed B.named
  have hlocks := B.notSynchronized
  have w0_ := hts _ q958
  have w1_ := hts _ q959
  subst hsz
  have hD := hD0.self (sz := s.heap.size)
  generalize hAe : va_A (wX0_isNewer h0 h1 h2 kc1 kc2 V0 c1 c2) s.heap.size = A at hD ⊢
  have hA : ∀ q : Nat, s.heap.size ≤ q → A q := fun q h => by rw [← hAe]; exact Or.inr h
  have hAB : ∀ q : Nat, A q → base.1 ≤ q := fun q h => by rw [← hAe] at h; exact h.elim (fun ⟨k, e, hk⟩ => hD0.2 k _ hk) (fun hk => Nat.le_trans hE.1 hk)
  have hS : va_S A s.heap s.heap [] := va_S.rf
  have hl := lv_entry ([.ref h0, .int a0, .int a1]) (n := 3) (Nat.le_of_ble_eq_true rfl)
  rw [lg_entry_eq]
  generalize (lg_sl ([.ref h0, .int a0, .int a1]) ++ List.replicate (3 - (lg_sl ([.ref h0, .int a0, .int a1])).length) Slot.unset).toArray = ls at hl ⊢
  have hl : lv_has ls 3 [(0, .ref h0), (1, .int a0), (2, .int a1)] := hl
  have hP : va_P (dC, dI) vwCl (wX0_isNewer h0 h1 h2 kc1 kc2 V0 c1 c2) s.heap := hP
  refine gl_intro (fun G hG => ?_)
  have J24 : ∀ (z0 : Int32) (H : Heap) (locs : List Loc) (ls : Array Slot), va_P (dC, dI) vwCl (wX0_isNewer h0 h1 h2 kc1 kc2 V0 c1 c2) H → va_D A (wX0_isNewer h0 h1 h2 kc1 kc2 V0 c1 c2) → va_S A s.heap H locs → lv_has ls 3 [(0, .ref h0)] → fX0_isNewer_p24 c1 c2  z0 = some o → G 0 0 H locs (F0 m 24 ls [.int z0]) := by
    intro  z0 H locs ls hP hD hS hl hf
    refine (hG _ _ _ _ _).mpr ?_
    unfold fX0_isNewer_p24 at hf
    have b1 := bd_b hf
    replace hf := bd_k hf
    have hf1 := Option.some.inj hf
    subst hf1
    have hP9 := hP.sub (ws' := (wX0_isNewer h0 h1 h2 kc1 kc2 V0 c1 c2)) [0, 1, 2] rfl
    have hD9 := hD.sub (ws' := (wX0_isNewer h0 h1 h2 kc1 kc2 V0 c1 c2)) [0, 1, 2] (by decide) rfl
    exact W.zret (v := z0) (ty := .boolean) hx hb hr (bz_nar b1) (fun t ht hW => ⟨⟨z0, (), rfl, ⟨rfl, rfl⟩, by rw [ht]; exact hP9, va_K.moved hW.alike hK, hD9⟩, hS.F ht⟩) hS.2.2 dX0_isNewer_24
  have J23 : ∀ (H : Heap) (locs : List Loc) (ls : Array Slot), va_P (dC, dI) vwCl (wX0_isNewer h0 h1 h2 kc1 kc2 V0 c1 c2) H → va_D A (wX0_isNewer h0 h1 h2 kc1 kc2 V0 c1 c2) → va_S A s.heap H locs → lv_has ls 3 [(0, .ref h0)] → fX0_isNewer_p23 c1 c2   = some o → G 0 0 H locs (F0 m 23 ls []) := by
    intro   H locs ls hP hD hS hl hf
    refine (hG _ _ _ _ _).mpr ?_
    unfold fX0_isNewer_p23 at hf
    refine lv_iconst (v := 0) hx hb dX0_isNewer_23 (by decide +kernel) ?_
    exact (hG _ _ _ _ _).mp (J24 0 H locs ls (hP.sub [0, 1, 2] rfl) (hD.sub [0, 1, 2] (by decide) rfl) hS (lv_sub hl [0] rfl) hf)
  refine (hG _ _ _ _ _).mpr ?_
  obtain ⟨H, hH⟩ : ∃ H, H = s.heap := ⟨_, rfl⟩
  have hS : va_S A s.heap H [] := by rw [hH]; exact hS
  rw [← hH] at hP ⊢
  generalize ([] : List Loc) = locs at hS ⊢
  unfold fX0_isNewer at hf
  refine lv_iload_n hx hb dX0_isNewer_0 rfl (lv_at hl 1 rfl) ?_
  refine lv_if_lt (tgt := 23) hx hb dX0_isNewer_1 (by decide) (fun cq2 => ?_) (fun cq2 => ?_)
  · replace hf := if_at hf cq2
    exact (hG _ _ _ _ _).mp (J23 H locs ls (hP.sub [0, 1, 2] rfl) (hD.sub [0, 1, 2] (by decide) rfl) hS (lv_sub hl [0] rfl) hf)
  · replace hf := if_no hf cq2
    refine lv_aload_n hx hb dX0_isNewer_4 rfl (lv_at hl 0 rfl) ?_
    refine va_get (D := (dC, dI)) (ci := 0) (v := .ref h1) (C := RX0) (T := TX0) (N := 7) hx hb hts inlX0 hown hK hP 0 rfl rfl 4 (by decide) w0_ (fun _ h9 => h9) rfl dX0_isNewer_5 ?_
    refine lv_iload_n hx hb dX0_isNewer_8 rfl (lv_at hl 1 rfl) ?_
    have b3 := bd_in hf
    replace hf := bd_k hf
    refine va_iald hx hb hK hP 1 0 rfl rfl b3 dX0_isNewer_9 ?_
    refine lv_topi (fun x4 e4 => ?_)
    replace hf := nm_at hf e4
    refine lv_aload_n hx hb dX0_isNewer_10 rfl (lv_at hl 0 rfl) ?_
    refine va_get (D := (dC, dI)) (ci := 0) (v := .ref h2) (C := RX0) (T := TX0) (N := 7) hx hb hts inlX0 hown hK hP 0 rfl rfl 5 (by decide) w1_ (fun _ h9 => h9) rfl dX0_isNewer_11 ?_
    refine lv_iload_n hx hb dX0_isNewer_14 rfl (lv_at hl 2 rfl) ?_
    have b5 := bd_in hf
    replace hf := bd_k hf
    refine va_iald hx hb hK hP 2 1 rfl rfl b5 dX0_isNewer_15 ?_
    refine lv_topi (fun x6 e6 => ?_)
    replace hf := nm_at hf e6
    refine lv_icmp_lt (tgt := 23) hx hb dX0_isNewer_16 (by decide) (fun cq7 => ?_) (fun cq7 => ?_)
    · replace hf := if_at hf cq7
      exact (hG _ _ _ _ _).mp (J23 H locs ls (hP.sub [0, 1, 2] rfl) (hD.sub [0, 1, 2] (by decide) rfl) hS (lv_sub hl [0] rfl) hf)
    · replace hf := if_no hf cq7
      refine lv_iconst (v := 1) hx hb dX0_isNewer_19 (by decide +kernel) ?_
      refine lv_goto (tgt := 24) hx hb dX0_isNewer_20 (by decide) ?_
      exact (hG _ _ _ _ _).mp (J24 1 H locs ls (hP.sub [0, 1, 2] rfl) (hD.sub [0, 1, 2] (by decide) rfl) hS (lv_sub hl [0] rfl) hf)
abbrev wX0_isStale (h0 h1 h2 h3 h4 h5 h6 h7 h8 : Nat) (kc1 kc3 kc4 kc5 kc6 kc7 kc8 : ClassId) (V0 : Nat → Value) (V2 : Nat → Value) (c1 : Nat → Int32) (c3 : Nat → Int32) (c4 : Nat → Int32) (c5 : Nat → Int32) (c6 : Nat → Int32) (c7 : Nat → Int32) (c8 : Nat → Int32) : va_W := [(h0, .inr (0, [V0 0, .ref h2, V0 2, V0 3, .ref h4, .ref h1, V0 6])), (h1, .inl (kc1, 40, .inl c1)), (h2, .inr (3, [V2 0, V2 1, V2 2, V2 3, .ref h8, .ref h6, V2 6, V2 7, V2 8, V2 9, .ref h7, .ref h3, .ref h5, V2 13, V2 14, V2 15, V2 16, V2 17])), (h3, .inl (kc3, 40, .inl c3)), (h4, .inl (kc4, 40, .inl c4)), (h5, .inl (kc5, 40, .inl c5)), (h6, .inl (kc6, 40, .inl c6)), (h7, .inl (kc7, 40, .inl c7)), (h8, .inl (kc8, 6, .inl c8))]
set_option maxHeartbeats 4000000 in
set_option maxRecDepth 100000 in
theorem mX0_isStale (l : Launch) (dC : Nat → ClassId) (dI : Nat → Nat → Nat) (h0 h1 h2 h3 h4 h5 h6 h7 h8 : Nat) (kc1 kc3 kc4 kc5 kc6 kc7 kc8 : ClassId) (sz : Nat) (base : Nat × Nat × Nat) (a0 : Int32) (c1 : Nat → Int32) (c3 : Nat → Int32) (c4 : Nat → Int32) (c5 : Nat → Int32) (c6 : Nat → Int32) (c7 : Nat → Int32) (c8 : Nat → Int32) (V0 : Nat → Value) (V2 : Nat → Value) (o : Int32 × Unit) (hf : fX0_isStale a0 c1 c3 c4 c5 c6 c7 c8 = some o) : Met l yX0_isStale (.code yX0_isStale cX0_isStale 2 (some .boolean) :: wsL_law) ({ frames := 1, cells := 0, slots := 0, locals := 22 }) (cPre (dC, dI) vwCl [.ref h0, .int a0] sz base (wX0_isStale h0 h1 h2 h3 h4 h5 h6 h7 h8 kc1 kc3 kc4 kc5 kc6 kc7 kc8 V0 V2 c1 c3 c4 c5 c6 c7 c8) [(kc1, .int), (kc3, .int), (kc4, .int), (kc5, .int), (kc6, .int), (kc7, .int), (kc8, .int)]) (va_Qi (fun r u => r = o.1 ∧ u = o.2) (fun (u : Unit) t => cPost (dC, dI) vwCl (va_A (wX0_isStale h0 h1 h2 h3 h4 h5 h6 h7 h8 kc1 kc3 kc4 kc5 kc6 kc7 kc8 V0 V2 c1 c3 c4 c5 c6 c7 c8) sz) (wX0_isStale h0 h1 h2 h3 h4 h5 h6 h7 h8 kc1 kc3 kc4 kc5 kc6 kc7 kc8 V0 V2 c1 c3 c4 c5 c6 c7 c8) [(kc1, .int), (kc3, .int), (kc4, .int), (kc5, .int), (kc6, .int), (kc7, .int), (kc8, .int)] t) (va_A (wX0_isStale h0 h1 h2 h3 h4 h5 h6 h7 h8 kc1 kc3 kc4 kc5 kc6 kc7 kc8 V0 V2 c1 c3 c4 c5 c6 c7 c8) sz)) 0 0 (va_A (wX0_isStale h0 h1 h2 h3 h4 h5 h6 h7 h8 kc1 kc3 kc4 kc5 kc6 kc7 kc8 V0 V2 c1 c3 c4 c5 c6 c7 c8) sz) := by
  refine Met.ofW (cc := cX0_isStale) (maxL := 2) (ret := (some .boolean)) (by decide) rfl ?_
  intro p e s m args below meth c s₁ B hml hv
  obtain ⟨rfl, hsz, hP, hK, hD0, hE⟩ := hv
  have hx := B.exec
  have hb := B.bytes
  have hr := B.returns
  have hts : ∀ w ∈ wsL_law, _ := fun w h => atoms_spec (ws := .code yX0_isStale cX0_isStale 2 (some .boolean) :: wsL_law) B.pre w (List.mem_cons_of_mem _ h)
  have hown : s.vm.findClass RX0 = some m.cls := findClass_of_methodNamed B.named
  have hlocks := B.notSynchronized
  have w0_ := hts _ q959
  have w1_ := hts _ q960
  have w2_ := hts _ q1016
  have w3_ := hts _ q1017
  have w4_ := hts _ q973
  have w5_ := hts _ q984
  have w6_ := hts _ q983
  subst hsz
  have hD := hD0.self (sz := s.heap.size)
  generalize hAe : va_A (wX0_isStale h0 h1 h2 h3 h4 h5 h6 h7 h8 kc1 kc3 kc4 kc5 kc6 kc7 kc8 V0 V2 c1 c3 c4 c5 c6 c7 c8) s.heap.size = A at hD ⊢
  have hA : ∀ q : Nat, s.heap.size ≤ q → A q := fun q h => by rw [← hAe]; exact Or.inr h
  have hAB : ∀ q : Nat, A q → base.1 ≤ q := fun q h => by rw [← hAe] at h; exact h.elim (fun ⟨k, e, hk⟩ => hD0.2 k _ hk) (fun hk => Nat.le_trans hE.1 hk)
  have hS : va_S A s.heap s.heap [] := va_S.rf
  have hl := lv_entry ([.ref h0, .int a0]) (n := 2) (Nat.le_of_ble_eq_true rfl)
  rw [lg_entry_eq]
  generalize (lg_sl ([.ref h0, .int a0]) ++ List.replicate (2 - (lg_sl ([.ref h0, .int a0])).length) Slot.unset).toArray = ls at hl ⊢
  have hl : lv_has ls 2 [(0, .ref h0), (1, .int a0)] := hl
  have hP : va_P (dC, dI) vwCl (wX0_isStale h0 h1 h2 h3 h4 h5 h6 h7 h8 kc1 kc3 kc4 kc5 kc6 kc7 kc8 V0 V2 c1 c3 c4 c5 c6 c7 c8) s.heap := hP
  refine gl_intro (fun G hG => ?_)
  have J43 : ∀ (H : Heap) (locs : List Loc) (ls : Array Slot), va_P (dC, dI) vwCl (wX0_isStale h0 h1 h2 h3 h4 h5 h6 h7 h8 kc1 kc3 kc4 kc5 kc6 kc7 kc8 V0 V2 c1 c3 c4 c5 c6 c7 c8) H → va_D A (wX0_isStale h0 h1 h2 h3 h4 h5 h6 h7 h8 kc1 kc3 kc4 kc5 kc6 kc7 kc8 V0 V2 c1 c3 c4 c5 c6 c7 c8) → va_S A s.heap H locs → lv_has ls 2 [(0, .ref h0)] → fX0_isStale_p43 c1 c3 c4 c5 c6 c7 c8   = some o → G 0 0 H locs (F0 m 43 ls []) := by
    intro   H locs ls hP hD hS hl hf
    refine (hG _ _ _ _ _).mpr ?_
    unfold fX0_isStale_p43 at hf
    refine lv_iconst (v := 1) hx hb dX0_isStale_43 (by decide +kernel) ?_
    have hf1 := Option.some.inj hf
    subst hf1
    have hP9 := hP.sub (ws' := (wX0_isStale h0 h1 h2 h3 h4 h5 h6 h7 h8 kc1 kc3 kc4 kc5 kc6 kc7 kc8 V0 V2 c1 c3 c4 c5 c6 c7 c8)) [0, 1, 2, 3, 4, 5, 6, 7, 8] rfl
    have hD9 := hD.sub (ws' := (wX0_isStale h0 h1 h2 h3 h4 h5 h6 h7 h8 kc1 kc3 kc4 kc5 kc6 kc7 kc8 V0 V2 c1 c3 c4 c5 c6 c7 c8)) [0, 1, 2, 3, 4, 5, 6, 7, 8] (by decide) rfl
    exact W.zret (v := 1) (ty := .boolean) hx hb hr rfl (fun t ht hW => ⟨⟨1, (), rfl, ⟨rfl, rfl⟩, by rw [ht]; exact hP9, va_K.moved hW.alike hK, hD9⟩, hS.F ht⟩) hS.2.2 dX0_isStale_44
  have J88 : ∀ (z0 : Int32) (H : Heap) (locs : List Loc) (ls : Array Slot), va_P (dC, dI) vwCl (wX0_isStale h0 h1 h2 h3 h4 h5 h6 h7 h8 kc1 kc3 kc4 kc5 kc6 kc7 kc8 V0 V2 c1 c3 c4 c5 c6 c7 c8) H → va_D A (wX0_isStale h0 h1 h2 h3 h4 h5 h6 h7 h8 kc1 kc3 kc4 kc5 kc6 kc7 kc8 V0 V2 c1 c3 c4 c5 c6 c7 c8) → va_S A s.heap H locs → lv_has ls 2 [(0, .ref h0)] → fX0_isStale_p88 c1 c3 c4 c5 c6 c7 c8  z0 = some o → G 0 0 H locs (F0 m 88 ls [.int z0]) := by
    intro  z0 H locs ls hP hD hS hl hf
    refine (hG _ _ _ _ _).mpr ?_
    unfold fX0_isStale_p88 at hf
    have b1 := bd_b hf
    replace hf := bd_k hf
    have hf1 := Option.some.inj hf
    subst hf1
    have hP9 := hP.sub (ws' := (wX0_isStale h0 h1 h2 h3 h4 h5 h6 h7 h8 kc1 kc3 kc4 kc5 kc6 kc7 kc8 V0 V2 c1 c3 c4 c5 c6 c7 c8)) [0, 1, 2, 3, 4, 5, 6, 7, 8] rfl
    have hD9 := hD.sub (ws' := (wX0_isStale h0 h1 h2 h3 h4 h5 h6 h7 h8 kc1 kc3 kc4 kc5 kc6 kc7 kc8 V0 V2 c1 c3 c4 c5 c6 c7 c8)) [0, 1, 2, 3, 4, 5, 6, 7, 8] (by decide) rfl
    exact W.zret (v := z0) (ty := .boolean) hx hb hr (bz_nar b1) (fun t ht hW => ⟨⟨z0, (), rfl, ⟨rfl, rfl⟩, by rw [ht]; exact hP9, va_K.moved hW.alike hK, hD9⟩, hS.F ht⟩) hS.2.2 dX0_isStale_88
  have J87 : ∀ (H : Heap) (locs : List Loc) (ls : Array Slot), va_P (dC, dI) vwCl (wX0_isStale h0 h1 h2 h3 h4 h5 h6 h7 h8 kc1 kc3 kc4 kc5 kc6 kc7 kc8 V0 V2 c1 c3 c4 c5 c6 c7 c8) H → va_D A (wX0_isStale h0 h1 h2 h3 h4 h5 h6 h7 h8 kc1 kc3 kc4 kc5 kc6 kc7 kc8 V0 V2 c1 c3 c4 c5 c6 c7 c8) → va_S A s.heap H locs → lv_has ls 2 [(0, .ref h0)] → fX0_isStale_p87 c1 c3 c4 c5 c6 c7 c8   = some o → G 0 0 H locs (F0 m 87 ls []) := by
    intro   H locs ls hP hD hS hl hf
    refine (hG _ _ _ _ _).mpr ?_
    unfold fX0_isStale_p87 at hf
    refine lv_iconst (v := 0) hx hb dX0_isStale_87 (by decide +kernel) ?_
    exact (hG _ _ _ _ _).mp (J88 0 H locs ls (hP.sub [0, 1, 2, 3, 4, 5, 6, 7, 8] rfl) (hD.sub [0, 1, 2, 3, 4, 5, 6, 7, 8] (by decide) rfl) hS (lv_sub hl [0] rfl) hf)
  refine (hG _ _ _ _ _).mpr ?_
  obtain ⟨H, hH⟩ : ∃ H, H = s.heap := ⟨_, rfl⟩
  have hS : va_S A s.heap H [] := by rw [hH]; exact hS
  rw [← hH] at hP ⊢
  generalize ([] : List Loc) = locs at hS ⊢
  unfold fX0_isStale at hf
  refine lv_aload_n hx hb dX0_isStale_0 rfl (lv_at hl 0 rfl) ?_
  refine va_get (D := (dC, dI)) (ci := 0) (v := .ref h1) (C := RX0) (T := TX0) (N := 7) hx hb hts inlX0 hown hK hP 0 rfl rfl 5 (by decide) w0_ (fun _ h9 => h9) rfl dX0_isStale_1 ?_
  refine lv_iload_n hx hb dX0_isStale_4 rfl (lv_at hl 1 rfl) ?_
  have b2 := bd_in hf
  replace hf := bd_k hf
  refine va_iald hx hb hK hP 1 0 rfl rfl b2 dX0_isStale_5 ?_
  refine lv_topi (fun x3 e3 => ?_)
  replace hf := nm_at hf e3
  refine lv_if_eq (tgt := 43) hx hb dX0_isStale_6 (by decide) (fun cq4 => ?_) (fun cq4 => ?_)
  · replace hf := if_at hf cq4
    exact (hG _ _ _ _ _).mp (J43 H locs ls (hP.sub [0, 1, 2, 3, 4, 5, 6, 7, 8] rfl) (hD.sub [0, 1, 2, 3, 4, 5, 6, 7, 8] (by decide) rfl) hS (lv_sub hl [0] rfl) hf)
  · replace hf := if_no hf cq4
    refine lv_aload_n hx hb dX0_isStale_9 rfl (lv_at hl 0 rfl) ?_
    refine lv_aload_n hx hb dX0_isStale_10 rfl (lv_at hl 0 rfl) ?_
    refine va_get (D := (dC, dI)) (ci := 0) (v := .ref h2) (C := RX0) (T := TX0) (N := 7) hx hb hts inlX0 hown hK hP 0 rfl rfl 1 (by decide) w1_ (fun _ h9 => h9) rfl dX0_isStale_11 ?_
    refine va_get (D := (dC, dI)) (ci := 3) (v := .ref h3) (C := RX3) (T := TX3) (N := 18) hx hb hts inlX3 hown hK hP 2 rfl rfl 11 (by decide) w2_ (fun _ h9 => h9) rfl dX0_isStale_14 ?_
    refine lv_iload_n hx hb dX0_isStale_17 rfl (lv_at hl 1 rfl) ?_
    have b5 := bd_in hf
    replace hf := bd_k hf
    refine va_iald hx hb hK hP 3 1 rfl rfl b5 dX0_isStale_18 ?_
    refine lv_topi (fun x6 e6 => ?_)
    replace hf := nm_at hf e6
    refine lv_iload_n hx hb dX0_isStale_19 rfl (lv_at hl 1 rfl) ?_
    obtain ⟨o7, e7, hf⟩ := ob_some hf
    refine kVi (As := [.int x6, .int a0]) (rest := []) ⟨hx, hb, hml, hown, hts⟩ (mX0_isNewer l dC dI h0 h4 h1 kc4 kc1 H.size base x6 a0 c4 c1 (fun k => match k with | 1 => .ref h2 | k => V0 k) o7 e7) (cwV 2 hts (gTV q1018 q1019 q1020 q946 q1021) rfl rfl rfl (by decide +kernel) ⟨Nat.le_of_ble_eq_true rfl, Nat.le_of_ble_eq_true rfl⟩) hK hP hD hS hA hE hAB [0, 4, 1] [2, 3, 5, 6, 7, 8] [2, 0] (wr := [(h2, .inr (3, [V2 0, V2 1, V2 2, V2 3, .ref h8, .ref h6, V2 6, V2 7, V2 8, V2 9, .ref h7, .ref h3, .ref h5, V2 13, V2 14, V2 15, V2 16, V2 17])), (h3, .inl (kc3, 40, .inl c3)), (h5, .inl (kc5, 40, .inl c5)), (h6, .inl (kc6, 40, .inl c6)), (h7, .inl (kc7, 40, .inl c7)), (h8, .inl (kc8, 6, .inl c8))]) rfl rfl (by decide) (by decide) (by decide) rfl (ci := 0) (q0 := 0) rfl rfl rfl rfl hl.1 rfl (Nat.le_of_ble_eq_true rfl) dX0_isStale_20 ⟨Nat.zero_le _, Nat.zero_le _⟩ (fun r7 u7 H locs hw7 hP hD hS => ?_)
    obtain ⟨hw71, hw72⟩ := hw7
    subst hw71 hw72
    have hP : va_P (dC, dI) vwCl (wX0_isStale h0 h1 h2 h3 h4 h5 h6 h7 h8 kc1 kc3 kc4 kc5 kc6 kc7 kc8 V0 V2 c1 c3 c4 c5 c6 c7 c8) H := hP.sub [6, 8, 0, 1, 7, 2, 3, 4, 5] rfl
    have hD : va_D A (wX0_isStale h0 h1 h2 h3 h4 h5 h6 h7 h8 kc1 kc3 kc4 kc5 kc6 kc7 kc8 V0 V2 c1 c3 c4 c5 c6 c7 c8) := hD.sub [6, 8, 0, 1, 7, 2, 3, 4, 5] (by decide) rfl
    refine lv_if_ne (tgt := 43) hx hb dX0_isStale_23 (by decide) (fun cq8 => ?_) (fun cq8 => ?_)
    · replace hf := if_no hf cq8
      exact (hG _ _ _ _ _).mp (J43 H locs ls (hP.sub [0, 1, 2, 3, 4, 5, 6, 7, 8] rfl) (hD.sub [0, 1, 2, 3, 4, 5, 6, 7, 8] (by decide) rfl) hS (lv_sub hl [0] rfl) hf)
    · replace hf := if_at hf cq8
      refine lv_aload_n hx hb dX0_isStale_26 rfl (lv_at hl 0 rfl) ?_
      refine lv_aload_n hx hb dX0_isStale_27 rfl (lv_at hl 0 rfl) ?_
      refine va_get (D := (dC, dI)) (ci := 0) (v := .ref h2) (C := RX0) (T := TX0) (N := 7) hx hb hts inlX0 hown hK hP 0 rfl rfl 1 (by decide) w1_ (fun _ h9 => h9) rfl dX0_isStale_28 ?_
      refine va_get (D := (dC, dI)) (ci := 3) (v := .ref h5) (C := RX3) (T := TX3) (N := 18) hx hb hts inlX3 hown hK hP 2 rfl rfl 12 (by decide) w3_ (fun _ h9 => h9) rfl dX0_isStale_31 ?_
      refine lv_iload_n hx hb dX0_isStale_34 rfl (lv_at hl 1 rfl) ?_
      have b9 := bd_in hf
      replace hf := bd_k hf
      refine va_iald hx hb hK hP 5 3 rfl rfl b9 dX0_isStale_35 ?_
      refine lv_topi (fun x10 e10 => ?_)
      replace hf := nm_at hf e10
      refine lv_iload_n hx hb dX0_isStale_36 rfl (lv_at hl 1 rfl) ?_
      obtain ⟨o11, e11, hf⟩ := ob_some hf
      refine kVi (As := [.int x10, .int a0]) (rest := []) ⟨hx, hb, hml, hown, hts⟩ (mX0_isNewer l dC dI h0 h4 h1 kc4 kc1 H.size base x10 a0 c4 c1 (fun k => match k with | 1 => .ref h2 | k => V0 k) o11 e11) (cwV 2 hts (gTV q1018 q1019 q1020 q946 q1021) rfl rfl rfl (by decide +kernel) ⟨Nat.le_of_ble_eq_true rfl, Nat.le_of_ble_eq_true rfl⟩) hK hP hD hS hA hE hAB [0, 4, 1] [2, 3, 5, 6, 7, 8] [2, 0] (wr := [(h2, .inr (3, [V2 0, V2 1, V2 2, V2 3, .ref h8, .ref h6, V2 6, V2 7, V2 8, V2 9, .ref h7, .ref h3, .ref h5, V2 13, V2 14, V2 15, V2 16, V2 17])), (h3, .inl (kc3, 40, .inl c3)), (h5, .inl (kc5, 40, .inl c5)), (h6, .inl (kc6, 40, .inl c6)), (h7, .inl (kc7, 40, .inl c7)), (h8, .inl (kc8, 6, .inl c8))]) rfl rfl (by decide) (by decide) (by decide) rfl (ci := 0) (q0 := 0) rfl rfl rfl rfl hl.1 rfl (Nat.le_of_ble_eq_true rfl) dX0_isStale_37 ⟨Nat.zero_le _, Nat.zero_le _⟩ (fun r11 u11 H locs hw11 hP hD hS => ?_)
      obtain ⟨hw111, hw112⟩ := hw11
      subst hw111 hw112
      have hP : va_P (dC, dI) vwCl (wX0_isStale h0 h1 h2 h3 h4 h5 h6 h7 h8 kc1 kc3 kc4 kc5 kc6 kc7 kc8 V0 V2 c1 c3 c4 c5 c6 c7 c8) H := hP.sub [6, 8, 0, 1, 7, 2, 3, 4, 5] rfl
      have hD : va_D A (wX0_isStale h0 h1 h2 h3 h4 h5 h6 h7 h8 kc1 kc3 kc4 kc5 kc6 kc7 kc8 V0 V2 c1 c3 c4 c5 c6 c7 c8) := hD.sub [6, 8, 0, 1, 7, 2, 3, 4, 5] (by decide) rfl
      refine lv_if_eq (tgt := 45) hx hb dX0_isStale_40 (by decide) (fun cq12 => ?_) (fun cq12 => ?_)
      · replace hf := if_at hf cq12
        refine lv_aload_n hx hb dX0_isStale_45 rfl (lv_at hl 0 rfl) ?_
        refine va_get (D := (dC, dI)) (ci := 0) (v := .ref h2) (C := RX0) (T := TX0) (N := 7) hx hb hts inlX0 hown hK hP 0 rfl rfl 1 (by decide) w1_ (fun _ h9 => h9) rfl dX0_isStale_46 ?_
        refine va_get (D := (dC, dI)) (ci := 3) (v := .ref h6) (C := RX3) (T := TX3) (N := 18) hx hb hts inlX3 hown hK hP 2 rfl rfl 5 (by decide) w4_ (fun _ h9 => h9) rfl dX0_isStale_49 ?_
        refine lv_iload_n hx hb dX0_isStale_52 rfl (lv_at hl 1 rfl) ?_
        have b13 := bd_in hf
        replace hf := bd_k hf
        refine va_iald hx hb hK hP 6 4 rfl rfl b13 dX0_isStale_53 ?_
        refine lv_topi (fun x14 e14 => ?_)
        replace hf := nm_at hf e14
        refine lv_iconst (v := 3) hx hb dX0_isStale_54 (by decide +kernel) ?_
        refine lv_icmp_ne (tgt := 87) hx hb dX0_isStale_55 (by decide) (fun cq15 => ?_) (fun cq15 => ?_)
        · replace hf := if_no hf cq15
          exact (hG _ _ _ _ _).mp (J87 H locs ls (hP.sub [0, 1, 2, 3, 4, 5, 6, 7, 8] rfl) (hD.sub [0, 1, 2, 3, 4, 5, 6, 7, 8] (by decide) rfl) hS (lv_sub hl [0] rfl) hf)
        · replace hf := if_at hf cq15
          refine lv_aload_n hx hb dX0_isStale_58 rfl (lv_at hl 0 rfl) ?_
          refine lv_aload_n hx hb dX0_isStale_59 rfl (lv_at hl 0 rfl) ?_
          refine va_get (D := (dC, dI)) (ci := 0) (v := .ref h2) (C := RX0) (T := TX0) (N := 7) hx hb hts inlX0 hown hK hP 0 rfl rfl 1 (by decide) w1_ (fun _ h9 => h9) rfl dX0_isStale_60 ?_
          refine va_get (D := (dC, dI)) (ci := 3) (v := .ref h8) (C := RX3) (T := TX3) (N := 18) hx hb hts inlX3 hown hK hP 2 rfl rfl 4 (by decide) w5_ (fun _ h9 => h9) rfl dX0_isStale_63 ?_
          refine lv_aload_n hx hb dX0_isStale_66 rfl (lv_at hl 0 rfl) ?_
          refine va_get (D := (dC, dI)) (ci := 0) (v := .ref h2) (C := RX0) (T := TX0) (N := 7) hx hb hts inlX0 hown hK hP 0 rfl rfl 1 (by decide) w1_ (fun _ h9 => h9) rfl dX0_isStale_67 ?_
          refine va_get (D := (dC, dI)) (ci := 3) (v := .ref h7) (C := RX3) (T := TX3) (N := 18) hx hb hts inlX3 hown hK hP 2 rfl rfl 10 (by decide) w6_ (fun _ h9 => h9) rfl dX0_isStale_70 ?_
          refine lv_iload_n hx hb dX0_isStale_73 rfl (lv_at hl 1 rfl) ?_
          have b16 := bd_in hf
          replace hf := bd_k hf
          refine va_iald hx hb hK hP 7 5 rfl rfl b16 dX0_isStale_74 ?_
          refine lv_topi (fun x17 e17 => ?_)
          replace hf := nm_at hf e17
          have b18 := bd_in hf
          replace hf := bd_k hf
          refine va_iald hx hb hK hP 8 6 rfl rfl b18 dX0_isStale_75 ?_
          refine lv_topi (fun x19 e19 => ?_)
          replace hf := nm_at hf e19
          refine lv_iload_n hx hb dX0_isStale_76 rfl (lv_at hl 1 rfl) ?_
          obtain ⟨o20, e20, hf⟩ := ob_some hf
          refine kVi (As := [.int x19, .int a0]) (rest := []) ⟨hx, hb, hml, hown, hts⟩ (mX0_isNewer l dC dI h0 h4 h1 kc4 kc1 H.size base x19 a0 c4 c1 (fun k => match k with | 1 => .ref h2 | k => V0 k) o20 e20) (cwV 2 hts (gTV q1018 q1019 q1020 q946 q1021) rfl rfl rfl (by decide +kernel) ⟨Nat.le_of_ble_eq_true rfl, Nat.le_of_ble_eq_true rfl⟩) hK hP hD hS hA hE hAB [0, 4, 1] [2, 3, 5, 6, 7, 8] [2, 0] (wr := [(h2, .inr (3, [V2 0, V2 1, V2 2, V2 3, .ref h8, .ref h6, V2 6, V2 7, V2 8, V2 9, .ref h7, .ref h3, .ref h5, V2 13, V2 14, V2 15, V2 16, V2 17])), (h3, .inl (kc3, 40, .inl c3)), (h5, .inl (kc5, 40, .inl c5)), (h6, .inl (kc6, 40, .inl c6)), (h7, .inl (kc7, 40, .inl c7)), (h8, .inl (kc8, 6, .inl c8))]) rfl rfl (by decide) (by decide) (by decide) rfl (ci := 0) (q0 := 0) rfl rfl rfl rfl hl.1 rfl (Nat.le_of_ble_eq_true rfl) dX0_isStale_77 ⟨Nat.zero_le _, Nat.zero_le _⟩ (fun r20 u20 H locs hw20 hP hD hS => ?_)
          obtain ⟨hw201, hw202⟩ := hw20
          subst hw201 hw202
          have hP : va_P (dC, dI) vwCl (wX0_isStale h0 h1 h2 h3 h4 h5 h6 h7 h8 kc1 kc3 kc4 kc5 kc6 kc7 kc8 V0 V2 c1 c3 c4 c5 c6 c7 c8) H := hP.sub [6, 8, 0, 1, 7, 2, 3, 4, 5] rfl
          have hD : va_D A (wX0_isStale h0 h1 h2 h3 h4 h5 h6 h7 h8 kc1 kc3 kc4 kc5 kc6 kc7 kc8 V0 V2 c1 c3 c4 c5 c6 c7 c8) := hD.sub [6, 8, 0, 1, 7, 2, 3, 4, 5] (by decide) rfl
          refine lv_if_eq (tgt := 87) hx hb dX0_isStale_80 (by decide) (fun cq21 => ?_) (fun cq21 => ?_)
          · replace hf := if_at hf cq21
            exact (hG _ _ _ _ _).mp (J87 H locs ls (hP.sub [0, 1, 2, 3, 4, 5, 6, 7, 8] rfl) (hD.sub [0, 1, 2, 3, 4, 5, 6, 7, 8] (by decide) rfl) hS (lv_sub hl [0] rfl) hf)
          · replace hf := if_no hf cq21
            refine lv_iconst (v := 1) hx hb dX0_isStale_83 (by decide +kernel) ?_
            refine lv_goto (tgt := 88) hx hb dX0_isStale_84 (by decide) ?_
            exact (hG _ _ _ _ _).mp (J88 1 H locs ls (hP.sub [0, 1, 2, 3, 4, 5, 6, 7, 8] rfl) (hD.sub [0, 1, 2, 3, 4, 5, 6, 7, 8] (by decide) rfl) hS (lv_sub hl [0] rfl) hf)
      · replace hf := if_no hf cq12
        exact (hG _ _ _ _ _).mp (J43 H locs ls (hP.sub [0, 1, 2, 3, 4, 5, 6, 7, 8] rfl) (hD.sub [0, 1, 2, 3, 4, 5, 6, 7, 8] (by decide) rfl) hS (lv_sub hl [0] rfl) hf)
set_option maxHeartbeats 4000000 in
set_option maxRecDepth 100000 in
theorem mX0_row (l : Launch) (dC : Nat → ClassId) (dI : Nat → Nat → Nat) (sz : Nat) (base : Nat × Nat × Nat) (a0 : Int32) (a1 : Int32) (o : Int32 × Unit) (hf : fX0_row a0 a1 = some o) : Met l yX0_row (.code yX0_row cX0_row 2 (some .int) :: wsL_law) ({ frames := 0, cells := 0, slots := 0, locals := 0 }) (cPre (dC, dI) vwCl [.int a0, .int a1] sz base [] []) (va_Qi (fun r u => r = o.1 ∧ u = o.2) (fun (u : Unit) t => cPost (dC, dI) vwCl (va_A [] sz) [] [] t) (va_A [] sz)) 0 0 (va_A [] sz) := by
  refine Met.ofW (cc := cX0_row) (maxL := 2) (ret := (some .int)) (by decide) rfl ?_
  intro p e s m args below meth c s₁ B hml hv
  obtain ⟨rfl, hsz, hP, hK, hD0, hE⟩ := hv
  have hx := B.exec
  have hb := B.bytes
  have hr := B.returns
  have hts : ∀ w ∈ wsL_law, _ := fun w h => atoms_spec (ws := .code yX0_row cX0_row 2 (some .int) :: wsL_law) B.pre w (List.mem_cons_of_mem _ h)
  have hown : s.vm.findClass RX0 = some m.cls := findClass_of_methodNamed B.named
  have hlocks := B.notSynchronized
  skip
  subst hsz
  have hD := hD0.self (sz := s.heap.size)
  generalize hAe : va_A [] s.heap.size = A at hD ⊢
  have hA : ∀ q : Nat, s.heap.size ≤ q → A q := fun q h => by rw [← hAe]; exact Or.inr h
  have hAB : ∀ q : Nat, A q → base.1 ≤ q := fun q h => by rw [← hAe] at h; exact h.elim (fun ⟨k, e, hk⟩ => hD0.2 k _ hk) (fun hk => Nat.le_trans hE.1 hk)
  have hS : va_S A s.heap s.heap [] := va_S.rf
  have hl := lv_entry ([.int a0, .int a1]) (n := 2) (Nat.le_of_ble_eq_true rfl)
  rw [lg_entry_eq]
  generalize (lg_sl ([.int a0, .int a1]) ++ List.replicate (2 - (lg_sl ([.int a0, .int a1])).length) Slot.unset).toArray = ls at hl ⊢
  have hl : lv_has ls 2 [(0, .int a0), (1, .int a1)] := hl
  have hP : va_P (dC, dI) vwCl [] s.heap := hP
  obtain ⟨H, hH⟩ : ∃ H, H = s.heap := ⟨_, rfl⟩
  have hS : va_S A s.heap H [] := by rw [hH]; exact hS
  rw [← hH] at hP ⊢
  generalize ([] : List Loc) = locs at hS ⊢
  unfold fX0_row at hf
  refine lv_iload_n hx hb dX0_row_0 rfl (lv_at hl 0 rfl) ?_
  refine lv_bipush (v := 32) hx hb dX0_row_1 (by decide +kernel) ?_
  refine lv_imul hx hb dX0_row_3 ?_
  refine lv_topi (fun x1 e1 => ?_)
  replace hf := nm_at hf e1
  refine lv_iload_n hx hb dX0_row_4 rfl (lv_at hl 1 rfl) ?_
  refine lv_iadd hx hb dX0_row_5 ?_
  refine lv_topi (fun x2 e2 => ?_)
  replace hf := nm_at hf e2
  refine lv_bipush (v := 9) hx hb dX0_row_6 (by decide +kernel) ?_
  refine lv_imul hx hb dX0_row_8 ?_
  refine lv_topi (fun x3 e3 => ?_)
  replace hf := nm_at hf e3
  have hf1 := Option.some.inj hf
  subst hf1
  have hP9 := hP.sub (ws' := []) [] rfl
  have hD9 := hD.sub (ws' := []) [] (by decide) rfl
  exact W.iret (v := x3) hx hb hr (fun t ht hW => ⟨⟨x3, (), rfl, ⟨rfl, rfl⟩, by rw [ht]; exact hP9, va_K.moved hW.alike hK, hD9⟩, hS.F ht⟩) hS.2.2 dX0_row_9
abbrev wX0_lower (h0 h1 : Nat) (kc1 : ClassId) (V0 : Nat → Value) (c1 : Nat → Int32) : va_W := [(h0, .inr (0, [.ref h1, V0 1, V0 2, V0 3, V0 4, V0 5, V0 6])), (h1, .inl (kc1, 11520, .inl c1))]
set_option maxHeartbeats 4000000 in
set_option maxRecDepth 100000 in
theorem mX0_lower (l : Launch) (dC : Nat → ClassId) (dI : Nat → Nat → Nat) (h0 h1 : Nat) (kc1 : ClassId) (sz : Nat) (base : Nat × Nat × Nat) (a0 : Int32) (a1 : Int32) (c1 : Nat → Int32) (V0 : Nat → Value) (o : Int32 × (Nat → Int32)) (hf : fX0_lower a0 a1 c1 = some o) : Met l yX0_lower (.code yX0_lower cX0_lower 4 (some .boolean) :: wsL_law) ({ frames := 1, cells := 0, slots := 0, locals := 21 }) (cPre (dC, dI) vwCl [.ref h0, .int a0, .int a1] sz base (wX0_lower h0 h1 kc1 V0 c1) [(kc1, .int)]) (va_Qi (fun r u => r = o.1 ∧ u = o.2) (fun (u : (Nat → Int32)) t => cPost (dC, dI) vwCl (va_A (wX0_lower h0 h1 kc1 V0 c1) sz) (wX0_lower h0 h1 kc1 V0 u) [(kc1, .int)] t) (va_A (wX0_lower h0 h1 kc1 V0 c1) sz)) 0 0 (va_A (wX0_lower h0 h1 kc1 V0 c1) sz) := by
  refine Met.ofW (cc := cX0_lower) (maxL := 4) (ret := (some .boolean)) (by decide) rfl ?_
  intro p e s m args below meth c s₁ B hml hv
  obtain ⟨rfl, hsz, hP, hK, hD0, hE⟩ := hv
  have hx := B.exec
  have hb := B.bytes
  have hr := B.returns
  have hts : ∀ w ∈ wsL_law, _ := fun w h => atoms_spec (ws := .code yX0_lower cX0_lower 4 (some .boolean) :: wsL_law) B.pre w (List.mem_cons_of_mem _ h)
  have hown : s.vm.findClass RX0 = some m.cls := findClass_of_methodNamed B.named
  have hlocks := B.notSynchronized
  have w0_ := hts _ q966
  have w1_ := hts _ q968
  have w2_ := hts _ q1038
  have w3_ := hts _ q316
  have w4_ := hts _ q280
  have w5_ := hts _ q317
  have w6_ := hts _ q955
  subst hsz
  have hD := hD0.self (sz := s.heap.size)
  generalize hAe : va_A (wX0_lower h0 h1 kc1 V0 c1) s.heap.size = A at hD ⊢
  have hA : ∀ q : Nat, s.heap.size ≤ q → A q := fun q h => by rw [← hAe]; exact Or.inr h
  have hAB : ∀ q : Nat, A q → base.1 ≤ q := fun q h => by rw [← hAe] at h; exact h.elim (fun ⟨k, e, hk⟩ => hD0.2 k _ hk) (fun hk => Nat.le_trans hE.1 hk)
  have hS : va_S A s.heap s.heap [] := va_S.rf
  have hl := lv_entry ([.ref h0, .int a0, .int a1]) (n := 4) (Nat.le_of_ble_eq_true rfl)
  rw [lg_entry_eq]
  generalize (lg_sl ([.ref h0, .int a0, .int a1]) ++ List.replicate (4 - (lg_sl ([.ref h0, .int a0, .int a1])).length) Slot.unset).toArray = ls at hl ⊢
  have hl : lv_has ls 4 [(0, .ref h0), (1, .int a0), (2, .int a1)] := hl
  have hP : va_P (dC, dI) vwCl (wX0_lower h0 h1 kc1 V0 c1) s.heap := hP
  obtain ⟨H, hH⟩ : ∃ H, H = s.heap := ⟨_, rfl⟩
  have hS : va_S A s.heap H [] := by rw [hH]; exact hS
  rw [← hH] at hP ⊢
  generalize ([] : List Loc) = locs at hS ⊢
  unfold fX0_lower at hf
  refine lv_iload_n hx hb dX0_lower_0 rfl (lv_at hl 2 rfl) ?_
  refine lv_ldc (v := 536870912) hx hb hown w0_ dX0_lower_1 ?_
  refine lv_icmp_lt (tgt := 8) hx hb dX0_lower_3 (by decide) (fun cq1 => ?_) (fun cq1 => ?_)
  · replace hf := if_at hf cq1
    refine lv_iload_n hx hb dX0_lower_8 rfl (lv_at hl 2 rfl) ?_
    refine lv_ldc (v := 1000000) hx hb hown w1_ dX0_lower_9 ?_
    refine va_mmin hx hb (by rw [hml]; exact hl.1.symm) hown w2_ w3_ w4_ w5_ (Nat.le_of_ble_eq_true rfl) (Nat.le_of_ble_eq_true rfl) (Nat.zero_le _) (Nat.zero_le _) dX0_lower_11 ?_
    refine lv_topi (fun x2 e2 => ?_)
    replace hf := nm_at hf e2
    refine lv_istore_n (lv' := [(3, .int x2), (0, .ref h0), (1, .int a0), (2, .int a1)]) hx hb dX0_lower_14 rfl hl (by decide) rfl (fun ls hl => ?_)
    refine lv_iload_n hx hb dX0_lower_15 rfl (lv_at hl 0 rfl) ?_
    refine lv_aload_n hx hb dX0_lower_16 rfl (lv_at hl 1 rfl) ?_
    refine va_get (D := (dC, dI)) (ci := 0) (v := .ref h1) (C := RX0) (T := TX0) (N := 7) hx hb hts inlX0 hown hK hP 0 rfl rfl 0 (by decide) w6_ (fun _ h9 => h9) rfl dX0_lower_17 ?_
    refine lv_iload_n hx hb dX0_lower_20 rfl (lv_at hl 2 rfl) ?_
    have b3 := bd_in hf
    replace hf := bd_k hf
    refine va_iald hx hb hK hP 1 0 rfl rfl b3 dX0_lower_21 ?_
    refine lv_topi (fun x4 e4 => ?_)
    replace hf := nm_at hf e4
    refine lv_icmp_lt (tgt := 27) hx hb dX0_lower_22 (by decide) (fun cq5 => ?_) (fun cq5 => ?_)
    · replace hf := if_at hf cq5
      refine lv_aload_n hx hb dX0_lower_27 rfl (lv_at hl 1 rfl) ?_
      refine va_get (D := (dC, dI)) (ci := 0) (v := .ref h1) (C := RX0) (T := TX0) (N := 7) hx hb hts inlX0 hown hK hP 0 rfl rfl 0 (by decide) w6_ (fun _ h9 => h9) rfl dX0_lower_28 ?_
      refine lv_iload_n hx hb dX0_lower_31 rfl (lv_at hl 2 rfl) ?_
      refine lv_iload_n hx hb dX0_lower_32 rfl (lv_at hl 0 rfl) ?_
      have b6 := bd_in hf
      replace hf := bd_k hf
      obtain ⟨c6x, e6⟩ : ∃ y, y = upd c1 a0.toNatClampNeg x2 := ⟨_, rfl⟩
      replace hf := nm_at hf e6
      refine va_iast hx hb hK hP hD hS 1 0 rfl rfl b6 dX0_lower_33 (fun H locs hP hD hS => ?_)
      have hP : va_P (dC, dI) vwCl (wX0_lower h0 h1 kc1 V0 c6x) H := by rw [e6]; exact hP
      have hD : va_D A (wX0_lower h0 h1 kc1 V0 c6x) := by rw [e6]; exact hD
      refine lv_iconst (v := 1) hx hb dX0_lower_34 (by decide +kernel) ?_
      have hf1 := Option.some.inj hf
      subst hf1
      have hP9 := hP.sub (ws' := (wX0_lower h0 h1 kc1 V0 c6x)) [0, 1] rfl
      have hD9 := hD.sub (ws' := (wX0_lower h0 h1 kc1 V0 c6x)) [0, 1] (by decide) rfl
      exact W.zret (v := 1) (ty := .boolean) hx hb hr rfl (fun t ht hW => ⟨⟨1, c6x, rfl, ⟨rfl, rfl⟩, by rw [ht]; exact hP9, va_K.moved hW.alike hK, hD9⟩, hS.F ht⟩) hS.2.2 dX0_lower_35
    · replace hf := if_no hf cq5
      refine lv_iconst (v := 0) hx hb dX0_lower_25 (by decide +kernel) ?_
      have hf1 := Option.some.inj hf
      subst hf1
      have hP9 := hP.sub (ws' := (wX0_lower h0 h1 kc1 V0 c1)) [0, 1] rfl
      have hD9 := hD.sub (ws' := (wX0_lower h0 h1 kc1 V0 c1)) [0, 1] (by decide) rfl
      exact W.zret (v := 0) (ty := .boolean) hx hb hr rfl (fun t ht hW => ⟨⟨0, c1, rfl, ⟨rfl, rfl⟩, by rw [ht]; exact hP9, va_K.moved hW.alike hK, hD9⟩, hS.F ht⟩) hS.2.2 dX0_lower_26
  · replace hf := if_no hf cq1
    refine lv_iconst (v := 0) hx hb dX0_lower_6 (by decide +kernel) ?_
    have hf1 := Option.some.inj hf
    subst hf1
    have hP9 := hP.sub (ws' := (wX0_lower h0 h1 kc1 V0 c1)) [0, 1] rfl
    have hD9 := hD.sub (ws' := (wX0_lower h0 h1 kc1 V0 c1)) [0, 1] (by decide) rfl
    exact W.zret (v := 0) (ty := .boolean) hx hb hr rfl (fun t ht hW => ⟨⟨0, c1, rfl, ⟨rfl, rfl⟩, by rw [ht]; exact hP9, va_K.moved hW.alike hK, hD9⟩, hS.F ht⟩) hS.2.2 dX0_lower_7
abbrev wX0_lowerRow (h0 h1 : Nat) (kc1 : ClassId) (V0 : Nat → Value) (c1 : Nat → Int32) : va_W := [(h0, .inr (0, [.ref h1, V0 1, V0 2, V0 3, V0 4, V0 5, V0 6])), (h1, .inl (kc1, 11520, .inl c1))]
set_option maxHeartbeats 4000000 in
set_option maxRecDepth 100000 in
theorem mX0_lowerRow (l : Launch) (dC : Nat → ClassId) (dI : Nat → Nat → Nat) (h0 h1 : Nat) (kc1 : ClassId) (sz : Nat) (base : Nat × Nat × Nat) (a0 : Int32) (a1 : Int32) (a2 : Int32) (a3 : Int32) (c1 : Nat → Int32) (V0 : Nat → Value) (o : Int32 × (Nat → Int32)) (hf : fX0_lowerRow a0 a1 a2 a3 c1 = some o) : Met l yX0_lowerRow (.code yX0_lowerRow cX0_lowerRow 8 (some .boolean) :: wsL_law) ({ frames := 2, cells := 0, slots := 0, locals := 44 }) (cPre (dC, dI) vwCl [.ref h0, .int a0, .int a1, .int a2, .int a3] sz base (wX0_lowerRow h0 h1 kc1 V0 c1) [(kc1, .int)]) (va_Qi (fun r u => r = o.1 ∧ u = o.2) (fun (u : (Nat → Int32)) t => cPost (dC, dI) vwCl (va_A (wX0_lowerRow h0 h1 kc1 V0 c1) sz) (wX0_lowerRow h0 h1 kc1 V0 u) [(kc1, .int)] t) (va_A (wX0_lowerRow h0 h1 kc1 V0 c1) sz)) 0 0 (va_A (wX0_lowerRow h0 h1 kc1 V0 c1) sz) := by
  refine Met.ofW (cc := cX0_lowerRow) (maxL := 8) (ret := (some .boolean)) (by decide) rfl ?_
  intro p e s m args below meth c s₁ B hml hv
  obtain ⟨rfl, hsz, hP, hK, hD0, hE⟩ := hv
  have hx := B.exec
  have hb := B.bytes
  have hr := B.returns
  have hts : ∀ w ∈ wsL_law, _ := fun w h => atoms_spec (ws := .code yX0_lowerRow cX0_lowerRow 8 (some .boolean) :: wsL_law) B.pre w (List.mem_cons_of_mem _ h)
  have hown : s.vm.findClass RX0 = some m.cls := findClass_of_methodNamed B.named
  have hlocks := B.notSynchronized
  have w0_ := hts _ q955
  subst hsz
  have hD := hD0.self (sz := s.heap.size)
  generalize hAe : va_A (wX0_lowerRow h0 h1 kc1 V0 c1) s.heap.size = A at hD ⊢
  have hA : ∀ q : Nat, s.heap.size ≤ q → A q := fun q h => by rw [← hAe]; exact Or.inr h
  have hAB : ∀ q : Nat, A q → base.1 ≤ q := fun q h => by rw [← hAe] at h; exact h.elim (fun ⟨k, e, hk⟩ => hD0.2 k _ hk) (fun hk => Nat.le_trans hE.1 hk)
  have hS : va_S A s.heap s.heap [] := va_S.rf
  have hl := lv_entry ([.ref h0, .int a0, .int a1, .int a2, .int a3]) (n := 8) (Nat.le_of_ble_eq_true rfl)
  rw [lg_entry_eq]
  generalize (lg_sl ([.ref h0, .int a0, .int a1, .int a2, .int a3]) ++ List.replicate (8 - (lg_sl ([.ref h0, .int a0, .int a1, .int a2, .int a3])).length) Slot.unset).toArray = ls at hl ⊢
  have hl : lv_has ls 8 [(0, .ref h0), (1, .int a0), (2, .int a1), (3, .int a2), (4, .int a3)] := hl
  have hP : va_P (dC, dI) vwCl (wX0_lowerRow h0 h1 kc1 V0 c1) s.heap := hP
  refine gl_intro (fun G hG => ?_)
  have B54 : ∀ (k54 : Int32 → Int32 → Int32 → Int32 → Int32 → (Nat → Int32) → Option (Int32 × (Nat → Int32))) (hk54 : ∀ (y1 : Int32) (y4 : Int32) (y5 : Int32) (y6 : Int32) (y7 : Int32) (c1 : (Nat → Int32)) (H : Heap) (locs : List Loc) (ls : Array Slot), va_P (dC, dI) vwCl (wX0_lowerRow h0 h1 kc1 V0 c1) H → va_D A (wX0_lowerRow h0 h1 kc1 V0 c1) → va_S A s.heap H locs → lv_has ls 8 [(0, .ref h0), (1, .int y1), (4, .int y4), (5, .int y5), (6, .int y6), (7, .int y7)] → k54 y1 y4 y5 y6 y7 c1 = some o → G 0 0 H locs (F0 m 54 ls [])), ∀ (y1 : Int32) (y4 : Int32) (y5 : Int32) (y6 : Int32) (y7 : Int32) (c1 : (Nat → Int32)) (H : Heap) (locs : List Loc) (ls : Array Slot), va_P (dC, dI) vwCl (wX0_lowerRow h0 h1 kc1 V0 c1) H → va_D A (wX0_lowerRow h0 h1 kc1 V0 c1) → va_S A s.heap H locs → lv_has ls 8 [(0, .ref h0), (1, .int y1), (4, .int y4), (5, .int y5), (6, .int y6), (7, .int y7)] → fX0_lowerRow_b54   k54 y1 y4 y5 y6 y7 c1 = some o → G 0 0 H locs (F0 m 54 ls []) := by
    intro  k54 hk54 y1 y4 y5 y6 y7 c1 H locs ls hP hD hS hl hf
    refine (hG _ _ _ _ _).mpr ?_
    unfold fX0_lowerRow_b54 at hf
    refine lv_iload hx hb dX0_lowerRow_54 (lv_at hl 5 rfl) ?_
    refine lv_bipush (v := 9) hx hb dX0_lowerRow_56 (by decide +kernel) ?_
    refine lv_icmp_ge (tgt := 93) hx hb dX0_lowerRow_58 (by decide) (fun cq1 => ?_) (fun cq1 => ?_)
    · replace hf := if_at hf cq1
      refine lv_iload hx hb dX0_lowerRow_93 (lv_at hl 4 rfl) ?_
      have b2 := bd_b hf
      replace hf := bd_k hf
      have hf1 := Option.some.inj hf
      subst hf1
      have hP9 := hP.sub (ws' := (wX0_lowerRow h0 h1 kc1 V0 c1)) [0, 1] rfl
      have hD9 := hD.sub (ws' := (wX0_lowerRow h0 h1 kc1 V0 c1)) [0, 1] (by decide) rfl
      exact W.zret (v := y6) (ty := .boolean) hx hb hr (bz_nar b2) (fun t ht hW => ⟨⟨y6, c1, rfl, ⟨rfl, rfl⟩, by rw [ht]; exact hP9, va_K.moved hW.alike hK, hD9⟩, hS.F ht⟩) hS.2.2 dX0_lowerRow_95
    · replace hf := if_no hf cq1
      refine lv_iload hx hb dX0_lowerRow_61 (lv_at hl 4 rfl) ?_
      refine lv_aload_n hx hb dX0_lowerRow_63 rfl (lv_at hl 0 rfl) ?_
      refine lv_iload_n hx hb dX0_lowerRow_64 rfl (lv_at hl 1 rfl) ?_
      refine lv_iload hx hb dX0_lowerRow_65 (lv_at hl 5 rfl) ?_
      refine lv_iadd hx hb dX0_lowerRow_67 ?_
      refine lv_topi (fun x3 e3 => ?_)
      replace hf := nm_at hf e3
      refine lv_aload_n hx hb dX0_lowerRow_68 rfl (lv_at hl 0 rfl) ?_
      refine va_get (D := (dC, dI)) (ci := 0) (v := .ref h1) (C := RX0) (T := TX0) (N := 7) hx hb hts inlX0 hown hK hP 0 rfl rfl 0 (by decide) w0_ (fun _ h9 => h9) rfl dX0_lowerRow_69 ?_
      refine lv_iload hx hb dX0_lowerRow_72 (lv_at hl 3 rfl) ?_
      refine lv_iload hx hb dX0_lowerRow_74 (lv_at hl 5 rfl) ?_
      refine lv_iadd hx hb dX0_lowerRow_76 ?_
      refine lv_topi (fun x4 e4 => ?_)
      replace hf := nm_at hf e4
      have b5 := bd_in hf
      replace hf := bd_k hf
      refine va_iald hx hb hK hP 1 0 rfl rfl b5 dX0_lowerRow_77 ?_
      refine lv_topi (fun x6 e6 => ?_)
      replace hf := nm_at hf e6
      refine lv_iload hx hb dX0_lowerRow_78 (lv_at hl 2 rfl) ?_
      refine lv_iadd hx hb dX0_lowerRow_80 ?_
      refine lv_topi (fun x7 e7 => ?_)
      replace hf := nm_at hf e7
      obtain ⟨o8, e8, hf⟩ := ob_some hf
      refine kVi (As := [.int x3, .int x7]) (rest := [.int y6]) ⟨hx, hb, hml, hown, hts⟩ (mX0_lower l dC dI h0 h1 kc1 H.size base x3 x7 c1 V0 o8 e8) (cwV 2 hts (gTV q1034 q1035 q1036 q946 q1037) rfl rfl rfl (by decide +kernel) ⟨Nat.le_of_ble_eq_true rfl, Nat.le_of_ble_eq_true rfl⟩) hK hP hD hS hA hE hAB [0, 1] [] [0] (wr := []) rfl rfl (by decide) (by decide) (by decide) rfl (ci := 0) (q0 := 0) rfl rfl rfl rfl hl.1 rfl (Nat.le_of_ble_eq_true rfl) dX0_lowerRow_81 ⟨Nat.zero_le _, Nat.zero_le _⟩ (fun r8 u8 H locs hw8 hP hD hS => ?_)
      obtain ⟨hw81, hw82⟩ := hw8
      subst hw81 hw82
      have hP : va_P (dC, dI) vwCl (wX0_lowerRow h0 h1 kc1 V0 o8.2) H := hP.sub [0, 1] rfl
      have hD : va_D A (wX0_lowerRow h0 h1 kc1 V0 o8.2) := hD.sub [0, 1] (by decide) rfl
      refine lv_ior hx hb dX0_lowerRow_84 ?_
      refine lv_topi (fun x9 e9 => ?_)
      replace hf := nm_at hf e9
      refine lv_istore (lv' := [(6, .int x9), (0, .ref h0), (1, .int y1), (4, .int y4), (5, .int y5), (7, .int y7)]) hx hb dX0_lowerRow_85 hl (by decide) rfl (fun ls hl => ?_)
      obtain ⟨x10, e10⟩ : ∃ y : Int32, y = y7 + 1 := ⟨_, rfl⟩
      replace hf := nm_at hf e10
      refine lv_iinc (v := x10) (lv' := [(7, .int x10), (6, .int x9), (0, .ref h0), (1, .int y1), (4, .int y4), (5, .int y5)]) hx hb dX0_lowerRow_87 hl (k := 5) rfl (by rw [e10]; rfl) (by decide) rfl (fun ls hl => ?_)
      refine lv_goto (tgt := 54) hx hb dX0_lowerRow_90 (by decide) ?_
      exact (hG _ _ _ _ _).mp (hk54 y1 y4 y5 x9 x10 o8.2 H locs ls (hP.sub [0, 1] rfl) (hD.sub [0, 1] (by decide) rfl) hS (lv_sub hl [2, 3, 4, 5, 1, 0] rfl) hf)
  have L54 : ∀ (n : Nat), ∀ (y1 : Int32) (y4 : Int32) (y5 : Int32) (y6 : Int32) (y7 : Int32) (c1 : (Nat → Int32)) (H : Heap) (locs : List Loc) (ls : Array Slot), va_P (dC, dI) vwCl (wX0_lowerRow h0 h1 kc1 V0 c1) H → va_D A (wX0_lowerRow h0 h1 kc1 V0 c1) → va_S A s.heap H locs → lv_has ls 8 [(0, .ref h0), (1, .int y1), (4, .int y4), (5, .int y5), (6, .int y6), (7, .int y7)] → fX0_lowerRow_l54   n y1 y4 y5 y6 y7 c1 = some o → G 0 0 H locs (F0 m 54 ls []) := by
    intro  n
    induction n with
    | zero => intro y1 y4 y5 y6 y7 c1 H locs ls _ _ _ _ hf; cases hf
    | succ n ih => exact B54  _ ih
  refine (hG _ _ _ _ _).mpr ?_
  obtain ⟨H, hH⟩ : ∃ H, H = s.heap := ⟨_, rfl⟩
  have hS : va_S A s.heap H [] := by rw [hH]; exact hS
  rw [← hH] at hP ⊢
  generalize ([] : List Loc) = locs at hS ⊢
  unfold fX0_lowerRow at hf
  refine lv_iload_n hx hb dX0_lowerRow_0 rfl (lv_at hl 2 rfl) ?_
  refine lv_iconst (v := (-1)) hx hb dX0_lowerRow_1 (by decide +kernel) ?_
  refine lv_icmp_ne (tgt := 18) hx hb dX0_lowerRow_2 (by decide) (fun cq11 => ?_) (fun cq11 => ?_)
  · replace hf := if_no hf cq11
    refine lv_iload_n hx hb dX0_lowerRow_18 rfl (lv_at hl 2 rfl) ?_
    refine lv_bipush (v := (-2)) hx hb dX0_lowerRow_19 (by decide +kernel) ?_
    refine lv_icmp_ne (tgt := 35) hx hb dX0_lowerRow_21 (by decide) (fun cq12 => ?_) (fun cq12 => ?_)
    · replace hf := if_no hf cq12
      refine lv_iload_n hx hb dX0_lowerRow_35 rfl (lv_at hl 2 rfl) ?_
      refine lv_if_ge (tgt := 41) hx hb dX0_lowerRow_36 (by decide) (fun cq13 => ?_) (fun cq13 => ?_)
      · replace hf := if_at hf cq13
        refine lv_iload_n hx hb dX0_lowerRow_41 rfl (lv_at hl 2 rfl) ?_
        refine lv_iload_n hx hb dX0_lowerRow_42 rfl (lv_at hl 3 rfl) ?_
        obtain ⟨o14, e14, hf⟩ := ob_some hf
        refine kSi (As := [.int a1, .int a2]) (rest := []) ⟨hx, hb, hml, hown, hts⟩ (mX0_row l dC dI H.size base a1 a2 o14 e14) (va_cwS 2 hts (gTS q1009 q1010 q946 q1011) rfl rfl rfl (by decide +kernel) ⟨Nat.le_of_ble_eq_true rfl, Nat.le_of_ble_eq_true rfl⟩) hK hP hD hS hA hE hAB [] [0, 1] [] (wr := (wX0_lowerRow h0 h1 kc1 V0 c1)) rfl rfl (by decide) (by decide) (by decide) rfl rfl hl.1 rfl (Nat.le_of_ble_eq_true rfl) dX0_lowerRow_43 ⟨Nat.zero_le _, Nat.zero_le _⟩ (fun r14 u14 H locs hw14 hP hD hS => ?_)
        obtain ⟨hw141, hw142⟩ := hw14
        subst hw141 hw142
        have hP : va_P (dC, dI) vwCl (wX0_lowerRow h0 h1 kc1 V0 c1) H := hP.sub [0, 1] rfl
        have hD : va_D A (wX0_lowerRow h0 h1 kc1 V0 c1) := hD.sub [0, 1] (by decide) rfl
        refine lv_istore (lv' := [(5, .int o14.1), (0, .ref h0), (1, .int a0), (2, .int a1), (3, .int a2), (4, .int a3)]) hx hb dX0_lowerRow_46 hl (by decide) rfl (fun ls hl => ?_)
        refine lv_iconst (v := 0) hx hb dX0_lowerRow_48 (by decide +kernel) ?_
        refine lv_istore (lv' := [(6, .int 0), (5, .int o14.1), (0, .ref h0), (1, .int a0), (2, .int a1), (3, .int a2), (4, .int a3)]) hx hb dX0_lowerRow_49 hl (by decide) rfl (fun ls hl => ?_)
        refine lv_iconst (v := 0) hx hb dX0_lowerRow_51 (by decide +kernel) ?_
        refine lv_istore (lv' := [(7, .int 0), (6, .int 0), (5, .int o14.1), (0, .ref h0), (1, .int a0), (2, .int a1), (3, .int a2), (4, .int a3)]) hx hb dX0_lowerRow_52 hl (by decide) rfl (fun ls hl => ?_)
        exact (hG _ _ _ _ _).mp (L54 FU a0 a3 o14.1 0 0 c1 H locs ls (hP.sub [0, 1] rfl) (hD.sub [0, 1] (by decide) rfl) hS (lv_sub hl [3, 4, 7, 2, 1, 0] rfl) hf)
      · replace hf := if_no hf cq13
        refine lv_iconst (v := 0) hx hb dX0_lowerRow_39 (by decide +kernel) ?_
        have hf1 := Option.some.inj hf
        subst hf1
        have hP9 := hP.sub (ws' := (wX0_lowerRow h0 h1 kc1 V0 c1)) [0, 1] rfl
        have hD9 := hD.sub (ws' := (wX0_lowerRow h0 h1 kc1 V0 c1)) [0, 1] (by decide) rfl
        exact W.zret (v := 0) (ty := .boolean) hx hb hr rfl (fun t ht hW => ⟨⟨0, c1, rfl, ⟨rfl, rfl⟩, by rw [ht]; exact hP9, va_K.moved hW.alike hK, hD9⟩, hS.F ht⟩) hS.2.2 dX0_lowerRow_40
    · replace hf := if_at hf cq12
      refine lv_aload_n hx hb dX0_lowerRow_24 rfl (lv_at hl 0 rfl) ?_
      refine lv_iload_n hx hb dX0_lowerRow_25 rfl (lv_at hl 1 rfl) ?_
      refine lv_bipush (v := 8) hx hb dX0_lowerRow_26 (by decide +kernel) ?_
      refine lv_iadd hx hb dX0_lowerRow_28 ?_
      refine lv_topi (fun x15 e15 => ?_)
      replace hf := nm_at hf e15
      refine lv_iload hx hb dX0_lowerRow_29 (lv_at hl 4 rfl) ?_
      obtain ⟨o16, e16, hf⟩ := ob_some hf
      refine kVi (As := [.int x15, .int a3]) (rest := []) ⟨hx, hb, hml, hown, hts⟩ (mX0_lower l dC dI h0 h1 kc1 H.size base x15 a3 c1 V0 o16 e16) (cwV 2 hts (gTV q1034 q1035 q1036 q946 q1037) rfl rfl rfl (by decide +kernel) ⟨Nat.le_of_ble_eq_true rfl, Nat.le_of_ble_eq_true rfl⟩) hK hP hD hS hA hE hAB [0, 1] [] [0] (wr := []) rfl rfl (by decide) (by decide) (by decide) rfl (ci := 0) (q0 := 0) rfl rfl rfl rfl hl.1 rfl (Nat.le_of_ble_eq_true rfl) dX0_lowerRow_31 ⟨Nat.zero_le _, Nat.zero_le _⟩ (fun r16 u16 H locs hw16 hP hD hS => ?_)
      obtain ⟨hw161, hw162⟩ := hw16
      subst hw161 hw162
      have hP : va_P (dC, dI) vwCl (wX0_lowerRow h0 h1 kc1 V0 o16.2) H := hP.sub [0, 1] rfl
      have hD : va_D A (wX0_lowerRow h0 h1 kc1 V0 o16.2) := hD.sub [0, 1] (by decide) rfl
      have b17 := bd_b hf
      replace hf := bd_k hf
      have hf1 := Option.some.inj hf
      subst hf1
      have hP9 := hP.sub (ws' := (wX0_lowerRow h0 h1 kc1 V0 o16.2)) [0, 1] rfl
      have hD9 := hD.sub (ws' := (wX0_lowerRow h0 h1 kc1 V0 o16.2)) [0, 1] (by decide) rfl
      exact W.zret (v := o16.1) (ty := .boolean) hx hb hr (bz_nar b17) (fun t ht hW => ⟨⟨o16.1, o16.2, rfl, ⟨rfl, rfl⟩, by rw [ht]; exact hP9, va_K.moved hW.alike hK, hD9⟩, hS.F ht⟩) hS.2.2 dX0_lowerRow_34
  · replace hf := if_at hf cq11
    refine lv_aload_n hx hb dX0_lowerRow_5 rfl (lv_at hl 0 rfl) ?_
    refine lv_iload_n hx hb dX0_lowerRow_6 rfl (lv_at hl 1 rfl) ?_
    refine lv_iload_n hx hb dX0_lowerRow_7 rfl (lv_at hl 3 rfl) ?_
    refine lv_bipush (v := 7) hx hb dX0_lowerRow_8 (by decide +kernel) ?_
    refine lv_iand hx hb dX0_lowerRow_10 ?_
    refine lv_topi (fun x18 e18 => ?_)
    replace hf := nm_at hf e18
    refine lv_iadd hx hb dX0_lowerRow_11 ?_
    refine lv_topi (fun x19 e19 => ?_)
    replace hf := nm_at hf e19
    refine lv_iload hx hb dX0_lowerRow_12 (lv_at hl 4 rfl) ?_
    obtain ⟨o20, e20, hf⟩ := ob_some hf
    refine kVi (As := [.int x19, .int a3]) (rest := []) ⟨hx, hb, hml, hown, hts⟩ (mX0_lower l dC dI h0 h1 kc1 H.size base x19 a3 c1 V0 o20 e20) (cwV 2 hts (gTV q1034 q1035 q1036 q946 q1037) rfl rfl rfl (by decide +kernel) ⟨Nat.le_of_ble_eq_true rfl, Nat.le_of_ble_eq_true rfl⟩) hK hP hD hS hA hE hAB [0, 1] [] [0] (wr := []) rfl rfl (by decide) (by decide) (by decide) rfl (ci := 0) (q0 := 0) rfl rfl rfl rfl hl.1 rfl (Nat.le_of_ble_eq_true rfl) dX0_lowerRow_14 ⟨Nat.zero_le _, Nat.zero_le _⟩ (fun r20 u20 H locs hw20 hP hD hS => ?_)
    obtain ⟨hw201, hw202⟩ := hw20
    subst hw201 hw202
    have hP : va_P (dC, dI) vwCl (wX0_lowerRow h0 h1 kc1 V0 o20.2) H := hP.sub [0, 1] rfl
    have hD : va_D A (wX0_lowerRow h0 h1 kc1 V0 o20.2) := hD.sub [0, 1] (by decide) rfl
    have b21 := bd_b hf
    replace hf := bd_k hf
    have hf1 := Option.some.inj hf
    subst hf1
    have hP9 := hP.sub (ws' := (wX0_lowerRow h0 h1 kc1 V0 o20.2)) [0, 1] rfl
    have hD9 := hD.sub (ws' := (wX0_lowerRow h0 h1 kc1 V0 o20.2)) [0, 1] (by decide) rfl
    exact W.zret (v := o20.1) (ty := .boolean) hx hb hr (bz_nar b21) (fun t ht hW => ⟨⟨o20.1, o20.2, rfl, ⟨rfl, rfl⟩, by rw [ht]; exact hP9, va_K.moved hW.alike hK, hD9⟩, hS.F ht⟩) hS.2.2 dX0_lowerRow_17
abbrev wX0_lowerByCall (h0 h1 h2 h3 h4 h5 h6 : Nat) (kc2 kc3 kc4 kc5 kc6 : ClassId) (V0 : Nat → Value) (V1 : Nat → Value) (c2 : Nat → Int32) (c3 : Nat → Int32) (c4 : Nat → Int32) (c5 : Nat → Int32) (c6 : Nat → Int32) : va_W := [(h0, .inr (0, [.ref h6, .ref h1, V0 2, V0 3, V0 4, V0 5, V0 6])), (h1, .inr (3, [V1 0, V1 1, V1 2, V1 3, .ref h5, V1 5, V1 6, V1 7, V1 8, V1 9, .ref h4, .ref h2, .ref h3, V1 13, V1 14, V1 15, V1 16, V1 17])), (h2, .inl (kc2, 40, .inl c2)), (h3, .inl (kc3, 40, .inl c3)), (h4, .inl (kc4, 40, .inl c4)), (h5, .inl (kc5, 6, .inl c5)), (h6, .inl (kc6, 11520, .inl c6))]
set_option maxHeartbeats 4000000 in
set_option maxRecDepth 100000 in
theorem mX0_lowerByCall (l : Launch) (dC : Nat → ClassId) (dI : Nat → Nat → Nat) (h0 h1 h2 h3 h4 h5 h6 : Nat) (kc2 kc3 kc4 kc5 kc6 : ClassId) (sz : Nat) (base : Nat × Nat × Nat) (a0 : Int32) (a1 : Int32) (c2 : Nat → Int32) (c3 : Nat → Int32) (c4 : Nat → Int32) (c5 : Nat → Int32) (c6 : Nat → Int32) (V0 : Nat → Value) (V1 : Nat → Value) (o : Int32 × (Nat → Int32)) (hf : fX0_lowerByCall a0 a1 c2 c3 c4 c5 c6 = some o) : Met l yX0_lowerByCall (.code yX0_lowerByCall cX0_lowerByCall 11 (some .boolean) :: wsL_law) ({ frames := 3, cells := 0, slots := 0, locals := 71 }) (cPre (dC, dI) vwCl [.ref h0, .int a0, .int a1] sz base (wX0_lowerByCall h0 h1 h2 h3 h4 h5 h6 kc2 kc3 kc4 kc5 kc6 V0 V1 c2 c3 c4 c5 c6) [(kc2, .int), (kc3, .int), (kc4, .int), (kc5, .int), (kc6, .int)]) (va_Qi (fun r u => r = o.1 ∧ u = o.2) (fun (u : (Nat → Int32)) t => cPost (dC, dI) vwCl (va_A (wX0_lowerByCall h0 h1 h2 h3 h4 h5 h6 kc2 kc3 kc4 kc5 kc6 V0 V1 c2 c3 c4 c5 c6) sz) (wX0_lowerByCall h0 h1 h2 h3 h4 h5 h6 kc2 kc3 kc4 kc5 kc6 V0 V1 c2 c3 c4 c5 u) [(kc2, .int), (kc3, .int), (kc4, .int), (kc5, .int), (kc6, .int)] t) (va_A (wX0_lowerByCall h0 h1 h2 h3 h4 h5 h6 kc2 kc3 kc4 kc5 kc6 V0 V1 c2 c3 c4 c5 c6) sz)) 0 0 (va_A (wX0_lowerByCall h0 h1 h2 h3 h4 h5 h6 kc2 kc3 kc4 kc5 kc6 V0 V1 c2 c3 c4 c5 c6) sz) := by
  refine Met.ofW (cc := cX0_lowerByCall) (maxL := 11) (ret := (some .boolean)) (by decide) rfl ?_
  intro p e s m args below meth c s₁ B hml hv
  obtain ⟨rfl, hsz, hP, hK, hD0, hE⟩ := hv
  have hx := B.exec
  have hb := B.bytes
  have hr := B.returns
  have hts : ∀ w ∈ wsL_law, _ := fun w h => atoms_spec (ws := .code yX0_lowerByCall cX0_lowerByCall 11 (some .boolean) :: wsL_law) B.pre w (List.mem_cons_of_mem _ h)
  have hown : s.vm.findClass RX0 = some m.cls := findClass_of_methodNamed B.named
  have hlocks := B.notSynchronized
  have w0_ := hts _ q955
  have w1_ := hts _ q966
  have w2_ := hts _ q960
  have w3_ := hts _ q984
  have w4_ := hts _ q983
  subst hsz
  have hD := hD0.self (sz := s.heap.size)
  generalize hAe : va_A (wX0_lowerByCall h0 h1 h2 h3 h4 h5 h6 kc2 kc3 kc4 kc5 kc6 V0 V1 c2 c3 c4 c5 c6) s.heap.size = A at hD ⊢
  have hA : ∀ q : Nat, s.heap.size ≤ q → A q := fun q h => by rw [← hAe]; exact Or.inr h
  have hAB : ∀ q : Nat, A q → base.1 ≤ q := fun q h => by rw [← hAe] at h; exact h.elim (fun ⟨k, e, hk⟩ => hD0.2 k _ hk) (fun hk => Nat.le_trans hE.1 hk)
  have hS : va_S A s.heap s.heap [] := va_S.rf
  have hl := lv_entry ([.ref h0, .int a0, .int a1]) (n := 11) (Nat.le_of_ble_eq_true rfl)
  rw [lg_entry_eq]
  generalize (lg_sl ([.ref h0, .int a0, .int a1]) ++ List.replicate (11 - (lg_sl ([.ref h0, .int a0, .int a1])).length) Slot.unset).toArray = ls at hl ⊢
  have hl : lv_has ls 11 [(0, .ref h0), (1, .int a0), (2, .int a1)] := hl
  have hP : va_P (dC, dI) vwCl (wX0_lowerByCall h0 h1 h2 h3 h4 h5 h6 kc2 kc3 kc4 kc5 kc6 V0 V1 c2 c3 c4 c5 c6) s.heap := hP
  refine gl_intro (fun G hG => ?_)
  have J140 : ∀ (k93 : Int32 → Int32 → Int32 → Int32 → Int32 → Int32 → (Nat → Int32) → Option (Int32 × (Nat → Int32))) (hk93 : ∀ (y3 : Int32) (y4 : Int32) (y6 : Int32) (y7 : Int32) (y8 : Int32) (y9 : Int32) (c6 : (Nat → Int32)) (H : Heap) (locs : List Loc) (ls : Array Slot), va_P (dC, dI) vwCl (wX0_lowerByCall h0 h1 h2 h3 h4 h5 h6 kc2 kc3 kc4 kc5 kc6 V0 V1 c2 c3 c4 c5 c6) H → va_D A (wX0_lowerByCall h0 h1 h2 h3 h4 h5 h6 kc2 kc3 kc4 kc5 kc6 V0 V1 c2 c3 c4 c5 c6) → va_S A s.heap H locs → lv_has ls 11 [(0, .ref h0), (3, .int y3), (4, .int y4), (6, .int y6), (7, .int y7), (8, .int y8), (9, .int y9)] → k93 y3 y4 y6 y7 y8 y9 c6 = some o → G 0 0 H locs (F0 m 93 ls [])), ∀ (y3 : Int32) (y4 : Int32) (y6 : Int32) (y7 : Int32) (y8 : Int32) (y9 : Int32) (c6 : (Nat → Int32)) (H : Heap) (locs : List Loc) (ls : Array Slot), va_P (dC, dI) vwCl (wX0_lowerByCall h0 h1 h2 h3 h4 h5 h6 kc2 kc3 kc4 kc5 kc6 V0 V1 c2 c3 c4 c5 c6) H → va_D A (wX0_lowerByCall h0 h1 h2 h3 h4 h5 h6 kc2 kc3 kc4 kc5 kc6 V0 V1 c2 c3 c4 c5 c6) → va_S A s.heap H locs → lv_has ls 11 [(0, .ref h0), (3, .int y3), (4, .int y4), (6, .int y6), (7, .int y7), (8, .int y8), (9, .int y9)] → fX0_lowerByCall_p140 c2 c3 c4 c5 k93 y3 y4 y6 y7 y8 y9 c6 = some o → G 0 0 H locs (F0 m 140 ls []) := by
    intro k93 hk93 y3 y4 y6 y7 y8 y9 c6 H locs ls hP hD hS hl hf
    refine (hG _ _ _ _ _).mpr ?_
    unfold fX0_lowerByCall_p140 at hf
    obtain ⟨x1, e1⟩ : ∃ y : Int32, y = y9 + 1 := ⟨_, rfl⟩
    replace hf := nm_at hf e1
    refine lv_iinc (v := x1) (lv' := [(9, .int x1), (0, .ref h0), (3, .int y3), (4, .int y4), (6, .int y6), (7, .int y7), (8, .int y8)]) hx hb dX0_lowerByCall_140 hl (k := 6) rfl (by rw [e1]; rfl) (by decide) rfl (fun ls hl => ?_)
    refine lv_goto (tgt := 93) hx hb dX0_lowerByCall_143 (by decide) ?_
    exact (hG _ _ _ _ _).mp (hk93 y3 y4 y6 y7 y8 x1 c6 H locs ls (hP.sub [0, 1, 2, 3, 4, 5, 6] rfl) (hD.sub [0, 1, 2, 3, 4, 5, 6] (by decide) rfl) hS (lv_sub hl [1, 2, 3, 4, 5, 6, 0] rfl) hf)
  have B93 : ∀ (k93 : Int32 → Int32 → Int32 → Int32 → Int32 → Int32 → (Nat → Int32) → Option (Int32 × (Nat → Int32))) (hk93 : ∀ (y3 : Int32) (y4 : Int32) (y6 : Int32) (y7 : Int32) (y8 : Int32) (y9 : Int32) (c6 : (Nat → Int32)) (H : Heap) (locs : List Loc) (ls : Array Slot), va_P (dC, dI) vwCl (wX0_lowerByCall h0 h1 h2 h3 h4 h5 h6 kc2 kc3 kc4 kc5 kc6 V0 V1 c2 c3 c4 c5 c6) H → va_D A (wX0_lowerByCall h0 h1 h2 h3 h4 h5 h6 kc2 kc3 kc4 kc5 kc6 V0 V1 c2 c3 c4 c5 c6) → va_S A s.heap H locs → lv_has ls 11 [(0, .ref h0), (3, .int y3), (4, .int y4), (6, .int y6), (7, .int y7), (8, .int y8), (9, .int y9)] → k93 y3 y4 y6 y7 y8 y9 c6 = some o → G 0 0 H locs (F0 m 93 ls [])), ∀ (y3 : Int32) (y4 : Int32) (y6 : Int32) (y7 : Int32) (y8 : Int32) (y9 : Int32) (c6 : (Nat → Int32)) (H : Heap) (locs : List Loc) (ls : Array Slot), va_P (dC, dI) vwCl (wX0_lowerByCall h0 h1 h2 h3 h4 h5 h6 kc2 kc3 kc4 kc5 kc6 V0 V1 c2 c3 c4 c5 c6) H → va_D A (wX0_lowerByCall h0 h1 h2 h3 h4 h5 h6 kc2 kc3 kc4 kc5 kc6 V0 V1 c2 c3 c4 c5 c6) → va_S A s.heap H locs → lv_has ls 11 [(0, .ref h0), (3, .int y3), (4, .int y4), (6, .int y6), (7, .int y7), (8, .int y8), (9, .int y9)] → fX0_lowerByCall_b93 c2 c3 c4 c5  k93 y3 y4 y6 y7 y8 y9 c6 = some o → G 0 0 H locs (F0 m 93 ls []) := by
    intro  k93 hk93 y3 y4 y6 y7 y8 y9 c6 H locs ls hP hD hS hl hf
    refine (hG _ _ _ _ _).mpr ?_
    unfold fX0_lowerByCall_b93 at hf
    refine lv_iload hx hb dX0_lowerByCall_93 (lv_at hl 6 rfl) ?_
    refine lv_bipush (v := 8) hx hb dX0_lowerByCall_95 (by decide +kernel) ?_
    refine lv_icmp_ge (tgt := 146) hx hb dX0_lowerByCall_97 (by decide) (fun cq2 => ?_) (fun cq2 => ?_)
    · replace hf := if_at hf cq2
      refine lv_iload hx hb dX0_lowerByCall_146 (lv_at hl 5 rfl) ?_
      have b3 := bd_b hf
      replace hf := bd_k hf
      have hf1 := Option.some.inj hf
      subst hf1
      have hP9 := hP.sub (ws' := (wX0_lowerByCall h0 h1 h2 h3 h4 h5 h6 kc2 kc3 kc4 kc5 kc6 V0 V1 c2 c3 c4 c5 c6)) [0, 1, 2, 3, 4, 5, 6] rfl
      have hD9 := hD.sub (ws' := (wX0_lowerByCall h0 h1 h2 h3 h4 h5 h6 kc2 kc3 kc4 kc5 kc6 V0 V1 c2 c3 c4 c5 c6)) [0, 1, 2, 3, 4, 5, 6] (by decide) rfl
      exact W.zret (v := y8) (ty := .boolean) hx hb hr (bz_nar b3) (fun t ht hW => ⟨⟨y8, c6, rfl, ⟨rfl, rfl⟩, by rw [ht]; exact hP9, va_K.moved hW.alike hK, hD9⟩, hS.F ht⟩) hS.2.2 dX0_lowerByCall_148
    · replace hf := if_no hf cq2
      refine lv_aload_n hx hb dX0_lowerByCall_100 rfl (lv_at hl 0 rfl) ?_
      refine va_get (D := (dC, dI)) (ci := 0) (v := .ref h6) (C := RX0) (T := TX0) (N := 7) hx hb hts inlX0 hown hK hP 0 rfl rfl 0 (by decide) w0_ (fun _ h9 => h9) rfl dX0_lowerByCall_101 ?_
      refine lv_iload hx hb dX0_lowerByCall_104 (lv_at hl 3 rfl) ?_
      refine lv_iload hx hb dX0_lowerByCall_106 (lv_at hl 6 rfl) ?_
      refine lv_iadd hx hb dX0_lowerByCall_108 ?_
      refine lv_topi (fun x4 e4 => ?_)
      replace hf := nm_at hf e4
      have b5 := bd_in hf
      replace hf := bd_k hf
      refine va_iald hx hb hK hP 6 4 rfl rfl b5 dX0_lowerByCall_109 ?_
      refine lv_topi (fun x6 e6 => ?_)
      replace hf := nm_at hf e6
      refine lv_istore (lv' := [(10, .int x6), (0, .ref h0), (3, .int y3), (4, .int y4), (6, .int y6), (7, .int y7), (8, .int y8), (9, .int y9)]) hx hb dX0_lowerByCall_110 hl (by decide) rfl (fun ls hl => ?_)
      refine lv_iload hx hb dX0_lowerByCall_112 (lv_at hl 0 rfl) ?_
      refine lv_ldc (v := 536870912) hx hb hown w1_ dX0_lowerByCall_114 ?_
      refine lv_icmp_ge (tgt := 140) hx hb dX0_lowerByCall_116 (by decide) (fun cq7 => ?_) (fun cq7 => ?_)
      · replace hf := if_at hf cq7
        exact (hG _ _ _ _ _).mp (J140 k93 hk93 y3 y4 y6 y7 y8 y9 c6 H locs ls (hP.sub [0, 1, 2, 3, 4, 5, 6] rfl) (hD.sub [0, 1, 2, 3, 4, 5, 6] (by decide) rfl) hS (lv_sub hl [1, 2, 3, 4, 5, 6, 7] rfl) hf)
      · replace hf := if_no hf cq7
        refine lv_iload hx hb dX0_lowerByCall_119 (lv_at hl 6 rfl) ?_
        refine lv_aload_n hx hb dX0_lowerByCall_121 rfl (lv_at hl 1 rfl) ?_
        refine lv_iload_n hx hb dX0_lowerByCall_122 rfl (lv_at hl 2 rfl) ?_
        refine lv_iload hx hb dX0_lowerByCall_123 (lv_at hl 3 rfl) ?_
        refine lv_iload hx hb dX0_lowerByCall_125 (lv_at hl 5 rfl) ?_
        refine lv_iload hx hb dX0_lowerByCall_127 (lv_at hl 7 rfl) ?_
        refine lv_ior hx hb dX0_lowerByCall_129 ?_
        refine lv_topi (fun x8 e8 => ?_)
        replace hf := nm_at hf e8
        refine lv_iload hx hb dX0_lowerByCall_130 (lv_at hl 0 rfl) ?_
        refine lv_iconst (v := 1) hx hb dX0_lowerByCall_132 (by decide +kernel) ?_
        refine lv_iadd hx hb dX0_lowerByCall_133 ?_
        refine lv_topi (fun x9 e9 => ?_)
        replace hf := nm_at hf e9
        obtain ⟨o10, e10, hf⟩ := ob_some hf
        refine kVi (As := [.int y3, .int y4, .int x8, .int x9]) (rest := [.int y8]) ⟨hx, hb, hml, hown, hts⟩ (mX0_lowerRow l dC dI h0 h6 kc6 H.size base y3 y4 x8 x9 c6 (fun k => match k with | 1 => .ref h1 | k => V0 k) o10 e10) (cwV 4 hts (gTV q1030 q1031 q1032 q946 q1033) rfl rfl rfl (by decide +kernel) ⟨Nat.le_of_ble_eq_true rfl, Nat.le_of_ble_eq_true rfl⟩) hK hP hD hS hA hE hAB [0, 6] [1, 2, 3, 4, 5] [4] (wr := [(h1, .inr (3, [V1 0, V1 1, V1 2, V1 3, .ref h5, V1 5, V1 6, V1 7, V1 8, V1 9, .ref h4, .ref h2, .ref h3, V1 13, V1 14, V1 15, V1 16, V1 17])), (h2, .inl (kc2, 40, .inl c2)), (h3, .inl (kc3, 40, .inl c3)), (h4, .inl (kc4, 40, .inl c4)), (h5, .inl (kc5, 6, .inl c5))]) rfl rfl (by decide) (by decide) (by decide) rfl (ci := 0) (q0 := 0) rfl rfl rfl rfl hl.1 rfl (Nat.le_of_ble_eq_true rfl) dX0_lowerByCall_134 ⟨Nat.zero_le _, Nat.zero_le _⟩ (fun r10 u10 H locs hw10 hP hD hS => ?_)
        obtain ⟨hw101, hw102⟩ := hw10
        subst hw101 hw102
        have hP : va_P (dC, dI) vwCl (wX0_lowerByCall h0 h1 h2 h3 h4 h5 h6 kc2 kc3 kc4 kc5 kc6 V0 V1 c2 c3 c4 c5 o10.2) H := hP.sub [5, 0, 1, 2, 3, 4, 6] rfl
        have hD : va_D A (wX0_lowerByCall h0 h1 h2 h3 h4 h5 h6 kc2 kc3 kc4 kc5 kc6 V0 V1 c2 c3 c4 c5 o10.2) := hD.sub [5, 0, 1, 2, 3, 4, 6] (by decide) rfl
        refine lv_ior hx hb dX0_lowerByCall_137 ?_
        refine lv_topi (fun x11 e11 => ?_)
        replace hf := nm_at hf e11
        refine lv_istore (lv' := [(8, .int x11), (10, .int x6), (0, .ref h0), (3, .int y3), (4, .int y4), (6, .int y6), (7, .int y7), (9, .int y9)]) hx hb dX0_lowerByCall_138 hl (by decide) rfl (fun ls hl => ?_)
        exact (hG _ _ _ _ _).mp (J140 k93 hk93 y3 y4 y6 y7 x11 y9 o10.2 H locs ls (hP.sub [0, 1, 2, 3, 4, 5, 6] rfl) (hD.sub [0, 1, 2, 3, 4, 5, 6] (by decide) rfl) hS (lv_sub hl [2, 3, 4, 5, 6, 0, 7] rfl) hf)
  have L93 : ∀ (n : Nat), ∀ (y3 : Int32) (y4 : Int32) (y6 : Int32) (y7 : Int32) (y8 : Int32) (y9 : Int32) (c6 : (Nat → Int32)) (H : Heap) (locs : List Loc) (ls : Array Slot), va_P (dC, dI) vwCl (wX0_lowerByCall h0 h1 h2 h3 h4 h5 h6 kc2 kc3 kc4 kc5 kc6 V0 V1 c2 c3 c4 c5 c6) H → va_D A (wX0_lowerByCall h0 h1 h2 h3 h4 h5 h6 kc2 kc3 kc4 kc5 kc6 V0 V1 c2 c3 c4 c5 c6) → va_S A s.heap H locs → lv_has ls 11 [(0, .ref h0), (3, .int y3), (4, .int y4), (6, .int y6), (7, .int y7), (8, .int y8), (9, .int y9)] → fX0_lowerByCall_l93 c2 c3 c4 c5  n y3 y4 y6 y7 y8 y9 c6 = some o → G 0 0 H locs (F0 m 93 ls []) := by
    intro  n
    induction n with
    | zero => intro y3 y4 y6 y7 y8 y9 c6 H locs ls _ _ _ _ hf; cases hf
    | succ n ih => exact B93  _ ih
  refine (hG _ _ _ _ _).mpr ?_
  obtain ⟨H, hH⟩ : ∃ H, H = s.heap := ⟨_, rfl⟩
  have hS : va_S A s.heap H [] := by rw [hH]; exact hS
  rw [← hH] at hP ⊢
  generalize ([] : List Loc) = locs at hS ⊢
  unfold fX0_lowerByCall at hf
  refine lv_iload_n hx hb dX0_lowerByCall_0 rfl (lv_at hl 1 rfl) ?_
  refine lv_iload_n hx hb dX0_lowerByCall_1 rfl (lv_at hl 2 rfl) ?_
  obtain ⟨o12, e12, hf⟩ := ob_some hf
  refine kSi (As := [.int a0, .int a1]) (rest := []) ⟨hx, hb, hml, hown, hts⟩ (mX0_row l dC dI H.size base a0 a1 o12 e12) (va_cwS 2 hts (gTS q1009 q1010 q946 q1011) rfl rfl rfl (by decide +kernel) ⟨Nat.le_of_ble_eq_true rfl, Nat.le_of_ble_eq_true rfl⟩) hK hP hD hS hA hE hAB [] [0, 1, 2, 3, 4, 5, 6] [] (wr := (wX0_lowerByCall h0 h1 h2 h3 h4 h5 h6 kc2 kc3 kc4 kc5 kc6 V0 V1 c2 c3 c4 c5 c6)) rfl rfl (by decide) (by decide) (by decide) rfl rfl hl.1 rfl (Nat.le_of_ble_eq_true rfl) dX0_lowerByCall_2 ⟨Nat.zero_le _, Nat.zero_le _⟩ (fun r12 u12 H locs hw12 hP hD hS => ?_)
  obtain ⟨hw121, hw122⟩ := hw12
  subst hw121 hw122
  have hP : va_P (dC, dI) vwCl (wX0_lowerByCall h0 h1 h2 h3 h4 h5 h6 kc2 kc3 kc4 kc5 kc6 V0 V1 c2 c3 c4 c5 c6) H := hP.sub [0, 1, 2, 3, 4, 5, 6] rfl
  have hD : va_D A (wX0_lowerByCall h0 h1 h2 h3 h4 h5 h6 kc2 kc3 kc4 kc5 kc6 V0 V1 c2 c3 c4 c5 c6) := hD.sub [0, 1, 2, 3, 4, 5, 6] (by decide) rfl
  refine lv_istore_n (lv' := [(3, .int o12.1), (0, .ref h0), (1, .int a0), (2, .int a1)]) hx hb dX0_lowerByCall_5 rfl hl (by decide) rfl (fun ls hl => ?_)
  refine lv_aload_n hx hb dX0_lowerByCall_6 rfl (lv_at hl 1 rfl) ?_
  refine va_get (D := (dC, dI)) (ci := 0) (v := .ref h1) (C := RX0) (T := TX0) (N := 7) hx hb hts inlX0 hown hK hP 0 rfl rfl 1 (by decide) w2_ (fun _ h9 => h9) rfl dX0_lowerByCall_7 ?_
  refine lv_iload_n hx hb dX0_lowerByCall_10 rfl (lv_at hl 2 rfl) ?_
  refine lv_iconst (v := 1) hx hb dX0_lowerByCall_11 (by decide +kernel) ?_
  obtain ⟨o13, e13, hf⟩ := ob_some hf
  refine kVi (As := [.int a0, .int 1]) (rest := []) ⟨hx, hb, hml, hown, hts⟩ (mX3_pointAfter l dC dI h1 h2 h3 kc2 kc3 H.size base a0 1 c2 c3 (fun k => match k with | 4 => .ref h5 | 10 => .ref h4 | k => V1 k) o13 e13) (cwV 2 hts (gTV q986 q987 q988 q23 q989) rfl rfl rfl (by decide +kernel) ⟨Nat.le_of_ble_eq_true rfl, Nat.le_of_ble_eq_true rfl⟩) hK hP hD hS hA hE hAB [1, 2, 3] [0, 4, 5, 6] [0, 1] (wr := [(h0, .inr (0, [.ref h6, .ref h1, V0 2, V0 3, V0 4, V0 5, V0 6])), (h4, .inl (kc4, 40, .inl c4)), (h5, .inl (kc5, 6, .inl c5)), (h6, .inl (kc6, 11520, .inl c6))]) rfl rfl (by decide) (by decide) (by decide) rfl (ci := 3) (q0 := 0) rfl rfl rfl rfl hl.1 rfl (Nat.le_of_ble_eq_true rfl) dX0_lowerByCall_12 ⟨Nat.zero_le _, Nat.zero_le _⟩ (fun r13 u13 H locs hw13 hP hD hS => ?_)
  obtain ⟨hw131, hw132⟩ := hw13
  subst hw131 hw132
  have hP : va_P (dC, dI) vwCl (wX0_lowerByCall h0 h1 h2 h3 h4 h5 h6 kc2 kc3 kc4 kc5 kc6 V0 V1 c2 c3 c4 c5 c6) H := hP.sub [0, 4, 5, 6, 1, 2, 3] rfl
  have hD : va_D A (wX0_lowerByCall h0 h1 h2 h3 h4 h5 h6 kc2 kc3 kc4 kc5 kc6 V0 V1 c2 c3 c4 c5 c6) := hD.sub [0, 4, 5, 6, 1, 2, 3] (by decide) rfl
  refine lv_istore (lv' := [(4, .int o13.1), (3, .int o12.1), (0, .ref h0), (1, .int a0), (2, .int a1)]) hx hb dX0_lowerByCall_15 hl (by decide) rfl (fun ls hl => ?_)
  refine lv_aload_n hx hb dX0_lowerByCall_17 rfl (lv_at hl 2 rfl) ?_
  refine va_get (D := (dC, dI)) (ci := 0) (v := .ref h1) (C := RX0) (T := TX0) (N := 7) hx hb hts inlX0 hown hK hP 0 rfl rfl 1 (by decide) w2_ (fun _ h9 => h9) rfl dX0_lowerByCall_18 ?_
  refine va_get (D := (dC, dI)) (ci := 3) (v := .ref h5) (C := RX3) (T := TX3) (N := 18) hx hb hts inlX3 hown hK hP 1 rfl rfl 4 (by decide) w3_ (fun _ h9 => h9) rfl dX0_lowerByCall_21 ?_
  refine lv_aload_n hx hb dX0_lowerByCall_24 rfl (lv_at hl 2 rfl) ?_
  refine va_get (D := (dC, dI)) (ci := 0) (v := .ref h1) (C := RX0) (T := TX0) (N := 7) hx hb hts inlX0 hown hK hP 0 rfl rfl 1 (by decide) w2_ (fun _ h9 => h9) rfl dX0_lowerByCall_25 ?_
  refine va_get (D := (dC, dI)) (ci := 3) (v := .ref h4) (C := RX3) (T := TX3) (N := 18) hx hb hts inlX3 hown hK hP 1 rfl rfl 10 (by decide) w4_ (fun _ h9 => h9) rfl dX0_lowerByCall_28 ?_
  refine lv_iload_n hx hb dX0_lowerByCall_31 rfl (lv_at hl 3 rfl) ?_
  have b14 := bd_in hf
  replace hf := bd_k hf
  refine va_iald hx hb hK hP 4 2 rfl rfl b14 dX0_lowerByCall_32 ?_
  refine lv_topi (fun x15 e15 => ?_)
  replace hf := nm_at hf e15
  have b16 := bd_in hf
  replace hf := bd_k hf
  refine va_iald hx hb hK hP 5 3 rfl rfl b16 dX0_lowerByCall_33 ?_
  refine lv_topi (fun x17 e17 => ?_)
  replace hf := nm_at hf e17
  refine lv_istore (lv' := [(5, .int x17), (4, .int o13.1), (3, .int o12.1), (0, .ref h0), (1, .int a0), (2, .int a1)]) hx hb dX0_lowerByCall_34 hl (by decide) rfl (fun ls hl => ?_)
  refine lv_iload hx hb dX0_lowerByCall_36 (lv_at hl 0 rfl) ?_
  refine lv_if_ge (tgt := 51) hx hb dX0_lowerByCall_38 (by decide) (fun cq18 => ?_) (fun cq18 => ?_)
  · replace hf := if_at hf cq18
    refine lv_iload hx hb dX0_lowerByCall_51 (lv_at hl 0 rfl) ?_
    refine lv_iload_n hx hb dX0_lowerByCall_53 rfl (lv_at hl 5 rfl) ?_
    refine lv_bipush (v := 7) hx hb dX0_lowerByCall_54 (by decide +kernel) ?_
    refine lv_iand hx hb dX0_lowerByCall_56 ?_
    refine lv_topi (fun x19 e19 => ?_)
    replace hf := nm_at hf e19
    obtain ⟨o20, e20, hf⟩ := ob_some hf
    refine kSi (As := [.int x17, .int x19]) (rest := []) ⟨hx, hb, hml, hown, hts⟩ (mX0_row l dC dI H.size base x17 x19 o20 e20) (va_cwS 2 hts (gTS q1009 q1010 q946 q1011) rfl rfl rfl (by decide +kernel) ⟨Nat.le_of_ble_eq_true rfl, Nat.le_of_ble_eq_true rfl⟩) hK hP hD hS hA hE hAB [] [0, 1, 2, 3, 4, 5, 6] [] (wr := (wX0_lowerByCall h0 h1 h2 h3 h4 h5 h6 kc2 kc3 kc4 kc5 kc6 V0 V1 c2 c3 c4 c5 c6)) rfl rfl (by decide) (by decide) (by decide) rfl rfl hl.1 rfl (Nat.le_of_ble_eq_true rfl) dX0_lowerByCall_57 ⟨Nat.zero_le _, Nat.zero_le _⟩ (fun r20 u20 H locs hw20 hP hD hS => ?_)
    obtain ⟨hw201, hw202⟩ := hw20
    subst hw201 hw202
    have hP : va_P (dC, dI) vwCl (wX0_lowerByCall h0 h1 h2 h3 h4 h5 h6 kc2 kc3 kc4 kc5 kc6 V0 V1 c2 c3 c4 c5 c6) H := hP.sub [0, 1, 2, 3, 4, 5, 6] rfl
    have hD : va_D A (wX0_lowerByCall h0 h1 h2 h3 h4 h5 h6 kc2 kc3 kc4 kc5 kc6 V0 V1 c2 c3 c4 c5 c6) := hD.sub [0, 1, 2, 3, 4, 5, 6] (by decide) rfl
    refine lv_istore (lv' := [(6, .int o20.1), (5, .int x17), (4, .int o13.1), (3, .int o12.1), (0, .ref h0), (1, .int a0), (2, .int a1)]) hx hb dX0_lowerByCall_60 hl (by decide) rfl (fun ls hl => ?_)
    refine lv_iload_n hx hb dX0_lowerByCall_62 rfl (lv_at hl 6 rfl) ?_
    refine lv_bipush (v := 24) hx hb dX0_lowerByCall_63 (by decide +kernel) ?_
    refine lv_iand hx hb dX0_lowerByCall_65 ?_
    refine lv_topi (fun x21 e21 => ?_)
    replace hf := nm_at hf e21
    refine lv_istore (lv' := [(7, .int x21), (6, .int o20.1), (5, .int x17), (4, .int o13.1), (3, .int o12.1), (0, .ref h0), (1, .int a0), (2, .int a1)]) hx hb dX0_lowerByCall_66 hl (by decide) rfl (fun ls hl => ?_)
    refine lv_aload_n hx hb dX0_lowerByCall_68 rfl (lv_at hl 5 rfl) ?_
    refine lv_iload_n hx hb dX0_lowerByCall_69 rfl (lv_at hl 4 rfl) ?_
    refine lv_bipush (v := 8) hx hb dX0_lowerByCall_70 (by decide +kernel) ?_
    refine lv_iadd hx hb dX0_lowerByCall_72 ?_
    refine lv_topi (fun x22 e22 => ?_)
    replace hf := nm_at hf e22
    refine lv_aload_n hx hb dX0_lowerByCall_73 rfl (lv_at hl 5 rfl) ?_
    refine va_get (D := (dC, dI)) (ci := 0) (v := .ref h6) (C := RX0) (T := TX0) (N := 7) hx hb hts inlX0 hown hK hP 0 rfl rfl 0 (by decide) w0_ (fun _ h9 => h9) rfl dX0_lowerByCall_74 ?_
    refine lv_iload hx hb dX0_lowerByCall_77 (lv_at hl 1 rfl) ?_
    refine lv_bipush (v := 8) hx hb dX0_lowerByCall_79 (by decide +kernel) ?_
    refine lv_iadd hx hb dX0_lowerByCall_81 ?_
    refine lv_topi (fun x23 e23 => ?_)
    replace hf := nm_at hf e23
    have b24 := bd_in hf
    replace hf := bd_k hf
    refine va_iald hx hb hK hP 6 4 rfl rfl b24 dX0_lowerByCall_82 ?_
    refine lv_topi (fun x25 e25 => ?_)
    replace hf := nm_at hf e25
    refine lv_iconst (v := 1) hx hb dX0_lowerByCall_83 (by decide +kernel) ?_
    refine lv_iadd hx hb dX0_lowerByCall_84 ?_
    refine lv_topi (fun x26 e26 => ?_)
    replace hf := nm_at hf e26
    obtain ⟨o27, e27, hf⟩ := ob_some hf
    refine kVi (As := [.int x22, .int x26]) (rest := []) ⟨hx, hb, hml, hown, hts⟩ (mX0_lower l dC dI h0 h6 kc6 H.size base x22 x26 c6 (fun k => match k with | 1 => .ref h1 | k => V0 k) o27 e27) (cwV 2 hts (gTV q1034 q1035 q1036 q946 q1037) rfl rfl rfl (by decide +kernel) ⟨Nat.le_of_ble_eq_true rfl, Nat.le_of_ble_eq_true rfl⟩) hK hP hD hS hA hE hAB [0, 6] [1, 2, 3, 4, 5] [4] (wr := [(h1, .inr (3, [V1 0, V1 1, V1 2, V1 3, .ref h5, V1 5, V1 6, V1 7, V1 8, V1 9, .ref h4, .ref h2, .ref h3, V1 13, V1 14, V1 15, V1 16, V1 17])), (h2, .inl (kc2, 40, .inl c2)), (h3, .inl (kc3, 40, .inl c3)), (h4, .inl (kc4, 40, .inl c4)), (h5, .inl (kc5, 6, .inl c5))]) rfl rfl (by decide) (by decide) (by decide) rfl (ci := 0) (q0 := 0) rfl rfl rfl rfl hl.1 rfl (Nat.le_of_ble_eq_true rfl) dX0_lowerByCall_85 ⟨Nat.zero_le _, Nat.zero_le _⟩ (fun r27 u27 H locs hw27 hP hD hS => ?_)
    obtain ⟨hw271, hw272⟩ := hw27
    subst hw271 hw272
    have hP : va_P (dC, dI) vwCl (wX0_lowerByCall h0 h1 h2 h3 h4 h5 h6 kc2 kc3 kc4 kc5 kc6 V0 V1 c2 c3 c4 c5 o27.2) H := hP.sub [5, 0, 1, 2, 3, 4, 6] rfl
    have hD : va_D A (wX0_lowerByCall h0 h1 h2 h3 h4 h5 h6 kc2 kc3 kc4 kc5 kc6 V0 V1 c2 c3 c4 c5 o27.2) := hD.sub [5, 0, 1, 2, 3, 4, 6] (by decide) rfl
    refine lv_istore (lv' := [(8, .int o27.1), (7, .int x21), (6, .int o20.1), (5, .int x17), (4, .int o13.1), (3, .int o12.1), (0, .ref h0), (1, .int a0), (2, .int a1)]) hx hb dX0_lowerByCall_88 hl (by decide) rfl (fun ls hl => ?_)
    refine lv_iconst (v := 0) hx hb dX0_lowerByCall_90 (by decide +kernel) ?_
    refine lv_istore (lv' := [(9, .int 0), (8, .int o27.1), (7, .int x21), (6, .int o20.1), (5, .int x17), (4, .int o13.1), (3, .int o12.1), (0, .ref h0), (1, .int a0), (2, .int a1)]) hx hb dX0_lowerByCall_91 hl (by decide) rfl (fun ls hl => ?_)
    exact (hG _ _ _ _ _).mp (L93 FU o12.1 o13.1 o20.1 x21 o27.1 0 o27.2 H locs ls (hP.sub [0, 1, 2, 3, 4, 5, 6] rfl) (hD.sub [0, 1, 2, 3, 4, 5, 6] (by decide) rfl) hS (lv_sub hl [7, 6, 5, 3, 2, 1, 0] rfl) hf)
  · replace hf := if_no hf cq18
    refine lv_aload_n hx hb dX0_lowerByCall_41 rfl (lv_at hl 3 rfl) ?_
    refine lv_iload_n hx hb dX0_lowerByCall_42 rfl (lv_at hl 2 rfl) ?_
    refine lv_iload hx hb dX0_lowerByCall_43 (lv_at hl 1 rfl) ?_
    refine lv_iload_n hx hb dX0_lowerByCall_45 rfl (lv_at hl 5 rfl) ?_
    refine lv_iconst (v := 1) hx hb dX0_lowerByCall_46 (by decide +kernel) ?_
    obtain ⟨o28, e28, hf⟩ := ob_some hf
    refine kVi (As := [.int o12.1, .int o13.1, .int a1, .int 1]) (rest := []) ⟨hx, hb, hml, hown, hts⟩ (mX0_lowerRow l dC dI h0 h6 kc6 H.size base o12.1 o13.1 a1 1 c6 (fun k => match k with | 1 => .ref h1 | k => V0 k) o28 e28) (cwV 4 hts (gTV q1030 q1031 q1032 q946 q1033) rfl rfl rfl (by decide +kernel) ⟨Nat.le_of_ble_eq_true rfl, Nat.le_of_ble_eq_true rfl⟩) hK hP hD hS hA hE hAB [0, 6] [1, 2, 3, 4, 5] [4] (wr := [(h1, .inr (3, [V1 0, V1 1, V1 2, V1 3, .ref h5, V1 5, V1 6, V1 7, V1 8, V1 9, .ref h4, .ref h2, .ref h3, V1 13, V1 14, V1 15, V1 16, V1 17])), (h2, .inl (kc2, 40, .inl c2)), (h3, .inl (kc3, 40, .inl c3)), (h4, .inl (kc4, 40, .inl c4)), (h5, .inl (kc5, 6, .inl c5))]) rfl rfl (by decide) (by decide) (by decide) rfl (ci := 0) (q0 := 0) rfl rfl rfl rfl hl.1 rfl (Nat.le_of_ble_eq_true rfl) dX0_lowerByCall_47 ⟨Nat.zero_le _, Nat.zero_le _⟩ (fun r28 u28 H locs hw28 hP hD hS => ?_)
    obtain ⟨hw281, hw282⟩ := hw28
    subst hw281 hw282
    have hP : va_P (dC, dI) vwCl (wX0_lowerByCall h0 h1 h2 h3 h4 h5 h6 kc2 kc3 kc4 kc5 kc6 V0 V1 c2 c3 c4 c5 o28.2) H := hP.sub [5, 0, 1, 2, 3, 4, 6] rfl
    have hD : va_D A (wX0_lowerByCall h0 h1 h2 h3 h4 h5 h6 kc2 kc3 kc4 kc5 kc6 V0 V1 c2 c3 c4 c5 o28.2) := hD.sub [5, 0, 1, 2, 3, 4, 6] (by decide) rfl
    have b29 := bd_b hf
    replace hf := bd_k hf
    have hf1 := Option.some.inj hf
    subst hf1
    have hP9 := hP.sub (ws' := (wX0_lowerByCall h0 h1 h2 h3 h4 h5 h6 kc2 kc3 kc4 kc5 kc6 V0 V1 c2 c3 c4 c5 o28.2)) [0, 1, 2, 3, 4, 5, 6] rfl
    have hD9 := hD.sub (ws' := (wX0_lowerByCall h0 h1 h2 h3 h4 h5 h6 kc2 kc3 kc4 kc5 kc6 V0 V1 c2 c3 c4 c5 o28.2)) [0, 1, 2, 3, 4, 5, 6] (by decide) rfl
    exact W.zret (v := o28.1) (ty := .boolean) hx hb hr (bz_nar b29) (fun t ht hW => ⟨⟨o28.1, o28.2, rfl, ⟨rfl, rfl⟩, by rw [ht]; exact hP9, va_K.moved hW.alike hK, hD9⟩, hS.F ht⟩) hS.2.2 dX0_lowerByCall_50
abbrev wX0_lowerByStep (h0 h1 h2 h3 h4 h5 h6 h7 : Nat) (kc2 kc3 kc4 kc5 kc6 kc7 : ClassId) (V0 : Nat → Value) (V1 : Nat → Value) (c2 : Nat → Int64) (c3 : Nat → Int32) (c4 : Nat → Int32) (c5 : Nat → Int32) (c6 : Nat → Int32) (c7 : Nat → Int32) : va_W := [(h0, .inr (0, [.ref h7, .ref h1, V0 2, V0 3, V0 4, V0 5, V0 6])), (h1, .inr (3, [V1 0, V1 1, V1 2, V1 3, V1 4, .ref h3, V1 6, V1 7, .ref h2, .ref h4, V1 10, .ref h5, .ref h6, V1 13, V1 14, V1 15, V1 16, V1 17])), (h2, .inl (kc2, 40, .inr (.inl c2))), (h3, .inl (kc3, 40, .inl c3)), (h4, .inl (kc4, 40, .inl c4)), (h5, .inl (kc5, 40, .inl c5)), (h6, .inl (kc6, 40, .inl c6)), (h7, .inl (kc7, 11520, .inl c7))]
set_option maxHeartbeats 4000000 in
set_option maxRecDepth 100000 in
theorem mX0_lowerByStep (l : Launch) (dC : Nat → ClassId) (dI : Nat → Nat → Nat) (h0 h1 h2 h3 h4 h5 h6 h7 : Nat) (kc2 kc3 kc4 kc5 kc6 kc7 : ClassId) (sz : Nat) (base : Nat × Nat × Nat) (a0 : Int32) (a1 : Int32) (c2 : Nat → Int64) (c3 : Nat → Int32) (c4 : Nat → Int32) (c5 : Nat → Int32) (c6 : Nat → Int32) (c7 : Nat → Int32) (V0 : Nat → Value) (V1 : Nat → Value) (o : Int32 × (Nat → Int32)) (hf : fX0_lowerByStep a0 a1 c2 c3 c4 c5 c6 c7 = some o) : Met l yX0_lowerByStep (.code yX0_lowerByStep cX0_lowerByStep 6 (some .boolean) :: wsL_law) ({ frames := 3, cells := 0, slots := 0, locals := 71 }) (cPre (dC, dI) vwCl [.ref h0, .int a0, .int a1] sz base (wX0_lowerByStep h0 h1 h2 h3 h4 h5 h6 h7 kc2 kc3 kc4 kc5 kc6 kc7 V0 V1 c2 c3 c4 c5 c6 c7) [(kc2, .long), (kc3, .int), (kc4, .int), (kc5, .int), (kc6, .int), (kc7, .int)]) (va_Qi (fun r u => r = o.1 ∧ u = o.2) (fun (u : (Nat → Int32)) t => cPost (dC, dI) vwCl (va_A (wX0_lowerByStep h0 h1 h2 h3 h4 h5 h6 h7 kc2 kc3 kc4 kc5 kc6 kc7 V0 V1 c2 c3 c4 c5 c6 c7) sz) (wX0_lowerByStep h0 h1 h2 h3 h4 h5 h6 h7 kc2 kc3 kc4 kc5 kc6 kc7 V0 V1 c2 c3 c4 c5 c6 u) [(kc2, .long), (kc3, .int), (kc4, .int), (kc5, .int), (kc6, .int), (kc7, .int)] t) (va_A (wX0_lowerByStep h0 h1 h2 h3 h4 h5 h6 h7 kc2 kc3 kc4 kc5 kc6 kc7 V0 V1 c2 c3 c4 c5 c6 c7) sz)) 0 0 (va_A (wX0_lowerByStep h0 h1 h2 h3 h4 h5 h6 h7 kc2 kc3 kc4 kc5 kc6 kc7 V0 V1 c2 c3 c4 c5 c6 c7) sz) := by
  refine Met.ofW (cc := cX0_lowerByStep) (maxL := 6) (ret := (some .boolean)) (by decide) rfl ?_
  intro p e s m args below meth c s₁ B hml hv
  obtain ⟨rfl, hsz, hP, hK, hD0, hE⟩ := hv
  have hx := B.exec
  have hb := B.bytes
  have hr := B.returns
  have hts : ∀ w ∈ wsL_law, _ := fun w h => atoms_spec (ws := .code yX0_lowerByStep cX0_lowerByStep 6 (some .boolean) :: wsL_law) B.pre w (List.mem_cons_of_mem _ h)
  have hown : s.vm.findClass RX0 = some m.cls := findClass_of_methodNamed B.named
  have hlocks := B.notSynchronized
  have w0_ := hts _ q960
  subst hsz
  have hD := hD0.self (sz := s.heap.size)
  generalize hAe : va_A (wX0_lowerByStep h0 h1 h2 h3 h4 h5 h6 h7 kc2 kc3 kc4 kc5 kc6 kc7 V0 V1 c2 c3 c4 c5 c6 c7) s.heap.size = A at hD ⊢
  have hA : ∀ q : Nat, s.heap.size ≤ q → A q := fun q h => by rw [← hAe]; exact Or.inr h
  have hAB : ∀ q : Nat, A q → base.1 ≤ q := fun q h => by rw [← hAe] at h; exact h.elim (fun ⟨k, e, hk⟩ => hD0.2 k _ hk) (fun hk => Nat.le_trans hE.1 hk)
  have hS : va_S A s.heap s.heap [] := va_S.rf
  have hl := lv_entry ([.ref h0, .int a0, .int a1]) (n := 6) (Nat.le_of_ble_eq_true rfl)
  rw [lg_entry_eq]
  generalize (lg_sl ([.ref h0, .int a0, .int a1]) ++ List.replicate (6 - (lg_sl ([.ref h0, .int a0, .int a1])).length) Slot.unset).toArray = ls at hl ⊢
  have hl : lv_has ls 6 [(0, .ref h0), (1, .int a0), (2, .int a1)] := hl
  have hP : va_P (dC, dI) vwCl (wX0_lowerByStep h0 h1 h2 h3 h4 h5 h6 h7 kc2 kc3 kc4 kc5 kc6 kc7 V0 V1 c2 c3 c4 c5 c6 c7) s.heap := hP
  refine gl_intro (fun G hG => ?_)
  have J66 : ∀ (k5 : Int32 → Int32 → Int32 → Int32 → (Nat → Int32) → Option (Int32 × (Nat → Int32))) (hk5 : ∀ (y1 : Int32) (y2 : Int32) (y3 : Int32) (y4 : Int32) (c7 : (Nat → Int32)) (H : Heap) (locs : List Loc) (ls : Array Slot), va_P (dC, dI) vwCl (wX0_lowerByStep h0 h1 h2 h3 h4 h5 h6 h7 kc2 kc3 kc4 kc5 kc6 kc7 V0 V1 c2 c3 c4 c5 c6 c7) H → va_D A (wX0_lowerByStep h0 h1 h2 h3 h4 h5 h6 h7 kc2 kc3 kc4 kc5 kc6 kc7 V0 V1 c2 c3 c4 c5 c6 c7) → va_S A s.heap H locs → lv_has ls 6 [(0, .ref h0), (1, .int y1), (2, .int y2), (3, .int y3), (4, .int y4)] → k5 y1 y2 y3 y4 c7 = some o → G 0 0 H locs (F0 m 5 ls [])), ∀ (y1 : Int32) (y2 : Int32) (y3 : Int32) (y4 : Int32) (c7 : (Nat → Int32)) (H : Heap) (locs : List Loc) (ls : Array Slot), va_P (dC, dI) vwCl (wX0_lowerByStep h0 h1 h2 h3 h4 h5 h6 h7 kc2 kc3 kc4 kc5 kc6 kc7 V0 V1 c2 c3 c4 c5 c6 c7) H → va_D A (wX0_lowerByStep h0 h1 h2 h3 h4 h5 h6 h7 kc2 kc3 kc4 kc5 kc6 kc7 V0 V1 c2 c3 c4 c5 c6 c7) → va_S A s.heap H locs → lv_has ls 6 [(0, .ref h0), (1, .int y1), (2, .int y2), (3, .int y3), (4, .int y4)] → fX0_lowerByStep_p66 c2 c3 c4 c5 c6 k5 y1 y2 y3 y4 c7 = some o → G 0 0 H locs (F0 m 66 ls []) := by
    intro k5 hk5 y1 y2 y3 y4 c7 H locs ls hP hD hS hl hf
    refine (hG _ _ _ _ _).mpr ?_
    unfold fX0_lowerByStep_p66 at hf
    obtain ⟨x1, e1⟩ : ∃ y : Int32, y = y4 + 1 := ⟨_, rfl⟩
    replace hf := nm_at hf e1
    refine lv_iinc (v := x1) (lv' := [(4, .int x1), (0, .ref h0), (1, .int y1), (2, .int y2), (3, .int y3)]) hx hb dX0_lowerByStep_66 hl (k := 4) rfl (by rw [e1]; rfl) (by decide) rfl (fun ls hl => ?_)
    refine lv_goto (tgt := 5) hx hb dX0_lowerByStep_69 (by decide) ?_
    exact (hG _ _ _ _ _).mp (hk5 y1 y2 y3 x1 c7 H locs ls (hP.sub [0, 1, 2, 3, 4, 5, 6, 7] rfl) (hD.sub [0, 1, 2, 3, 4, 5, 6, 7] (by decide) rfl) hS (lv_sub hl [1, 2, 3, 4, 0] rfl) hf)
  have B5 : ∀ (k5 : Int32 → Int32 → Int32 → Int32 → (Nat → Int32) → Option (Int32 × (Nat → Int32))) (hk5 : ∀ (y1 : Int32) (y2 : Int32) (y3 : Int32) (y4 : Int32) (c7 : (Nat → Int32)) (H : Heap) (locs : List Loc) (ls : Array Slot), va_P (dC, dI) vwCl (wX0_lowerByStep h0 h1 h2 h3 h4 h5 h6 h7 kc2 kc3 kc4 kc5 kc6 kc7 V0 V1 c2 c3 c4 c5 c6 c7) H → va_D A (wX0_lowerByStep h0 h1 h2 h3 h4 h5 h6 h7 kc2 kc3 kc4 kc5 kc6 kc7 V0 V1 c2 c3 c4 c5 c6 c7) → va_S A s.heap H locs → lv_has ls 6 [(0, .ref h0), (1, .int y1), (2, .int y2), (3, .int y3), (4, .int y4)] → k5 y1 y2 y3 y4 c7 = some o → G 0 0 H locs (F0 m 5 ls [])), ∀ (y1 : Int32) (y2 : Int32) (y3 : Int32) (y4 : Int32) (c7 : (Nat → Int32)) (H : Heap) (locs : List Loc) (ls : Array Slot), va_P (dC, dI) vwCl (wX0_lowerByStep h0 h1 h2 h3 h4 h5 h6 h7 kc2 kc3 kc4 kc5 kc6 kc7 V0 V1 c2 c3 c4 c5 c6 c7) H → va_D A (wX0_lowerByStep h0 h1 h2 h3 h4 h5 h6 h7 kc2 kc3 kc4 kc5 kc6 kc7 V0 V1 c2 c3 c4 c5 c6 c7) → va_S A s.heap H locs → lv_has ls 6 [(0, .ref h0), (1, .int y1), (2, .int y2), (3, .int y3), (4, .int y4)] → fX0_lowerByStep_b5 c2 c3 c4 c5 c6  k5 y1 y2 y3 y4 c7 = some o → G 0 0 H locs (F0 m 5 ls []) := by
    intro  k5 hk5 y1 y2 y3 y4 c7 H locs ls hP hD hS hl hf
    refine (hG _ _ _ _ _).mpr ?_
    unfold fX0_lowerByStep_b5 at hf
    refine lv_iload hx hb dX0_lowerByStep_5 (lv_at hl 4 rfl) ?_
    refine lv_iconst (v := 1) hx hb dX0_lowerByStep_7 (by decide +kernel) ?_
    refine lv_icmp_gt (tgt := 72) hx hb dX0_lowerByStep_8 (by decide) (fun cq2 => ?_) (fun cq2 => ?_)
    · replace hf := if_at hf cq2
      refine lv_iload_n hx hb dX0_lowerByStep_72 rfl (lv_at hl 3 rfl) ?_
      have b3 := bd_b hf
      replace hf := bd_k hf
      have hf1 := Option.some.inj hf
      subst hf1
      have hP9 := hP.sub (ws' := (wX0_lowerByStep h0 h1 h2 h3 h4 h5 h6 h7 kc2 kc3 kc4 kc5 kc6 kc7 V0 V1 c2 c3 c4 c5 c6 c7)) [0, 1, 2, 3, 4, 5, 6, 7] rfl
      have hD9 := hD.sub (ws' := (wX0_lowerByStep h0 h1 h2 h3 h4 h5 h6 h7 kc2 kc3 kc4 kc5 kc6 kc7 V0 V1 c2 c3 c4 c5 c6 c7)) [0, 1, 2, 3, 4, 5, 6, 7] (by decide) rfl
      exact W.zret (v := y3) (ty := .boolean) hx hb hr (bz_nar b3) (fun t ht hW => ⟨⟨y3, c7, rfl, ⟨rfl, rfl⟩, by rw [ht]; exact hP9, va_K.moved hW.alike hK, hD9⟩, hS.F ht⟩) hS.2.2 dX0_lowerByStep_73
    · replace hf := if_no hf cq2
      refine lv_aload_n hx hb dX0_lowerByStep_11 rfl (lv_at hl 0 rfl) ?_
      refine va_get (D := (dC, dI)) (ci := 0) (v := .ref h1) (C := RX0) (T := TX0) (N := 7) hx hb hts inlX0 hown hK hP 0 rfl rfl 1 (by decide) w0_ (fun _ h9 => h9) rfl dX0_lowerByStep_12 ?_
      refine lv_iload_n hx hb dX0_lowerByStep_15 rfl (lv_at hl 1 rfl) ?_
      refine lv_iload hx hb dX0_lowerByStep_16 (lv_at hl 4 rfl) ?_
      obtain ⟨o4, e4, hf⟩ := ob_some hf
      refine kVi (As := [.int y1, .int y4]) (rest := []) ⟨hx, hb, hml, hown, hts⟩ (mX3_settingsFor l dC dI h1 h2 kc2 H.size base y1 y4 c2 (fun k => match k with | 5 => .ref h3 | 9 => .ref h4 | 11 => .ref h5 | 12 => .ref h6 | k => V1 k) o4 e4) (cwV 2 hts (gTV q1001 q1002 q1003 q23 q1004) rfl rfl rfl (by decide +kernel) ⟨Nat.le_of_ble_eq_true rfl, Nat.le_of_ble_eq_true rfl⟩) hK hP hD hS hA hE hAB [1, 2] [0, 3, 4, 5, 6, 7] [0] (wr := [(h0, .inr (0, [.ref h7, .ref h1, V0 2, V0 3, V0 4, V0 5, V0 6])), (h3, .inl (kc3, 40, .inl c3)), (h4, .inl (kc4, 40, .inl c4)), (h5, .inl (kc5, 40, .inl c5)), (h6, .inl (kc6, 40, .inl c6)), (h7, .inl (kc7, 11520, .inl c7))]) rfl rfl (by decide) (by decide) (by decide) rfl (ci := 3) (q0 := 0) rfl rfl rfl rfl hl.1 rfl (Nat.le_of_ble_eq_true rfl) dX0_lowerByStep_18 ⟨Nat.zero_le _, Nat.zero_le _⟩ (fun r4 u4 H locs hw4 hP hD hS => ?_)
      obtain ⟨hw41, hw42⟩ := hw4
      subst hw41 hw42
      have hP : va_P (dC, dI) vwCl (wX0_lowerByStep h0 h1 h2 h3 h4 h5 h6 h7 kc2 kc3 kc4 kc5 kc6 kc7 V0 V1 c2 c3 c4 c5 c6 c7) H := hP.sub [0, 6, 7, 1, 2, 3, 4, 5] rfl
      have hD : va_D A (wX0_lowerByStep h0 h1 h2 h3 h4 h5 h6 h7 kc2 kc3 kc4 kc5 kc6 kc7 V0 V1 c2 c3 c4 c5 c6 c7) := hD.sub [0, 6, 7, 1, 2, 3, 4, 5] (by decide) rfl
      refine lv_iload_n hx hb dX0_lowerByStep_21 rfl (lv_at hl 2 rfl) ?_
      refine lv_iushr hx hb dX0_lowerByStep_22 rfl ?_
      refine lv_topi (fun x5 e5 => ?_)
      replace hf := nm_at hf e5
      refine lv_iconst (v := 1) hx hb dX0_lowerByStep_23 (by decide +kernel) ?_
      refine lv_iand hx hb dX0_lowerByStep_24 ?_
      refine lv_topi (fun x6 e6 => ?_)
      replace hf := nm_at hf e6
      refine lv_if_eq (tgt := 66) hx hb dX0_lowerByStep_25 (by decide) (fun cq7 => ?_) (fun cq7 => ?_)
      · replace hf := if_at hf cq7
        exact (hG _ _ _ _ _).mp (J66 k5 hk5 y1 y2 y3 y4 c7 H locs ls (hP.sub [0, 1, 2, 3, 4, 5, 6, 7] rfl) (hD.sub [0, 1, 2, 3, 4, 5, 6, 7] (by decide) rfl) hS (lv_sub hl [0, 1, 2, 3, 4] rfl) hf)
      · replace hf := if_no hf cq7
        refine lv_aload_n hx hb dX0_lowerByStep_28 rfl (lv_at hl 0 rfl) ?_
        refine va_get (D := (dC, dI)) (ci := 0) (v := .ref h1) (C := RX0) (T := TX0) (N := 7) hx hb hts inlX0 hown hK hP 0 rfl rfl 1 (by decide) w0_ (fun _ h9 => h9) rfl dX0_lowerByStep_29 ?_
        refine lv_iload_n hx hb dX0_lowerByStep_32 rfl (lv_at hl 1 rfl) ?_
        refine lv_iload_n hx hb dX0_lowerByStep_33 rfl (lv_at hl 2 rfl) ?_
        refine lv_iload hx hb dX0_lowerByStep_34 (lv_at hl 4 rfl) ?_
        obtain ⟨o8, e8, hf⟩ := ob_some hf
        refine kVi (As := [.int y1, .int y2, .int y4]) (rest := []) ⟨hx, hb, hml, hown, hts⟩ (mX3_settingAfter l dC dI h1 h3 h4 kc3 kc4 H.size base y1 y2 y4 c3 c4 (fun k => match k with | 8 => .ref h2 | 11 => .ref h5 | 12 => .ref h6 | k => V1 k) o8 e8) (cwV 3 hts (gTV q1005 q1006 q1007 q23 q1008) rfl rfl rfl (by decide +kernel) ⟨Nat.le_of_ble_eq_true rfl, Nat.le_of_ble_eq_true rfl⟩) hK hP hD hS hA hE hAB [1, 3, 4] [0, 2, 5, 6, 7] [1, 2] (wr := [(h0, .inr (0, [.ref h7, .ref h1, V0 2, V0 3, V0 4, V0 5, V0 6])), (h2, .inl (kc2, 40, .inr (.inl c2))), (h5, .inl (kc5, 40, .inl c5)), (h6, .inl (kc6, 40, .inl c6)), (h7, .inl (kc7, 11520, .inl c7))]) rfl rfl (by decide) (by decide) (by decide) rfl (ci := 3) (q0 := 0) rfl rfl rfl rfl hl.1 rfl (Nat.le_of_ble_eq_true rfl) dX0_lowerByStep_36 ⟨Nat.zero_le _, Nat.zero_le _⟩ (fun r8 u8 H locs hw8 hP hD hS => ?_)
        obtain ⟨hw81, hw82⟩ := hw8
        subst hw81 hw82
        have hP : va_P (dC, dI) vwCl (wX0_lowerByStep h0 h1 h2 h3 h4 h5 h6 h7 kc2 kc3 kc4 kc5 kc6 kc7 V0 V1 c2 c3 c4 c5 c6 c7) H := hP.sub [0, 5, 1, 6, 7, 2, 3, 4] rfl
        have hD : va_D A (wX0_lowerByStep h0 h1 h2 h3 h4 h5 h6 h7 kc2 kc3 kc4 kc5 kc6 kc7 V0 V1 c2 c3 c4 c5 c6 c7) := hD.sub [0, 5, 1, 6, 7, 2, 3, 4] (by decide) rfl
        refine lv_istore (lv' := [(5, .int o8.1), (0, .ref h0), (1, .int y1), (2, .int y2), (3, .int y3), (4, .int y4)]) hx hb dX0_lowerByStep_39 hl (by decide) rfl (fun ls hl => ?_)
        refine lv_iload_n hx hb dX0_lowerByStep_41 rfl (lv_at hl 4 rfl) ?_
        refine lv_aload_n hx hb dX0_lowerByStep_42 rfl (lv_at hl 1 rfl) ?_
        refine lv_iload_n hx hb dX0_lowerByStep_43 rfl (lv_at hl 2 rfl) ?_
        refine lv_iload_n hx hb dX0_lowerByStep_44 rfl (lv_at hl 3 rfl) ?_
        obtain ⟨o9, e9, hf⟩ := ob_some hf
        refine kSi (As := [.int y1, .int y2]) (rest := [.ref h0, .int y3]) ⟨hx, hb, hml, hown, hts⟩ (mX0_row l dC dI H.size base y1 y2 o9 e9) (va_cwS 2 hts (gTS q1009 q1010 q946 q1011) rfl rfl rfl (by decide +kernel) ⟨Nat.le_of_ble_eq_true rfl, Nat.le_of_ble_eq_true rfl⟩) hK hP hD hS hA hE hAB [] [0, 1, 2, 3, 4, 5, 6, 7] [] (wr := (wX0_lowerByStep h0 h1 h2 h3 h4 h5 h6 h7 kc2 kc3 kc4 kc5 kc6 kc7 V0 V1 c2 c3 c4 c5 c6 c7)) rfl rfl (by decide) (by decide) (by decide) rfl rfl hl.1 rfl (Nat.le_of_ble_eq_true rfl) dX0_lowerByStep_45 ⟨Nat.zero_le _, Nat.zero_le _⟩ (fun r9 u9 H locs hw9 hP hD hS => ?_)
        obtain ⟨hw91, hw92⟩ := hw9
        subst hw91 hw92
        have hP : va_P (dC, dI) vwCl (wX0_lowerByStep h0 h1 h2 h3 h4 h5 h6 h7 kc2 kc3 kc4 kc5 kc6 kc7 V0 V1 c2 c3 c4 c5 c6 c7) H := hP.sub [0, 1, 2, 3, 4, 5, 6, 7] rfl
        have hD : va_D A (wX0_lowerByStep h0 h1 h2 h3 h4 h5 h6 h7 kc2 kc3 kc4 kc5 kc6 kc7 V0 V1 c2 c3 c4 c5 c6 c7) := hD.sub [0, 1, 2, 3, 4, 5, 6, 7] (by decide) rfl
        refine lv_aload_n hx hb dX0_lowerByStep_48 rfl (lv_at hl 1 rfl) ?_
        refine va_get (D := (dC, dI)) (ci := 0) (v := .ref h1) (C := RX0) (T := TX0) (N := 7) hx hb hts inlX0 hown hK hP 0 rfl rfl 1 (by decide) w0_ (fun _ h9 => h9) rfl dX0_lowerByStep_49 ?_
        refine lv_iload_n hx hb dX0_lowerByStep_52 rfl (lv_at hl 2 rfl) ?_
        refine lv_iload hx hb dX0_lowerByStep_53 (lv_at hl 5 rfl) ?_
        obtain ⟨o10, e10, hf⟩ := ob_some hf
        refine kVi (As := [.int y1, .int y4]) (rest := [.int o9.1, .ref h0, .int y3]) ⟨hx, hb, hml, hown, hts⟩ (mX3_pointAfter l dC dI h1 h5 h6 kc5 kc6 H.size base y1 y4 c5 c6 (fun k => match k with | 5 => .ref h3 | 8 => .ref h2 | 9 => .ref h4 | k => V1 k) o10 e10) (cwV 2 hts (gTV q986 q987 q988 q23 q989) rfl rfl rfl (by decide +kernel) ⟨Nat.le_of_ble_eq_true rfl, Nat.le_of_ble_eq_true rfl⟩) hK hP hD hS hA hE hAB [1, 5, 6] [0, 2, 3, 4, 7] [3, 4] (wr := [(h0, .inr (0, [.ref h7, .ref h1, V0 2, V0 3, V0 4, V0 5, V0 6])), (h2, .inl (kc2, 40, .inr (.inl c2))), (h3, .inl (kc3, 40, .inl c3)), (h4, .inl (kc4, 40, .inl c4)), (h7, .inl (kc7, 11520, .inl c7))]) rfl rfl (by decide) (by decide) (by decide) rfl (ci := 3) (q0 := 0) rfl rfl rfl rfl hl.1 rfl (Nat.le_of_ble_eq_true rfl) dX0_lowerByStep_55 ⟨Nat.zero_le _, Nat.zero_le _⟩ (fun r10 u10 H locs hw10 hP hD hS => ?_)
        obtain ⟨hw101, hw102⟩ := hw10
        subst hw101 hw102
        have hP : va_P (dC, dI) vwCl (wX0_lowerByStep h0 h1 h2 h3 h4 h5 h6 h7 kc2 kc3 kc4 kc5 kc6 kc7 V0 V1 c2 c3 c4 c5 c6 c7) H := hP.sub [0, 5, 1, 2, 3, 6, 7, 4] rfl
        have hD : va_D A (wX0_lowerByStep h0 h1 h2 h3 h4 h5 h6 h7 kc2 kc3 kc4 kc5 kc6 kc7 V0 V1 c2 c3 c4 c5 c6 c7) := hD.sub [0, 5, 1, 2, 3, 6, 7, 4] (by decide) rfl
        refine lv_iload hx hb dX0_lowerByStep_58 (lv_at hl 0 rfl) ?_
        refine lv_iconst (v := 1) hx hb dX0_lowerByStep_60 (by decide +kernel) ?_
        obtain ⟨o11, e11, hf⟩ := ob_some hf
        refine kVi (As := [.int o9.1, .int o10.1, .int o8.1, .int 1]) (rest := [.int y3]) ⟨hx, hb, hml, hown, hts⟩ (mX0_lowerRow l dC dI h0 h7 kc7 H.size base o9.1 o10.1 o8.1 1 c7 (fun k => match k with | 1 => .ref h1 | k => V0 k) o11 e11) (cwV 4 hts (gTV q1030 q1031 q1032 q946 q1033) rfl rfl rfl (by decide +kernel) ⟨Nat.le_of_ble_eq_true rfl, Nat.le_of_ble_eq_true rfl⟩) hK hP hD hS hA hE hAB [0, 7] [1, 2, 3, 4, 5, 6] [5] (wr := [(h1, .inr (3, [V1 0, V1 1, V1 2, V1 3, V1 4, .ref h3, V1 6, V1 7, .ref h2, .ref h4, V1 10, .ref h5, .ref h6, V1 13, V1 14, V1 15, V1 16, V1 17])), (h2, .inl (kc2, 40, .inr (.inl c2))), (h3, .inl (kc3, 40, .inl c3)), (h4, .inl (kc4, 40, .inl c4)), (h5, .inl (kc5, 40, .inl c5)), (h6, .inl (kc6, 40, .inl c6))]) rfl rfl (by decide) (by decide) (by decide) rfl (ci := 0) (q0 := 0) rfl rfl rfl rfl hl.1 rfl (Nat.le_of_ble_eq_true rfl) dX0_lowerByStep_61 ⟨Nat.zero_le _, Nat.zero_le _⟩ (fun r11 u11 H locs hw11 hP hD hS => ?_)
        obtain ⟨hw111, hw112⟩ := hw11
        subst hw111 hw112
        have hP : va_P (dC, dI) vwCl (wX0_lowerByStep h0 h1 h2 h3 h4 h5 h6 h7 kc2 kc3 kc4 kc5 kc6 kc7 V0 V1 c2 c3 c4 c5 c6 o11.2) H := hP.sub [6, 0, 1, 2, 3, 4, 5, 7] rfl
        have hD : va_D A (wX0_lowerByStep h0 h1 h2 h3 h4 h5 h6 h7 kc2 kc3 kc4 kc5 kc6 kc7 V0 V1 c2 c3 c4 c5 c6 o11.2) := hD.sub [6, 0, 1, 2, 3, 4, 5, 7] (by decide) rfl
        refine lv_ior hx hb dX0_lowerByStep_64 ?_
        refine lv_topi (fun x12 e12 => ?_)
        replace hf := nm_at hf e12
        refine lv_istore_n (lv' := [(3, .int x12), (5, .int o8.1), (0, .ref h0), (1, .int y1), (2, .int y2), (4, .int y4)]) hx hb dX0_lowerByStep_65 rfl hl (by decide) rfl (fun ls hl => ?_)
        exact (hG _ _ _ _ _).mp (J66 k5 hk5 y1 y2 x12 y4 o11.2 H locs ls (hP.sub [0, 1, 2, 3, 4, 5, 6, 7] rfl) (hD.sub [0, 1, 2, 3, 4, 5, 6, 7] (by decide) rfl) hS (lv_sub hl [2, 3, 4, 0, 5] rfl) hf)
  have L5 : ∀ (n : Nat), ∀ (y1 : Int32) (y2 : Int32) (y3 : Int32) (y4 : Int32) (c7 : (Nat → Int32)) (H : Heap) (locs : List Loc) (ls : Array Slot), va_P (dC, dI) vwCl (wX0_lowerByStep h0 h1 h2 h3 h4 h5 h6 h7 kc2 kc3 kc4 kc5 kc6 kc7 V0 V1 c2 c3 c4 c5 c6 c7) H → va_D A (wX0_lowerByStep h0 h1 h2 h3 h4 h5 h6 h7 kc2 kc3 kc4 kc5 kc6 kc7 V0 V1 c2 c3 c4 c5 c6 c7) → va_S A s.heap H locs → lv_has ls 6 [(0, .ref h0), (1, .int y1), (2, .int y2), (3, .int y3), (4, .int y4)] → fX0_lowerByStep_l5 c2 c3 c4 c5 c6  n y1 y2 y3 y4 c7 = some o → G 0 0 H locs (F0 m 5 ls []) := by
    intro  n
    induction n with
    | zero => intro y1 y2 y3 y4 c7 H locs ls _ _ _ _ hf; cases hf
    | succ n ih => exact B5  _ ih
  refine (hG _ _ _ _ _).mpr ?_
  obtain ⟨H, hH⟩ : ∃ H, H = s.heap := ⟨_, rfl⟩
  have hS : va_S A s.heap H [] := by rw [hH]; exact hS
  rw [← hH] at hP ⊢
  generalize ([] : List Loc) = locs at hS ⊢
  unfold fX0_lowerByStep at hf
  refine lv_iconst (v := 0) hx hb dX0_lowerByStep_0 (by decide +kernel) ?_
  refine lv_istore_n (lv' := [(3, .int 0), (0, .ref h0), (1, .int a0), (2, .int a1)]) hx hb dX0_lowerByStep_1 rfl hl (by decide) rfl (fun ls hl => ?_)
  refine lv_iconst (v := 0) hx hb dX0_lowerByStep_2 (by decide +kernel) ?_
  refine lv_istore (lv' := [(4, .int 0), (3, .int 0), (0, .ref h0), (1, .int a0), (2, .int a1)]) hx hb dX0_lowerByStep_3 hl (by decide) rfl (fun ls hl => ?_)
  exact (hG _ _ _ _ _).mp (L5 FU a0 a1 0 0 c7 H locs ls (hP.sub [0, 1, 2, 3, 4, 5, 6, 7] rfl) (hD.sub [0, 1, 2, 3, 4, 5, 6, 7] (by decide) rfl) hS (lv_sub hl [2, 3, 4, 1, 0] rfl) hf)
abbrev wX0_lookAt (h0 h1 h2 h3 h4 h5 h6 h7 h8 h9 h10 h11 h12 : Nat) (kc1 kc3 kc4 kc5 kc6 kc7 kc8 kc9 kc10 kc11 kc12 : ClassId) (V0 : Nat → Value) (V2 : Nat → Value) (v0_looks : Int32) (c1 : Nat → Int32) (c3 : Nat → Int32) (c4 : Nat → Int32) (c5 : Nat → Int32) (c6 : Nat → Int32) (c7 : Nat → Int32) (c8 : Nat → Int32) (c9 : Nat → Int32) (c10 : Nat → Int64) (c11 : Nat → Int32) (c12 : Nat → Int32) : va_W := [(h0, .inr (0, [.ref h9, .ref h2, .ref h4, V0 3, .ref h12, .ref h1, .int v0_looks])), (h1, .inl (kc1, 40, .inl c1)), (h2, .inr (3, [V2 0, V2 1, V2 2, V2 3, .ref h8, .ref h3, V2 6, V2 7, .ref h10, .ref h11, .ref h7, .ref h5, .ref h6, V2 13, V2 14, V2 15, V2 16, V2 17])), (h3, .inl (kc3, 40, .inl c3)), (h4, .inl (kc4, 40, .inl c4)), (h5, .inl (kc5, 40, .inl c5)), (h6, .inl (kc6, 40, .inl c6)), (h7, .inl (kc7, 40, .inl c7)), (h8, .inl (kc8, 6, .inl c8)), (h9, .inl (kc9, 11520, .inl c9)), (h10, .inl (kc10, 40, .inr (.inl c10))), (h11, .inl (kc11, 40, .inl c11)), (h12, .inl (kc12, 40, .inl c12))]
set_option maxHeartbeats 4000000 in
set_option maxRecDepth 100000 in
theorem mX0_lookAt (l : Launch) (dC : Nat → ClassId) (dI : Nat → Nat → Nat) (h0 h1 h2 h3 h4 h5 h6 h7 h8 h9 h10 h11 h12 : Nat) (kc1 kc3 kc4 kc5 kc6 kc7 kc8 kc9 kc10 kc11 kc12 : ClassId) (sz : Nat) (base : Nat × Nat × Nat) (a0 : Int32) (v0_looks : Int32) (c1 : Nat → Int32) (c3 : Nat → Int32) (c4 : Nat → Int32) (c5 : Nat → Int32) (c6 : Nat → Int32) (c7 : Nat → Int32) (c8 : Nat → Int32) (c9 : Nat → Int32) (c10 : Nat → Int64) (c11 : Nat → Int32) (c12 : Nat → Int32) (V0 : Nat → Value) (V2 : Nat → Value) (o : Int32 × Int32 × (Nat → Int32) × (Nat → Int32) × (Nat → Int32)) (hf : fX0_lookAt a0 v0_looks c1 c3 c4 c5 c6 c7 c8 c9 c10 c11 c12 = some o) : Met l yX0_lookAt (.code yX0_lookAt cX0_lookAt 5 (some .boolean) :: wsL_law) ({ frames := 4, cells := 0, slots := 0, locals := 101 }) (cPre (dC, dI) vwCl [.ref h0, .int a0] sz base (wX0_lookAt h0 h1 h2 h3 h4 h5 h6 h7 h8 h9 h10 h11 h12 kc1 kc3 kc4 kc5 kc6 kc7 kc8 kc9 kc10 kc11 kc12 V0 V2 v0_looks c1 c3 c4 c5 c6 c7 c8 c9 c10 c11 c12) [(kc1, .int), (kc3, .int), (kc4, .int), (kc5, .int), (kc6, .int), (kc7, .int), (kc8, .int), (kc9, .int), (kc10, .long), (kc11, .int), (kc12, .int)]) (va_Qi (fun r u => r = o.1 ∧ u = o.2) (fun (u : Int32 × (Nat → Int32) × (Nat → Int32) × (Nat → Int32)) t => cPost (dC, dI) vwCl (va_A (wX0_lookAt h0 h1 h2 h3 h4 h5 h6 h7 h8 h9 h10 h11 h12 kc1 kc3 kc4 kc5 kc6 kc7 kc8 kc9 kc10 kc11 kc12 V0 V2 v0_looks c1 c3 c4 c5 c6 c7 c8 c9 c10 c11 c12) sz) (wX0_lookAt h0 h1 h2 h3 h4 h5 h6 h7 h8 h9 h10 h11 h12 kc1 kc3 kc4 kc5 kc6 kc7 kc8 kc9 kc10 kc11 kc12 V0 V2 u.1 u.2.1 c3 c4 c5 c6 c7 c8 u.2.2.1 c10 c11 u.2.2.2) [(kc1, .int), (kc3, .int), (kc4, .int), (kc5, .int), (kc6, .int), (kc7, .int), (kc8, .int), (kc9, .int), (kc10, .long), (kc11, .int), (kc12, .int)] t) (va_A (wX0_lookAt h0 h1 h2 h3 h4 h5 h6 h7 h8 h9 h10 h11 h12 kc1 kc3 kc4 kc5 kc6 kc7 kc8 kc9 kc10 kc11 kc12 V0 V2 v0_looks c1 c3 c4 c5 c6 c7 c8 c9 c10 c11 c12) sz)) 0 0 (va_A (wX0_lookAt h0 h1 h2 h3 h4 h5 h6 h7 h8 h9 h10 h11 h12 kc1 kc3 kc4 kc5 kc6 kc7 kc8 kc9 kc10 kc11 kc12 V0 V2 v0_looks c1 c3 c4 c5 c6 c7 c8 c9 c10 c11 c12) sz) := by
  refine Met.ofW (cc := cX0_lookAt) (maxL := 5) (ret := (some .boolean)) (by decide) rfl ?_
  intro p e s m args below meth c s₁ B hml hv
  obtain ⟨rfl, hsz, hP, hK, hD0, hE⟩ := hv
  have hx := B.exec
  have hb := B.bytes
  have hr := B.returns
  have hts : ∀ w ∈ wsL_law, _ := fun w h => atoms_spec (ws := .code yX0_lookAt cX0_lookAt 5 (some .boolean) :: wsL_law) B.pre w (List.mem_cons_of_mem _ h)
  have hown : s.vm.findClass RX0 = some m.cls := findClass_of_methodNamed B.named
  have hlocks := B.notSynchronized
  have w0_ := hts _ q958
  have w1_ := hts _ q967
  have w2_ := hts _ q956
  have w3_ := hts _ q959
  have w4_ := hts _ q960
  have w5_ := hts _ q973
  subst hsz
  have hD := hD0.self (sz := s.heap.size)
  generalize hAe : va_A (wX0_lookAt h0 h1 h2 h3 h4 h5 h6 h7 h8 h9 h10 h11 h12 kc1 kc3 kc4 kc5 kc6 kc7 kc8 kc9 kc10 kc11 kc12 V0 V2 v0_looks c1 c3 c4 c5 c6 c7 c8 c9 c10 c11 c12) s.heap.size = A at hD ⊢
  have hA : ∀ q : Nat, s.heap.size ≤ q → A q := fun q h => by rw [← hAe]; exact Or.inr h
  have hAB : ∀ q : Nat, A q → base.1 ≤ q := fun q h => by rw [← hAe] at h; exact h.elim (fun ⟨k, e, hk⟩ => hD0.2 k _ hk) (fun hk => Nat.le_trans hE.1 hk)
  have hS : va_S A s.heap s.heap [] := va_S.rf
  have hl := lv_entry ([.ref h0, .int a0]) (n := 5) (Nat.le_of_ble_eq_true rfl)
  rw [lg_entry_eq]
  generalize (lg_sl ([.ref h0, .int a0]) ++ List.replicate (5 - (lg_sl ([.ref h0, .int a0])).length) Slot.unset).toArray = ls at hl ⊢
  have hl : lv_has ls 5 [(0, .ref h0), (1, .int a0)] := hl
  have hP : va_P (dC, dI) vwCl (wX0_lookAt h0 h1 h2 h3 h4 h5 h6 h7 h8 h9 h10 h11 h12 kc1 kc3 kc4 kc5 kc6 kc7 kc8 kc9 kc10 kc11 kc12 V0 V2 v0_looks c1 c3 c4 c5 c6 c7 c8 c9 c10 c11 c12) s.heap := hP
  refine gl_intro (fun G hG => ?_)
  have J109 : ∀ (y3 : Int32) (v0_looks : Int32) (c1 : (Nat → Int32)) (c9 : (Nat → Int32)) (c12 : (Nat → Int32)) (H : Heap) (locs : List Loc) (ls : Array Slot), va_P (dC, dI) vwCl (wX0_lookAt h0 h1 h2 h3 h4 h5 h6 h7 h8 h9 h10 h11 h12 kc1 kc3 kc4 kc5 kc6 kc7 kc8 kc9 kc10 kc11 kc12 V0 V2 v0_looks c1 c3 c4 c5 c6 c7 c8 c9 c10 c11 c12) H → va_D A (wX0_lookAt h0 h1 h2 h3 h4 h5 h6 h7 h8 h9 h10 h11 h12 kc1 kc3 kc4 kc5 kc6 kc7 kc8 kc9 kc10 kc11 kc12 V0 V2 v0_looks c1 c3 c4 c5 c6 c7 c8 c9 c10 c11 c12) → va_S A s.heap H locs → lv_has ls 5 [(0, .ref h0), (3, .int y3)] → fX0_lookAt_p109 c3 c4 c5 c6 c7 c8 c10 c11  y3 v0_looks c1 c9 c12 = some o → G 0 0 H locs (F0 m 109 ls []) := by
    intro  y3 v0_looks c1 c9 c12 H locs ls hP hD hS hl hf
    refine (hG _ _ _ _ _).mpr ?_
    unfold fX0_lookAt_p109 at hf
    refine lv_iload_n hx hb dX0_lookAt_109 rfl (lv_at hl 1 rfl) ?_
    have b1 := bd_b hf
    replace hf := bd_k hf
    have hf1 := Option.some.inj hf
    subst hf1
    have hP9 := hP.sub (ws' := (wX0_lookAt h0 h1 h2 h3 h4 h5 h6 h7 h8 h9 h10 h11 h12 kc1 kc3 kc4 kc5 kc6 kc7 kc8 kc9 kc10 kc11 kc12 V0 V2 v0_looks c1 c3 c4 c5 c6 c7 c8 c9 c10 c11 c12)) [0, 1, 2, 3, 4, 5, 6, 7, 8, 9, 10, 11, 12] rfl
    have hD9 := hD.sub (ws' := (wX0_lookAt h0 h1 h2 h3 h4 h5 h6 h7 h8 h9 h10 h11 h12 kc1 kc3 kc4 kc5 kc6 kc7 kc8 kc9 kc10 kc11 kc12 V0 V2 v0_looks c1 c3 c4 c5 c6 c7 c8 c9 c10 c11 c12)) [0, 1, 2, 3, 4, 5, 6, 7, 8, 9, 10, 11, 12] (by decide) rfl
    exact W.zret (v := y3) (ty := .boolean) hx hb hr (bz_nar b1) (fun t ht hW => ⟨⟨y3, (v0_looks, c1, c9, c12), rfl, ⟨rfl, rfl⟩, by rw [ht]; exact hP9, va_K.moved hW.alike hK, hD9⟩, hS.F ht⟩) hS.2.2 dX0_lookAt_110
  have J89 : ∀ (k44 : Int32 → Int32 → Int32 → Int32 → Int32 → (Nat → Int32) → (Nat → Int32) → (Nat → Int32) → Option (Int32 × Int32 × (Nat → Int32) × (Nat → Int32) × (Nat → Int32))) (hk44 : ∀ (y1 : Int32) (y2 : Int32) (y3 : Int32) (y4 : Int32) (v0_looks : Int32) (c1 : (Nat → Int32)) (c9 : (Nat → Int32)) (c12 : (Nat → Int32)) (H : Heap) (locs : List Loc) (ls : Array Slot), va_P (dC, dI) vwCl (wX0_lookAt h0 h1 h2 h3 h4 h5 h6 h7 h8 h9 h10 h11 h12 kc1 kc3 kc4 kc5 kc6 kc7 kc8 kc9 kc10 kc11 kc12 V0 V2 v0_looks c1 c3 c4 c5 c6 c7 c8 c9 c10 c11 c12) H → va_D A (wX0_lookAt h0 h1 h2 h3 h4 h5 h6 h7 h8 h9 h10 h11 h12 kc1 kc3 kc4 kc5 kc6 kc7 kc8 kc9 kc10 kc11 kc12 V0 V2 v0_looks c1 c3 c4 c5 c6 c7 c8 c9 c10 c11 c12) → va_S A s.heap H locs → lv_has ls 5 [(0, .ref h0), (1, .int y1), (2, .int y2), (3, .int y3), (4, .int y4)] → k44 y1 y2 y3 y4 v0_looks c1 c9 c12 = some o → G 0 0 H locs (F0 m 44 ls [])), ∀ (y1 : Int32) (y2 : Int32) (y3 : Int32) (y4 : Int32) (v0_looks : Int32) (c1 : (Nat → Int32)) (c9 : (Nat → Int32)) (c12 : (Nat → Int32)) (H : Heap) (locs : List Loc) (ls : Array Slot), va_P (dC, dI) vwCl (wX0_lookAt h0 h1 h2 h3 h4 h5 h6 h7 h8 h9 h10 h11 h12 kc1 kc3 kc4 kc5 kc6 kc7 kc8 kc9 kc10 kc11 kc12 V0 V2 v0_looks c1 c3 c4 c5 c6 c7 c8 c9 c10 c11 c12) H → va_D A (wX0_lookAt h0 h1 h2 h3 h4 h5 h6 h7 h8 h9 h10 h11 h12 kc1 kc3 kc4 kc5 kc6 kc7 kc8 kc9 kc10 kc11 kc12 V0 V2 v0_looks c1 c3 c4 c5 c6 c7 c8 c9 c10 c11 c12) → va_S A s.heap H locs → lv_has ls 5 [(0, .ref h0), (1, .int y1), (2, .int y2), (3, .int y3), (4, .int y4)] → fX0_lookAt_p89 c3 c4 c5 c6 c7 c8 c10 c11 k44 y1 y2 y3 y4 v0_looks c1 c9 c12 = some o → G 0 0 H locs (F0 m 89 ls []) := by
    intro k44 hk44 y1 y2 y3 y4 v0_looks c1 c9 c12 H locs ls hP hD hS hl hf
    refine (hG _ _ _ _ _).mpr ?_
    unfold fX0_lookAt_p89 at hf
    obtain ⟨x2, e2⟩ : ∃ y : Int32, y = y4 + 1 := ⟨_, rfl⟩
    replace hf := nm_at hf e2
    refine lv_iinc (v := x2) (lv' := [(4, .int x2), (0, .ref h0), (1, .int y1), (2, .int y2), (3, .int y3)]) hx hb dX0_lookAt_89 hl (k := 4) rfl (by rw [e2]; rfl) (by decide) rfl (fun ls hl => ?_)
    refine lv_goto (tgt := 44) hx hb dX0_lookAt_92 (by decide) ?_
    exact (hG _ _ _ _ _).mp (hk44 y1 y2 y3 x2 v0_looks c1 c9 c12 H locs ls (hP.sub [0, 1, 2, 3, 4, 5, 6, 7, 8, 9, 10, 11, 12] rfl) (hD.sub [0, 1, 2, 3, 4, 5, 6, 7, 8, 9, 10, 11, 12] (by decide) rfl) hS (lv_sub hl [1, 2, 3, 4, 0] rfl) hf)
  have J87 : ∀ (k44 : Int32 → Int32 → Int32 → Int32 → Int32 → (Nat → Int32) → (Nat → Int32) → (Nat → Int32) → Option (Int32 × Int32 × (Nat → Int32) × (Nat → Int32) × (Nat → Int32))) (hk44 : ∀ (y1 : Int32) (y2 : Int32) (y3 : Int32) (y4 : Int32) (v0_looks : Int32) (c1 : (Nat → Int32)) (c9 : (Nat → Int32)) (c12 : (Nat → Int32)) (H : Heap) (locs : List Loc) (ls : Array Slot), va_P (dC, dI) vwCl (wX0_lookAt h0 h1 h2 h3 h4 h5 h6 h7 h8 h9 h10 h11 h12 kc1 kc3 kc4 kc5 kc6 kc7 kc8 kc9 kc10 kc11 kc12 V0 V2 v0_looks c1 c3 c4 c5 c6 c7 c8 c9 c10 c11 c12) H → va_D A (wX0_lookAt h0 h1 h2 h3 h4 h5 h6 h7 h8 h9 h10 h11 h12 kc1 kc3 kc4 kc5 kc6 kc7 kc8 kc9 kc10 kc11 kc12 V0 V2 v0_looks c1 c3 c4 c5 c6 c7 c8 c9 c10 c11 c12) → va_S A s.heap H locs → lv_has ls 5 [(0, .ref h0), (1, .int y1), (2, .int y2), (3, .int y3), (4, .int y4)] → k44 y1 y2 y3 y4 v0_looks c1 c9 c12 = some o → G 0 0 H locs (F0 m 44 ls [])), ∀ (y1 : Int32) (y2 : Int32) (y4 : Int32) (z0 : Int32) (z1 : Int32) (v0_looks : Int32) (c1 : (Nat → Int32)) (c9 : (Nat → Int32)) (c12 : (Nat → Int32)) (H : Heap) (locs : List Loc) (ls : Array Slot), va_P (dC, dI) vwCl (wX0_lookAt h0 h1 h2 h3 h4 h5 h6 h7 h8 h9 h10 h11 h12 kc1 kc3 kc4 kc5 kc6 kc7 kc8 kc9 kc10 kc11 kc12 V0 V2 v0_looks c1 c3 c4 c5 c6 c7 c8 c9 c10 c11 c12) H → va_D A (wX0_lookAt h0 h1 h2 h3 h4 h5 h6 h7 h8 h9 h10 h11 h12 kc1 kc3 kc4 kc5 kc6 kc7 kc8 kc9 kc10 kc11 kc12 V0 V2 v0_looks c1 c3 c4 c5 c6 c7 c8 c9 c10 c11 c12) → va_S A s.heap H locs → lv_has ls 5 [(0, .ref h0), (1, .int y1), (2, .int y2), (4, .int y4)] → fX0_lookAt_p87 c3 c4 c5 c6 c7 c8 c10 c11 k44 y1 y2 y4 z0 z1 v0_looks c1 c9 c12 = some o → G 0 0 H locs (F0 m 87 ls [.int z0, .int z1]) := by
    intro k44 hk44 y1 y2 y4 z0 z1 v0_looks c1 c9 c12 H locs ls hP hD hS hl hf
    refine (hG _ _ _ _ _).mpr ?_
    unfold fX0_lookAt_p87 at hf
    refine lv_ior hx hb dX0_lookAt_87 ?_
    refine lv_topi (fun x3 e3 => ?_)
    replace hf := nm_at hf e3
    refine lv_istore_n (lv' := [(3, .int x3), (0, .ref h0), (1, .int y1), (2, .int y2), (4, .int y4)]) hx hb dX0_lookAt_88 rfl hl (by decide) rfl (fun ls hl => ?_)
    exact (hG _ _ _ _ _).mp (J89 k44 hk44 y1 y2 x3 y4 v0_looks c1 c9 c12 H locs ls (hP.sub [0, 1, 2, 3, 4, 5, 6, 7, 8, 9, 10, 11, 12] rfl) (hD.sub [0, 1, 2, 3, 4, 5, 6, 7, 8, 9, 10, 11, 12] (by decide) rfl) hS (lv_sub hl [1, 2, 3, 0, 4] rfl) hf)
  have B44 : ∀ (k44 : Int32 → Int32 → Int32 → Int32 → Int32 → (Nat → Int32) → (Nat → Int32) → (Nat → Int32) → Option (Int32 × Int32 × (Nat → Int32) × (Nat → Int32) × (Nat → Int32))) (hk44 : ∀ (y1 : Int32) (y2 : Int32) (y3 : Int32) (y4 : Int32) (v0_looks : Int32) (c1 : (Nat → Int32)) (c9 : (Nat → Int32)) (c12 : (Nat → Int32)) (H : Heap) (locs : List Loc) (ls : Array Slot), va_P (dC, dI) vwCl (wX0_lookAt h0 h1 h2 h3 h4 h5 h6 h7 h8 h9 h10 h11 h12 kc1 kc3 kc4 kc5 kc6 kc7 kc8 kc9 kc10 kc11 kc12 V0 V2 v0_looks c1 c3 c4 c5 c6 c7 c8 c9 c10 c11 c12) H → va_D A (wX0_lookAt h0 h1 h2 h3 h4 h5 h6 h7 h8 h9 h10 h11 h12 kc1 kc3 kc4 kc5 kc6 kc7 kc8 kc9 kc10 kc11 kc12 V0 V2 v0_looks c1 c3 c4 c5 c6 c7 c8 c9 c10 c11 c12) → va_S A s.heap H locs → lv_has ls 5 [(0, .ref h0), (1, .int y1), (2, .int y2), (3, .int y3), (4, .int y4)] → k44 y1 y2 y3 y4 v0_looks c1 c9 c12 = some o → G 0 0 H locs (F0 m 44 ls [])), ∀ (y1 : Int32) (y2 : Int32) (y3 : Int32) (y4 : Int32) (v0_looks : Int32) (c1 : (Nat → Int32)) (c9 : (Nat → Int32)) (c12 : (Nat → Int32)) (H : Heap) (locs : List Loc) (ls : Array Slot), va_P (dC, dI) vwCl (wX0_lookAt h0 h1 h2 h3 h4 h5 h6 h7 h8 h9 h10 h11 h12 kc1 kc3 kc4 kc5 kc6 kc7 kc8 kc9 kc10 kc11 kc12 V0 V2 v0_looks c1 c3 c4 c5 c6 c7 c8 c9 c10 c11 c12) H → va_D A (wX0_lookAt h0 h1 h2 h3 h4 h5 h6 h7 h8 h9 h10 h11 h12 kc1 kc3 kc4 kc5 kc6 kc7 kc8 kc9 kc10 kc11 kc12 V0 V2 v0_looks c1 c3 c4 c5 c6 c7 c8 c9 c10 c11 c12) → va_S A s.heap H locs → lv_has ls 5 [(0, .ref h0), (1, .int y1), (2, .int y2), (3, .int y3), (4, .int y4)] → fX0_lookAt_b44 c3 c4 c5 c6 c7 c8 c10 c11  k44 y1 y2 y3 y4 v0_looks c1 c9 c12 = some o → G 0 0 H locs (F0 m 44 ls []) := by
    intro  k44 hk44 y1 y2 y3 y4 v0_looks c1 c9 c12 H locs ls hP hD hS hl hf
    refine (hG _ _ _ _ _).mpr ?_
    unfold fX0_lookAt_b44 at hf
    refine lv_iload hx hb dX0_lookAt_44 (lv_at hl 4 rfl) ?_
    refine lv_bipush (v := 32) hx hb dX0_lookAt_46 (by decide +kernel) ?_
    refine lv_icmp_ge (tgt := 95) hx hb dX0_lookAt_48 (by decide) (fun cq4 => ?_) (fun cq4 => ?_)
    · replace hf := if_at hf cq4
      refine lv_iload_n hx hb dX0_lookAt_95 rfl (lv_at hl 3 rfl) ?_
      refine lv_if_eq (tgt := 109) hx hb dX0_lookAt_96 (by decide) (fun cq5 => ?_) (fun cq5 => ?_)
      · replace hf := if_at hf cq5
        exact (hG _ _ _ _ _).mp (J109 y3 v0_looks c1 c9 c12 H locs ls (hP.sub [0, 1, 2, 3, 4, 5, 6, 7, 8, 9, 10, 11, 12] rfl) (hD.sub [0, 1, 2, 3, 4, 5, 6, 7, 8, 9, 10, 11, 12] (by decide) rfl) hS (lv_sub hl [0, 3] rfl) hf)
      · replace hf := if_no hf cq5
        refine lv_aload_n hx hb dX0_lookAt_99 rfl (lv_at hl 0 rfl) ?_
        refine va_get (D := (dC, dI)) (ci := 0) (v := .ref h12) (C := RX0) (T := TX0) (N := 7) hx hb hts inlX0 hown hK hP 0 rfl rfl 4 (by decide) w0_ (fun _ h9 => h9) rfl dX0_lookAt_100 ?_
        refine lv_iload_n hx hb dX0_lookAt_103 rfl (lv_at hl 1 rfl) ?_
        refine lv_aload_n hx hb dX0_lookAt_104 rfl (lv_at hl 0 rfl) ?_
        refine va_get (D := (dC, dI)) (ci := 0) (v := .int v0_looks) (C := RX0) (T := TX0) (N := 7) hx hb hts inlX0 hown hK hP 0 rfl rfl 6 (by decide) w1_ (fun _ h9 => h9) rfl dX0_lookAt_105 ?_
        have b6 := bd_in hf
        replace hf := bd_k hf
        obtain ⟨c6x, e6⟩ : ∃ y, y = upd c12 y1.toNatClampNeg v0_looks := ⟨_, rfl⟩
        replace hf := nm_at hf e6
        refine va_iast hx hb hK hP hD hS 12 10 rfl rfl b6 dX0_lookAt_108 (fun H locs hP hD hS => ?_)
        have hP : va_P (dC, dI) vwCl (wX0_lookAt h0 h1 h2 h3 h4 h5 h6 h7 h8 h9 h10 h11 h12 kc1 kc3 kc4 kc5 kc6 kc7 kc8 kc9 kc10 kc11 kc12 V0 V2 v0_looks c1 c3 c4 c5 c6 c7 c8 c9 c10 c11 c6x) H := by rw [e6]; exact hP
        have hD : va_D A (wX0_lookAt h0 h1 h2 h3 h4 h5 h6 h7 h8 h9 h10 h11 h12 kc1 kc3 kc4 kc5 kc6 kc7 kc8 kc9 kc10 kc11 kc12 V0 V2 v0_looks c1 c3 c4 c5 c6 c7 c8 c9 c10 c11 c6x) := by rw [e6]; exact hD
        exact (hG _ _ _ _ _).mp (J109 y3 v0_looks c1 c9 c6x H locs ls (hP.sub [0, 1, 2, 3, 4, 5, 6, 7, 8, 9, 10, 11, 12] rfl) (hD.sub [0, 1, 2, 3, 4, 5, 6, 7, 8, 9, 10, 11, 12] (by decide) rfl) hS (lv_sub hl [0, 3] rfl) hf)
    · replace hf := if_no hf cq4
      refine lv_aload_n hx hb dX0_lookAt_51 rfl (lv_at hl 0 rfl) ?_
      refine va_get (D := (dC, dI)) (ci := 0) (v := .ref h4) (C := RX0) (T := TX0) (N := 7) hx hb hts inlX0 hown hK hP 0 rfl rfl 2 (by decide) w2_ (fun _ h9 => h9) rfl dX0_lookAt_52 ?_
      refine lv_iload_n hx hb dX0_lookAt_55 rfl (lv_at hl 1 rfl) ?_
      have b7 := bd_in hf
      replace hf := bd_k hf
      refine va_iald hx hb hK hP 4 2 rfl rfl b7 dX0_lookAt_56 ?_
      refine lv_topi (fun x8 e8 => ?_)
      replace hf := nm_at hf e8
      refine lv_iload hx hb dX0_lookAt_57 (lv_at hl 4 rfl) ?_
      refine lv_iushr hx hb dX0_lookAt_59 rfl ?_
      refine lv_topi (fun x9 e9 => ?_)
      replace hf := nm_at hf e9
      refine lv_iconst (v := 1) hx hb dX0_lookAt_60 (by decide +kernel) ?_
      refine lv_iand hx hb dX0_lookAt_61 ?_
      refine lv_topi (fun x10 e10 => ?_)
      replace hf := nm_at hf e10
      refine lv_if_eq (tgt := 89) hx hb dX0_lookAt_62 (by decide) (fun cq11 => ?_) (fun cq11 => ?_)
      · replace hf := if_at hf cq11
        exact (hG _ _ _ _ _).mp (J89 k44 hk44 y1 y2 y3 y4 v0_looks c1 c9 c12 H locs ls (hP.sub [0, 1, 2, 3, 4, 5, 6, 7, 8, 9, 10, 11, 12] rfl) (hD.sub [0, 1, 2, 3, 4, 5, 6, 7, 8, 9, 10, 11, 12] (by decide) rfl) hS (lv_sub hl [0, 1, 2, 3, 4] rfl) hf)
      · replace hf := if_no hf cq11
        refine lv_iload_n hx hb dX0_lookAt_65 rfl (lv_at hl 3 rfl) ?_
        refine lv_iload_n hx hb dX0_lookAt_66 rfl (lv_at hl 2 rfl) ?_
        refine lv_if_eq (tgt := 80) hx hb dX0_lookAt_67 (by decide) (fun cq12 => ?_) (fun cq12 => ?_)
        · replace hf := if_at hf cq12
          refine lv_aload_n hx hb dX0_lookAt_80 rfl (lv_at hl 0 rfl) ?_
          refine lv_iload_n hx hb dX0_lookAt_81 rfl (lv_at hl 1 rfl) ?_
          refine lv_iload hx hb dX0_lookAt_82 (lv_at hl 4 rfl) ?_
          obtain ⟨o13, e13, hf⟩ := ob_some hf
          refine kVi (As := [.int y1, .int y4]) (rest := [.int y3]) ⟨hx, hb, hml, hown, hts⟩ (mX0_lowerByStep l dC dI h0 h2 h10 h3 h11 h5 h6 h9 kc10 kc3 kc11 kc5 kc6 kc9 H.size base y1 y4 c10 c3 c11 c5 c6 c9 (fun k => match k with | 2 => .ref h4 | 4 => .ref h12 | 5 => .ref h1 | 6 => .int v0_looks | k => V0 k) (fun k => match k with | 4 => .ref h8 | 10 => .ref h7 | k => V2 k) o13 e13) (cwV 2 hts (gTV q1039 q1040 q1041 q946 q1042) rfl rfl rfl (by decide +kernel) ⟨Nat.le_of_ble_eq_true rfl, Nat.le_of_ble_eq_true rfl⟩) hK hP hD hS hA hE hAB [0, 2, 10, 3, 11, 5, 6, 9] [1, 4, 7, 8, 12] [8, 1, 9, 3, 4, 7] (wr := [(h1, .inl (kc1, 40, .inl c1)), (h4, .inl (kc4, 40, .inl c4)), (h7, .inl (kc7, 40, .inl c7)), (h8, .inl (kc8, 6, .inl c8)), (h12, .inl (kc12, 40, .inl c12))]) rfl rfl (by decide) (by decide) (by decide) rfl (ci := 0) (q0 := 0) rfl rfl rfl rfl hl.1 rfl (Nat.le_of_ble_eq_true rfl) dX0_lookAt_84 ⟨Nat.zero_le _, Nat.zero_le _⟩ (fun r13 u13 H locs hw13 hP hD hS => ?_)
          obtain ⟨hw131, hw132⟩ := hw13
          subst hw131 hw132
          have hP : va_P (dC, dI) vwCl (wX0_lookAt h0 h1 h2 h3 h4 h5 h6 h7 h8 h9 h10 h11 h12 kc1 kc3 kc4 kc5 kc6 kc7 kc8 kc9 kc10 kc11 kc12 V0 V2 v0_looks c1 c3 c4 c5 c6 c7 c8 o13.2 c10 c11 c12) H := hP.sub [5, 0, 6, 8, 1, 10, 11, 2, 3, 12, 7, 9, 4] rfl
          have hD : va_D A (wX0_lookAt h0 h1 h2 h3 h4 h5 h6 h7 h8 h9 h10 h11 h12 kc1 kc3 kc4 kc5 kc6 kc7 kc8 kc9 kc10 kc11 kc12 V0 V2 v0_looks c1 c3 c4 c5 c6 c7 c8 o13.2 c10 c11 c12) := hD.sub [5, 0, 6, 8, 1, 10, 11, 2, 3, 12, 7, 9, 4] (by decide) rfl
          exact (hG _ _ _ _ _).mp (J87 k44 hk44 y1 y2 y4 o13.1 y3 v0_looks c1 o13.2 c12 H locs ls (hP.sub [0, 1, 2, 3, 4, 5, 6, 7, 8, 9, 10, 11, 12] rfl) (hD.sub [0, 1, 2, 3, 4, 5, 6, 7, 8, 9, 10, 11, 12] (by decide) rfl) hS (lv_sub hl [0, 1, 2, 4] rfl) hf)
        · replace hf := if_no hf cq12
          refine lv_aload_n hx hb dX0_lookAt_70 rfl (lv_at hl 0 rfl) ?_
          refine lv_iload_n hx hb dX0_lookAt_71 rfl (lv_at hl 1 rfl) ?_
          refine lv_iload hx hb dX0_lookAt_72 (lv_at hl 4 rfl) ?_
          obtain ⟨o14, e14, hf⟩ := ob_some hf
          refine kVi (As := [.int y1, .int y4]) (rest := [.int y3]) ⟨hx, hb, hml, hown, hts⟩ (mX0_lowerByCall l dC dI h0 h2 h5 h6 h7 h8 h9 kc5 kc6 kc7 kc8 kc9 H.size base y1 y4 c5 c6 c7 c8 c9 (fun k => match k with | 2 => .ref h4 | 4 => .ref h12 | 5 => .ref h1 | 6 => .int v0_looks | k => V0 k) (fun k => match k with | 5 => .ref h3 | 8 => .ref h10 | 9 => .ref h11 | k => V2 k) o14 e14) (cwV 2 hts (gTV q1026 q1027 q1028 q946 q1029) rfl rfl rfl (by decide +kernel) ⟨Nat.le_of_ble_eq_true rfl, Nat.le_of_ble_eq_true rfl⟩) hK hP hD hS hA hE hAB [0, 2, 5, 6, 7, 8, 9] [1, 3, 4, 10, 11, 12] [3, 4, 5, 6, 7] (wr := [(h1, .inl (kc1, 40, .inl c1)), (h3, .inl (kc3, 40, .inl c3)), (h4, .inl (kc4, 40, .inl c4)), (h10, .inl (kc10, 40, .inr (.inl c10))), (h11, .inl (kc11, 40, .inl c11)), (h12, .inl (kc12, 40, .inl c12))]) rfl rfl (by decide) (by decide) (by decide) rfl (ci := 0) (q0 := 0) rfl rfl rfl rfl hl.1 rfl (Nat.le_of_ble_eq_true rfl) dX0_lookAt_74 ⟨Nat.zero_le _, Nat.zero_le _⟩ (fun r14 u14 H locs hw14 hP hD hS => ?_)
          obtain ⟨hw141, hw142⟩ := hw14
          subst hw141 hw142
          have hP : va_P (dC, dI) vwCl (wX0_lookAt h0 h1 h2 h3 h4 h5 h6 h7 h8 h9 h10 h11 h12 kc1 kc3 kc4 kc5 kc6 kc7 kc8 kc9 kc10 kc11 kc12 V0 V2 v0_looks c1 c3 c4 c5 c6 c7 c8 o14.2 c10 c11 c12) H := hP.sub [6, 0, 7, 1, 2, 8, 9, 10, 11, 12, 3, 4, 5] rfl
          have hD : va_D A (wX0_lookAt h0 h1 h2 h3 h4 h5 h6 h7 h8 h9 h10 h11 h12 kc1 kc3 kc4 kc5 kc6 kc7 kc8 kc9 kc10 kc11 kc12 V0 V2 v0_looks c1 c3 c4 c5 c6 c7 c8 o14.2 c10 c11 c12) := hD.sub [6, 0, 7, 1, 2, 8, 9, 10, 11, 12, 3, 4, 5] (by decide) rfl
          refine lv_goto (tgt := 87) hx hb dX0_lookAt_77 (by decide) ?_
          exact (hG _ _ _ _ _).mp (J87 k44 hk44 y1 y2 y4 o14.1 y3 v0_looks c1 o14.2 c12 H locs ls (hP.sub [0, 1, 2, 3, 4, 5, 6, 7, 8, 9, 10, 11, 12] rfl) (hD.sub [0, 1, 2, 3, 4, 5, 6, 7, 8, 9, 10, 11, 12] (by decide) rfl) hS (lv_sub hl [0, 1, 2, 4] rfl) hf)
  have L44 : ∀ (n : Nat), ∀ (y1 : Int32) (y2 : Int32) (y3 : Int32) (y4 : Int32) (v0_looks : Int32) (c1 : (Nat → Int32)) (c9 : (Nat → Int32)) (c12 : (Nat → Int32)) (H : Heap) (locs : List Loc) (ls : Array Slot), va_P (dC, dI) vwCl (wX0_lookAt h0 h1 h2 h3 h4 h5 h6 h7 h8 h9 h10 h11 h12 kc1 kc3 kc4 kc5 kc6 kc7 kc8 kc9 kc10 kc11 kc12 V0 V2 v0_looks c1 c3 c4 c5 c6 c7 c8 c9 c10 c11 c12) H → va_D A (wX0_lookAt h0 h1 h2 h3 h4 h5 h6 h7 h8 h9 h10 h11 h12 kc1 kc3 kc4 kc5 kc6 kc7 kc8 kc9 kc10 kc11 kc12 V0 V2 v0_looks c1 c3 c4 c5 c6 c7 c8 c9 c10 c11 c12) → va_S A s.heap H locs → lv_has ls 5 [(0, .ref h0), (1, .int y1), (2, .int y2), (3, .int y3), (4, .int y4)] → fX0_lookAt_l44 c3 c4 c5 c6 c7 c8 c10 c11  n y1 y2 y3 y4 v0_looks c1 c9 c12 = some o → G 0 0 H locs (F0 m 44 ls []) := by
    intro  n
    induction n with
    | zero => intro y1 y2 y3 y4 v0_looks c1 c9 c12 H locs ls _ _ _ _ hf; cases hf
    | succ n ih => exact B44  _ ih
  have J38 : ∀ (y1 : Int32) (z0 : Int32) (v0_looks : Int32) (c1 : (Nat → Int32)) (c9 : (Nat → Int32)) (c12 : (Nat → Int32)) (H : Heap) (locs : List Loc) (ls : Array Slot), va_P (dC, dI) vwCl (wX0_lookAt h0 h1 h2 h3 h4 h5 h6 h7 h8 h9 h10 h11 h12 kc1 kc3 kc4 kc5 kc6 kc7 kc8 kc9 kc10 kc11 kc12 V0 V2 v0_looks c1 c3 c4 c5 c6 c7 c8 c9 c10 c11 c12) H → va_D A (wX0_lookAt h0 h1 h2 h3 h4 h5 h6 h7 h8 h9 h10 h11 h12 kc1 kc3 kc4 kc5 kc6 kc7 kc8 kc9 kc10 kc11 kc12 V0 V2 v0_looks c1 c3 c4 c5 c6 c7 c8 c9 c10 c11 c12) → va_S A s.heap H locs → lv_has ls 5 [(0, .ref h0), (1, .int y1)] → fX0_lookAt_p38 c3 c4 c5 c6 c7 c8 c10 c11  y1 z0 v0_looks c1 c9 c12 = some o → G 0 0 H locs (F0 m 38 ls [.int z0]) := by
    intro  y1 z0 v0_looks c1 c9 c12 H locs ls hP hD hS hl hf
    refine (hG _ _ _ _ _).mpr ?_
    unfold fX0_lookAt_p38 at hf
    refine lv_istore_n (lv' := [(2, .int z0), (0, .ref h0), (1, .int y1)]) hx hb dX0_lookAt_38 rfl hl (by decide) rfl (fun ls hl => ?_)
    refine lv_iconst (v := 0) hx hb dX0_lookAt_39 (by decide +kernel) ?_
    refine lv_istore_n (lv' := [(3, .int 0), (2, .int z0), (0, .ref h0), (1, .int y1)]) hx hb dX0_lookAt_40 rfl hl (by decide) rfl (fun ls hl => ?_)
    refine lv_iconst (v := 0) hx hb dX0_lookAt_41 (by decide +kernel) ?_
    refine lv_istore (lv' := [(4, .int 0), (3, .int 0), (2, .int z0), (0, .ref h0), (1, .int y1)]) hx hb dX0_lookAt_42 hl (by decide) rfl (fun ls hl => ?_)
    exact (hG _ _ _ _ _).mp (L44 FU y1 z0 0 0 v0_looks c1 c9 c12 H locs ls (hP.sub [0, 1, 2, 3, 4, 5, 6, 7, 8, 9, 10, 11, 12] rfl) (hD.sub [0, 1, 2, 3, 4, 5, 6, 7, 8, 9, 10, 11, 12] (by decide) rfl) hS (lv_sub hl [3, 4, 2, 1, 0] rfl) hf)
  refine (hG _ _ _ _ _).mpr ?_
  obtain ⟨H, hH⟩ : ∃ H, H = s.heap := ⟨_, rfl⟩
  have hS : va_S A s.heap H [] := by rw [hH]; exact hS
  rw [← hH] at hP ⊢
  generalize ([] : List Loc) = locs at hS ⊢
  unfold fX0_lookAt at hf
  refine lv_aload_n hx hb dX0_lookAt_0 rfl (lv_at hl 0 rfl) ?_
  refine lv_dup hx hb dX0_lookAt_1 rfl ?_
  refine va_get (D := (dC, dI)) (ci := 0) (v := .int v0_looks) (C := RX0) (T := TX0) (N := 7) hx hb hts inlX0 hown hK hP 0 rfl rfl 6 (by decide) w1_ (fun _ h9 => h9) rfl dX0_lookAt_2 ?_
  refine lv_iconst (v := 1) hx hb dX0_lookAt_5 (by decide +kernel) ?_
  refine lv_iadd hx hb dX0_lookAt_6 ?_
  refine lv_topi (fun x15 e15 => ?_)
  replace hf := nm_at hf e15
  refine va_put (D := (dC, dI)) (ci := 0) (v := .int x15) (ty := .int) (C := RX0) (T := TX0) (N := 7) hx hb hts inlX0 tyX0 tyX0_ok nmX0 hown hK hP hD hS 0 rfl rfl 6 (by decide) w1_ (fun _ h9 => h9) rfl (by decide +kernel) rfl rfl (Nat.le_of_ble_eq_true rfl) dX0_lookAt_7 (fun H locs hP hD hS => ?_)
  have hP : va_P (dC, dI) vwCl (wX0_lookAt h0 h1 h2 h3 h4 h5 h6 h7 h8 h9 h10 h11 h12 kc1 kc3 kc4 kc5 kc6 kc7 kc8 kc9 kc10 kc11 kc12 V0 V2 x15 c1 c3 c4 c5 c6 c7 c8 c9 c10 c11 c12) H := hP
  have hD : va_D A (wX0_lookAt h0 h1 h2 h3 h4 h5 h6 h7 h8 h9 h10 h11 h12 kc1 kc3 kc4 kc5 kc6 kc7 kc8 kc9 kc10 kc11 kc12 V0 V2 x15 c1 c3 c4 c5 c6 c7 c8 c9 c10 c11 c12) := hD
  refine lv_aload_n hx hb dX0_lookAt_10 rfl (lv_at hl 0 rfl) ?_
  refine va_get (D := (dC, dI)) (ci := 0) (v := .ref h1) (C := RX0) (T := TX0) (N := 7) hx hb hts inlX0 hown hK hP 0 rfl rfl 5 (by decide) w3_ (fun _ h9 => h9) rfl dX0_lookAt_11 ?_
  refine lv_iload_n hx hb dX0_lookAt_14 rfl (lv_at hl 1 rfl) ?_
  refine lv_aload_n hx hb dX0_lookAt_15 rfl (lv_at hl 0 rfl) ?_
  refine va_get (D := (dC, dI)) (ci := 0) (v := .int x15) (C := RX0) (T := TX0) (N := 7) hx hb hts inlX0 hown hK hP 0 rfl rfl 6 (by decide) w1_ (fun _ h9 => h9) rfl dX0_lookAt_16 ?_
  have b16 := bd_in hf
  replace hf := bd_k hf
  obtain ⟨c16x, e16⟩ : ∃ y, y = upd c1 a0.toNatClampNeg x15 := ⟨_, rfl⟩
  replace hf := nm_at hf e16
  refine va_iast hx hb hK hP hD hS 1 0 rfl rfl b16 dX0_lookAt_19 (fun H locs hP hD hS => ?_)
  have hP : va_P (dC, dI) vwCl (wX0_lookAt h0 h1 h2 h3 h4 h5 h6 h7 h8 h9 h10 h11 h12 kc1 kc3 kc4 kc5 kc6 kc7 kc8 kc9 kc10 kc11 kc12 V0 V2 x15 c16x c3 c4 c5 c6 c7 c8 c9 c10 c11 c12) H := by rw [e16]; exact hP
  have hD : va_D A (wX0_lookAt h0 h1 h2 h3 h4 h5 h6 h7 h8 h9 h10 h11 h12 kc1 kc3 kc4 kc5 kc6 kc7 kc8 kc9 kc10 kc11 kc12 V0 V2 x15 c16x c3 c4 c5 c6 c7 c8 c9 c10 c11 c12) := by rw [e16]; exact hD
  refine lv_aload_n hx hb dX0_lookAt_20 rfl (lv_at hl 0 rfl) ?_
  refine va_get (D := (dC, dI)) (ci := 0) (v := .ref h2) (C := RX0) (T := TX0) (N := 7) hx hb hts inlX0 hown hK hP 0 rfl rfl 1 (by decide) w4_ (fun _ h9 => h9) rfl dX0_lookAt_21 ?_
  refine va_get (D := (dC, dI)) (ci := 3) (v := .ref h3) (C := RX3) (T := TX3) (N := 18) hx hb hts inlX3 hown hK hP 2 rfl rfl 5 (by decide) w5_ (fun _ h9 => h9) rfl dX0_lookAt_24 ?_
  refine lv_iload_n hx hb dX0_lookAt_27 rfl (lv_at hl 1 rfl) ?_
  have b17 := bd_in hf
  replace hf := bd_k hf
  refine va_iald hx hb hK hP 3 1 rfl rfl b17 dX0_lookAt_28 ?_
  refine lv_topi (fun x18 e18 => ?_)
  replace hf := nm_at hf e18
  refine lv_iconst (v := 3) hx hb dX0_lookAt_29 (by decide +kernel) ?_
  refine lv_icmp_ne (tgt := 37) hx hb dX0_lookAt_30 (by decide) (fun cq19 => ?_) (fun cq19 => ?_)
  · replace hf := if_no hf cq19
    refine lv_iconst (v := 0) hx hb dX0_lookAt_37 (by decide +kernel) ?_
    exact (hG _ _ _ _ _).mp (J38 a0 0 x15 c16x c9 c12 H locs ls (hP.sub [0, 1, 2, 3, 4, 5, 6, 7, 8, 9, 10, 11, 12] rfl) (hD.sub [0, 1, 2, 3, 4, 5, 6, 7, 8, 9, 10, 11, 12] (by decide) rfl) hS (lv_sub hl [0, 1] rfl) hf)
  · replace hf := if_at hf cq19
    refine lv_iconst (v := 1) hx hb dX0_lookAt_33 (by decide +kernel) ?_
    refine lv_goto (tgt := 38) hx hb dX0_lookAt_34 (by decide) ?_
    exact (hG _ _ _ _ _).mp (J38 a0 1 x15 c16x c9 c12 H locs ls (hP.sub [0, 1, 2, 3, 4, 5, 6, 7, 8, 9, 10, 11, 12] rfl) (hD.sub [0, 1, 2, 3, 4, 5, 6, 7, 8, 9, 10, 11, 12] (by decide) rfl) hS (lv_sub hl [0, 1] rfl) hf)
abbrev wX0_reachPoint (h0 h1 h2 : Nat) (kc1 kc2 : ClassId) (V0 : Nat → Value) (c1 : Nat → Int32) (c2 : Nat → Int32) : va_W := [(h0, .inr (0, [V0 0, V0 1, .ref h1, .ref h2, V0 4, V0 5, V0 6])), (h1, .inl (kc1, 40, .inl c1)), (h2, .inl (kc2, 6, .inl c2))]
set_option maxHeartbeats 4000000 in
set_option maxRecDepth 100000 in
theorem mX0_reachPoint (l : Launch) (dC : Nat → ClassId) (dI : Nat → Nat → Nat) (h0 h1 h2 : Nat) (kc1 kc2 : ClassId) (sz : Nat) (base : Nat × Nat × Nat) (a0 : Int32) (a1 : Int32) (a2 : Int32) (c1 : Nat → Int32) (c2 : Nat → Int32) (V0 : Nat → Value) (o : Int32 × (Nat → Int32) × (Nat → Int32)) (hf : fX0_reachPoint a0 a1 a2 c1 c2 = some o) : Met l yX0_reachPoint (.code yX0_reachPoint cX0_reachPoint 5 (some .boolean) :: wsL_law) ({ frames := 1, cells := 0, slots := 0, locals := 20 }) (cPre (dC, dI) vwCl [.ref h0, .int a0, .int a1, .int a2] sz base (wX0_reachPoint h0 h1 h2 kc1 kc2 V0 c1 c2) [(kc1, .int), (kc2, .int)]) (va_Qi (fun r u => r = o.1 ∧ u = o.2) (fun (u : (Nat → Int32) × (Nat → Int32)) t => cPost (dC, dI) vwCl (va_A (wX0_reachPoint h0 h1 h2 kc1 kc2 V0 c1 c2) sz) (wX0_reachPoint h0 h1 h2 kc1 kc2 V0 u.1 u.2) [(kc1, .int), (kc2, .int)] t) (va_A (wX0_reachPoint h0 h1 h2 kc1 kc2 V0 c1 c2) sz)) 0 0 (va_A (wX0_reachPoint h0 h1 h2 kc1 kc2 V0 c1 c2) sz) := by
  refine Met.ofW (cc := cX0_reachPoint) (maxL := 5) (ret := (some .boolean)) (by decide) rfl ?_
  intro p e s m args below meth c s₁ B hml hv
  obtain ⟨rfl, hsz, hP, hK, hD0, hE⟩ := hv
  have hx := B.exec
  have hb := B.bytes
  have hr := B.returns
  have hts : ∀ w ∈ wsL_law, _ := fun w h => atoms_spec (ws := .code yX0_reachPoint cX0_reachPoint 5 (some .boolean) :: wsL_law) B.pre w (List.mem_cons_of_mem _ h)
  have hown : s.vm.findClass RX0 = some m.cls := findClass_of_methodNamed B.named
  have hlocks := B.notSynchronized
  have w0_ := hts _ q957
  have w1_ := hts _ q956
  subst hsz
  have hD := hD0.self (sz := s.heap.size)
  generalize hAe : va_A (wX0_reachPoint h0 h1 h2 kc1 kc2 V0 c1 c2) s.heap.size = A at hD ⊢
  have hA : ∀ q : Nat, s.heap.size ≤ q → A q := fun q h => by rw [← hAe]; exact Or.inr h
  have hAB : ∀ q : Nat, A q → base.1 ≤ q := fun q h => by rw [← hAe] at h; exact h.elim (fun ⟨k, e, hk⟩ => hD0.2 k _ hk) (fun hk => Nat.le_trans hE.1 hk)
  have hS : va_S A s.heap s.heap [] := va_S.rf
  have hl := lv_entry ([.ref h0, .int a0, .int a1, .int a2]) (n := 5) (Nat.le_of_ble_eq_true rfl)
  rw [lg_entry_eq]
  generalize (lg_sl ([.ref h0, .int a0, .int a1, .int a2]) ++ List.replicate (5 - (lg_sl ([.ref h0, .int a0, .int a1, .int a2])).length) Slot.unset).toArray = ls at hl ⊢
  have hl : lv_has ls 5 [(0, .ref h0), (1, .int a0), (2, .int a1), (3, .int a2)] := hl
  have hP : va_P (dC, dI) vwCl (wX0_reachPoint h0 h1 h2 kc1 kc2 V0 c1 c2) s.heap := hP
  refine gl_intro (fun G hG => ?_)
  have J83 : ∀ (z0 : Int32) (c1 : (Nat → Int32)) (c2 : (Nat → Int32)) (H : Heap) (locs : List Loc) (ls : Array Slot), va_P (dC, dI) vwCl (wX0_reachPoint h0 h1 h2 kc1 kc2 V0 c1 c2) H → va_D A (wX0_reachPoint h0 h1 h2 kc1 kc2 V0 c1 c2) → va_S A s.heap H locs → lv_has ls 5 [(0, .ref h0)] → fX0_reachPoint_p83   z0 c1 c2 = some o → G 0 0 H locs (F0 m 83 ls [.int z0]) := by
    intro  z0 c1 c2 H locs ls hP hD hS hl hf
    refine (hG _ _ _ _ _).mpr ?_
    unfold fX0_reachPoint_p83 at hf
    have b1 := bd_b hf
    replace hf := bd_k hf
    have hf1 := Option.some.inj hf
    subst hf1
    have hP9 := hP.sub (ws' := (wX0_reachPoint h0 h1 h2 kc1 kc2 V0 c1 c2)) [0, 1, 2] rfl
    have hD9 := hD.sub (ws' := (wX0_reachPoint h0 h1 h2 kc1 kc2 V0 c1 c2)) [0, 1, 2] (by decide) rfl
    exact W.zret (v := z0) (ty := .boolean) hx hb hr (bz_nar b1) (fun t ht hW => ⟨⟨z0, (c1, c2), rfl, ⟨rfl, rfl⟩, by rw [ht]; exact hP9, va_K.moved hW.alike hK, hD9⟩, hS.F ht⟩) hS.2.2 dX0_reachPoint_83
  have J38 : ∀ (z0 : Int32) (c1 : (Nat → Int32)) (c2 : (Nat → Int32)) (H : Heap) (locs : List Loc) (ls : Array Slot), va_P (dC, dI) vwCl (wX0_reachPoint h0 h1 h2 kc1 kc2 V0 c1 c2) H → va_D A (wX0_reachPoint h0 h1 h2 kc1 kc2 V0 c1 c2) → va_S A s.heap H locs → lv_has ls 5 [(0, .ref h0)] → fX0_reachPoint_p38   z0 c1 c2 = some o → G 0 0 H locs (F0 m 38 ls [.int z0]) := by
    intro  z0 c1 c2 H locs ls hP hD hS hl hf
    refine (hG _ _ _ _ _).mpr ?_
    unfold fX0_reachPoint_p38 at hf
    have b2 := bd_b hf
    replace hf := bd_k hf
    have hf1 := Option.some.inj hf
    subst hf1
    have hP9 := hP.sub (ws' := (wX0_reachPoint h0 h1 h2 kc1 kc2 V0 c1 c2)) [0, 1, 2] rfl
    have hD9 := hD.sub (ws' := (wX0_reachPoint h0 h1 h2 kc1 kc2 V0 c1 c2)) [0, 1, 2] (by decide) rfl
    exact W.zret (v := z0) (ty := .boolean) hx hb hr (bz_nar b2) (fun t ht hW => ⟨⟨z0, (c1, c2), rfl, ⟨rfl, rfl⟩, by rw [ht]; exact hP9, va_K.moved hW.alike hK, hD9⟩, hS.F ht⟩) hS.2.2 dX0_reachPoint_38
  refine (hG _ _ _ _ _).mpr ?_
  obtain ⟨H, hH⟩ : ∃ H, H = s.heap := ⟨_, rfl⟩
  have hS : va_S A s.heap H [] := by rw [hH]; exact hS
  rw [← hH] at hP ⊢
  generalize ([] : List Loc) = locs at hS ⊢
  unfold fX0_reachPoint at hf
  refine lv_iload_n hx hb dX0_reachPoint_0 rfl (lv_at hl 1 rfl) ?_
  refine lv_if_lt (tgt := 39) hx hb dX0_reachPoint_1 (by decide) (fun cq3 => ?_) (fun cq3 => ?_)
  · replace hf := if_at hf cq3
    refine lv_iload_n hx hb dX0_reachPoint_39 rfl (lv_at hl 1 rfl) ?_
    refine lv_iconst (v := (-1)) hx hb dX0_reachPoint_40 (by decide +kernel) ?_
    refine lv_icmp_eq (tgt := 46) hx hb dX0_reachPoint_41 (by decide) (fun cq4 => ?_) (fun cq4 => ?_)
    · replace hf := if_at hf cq4
      refine lv_aload_n hx hb dX0_reachPoint_46 rfl (lv_at hl 0 rfl) ?_
      refine va_get (D := (dC, dI)) (ci := 0) (v := .ref h2) (C := RX0) (T := TX0) (N := 7) hx hb hts inlX0 hown hK hP 0 rfl rfl 3 (by decide) w0_ (fun _ h9 => h9) rfl dX0_reachPoint_47 ?_
      refine lv_iload_n hx hb dX0_reachPoint_50 rfl (lv_at hl 3 rfl) ?_
      have b5 := bd_in hf
      replace hf := bd_k hf
      refine va_iald hx hb hK hP 2 1 rfl rfl b5 dX0_reachPoint_51 ?_
      refine lv_topi (fun x6 e6 => ?_)
      replace hf := nm_at hf e6
      refine lv_istore (lv' := [(4, .int x6), (0, .ref h0), (1, .int a0), (2, .int a1), (3, .int a2)]) hx hb dX0_reachPoint_52 hl (by decide) rfl (fun ls hl => ?_)
      refine lv_aload_n hx hb dX0_reachPoint_54 rfl (lv_at hl 1 rfl) ?_
      refine va_get (D := (dC, dI)) (ci := 0) (v := .ref h2) (C := RX0) (T := TX0) (N := 7) hx hb hts inlX0 hown hK hP 0 rfl rfl 3 (by decide) w0_ (fun _ h9 => h9) rfl dX0_reachPoint_55 ?_
      refine lv_iload_n hx hb dX0_reachPoint_58 rfl (lv_at hl 4 rfl) ?_
      refine lv_dup2_11 hx hb dX0_reachPoint_59 rfl rfl ?_
      have b7 := bd_in hf
      replace hf := bd_k hf
      refine va_iald hx hb hK hP 2 1 rfl rfl b7 dX0_reachPoint_60 ?_
      refine lv_topi (fun x8 e8 => ?_)
      replace hf := nm_at hf e8
      refine lv_iload_n hx hb dX0_reachPoint_61 rfl (lv_at hl 3 rfl) ?_
      obtain ⟨o9, e9, hf⟩ := ob_some hf
      refine kSi (As := [.int a1]) (rest := [.int x8, .int a2, .ref h2]) ⟨hx, hb, hml, hown, hts⟩ (mX0_globalsOf l dC dI H.size base a1 o9 e9) (va_cwS 1 hts (gTS q994 q995 q946 q996) rfl rfl rfl (by decide +kernel) ⟨Nat.le_of_ble_eq_true rfl, Nat.le_of_ble_eq_true rfl⟩) hK hP hD hS hA hE hAB [] [0, 1, 2] [] (wr := (wX0_reachPoint h0 h1 h2 kc1 kc2 V0 c1 c2)) rfl rfl (by decide) (by decide) (by decide) rfl rfl hl.1 rfl (Nat.le_of_ble_eq_true rfl) dX0_reachPoint_62 ⟨Nat.zero_le _, Nat.zero_le _⟩ (fun r9 u9 H locs hw9 hP hD hS => ?_)
      obtain ⟨hw91, hw92⟩ := hw9
      subst hw91 hw92
      have hP : va_P (dC, dI) vwCl (wX0_reachPoint h0 h1 h2 kc1 kc2 V0 c1 c2) H := hP.sub [0, 1, 2] rfl
      have hD : va_D A (wX0_reachPoint h0 h1 h2 kc1 kc2 V0 c1 c2) := hD.sub [0, 1, 2] (by decide) rfl
      refine lv_ior hx hb dX0_reachPoint_65 ?_
      refine lv_topi (fun x10 e10 => ?_)
      replace hf := nm_at hf e10
      have b11 := bd_in hf
      replace hf := bd_k hf
      obtain ⟨c11x, e11⟩ : ∃ y, y = upd c2 a2.toNatClampNeg x10 := ⟨_, rfl⟩
      replace hf := nm_at hf e11
      refine va_iast hx hb hK hP hD hS 2 1 rfl rfl b11 dX0_reachPoint_66 (fun H locs hP hD hS => ?_)
      have hP : va_P (dC, dI) vwCl (wX0_reachPoint h0 h1 h2 kc1 kc2 V0 c1 c11x) H := by rw [e11]; exact hP
      have hD : va_D A (wX0_reachPoint h0 h1 h2 kc1 kc2 V0 c1 c11x) := by rw [e11]; exact hD
      refine lv_aload_n hx hb dX0_reachPoint_67 rfl (lv_at hl 1 rfl) ?_
      refine va_get (D := (dC, dI)) (ci := 0) (v := .ref h2) (C := RX0) (T := TX0) (N := 7) hx hb hts inlX0 hown hK hP 0 rfl rfl 3 (by decide) w0_ (fun _ h9 => h9) rfl dX0_reachPoint_68 ?_
      refine lv_iload_n hx hb dX0_reachPoint_71 rfl (lv_at hl 4 rfl) ?_
      have b12 := bd_in hf
      replace hf := bd_k hf
      refine va_iald hx hb hK hP 2 1 rfl rfl b12 dX0_reachPoint_72 ?_
      refine lv_topi (fun x13 e13 => ?_)
      replace hf := nm_at hf e13
      refine lv_iload hx hb dX0_reachPoint_73 (lv_at hl 0 rfl) ?_
      refine lv_icmp_eq (tgt := 82) hx hb dX0_reachPoint_75 (by decide) (fun cq14 => ?_) (fun cq14 => ?_)
      · replace hf := if_at hf cq14
        refine lv_iconst (v := 0) hx hb dX0_reachPoint_82 (by decide +kernel) ?_
        exact (hG _ _ _ _ _).mp (J83 0 c1 c11x H locs ls (hP.sub [0, 1, 2] rfl) (hD.sub [0, 1, 2] (by decide) rfl) hS (lv_sub hl [1] rfl) hf)
      · replace hf := if_no hf cq14
        refine lv_iconst (v := 1) hx hb dX0_reachPoint_78 (by decide +kernel) ?_
        refine lv_goto (tgt := 83) hx hb dX0_reachPoint_79 (by decide) ?_
        exact (hG _ _ _ _ _).mp (J83 1 c1 c11x H locs ls (hP.sub [0, 1, 2] rfl) (hD.sub [0, 1, 2] (by decide) rfl) hS (lv_sub hl [1] rfl) hf)
    · replace hf := if_no hf cq4
      refine lv_iconst (v := 0) hx hb dX0_reachPoint_44 (by decide +kernel) ?_
      have hf1 := Option.some.inj hf
      subst hf1
      have hP9 := hP.sub (ws' := (wX0_reachPoint h0 h1 h2 kc1 kc2 V0 c1 c2)) [0, 1, 2] rfl
      have hD9 := hD.sub (ws' := (wX0_reachPoint h0 h1 h2 kc1 kc2 V0 c1 c2)) [0, 1, 2] (by decide) rfl
      exact W.zret (v := 0) (ty := .boolean) hx hb hr rfl (fun t ht hW => ⟨⟨0, (c1, c2), rfl, ⟨rfl, rfl⟩, by rw [ht]; exact hP9, va_K.moved hW.alike hK, hD9⟩, hS.F ht⟩) hS.2.2 dX0_reachPoint_45
  · replace hf := if_no hf cq3
    refine lv_aload_n hx hb dX0_reachPoint_4 rfl (lv_at hl 0 rfl) ?_
    refine va_get (D := (dC, dI)) (ci := 0) (v := .ref h1) (C := RX0) (T := TX0) (N := 7) hx hb hts inlX0 hown hK hP 0 rfl rfl 2 (by decide) w1_ (fun _ h9 => h9) rfl dX0_reachPoint_5 ?_
    refine lv_iload_n hx hb dX0_reachPoint_8 rfl (lv_at hl 1 rfl) ?_
    have b15 := bd_in hf
    replace hf := bd_k hf
    refine va_iald hx hb hK hP 1 0 rfl rfl b15 dX0_reachPoint_9 ?_
    refine lv_topi (fun x16 e16 => ?_)
    replace hf := nm_at hf e16
    refine lv_istore (lv' := [(4, .int x16), (0, .ref h0), (1, .int a0), (2, .int a1), (3, .int a2)]) hx hb dX0_reachPoint_10 hl (by decide) rfl (fun ls hl => ?_)
    refine lv_aload_n hx hb dX0_reachPoint_12 rfl (lv_at hl 1 rfl) ?_
    refine va_get (D := (dC, dI)) (ci := 0) (v := .ref h1) (C := RX0) (T := TX0) (N := 7) hx hb hts inlX0 hown hK hP 0 rfl rfl 2 (by decide) w1_ (fun _ h9 => h9) rfl dX0_reachPoint_13 ?_
    refine lv_iload_n hx hb dX0_reachPoint_16 rfl (lv_at hl 2 rfl) ?_
    refine lv_dup2_11 hx hb dX0_reachPoint_17 rfl rfl ?_
    have b17 := bd_in hf
    replace hf := bd_k hf
    refine va_iald hx hb hK hP 1 0 rfl rfl b17 dX0_reachPoint_18 ?_
    refine lv_topi (fun x18 e18 => ?_)
    replace hf := nm_at hf e18
    refine lv_iload_n hx hb dX0_reachPoint_19 rfl (lv_at hl 3 rfl) ?_
    refine lv_ior hx hb dX0_reachPoint_20 ?_
    refine lv_topi (fun x19 e19 => ?_)
    replace hf := nm_at hf e19
    have b20 := bd_in hf
    replace hf := bd_k hf
    obtain ⟨c20x, e20⟩ : ∃ y, y = upd c1 a0.toNatClampNeg x19 := ⟨_, rfl⟩
    replace hf := nm_at hf e20
    refine va_iast hx hb hK hP hD hS 1 0 rfl rfl b20 dX0_reachPoint_21 (fun H locs hP hD hS => ?_)
    have hP : va_P (dC, dI) vwCl (wX0_reachPoint h0 h1 h2 kc1 kc2 V0 c20x c2) H := by rw [e20]; exact hP
    have hD : va_D A (wX0_reachPoint h0 h1 h2 kc1 kc2 V0 c20x c2) := by rw [e20]; exact hD
    refine lv_aload_n hx hb dX0_reachPoint_22 rfl (lv_at hl 1 rfl) ?_
    refine va_get (D := (dC, dI)) (ci := 0) (v := .ref h1) (C := RX0) (T := TX0) (N := 7) hx hb hts inlX0 hown hK hP 0 rfl rfl 2 (by decide) w1_ (fun _ h9 => h9) rfl dX0_reachPoint_23 ?_
    refine lv_iload_n hx hb dX0_reachPoint_26 rfl (lv_at hl 2 rfl) ?_
    have b21 := bd_in hf
    replace hf := bd_k hf
    refine va_iald hx hb hK hP 1 0 rfl rfl b21 dX0_reachPoint_27 ?_
    refine lv_topi (fun x22 e22 => ?_)
    replace hf := nm_at hf e22
    refine lv_iload hx hb dX0_reachPoint_28 (lv_at hl 0 rfl) ?_
    refine lv_icmp_eq (tgt := 37) hx hb dX0_reachPoint_30 (by decide) (fun cq23 => ?_) (fun cq23 => ?_)
    · replace hf := if_at hf cq23
      refine lv_iconst (v := 0) hx hb dX0_reachPoint_37 (by decide +kernel) ?_
      exact (hG _ _ _ _ _).mp (J38 0 c20x c2 H locs ls (hP.sub [0, 1, 2] rfl) (hD.sub [0, 1, 2] (by decide) rfl) hS (lv_sub hl [1] rfl) hf)
    · replace hf := if_no hf cq23
      refine lv_iconst (v := 1) hx hb dX0_reachPoint_33 (by decide +kernel) ?_
      refine lv_goto (tgt := 38) hx hb dX0_reachPoint_34 (by decide) ?_
      exact (hG _ _ _ _ _).mp (J38 1 c20x c2 H locs ls (hP.sub [0, 1, 2] rfl) (hD.sub [0, 1, 2] (by decide) rfl) hS (lv_sub hl [1] rfl) hf)
abbrev wX0_reachByCall (h0 h1 h2 h3 h4 h5 h6 h7 h8 : Nat) (kc2 kc3 kc4 kc5 kc6 kc7 kc8 : ClassId) (V0 : Nat → Value) (V1 : Nat → Value) (c2 : Nat → Int32) (c3 : Nat → Int32) (c4 : Nat → Int32) (c5 : Nat → Int32) (c6 : Nat → Int32) (c7 : Nat → Int32) (c8 : Nat → Int32) : va_W := [(h0, .inr (0, [V0 0, .ref h1, .ref h6, .ref h8, V0 4, V0 5, V0 6])), (h1, .inr (3, [V1 0, V1 1, V1 2, V1 3, .ref h5, V1 5, V1 6, .ref h7, V1 8, V1 9, .ref h2, .ref h3, .ref h4, V1 13, V1 14, V1 15, V1 16, V1 17])), (h2, .inl (kc2, 40, .inl c2)), (h3, .inl (kc3, 40, .inl c3)), (h4, .inl (kc4, 40, .inl c4)), (h5, .inl (kc5, 6, .inl c5)), (h6, .inl (kc6, 40, .inl c6)), (h7, .inl (kc7, 40, .inl c7)), (h8, .inl (kc8, 6, .inl c8))]
set_option maxHeartbeats 4000000 in
set_option maxRecDepth 100000 in
theorem mX0_reachByCall (l : Launch) (dC : Nat → ClassId) (dI : Nat → Nat → Nat) (h0 h1 h2 h3 h4 h5 h6 h7 h8 : Nat) (kc2 kc3 kc4 kc5 kc6 kc7 kc8 : ClassId) (sz : Nat) (base : Nat × Nat × Nat) (a0 : Int32) (c2 : Nat → Int32) (c3 : Nat → Int32) (c4 : Nat → Int32) (c5 : Nat → Int32) (c6 : Nat → Int32) (c7 : Nat → Int32) (c8 : Nat → Int32) (V0 : Nat → Value) (V1 : Nat → Value) (o : Int32 × (Nat → Int32) × (Nat → Int32)) (hf : fX0_reachByCall a0 c2 c3 c4 c5 c6 c7 c8 = some o) : Met l yX0_reachByCall (.code yX0_reachByCall cX0_reachByCall 8 (some .boolean) :: wsL_law) ({ frames := 2, cells := 0, slots := 0, locals := 44 }) (cPre (dC, dI) vwCl [.ref h0, .int a0] sz base (wX0_reachByCall h0 h1 h2 h3 h4 h5 h6 h7 h8 kc2 kc3 kc4 kc5 kc6 kc7 kc8 V0 V1 c2 c3 c4 c5 c6 c7 c8) [(kc2, .int), (kc3, .int), (kc4, .int), (kc5, .int), (kc6, .int), (kc7, .int), (kc8, .int)]) (va_Qi (fun r u => r = o.1 ∧ u = o.2) (fun (u : (Nat → Int32) × (Nat → Int32)) t => cPost (dC, dI) vwCl (va_A (wX0_reachByCall h0 h1 h2 h3 h4 h5 h6 h7 h8 kc2 kc3 kc4 kc5 kc6 kc7 kc8 V0 V1 c2 c3 c4 c5 c6 c7 c8) sz) (wX0_reachByCall h0 h1 h2 h3 h4 h5 h6 h7 h8 kc2 kc3 kc4 kc5 kc6 kc7 kc8 V0 V1 c2 c3 c4 c5 u.1 c7 u.2) [(kc2, .int), (kc3, .int), (kc4, .int), (kc5, .int), (kc6, .int), (kc7, .int), (kc8, .int)] t) (va_A (wX0_reachByCall h0 h1 h2 h3 h4 h5 h6 h7 h8 kc2 kc3 kc4 kc5 kc6 kc7 kc8 V0 V1 c2 c3 c4 c5 c6 c7 c8) sz)) 0 0 (va_A (wX0_reachByCall h0 h1 h2 h3 h4 h5 h6 h7 h8 kc2 kc3 kc4 kc5 kc6 kc7 kc8 V0 V1 c2 c3 c4 c5 c6 c7 c8) sz) := by
  refine Met.ofW (cc := cX0_reachByCall) (maxL := 8) (ret := (some .boolean)) (by decide) rfl ?_
  intro p e s m args below meth c s₁ B hml hv
  obtain ⟨rfl, hsz, hP, hK, hD0, hE⟩ := hv
  have hx := B.exec
  have hb := B.bytes
  have hr := B.returns
  have hts : ∀ w ∈ wsL_law, _ := fun w h => atoms_spec (ws := .code yX0_reachByCall cX0_reachByCall 8 (some .boolean) :: wsL_law) B.pre w (List.mem_cons_of_mem _ h)
  have hown : s.vm.findClass RX0 = some m.cls := findClass_of_methodNamed B.named
  have hlocks := B.notSynchronized
  have w0_ := hts _ q960
  have w1_ := hts _ q985
  have w2_ := hts _ q956
  have w3_ := hts _ q957
  have w4_ := hts _ q983
  have w5_ := hts _ q984
  subst hsz
  have hD := hD0.self (sz := s.heap.size)
  generalize hAe : va_A (wX0_reachByCall h0 h1 h2 h3 h4 h5 h6 h7 h8 kc2 kc3 kc4 kc5 kc6 kc7 kc8 V0 V1 c2 c3 c4 c5 c6 c7 c8) s.heap.size = A at hD ⊢
  have hA : ∀ q : Nat, s.heap.size ≤ q → A q := fun q h => by rw [← hAe]; exact Or.inr h
  have hAB : ∀ q : Nat, A q → base.1 ≤ q := fun q h => by rw [← hAe] at h; exact h.elim (fun ⟨k, e, hk⟩ => hD0.2 k _ hk) (fun hk => Nat.le_trans hE.1 hk)
  have hS : va_S A s.heap s.heap [] := va_S.rf
  have hl := lv_entry ([.ref h0, .int a0]) (n := 8) (Nat.le_of_ble_eq_true rfl)
  rw [lg_entry_eq]
  generalize (lg_sl ([.ref h0, .int a0]) ++ List.replicate (8 - (lg_sl ([.ref h0, .int a0])).length) Slot.unset).toArray = ls at hl ⊢
  have hl : lv_has ls 8 [(0, .ref h0), (1, .int a0)] := hl
  have hP : va_P (dC, dI) vwCl (wX0_reachByCall h0 h1 h2 h3 h4 h5 h6 h7 h8 kc2 kc3 kc4 kc5 kc6 kc7 kc8 V0 V1 c2 c3 c4 c5 c6 c7 c8) s.heap := hP
  refine gl_intro (fun G hG => ?_)
  have J153 : ∀ (z0 : Int32) (c6 : (Nat → Int32)) (c8 : (Nat → Int32)) (H : Heap) (locs : List Loc) (ls : Array Slot), va_P (dC, dI) vwCl (wX0_reachByCall h0 h1 h2 h3 h4 h5 h6 h7 h8 kc2 kc3 kc4 kc5 kc6 kc7 kc8 V0 V1 c2 c3 c4 c5 c6 c7 c8) H → va_D A (wX0_reachByCall h0 h1 h2 h3 h4 h5 h6 h7 h8 kc2 kc3 kc4 kc5 kc6 kc7 kc8 V0 V1 c2 c3 c4 c5 c6 c7 c8) → va_S A s.heap H locs → lv_has ls 8 [(0, .ref h0)] → fX0_reachByCall_p153 c2 c3 c4 c5 c7  z0 c6 c8 = some o → G 0 0 H locs (F0 m 153 ls [.int z0]) := by
    intro  z0 c6 c8 H locs ls hP hD hS hl hf
    refine (hG _ _ _ _ _).mpr ?_
    unfold fX0_reachByCall_p153 at hf
    have b1 := bd_b hf
    replace hf := bd_k hf
    have hf1 := Option.some.inj hf
    subst hf1
    have hP9 := hP.sub (ws' := (wX0_reachByCall h0 h1 h2 h3 h4 h5 h6 h7 h8 kc2 kc3 kc4 kc5 kc6 kc7 kc8 V0 V1 c2 c3 c4 c5 c6 c7 c8)) [0, 1, 2, 3, 4, 5, 6, 7, 8] rfl
    have hD9 := hD.sub (ws' := (wX0_reachByCall h0 h1 h2 h3 h4 h5 h6 h7 h8 kc2 kc3 kc4 kc5 kc6 kc7 kc8 V0 V1 c2 c3 c4 c5 c6 c7 c8)) [0, 1, 2, 3, 4, 5, 6, 7, 8] (by decide) rfl
    exact W.zret (v := z0) (ty := .boolean) hx hb hr (bz_nar b1) (fun t ht hW => ⟨⟨z0, (c6, c8), rfl, ⟨rfl, rfl⟩, by rw [ht]; exact hP9, va_K.moved hW.alike hK, hD9⟩, hS.F ht⟩) hS.2.2 dX0_reachByCall_153
  have J148 : ∀ (c6 : (Nat → Int32)) (c8 : (Nat → Int32)) (H : Heap) (locs : List Loc) (ls : Array Slot), va_P (dC, dI) vwCl (wX0_reachByCall h0 h1 h2 h3 h4 h5 h6 h7 h8 kc2 kc3 kc4 kc5 kc6 kc7 kc8 V0 V1 c2 c3 c4 c5 c6 c7 c8) H → va_D A (wX0_reachByCall h0 h1 h2 h3 h4 h5 h6 h7 h8 kc2 kc3 kc4 kc5 kc6 kc7 kc8 V0 V1 c2 c3 c4 c5 c6 c7 c8) → va_S A s.heap H locs → lv_has ls 8 [(0, .ref h0)] → fX0_reachByCall_p148 c2 c3 c4 c5 c7  c6 c8 = some o → G 0 0 H locs (F0 m 148 ls []) := by
    intro  c6 c8 H locs ls hP hD hS hl hf
    refine (hG _ _ _ _ _).mpr ?_
    unfold fX0_reachByCall_p148 at hf
    refine lv_iconst (v := 1) hx hb dX0_reachByCall_148 (by decide +kernel) ?_
    refine lv_goto (tgt := 153) hx hb dX0_reachByCall_149 (by decide) ?_
    exact (hG _ _ _ _ _).mp (J153 1 c6 c8 H locs ls (hP.sub [0, 1, 2, 3, 4, 5, 6, 7, 8] rfl) (hD.sub [0, 1, 2, 3, 4, 5, 6, 7, 8] (by decide) rfl) hS (lv_sub hl [0] rfl) hf)
  have J118 : ∀ (k81 : Int32 → Int32 → Int32 → Int32 → Int32 → Int32 → (Nat → Int32) → (Nat → Int32) → Option (Int32 × (Nat → Int32) × (Nat → Int32))) (hk81 : ∀ (y1 : Int32) (y2 : Int32) (y3 : Int32) (y5 : Int32) (y6 : Int32) (y7 : Int32) (c6 : (Nat → Int32)) (c8 : (Nat → Int32)) (H : Heap) (locs : List Loc) (ls : Array Slot), va_P (dC, dI) vwCl (wX0_reachByCall h0 h1 h2 h3 h4 h5 h6 h7 h8 kc2 kc3 kc4 kc5 kc6 kc7 kc8 V0 V1 c2 c3 c4 c5 c6 c7 c8) H → va_D A (wX0_reachByCall h0 h1 h2 h3 h4 h5 h6 h7 h8 kc2 kc3 kc4 kc5 kc6 kc7 kc8 V0 V1 c2 c3 c4 c5 c6 c7 c8) → va_S A s.heap H locs → lv_has ls 8 [(0, .ref h0), (1, .int y1), (2, .int y2), (3, .int y3), (5, .int y5), (6, .int y6), (7, .int y7)] → k81 y1 y2 y3 y5 y6 y7 c6 c8 = some o → G 0 0 H locs (F0 m 81 ls [])), ∀ (y1 : Int32) (y2 : Int32) (y3 : Int32) (y5 : Int32) (y6 : Int32) (y7 : Int32) (c6 : (Nat → Int32)) (c8 : (Nat → Int32)) (H : Heap) (locs : List Loc) (ls : Array Slot), va_P (dC, dI) vwCl (wX0_reachByCall h0 h1 h2 h3 h4 h5 h6 h7 h8 kc2 kc3 kc4 kc5 kc6 kc7 kc8 V0 V1 c2 c3 c4 c5 c6 c7 c8) H → va_D A (wX0_reachByCall h0 h1 h2 h3 h4 h5 h6 h7 h8 kc2 kc3 kc4 kc5 kc6 kc7 kc8 V0 V1 c2 c3 c4 c5 c6 c7 c8) → va_S A s.heap H locs → lv_has ls 8 [(0, .ref h0), (1, .int y1), (2, .int y2), (3, .int y3), (5, .int y5), (6, .int y6), (7, .int y7)] → fX0_reachByCall_p118 c2 c3 c4 c5 c7 k81 y1 y2 y3 y5 y6 y7 c6 c8 = some o → G 0 0 H locs (F0 m 118 ls []) := by
    intro k81 hk81 y1 y2 y3 y5 y6 y7 c6 c8 H locs ls hP hD hS hl hf
    refine (hG _ _ _ _ _).mpr ?_
    unfold fX0_reachByCall_p118 at hf
    obtain ⟨x2, e2⟩ : ∃ y : Int32, y = y7 + 8 := ⟨_, rfl⟩
    replace hf := nm_at hf e2
    refine lv_iinc (v := x2) (lv' := [(7, .int x2), (0, .ref h0), (1, .int y1), (2, .int y2), (3, .int y3), (5, .int y5), (6, .int y6)]) hx hb dX0_reachByCall_118 hl (k := 6) rfl (by rw [e2]; rfl) (by decide) rfl (fun ls hl => ?_)
    refine lv_goto (tgt := 81) hx hb dX0_reachByCall_121 (by decide) ?_
    exact (hG _ _ _ _ _).mp (hk81 y1 y2 y3 y5 y6 x2 c6 c8 H locs ls (hP.sub [0, 1, 2, 3, 4, 5, 6, 7, 8] rfl) (hD.sub [0, 1, 2, 3, 4, 5, 6, 7, 8] (by decide) rfl) hS (lv_sub hl [1, 2, 3, 4, 5, 6, 0] rfl) hf)
  have B81 : ∀ (k81 : Int32 → Int32 → Int32 → Int32 → Int32 → Int32 → (Nat → Int32) → (Nat → Int32) → Option (Int32 × (Nat → Int32) × (Nat → Int32))) (hk81 : ∀ (y1 : Int32) (y2 : Int32) (y3 : Int32) (y5 : Int32) (y6 : Int32) (y7 : Int32) (c6 : (Nat → Int32)) (c8 : (Nat → Int32)) (H : Heap) (locs : List Loc) (ls : Array Slot), va_P (dC, dI) vwCl (wX0_reachByCall h0 h1 h2 h3 h4 h5 h6 h7 h8 kc2 kc3 kc4 kc5 kc6 kc7 kc8 V0 V1 c2 c3 c4 c5 c6 c7 c8) H → va_D A (wX0_reachByCall h0 h1 h2 h3 h4 h5 h6 h7 h8 kc2 kc3 kc4 kc5 kc6 kc7 kc8 V0 V1 c2 c3 c4 c5 c6 c7 c8) → va_S A s.heap H locs → lv_has ls 8 [(0, .ref h0), (1, .int y1), (2, .int y2), (3, .int y3), (5, .int y5), (6, .int y6), (7, .int y7)] → k81 y1 y2 y3 y5 y6 y7 c6 c8 = some o → G 0 0 H locs (F0 m 81 ls [])), ∀ (y1 : Int32) (y2 : Int32) (y3 : Int32) (y5 : Int32) (y6 : Int32) (y7 : Int32) (c6 : (Nat → Int32)) (c8 : (Nat → Int32)) (H : Heap) (locs : List Loc) (ls : Array Slot), va_P (dC, dI) vwCl (wX0_reachByCall h0 h1 h2 h3 h4 h5 h6 h7 h8 kc2 kc3 kc4 kc5 kc6 kc7 kc8 V0 V1 c2 c3 c4 c5 c6 c7 c8) H → va_D A (wX0_reachByCall h0 h1 h2 h3 h4 h5 h6 h7 h8 kc2 kc3 kc4 kc5 kc6 kc7 kc8 V0 V1 c2 c3 c4 c5 c6 c7 c8) → va_S A s.heap H locs → lv_has ls 8 [(0, .ref h0), (1, .int y1), (2, .int y2), (3, .int y3), (5, .int y5), (6, .int y6), (7, .int y7)] → fX0_reachByCall_b81 c2 c3 c4 c5 c7  k81 y1 y2 y3 y5 y6 y7 c6 c8 = some o → G 0 0 H locs (F0 m 81 ls []) := by
    intro  k81 hk81 y1 y2 y3 y5 y6 y7 c6 c8 H locs ls hP hD hS hl hf
    refine (hG _ _ _ _ _).mpr ?_
    unfold fX0_reachByCall_b81 at hf
    refine lv_iload hx hb dX0_reachByCall_81 (lv_at hl 6 rfl) ?_
    refine lv_bipush (v := 32) hx hb dX0_reachByCall_83 (by decide +kernel) ?_
    refine lv_icmp_ge (tgt := 124) hx hb dX0_reachByCall_85 (by decide) (fun cq3 => ?_) (fun cq3 => ?_)
    · replace hf := if_at hf cq3
      refine lv_aload_n hx hb dX0_reachByCall_124 rfl (lv_at hl 0 rfl) ?_
      refine lv_iload_n hx hb dX0_reachByCall_125 rfl (lv_at hl 3 rfl) ?_
      refine lv_iload hx hb dX0_reachByCall_126 (lv_at hl 5 rfl) ?_
      refine lv_aload_n hx hb dX0_reachByCall_128 rfl (lv_at hl 0 rfl) ?_
      refine va_get (D := (dC, dI)) (ci := 0) (v := .ref h1) (C := RX0) (T := TX0) (N := 7) hx hb hts inlX0 hown hK hP 0 rfl rfl 1 (by decide) w0_ (fun _ h9 => h9) rfl dX0_reachByCall_129 ?_
      refine va_get (D := (dC, dI)) (ci := 3) (v := .ref h7) (C := RX3) (T := TX3) (N := 18) hx hb hts inlX3 hown hK hP 1 rfl rfl 7 (by decide) w1_ (fun _ h9 => h9) rfl dX0_reachByCall_132 ?_
      refine lv_iload_n hx hb dX0_reachByCall_135 rfl (lv_at hl 1 rfl) ?_
      have b4 := bd_in hf
      replace hf := bd_k hf
      refine va_iald hx hb hK hP 7 5 rfl rfl b4 dX0_reachByCall_136 ?_
      refine lv_topi (fun x5 e5 => ?_)
      replace hf := nm_at hf e5
      obtain ⟨o6, e6, hf⟩ := ob_some hf
      refine kVi (As := [.int y3, .int y6, .int x5]) (rest := []) ⟨hx, hb, hml, hown, hts⟩ (mX0_reachPoint l dC dI h0 h6 h8 kc6 kc8 H.size base y3 y6 x5 c6 c8 (fun k => match k with | 1 => .ref h1 | k => V0 k) o6 e6) (cwV 3 hts (gTV q990 q991 q992 q946 q993) rfl rfl rfl (by decide +kernel) ⟨Nat.le_of_ble_eq_true rfl, Nat.le_of_ble_eq_true rfl⟩) hK hP hD hS hA hE hAB [0, 6, 8] [1, 2, 3, 4, 5, 7] [4, 6] (wr := [(h1, .inr (3, [V1 0, V1 1, V1 2, V1 3, .ref h5, V1 5, V1 6, .ref h7, V1 8, V1 9, .ref h2, .ref h3, .ref h4, V1 13, V1 14, V1 15, V1 16, V1 17])), (h2, .inl (kc2, 40, .inl c2)), (h3, .inl (kc3, 40, .inl c3)), (h4, .inl (kc4, 40, .inl c4)), (h5, .inl (kc5, 6, .inl c5)), (h7, .inl (kc7, 40, .inl c7))]) rfl rfl (by decide) (by decide) (by decide) rfl (ci := 0) (q0 := 0) rfl rfl rfl rfl hl.1 rfl (Nat.le_of_ble_eq_true rfl) dX0_reachByCall_137 ⟨Nat.zero_le _, Nat.zero_le _⟩ (fun r6 u6 H locs hw6 hP hD hS => ?_)
      obtain ⟨hw61, hw62⟩ := hw6
      subst hw61 hw62
      have hP : va_P (dC, dI) vwCl (wX0_reachByCall h0 h1 h2 h3 h4 h5 h6 h7 h8 kc2 kc3 kc4 kc5 kc6 kc7 kc8 V0 V1 c2 c3 c4 c5 o6.2.1 c7 o6.2.2) H := hP.sub [6, 0, 1, 2, 3, 4, 7, 5, 8] rfl
      have hD : va_D A (wX0_reachByCall h0 h1 h2 h3 h4 h5 h6 h7 h8 kc2 kc3 kc4 kc5 kc6 kc7 kc8 V0 V1 c2 c3 c4 c5 o6.2.1 c7 o6.2.2) := hD.sub [6, 0, 1, 2, 3, 4, 7, 5, 8] (by decide) rfl
      refine lv_if_ne (tgt := 148) hx hb dX0_reachByCall_140 (by decide) (fun cq7 => ?_) (fun cq7 => ?_)
      · replace hf := if_no hf cq7
        exact (hG _ _ _ _ _).mp (J148 o6.2.1 o6.2.2 H locs ls (hP.sub [0, 1, 2, 3, 4, 5, 6, 7, 8] rfl) (hD.sub [0, 1, 2, 3, 4, 5, 6, 7, 8] (by decide) rfl) hS (lv_sub hl [0] rfl) hf)
      · replace hf := if_at hf cq7
        refine lv_iload hx hb dX0_reachByCall_143 (lv_at hl 4 rfl) ?_
        refine lv_if_eq (tgt := 152) hx hb dX0_reachByCall_145 (by decide) (fun cq8 => ?_) (fun cq8 => ?_)
        · replace hf := if_at hf cq8
          refine lv_iconst (v := 0) hx hb dX0_reachByCall_152 (by decide +kernel) ?_
          exact (hG _ _ _ _ _).mp (J153 0 o6.2.1 o6.2.2 H locs ls (hP.sub [0, 1, 2, 3, 4, 5, 6, 7, 8] rfl) (hD.sub [0, 1, 2, 3, 4, 5, 6, 7, 8] (by decide) rfl) hS (lv_sub hl [0] rfl) hf)
        · replace hf := if_no hf cq8
          exact (hG _ _ _ _ _).mp (J148 o6.2.1 o6.2.2 H locs ls (hP.sub [0, 1, 2, 3, 4, 5, 6, 7, 8] rfl) (hD.sub [0, 1, 2, 3, 4, 5, 6, 7, 8] (by decide) rfl) hS (lv_sub hl [0] rfl) hf)
    · replace hf := if_no hf cq3
      refine lv_aload_n hx hb dX0_reachByCall_88 rfl (lv_at hl 0 rfl) ?_
      refine va_get (D := (dC, dI)) (ci := 0) (v := .ref h6) (C := RX0) (T := TX0) (N := 7) hx hb hts inlX0 hown hK hP 0 rfl rfl 2 (by decide) w2_ (fun _ h9 => h9) rfl dX0_reachByCall_89 ?_
      refine lv_iload_n hx hb dX0_reachByCall_92 rfl (lv_at hl 1 rfl) ?_
      have b9 := bd_in hf
      replace hf := bd_k hf
      refine va_iald hx hb hK hP 6 4 rfl rfl b9 dX0_reachByCall_93 ?_
      refine lv_topi (fun x10 e10 => ?_)
      replace hf := nm_at hf e10
      refine lv_iload hx hb dX0_reachByCall_94 (lv_at hl 6 rfl) ?_
      refine lv_iushr hx hb dX0_reachByCall_96 rfl ?_
      refine lv_topi (fun x11 e11 => ?_)
      replace hf := nm_at hf e11
      refine lv_sipush (v := 255) hx hb dX0_reachByCall_97 (by decide +kernel) ?_
      refine lv_iand hx hb dX0_reachByCall_100 ?_
      refine lv_topi (fun x12 e12 => ?_)
      replace hf := nm_at hf e12
      refine lv_if_eq (tgt := 118) hx hb dX0_reachByCall_101 (by decide) (fun cq13 => ?_) (fun cq13 => ?_)
      · replace hf := if_at hf cq13
        exact (hG _ _ _ _ _).mp (J118 k81 hk81 y1 y2 y3 y5 y6 y7 c6 c8 H locs ls (hP.sub [0, 1, 2, 3, 4, 5, 6, 7, 8] rfl) (hD.sub [0, 1, 2, 3, 4, 5, 6, 7, 8] (by decide) rfl) hS (lv_sub hl [0, 1, 2, 3, 4, 5, 6] rfl) hf)
      · replace hf := if_no hf cq13
        refine lv_iload hx hb dX0_reachByCall_104 (lv_at hl 5 rfl) ?_
        refine lv_aload_n hx hb dX0_reachByCall_106 rfl (lv_at hl 0 rfl) ?_
        refine va_get (D := (dC, dI)) (ci := 0) (v := .ref h8) (C := RX0) (T := TX0) (N := 7) hx hb hts inlX0 hown hK hP 0 rfl rfl 3 (by decide) w3_ (fun _ h9 => h9) rfl dX0_reachByCall_107 ?_
        refine lv_iload_n hx hb dX0_reachByCall_110 rfl (lv_at hl 2 rfl) ?_
        have b14 := bd_in hf
        replace hf := bd_k hf
        refine va_iald hx hb hK hP 8 6 rfl rfl b14 dX0_reachByCall_111 ?_
        refine lv_topi (fun x15 e15 => ?_)
        replace hf := nm_at hf e15
        refine lv_iload hx hb dX0_reachByCall_112 (lv_at hl 6 rfl) ?_
        refine lv_ishl hx hb dX0_reachByCall_114 ?_
        refine lv_topi (fun x16 e16 => ?_)
        replace hf := nm_at hf e16
        refine lv_ior hx hb dX0_reachByCall_115 ?_
        refine lv_topi (fun x17 e17 => ?_)
        replace hf := nm_at hf e17
        refine lv_istore (lv' := [(6, .int x17), (0, .ref h0), (1, .int y1), (2, .int y2), (3, .int y3), (5, .int y5), (7, .int y7)]) hx hb dX0_reachByCall_116 hl (by decide) rfl (fun ls hl => ?_)
        exact (hG _ _ _ _ _).mp (J118 k81 hk81 y1 y2 y3 y5 x17 y7 c6 c8 H locs ls (hP.sub [0, 1, 2, 3, 4, 5, 6, 7, 8] rfl) (hD.sub [0, 1, 2, 3, 4, 5, 6, 7, 8] (by decide) rfl) hS (lv_sub hl [1, 2, 3, 4, 5, 0, 6] rfl) hf)
  have L81 : ∀ (n : Nat), ∀ (y1 : Int32) (y2 : Int32) (y3 : Int32) (y5 : Int32) (y6 : Int32) (y7 : Int32) (c6 : (Nat → Int32)) (c8 : (Nat → Int32)) (H : Heap) (locs : List Loc) (ls : Array Slot), va_P (dC, dI) vwCl (wX0_reachByCall h0 h1 h2 h3 h4 h5 h6 h7 h8 kc2 kc3 kc4 kc5 kc6 kc7 kc8 V0 V1 c2 c3 c4 c5 c6 c7 c8) H → va_D A (wX0_reachByCall h0 h1 h2 h3 h4 h5 h6 h7 h8 kc2 kc3 kc4 kc5 kc6 kc7 kc8 V0 V1 c2 c3 c4 c5 c6 c7 c8) → va_S A s.heap H locs → lv_has ls 8 [(0, .ref h0), (1, .int y1), (2, .int y2), (3, .int y3), (5, .int y5), (6, .int y6), (7, .int y7)] → fX0_reachByCall_l81 c2 c3 c4 c5 c7  n y1 y2 y3 y5 y6 y7 c6 c8 = some o → G 0 0 H locs (F0 m 81 ls []) := by
    intro  n
    induction n with
    | zero => intro y1 y2 y3 y5 y6 y7 c6 c8 H locs ls _ _ _ _ hf; cases hf
    | succ n ih => exact B81  _ ih
  refine (hG _ _ _ _ _).mpr ?_
  obtain ⟨H, hH⟩ : ∃ H, H = s.heap := ⟨_, rfl⟩
  have hS : va_S A s.heap H [] := by rw [hH]; exact hS
  rw [← hH] at hP ⊢
  generalize ([] : List Loc) = locs at hS ⊢
  unfold fX0_reachByCall at hf
  refine lv_aload_n hx hb dX0_reachByCall_0 rfl (lv_at hl 0 rfl) ?_
  refine va_get (D := (dC, dI)) (ci := 0) (v := .ref h1) (C := RX0) (T := TX0) (N := 7) hx hb hts inlX0 hown hK hP 0 rfl rfl 1 (by decide) w0_ (fun _ h9 => h9) rfl dX0_reachByCall_1 ?_
  refine va_get (D := (dC, dI)) (ci := 3) (v := .ref h2) (C := RX3) (T := TX3) (N := 18) hx hb hts inlX3 hown hK hP 1 rfl rfl 10 (by decide) w4_ (fun _ h9 => h9) rfl dX0_reachByCall_4 ?_
  refine lv_iload_n hx hb dX0_reachByCall_7 rfl (lv_at hl 1 rfl) ?_
  have b18 := bd_in hf
  replace hf := bd_k hf
  refine va_iald hx hb hK hP 2 0 rfl rfl b18 dX0_reachByCall_8 ?_
  refine lv_topi (fun x19 e19 => ?_)
  replace hf := nm_at hf e19
  refine lv_istore_n (lv' := [(2, .int x19), (0, .ref h0), (1, .int a0)]) hx hb dX0_reachByCall_9 rfl hl (by decide) rfl (fun ls hl => ?_)
  refine lv_aload_n hx hb dX0_reachByCall_10 rfl (lv_at hl 1 rfl) ?_
  refine va_get (D := (dC, dI)) (ci := 0) (v := .ref h1) (C := RX0) (T := TX0) (N := 7) hx hb hts inlX0 hown hK hP 0 rfl rfl 1 (by decide) w0_ (fun _ h9 => h9) rfl dX0_reachByCall_11 ?_
  refine lv_iload_n hx hb dX0_reachByCall_14 rfl (lv_at hl 2 rfl) ?_
  refine lv_iconst (v := 1) hx hb dX0_reachByCall_15 (by decide +kernel) ?_
  obtain ⟨o20, e20, hf⟩ := ob_some hf
  refine kVi (As := [.int a0, .int 1]) (rest := []) ⟨hx, hb, hml, hown, hts⟩ (mX3_pointAfter l dC dI h1 h3 h4 kc3 kc4 H.size base a0 1 c3 c4 (fun k => match k with | 4 => .ref h5 | 7 => .ref h7 | 10 => .ref h2 | k => V1 k) o20 e20) (cwV 2 hts (gTV q986 q987 q988 q23 q989) rfl rfl rfl (by decide +kernel) ⟨Nat.le_of_ble_eq_true rfl, Nat.le_of_ble_eq_true rfl⟩) hK hP hD hS hA hE hAB [1, 3, 4] [0, 2, 5, 6, 7, 8] [1, 2] (wr := [(h0, .inr (0, [V0 0, .ref h1, .ref h6, .ref h8, V0 4, V0 5, V0 6])), (h2, .inl (kc2, 40, .inl c2)), (h5, .inl (kc5, 6, .inl c5)), (h6, .inl (kc6, 40, .inl c6)), (h7, .inl (kc7, 40, .inl c7)), (h8, .inl (kc8, 6, .inl c8))]) rfl rfl (by decide) (by decide) (by decide) rfl (ci := 3) (q0 := 0) rfl rfl rfl rfl hl.1 rfl (Nat.le_of_ble_eq_true rfl) dX0_reachByCall_16 ⟨Nat.zero_le _, Nat.zero_le _⟩ (fun r20 u20 H locs hw20 hP hD hS => ?_)
  obtain ⟨hw201, hw202⟩ := hw20
  subst hw201 hw202
  have hP : va_P (dC, dI) vwCl (wX0_reachByCall h0 h1 h2 h3 h4 h5 h6 h7 h8 kc2 kc3 kc4 kc5 kc6 kc7 kc8 V0 V1 c2 c3 c4 c5 c6 c7 c8) H := hP.sub [0, 6, 1, 7, 8, 2, 3, 4, 5] rfl
  have hD : va_D A (wX0_reachByCall h0 h1 h2 h3 h4 h5 h6 h7 h8 kc2 kc3 kc4 kc5 kc6 kc7 kc8 V0 V1 c2 c3 c4 c5 c6 c7 c8) := hD.sub [0, 6, 1, 7, 8, 2, 3, 4, 5] (by decide) rfl
  refine lv_istore_n (lv' := [(3, .int o20.1), (2, .int x19), (0, .ref h0), (1, .int a0)]) hx hb dX0_reachByCall_19 rfl hl (by decide) rfl (fun ls hl => ?_)
  refine lv_aload_n hx hb dX0_reachByCall_20 rfl (lv_at hl 2 rfl) ?_
  refine va_get (D := (dC, dI)) (ci := 0) (v := .ref h1) (C := RX0) (T := TX0) (N := 7) hx hb hts inlX0 hown hK hP 0 rfl rfl 1 (by decide) w0_ (fun _ h9 => h9) rfl dX0_reachByCall_21 ?_
  refine va_get (D := (dC, dI)) (ci := 3) (v := .ref h5) (C := RX3) (T := TX3) (N := 18) hx hb hts inlX3 hown hK hP 1 rfl rfl 4 (by decide) w5_ (fun _ h9 => h9) rfl dX0_reachByCall_24 ?_
  refine lv_iload_n hx hb dX0_reachByCall_27 rfl (lv_at hl 1 rfl) ?_
  have b21 := bd_in hf
  replace hf := bd_k hf
  refine va_iald hx hb hK hP 5 3 rfl rfl b21 dX0_reachByCall_28 ?_
  refine lv_topi (fun x22 e22 => ?_)
  replace hf := nm_at hf e22
  refine lv_istore (lv' := [(4, .int x22), (3, .int o20.1), (2, .int x19), (0, .ref h0), (1, .int a0)]) hx hb dX0_reachByCall_29 hl (by decide) rfl (fun ls hl => ?_)
  refine lv_iload hx hb dX0_reachByCall_31 (lv_at hl 0 rfl) ?_
  refine lv_if_ge (tgt := 57) hx hb dX0_reachByCall_33 (by decide) (fun cq23 => ?_) (fun cq23 => ?_)
  · replace hf := if_at hf cq23
    refine lv_aload_n hx hb dX0_reachByCall_57 rfl (lv_at hl 3 rfl) ?_
    refine lv_iload hx hb dX0_reachByCall_58 (lv_at hl 0 rfl) ?_
    refine lv_aload_n hx hb dX0_reachByCall_60 rfl (lv_at hl 3 rfl) ?_
    refine va_get (D := (dC, dI)) (ci := 0) (v := .ref h6) (C := RX0) (T := TX0) (N := 7) hx hb hts inlX0 hown hK hP 0 rfl rfl 2 (by decide) w2_ (fun _ h9 => h9) rfl dX0_reachByCall_61 ?_
    refine lv_iload_n hx hb dX0_reachByCall_64 rfl (lv_at hl 4 rfl) ?_
    have b24 := bd_in hf
    replace hf := bd_k hf
    refine va_iald hx hb hK hP 6 4 rfl rfl b24 dX0_reachByCall_65 ?_
    refine lv_topi (fun x25 e25 => ?_)
    replace hf := nm_at hf e25
    obtain ⟨o26, e26, hf⟩ := ob_some hf
    refine kSi (As := [.int x25]) (rest := [.int x22, .ref h0]) ⟨hx, hb, hml, hown, hts⟩ (mX0_globalsOf l dC dI H.size base x25 o26 e26) (va_cwS 1 hts (gTS q994 q995 q946 q996) rfl rfl rfl (by decide +kernel) ⟨Nat.le_of_ble_eq_true rfl, Nat.le_of_ble_eq_true rfl⟩) hK hP hD hS hA hE hAB [] [0, 1, 2, 3, 4, 5, 6, 7, 8] [] (wr := (wX0_reachByCall h0 h1 h2 h3 h4 h5 h6 h7 h8 kc2 kc3 kc4 kc5 kc6 kc7 kc8 V0 V1 c2 c3 c4 c5 c6 c7 c8)) rfl rfl (by decide) (by decide) (by decide) rfl rfl hl.1 rfl (Nat.le_of_ble_eq_true rfl) dX0_reachByCall_66 ⟨Nat.zero_le _, Nat.zero_le _⟩ (fun r26 u26 H locs hw26 hP hD hS => ?_)
    obtain ⟨hw261, hw262⟩ := hw26
    subst hw261 hw262
    have hP : va_P (dC, dI) vwCl (wX0_reachByCall h0 h1 h2 h3 h4 h5 h6 h7 h8 kc2 kc3 kc4 kc5 kc6 kc7 kc8 V0 V1 c2 c3 c4 c5 c6 c7 c8) H := hP.sub [0, 1, 2, 3, 4, 5, 6, 7, 8] rfl
    have hD : va_D A (wX0_reachByCall h0 h1 h2 h3 h4 h5 h6 h7 h8 kc2 kc3 kc4 kc5 kc6 kc7 kc8 V0 V1 c2 c3 c4 c5 c6 c7 c8) := hD.sub [0, 1, 2, 3, 4, 5, 6, 7, 8] (by decide) rfl
    refine lv_iload_n hx hb dX0_reachByCall_69 rfl (lv_at hl 2 rfl) ?_
    obtain ⟨o27, e27, hf⟩ := ob_some hf
    refine kVi (As := [.int x22, .int o26.1, .int x19]) (rest := []) ⟨hx, hb, hml, hown, hts⟩ (mX0_reachPoint l dC dI h0 h6 h8 kc6 kc8 H.size base x22 o26.1 x19 c6 c8 (fun k => match k with | 1 => .ref h1 | k => V0 k) o27 e27) (cwV 3 hts (gTV q990 q991 q992 q946 q993) rfl rfl rfl (by decide +kernel) ⟨Nat.le_of_ble_eq_true rfl, Nat.le_of_ble_eq_true rfl⟩) hK hP hD hS hA hE hAB [0, 6, 8] [1, 2, 3, 4, 5, 7] [4, 6] (wr := [(h1, .inr (3, [V1 0, V1 1, V1 2, V1 3, .ref h5, V1 5, V1 6, .ref h7, V1 8, V1 9, .ref h2, .ref h3, .ref h4, V1 13, V1 14, V1 15, V1 16, V1 17])), (h2, .inl (kc2, 40, .inl c2)), (h3, .inl (kc3, 40, .inl c3)), (h4, .inl (kc4, 40, .inl c4)), (h5, .inl (kc5, 6, .inl c5)), (h7, .inl (kc7, 40, .inl c7))]) rfl rfl (by decide) (by decide) (by decide) rfl (ci := 0) (q0 := 0) rfl rfl rfl rfl hl.1 rfl (Nat.le_of_ble_eq_true rfl) dX0_reachByCall_70 ⟨Nat.zero_le _, Nat.zero_le _⟩ (fun r27 u27 H locs hw27 hP hD hS => ?_)
    obtain ⟨hw271, hw272⟩ := hw27
    subst hw271 hw272
    have hP : va_P (dC, dI) vwCl (wX0_reachByCall h0 h1 h2 h3 h4 h5 h6 h7 h8 kc2 kc3 kc4 kc5 kc6 kc7 kc8 V0 V1 c2 c3 c4 c5 o27.2.1 c7 o27.2.2) H := hP.sub [6, 0, 1, 2, 3, 4, 7, 5, 8] rfl
    have hD : va_D A (wX0_reachByCall h0 h1 h2 h3 h4 h5 h6 h7 h8 kc2 kc3 kc4 kc5 kc6 kc7 kc8 V0 V1 c2 c3 c4 c5 o27.2.1 c7 o27.2.2) := hD.sub [6, 0, 1, 2, 3, 4, 7, 5, 8] (by decide) rfl
    refine lv_istore (lv' := [(5, .int o27.1), (4, .int x22), (3, .int o20.1), (2, .int x19), (0, .ref h0), (1, .int a0)]) hx hb dX0_reachByCall_73 hl (by decide) rfl (fun ls hl => ?_)
    refine lv_iconst (v := 0) hx hb dX0_reachByCall_75 (by decide +kernel) ?_
    refine lv_istore (lv' := [(6, .int 0), (5, .int o27.1), (4, .int x22), (3, .int o20.1), (2, .int x19), (0, .ref h0), (1, .int a0)]) hx hb dX0_reachByCall_76 hl (by decide) rfl (fun ls hl => ?_)
    refine lv_iconst (v := 0) hx hb dX0_reachByCall_78 (by decide +kernel) ?_
    refine lv_istore (lv' := [(7, .int 0), (6, .int 0), (5, .int o27.1), (4, .int x22), (3, .int o20.1), (2, .int x19), (0, .ref h0), (1, .int a0)]) hx hb dX0_reachByCall_79 hl (by decide) rfl (fun ls hl => ?_)
    exact (hG _ _ _ _ _).mp (L81 FU a0 x19 o20.1 o27.1 0 0 o27.2.1 o27.2.2 H locs ls (hP.sub [0, 1, 2, 3, 4, 5, 6, 7, 8] rfl) (hD.sub [0, 1, 2, 3, 4, 5, 6, 7, 8] (by decide) rfl) hS (lv_sub hl [6, 7, 5, 4, 2, 1, 0] rfl) hf)
  · replace hf := if_no hf cq23
    refine lv_aload_n hx hb dX0_reachByCall_36 rfl (lv_at hl 3 rfl) ?_
    refine lv_iload_n hx hb dX0_reachByCall_37 rfl (lv_at hl 1 rfl) ?_
    refine lv_aload_n hx hb dX0_reachByCall_38 rfl (lv_at hl 3 rfl) ?_
    refine va_get (D := (dC, dI)) (ci := 0) (v := .ref h6) (C := RX0) (T := TX0) (N := 7) hx hb hts inlX0 hown hK hP 0 rfl rfl 2 (by decide) w2_ (fun _ h9 => h9) rfl dX0_reachByCall_39 ?_
    refine lv_iload_n hx hb dX0_reachByCall_42 rfl (lv_at hl 4 rfl) ?_
    have b28 := bd_in hf
    replace hf := bd_k hf
    refine va_iald hx hb hK hP 6 4 rfl rfl b28 dX0_reachByCall_43 ?_
    refine lv_topi (fun x29 e29 => ?_)
    replace hf := nm_at hf e29
    refine lv_aload_n hx hb dX0_reachByCall_44 rfl (lv_at hl 3 rfl) ?_
    refine va_get (D := (dC, dI)) (ci := 0) (v := .ref h1) (C := RX0) (T := TX0) (N := 7) hx hb hts inlX0 hown hK hP 0 rfl rfl 1 (by decide) w0_ (fun _ h9 => h9) rfl dX0_reachByCall_45 ?_
    refine va_get (D := (dC, dI)) (ci := 3) (v := .ref h7) (C := RX3) (T := TX3) (N := 18) hx hb hts inlX3 hown hK hP 1 rfl rfl 7 (by decide) w1_ (fun _ h9 => h9) rfl dX0_reachByCall_48 ?_
    refine lv_iload_n hx hb dX0_reachByCall_51 rfl (lv_at hl 4 rfl) ?_
    have b30 := bd_in hf
    replace hf := bd_k hf
    refine va_iald hx hb hK hP 7 5 rfl rfl b30 dX0_reachByCall_52 ?_
    refine lv_topi (fun x31 e31 => ?_)
    replace hf := nm_at hf e31
    obtain ⟨o32, e32, hf⟩ := ob_some hf
    refine kVi (As := [.int o20.1, .int x29, .int x31]) (rest := []) ⟨hx, hb, hml, hown, hts⟩ (mX0_reachPoint l dC dI h0 h6 h8 kc6 kc8 H.size base o20.1 x29 x31 c6 c8 (fun k => match k with | 1 => .ref h1 | k => V0 k) o32 e32) (cwV 3 hts (gTV q990 q991 q992 q946 q993) rfl rfl rfl (by decide +kernel) ⟨Nat.le_of_ble_eq_true rfl, Nat.le_of_ble_eq_true rfl⟩) hK hP hD hS hA hE hAB [0, 6, 8] [1, 2, 3, 4, 5, 7] [4, 6] (wr := [(h1, .inr (3, [V1 0, V1 1, V1 2, V1 3, .ref h5, V1 5, V1 6, .ref h7, V1 8, V1 9, .ref h2, .ref h3, .ref h4, V1 13, V1 14, V1 15, V1 16, V1 17])), (h2, .inl (kc2, 40, .inl c2)), (h3, .inl (kc3, 40, .inl c3)), (h4, .inl (kc4, 40, .inl c4)), (h5, .inl (kc5, 6, .inl c5)), (h7, .inl (kc7, 40, .inl c7))]) rfl rfl (by decide) (by decide) (by decide) rfl (ci := 0) (q0 := 0) rfl rfl rfl rfl hl.1 rfl (Nat.le_of_ble_eq_true rfl) dX0_reachByCall_53 ⟨Nat.zero_le _, Nat.zero_le _⟩ (fun r32 u32 H locs hw32 hP hD hS => ?_)
    obtain ⟨hw321, hw322⟩ := hw32
    subst hw321 hw322
    have hP : va_P (dC, dI) vwCl (wX0_reachByCall h0 h1 h2 h3 h4 h5 h6 h7 h8 kc2 kc3 kc4 kc5 kc6 kc7 kc8 V0 V1 c2 c3 c4 c5 o32.2.1 c7 o32.2.2) H := hP.sub [6, 0, 1, 2, 3, 4, 7, 5, 8] rfl
    have hD : va_D A (wX0_reachByCall h0 h1 h2 h3 h4 h5 h6 h7 h8 kc2 kc3 kc4 kc5 kc6 kc7 kc8 V0 V1 c2 c3 c4 c5 o32.2.1 c7 o32.2.2) := hD.sub [6, 0, 1, 2, 3, 4, 7, 5, 8] (by decide) rfl
    have b33 := bd_b hf
    replace hf := bd_k hf
    have hf1 := Option.some.inj hf
    subst hf1
    have hP9 := hP.sub (ws' := (wX0_reachByCall h0 h1 h2 h3 h4 h5 h6 h7 h8 kc2 kc3 kc4 kc5 kc6 kc7 kc8 V0 V1 c2 c3 c4 c5 o32.2.1 c7 o32.2.2)) [0, 1, 2, 3, 4, 5, 6, 7, 8] rfl
    have hD9 := hD.sub (ws' := (wX0_reachByCall h0 h1 h2 h3 h4 h5 h6 h7 h8 kc2 kc3 kc4 kc5 kc6 kc7 kc8 V0 V1 c2 c3 c4 c5 o32.2.1 c7 o32.2.2)) [0, 1, 2, 3, 4, 5, 6, 7, 8] (by decide) rfl
    exact W.zret (v := o32.1) (ty := .boolean) hx hb hr (bz_nar b33) (fun t ht hW => ⟨⟨o32.1, (o32.2.1, o32.2.2), rfl, ⟨rfl, rfl⟩, by rw [ht]; exact hP9, va_K.moved hW.alike hK, hD9⟩, hS.F ht⟩) hS.2.2 dX0_reachByCall_56
abbrev wX0_reachFrom (h0 h1 h2 h3 h4 h5 h6 h7 h8 h9 : Nat) (kc1 kc3 kc4 kc5 kc6 kc7 kc8 kc9 : ClassId) (V0 : Nat → Value) (V2 : Nat → Value) (c1 : Nat → Int32) (c3 : Nat → Int64) (c4 : Nat → Int32) (c5 : Nat → Int32) (c6 : Nat → Int32) (c7 : Nat → Int32) (c8 : Nat → Int32) (c9 : Nat → Int32) : va_W := [(h0, .inr (0, [V0 0, .ref h2, .ref h1, .ref h9, V0 4, V0 5, V0 6])), (h1, .inl (kc1, 40, .inl c1)), (h2, .inr (3, [V2 0, V2 1, V2 2, V2 3, V2 4, .ref h4, V2 6, .ref h8, .ref h3, .ref h5, V2 10, .ref h6, .ref h7, V2 13, V2 14, V2 15, V2 16, V2 17])), (h3, .inl (kc3, 40, .inr (.inl c3))), (h4, .inl (kc4, 40, .inl c4)), (h5, .inl (kc5, 40, .inl c5)), (h6, .inl (kc6, 40, .inl c6)), (h7, .inl (kc7, 40, .inl c7)), (h8, .inl (kc8, 40, .inl c8)), (h9, .inl (kc9, 6, .inl c9))]
set_option maxHeartbeats 4000000 in
set_option maxRecDepth 100000 in
theorem mX0_reachFrom (l : Launch) (dC : Nat → ClassId) (dI : Nat → Nat → Nat) (h0 h1 h2 h3 h4 h5 h6 h7 h8 h9 : Nat) (kc1 kc3 kc4 kc5 kc6 kc7 kc8 kc9 : ClassId) (sz : Nat) (base : Nat × Nat × Nat) (a0 : Int32) (c1 : Nat → Int32) (c3 : Nat → Int64) (c4 : Nat → Int32) (c5 : Nat → Int32) (c6 : Nat → Int32) (c7 : Nat → Int32) (c8 : Nat → Int32) (c9 : Nat → Int32) (V0 : Nat → Value) (V2 : Nat → Value) (o : Int32 × (Nat → Int32) × (Nat → Int32)) (hf : fX0_reachFrom a0 c1 c3 c4 c5 c6 c7 c8 c9 = some o) : Met l yX0_reachFrom (.code yX0_reachFrom cX0_reachFrom 7 (some .boolean) :: wsL_law) ({ frames := 2, cells := 0, slots := 0, locals := 44 }) (cPre (dC, dI) vwCl [.ref h0, .int a0] sz base (wX0_reachFrom h0 h1 h2 h3 h4 h5 h6 h7 h8 h9 kc1 kc3 kc4 kc5 kc6 kc7 kc8 kc9 V0 V2 c1 c3 c4 c5 c6 c7 c8 c9) [(kc1, .int), (kc3, .long), (kc4, .int), (kc5, .int), (kc6, .int), (kc7, .int), (kc8, .int), (kc9, .int)]) (va_Qi (fun r u => r = o.1 ∧ u = o.2) (fun (u : (Nat → Int32) × (Nat → Int32)) t => cPost (dC, dI) vwCl (va_A (wX0_reachFrom h0 h1 h2 h3 h4 h5 h6 h7 h8 h9 kc1 kc3 kc4 kc5 kc6 kc7 kc8 kc9 V0 V2 c1 c3 c4 c5 c6 c7 c8 c9) sz) (wX0_reachFrom h0 h1 h2 h3 h4 h5 h6 h7 h8 h9 kc1 kc3 kc4 kc5 kc6 kc7 kc8 kc9 V0 V2 u.1 c3 c4 c5 c6 c7 c8 u.2) [(kc1, .int), (kc3, .long), (kc4, .int), (kc5, .int), (kc6, .int), (kc7, .int), (kc8, .int), (kc9, .int)] t) (va_A (wX0_reachFrom h0 h1 h2 h3 h4 h5 h6 h7 h8 h9 kc1 kc3 kc4 kc5 kc6 kc7 kc8 kc9 V0 V2 c1 c3 c4 c5 c6 c7 c8 c9) sz)) 0 0 (va_A (wX0_reachFrom h0 h1 h2 h3 h4 h5 h6 h7 h8 h9 kc1 kc3 kc4 kc5 kc6 kc7 kc8 kc9 V0 V2 c1 c3 c4 c5 c6 c7 c8 c9) sz) := by
  refine Met.ofW (cc := cX0_reachFrom) (maxL := 7) (ret := (some .boolean)) (by decide) rfl ?_
  intro p e s m args below meth c s₁ B hml hv
  obtain ⟨rfl, hsz, hP, hK, hD0, hE⟩ := hv
  have hx := B.exec
  have hb := B.bytes
  have hr := B.returns
  have hts : ∀ w ∈ wsL_law, _ := fun w h => atoms_spec (ws := .code yX0_reachFrom cX0_reachFrom 7 (some .boolean) :: wsL_law) B.pre w (List.mem_cons_of_mem _ h)
  have hown : s.vm.findClass RX0 = some m.cls := findClass_of_methodNamed B.named
  have hlocks := B.notSynchronized
  have w0_ := hts _ q960
  have w1_ := hts _ q985
  have w2_ := hts _ q956
  subst hsz
  have hD := hD0.self (sz := s.heap.size)
  generalize hAe : va_A (wX0_reachFrom h0 h1 h2 h3 h4 h5 h6 h7 h8 h9 kc1 kc3 kc4 kc5 kc6 kc7 kc8 kc9 V0 V2 c1 c3 c4 c5 c6 c7 c8 c9) s.heap.size = A at hD ⊢
  have hA : ∀ q : Nat, s.heap.size ≤ q → A q := fun q h => by rw [← hAe]; exact Or.inr h
  have hAB : ∀ q : Nat, A q → base.1 ≤ q := fun q h => by rw [← hAe] at h; exact h.elim (fun ⟨k, e, hk⟩ => hD0.2 k _ hk) (fun hk => Nat.le_trans hE.1 hk)
  have hS : va_S A s.heap s.heap [] := va_S.rf
  have hl := lv_entry ([.ref h0, .int a0]) (n := 7) (Nat.le_of_ble_eq_true rfl)
  rw [lg_entry_eq]
  generalize (lg_sl ([.ref h0, .int a0]) ++ List.replicate (7 - (lg_sl ([.ref h0, .int a0])).length) Slot.unset).toArray = ls at hl ⊢
  have hl : lv_has ls 7 [(0, .ref h0), (1, .int a0)] := hl
  have hP : va_P (dC, dI) vwCl (wX0_reachFrom h0 h1 h2 h3 h4 h5 h6 h7 h8 h9 kc1 kc3 kc4 kc5 kc6 kc7 kc8 kc9 V0 V2 c1 c3 c4 c5 c6 c7 c8 c9) s.heap := hP
  refine gl_intro (fun G hG => ?_)
  have J79 : ∀ (k4 : Int32 → Int32 → Int32 → (Nat → Int32) → (Nat → Int32) → Option (Int32 × (Nat → Int32) × (Nat → Int32))) (hk4 : ∀ (y1 : Int32) (y2 : Int32) (y3 : Int32) (c1 : (Nat → Int32)) (c9 : (Nat → Int32)) (H : Heap) (locs : List Loc) (ls : Array Slot), va_P (dC, dI) vwCl (wX0_reachFrom h0 h1 h2 h3 h4 h5 h6 h7 h8 h9 kc1 kc3 kc4 kc5 kc6 kc7 kc8 kc9 V0 V2 c1 c3 c4 c5 c6 c7 c8 c9) H → va_D A (wX0_reachFrom h0 h1 h2 h3 h4 h5 h6 h7 h8 h9 kc1 kc3 kc4 kc5 kc6 kc7 kc8 kc9 V0 V2 c1 c3 c4 c5 c6 c7 c8 c9) → va_S A s.heap H locs → lv_has ls 7 [(0, .ref h0), (1, .int y1), (2, .int y2), (3, .int y3)] → k4 y1 y2 y3 c1 c9 = some o → G 0 0 H locs (F0 m 4 ls [])), ∀ (y1 : Int32) (y2 : Int32) (y3 : Int32) (y5 : Int32) (c1 : (Nat → Int32)) (c9 : (Nat → Int32)) (H : Heap) (locs : List Loc) (ls : Array Slot), va_P (dC, dI) vwCl (wX0_reachFrom h0 h1 h2 h3 h4 h5 h6 h7 h8 h9 kc1 kc3 kc4 kc5 kc6 kc7 kc8 kc9 V0 V2 c1 c3 c4 c5 c6 c7 c8 c9) H → va_D A (wX0_reachFrom h0 h1 h2 h3 h4 h5 h6 h7 h8 h9 kc1 kc3 kc4 kc5 kc6 kc7 kc8 kc9 V0 V2 c1 c3 c4 c5 c6 c7 c8 c9) → va_S A s.heap H locs → lv_has ls 7 [(0, .ref h0), (1, .int y1), (2, .int y2), (3, .int y3), (5, .int y5)] → fX0_reachFrom_p79 c3 c4 c5 c6 c7 c8 k4 y1 y2 y3 y5 c1 c9 = some o → G 0 0 H locs (F0 m 79 ls []) := by
    intro k4 hk4 y1 y2 y3 y5 c1 c9 H locs ls hP hD hS hl hf
    refine (hG _ _ _ _ _).mpr ?_
    unfold fX0_reachFrom_p79 at hf
    refine lv_iload_n hx hb dX0_reachFrom_79 rfl (lv_at hl 2 rfl) ?_
    refine lv_aload_n hx hb dX0_reachFrom_80 rfl (lv_at hl 0 rfl) ?_
    refine lv_aload_n hx hb dX0_reachFrom_81 rfl (lv_at hl 0 rfl) ?_
    refine va_get (D := (dC, dI)) (ci := 0) (v := .ref h2) (C := RX0) (T := TX0) (N := 7) hx hb hts inlX0 hown hK hP 0 rfl rfl 1 (by decide) w0_ (fun _ h9 => h9) rfl dX0_reachFrom_82 ?_
    refine lv_iload_n hx hb dX0_reachFrom_85 rfl (lv_at hl 1 rfl) ?_
    refine lv_iload_n hx hb dX0_reachFrom_86 rfl (lv_at hl 3 rfl) ?_
    obtain ⟨o1, e1, hf⟩ := ob_some hf
    refine kVi (As := [.int y1, .int y3]) (rest := [.ref h0, .int y2]) ⟨hx, hb, hml, hown, hts⟩ (mX3_pointAfter l dC dI h2 h6 h7 kc6 kc7 H.size base y1 y3 c6 c7 (fun k => match k with | 5 => .ref h4 | 7 => .ref h8 | 8 => .ref h3 | 9 => .ref h5 | k => V2 k) o1 e1) (cwV 2 hts (gTV q986 q987 q988 q23 q989) rfl rfl rfl (by decide +kernel) ⟨Nat.le_of_ble_eq_true rfl, Nat.le_of_ble_eq_true rfl⟩) hK hP hD hS hA hE hAB [2, 6, 7] [0, 1, 3, 4, 5, 8, 9] [4, 5] (wr := [(h0, .inr (0, [V0 0, .ref h2, .ref h1, .ref h9, V0 4, V0 5, V0 6])), (h1, .inl (kc1, 40, .inl c1)), (h3, .inl (kc3, 40, .inr (.inl c3))), (h4, .inl (kc4, 40, .inl c4)), (h5, .inl (kc5, 40, .inl c5)), (h8, .inl (kc8, 40, .inl c8)), (h9, .inl (kc9, 6, .inl c9))]) rfl rfl (by decide) (by decide) (by decide) rfl (ci := 3) (q0 := 0) rfl rfl rfl rfl hl.1 rfl (Nat.le_of_ble_eq_true rfl) dX0_reachFrom_87 ⟨Nat.zero_le _, Nat.zero_le _⟩ (fun r1 u1 H locs hw1 hP hD hS => ?_)
    obtain ⟨hw11, hw12⟩ := hw1
    subst hw11 hw12
    have hP : va_P (dC, dI) vwCl (wX0_reachFrom h0 h1 h2 h3 h4 h5 h6 h7 h8 h9 kc1 kc3 kc4 kc5 kc6 kc7 kc8 kc9 V0 V2 c1 c3 c4 c5 c6 c7 c8 c9) H := hP.sub [0, 1, 7, 2, 3, 4, 8, 9, 5, 6] rfl
    have hD : va_D A (wX0_reachFrom h0 h1 h2 h3 h4 h5 h6 h7 h8 h9 kc1 kc3 kc4 kc5 kc6 kc7 kc8 kc9 V0 V2 c1 c3 c4 c5 c6 c7 c8 c9) := hD.sub [0, 1, 7, 2, 3, 4, 8, 9, 5, 6] (by decide) rfl
    refine lv_iload hx hb dX0_reachFrom_90 (lv_at hl 4 rfl) ?_
    refine lv_aload_n hx hb dX0_reachFrom_92 rfl (lv_at hl 0 rfl) ?_
    refine va_get (D := (dC, dI)) (ci := 0) (v := .ref h2) (C := RX0) (T := TX0) (N := 7) hx hb hts inlX0 hown hK hP 0 rfl rfl 1 (by decide) w0_ (fun _ h9 => h9) rfl dX0_reachFrom_93 ?_
    refine va_get (D := (dC, dI)) (ci := 3) (v := .ref h8) (C := RX3) (T := TX3) (N := 18) hx hb hts inlX3 hown hK hP 2 rfl rfl 7 (by decide) w1_ (fun _ h9 => h9) rfl dX0_reachFrom_96 ?_
    refine lv_iload_n hx hb dX0_reachFrom_99 rfl (lv_at hl 1 rfl) ?_
    have b2 := bd_in hf
    replace hf := bd_k hf
    refine va_iald hx hb hK hP 8 6 rfl rfl b2 dX0_reachFrom_100 ?_
    refine lv_topi (fun x3 e3 => ?_)
    replace hf := nm_at hf e3
    obtain ⟨o4, e4, hf⟩ := ob_some hf
    refine kVi (As := [.int o1.1, .int y5, .int x3]) (rest := [.int y2]) ⟨hx, hb, hml, hown, hts⟩ (mX0_reachPoint l dC dI h0 h1 h9 kc1 kc9 H.size base o1.1 y5 x3 c1 c9 (fun k => match k with | 1 => .ref h2 | k => V0 k) o4 e4) (cwV 3 hts (gTV q990 q991 q992 q946 q993) rfl rfl rfl (by decide +kernel) ⟨Nat.le_of_ble_eq_true rfl, Nat.le_of_ble_eq_true rfl⟩) hK hP hD hS hA hE hAB [0, 1, 9] [2, 3, 4, 5, 6, 7, 8] [0, 7] (wr := [(h2, .inr (3, [V2 0, V2 1, V2 2, V2 3, V2 4, .ref h4, V2 6, .ref h8, .ref h3, .ref h5, V2 10, .ref h6, .ref h7, V2 13, V2 14, V2 15, V2 16, V2 17])), (h3, .inl (kc3, 40, .inr (.inl c3))), (h4, .inl (kc4, 40, .inl c4)), (h5, .inl (kc5, 40, .inl c5)), (h6, .inl (kc6, 40, .inl c6)), (h7, .inl (kc7, 40, .inl c7)), (h8, .inl (kc8, 40, .inl c8))]) rfl rfl (by decide) (by decide) (by decide) rfl (ci := 0) (q0 := 0) rfl rfl rfl rfl hl.1 rfl (Nat.le_of_ble_eq_true rfl) dX0_reachFrom_101 ⟨Nat.zero_le _, Nat.zero_le _⟩ (fun r4 u4 H locs hw4 hP hD hS => ?_)
    obtain ⟨hw41, hw42⟩ := hw4
    subst hw41 hw42
    have hP : va_P (dC, dI) vwCl (wX0_reachFrom h0 h1 h2 h3 h4 h5 h6 h7 h8 h9 kc1 kc3 kc4 kc5 kc6 kc7 kc8 kc9 V0 V2 o4.2.1 c3 c4 c5 c6 c7 c8 o4.2.2) H := hP.sub [7, 8, 0, 1, 2, 3, 4, 5, 6, 9] rfl
    have hD : va_D A (wX0_reachFrom h0 h1 h2 h3 h4 h5 h6 h7 h8 h9 kc1 kc3 kc4 kc5 kc6 kc7 kc8 kc9 V0 V2 o4.2.1 c3 c4 c5 c6 c7 c8 o4.2.2) := hD.sub [7, 8, 0, 1, 2, 3, 4, 5, 6, 9] (by decide) rfl
    refine lv_ior hx hb dX0_reachFrom_104 ?_
    refine lv_topi (fun x5 e5 => ?_)
    replace hf := nm_at hf e5
    refine lv_istore_n (lv' := [(2, .int x5), (0, .ref h0), (1, .int y1), (3, .int y3), (5, .int y5)]) hx hb dX0_reachFrom_105 rfl hl (by decide) rfl (fun ls hl => ?_)
    obtain ⟨x6, e6⟩ : ∃ y : Int32, y = y3 + 1 := ⟨_, rfl⟩
    replace hf := nm_at hf e6
    refine lv_iinc (v := x6) (lv' := [(3, .int x6), (2, .int x5), (0, .ref h0), (1, .int y1), (5, .int y5)]) hx hb dX0_reachFrom_106 hl (k := 3) rfl (by rw [e6]; rfl) (by decide) rfl (fun ls hl => ?_)
    refine lv_goto (tgt := 4) hx hb dX0_reachFrom_109 (by decide) ?_
    exact (hG _ _ _ _ _).mp (hk4 y1 x5 x6 o4.2.1 o4.2.2 H locs ls (hP.sub [0, 1, 2, 3, 4, 5, 6, 7, 8, 9] rfl) (hD.sub [0, 1, 2, 3, 4, 5, 6, 7, 8, 9] (by decide) rfl) hS (lv_sub hl [2, 3, 1, 0] rfl) hf)
  have J73 : ∀ (k4 : Int32 → Int32 → Int32 → (Nat → Int32) → (Nat → Int32) → Option (Int32 × (Nat → Int32) × (Nat → Int32))) (hk4 : ∀ (y1 : Int32) (y2 : Int32) (y3 : Int32) (c1 : (Nat → Int32)) (c9 : (Nat → Int32)) (H : Heap) (locs : List Loc) (ls : Array Slot), va_P (dC, dI) vwCl (wX0_reachFrom h0 h1 h2 h3 h4 h5 h6 h7 h8 h9 kc1 kc3 kc4 kc5 kc6 kc7 kc8 kc9 V0 V2 c1 c3 c4 c5 c6 c7 c8 c9) H → va_D A (wX0_reachFrom h0 h1 h2 h3 h4 h5 h6 h7 h8 h9 kc1 kc3 kc4 kc5 kc6 kc7 kc8 kc9 V0 V2 c1 c3 c4 c5 c6 c7 c8 c9) → va_S A s.heap H locs → lv_has ls 7 [(0, .ref h0), (1, .int y1), (2, .int y2), (3, .int y3)] → k4 y1 y2 y3 c1 c9 = some o → G 0 0 H locs (F0 m 4 ls [])) (k33 : Int32 → Int32 → Int32 → Int32 → Int32 → Int32 → (Nat → Int32) → (Nat → Int32) → Option (Int32 × (Nat → Int32) × (Nat → Int32))) (hk33 : ∀ (y1 : Int32) (y2 : Int32) (y3 : Int32) (y4 : Int32) (y5 : Int32) (y6 : Int32) (c1 : (Nat → Int32)) (c9 : (Nat → Int32)) (H : Heap) (locs : List Loc) (ls : Array Slot), va_P (dC, dI) vwCl (wX0_reachFrom h0 h1 h2 h3 h4 h5 h6 h7 h8 h9 kc1 kc3 kc4 kc5 kc6 kc7 kc8 kc9 V0 V2 c1 c3 c4 c5 c6 c7 c8 c9) H → va_D A (wX0_reachFrom h0 h1 h2 h3 h4 h5 h6 h7 h8 h9 kc1 kc3 kc4 kc5 kc6 kc7 kc8 kc9 V0 V2 c1 c3 c4 c5 c6 c7 c8 c9) → va_S A s.heap H locs → lv_has ls 7 [(0, .ref h0), (1, .int y1), (2, .int y2), (3, .int y3), (4, .int y4), (5, .int y5), (6, .int y6)] → k33 y1 y2 y3 y4 y5 y6 c1 c9 = some o → G 0 0 H locs (F0 m 33 ls [])), ∀ (y1 : Int32) (y2 : Int32) (y3 : Int32) (y4 : Int32) (y5 : Int32) (y6 : Int32) (c1 : (Nat → Int32)) (c9 : (Nat → Int32)) (H : Heap) (locs : List Loc) (ls : Array Slot), va_P (dC, dI) vwCl (wX0_reachFrom h0 h1 h2 h3 h4 h5 h6 h7 h8 h9 kc1 kc3 kc4 kc5 kc6 kc7 kc8 kc9 V0 V2 c1 c3 c4 c5 c6 c7 c8 c9) H → va_D A (wX0_reachFrom h0 h1 h2 h3 h4 h5 h6 h7 h8 h9 kc1 kc3 kc4 kc5 kc6 kc7 kc8 kc9 V0 V2 c1 c3 c4 c5 c6 c7 c8 c9) → va_S A s.heap H locs → lv_has ls 7 [(0, .ref h0), (1, .int y1), (2, .int y2), (3, .int y3), (4, .int y4), (5, .int y5), (6, .int y6)] → fX0_reachFrom_p73 c3 c4 c5 c6 c7 c8 k4 k33 y1 y2 y3 y4 y5 y6 c1 c9 = some o → G 0 0 H locs (F0 m 73 ls []) := by
    intro k4 hk4 k33 hk33 y1 y2 y3 y4 y5 y6 c1 c9 H locs ls hP hD hS hl hf
    refine (hG _ _ _ _ _).mpr ?_
    unfold fX0_reachFrom_p73 at hf
    obtain ⟨x7, e7⟩ : ∃ y : Int32, y = y6 + 1 := ⟨_, rfl⟩
    replace hf := nm_at hf e7
    refine lv_iinc (v := x7) (lv' := [(6, .int x7), (0, .ref h0), (1, .int y1), (2, .int y2), (3, .int y3), (4, .int y4), (5, .int y5)]) hx hb dX0_reachFrom_73 hl (k := 6) rfl (by rw [e7]; rfl) (by decide) rfl (fun ls hl => ?_)
    refine lv_goto (tgt := 33) hx hb dX0_reachFrom_76 (by decide) ?_
    exact (hG _ _ _ _ _).mp (hk33 y1 y2 y3 y4 y5 x7 c1 c9 H locs ls (hP.sub [0, 1, 2, 3, 4, 5, 6, 7, 8, 9] rfl) (hD.sub [0, 1, 2, 3, 4, 5, 6, 7, 8, 9] (by decide) rfl) hS (lv_sub hl [1, 2, 3, 4, 5, 6, 0] rfl) hf)
  have B33 : ∀ (k4 : Int32 → Int32 → Int32 → (Nat → Int32) → (Nat → Int32) → Option (Int32 × (Nat → Int32) × (Nat → Int32))) (hk4 : ∀ (y1 : Int32) (y2 : Int32) (y3 : Int32) (c1 : (Nat → Int32)) (c9 : (Nat → Int32)) (H : Heap) (locs : List Loc) (ls : Array Slot), va_P (dC, dI) vwCl (wX0_reachFrom h0 h1 h2 h3 h4 h5 h6 h7 h8 h9 kc1 kc3 kc4 kc5 kc6 kc7 kc8 kc9 V0 V2 c1 c3 c4 c5 c6 c7 c8 c9) H → va_D A (wX0_reachFrom h0 h1 h2 h3 h4 h5 h6 h7 h8 h9 kc1 kc3 kc4 kc5 kc6 kc7 kc8 kc9 V0 V2 c1 c3 c4 c5 c6 c7 c8 c9) → va_S A s.heap H locs → lv_has ls 7 [(0, .ref h0), (1, .int y1), (2, .int y2), (3, .int y3)] → k4 y1 y2 y3 c1 c9 = some o → G 0 0 H locs (F0 m 4 ls [])) (k33 : Int32 → Int32 → Int32 → Int32 → Int32 → Int32 → (Nat → Int32) → (Nat → Int32) → Option (Int32 × (Nat → Int32) × (Nat → Int32))) (hk33 : ∀ (y1 : Int32) (y2 : Int32) (y3 : Int32) (y4 : Int32) (y5 : Int32) (y6 : Int32) (c1 : (Nat → Int32)) (c9 : (Nat → Int32)) (H : Heap) (locs : List Loc) (ls : Array Slot), va_P (dC, dI) vwCl (wX0_reachFrom h0 h1 h2 h3 h4 h5 h6 h7 h8 h9 kc1 kc3 kc4 kc5 kc6 kc7 kc8 kc9 V0 V2 c1 c3 c4 c5 c6 c7 c8 c9) H → va_D A (wX0_reachFrom h0 h1 h2 h3 h4 h5 h6 h7 h8 h9 kc1 kc3 kc4 kc5 kc6 kc7 kc8 kc9 V0 V2 c1 c3 c4 c5 c6 c7 c8 c9) → va_S A s.heap H locs → lv_has ls 7 [(0, .ref h0), (1, .int y1), (2, .int y2), (3, .int y3), (4, .int y4), (5, .int y5), (6, .int y6)] → k33 y1 y2 y3 y4 y5 y6 c1 c9 = some o → G 0 0 H locs (F0 m 33 ls [])), ∀ (y1 : Int32) (y2 : Int32) (y3 : Int32) (y4 : Int32) (y5 : Int32) (y6 : Int32) (c1 : (Nat → Int32)) (c9 : (Nat → Int32)) (H : Heap) (locs : List Loc) (ls : Array Slot), va_P (dC, dI) vwCl (wX0_reachFrom h0 h1 h2 h3 h4 h5 h6 h7 h8 h9 kc1 kc3 kc4 kc5 kc6 kc7 kc8 kc9 V0 V2 c1 c3 c4 c5 c6 c7 c8 c9) H → va_D A (wX0_reachFrom h0 h1 h2 h3 h4 h5 h6 h7 h8 h9 kc1 kc3 kc4 kc5 kc6 kc7 kc8 kc9 V0 V2 c1 c3 c4 c5 c6 c7 c8 c9) → va_S A s.heap H locs → lv_has ls 7 [(0, .ref h0), (1, .int y1), (2, .int y2), (3, .int y3), (4, .int y4), (5, .int y5), (6, .int y6)] → fX0_reachFrom_b33 c3 c4 c5 c6 c7 c8 k4 k33 y1 y2 y3 y4 y5 y6 c1 c9 = some o → G 0 0 H locs (F0 m 33 ls []) := by
    intro k4 hk4 k33 hk33 y1 y2 y3 y4 y5 y6 c1 c9 H locs ls hP hD hS hl hf
    refine (hG _ _ _ _ _).mpr ?_
    unfold fX0_reachFrom_b33 at hf
    refine lv_iload hx hb dX0_reachFrom_33 (lv_at hl 4 rfl) ?_
    refine lv_if_eq (tgt := 79) hx hb dX0_reachFrom_35 (by decide) (fun cq8 => ?_) (fun cq8 => ?_)
    · replace hf := if_at hf cq8
      exact (hG _ _ _ _ _).mp (J79 k4 hk4 y1 y2 y3 y5 c1 c9 H locs ls (hP.sub [0, 1, 2, 3, 4, 5, 6, 7, 8, 9] rfl) (hD.sub [0, 1, 2, 3, 4, 5, 6, 7, 8, 9] (by decide) rfl) hS (lv_sub hl [0, 1, 2, 3, 5] rfl) hf)
    · replace hf := if_no hf cq8
      refine lv_iload hx hb dX0_reachFrom_38 (lv_at hl 6 rfl) ?_
      refine lv_bipush (v := 32) hx hb dX0_reachFrom_40 (by decide +kernel) ?_
      refine lv_icmp_ge (tgt := 79) hx hb dX0_reachFrom_42 (by decide) (fun cq9 => ?_) (fun cq9 => ?_)
      · replace hf := if_at hf cq9
        exact (hG _ _ _ _ _).mp (J79 k4 hk4 y1 y2 y3 y5 c1 c9 H locs ls (hP.sub [0, 1, 2, 3, 4, 5, 6, 7, 8, 9] rfl) (hD.sub [0, 1, 2, 3, 4, 5, 6, 7, 8, 9] (by decide) rfl) hS (lv_sub hl [0, 1, 2, 3, 5] rfl) hf)
      · replace hf := if_no hf cq9
        refine lv_iload hx hb dX0_reachFrom_45 (lv_at hl 4 rfl) ?_
        refine lv_iload hx hb dX0_reachFrom_47 (lv_at hl 6 rfl) ?_
        refine lv_iushr hx hb dX0_reachFrom_49 rfl ?_
        refine lv_topi (fun x10 e10 => ?_)
        replace hf := nm_at hf e10
        refine lv_iconst (v := 1) hx hb dX0_reachFrom_50 (by decide +kernel) ?_
        refine lv_iand hx hb dX0_reachFrom_51 ?_
        refine lv_topi (fun x11 e11 => ?_)
        replace hf := nm_at hf e11
        refine lv_if_eq (tgt := 73) hx hb dX0_reachFrom_52 (by decide) (fun cq12 => ?_) (fun cq12 => ?_)
        · replace hf := if_at hf cq12
          exact (hG _ _ _ _ _).mp (J73 k4 hk4 k33 hk33 y1 y2 y3 y4 y5 y6 c1 c9 H locs ls (hP.sub [0, 1, 2, 3, 4, 5, 6, 7, 8, 9] rfl) (hD.sub [0, 1, 2, 3, 4, 5, 6, 7, 8, 9] (by decide) rfl) hS (lv_sub hl [0, 1, 2, 3, 4, 5, 6] rfl) hf)
        · replace hf := if_no hf cq12
          refine lv_iload hx hb dX0_reachFrom_55 (lv_at hl 5 rfl) ?_
          refine lv_iconst (v := 1) hx hb dX0_reachFrom_57 (by decide +kernel) ?_
          refine lv_aload_n hx hb dX0_reachFrom_58 rfl (lv_at hl 0 rfl) ?_
          refine va_get (D := (dC, dI)) (ci := 0) (v := .ref h2) (C := RX0) (T := TX0) (N := 7) hx hb hts inlX0 hown hK hP 0 rfl rfl 1 (by decide) w0_ (fun _ h9 => h9) rfl dX0_reachFrom_59 ?_
          refine lv_iload_n hx hb dX0_reachFrom_62 rfl (lv_at hl 1 rfl) ?_
          refine lv_iload hx hb dX0_reachFrom_63 (lv_at hl 6 rfl) ?_
          refine lv_iload_n hx hb dX0_reachFrom_65 rfl (lv_at hl 3 rfl) ?_
          obtain ⟨o13, e13, hf⟩ := ob_some hf
          refine kVi (As := [.int y1, .int y6, .int y3]) (rest := [.int 1, .int y5]) ⟨hx, hb, hml, hown, hts⟩ (mX3_settingAfter l dC dI h2 h4 h5 kc4 kc5 H.size base y1 y6 y3 c4 c5 (fun k => match k with | 7 => .ref h8 | 8 => .ref h3 | 11 => .ref h6 | 12 => .ref h7 | k => V2 k) o13 e13) (cwV 3 hts (gTV q1005 q1006 q1007 q23 q1008) rfl rfl rfl (by decide +kernel) ⟨Nat.le_of_ble_eq_true rfl, Nat.le_of_ble_eq_true rfl⟩) hK hP hD hS hA hE hAB [2, 4, 5] [0, 1, 3, 6, 7, 8, 9] [2, 3] (wr := [(h0, .inr (0, [V0 0, .ref h2, .ref h1, .ref h9, V0 4, V0 5, V0 6])), (h1, .inl (kc1, 40, .inl c1)), (h3, .inl (kc3, 40, .inr (.inl c3))), (h6, .inl (kc6, 40, .inl c6)), (h7, .inl (kc7, 40, .inl c7)), (h8, .inl (kc8, 40, .inl c8)), (h9, .inl (kc9, 6, .inl c9))]) rfl rfl (by decide) (by decide) (by decide) rfl (ci := 3) (q0 := 0) rfl rfl rfl rfl hl.1 rfl (Nat.le_of_ble_eq_true rfl) dX0_reachFrom_66 ⟨Nat.zero_le _, Nat.zero_le _⟩ (fun r13 u13 H locs hw13 hP hD hS => ?_)
          obtain ⟨hw131, hw132⟩ := hw13
          subst hw131 hw132
          have hP : va_P (dC, dI) vwCl (wX0_reachFrom h0 h1 h2 h3 h4 h5 h6 h7 h8 h9 kc1 kc3 kc4 kc5 kc6 kc7 kc8 kc9 V0 V2 c1 c3 c4 c5 c6 c7 c8 c9) H := hP.sub [0, 1, 7, 2, 8, 9, 3, 4, 5, 6] rfl
          have hD : va_D A (wX0_reachFrom h0 h1 h2 h3 h4 h5 h6 h7 h8 h9 kc1 kc3 kc4 kc5 kc6 kc7 kc8 kc9 V0 V2 c1 c3 c4 c5 c6 c7 c8 c9) := hD.sub [0, 1, 7, 2, 8, 9, 3, 4, 5, 6] (by decide) rfl
          refine lv_ishl hx hb dX0_reachFrom_69 ?_
          refine lv_topi (fun x14 e14 => ?_)
          replace hf := nm_at hf e14
          refine lv_ior hx hb dX0_reachFrom_70 ?_
          refine lv_topi (fun x15 e15 => ?_)
          replace hf := nm_at hf e15
          refine lv_istore (lv' := [(5, .int x15), (0, .ref h0), (1, .int y1), (2, .int y2), (3, .int y3), (4, .int y4), (6, .int y6)]) hx hb dX0_reachFrom_71 hl (by decide) rfl (fun ls hl => ?_)
          exact (hG _ _ _ _ _).mp (J73 k4 hk4 k33 hk33 y1 y2 y3 y4 x15 y6 c1 c9 H locs ls (hP.sub [0, 1, 2, 3, 4, 5, 6, 7, 8, 9] rfl) (hD.sub [0, 1, 2, 3, 4, 5, 6, 7, 8, 9] (by decide) rfl) hS (lv_sub hl [1, 2, 3, 4, 5, 0, 6] rfl) hf)
  have L33 : ∀ (k4 : Int32 → Int32 → Int32 → (Nat → Int32) → (Nat → Int32) → Option (Int32 × (Nat → Int32) × (Nat → Int32))) (hk4 : ∀ (y1 : Int32) (y2 : Int32) (y3 : Int32) (c1 : (Nat → Int32)) (c9 : (Nat → Int32)) (H : Heap) (locs : List Loc) (ls : Array Slot), va_P (dC, dI) vwCl (wX0_reachFrom h0 h1 h2 h3 h4 h5 h6 h7 h8 h9 kc1 kc3 kc4 kc5 kc6 kc7 kc8 kc9 V0 V2 c1 c3 c4 c5 c6 c7 c8 c9) H → va_D A (wX0_reachFrom h0 h1 h2 h3 h4 h5 h6 h7 h8 h9 kc1 kc3 kc4 kc5 kc6 kc7 kc8 kc9 V0 V2 c1 c3 c4 c5 c6 c7 c8 c9) → va_S A s.heap H locs → lv_has ls 7 [(0, .ref h0), (1, .int y1), (2, .int y2), (3, .int y3)] → k4 y1 y2 y3 c1 c9 = some o → G 0 0 H locs (F0 m 4 ls [])) (n : Nat), ∀ (y1 : Int32) (y2 : Int32) (y3 : Int32) (y4 : Int32) (y5 : Int32) (y6 : Int32) (c1 : (Nat → Int32)) (c9 : (Nat → Int32)) (H : Heap) (locs : List Loc) (ls : Array Slot), va_P (dC, dI) vwCl (wX0_reachFrom h0 h1 h2 h3 h4 h5 h6 h7 h8 h9 kc1 kc3 kc4 kc5 kc6 kc7 kc8 kc9 V0 V2 c1 c3 c4 c5 c6 c7 c8 c9) H → va_D A (wX0_reachFrom h0 h1 h2 h3 h4 h5 h6 h7 h8 h9 kc1 kc3 kc4 kc5 kc6 kc7 kc8 kc9 V0 V2 c1 c3 c4 c5 c6 c7 c8 c9) → va_S A s.heap H locs → lv_has ls 7 [(0, .ref h0), (1, .int y1), (2, .int y2), (3, .int y3), (4, .int y4), (5, .int y5), (6, .int y6)] → fX0_reachFrom_l33 c3 c4 c5 c6 c7 c8 k4 n y1 y2 y3 y4 y5 y6 c1 c9 = some o → G 0 0 H locs (F0 m 33 ls []) := by
    intro k4 hk4 n
    induction n with
    | zero => intro y1 y2 y3 y4 y5 y6 c1 c9 H locs ls _ _ _ _ hf; cases hf
    | succ n ih => exact B33 k4 hk4 _ ih
  have B4 : ∀ (k4 : Int32 → Int32 → Int32 → (Nat → Int32) → (Nat → Int32) → Option (Int32 × (Nat → Int32) × (Nat → Int32))) (hk4 : ∀ (y1 : Int32) (y2 : Int32) (y3 : Int32) (c1 : (Nat → Int32)) (c9 : (Nat → Int32)) (H : Heap) (locs : List Loc) (ls : Array Slot), va_P (dC, dI) vwCl (wX0_reachFrom h0 h1 h2 h3 h4 h5 h6 h7 h8 h9 kc1 kc3 kc4 kc5 kc6 kc7 kc8 kc9 V0 V2 c1 c3 c4 c5 c6 c7 c8 c9) H → va_D A (wX0_reachFrom h0 h1 h2 h3 h4 h5 h6 h7 h8 h9 kc1 kc3 kc4 kc5 kc6 kc7 kc8 kc9 V0 V2 c1 c3 c4 c5 c6 c7 c8 c9) → va_S A s.heap H locs → lv_has ls 7 [(0, .ref h0), (1, .int y1), (2, .int y2), (3, .int y3)] → k4 y1 y2 y3 c1 c9 = some o → G 0 0 H locs (F0 m 4 ls [])), ∀ (y1 : Int32) (y2 : Int32) (y3 : Int32) (c1 : (Nat → Int32)) (c9 : (Nat → Int32)) (H : Heap) (locs : List Loc) (ls : Array Slot), va_P (dC, dI) vwCl (wX0_reachFrom h0 h1 h2 h3 h4 h5 h6 h7 h8 h9 kc1 kc3 kc4 kc5 kc6 kc7 kc8 kc9 V0 V2 c1 c3 c4 c5 c6 c7 c8 c9) H → va_D A (wX0_reachFrom h0 h1 h2 h3 h4 h5 h6 h7 h8 h9 kc1 kc3 kc4 kc5 kc6 kc7 kc8 kc9 V0 V2 c1 c3 c4 c5 c6 c7 c8 c9) → va_S A s.heap H locs → lv_has ls 7 [(0, .ref h0), (1, .int y1), (2, .int y2), (3, .int y3)] → fX0_reachFrom_b4 c3 c4 c5 c6 c7 c8  k4 y1 y2 y3 c1 c9 = some o → G 0 0 H locs (F0 m 4 ls []) := by
    intro  k4 hk4 y1 y2 y3 c1 c9 H locs ls hP hD hS hl hf
    refine (hG _ _ _ _ _).mpr ?_
    unfold fX0_reachFrom_b4 at hf
    refine lv_iload_n hx hb dX0_reachFrom_4 rfl (lv_at hl 3 rfl) ?_
    refine lv_iconst (v := 1) hx hb dX0_reachFrom_5 (by decide +kernel) ?_
    refine lv_icmp_gt (tgt := 112) hx hb dX0_reachFrom_6 (by decide) (fun cq16 => ?_) (fun cq16 => ?_)
    · replace hf := if_at hf cq16
      refine lv_iload_n hx hb dX0_reachFrom_112 rfl (lv_at hl 2 rfl) ?_
      have b17 := bd_b hf
      replace hf := bd_k hf
      have hf1 := Option.some.inj hf
      subst hf1
      have hP9 := hP.sub (ws' := (wX0_reachFrom h0 h1 h2 h3 h4 h5 h6 h7 h8 h9 kc1 kc3 kc4 kc5 kc6 kc7 kc8 kc9 V0 V2 c1 c3 c4 c5 c6 c7 c8 c9)) [0, 1, 2, 3, 4, 5, 6, 7, 8, 9] rfl
      have hD9 := hD.sub (ws' := (wX0_reachFrom h0 h1 h2 h3 h4 h5 h6 h7 h8 h9 kc1 kc3 kc4 kc5 kc6 kc7 kc8 kc9 V0 V2 c1 c3 c4 c5 c6 c7 c8 c9)) [0, 1, 2, 3, 4, 5, 6, 7, 8, 9] (by decide) rfl
      exact W.zret (v := y2) (ty := .boolean) hx hb hr (bz_nar b17) (fun t ht hW => ⟨⟨y2, (c1, c9), rfl, ⟨rfl, rfl⟩, by rw [ht]; exact hP9, va_K.moved hW.alike hK, hD9⟩, hS.F ht⟩) hS.2.2 dX0_reachFrom_113
    · replace hf := if_no hf cq16
      refine lv_aload_n hx hb dX0_reachFrom_9 rfl (lv_at hl 0 rfl) ?_
      refine va_get (D := (dC, dI)) (ci := 0) (v := .ref h1) (C := RX0) (T := TX0) (N := 7) hx hb hts inlX0 hown hK hP 0 rfl rfl 2 (by decide) w2_ (fun _ h9 => h9) rfl dX0_reachFrom_10 ?_
      refine lv_iload_n hx hb dX0_reachFrom_13 rfl (lv_at hl 1 rfl) ?_
      have b18 := bd_in hf
      replace hf := bd_k hf
      refine va_iald hx hb hK hP 1 0 rfl rfl b18 dX0_reachFrom_14 ?_
      refine lv_topi (fun x19 e19 => ?_)
      replace hf := nm_at hf e19
      refine lv_aload_n hx hb dX0_reachFrom_15 rfl (lv_at hl 0 rfl) ?_
      refine va_get (D := (dC, dI)) (ci := 0) (v := .ref h2) (C := RX0) (T := TX0) (N := 7) hx hb hts inlX0 hown hK hP 0 rfl rfl 1 (by decide) w0_ (fun _ h9 => h9) rfl dX0_reachFrom_16 ?_
      refine lv_iload_n hx hb dX0_reachFrom_19 rfl (lv_at hl 1 rfl) ?_
      refine lv_iload_n hx hb dX0_reachFrom_20 rfl (lv_at hl 3 rfl) ?_
      obtain ⟨o20, e20, hf⟩ := ob_some hf
      refine kVi (As := [.int y1, .int y3]) (rest := [.int x19]) ⟨hx, hb, hml, hown, hts⟩ (mX3_settingsFor l dC dI h2 h3 kc3 H.size base y1 y3 c3 (fun k => match k with | 5 => .ref h4 | 7 => .ref h8 | 9 => .ref h5 | 11 => .ref h6 | 12 => .ref h7 | k => V2 k) o20 e20) (cwV 2 hts (gTV q1001 q1002 q1003 q23 q1004) rfl rfl rfl (by decide +kernel) ⟨Nat.le_of_ble_eq_true rfl, Nat.le_of_ble_eq_true rfl⟩) hK hP hD hS hA hE hAB [2, 3] [0, 1, 4, 5, 6, 7, 8, 9] [1] (wr := [(h0, .inr (0, [V0 0, .ref h2, .ref h1, .ref h9, V0 4, V0 5, V0 6])), (h1, .inl (kc1, 40, .inl c1)), (h4, .inl (kc4, 40, .inl c4)), (h5, .inl (kc5, 40, .inl c5)), (h6, .inl (kc6, 40, .inl c6)), (h7, .inl (kc7, 40, .inl c7)), (h8, .inl (kc8, 40, .inl c8)), (h9, .inl (kc9, 6, .inl c9))]) rfl rfl (by decide) (by decide) (by decide) rfl (ci := 3) (q0 := 0) rfl rfl rfl rfl hl.1 rfl (Nat.le_of_ble_eq_true rfl) dX0_reachFrom_21 ⟨Nat.zero_le _, Nat.zero_le _⟩ (fun r20 u20 H locs hw20 hP hD hS => ?_)
      obtain ⟨hw201, hw202⟩ := hw20
      subst hw201 hw202
      have hP : va_P (dC, dI) vwCl (wX0_reachFrom h0 h1 h2 h3 h4 h5 h6 h7 h8 h9 kc1 kc3 kc4 kc5 kc6 kc7 kc8 kc9 V0 V2 c1 c3 c4 c5 c6 c7 c8 c9) H := hP.sub [0, 1, 8, 9, 2, 3, 4, 5, 6, 7] rfl
      have hD : va_D A (wX0_reachFrom h0 h1 h2 h3 h4 h5 h6 h7 h8 h9 kc1 kc3 kc4 kc5 kc6 kc7 kc8 kc9 V0 V2 c1 c3 c4 c5 c6 c7 c8 c9) := hD.sub [0, 1, 8, 9, 2, 3, 4, 5, 6, 7] (by decide) rfl
      refine lv_iand hx hb dX0_reachFrom_24 ?_
      refine lv_topi (fun x21 e21 => ?_)
      replace hf := nm_at hf e21
      refine lv_istore (lv' := [(4, .int x21), (0, .ref h0), (1, .int y1), (2, .int y2), (3, .int y3)]) hx hb dX0_reachFrom_25 hl (by decide) rfl (fun ls hl => ?_)
      refine lv_iconst (v := 0) hx hb dX0_reachFrom_27 (by decide +kernel) ?_
      refine lv_istore (lv' := [(5, .int 0), (4, .int x21), (0, .ref h0), (1, .int y1), (2, .int y2), (3, .int y3)]) hx hb dX0_reachFrom_28 hl (by decide) rfl (fun ls hl => ?_)
      refine lv_iconst (v := 0) hx hb dX0_reachFrom_30 (by decide +kernel) ?_
      refine lv_istore (lv' := [(6, .int 0), (5, .int 0), (4, .int x21), (0, .ref h0), (1, .int y1), (2, .int y2), (3, .int y3)]) hx hb dX0_reachFrom_31 hl (by decide) rfl (fun ls hl => ?_)
      exact (hG _ _ _ _ _).mp (L33 k4 hk4 FU y1 y2 y3 x21 0 0 c1 c9 H locs ls (hP.sub [0, 1, 2, 3, 4, 5, 6, 7, 8, 9] rfl) (hD.sub [0, 1, 2, 3, 4, 5, 6, 7, 8, 9] (by decide) rfl) hS (lv_sub hl [3, 4, 5, 6, 2, 1, 0] rfl) hf)
  have L4 : ∀ (n : Nat), ∀ (y1 : Int32) (y2 : Int32) (y3 : Int32) (c1 : (Nat → Int32)) (c9 : (Nat → Int32)) (H : Heap) (locs : List Loc) (ls : Array Slot), va_P (dC, dI) vwCl (wX0_reachFrom h0 h1 h2 h3 h4 h5 h6 h7 h8 h9 kc1 kc3 kc4 kc5 kc6 kc7 kc8 kc9 V0 V2 c1 c3 c4 c5 c6 c7 c8 c9) H → va_D A (wX0_reachFrom h0 h1 h2 h3 h4 h5 h6 h7 h8 h9 kc1 kc3 kc4 kc5 kc6 kc7 kc8 kc9 V0 V2 c1 c3 c4 c5 c6 c7 c8 c9) → va_S A s.heap H locs → lv_has ls 7 [(0, .ref h0), (1, .int y1), (2, .int y2), (3, .int y3)] → fX0_reachFrom_l4 c3 c4 c5 c6 c7 c8  n y1 y2 y3 c1 c9 = some o → G 0 0 H locs (F0 m 4 ls []) := by
    intro  n
    induction n with
    | zero => intro y1 y2 y3 c1 c9 H locs ls _ _ _ _ hf; cases hf
    | succ n ih => exact B4  _ ih
  refine (hG _ _ _ _ _).mpr ?_
  obtain ⟨H, hH⟩ : ∃ H, H = s.heap := ⟨_, rfl⟩
  have hS : va_S A s.heap H [] := by rw [hH]; exact hS
  rw [← hH] at hP ⊢
  generalize ([] : List Loc) = locs at hS ⊢
  unfold fX0_reachFrom at hf
  refine lv_iconst (v := 0) hx hb dX0_reachFrom_0 (by decide +kernel) ?_
  refine lv_istore_n (lv' := [(2, .int 0), (0, .ref h0), (1, .int a0)]) hx hb dX0_reachFrom_1 rfl hl (by decide) rfl (fun ls hl => ?_)
  refine lv_iconst (v := 0) hx hb dX0_reachFrom_2 (by decide +kernel) ?_
  refine lv_istore_n (lv' := [(3, .int 0), (2, .int 0), (0, .ref h0), (1, .int a0)]) hx hb dX0_reachFrom_3 rfl hl (by decide) rfl (fun ls hl => ?_)
  exact (hG _ _ _ _ _).mp (L4 FU a0 0 0 c1 c9 H locs ls (hP.sub [0, 1, 2, 3, 4, 5, 6, 7, 8, 9] rfl) (hD.sub [0, 1, 2, 3, 4, 5, 6, 7, 8, 9] (by decide) rfl) hS (lv_sub hl [2, 3, 1, 0] rfl) hf)
abbrev wX0_reachAll (h0 h1 h2 h3 h4 h5 h6 h7 h8 h9 h10 h11 : Nat) (kc1 kc2 kc4 kc5 kc6 kc7 kc8 kc9 kc10 kc11 : ClassId) (V0 : Nat → Value) (V3 : Nat → Value) (c1 : Nat → Int32) (c2 : Nat → Int32) (v3_procedures : Int32) (v3_statements : Int32) (c4 : Nat → Int32) (c5 : Nat → Int32) (c6 : Nat → Int32) (c7 : Nat → Int32) (c8 : Nat → Int32) (c9 : Nat → Int32) (c10 : Nat → Int64) (c11 : Nat → Int32) : va_W := [(h0, .inr (0, [V0 0, .ref h3, .ref h1, .ref h2, V0 4, V0 5, V0 6])), (h1, .inl (kc1, 40, .inl c1)), (h2, .inl (kc2, 6, .inl c2)), (h3, .inr (3, [V3 0, V3 1, .int v3_procedures, .int v3_statements, .ref h4, .ref h5, V3 6, .ref h9, .ref h10, .ref h11, .ref h6, .ref h7, .ref h8, V3 13, V3 14, V3 15, V3 16, V3 17])), (h4, .inl (kc4, 6, .inl c4)), (h5, .inl (kc5, 40, .inl c5)), (h6, .inl (kc6, 40, .inl c6)), (h7, .inl (kc7, 40, .inl c7)), (h8, .inl (kc8, 40, .inl c8)), (h9, .inl (kc9, 40, .inl c9)), (h10, .inl (kc10, 40, .inr (.inl c10))), (h11, .inl (kc11, 40, .inl c11))]
set_option maxHeartbeats 4000000 in
set_option maxRecDepth 100000 in
theorem mX0_reachAll (l : Launch) (dC : Nat → ClassId) (dI : Nat → Nat → Nat) (h0 h1 h2 h3 h4 h5 h6 h7 h8 h9 h10 h11 : Nat) (kc1 kc2 kc4 kc5 kc6 kc7 kc8 kc9 kc10 kc11 : ClassId) (sz : Nat) (base : Nat × Nat × Nat) (c1 : Nat → Int32) (c2 : Nat → Int32) (v3_procedures : Int32) (v3_statements : Int32) (c4 : Nat → Int32) (c5 : Nat → Int32) (c6 : Nat → Int32) (c7 : Nat → Int32) (c8 : Nat → Int32) (c9 : Nat → Int32) (c10 : Nat → Int64) (c11 : Nat → Int32) (V0 : Nat → Value) (V3 : Nat → Value) (o : (Nat → Int32) × (Nat → Int32)) (hf : fX0_reachAll c1 c2 v3_procedures v3_statements c4 c5 c6 c7 c8 c9 c10 c11 = some o) : Met l yX0_reachAll (.code yX0_reachAll cX0_reachAll 5 none :: wsL_law) ({ frames := 3, cells := 0, slots := 0, locals := 71 }) (cPre (dC, dI) vwCl [.ref h0] sz base (wX0_reachAll h0 h1 h2 h3 h4 h5 h6 h7 h8 h9 h10 h11 kc1 kc2 kc4 kc5 kc6 kc7 kc8 kc9 kc10 kc11 V0 V3 c1 c2 v3_procedures v3_statements c4 c5 c6 c7 c8 c9 c10 c11) [(kc1, .int), (kc2, .int), (kc4, .int), (kc5, .int), (kc6, .int), (kc7, .int), (kc8, .int), (kc9, .int), (kc10, .long), (kc11, .int)]) (va_Qv (fun u => u = o) (fun (u : (Nat → Int32) × (Nat → Int32)) t => cPost (dC, dI) vwCl (va_A (wX0_reachAll h0 h1 h2 h3 h4 h5 h6 h7 h8 h9 h10 h11 kc1 kc2 kc4 kc5 kc6 kc7 kc8 kc9 kc10 kc11 V0 V3 c1 c2 v3_procedures v3_statements c4 c5 c6 c7 c8 c9 c10 c11) sz) (wX0_reachAll h0 h1 h2 h3 h4 h5 h6 h7 h8 h9 h10 h11 kc1 kc2 kc4 kc5 kc6 kc7 kc8 kc9 kc10 kc11 V0 V3 u.1 u.2 v3_procedures v3_statements c4 c5 c6 c7 c8 c9 c10 c11) [(kc1, .int), (kc2, .int), (kc4, .int), (kc5, .int), (kc6, .int), (kc7, .int), (kc8, .int), (kc9, .int), (kc10, .long), (kc11, .int)] t) (va_A (wX0_reachAll h0 h1 h2 h3 h4 h5 h6 h7 h8 h9 h10 h11 kc1 kc2 kc4 kc5 kc6 kc7 kc8 kc9 kc10 kc11 V0 V3 c1 c2 v3_procedures v3_statements c4 c5 c6 c7 c8 c9 c10 c11) sz)) 0 0 (va_A (wX0_reachAll h0 h1 h2 h3 h4 h5 h6 h7 h8 h9 h10 h11 kc1 kc2 kc4 kc5 kc6 kc7 kc8 kc9 kc10 kc11 V0 V3 c1 c2 v3_procedures v3_statements c4 c5 c6 c7 c8 c9 c10 c11) sz) := by
  refine Met.ofW (cc := cX0_reachAll) (maxL := 5) (ret := none) (by decide) rfl ?_
  intro p e s m args below meth c s₁ B hml hv
  obtain ⟨rfl, hsz, hP, hK, hD0, hE⟩ := hv
  have hx := B.exec
  have hb := B.bytes
  have hr := B.returns
  have hts : ∀ w ∈ wsL_law, _ := fun w h => atoms_spec (ws := .code yX0_reachAll cX0_reachAll 5 none :: wsL_law) B.pre w (List.mem_cons_of_mem _ h)
  have hown : s.vm.findClass RX0 = some m.cls := findClass_of_methodNamed B.named
  have hlocks := B.notSynchronized
  have w0_ := hts _ q960
  have w1_ := hts _ q965
  have w2_ := hts _ q973
  have w3_ := hts _ q968
  have w4_ := hts _ q956
  have w5_ := hts _ q957
  subst hsz
  have hD := hD0.self (sz := s.heap.size)
  generalize hAe : va_A (wX0_reachAll h0 h1 h2 h3 h4 h5 h6 h7 h8 h9 h10 h11 kc1 kc2 kc4 kc5 kc6 kc7 kc8 kc9 kc10 kc11 V0 V3 c1 c2 v3_procedures v3_statements c4 c5 c6 c7 c8 c9 c10 c11) s.heap.size = A at hD ⊢
  have hA : ∀ q : Nat, s.heap.size ≤ q → A q := fun q h => by rw [← hAe]; exact Or.inr h
  have hAB : ∀ q : Nat, A q → base.1 ≤ q := fun q h => by rw [← hAe] at h; exact h.elim (fun ⟨k, e, hk⟩ => hD0.2 k _ hk) (fun hk => Nat.le_trans hE.1 hk)
  have hS : va_S A s.heap s.heap [] := va_S.rf
  have hl := lv_entry ([.ref h0]) (n := 5) (Nat.le_of_ble_eq_true rfl)
  rw [lg_entry_eq]
  generalize (lg_sl ([.ref h0]) ++ List.replicate (5 - (lg_sl ([.ref h0])).length) Slot.unset).toArray = ls at hl ⊢
  have hl : lv_has ls 5 [(0, .ref h0)] := hl
  have hP : va_P (dC, dI) vwCl (wX0_reachAll h0 h1 h2 h3 h4 h5 h6 h7 h8 h9 h10 h11 kc1 kc2 kc4 kc5 kc6 kc7 kc8 kc9 kc10 kc11 V0 V3 c1 c2 v3_procedures v3_statements c4 c5 c6 c7 c8 c9 c10 c11) s.heap := hP
  refine gl_intro (fun G hG => ?_)
  have J111 : ∀ (c1 : (Nat → Int32)) (c2 : (Nat → Int32)) (H : Heap) (locs : List Loc) (ls : Array Slot), va_P (dC, dI) vwCl (wX0_reachAll h0 h1 h2 h3 h4 h5 h6 h7 h8 h9 h10 h11 kc1 kc2 kc4 kc5 kc6 kc7 kc8 kc9 kc10 kc11 V0 V3 c1 c2 v3_procedures v3_statements c4 c5 c6 c7 c8 c9 c10 c11) H → va_D A (wX0_reachAll h0 h1 h2 h3 h4 h5 h6 h7 h8 h9 h10 h11 kc1 kc2 kc4 kc5 kc6 kc7 kc8 kc9 kc10 kc11 V0 V3 c1 c2 v3_procedures v3_statements c4 c5 c6 c7 c8 c9 c10 c11) → va_S A s.heap H locs → lv_has ls 5 [(0, .ref h0)] → fX0_reachAll_p111 v3_procedures v3_statements c4 c5 c6 c7 c8 c9 c10 c11  c1 c2 = some o → G 0 0 H locs (F0 m 111 ls []) := by
    intro  c1 c2 H locs ls hP hD hS hl hf
    refine (hG _ _ _ _ _).mpr ?_
    unfold fX0_reachAll_p111 at hf
    have hf1 := Option.some.inj hf
    subst hf1
    have hP9 := hP.sub (ws' := (wX0_reachAll h0 h1 h2 h3 h4 h5 h6 h7 h8 h9 h10 h11 kc1 kc2 kc4 kc5 kc6 kc7 kc8 kc9 kc10 kc11 V0 V3 c1 c2 v3_procedures v3_statements c4 c5 c6 c7 c8 c9 c10 c11)) [0, 1, 2, 3, 4, 5, 6, 7, 8, 9, 10, 11] rfl
    have hD9 := hD.sub (ws' := (wX0_reachAll h0 h1 h2 h3 h4 h5 h6 h7 h8 h9 h10 h11 kc1 kc2 kc4 kc5 kc6 kc7 kc8 kc9 kc10 kc11 V0 V3 c1 c2 v3_procedures v3_statements c4 c5 c6 c7 c8 c9 c10 c11)) [0, 1, 2, 3, 4, 5, 6, 7, 8, 9, 10, 11] (by decide) rfl
    exact W.vret hx hb hr (fun t ht hW => ⟨⟨(c1, c2), rfl, rfl, by rw [ht]; exact hP9, va_K.moved hW.alike hK, hD9⟩, hS.F ht⟩) hS.2.2 dX0_reachAll_111
  have J97 : ∀ (k40 : Int32 → Int32 → (Nat → Int32) → (Nat → Int32) → Option ((Nat → Int32) × (Nat → Int32))) (hk40 : ∀ (y2 : Int32) (y3 : Int32) (c1 : (Nat → Int32)) (c2 : (Nat → Int32)) (H : Heap) (locs : List Loc) (ls : Array Slot), va_P (dC, dI) vwCl (wX0_reachAll h0 h1 h2 h3 h4 h5 h6 h7 h8 h9 h10 h11 kc1 kc2 kc4 kc5 kc6 kc7 kc8 kc9 kc10 kc11 V0 V3 c1 c2 v3_procedures v3_statements c4 c5 c6 c7 c8 c9 c10 c11) H → va_D A (wX0_reachAll h0 h1 h2 h3 h4 h5 h6 h7 h8 h9 h10 h11 kc1 kc2 kc4 kc5 kc6 kc7 kc8 kc9 kc10 kc11 V0 V3 c1 c2 v3_procedures v3_statements c4 c5 c6 c7 c8 c9 c10 c11) → va_S A s.heap H locs → lv_has ls 5 [(0, .ref h0), (2, .int y2), (3, .int y3)] → k40 y2 y3 c1 c2 = some o → G 0 0 H locs (F0 m 40 ls [])) (k55 : Int32 → Int32 → Int32 → (Nat → Int32) → (Nat → Int32) → Option ((Nat → Int32) × (Nat → Int32))) (hk55 : ∀ (y2 : Int32) (y3 : Int32) (y4 : Int32) (c1 : (Nat → Int32)) (c2 : (Nat → Int32)) (H : Heap) (locs : List Loc) (ls : Array Slot), va_P (dC, dI) vwCl (wX0_reachAll h0 h1 h2 h3 h4 h5 h6 h7 h8 h9 h10 h11 kc1 kc2 kc4 kc5 kc6 kc7 kc8 kc9 kc10 kc11 V0 V3 c1 c2 v3_procedures v3_statements c4 c5 c6 c7 c8 c9 c10 c11) H → va_D A (wX0_reachAll h0 h1 h2 h3 h4 h5 h6 h7 h8 h9 h10 h11 kc1 kc2 kc4 kc5 kc6 kc7 kc8 kc9 kc10 kc11 V0 V3 c1 c2 v3_procedures v3_statements c4 c5 c6 c7 c8 c9 c10 c11) → va_S A s.heap H locs → lv_has ls 5 [(0, .ref h0), (2, .int y2), (3, .int y3), (4, .int y4)] → k55 y2 y3 y4 c1 c2 = some o → G 0 0 H locs (F0 m 55 ls [])), ∀ (y3 : Int32) (y4 : Int32) (z0 : Int32) (z1 : Int32) (c1 : (Nat → Int32)) (c2 : (Nat → Int32)) (H : Heap) (locs : List Loc) (ls : Array Slot), va_P (dC, dI) vwCl (wX0_reachAll h0 h1 h2 h3 h4 h5 h6 h7 h8 h9 h10 h11 kc1 kc2 kc4 kc5 kc6 kc7 kc8 kc9 kc10 kc11 V0 V3 c1 c2 v3_procedures v3_statements c4 c5 c6 c7 c8 c9 c10 c11) H → va_D A (wX0_reachAll h0 h1 h2 h3 h4 h5 h6 h7 h8 h9 h10 h11 kc1 kc2 kc4 kc5 kc6 kc7 kc8 kc9 kc10 kc11 V0 V3 c1 c2 v3_procedures v3_statements c4 c5 c6 c7 c8 c9 c10 c11) → va_S A s.heap H locs → lv_has ls 5 [(0, .ref h0), (3, .int y3), (4, .int y4)] → fX0_reachAll_p97 v3_procedures v3_statements c4 c5 c6 c7 c8 c9 c10 c11 k40 k55 y3 y4 z0 z1 c1 c2 = some o → G 0 0 H locs (F0 m 97 ls [.int z0, .int z1]) := by
    intro k40 hk40 k55 hk55 y3 y4 z0 z1 c1 c2 H locs ls hP hD hS hl hf
    refine (hG _ _ _ _ _).mpr ?_
    unfold fX0_reachAll_p97 at hf
    refine lv_ior hx hb dX0_reachAll_97 ?_
    refine lv_topi (fun x1 e1 => ?_)
    replace hf := nm_at hf e1
    refine lv_istore_n (lv' := [(2, .int x1), (0, .ref h0), (3, .int y3), (4, .int y4)]) hx hb dX0_reachAll_98 rfl hl (by decide) rfl (fun ls hl => ?_)
    obtain ⟨x2, e2⟩ : ∃ y : Int32, y = y4 + 1 := ⟨_, rfl⟩
    replace hf := nm_at hf e2
    refine lv_iinc (v := x2) (lv' := [(4, .int x2), (2, .int x1), (0, .ref h0), (3, .int y3)]) hx hb dX0_reachAll_99 hl (k := 3) rfl (by rw [e2]; rfl) (by decide) rfl (fun ls hl => ?_)
    refine lv_goto (tgt := 55) hx hb dX0_reachAll_102 (by decide) ?_
    exact (hG _ _ _ _ _).mp (hk55 x1 y3 x2 c1 c2 H locs ls (hP.sub [0, 1, 2, 3, 4, 5, 6, 7, 8, 9, 10, 11] rfl) (hD.sub [0, 1, 2, 3, 4, 5, 6, 7, 8, 9, 10, 11] (by decide) rfl) hS (lv_sub hl [2, 1, 3, 0] rfl) hf)
  have B55 : ∀ (k40 : Int32 → Int32 → (Nat → Int32) → (Nat → Int32) → Option ((Nat → Int32) × (Nat → Int32))) (hk40 : ∀ (y2 : Int32) (y3 : Int32) (c1 : (Nat → Int32)) (c2 : (Nat → Int32)) (H : Heap) (locs : List Loc) (ls : Array Slot), va_P (dC, dI) vwCl (wX0_reachAll h0 h1 h2 h3 h4 h5 h6 h7 h8 h9 h10 h11 kc1 kc2 kc4 kc5 kc6 kc7 kc8 kc9 kc10 kc11 V0 V3 c1 c2 v3_procedures v3_statements c4 c5 c6 c7 c8 c9 c10 c11) H → va_D A (wX0_reachAll h0 h1 h2 h3 h4 h5 h6 h7 h8 h9 h10 h11 kc1 kc2 kc4 kc5 kc6 kc7 kc8 kc9 kc10 kc11 V0 V3 c1 c2 v3_procedures v3_statements c4 c5 c6 c7 c8 c9 c10 c11) → va_S A s.heap H locs → lv_has ls 5 [(0, .ref h0), (2, .int y2), (3, .int y3)] → k40 y2 y3 c1 c2 = some o → G 0 0 H locs (F0 m 40 ls [])) (k55 : Int32 → Int32 → Int32 → (Nat → Int32) → (Nat → Int32) → Option ((Nat → Int32) × (Nat → Int32))) (hk55 : ∀ (y2 : Int32) (y3 : Int32) (y4 : Int32) (c1 : (Nat → Int32)) (c2 : (Nat → Int32)) (H : Heap) (locs : List Loc) (ls : Array Slot), va_P (dC, dI) vwCl (wX0_reachAll h0 h1 h2 h3 h4 h5 h6 h7 h8 h9 h10 h11 kc1 kc2 kc4 kc5 kc6 kc7 kc8 kc9 kc10 kc11 V0 V3 c1 c2 v3_procedures v3_statements c4 c5 c6 c7 c8 c9 c10 c11) H → va_D A (wX0_reachAll h0 h1 h2 h3 h4 h5 h6 h7 h8 h9 h10 h11 kc1 kc2 kc4 kc5 kc6 kc7 kc8 kc9 kc10 kc11 V0 V3 c1 c2 v3_procedures v3_statements c4 c5 c6 c7 c8 c9 c10 c11) → va_S A s.heap H locs → lv_has ls 5 [(0, .ref h0), (2, .int y2), (3, .int y3), (4, .int y4)] → k55 y2 y3 y4 c1 c2 = some o → G 0 0 H locs (F0 m 55 ls [])), ∀ (y2 : Int32) (y3 : Int32) (y4 : Int32) (c1 : (Nat → Int32)) (c2 : (Nat → Int32)) (H : Heap) (locs : List Loc) (ls : Array Slot), va_P (dC, dI) vwCl (wX0_reachAll h0 h1 h2 h3 h4 h5 h6 h7 h8 h9 h10 h11 kc1 kc2 kc4 kc5 kc6 kc7 kc8 kc9 kc10 kc11 V0 V3 c1 c2 v3_procedures v3_statements c4 c5 c6 c7 c8 c9 c10 c11) H → va_D A (wX0_reachAll h0 h1 h2 h3 h4 h5 h6 h7 h8 h9 h10 h11 kc1 kc2 kc4 kc5 kc6 kc7 kc8 kc9 kc10 kc11 V0 V3 c1 c2 v3_procedures v3_statements c4 c5 c6 c7 c8 c9 c10 c11) → va_S A s.heap H locs → lv_has ls 5 [(0, .ref h0), (2, .int y2), (3, .int y3), (4, .int y4)] → fX0_reachAll_b55 v3_procedures v3_statements c4 c5 c6 c7 c8 c9 c10 c11 k40 k55 y2 y3 y4 c1 c2 = some o → G 0 0 H locs (F0 m 55 ls []) := by
    intro k40 hk40 k55 hk55 y2 y3 y4 c1 c2 H locs ls hP hD hS hl hf
    refine (hG _ _ _ _ _).mpr ?_
    unfold fX0_reachAll_b55 at hf
    refine lv_iload hx hb dX0_reachAll_55 (lv_at hl 3 rfl) ?_
    refine lv_aload_n hx hb dX0_reachAll_57 rfl (lv_at hl 0 rfl) ?_
    refine va_get (D := (dC, dI)) (ci := 0) (v := .ref h3) (C := RX0) (T := TX0) (N := 7) hx hb hts inlX0 hown hK hP 0 rfl rfl 1 (by decide) w0_ (fun _ h9 => h9) rfl dX0_reachAll_58 ?_
    refine va_get (D := (dC, dI)) (ci := 3) (v := .int v3_statements) (C := RX3) (T := TX3) (N := 18) hx hb hts inlX3 hown hK hP 3 rfl rfl 3 (by decide) w1_ (fun _ h9 => h9) rfl dX0_reachAll_61 ?_
    refine lv_icmp_ge (tgt := 105) hx hb dX0_reachAll_64 (by decide) (fun cq3 => ?_) (fun cq3 => ?_)
    · replace hf := if_at hf cq3
      obtain ⟨x4, e4⟩ : ∃ y : Int32, y = y3 + 1 := ⟨_, rfl⟩
      replace hf := nm_at hf e4
      refine lv_iinc (v := x4) (lv' := [(3, .int x4), (0, .ref h0), (2, .int y2), (4, .int y4)]) hx hb dX0_reachAll_105 hl (k := 2) rfl (by rw [e4]; rfl) (by decide) rfl (fun ls hl => ?_)
      refine lv_goto (tgt := 40) hx hb dX0_reachAll_108 (by decide) ?_
      exact (hG _ _ _ _ _).mp (hk40 y2 x4 c1 c2 H locs ls (hP.sub [0, 1, 2, 3, 4, 5, 6, 7, 8, 9, 10, 11] rfl) (hD.sub [0, 1, 2, 3, 4, 5, 6, 7, 8, 9, 10, 11] (by decide) rfl) hS (lv_sub hl [1, 2, 0] rfl) hf)
    · replace hf := if_no hf cq3
      refine lv_iload_n hx hb dX0_reachAll_67 rfl (lv_at hl 1 rfl) ?_
      refine lv_aload_n hx hb dX0_reachAll_68 rfl (lv_at hl 0 rfl) ?_
      refine va_get (D := (dC, dI)) (ci := 0) (v := .ref h3) (C := RX0) (T := TX0) (N := 7) hx hb hts inlX0 hown hK hP 0 rfl rfl 1 (by decide) w0_ (fun _ h9 => h9) rfl dX0_reachAll_69 ?_
      refine va_get (D := (dC, dI)) (ci := 3) (v := .ref h5) (C := RX3) (T := TX3) (N := 18) hx hb hts inlX3 hown hK hP 3 rfl rfl 5 (by decide) w2_ (fun _ h9 => h9) rfl dX0_reachAll_72 ?_
      refine lv_iload hx hb dX0_reachAll_75 (lv_at hl 3 rfl) ?_
      have b5 := bd_in hf
      replace hf := bd_k hf
      refine va_iald hx hb hK hP 5 3 rfl rfl b5 dX0_reachAll_77 ?_
      refine lv_topi (fun x6 e6 => ?_)
      replace hf := nm_at hf e6
      refine lv_iconst (v := 3) hx hb dX0_reachAll_78 (by decide +kernel) ?_
      refine lv_icmp_ne (tgt := 91) hx hb dX0_reachAll_79 (by decide) (fun cq7 => ?_) (fun cq7 => ?_)
      · replace hf := if_no hf cq7
        refine lv_aload_n hx hb dX0_reachAll_91 rfl (lv_at hl 0 rfl) ?_
        refine lv_iload hx hb dX0_reachAll_92 (lv_at hl 3 rfl) ?_
        obtain ⟨o8, e8, hf⟩ := ob_some hf
        refine kVi (As := [.int y4]) (rest := [.int y2]) ⟨hx, hb, hml, hown, hts⟩ (mX0_reachFrom l dC dI h0 h1 h3 h10 h5 h11 h7 h8 h9 h2 kc1 kc10 kc5 kc11 kc7 kc8 kc9 kc2 H.size base y4 c1 c10 c5 c11 c7 c8 c9 c2 V0 (fun k => match k with | 2 => .int v3_procedures | 3 => .int v3_statements | 4 => .ref h4 | 10 => .ref h6 | k => V3 k) o8 e8) (cwV 1 hts (gTV q997 q998 q999 q946 q1000) rfl rfl rfl (by decide +kernel) ⟨Nat.le_of_ble_eq_true rfl, Nat.le_of_ble_eq_true rfl⟩) hK hP hD hS hA hE hAB [0, 1, 3, 10, 5, 11, 7, 8, 9, 2] [4, 6] [0, 8, 3, 9, 5, 6, 7, 1] (wr := [(h4, .inl (kc4, 6, .inl c4)), (h6, .inl (kc6, 40, .inl c6))]) rfl rfl (by decide) (by decide) (by decide) rfl (ci := 0) (q0 := 0) rfl rfl rfl rfl hl.1 rfl (Nat.le_of_ble_eq_true rfl) dX0_reachAll_94 ⟨Nat.zero_le _, Nat.zero_le _⟩ (fun r8 u8 H locs hw8 hP hD hS => ?_)
        obtain ⟨hw81, hw82⟩ := hw8
        subst hw81 hw82
        have hP : va_P (dC, dI) vwCl (wX0_reachAll h0 h1 h2 h3 h4 h5 h6 h7 h8 h9 h10 h11 kc1 kc2 kc4 kc5 kc6 kc7 kc8 kc9 kc10 kc11 V0 V3 o8.2.1 o8.2.2 v3_procedures v3_statements c4 c5 c6 c7 c8 c9 c10 c11) H := hP.sub [2, 3, 11, 4, 0, 6, 1, 8, 9, 10, 5, 7] rfl
        have hD : va_D A (wX0_reachAll h0 h1 h2 h3 h4 h5 h6 h7 h8 h9 h10 h11 kc1 kc2 kc4 kc5 kc6 kc7 kc8 kc9 kc10 kc11 V0 V3 o8.2.1 o8.2.2 v3_procedures v3_statements c4 c5 c6 c7 c8 c9 c10 c11) := hD.sub [2, 3, 11, 4, 0, 6, 1, 8, 9, 10, 5, 7] (by decide) rfl
        exact (hG _ _ _ _ _).mp (J97 k40 hk40 k55 hk55 y3 y4 o8.1 y2 o8.2.1 o8.2.2 H locs ls (hP.sub [0, 1, 2, 3, 4, 5, 6, 7, 8, 9, 10, 11] rfl) (hD.sub [0, 1, 2, 3, 4, 5, 6, 7, 8, 9, 10, 11] (by decide) rfl) hS (lv_sub hl [0, 2, 3] rfl) hf)
      · replace hf := if_at hf cq7
        refine lv_aload_n hx hb dX0_reachAll_82 rfl (lv_at hl 0 rfl) ?_
        refine lv_iload hx hb dX0_reachAll_83 (lv_at hl 3 rfl) ?_
        obtain ⟨o9, e9, hf⟩ := ob_some hf
        refine kVi (As := [.int y4]) (rest := [.int y2]) ⟨hx, hb, hml, hown, hts⟩ (mX0_reachByCall l dC dI h0 h3 h6 h7 h8 h4 h1 h9 h2 kc6 kc7 kc8 kc4 kc1 kc9 kc2 H.size base y4 c6 c7 c8 c4 c1 c9 c2 V0 (fun k => match k with | 2 => .int v3_procedures | 3 => .int v3_statements | 5 => .ref h5 | 8 => .ref h10 | 9 => .ref h11 | k => V3 k) o9 e9) (cwV 1 hts (gTV q979 q980 q981 q946 q982) rfl rfl rfl (by decide +kernel) ⟨Nat.le_of_ble_eq_true rfl, Nat.le_of_ble_eq_true rfl⟩) hK hP hD hS hA hE hAB [0, 3, 6, 7, 8, 4, 1, 9, 2] [5, 10, 11] [4, 5, 6, 2, 0, 7, 1] (wr := [(h5, .inl (kc5, 40, .inl c5)), (h10, .inl (kc10, 40, .inr (.inl c10))), (h11, .inl (kc11, 40, .inl c11))]) rfl rfl (by decide) (by decide) (by decide) rfl (ci := 0) (q0 := 0) rfl rfl rfl rfl hl.1 rfl (Nat.le_of_ble_eq_true rfl) dX0_reachAll_85 ⟨Nat.zero_le _, Nat.zero_le _⟩ (fun r9 u9 H locs hw9 hP hD hS => ?_)
        obtain ⟨hw91, hw92⟩ := hw9
        subst hw91 hw92
        have hP : va_P (dC, dI) vwCl (wX0_reachAll h0 h1 h2 h3 h4 h5 h6 h7 h8 h9 h10 h11 kc1 kc2 kc4 kc5 kc6 kc7 kc8 kc9 kc10 kc11 V0 V3 o9.2.1 o9.2.2 v3_procedures v3_statements c4 c5 c6 c7 c8 c9 c10 c11) H := hP.sub [3, 9, 11, 4, 8, 0, 5, 6, 7, 10, 1, 2] rfl
        have hD : va_D A (wX0_reachAll h0 h1 h2 h3 h4 h5 h6 h7 h8 h9 h10 h11 kc1 kc2 kc4 kc5 kc6 kc7 kc8 kc9 kc10 kc11 V0 V3 o9.2.1 o9.2.2 v3_procedures v3_statements c4 c5 c6 c7 c8 c9 c10 c11) := hD.sub [3, 9, 11, 4, 8, 0, 5, 6, 7, 10, 1, 2] (by decide) rfl
        refine lv_goto (tgt := 97) hx hb dX0_reachAll_88 (by decide) ?_
        exact (hG _ _ _ _ _).mp (J97 k40 hk40 k55 hk55 y3 y4 o9.1 y2 o9.2.1 o9.2.2 H locs ls (hP.sub [0, 1, 2, 3, 4, 5, 6, 7, 8, 9, 10, 11] rfl) (hD.sub [0, 1, 2, 3, 4, 5, 6, 7, 8, 9, 10, 11] (by decide) rfl) hS (lv_sub hl [0, 2, 3] rfl) hf)
  have L55 : ∀ (k40 : Int32 → Int32 → (Nat → Int32) → (Nat → Int32) → Option ((Nat → Int32) × (Nat → Int32))) (hk40 : ∀ (y2 : Int32) (y3 : Int32) (c1 : (Nat → Int32)) (c2 : (Nat → Int32)) (H : Heap) (locs : List Loc) (ls : Array Slot), va_P (dC, dI) vwCl (wX0_reachAll h0 h1 h2 h3 h4 h5 h6 h7 h8 h9 h10 h11 kc1 kc2 kc4 kc5 kc6 kc7 kc8 kc9 kc10 kc11 V0 V3 c1 c2 v3_procedures v3_statements c4 c5 c6 c7 c8 c9 c10 c11) H → va_D A (wX0_reachAll h0 h1 h2 h3 h4 h5 h6 h7 h8 h9 h10 h11 kc1 kc2 kc4 kc5 kc6 kc7 kc8 kc9 kc10 kc11 V0 V3 c1 c2 v3_procedures v3_statements c4 c5 c6 c7 c8 c9 c10 c11) → va_S A s.heap H locs → lv_has ls 5 [(0, .ref h0), (2, .int y2), (3, .int y3)] → k40 y2 y3 c1 c2 = some o → G 0 0 H locs (F0 m 40 ls [])) (n : Nat), ∀ (y2 : Int32) (y3 : Int32) (y4 : Int32) (c1 : (Nat → Int32)) (c2 : (Nat → Int32)) (H : Heap) (locs : List Loc) (ls : Array Slot), va_P (dC, dI) vwCl (wX0_reachAll h0 h1 h2 h3 h4 h5 h6 h7 h8 h9 h10 h11 kc1 kc2 kc4 kc5 kc6 kc7 kc8 kc9 kc10 kc11 V0 V3 c1 c2 v3_procedures v3_statements c4 c5 c6 c7 c8 c9 c10 c11) H → va_D A (wX0_reachAll h0 h1 h2 h3 h4 h5 h6 h7 h8 h9 h10 h11 kc1 kc2 kc4 kc5 kc6 kc7 kc8 kc9 kc10 kc11 V0 V3 c1 c2 v3_procedures v3_statements c4 c5 c6 c7 c8 c9 c10 c11) → va_S A s.heap H locs → lv_has ls 5 [(0, .ref h0), (2, .int y2), (3, .int y3), (4, .int y4)] → fX0_reachAll_l55 v3_procedures v3_statements c4 c5 c6 c7 c8 c9 c10 c11 k40 n y2 y3 y4 c1 c2 = some o → G 0 0 H locs (F0 m 55 ls []) := by
    intro k40 hk40 n
    induction n with
    | zero => intro y2 y3 y4 c1 c2 H locs ls _ _ _ _ hf; cases hf
    | succ n ih => exact B55 k40 hk40 _ ih
  have B40 : ∀ (k40 : Int32 → Int32 → (Nat → Int32) → (Nat → Int32) → Option ((Nat → Int32) × (Nat → Int32))) (hk40 : ∀ (y2 : Int32) (y3 : Int32) (c1 : (Nat → Int32)) (c2 : (Nat → Int32)) (H : Heap) (locs : List Loc) (ls : Array Slot), va_P (dC, dI) vwCl (wX0_reachAll h0 h1 h2 h3 h4 h5 h6 h7 h8 h9 h10 h11 kc1 kc2 kc4 kc5 kc6 kc7 kc8 kc9 kc10 kc11 V0 V3 c1 c2 v3_procedures v3_statements c4 c5 c6 c7 c8 c9 c10 c11) H → va_D A (wX0_reachAll h0 h1 h2 h3 h4 h5 h6 h7 h8 h9 h10 h11 kc1 kc2 kc4 kc5 kc6 kc7 kc8 kc9 kc10 kc11 V0 V3 c1 c2 v3_procedures v3_statements c4 c5 c6 c7 c8 c9 c10 c11) → va_S A s.heap H locs → lv_has ls 5 [(0, .ref h0), (2, .int y2), (3, .int y3)] → k40 y2 y3 c1 c2 = some o → G 0 0 H locs (F0 m 40 ls [])), ∀ (y2 : Int32) (y3 : Int32) (c1 : (Nat → Int32)) (c2 : (Nat → Int32)) (H : Heap) (locs : List Loc) (ls : Array Slot), va_P (dC, dI) vwCl (wX0_reachAll h0 h1 h2 h3 h4 h5 h6 h7 h8 h9 h10 h11 kc1 kc2 kc4 kc5 kc6 kc7 kc8 kc9 kc10 kc11 V0 V3 c1 c2 v3_procedures v3_statements c4 c5 c6 c7 c8 c9 c10 c11) H → va_D A (wX0_reachAll h0 h1 h2 h3 h4 h5 h6 h7 h8 h9 h10 h11 kc1 kc2 kc4 kc5 kc6 kc7 kc8 kc9 kc10 kc11 V0 V3 c1 c2 v3_procedures v3_statements c4 c5 c6 c7 c8 c9 c10 c11) → va_S A s.heap H locs → lv_has ls 5 [(0, .ref h0), (2, .int y2), (3, .int y3)] → fX0_reachAll_b40 v3_procedures v3_statements c4 c5 c6 c7 c8 c9 c10 c11  k40 y2 y3 c1 c2 = some o → G 0 0 H locs (F0 m 40 ls []) := by
    intro  k40 hk40 y2 y3 c1 c2 H locs ls hP hD hS hl hf
    refine (hG _ _ _ _ _).mpr ?_
    unfold fX0_reachAll_b40 at hf
    refine lv_iload_n hx hb dX0_reachAll_40 rfl (lv_at hl 2 rfl) ?_
    refine lv_ldc (v := 1000000) hx hb hown w3_ dX0_reachAll_41 ?_
    refine lv_icmp_ge (tgt := 111) hx hb dX0_reachAll_43 (by decide) (fun cq10 => ?_) (fun cq10 => ?_)
    · replace hf := if_at hf cq10
      exact (hG _ _ _ _ _).mp (J111 c1 c2 H locs ls (hP.sub [0, 1, 2, 3, 4, 5, 6, 7, 8, 9, 10, 11] rfl) (hD.sub [0, 1, 2, 3, 4, 5, 6, 7, 8, 9, 10, 11] (by decide) rfl) hS (lv_sub hl [0] rfl) hf)
    · replace hf := if_no hf cq10
      refine lv_iload_n hx hb dX0_reachAll_46 rfl (lv_at hl 1 rfl) ?_
      refine lv_if_eq (tgt := 111) hx hb dX0_reachAll_47 (by decide) (fun cq11 => ?_) (fun cq11 => ?_)
      · replace hf := if_at hf cq11
        exact (hG _ _ _ _ _).mp (J111 c1 c2 H locs ls (hP.sub [0, 1, 2, 3, 4, 5, 6, 7, 8, 9, 10, 11] rfl) (hD.sub [0, 1, 2, 3, 4, 5, 6, 7, 8, 9, 10, 11] (by decide) rfl) hS (lv_sub hl [0] rfl) hf)
      · replace hf := if_no hf cq11
        refine lv_iconst (v := 0) hx hb dX0_reachAll_50 (by decide +kernel) ?_
        refine lv_istore_n (lv' := [(2, .int 0), (0, .ref h0), (3, .int y3)]) hx hb dX0_reachAll_51 rfl hl (by decide) rfl (fun ls hl => ?_)
        refine lv_iconst (v := 0) hx hb dX0_reachAll_52 (by decide +kernel) ?_
        refine lv_istore (lv' := [(4, .int 0), (2, .int 0), (0, .ref h0), (3, .int y3)]) hx hb dX0_reachAll_53 hl (by decide) rfl (fun ls hl => ?_)
        exact (hG _ _ _ _ _).mp (L55 k40 hk40 FU 0 y3 0 c1 c2 H locs ls (hP.sub [0, 1, 2, 3, 4, 5, 6, 7, 8, 9, 10, 11] rfl) (hD.sub [0, 1, 2, 3, 4, 5, 6, 7, 8, 9, 10, 11] (by decide) rfl) hS (lv_sub hl [2, 1, 3, 0] rfl) hf)
  have L40 : ∀ (n : Nat), ∀ (y2 : Int32) (y3 : Int32) (c1 : (Nat → Int32)) (c2 : (Nat → Int32)) (H : Heap) (locs : List Loc) (ls : Array Slot), va_P (dC, dI) vwCl (wX0_reachAll h0 h1 h2 h3 h4 h5 h6 h7 h8 h9 h10 h11 kc1 kc2 kc4 kc5 kc6 kc7 kc8 kc9 kc10 kc11 V0 V3 c1 c2 v3_procedures v3_statements c4 c5 c6 c7 c8 c9 c10 c11) H → va_D A (wX0_reachAll h0 h1 h2 h3 h4 h5 h6 h7 h8 h9 h10 h11 kc1 kc2 kc4 kc5 kc6 kc7 kc8 kc9 kc10 kc11 V0 V3 c1 c2 v3_procedures v3_statements c4 c5 c6 c7 c8 c9 c10 c11) → va_S A s.heap H locs → lv_has ls 5 [(0, .ref h0), (2, .int y2), (3, .int y3)] → fX0_reachAll_l40 v3_procedures v3_statements c4 c5 c6 c7 c8 c9 c10 c11  n y2 y3 c1 c2 = some o → G 0 0 H locs (F0 m 40 ls []) := by
    intro  n
    induction n with
    | zero => intro y2 y3 c1 c2 H locs ls _ _ _ _ hf; cases hf
    | succ n ih => exact B40  _ ih
  refine (hG _ _ _ _ _).mpr ?_
  obtain ⟨H, hH⟩ : ∃ H, H = s.heap := ⟨_, rfl⟩
  have hS : va_S A s.heap H [] := by rw [hH]; exact hS
  rw [← hH] at hP ⊢
  generalize ([] : List Loc) = locs at hS ⊢
  unfold fX0_reachAll at hf
  refine lv_aload_n hx hb dX0_reachAll_0 rfl (lv_at hl 0 rfl) ?_
  refine va_get (D := (dC, dI)) (ci := 0) (v := .ref h1) (C := RX0) (T := TX0) (N := 7) hx hb hts inlX0 hown hK hP 0 rfl rfl 2 (by decide) w4_ (fun _ h9 => h9) rfl dX0_reachAll_1 ?_
  refine lv_iconst (v := 0) hx hb dX0_reachAll_4 (by decide +kernel) ?_
  obtain ⟨o12, e12, hf⟩ := ob_some hf
  refine kSv (As := [.ref h1, .int 0]) (rest := []) ⟨hx, hb, hml, hown, hts⟩ (mJ7_fill_53178 l dC dI h1 kc1 H.size base 0 40 c1 o12 e12) (va_cwS 2 hts (gTS q974 q195 q196 q197) rfl rfl rfl (by decide +kernel) ⟨Nat.le_of_ble_eq_true rfl, Nat.le_of_ble_eq_true rfl⟩) hK hP hD hS hA hE hAB [1] [0, 2, 3, 4, 5, 6, 7, 8, 9, 10, 11] [0] (wr := [(h0, .inr (0, [V0 0, .ref h3, .ref h1, .ref h2, V0 4, V0 5, V0 6])), (h2, .inl (kc2, 6, .inl c2)), (h3, .inr (3, [V3 0, V3 1, .int v3_procedures, .int v3_statements, .ref h4, .ref h5, V3 6, .ref h9, .ref h10, .ref h11, .ref h6, .ref h7, .ref h8, V3 13, V3 14, V3 15, V3 16, V3 17])), (h4, .inl (kc4, 6, .inl c4)), (h5, .inl (kc5, 40, .inl c5)), (h6, .inl (kc6, 40, .inl c6)), (h7, .inl (kc7, 40, .inl c7)), (h8, .inl (kc8, 40, .inl c8)), (h9, .inl (kc9, 40, .inl c9)), (h10, .inl (kc10, 40, .inr (.inl c10))), (h11, .inl (kc11, 40, .inl c11))]) rfl rfl (by decide) (by decide) (by decide) rfl rfl hl.1 rfl (Nat.le_of_ble_eq_true rfl) dX0_reachAll_5 ⟨Nat.zero_le _, Nat.zero_le _⟩ (fun u12 H locs hw12 hP hD hS => ?_)
  have hw121 : o12 = u12 := Eq.symm hw12
  subst hw121
  have hP : va_P (dC, dI) vwCl (wX0_reachAll h0 h1 h2 h3 h4 h5 h6 h7 h8 h9 h10 h11 kc1 kc2 kc4 kc5 kc6 kc7 kc8 kc9 kc10 kc11 V0 V3 o12 c2 v3_procedures v3_statements c4 c5 c6 c7 c8 c9 c10 c11) H := hP.sub [0, 11, 1, 2, 3, 4, 5, 6, 7, 8, 9, 10] rfl
  have hD : va_D A (wX0_reachAll h0 h1 h2 h3 h4 h5 h6 h7 h8 h9 h10 h11 kc1 kc2 kc4 kc5 kc6 kc7 kc8 kc9 kc10 kc11 V0 V3 o12 c2 v3_procedures v3_statements c4 c5 c6 c7 c8 c9 c10 c11) := hD.sub [0, 11, 1, 2, 3, 4, 5, 6, 7, 8, 9, 10] (by decide) rfl
  refine lv_aload_n hx hb dX0_reachAll_8 rfl (lv_at hl 0 rfl) ?_
  refine va_get (D := (dC, dI)) (ci := 0) (v := .ref h2) (C := RX0) (T := TX0) (N := 7) hx hb hts inlX0 hown hK hP 0 rfl rfl 3 (by decide) w5_ (fun _ h9 => h9) rfl dX0_reachAll_9 ?_
  refine lv_iconst (v := 0) hx hb dX0_reachAll_12 (by decide +kernel) ?_
  obtain ⟨o13, e13, hf⟩ := ob_some hf
  refine kSv (As := [.ref h2, .int 0]) (rest := []) ⟨hx, hb, hml, hown, hts⟩ (mJ7_fill_53178 l dC dI h2 kc2 H.size base 0 6 c2 o13 e13) (va_cwS 2 hts (gTS q974 q195 q196 q197) rfl rfl rfl (by decide +kernel) ⟨Nat.le_of_ble_eq_true rfl, Nat.le_of_ble_eq_true rfl⟩) hK hP hD hS hA hE hAB [2] [0, 1, 3, 4, 5, 6, 7, 8, 9, 10, 11] [1] (wr := [(h0, .inr (0, [V0 0, .ref h3, .ref h1, .ref h2, V0 4, V0 5, V0 6])), (h1, .inl (kc1, 40, .inl o12)), (h3, .inr (3, [V3 0, V3 1, .int v3_procedures, .int v3_statements, .ref h4, .ref h5, V3 6, .ref h9, .ref h10, .ref h11, .ref h6, .ref h7, .ref h8, V3 13, V3 14, V3 15, V3 16, V3 17])), (h4, .inl (kc4, 6, .inl c4)), (h5, .inl (kc5, 40, .inl c5)), (h6, .inl (kc6, 40, .inl c6)), (h7, .inl (kc7, 40, .inl c7)), (h8, .inl (kc8, 40, .inl c8)), (h9, .inl (kc9, 40, .inl c9)), (h10, .inl (kc10, 40, .inr (.inl c10))), (h11, .inl (kc11, 40, .inl c11))]) rfl rfl (by decide) (by decide) (by decide) rfl rfl hl.1 rfl (Nat.le_of_ble_eq_true rfl) dX0_reachAll_13 ⟨Nat.zero_le _, Nat.zero_le _⟩ (fun u13 H locs hw13 hP hD hS => ?_)
  have hw131 : o13 = u13 := Eq.symm hw13
  subst hw131
  have hP : va_P (dC, dI) vwCl (wX0_reachAll h0 h1 h2 h3 h4 h5 h6 h7 h8 h9 h10 h11 kc1 kc2 kc4 kc5 kc6 kc7 kc8 kc9 kc10 kc11 V0 V3 o12 o13 v3_procedures v3_statements c4 c5 c6 c7 c8 c9 c10 c11) H := hP.sub [0, 1, 11, 2, 3, 4, 5, 6, 7, 8, 9, 10] rfl
  have hD : va_D A (wX0_reachAll h0 h1 h2 h3 h4 h5 h6 h7 h8 h9 h10 h11 kc1 kc2 kc4 kc5 kc6 kc7 kc8 kc9 kc10 kc11 V0 V3 o12 o13 v3_procedures v3_statements c4 c5 c6 c7 c8 c9 c10 c11) := hD.sub [0, 1, 11, 2, 3, 4, 5, 6, 7, 8, 9, 10] (by decide) rfl
  refine lv_aload_n hx hb dX0_reachAll_16 rfl (lv_at hl 0 rfl) ?_
  refine va_get (D := (dC, dI)) (ci := 0) (v := .ref h3) (C := RX0) (T := TX0) (N := 7) hx hb hts inlX0 hown hK hP 0 rfl rfl 1 (by decide) w0_ (fun _ h9 => h9) rfl dX0_reachAll_17 ?_
  obtain ⟨o14, e14, hf⟩ := ob_some hf
  refine kVi (As := []) (rest := []) ⟨hx, hb, hml, hown, hts⟩ (mX3_firstPoint l dC dI h3 h4 kc4 H.size base v3_procedures c4 (fun k => match k with | 3 => .int v3_statements | 5 => .ref h5 | 7 => .ref h9 | 8 => .ref h10 | 9 => .ref h11 | 10 => .ref h6 | 11 => .ref h7 | 12 => .ref h8 | k => V3 k) o14 e14) (cwV 0 hts (gTV q975 q976 q977 q23 q978) rfl rfl rfl (by decide +kernel) ⟨Nat.le_of_ble_eq_true rfl, Nat.le_of_ble_eq_true rfl⟩) hK hP hD hS hA hE hAB [3, 4] [0, 1, 2, 5, 6, 7, 8, 9, 10, 11] [2] (wr := [(h0, .inr (0, [V0 0, .ref h3, .ref h1, .ref h2, V0 4, V0 5, V0 6])), (h1, .inl (kc1, 40, .inl o12)), (h2, .inl (kc2, 6, .inl o13)), (h5, .inl (kc5, 40, .inl c5)), (h6, .inl (kc6, 40, .inl c6)), (h7, .inl (kc7, 40, .inl c7)), (h8, .inl (kc8, 40, .inl c8)), (h9, .inl (kc9, 40, .inl c9)), (h10, .inl (kc10, 40, .inr (.inl c10))), (h11, .inl (kc11, 40, .inl c11))]) rfl rfl (by decide) (by decide) (by decide) rfl (ci := 3) (q0 := 0) rfl rfl rfl rfl hl.1 rfl (Nat.le_of_ble_eq_true rfl) dX0_reachAll_20 ⟨Nat.zero_le _, Nat.zero_le _⟩ (fun r14 u14 H locs hw14 hP hD hS => ?_)
  obtain ⟨hw141, hw142⟩ := hw14
  subst hw141 hw142
  have hP : va_P (dC, dI) vwCl (wX0_reachAll h0 h1 h2 h3 h4 h5 h6 h7 h8 h9 h10 h11 kc1 kc2 kc4 kc5 kc6 kc7 kc8 kc9 kc10 kc11 V0 V3 o12 o13 v3_procedures v3_statements c4 c5 c6 c7 c8 c9 c10 c11) H := hP.sub [0, 1, 2, 10, 11, 3, 4, 5, 6, 7, 8, 9] rfl
  have hD : va_D A (wX0_reachAll h0 h1 h2 h3 h4 h5 h6 h7 h8 h9 h10 h11 kc1 kc2 kc4 kc5 kc6 kc7 kc8 kc9 kc10 kc11 V0 V3 o12 o13 v3_procedures v3_statements c4 c5 c6 c7 c8 c9 c10 c11) := hD.sub [0, 1, 2, 10, 11, 3, 4, 5, 6, 7, 8, 9] (by decide) rfl
  refine lv_istore_n (lv' := [(1, .int o14.1), (0, .ref h0)]) hx hb dX0_reachAll_23 rfl hl (by decide) rfl (fun ls hl => ?_)
  refine lv_iload_n hx hb dX0_reachAll_24 rfl (lv_at hl 0 rfl) ?_
  refine lv_if_ge (tgt := 29) hx hb dX0_reachAll_25 (by decide) (fun cq15 => ?_) (fun cq15 => ?_)
  · replace hf := if_at hf cq15
    refine lv_aload_n hx hb dX0_reachAll_29 rfl (lv_at hl 1 rfl) ?_
    refine va_get (D := (dC, dI)) (ci := 0) (v := .ref h1) (C := RX0) (T := TX0) (N := 7) hx hb hts inlX0 hown hK hP 0 rfl rfl 2 (by decide) w4_ (fun _ h9 => h9) rfl dX0_reachAll_30 ?_
    refine lv_iload_n hx hb dX0_reachAll_33 rfl (lv_at hl 0 rfl) ?_
    refine lv_iconst (v := 1) hx hb dX0_reachAll_34 (by decide +kernel) ?_
    have b16 := bd_in hf
    replace hf := bd_k hf
    obtain ⟨c16x, e16⟩ : ∃ y, y = upd o12 o14.1.toNatClampNeg 1 := ⟨_, rfl⟩
    replace hf := nm_at hf e16
    refine va_iast hx hb hK hP hD hS 1 0 rfl rfl b16 dX0_reachAll_35 (fun H locs hP hD hS => ?_)
    have hP : va_P (dC, dI) vwCl (wX0_reachAll h0 h1 h2 h3 h4 h5 h6 h7 h8 h9 h10 h11 kc1 kc2 kc4 kc5 kc6 kc7 kc8 kc9 kc10 kc11 V0 V3 c16x o13 v3_procedures v3_statements c4 c5 c6 c7 c8 c9 c10 c11) H := by rw [e16]; exact hP
    have hD : va_D A (wX0_reachAll h0 h1 h2 h3 h4 h5 h6 h7 h8 h9 h10 h11 kc1 kc2 kc4 kc5 kc6 kc7 kc8 kc9 kc10 kc11 V0 V3 c16x o13 v3_procedures v3_statements c4 c5 c6 c7 c8 c9 c10 c11) := by rw [e16]; exact hD
    refine lv_iconst (v := 1) hx hb dX0_reachAll_36 (by decide +kernel) ?_
    refine lv_istore_n (lv' := [(2, .int 1), (1, .int o14.1), (0, .ref h0)]) hx hb dX0_reachAll_37 rfl hl (by decide) rfl (fun ls hl => ?_)
    refine lv_iconst (v := 0) hx hb dX0_reachAll_38 (by decide +kernel) ?_
    refine lv_istore_n (lv' := [(3, .int 0), (2, .int 1), (1, .int o14.1), (0, .ref h0)]) hx hb dX0_reachAll_39 rfl hl (by decide) rfl (fun ls hl => ?_)
    exact (hG _ _ _ _ _).mp (L40 FU 1 0 c16x o13 H locs ls (hP.sub [0, 1, 2, 3, 4, 5, 6, 7, 8, 9, 10, 11] rfl) (hD.sub [0, 1, 2, 3, 4, 5, 6, 7, 8, 9, 10, 11] (by decide) rfl) hS (lv_sub hl [3, 1, 0] rfl) hf)
  · replace hf := if_no hf cq15
    have hf1 := Option.some.inj hf
    subst hf1
    have hP9 := hP.sub (ws' := (wX0_reachAll h0 h1 h2 h3 h4 h5 h6 h7 h8 h9 h10 h11 kc1 kc2 kc4 kc5 kc6 kc7 kc8 kc9 kc10 kc11 V0 V3 o12 o13 v3_procedures v3_statements c4 c5 c6 c7 c8 c9 c10 c11)) [0, 1, 2, 3, 4, 5, 6, 7, 8, 9, 10, 11] rfl
    have hD9 := hD.sub (ws' := (wX0_reachAll h0 h1 h2 h3 h4 h5 h6 h7 h8 h9 h10 h11 kc1 kc2 kc4 kc5 kc6 kc7 kc8 kc9 kc10 kc11 V0 V3 o12 o13 v3_procedures v3_statements c4 c5 c6 c7 c8 c9 c10 c11)) [0, 1, 2, 3, 4, 5, 6, 7, 8, 9, 10, 11] (by decide) rfl
    exact W.vret hx hb hr (fun t ht hW => ⟨⟨(o12, o13), rfl, rfl, by rw [ht]; exact hP9, va_K.moved hW.alike hK, hD9⟩, hS.F ht⟩) hS.2.2 dX0_reachAll_28
abbrev wX0_solve (h0 h1 h2 h3 h4 h5 h6 h7 h8 h9 h10 h11 h12 h13 h14 : Nat) (kc1 kc2 kc4 kc5 kc6 kc7 kc8 kc9 kc10 kc11 kc12 kc13 kc14 : ClassId) (V3 : Nat → Value) (v0_looks : Int32) (c1 : Nat → Int32) (c2 : Nat → Int32) (v3_procedures : Int32) (v3_statements : Int32) (c4 : Nat → Int32) (c5 : Nat → Int32) (c6 : Nat → Int32) (c7 : Nat → Int32) (c8 : Nat → Int32) (c9 : Nat → Int32) (c10 : Nat → Int64) (c11 : Nat → Int32) (c12 : Nat → Int32) (c13 : Nat → Int32) (c14 : Nat → Int32) : va_W := [(h0, .inr (0, [.ref h12, .ref h3, .ref h1, .ref h2, .ref h13, .ref h14, .int v0_looks])), (h1, .inl (kc1, 40, .inl c1)), (h2, .inl (kc2, 6, .inl c2)), (h3, .inr (3, [V3 0, V3 1, .int v3_procedures, .int v3_statements, .ref h4, .ref h5, V3 6, .ref h9, .ref h10, .ref h11, .ref h6, .ref h7, .ref h8, V3 13, V3 14, V3 15, V3 16, V3 17])), (h4, .inl (kc4, 6, .inl c4)), (h5, .inl (kc5, 40, .inl c5)), (h6, .inl (kc6, 40, .inl c6)), (h7, .inl (kc7, 40, .inl c7)), (h8, .inl (kc8, 40, .inl c8)), (h9, .inl (kc9, 40, .inl c9)), (h10, .inl (kc10, 40, .inr (.inl c10))), (h11, .inl (kc11, 40, .inl c11)), (h12, .inl (kc12, 11520, .inl c12)), (h13, .inl (kc13, 40, .inl c13)), (h14, .inl (kc14, 40, .inl c14))]
set_option maxHeartbeats 4000000 in
set_option maxRecDepth 100000 in
theorem mX0_solve (l : Launch) (dC : Nat → ClassId) (dI : Nat → Nat → Nat) (h0 h1 h2 h3 h4 h5 h6 h7 h8 h9 h10 h11 h12 h13 h14 : Nat) (kc1 kc2 kc4 kc5 kc6 kc7 kc8 kc9 kc10 kc11 kc12 kc13 kc14 : ClassId) (sz : Nat) (base : Nat × Nat × Nat) (v0_looks : Int32) (c1 : Nat → Int32) (c2 : Nat → Int32) (v3_procedures : Int32) (v3_statements : Int32) (c4 : Nat → Int32) (c5 : Nat → Int32) (c6 : Nat → Int32) (c7 : Nat → Int32) (c8 : Nat → Int32) (c9 : Nat → Int32) (c10 : Nat → Int64) (c11 : Nat → Int32) (c12 : Nat → Int32) (c13 : Nat → Int32) (c14 : Nat → Int32) (V3 : Nat → Value) (o : Int32 × (Nat → Int32) × (Nat → Int32) × (Nat → Int32) × (Nat → Int32) × (Nat → Int32)) (hf : fX0_solve v0_looks c1 c2 v3_procedures v3_statements c4 c5 c6 c7 c8 c9 c10 c11 c12 c13 c14 = some o) : Met l yX0_solve (.code yX0_solve cX0_solve 5 none :: wsL_law) ({ frames := 5, cells := 0, slots := 0, locals := 125 }) (cPre (dC, dI) vwCl [.ref h0] sz base (wX0_solve h0 h1 h2 h3 h4 h5 h6 h7 h8 h9 h10 h11 h12 h13 h14 kc1 kc2 kc4 kc5 kc6 kc7 kc8 kc9 kc10 kc11 kc12 kc13 kc14 V3 v0_looks c1 c2 v3_procedures v3_statements c4 c5 c6 c7 c8 c9 c10 c11 c12 c13 c14) [(kc1, .int), (kc2, .int), (kc4, .int), (kc5, .int), (kc6, .int), (kc7, .int), (kc8, .int), (kc9, .int), (kc10, .long), (kc11, .int), (kc12, .int), (kc13, .int), (kc14, .int)]) (va_Qv (fun u => u = o) (fun (u : Int32 × (Nat → Int32) × (Nat → Int32) × (Nat → Int32) × (Nat → Int32) × (Nat → Int32)) t => cPost (dC, dI) vwCl (va_A (wX0_solve h0 h1 h2 h3 h4 h5 h6 h7 h8 h9 h10 h11 h12 h13 h14 kc1 kc2 kc4 kc5 kc6 kc7 kc8 kc9 kc10 kc11 kc12 kc13 kc14 V3 v0_looks c1 c2 v3_procedures v3_statements c4 c5 c6 c7 c8 c9 c10 c11 c12 c13 c14) sz) (wX0_solve h0 h1 h2 h3 h4 h5 h6 h7 h8 h9 h10 h11 h12 h13 h14 kc1 kc2 kc4 kc5 kc6 kc7 kc8 kc9 kc10 kc11 kc12 kc13 kc14 V3 u.1 u.2.1 u.2.2.1 v3_procedures v3_statements c4 c5 c6 c7 c8 c9 c10 c11 u.2.2.2.1 u.2.2.2.2.1 u.2.2.2.2.2) [(kc1, .int), (kc2, .int), (kc4, .int), (kc5, .int), (kc6, .int), (kc7, .int), (kc8, .int), (kc9, .int), (kc10, .long), (kc11, .int), (kc12, .int), (kc13, .int), (kc14, .int)] t) (va_A (wX0_solve h0 h1 h2 h3 h4 h5 h6 h7 h8 h9 h10 h11 h12 h13 h14 kc1 kc2 kc4 kc5 kc6 kc7 kc8 kc9 kc10 kc11 kc12 kc13 kc14 V3 v0_looks c1 c2 v3_procedures v3_statements c4 c5 c6 c7 c8 c9 c10 c11 c12 c13 c14) sz)) 0 0 (va_A (wX0_solve h0 h1 h2 h3 h4 h5 h6 h7 h8 h9 h10 h11 h12 h13 h14 kc1 kc2 kc4 kc5 kc6 kc7 kc8 kc9 kc10 kc11 kc12 kc13 kc14 V3 v0_looks c1 c2 v3_procedures v3_statements c4 c5 c6 c7 c8 c9 c10 c11 c12 c13 c14) sz) := by
  refine Met.ofW (cc := cX0_solve) (maxL := 5) (ret := none) (by decide) rfl ?_
  intro p e s m args below meth c s₁ B hml hv
  obtain ⟨rfl, hsz, hP, hK, hD0, hE⟩ := hv
  have hx := B.exec
  have hb := B.bytes
  have hr := B.returns
  have hts : ∀ w ∈ wsL_law, _ := fun w h => atoms_spec (ws := .code yX0_solve cX0_solve 5 none :: wsL_law) B.pre w (List.mem_cons_of_mem _ h)
  have hown : s.vm.findClass RX0 = some m.cls := findClass_of_methodNamed B.named
  have hlocks := B.notSynchronized
  have w0_ := hts _ q968
  have w1_ := hts _ q960
  have w2_ := hts _ q965
  have w3_ := hts _ q958
  have w4_ := hts _ q959
  have w5_ := hts _ q967
  have w6_ := hts _ q955
  have w7_ := hts _ q966
  subst hsz
  have hD := hD0.self (sz := s.heap.size)
  generalize hAe : va_A (wX0_solve h0 h1 h2 h3 h4 h5 h6 h7 h8 h9 h10 h11 h12 h13 h14 kc1 kc2 kc4 kc5 kc6 kc7 kc8 kc9 kc10 kc11 kc12 kc13 kc14 V3 v0_looks c1 c2 v3_procedures v3_statements c4 c5 c6 c7 c8 c9 c10 c11 c12 c13 c14) s.heap.size = A at hD ⊢
  have hA : ∀ q : Nat, s.heap.size ≤ q → A q := fun q h => by rw [← hAe]; exact Or.inr h
  have hAB : ∀ q : Nat, A q → base.1 ≤ q := fun q h => by rw [← hAe] at h; exact h.elim (fun ⟨k, e, hk⟩ => hD0.2 k _ hk) (fun hk => Nat.le_trans hE.1 hk)
  have hS : va_S A s.heap s.heap [] := va_S.rf
  have hl := lv_entry ([.ref h0]) (n := 5) (Nat.le_of_ble_eq_true rfl)
  rw [lg_entry_eq]
  generalize (lg_sl ([.ref h0]) ++ List.replicate (5 - (lg_sl ([.ref h0])).length) Slot.unset).toArray = ls at hl ⊢
  have hl : lv_has ls 5 [(0, .ref h0)] := hl
  have hP : va_P (dC, dI) vwCl (wX0_solve h0 h1 h2 h3 h4 h5 h6 h7 h8 h9 h10 h11 h12 h13 h14 kc1 kc2 kc4 kc5 kc6 kc7 kc8 kc9 kc10 kc11 kc12 kc13 kc14 V3 v0_looks c1 c2 v3_procedures v3_statements c4 c5 c6 c7 c8 c9 c10 c11 c12 c13 c14) s.heap := hP
  refine gl_intro (fun G hG => ?_)
  have J128 : ∀ (v0_looks : Int32) (c1 : (Nat → Int32)) (c2 : (Nat → Int32)) (c12 : (Nat → Int32)) (c13 : (Nat → Int32)) (c14 : (Nat → Int32)) (H : Heap) (locs : List Loc) (ls : Array Slot), va_P (dC, dI) vwCl (wX0_solve h0 h1 h2 h3 h4 h5 h6 h7 h8 h9 h10 h11 h12 h13 h14 kc1 kc2 kc4 kc5 kc6 kc7 kc8 kc9 kc10 kc11 kc12 kc13 kc14 V3 v0_looks c1 c2 v3_procedures v3_statements c4 c5 c6 c7 c8 c9 c10 c11 c12 c13 c14) H → va_D A (wX0_solve h0 h1 h2 h3 h4 h5 h6 h7 h8 h9 h10 h11 h12 h13 h14 kc1 kc2 kc4 kc5 kc6 kc7 kc8 kc9 kc10 kc11 kc12 kc13 kc14 V3 v0_looks c1 c2 v3_procedures v3_statements c4 c5 c6 c7 c8 c9 c10 c11 c12 c13 c14) → va_S A s.heap H locs → lv_has ls 5 [(0, .ref h0)] → fX0_solve_p128 v3_procedures v3_statements c4 c5 c6 c7 c8 c9 c10 c11  v0_looks c1 c2 c12 c13 c14 = some o → G 0 0 H locs (F0 m 128 ls []) := by
    intro  v0_looks c1 c2 c12 c13 c14 H locs ls hP hD hS hl hf
    refine (hG _ _ _ _ _).mpr ?_
    unfold fX0_solve_p128 at hf
    have hf1 := Option.some.inj hf
    subst hf1
    have hP9 := hP.sub (ws' := (wX0_solve h0 h1 h2 h3 h4 h5 h6 h7 h8 h9 h10 h11 h12 h13 h14 kc1 kc2 kc4 kc5 kc6 kc7 kc8 kc9 kc10 kc11 kc12 kc13 kc14 V3 v0_looks c1 c2 v3_procedures v3_statements c4 c5 c6 c7 c8 c9 c10 c11 c12 c13 c14)) [0, 1, 2, 3, 4, 5, 6, 7, 8, 9, 10, 11, 12, 13, 14] rfl
    have hD9 := hD.sub (ws' := (wX0_solve h0 h1 h2 h3 h4 h5 h6 h7 h8 h9 h10 h11 h12 h13 h14 kc1 kc2 kc4 kc5 kc6 kc7 kc8 kc9 kc10 kc11 kc12 kc13 kc14 V3 v0_looks c1 c2 v3_procedures v3_statements c4 c5 c6 c7 c8 c9 c10 c11 c12 c13 c14)) [0, 1, 2, 3, 4, 5, 6, 7, 8, 9, 10, 11, 12, 13, 14] (by decide) rfl
    exact W.vret hx hb hr (fun t ht hW => ⟨⟨(v0_looks, c1, c2, c12, c13, c14), rfl, rfl, by rw [ht]; exact hP9, va_K.moved hW.alike hK, hD9⟩, hS.F ht⟩) hS.2.2 dX0_solve_128
  have J114 : ∀ (k62 : Int32 → Int32 → Int32 → (Nat → Int32) → (Nat → Int32) → (Nat → Int32) → (Nat → Int32) → (Nat → Int32) → Option (Int32 × (Nat → Int32) × (Nat → Int32) × (Nat → Int32) × (Nat → Int32) × (Nat → Int32))) (hk62 : ∀ (y2 : Int32) (y3 : Int32) (v0_looks : Int32) (c1 : (Nat → Int32)) (c2 : (Nat → Int32)) (c12 : (Nat → Int32)) (c13 : (Nat → Int32)) (c14 : (Nat → Int32)) (H : Heap) (locs : List Loc) (ls : Array Slot), va_P (dC, dI) vwCl (wX0_solve h0 h1 h2 h3 h4 h5 h6 h7 h8 h9 h10 h11 h12 h13 h14 kc1 kc2 kc4 kc5 kc6 kc7 kc8 kc9 kc10 kc11 kc12 kc13 kc14 V3 v0_looks c1 c2 v3_procedures v3_statements c4 c5 c6 c7 c8 c9 c10 c11 c12 c13 c14) H → va_D A (wX0_solve h0 h1 h2 h3 h4 h5 h6 h7 h8 h9 h10 h11 h12 h13 h14 kc1 kc2 kc4 kc5 kc6 kc7 kc8 kc9 kc10 kc11 kc12 kc13 kc14 V3 v0_looks c1 c2 v3_procedures v3_statements c4 c5 c6 c7 c8 c9 c10 c11 c12 c13 c14) → va_S A s.heap H locs → lv_has ls 5 [(0, .ref h0), (2, .int y2), (3, .int y3)] → k62 y2 y3 v0_looks c1 c2 c12 c13 c14 = some o → G 0 0 H locs (F0 m 62 ls [])) (k85 : Int32 → Int32 → Int32 → Int32 → (Nat → Int32) → (Nat → Int32) → (Nat → Int32) → (Nat → Int32) → (Nat → Int32) → Option (Int32 × (Nat → Int32) × (Nat → Int32) × (Nat → Int32) × (Nat → Int32) × (Nat → Int32))) (hk85 : ∀ (y2 : Int32) (y3 : Int32) (y4 : Int32) (v0_looks : Int32) (c1 : (Nat → Int32)) (c2 : (Nat → Int32)) (c12 : (Nat → Int32)) (c13 : (Nat → Int32)) (c14 : (Nat → Int32)) (H : Heap) (locs : List Loc) (ls : Array Slot), va_P (dC, dI) vwCl (wX0_solve h0 h1 h2 h3 h4 h5 h6 h7 h8 h9 h10 h11 h12 h13 h14 kc1 kc2 kc4 kc5 kc6 kc7 kc8 kc9 kc10 kc11 kc12 kc13 kc14 V3 v0_looks c1 c2 v3_procedures v3_statements c4 c5 c6 c7 c8 c9 c10 c11 c12 c13 c14) H → va_D A (wX0_solve h0 h1 h2 h3 h4 h5 h6 h7 h8 h9 h10 h11 h12 h13 h14 kc1 kc2 kc4 kc5 kc6 kc7 kc8 kc9 kc10 kc11 kc12 kc13 kc14 V3 v0_looks c1 c2 v3_procedures v3_statements c4 c5 c6 c7 c8 c9 c10 c11 c12 c13 c14) → va_S A s.heap H locs → lv_has ls 5 [(0, .ref h0), (2, .int y2), (3, .int y3), (4, .int y4)] → k85 y2 y3 y4 v0_looks c1 c2 c12 c13 c14 = some o → G 0 0 H locs (F0 m 85 ls [])), ∀ (y3 : Int32) (y4 : Int32) (z0 : Int32) (z1 : Int32) (v0_looks : Int32) (c1 : (Nat → Int32)) (c2 : (Nat → Int32)) (c12 : (Nat → Int32)) (c13 : (Nat → Int32)) (c14 : (Nat → Int32)) (H : Heap) (locs : List Loc) (ls : Array Slot), va_P (dC, dI) vwCl (wX0_solve h0 h1 h2 h3 h4 h5 h6 h7 h8 h9 h10 h11 h12 h13 h14 kc1 kc2 kc4 kc5 kc6 kc7 kc8 kc9 kc10 kc11 kc12 kc13 kc14 V3 v0_looks c1 c2 v3_procedures v3_statements c4 c5 c6 c7 c8 c9 c10 c11 c12 c13 c14) H → va_D A (wX0_solve h0 h1 h2 h3 h4 h5 h6 h7 h8 h9 h10 h11 h12 h13 h14 kc1 kc2 kc4 kc5 kc6 kc7 kc8 kc9 kc10 kc11 kc12 kc13 kc14 V3 v0_looks c1 c2 v3_procedures v3_statements c4 c5 c6 c7 c8 c9 c10 c11 c12 c13 c14) → va_S A s.heap H locs → lv_has ls 5 [(0, .ref h0), (3, .int y3), (4, .int y4)] → fX0_solve_p114 v3_procedures v3_statements c4 c5 c6 c7 c8 c9 c10 c11 k62 k85 y3 y4 z0 z1 v0_looks c1 c2 c12 c13 c14 = some o → G 0 0 H locs (F0 m 114 ls [.int z0, .int z1]) := by
    intro k62 hk62 k85 hk85 y3 y4 z0 z1 v0_looks c1 c2 c12 c13 c14 H locs ls hP hD hS hl hf
    refine (hG _ _ _ _ _).mpr ?_
    unfold fX0_solve_p114 at hf
    refine lv_ior hx hb dX0_solve_114 ?_
    refine lv_topi (fun x1 e1 => ?_)
    replace hf := nm_at hf e1
    refine lv_istore_n (lv' := [(2, .int x1), (0, .ref h0), (3, .int y3), (4, .int y4)]) hx hb dX0_solve_115 rfl hl (by decide) rfl (fun ls hl => ?_)
    obtain ⟨x2, e2⟩ : ∃ y : Int32, y = y4 + (-1) := ⟨_, rfl⟩
    replace hf := nm_at hf e2
    refine lv_iinc (v := x2) (lv' := [(4, .int x2), (2, .int x1), (0, .ref h0), (3, .int y3)]) hx hb dX0_solve_116 hl (k := 3) rfl (by rw [e2]; rfl) (by decide) rfl (fun ls hl => ?_)
    refine lv_goto (tgt := 85) hx hb dX0_solve_119 (by decide) ?_
    exact (hG _ _ _ _ _).mp (hk85 x1 y3 x2 v0_looks c1 c2 c12 c13 c14 H locs ls (hP.sub [0, 1, 2, 3, 4, 5, 6, 7, 8, 9, 10, 11, 12, 13, 14] rfl) (hD.sub [0, 1, 2, 3, 4, 5, 6, 7, 8, 9, 10, 11, 12, 13, 14] (by decide) rfl) hS (lv_sub hl [2, 1, 3, 0] rfl) hf)
  have J113 : ∀ (k62 : Int32 → Int32 → Int32 → (Nat → Int32) → (Nat → Int32) → (Nat → Int32) → (Nat → Int32) → (Nat → Int32) → Option (Int32 × (Nat → Int32) × (Nat → Int32) × (Nat → Int32) × (Nat → Int32) × (Nat → Int32))) (hk62 : ∀ (y2 : Int32) (y3 : Int32) (v0_looks : Int32) (c1 : (Nat → Int32)) (c2 : (Nat → Int32)) (c12 : (Nat → Int32)) (c13 : (Nat → Int32)) (c14 : (Nat → Int32)) (H : Heap) (locs : List Loc) (ls : Array Slot), va_P (dC, dI) vwCl (wX0_solve h0 h1 h2 h3 h4 h5 h6 h7 h8 h9 h10 h11 h12 h13 h14 kc1 kc2 kc4 kc5 kc6 kc7 kc8 kc9 kc10 kc11 kc12 kc13 kc14 V3 v0_looks c1 c2 v3_procedures v3_statements c4 c5 c6 c7 c8 c9 c10 c11 c12 c13 c14) H → va_D A (wX0_solve h0 h1 h2 h3 h4 h5 h6 h7 h8 h9 h10 h11 h12 h13 h14 kc1 kc2 kc4 kc5 kc6 kc7 kc8 kc9 kc10 kc11 kc12 kc13 kc14 V3 v0_looks c1 c2 v3_procedures v3_statements c4 c5 c6 c7 c8 c9 c10 c11 c12 c13 c14) → va_S A s.heap H locs → lv_has ls 5 [(0, .ref h0), (2, .int y2), (3, .int y3)] → k62 y2 y3 v0_looks c1 c2 c12 c13 c14 = some o → G 0 0 H locs (F0 m 62 ls [])) (k85 : Int32 → Int32 → Int32 → Int32 → (Nat → Int32) → (Nat → Int32) → (Nat → Int32) → (Nat → Int32) → (Nat → Int32) → Option (Int32 × (Nat → Int32) × (Nat → Int32) × (Nat → Int32) × (Nat → Int32) × (Nat → Int32))) (hk85 : ∀ (y2 : Int32) (y3 : Int32) (y4 : Int32) (v0_looks : Int32) (c1 : (Nat → Int32)) (c2 : (Nat → Int32)) (c12 : (Nat → Int32)) (c13 : (Nat → Int32)) (c14 : (Nat → Int32)) (H : Heap) (locs : List Loc) (ls : Array Slot), va_P (dC, dI) vwCl (wX0_solve h0 h1 h2 h3 h4 h5 h6 h7 h8 h9 h10 h11 h12 h13 h14 kc1 kc2 kc4 kc5 kc6 kc7 kc8 kc9 kc10 kc11 kc12 kc13 kc14 V3 v0_looks c1 c2 v3_procedures v3_statements c4 c5 c6 c7 c8 c9 c10 c11 c12 c13 c14) H → va_D A (wX0_solve h0 h1 h2 h3 h4 h5 h6 h7 h8 h9 h10 h11 h12 h13 h14 kc1 kc2 kc4 kc5 kc6 kc7 kc8 kc9 kc10 kc11 kc12 kc13 kc14 V3 v0_looks c1 c2 v3_procedures v3_statements c4 c5 c6 c7 c8 c9 c10 c11 c12 c13 c14) → va_S A s.heap H locs → lv_has ls 5 [(0, .ref h0), (2, .int y2), (3, .int y3), (4, .int y4)] → k85 y2 y3 y4 v0_looks c1 c2 c12 c13 c14 = some o → G 0 0 H locs (F0 m 85 ls [])), ∀ (y3 : Int32) (y4 : Int32) (z0 : Int32) (v0_looks : Int32) (c1 : (Nat → Int32)) (c2 : (Nat → Int32)) (c12 : (Nat → Int32)) (c13 : (Nat → Int32)) (c14 : (Nat → Int32)) (H : Heap) (locs : List Loc) (ls : Array Slot), va_P (dC, dI) vwCl (wX0_solve h0 h1 h2 h3 h4 h5 h6 h7 h8 h9 h10 h11 h12 h13 h14 kc1 kc2 kc4 kc5 kc6 kc7 kc8 kc9 kc10 kc11 kc12 kc13 kc14 V3 v0_looks c1 c2 v3_procedures v3_statements c4 c5 c6 c7 c8 c9 c10 c11 c12 c13 c14) H → va_D A (wX0_solve h0 h1 h2 h3 h4 h5 h6 h7 h8 h9 h10 h11 h12 h13 h14 kc1 kc2 kc4 kc5 kc6 kc7 kc8 kc9 kc10 kc11 kc12 kc13 kc14 V3 v0_looks c1 c2 v3_procedures v3_statements c4 c5 c6 c7 c8 c9 c10 c11 c12 c13 c14) → va_S A s.heap H locs → lv_has ls 5 [(0, .ref h0), (3, .int y3), (4, .int y4)] → fX0_solve_p113 v3_procedures v3_statements c4 c5 c6 c7 c8 c9 c10 c11 k62 k85 y3 y4 z0 v0_looks c1 c2 c12 c13 c14 = some o → G 0 0 H locs (F0 m 113 ls [.int z0]) := by
    intro k62 hk62 k85 hk85 y3 y4 z0 v0_looks c1 c2 c12 c13 c14 H locs ls hP hD hS hl hf
    refine (hG _ _ _ _ _).mpr ?_
    unfold fX0_solve_p113 at hf
    refine lv_iconst (v := 0) hx hb dX0_solve_113 (by decide +kernel) ?_
    exact (hG _ _ _ _ _).mp (J114 k62 hk62 k85 hk85 y3 y4 0 z0 v0_looks c1 c2 c12 c13 c14 H locs ls (hP.sub [0, 1, 2, 3, 4, 5, 6, 7, 8, 9, 10, 11, 12, 13, 14] rfl) (hD.sub [0, 1, 2, 3, 4, 5, 6, 7, 8, 9, 10, 11, 12, 13, 14] (by decide) rfl) hS (lv_sub hl [0, 1, 2] rfl) hf)
  have B85 : ∀ (k62 : Int32 → Int32 → Int32 → (Nat → Int32) → (Nat → Int32) → (Nat → Int32) → (Nat → Int32) → (Nat → Int32) → Option (Int32 × (Nat → Int32) × (Nat → Int32) × (Nat → Int32) × (Nat → Int32) × (Nat → Int32))) (hk62 : ∀ (y2 : Int32) (y3 : Int32) (v0_looks : Int32) (c1 : (Nat → Int32)) (c2 : (Nat → Int32)) (c12 : (Nat → Int32)) (c13 : (Nat → Int32)) (c14 : (Nat → Int32)) (H : Heap) (locs : List Loc) (ls : Array Slot), va_P (dC, dI) vwCl (wX0_solve h0 h1 h2 h3 h4 h5 h6 h7 h8 h9 h10 h11 h12 h13 h14 kc1 kc2 kc4 kc5 kc6 kc7 kc8 kc9 kc10 kc11 kc12 kc13 kc14 V3 v0_looks c1 c2 v3_procedures v3_statements c4 c5 c6 c7 c8 c9 c10 c11 c12 c13 c14) H → va_D A (wX0_solve h0 h1 h2 h3 h4 h5 h6 h7 h8 h9 h10 h11 h12 h13 h14 kc1 kc2 kc4 kc5 kc6 kc7 kc8 kc9 kc10 kc11 kc12 kc13 kc14 V3 v0_looks c1 c2 v3_procedures v3_statements c4 c5 c6 c7 c8 c9 c10 c11 c12 c13 c14) → va_S A s.heap H locs → lv_has ls 5 [(0, .ref h0), (2, .int y2), (3, .int y3)] → k62 y2 y3 v0_looks c1 c2 c12 c13 c14 = some o → G 0 0 H locs (F0 m 62 ls [])) (k85 : Int32 → Int32 → Int32 → Int32 → (Nat → Int32) → (Nat → Int32) → (Nat → Int32) → (Nat → Int32) → (Nat → Int32) → Option (Int32 × (Nat → Int32) × (Nat → Int32) × (Nat → Int32) × (Nat → Int32) × (Nat → Int32))) (hk85 : ∀ (y2 : Int32) (y3 : Int32) (y4 : Int32) (v0_looks : Int32) (c1 : (Nat → Int32)) (c2 : (Nat → Int32)) (c12 : (Nat → Int32)) (c13 : (Nat → Int32)) (c14 : (Nat → Int32)) (H : Heap) (locs : List Loc) (ls : Array Slot), va_P (dC, dI) vwCl (wX0_solve h0 h1 h2 h3 h4 h5 h6 h7 h8 h9 h10 h11 h12 h13 h14 kc1 kc2 kc4 kc5 kc6 kc7 kc8 kc9 kc10 kc11 kc12 kc13 kc14 V3 v0_looks c1 c2 v3_procedures v3_statements c4 c5 c6 c7 c8 c9 c10 c11 c12 c13 c14) H → va_D A (wX0_solve h0 h1 h2 h3 h4 h5 h6 h7 h8 h9 h10 h11 h12 h13 h14 kc1 kc2 kc4 kc5 kc6 kc7 kc8 kc9 kc10 kc11 kc12 kc13 kc14 V3 v0_looks c1 c2 v3_procedures v3_statements c4 c5 c6 c7 c8 c9 c10 c11 c12 c13 c14) → va_S A s.heap H locs → lv_has ls 5 [(0, .ref h0), (2, .int y2), (3, .int y3), (4, .int y4)] → k85 y2 y3 y4 v0_looks c1 c2 c12 c13 c14 = some o → G 0 0 H locs (F0 m 85 ls [])), ∀ (y2 : Int32) (y3 : Int32) (y4 : Int32) (v0_looks : Int32) (c1 : (Nat → Int32)) (c2 : (Nat → Int32)) (c12 : (Nat → Int32)) (c13 : (Nat → Int32)) (c14 : (Nat → Int32)) (H : Heap) (locs : List Loc) (ls : Array Slot), va_P (dC, dI) vwCl (wX0_solve h0 h1 h2 h3 h4 h5 h6 h7 h8 h9 h10 h11 h12 h13 h14 kc1 kc2 kc4 kc5 kc6 kc7 kc8 kc9 kc10 kc11 kc12 kc13 kc14 V3 v0_looks c1 c2 v3_procedures v3_statements c4 c5 c6 c7 c8 c9 c10 c11 c12 c13 c14) H → va_D A (wX0_solve h0 h1 h2 h3 h4 h5 h6 h7 h8 h9 h10 h11 h12 h13 h14 kc1 kc2 kc4 kc5 kc6 kc7 kc8 kc9 kc10 kc11 kc12 kc13 kc14 V3 v0_looks c1 c2 v3_procedures v3_statements c4 c5 c6 c7 c8 c9 c10 c11 c12 c13 c14) → va_S A s.heap H locs → lv_has ls 5 [(0, .ref h0), (2, .int y2), (3, .int y3), (4, .int y4)] → fX0_solve_b85 v3_procedures v3_statements c4 c5 c6 c7 c8 c9 c10 c11 k62 k85 y2 y3 y4 v0_looks c1 c2 c12 c13 c14 = some o → G 0 0 H locs (F0 m 85 ls []) := by
    intro k62 hk62 k85 hk85 y2 y3 y4 v0_looks c1 c2 c12 c13 c14 H locs ls hP hD hS hl hf
    refine (hG _ _ _ _ _).mpr ?_
    unfold fX0_solve_b85 at hf
    refine lv_iload hx hb dX0_solve_85 (lv_at hl 3 rfl) ?_
    refine lv_if_lt (tgt := 122) hx hb dX0_solve_87 (by decide) (fun cq3 => ?_) (fun cq3 => ?_)
    · replace hf := if_at hf cq3
      obtain ⟨x4, e4⟩ : ∃ y : Int32, y = y3 + 1 := ⟨_, rfl⟩
      replace hf := nm_at hf e4
      refine lv_iinc (v := x4) (lv' := [(3, .int x4), (0, .ref h0), (2, .int y2), (4, .int y4)]) hx hb dX0_solve_122 hl (k := 2) rfl (by rw [e4]; rfl) (by decide) rfl (fun ls hl => ?_)
      refine lv_goto (tgt := 62) hx hb dX0_solve_125 (by decide) ?_
      exact (hG _ _ _ _ _).mp (hk62 y2 x4 v0_looks c1 c2 c12 c13 c14 H locs ls (hP.sub [0, 1, 2, 3, 4, 5, 6, 7, 8, 9, 10, 11, 12, 13, 14] rfl) (hD.sub [0, 1, 2, 3, 4, 5, 6, 7, 8, 9, 10, 11, 12, 13, 14] (by decide) rfl) hS (lv_sub hl [1, 2, 0] rfl) hf)
    · replace hf := if_no hf cq3
      refine lv_iload_n hx hb dX0_solve_90 rfl (lv_at hl 1 rfl) ?_
      refine lv_aload_n hx hb dX0_solve_91 rfl (lv_at hl 0 rfl) ?_
      refine lv_iload hx hb dX0_solve_92 (lv_at hl 3 rfl) ?_
      obtain ⟨o5, e5, hf⟩ := ob_some hf
      refine kVi (As := [.int y4]) (rest := [.int y2]) ⟨hx, hb, hml, hown, hts⟩ (mX0_isStale l dC dI h0 h14 h3 h7 h13 h8 h5 h6 h4 kc14 kc7 kc13 kc8 kc5 kc6 kc4 H.size base y4 c14 c7 c13 c8 c5 c6 c4 (fun k => match k with | 0 => .ref h12 | 2 => .ref h1 | 3 => .ref h2 | 6 => .int v0_looks | _ => .null) (fun k => match k with | 2 => .int v3_procedures | 3 => .int v3_statements | 7 => .ref h9 | 8 => .ref h10 | 9 => .ref h11 | k => V3 k) o5 e5) (cwV 1 hts (gTV q1012 q1013 q1014 q946 q1015) rfl rfl rfl (by decide +kernel) ⟨Nat.le_of_ble_eq_true rfl, Nat.le_of_ble_eq_true rfl⟩) hK hP hD hS hA hE hAB [0, 14, 3, 7, 13, 8, 5, 6, 4] [1, 2, 9, 10, 11, 12] [12, 5, 11, 6, 3, 4, 2] (wr := [(h1, .inl (kc1, 40, .inl c1)), (h2, .inl (kc2, 6, .inl c2)), (h9, .inl (kc9, 40, .inl c9)), (h10, .inl (kc10, 40, .inr (.inl c10))), (h11, .inl (kc11, 40, .inl c11)), (h12, .inl (kc12, 11520, .inl c12))]) rfl rfl (by decide) (by decide) (by decide) rfl (ci := 0) (q0 := 0) rfl rfl rfl rfl hl.1 rfl (Nat.le_of_ble_eq_true rfl) dX0_solve_94 ⟨Nat.zero_le _, Nat.zero_le _⟩ (fun r5 u5 H locs hw5 hP hD hS => ?_)
      obtain ⟨hw51, hw52⟩ := hw5
      subst hw51 hw52
      have hP : va_P (dC, dI) vwCl (wX0_solve h0 h1 h2 h3 h4 h5 h6 h7 h8 h9 h10 h11 h12 h13 h14 kc1 kc2 kc4 kc5 kc6 kc7 kc8 kc9 kc10 kc11 kc12 kc13 kc14 V3 v0_looks c1 c2 v3_procedures v3_statements c4 c5 c6 c7 c8 c9 c10 c11 c12 c13 c14) H := hP.sub [6, 0, 1, 8, 14, 12, 13, 9, 11, 2, 3, 4, 5, 10, 7] rfl
      have hD : va_D A (wX0_solve h0 h1 h2 h3 h4 h5 h6 h7 h8 h9 h10 h11 h12 h13 h14 kc1 kc2 kc4 kc5 kc6 kc7 kc8 kc9 kc10 kc11 kc12 kc13 kc14 V3 v0_looks c1 c2 v3_procedures v3_statements c4 c5 c6 c7 c8 c9 c10 c11 c12 c13 c14) := hD.sub [6, 0, 1, 8, 14, 12, 13, 9, 11, 2, 3, 4, 5, 10, 7] (by decide) rfl
      refine lv_if_eq (tgt := 113) hx hb dX0_solve_97 (by decide) (fun cq6 => ?_) (fun cq6 => ?_)
      · replace hf := if_at hf cq6
        exact (hG _ _ _ _ _).mp (J113 k62 hk62 k85 hk85 y3 y4 y2 v0_looks c1 c2 c12 c13 c14 H locs ls (hP.sub [0, 1, 2, 3, 4, 5, 6, 7, 8, 9, 10, 11, 12, 13, 14] rfl) (hD.sub [0, 1, 2, 3, 4, 5, 6, 7, 8, 9, 10, 11, 12, 13, 14] (by decide) rfl) hS (lv_sub hl [0, 2, 3] rfl) hf)
      · replace hf := if_no hf cq6
        refine lv_aload_n hx hb dX0_solve_100 rfl (lv_at hl 0 rfl) ?_
        refine lv_iload hx hb dX0_solve_101 (lv_at hl 3 rfl) ?_
        obtain ⟨o7, e7, hf⟩ := ob_some hf
        refine kVi (As := [.int y4]) (rest := [.int y2]) ⟨hx, hb, hml, hown, hts⟩ (mX0_lookAt l dC dI h0 h14 h3 h5 h1 h7 h8 h6 h4 h12 h10 h11 h13 kc14 kc5 kc1 kc7 kc8 kc6 kc4 kc12 kc10 kc11 kc13 H.size base y4 v0_looks c14 c5 c1 c7 c8 c6 c4 c12 c10 c11 c13 (fun k => match k with | 3 => .ref h2 | _ => .null) (fun k => match k with | 2 => .int v3_procedures | 3 => .int v3_statements | 7 => .ref h9 | k => V3 k) o7 e7) (cwV 1 hts (gTV q1022 q1023 q1024 q946 q1025) rfl rfl rfl (by decide +kernel) ⟨Nat.le_of_ble_eq_true rfl, Nat.le_of_ble_eq_true rfl⟩) hK hP hD hS hA hE hAB [0, 14, 3, 5, 1, 7, 8, 6, 4, 12, 10, 11, 13] [2, 9] [12, 3, 0, 5, 6, 4, 2, 10, 8, 9, 11] (wr := [(h2, .inl (kc2, 6, .inl c2)), (h9, .inl (kc9, 40, .inl c9))]) rfl rfl (by decide) (by decide) (by decide) rfl (ci := 0) (q0 := 0) rfl rfl rfl rfl hl.1 rfl (Nat.le_of_ble_eq_true rfl) dX0_solve_103 ⟨Nat.zero_le _, Nat.zero_le _⟩ (fun r7 u7 H locs hw7 hP hD hS => ?_)
        obtain ⟨hw71, hw72⟩ := hw7
        subst hw71 hw72
        have hP : va_P (dC, dI) vwCl (wX0_solve h0 h1 h2 h3 h4 h5 h6 h7 h8 h9 h10 h11 h12 h13 h14 kc1 kc2 kc4 kc5 kc6 kc7 kc8 kc9 kc10 kc11 kc12 kc13 kc14 V3 o7.2.1 c1 c2 v3_procedures v3_statements c4 c5 c6 c7 c8 c9 c10 c11 o7.2.2.2.1 o7.2.2.2.2 o7.2.2.1) H := hP.sub [2, 6, 0, 4, 10, 5, 9, 7, 8, 1, 12, 13, 11, 14, 3] rfl
        have hD : va_D A (wX0_solve h0 h1 h2 h3 h4 h5 h6 h7 h8 h9 h10 h11 h12 h13 h14 kc1 kc2 kc4 kc5 kc6 kc7 kc8 kc9 kc10 kc11 kc12 kc13 kc14 V3 o7.2.1 c1 c2 v3_procedures v3_statements c4 c5 c6 c7 c8 c9 c10 c11 o7.2.2.2.1 o7.2.2.2.2 o7.2.2.1) := hD.sub [2, 6, 0, 4, 10, 5, 9, 7, 8, 1, 12, 13, 11, 14, 3] (by decide) rfl
        refine lv_if_eq (tgt := 113) hx hb dX0_solve_106 (by decide) (fun cq8 => ?_) (fun cq8 => ?_)
        · replace hf := if_at hf cq8
          exact (hG _ _ _ _ _).mp (J113 k62 hk62 k85 hk85 y3 y4 y2 o7.2.1 c1 c2 o7.2.2.2.1 o7.2.2.2.2 o7.2.2.1 H locs ls (hP.sub [0, 1, 2, 3, 4, 5, 6, 7, 8, 9, 10, 11, 12, 13, 14] rfl) (hD.sub [0, 1, 2, 3, 4, 5, 6, 7, 8, 9, 10, 11, 12, 13, 14] (by decide) rfl) hS (lv_sub hl [0, 2, 3] rfl) hf)
        · replace hf := if_no hf cq8
          refine lv_iconst (v := 1) hx hb dX0_solve_109 (by decide +kernel) ?_
          refine lv_goto (tgt := 114) hx hb dX0_solve_110 (by decide) ?_
          exact (hG _ _ _ _ _).mp (J114 k62 hk62 k85 hk85 y3 y4 1 y2 o7.2.1 c1 c2 o7.2.2.2.1 o7.2.2.2.2 o7.2.2.1 H locs ls (hP.sub [0, 1, 2, 3, 4, 5, 6, 7, 8, 9, 10, 11, 12, 13, 14] rfl) (hD.sub [0, 1, 2, 3, 4, 5, 6, 7, 8, 9, 10, 11, 12, 13, 14] (by decide) rfl) hS (lv_sub hl [0, 2, 3] rfl) hf)
  have L85 : ∀ (k62 : Int32 → Int32 → Int32 → (Nat → Int32) → (Nat → Int32) → (Nat → Int32) → (Nat → Int32) → (Nat → Int32) → Option (Int32 × (Nat → Int32) × (Nat → Int32) × (Nat → Int32) × (Nat → Int32) × (Nat → Int32))) (hk62 : ∀ (y2 : Int32) (y3 : Int32) (v0_looks : Int32) (c1 : (Nat → Int32)) (c2 : (Nat → Int32)) (c12 : (Nat → Int32)) (c13 : (Nat → Int32)) (c14 : (Nat → Int32)) (H : Heap) (locs : List Loc) (ls : Array Slot), va_P (dC, dI) vwCl (wX0_solve h0 h1 h2 h3 h4 h5 h6 h7 h8 h9 h10 h11 h12 h13 h14 kc1 kc2 kc4 kc5 kc6 kc7 kc8 kc9 kc10 kc11 kc12 kc13 kc14 V3 v0_looks c1 c2 v3_procedures v3_statements c4 c5 c6 c7 c8 c9 c10 c11 c12 c13 c14) H → va_D A (wX0_solve h0 h1 h2 h3 h4 h5 h6 h7 h8 h9 h10 h11 h12 h13 h14 kc1 kc2 kc4 kc5 kc6 kc7 kc8 kc9 kc10 kc11 kc12 kc13 kc14 V3 v0_looks c1 c2 v3_procedures v3_statements c4 c5 c6 c7 c8 c9 c10 c11 c12 c13 c14) → va_S A s.heap H locs → lv_has ls 5 [(0, .ref h0), (2, .int y2), (3, .int y3)] → k62 y2 y3 v0_looks c1 c2 c12 c13 c14 = some o → G 0 0 H locs (F0 m 62 ls [])) (n : Nat), ∀ (y2 : Int32) (y3 : Int32) (y4 : Int32) (v0_looks : Int32) (c1 : (Nat → Int32)) (c2 : (Nat → Int32)) (c12 : (Nat → Int32)) (c13 : (Nat → Int32)) (c14 : (Nat → Int32)) (H : Heap) (locs : List Loc) (ls : Array Slot), va_P (dC, dI) vwCl (wX0_solve h0 h1 h2 h3 h4 h5 h6 h7 h8 h9 h10 h11 h12 h13 h14 kc1 kc2 kc4 kc5 kc6 kc7 kc8 kc9 kc10 kc11 kc12 kc13 kc14 V3 v0_looks c1 c2 v3_procedures v3_statements c4 c5 c6 c7 c8 c9 c10 c11 c12 c13 c14) H → va_D A (wX0_solve h0 h1 h2 h3 h4 h5 h6 h7 h8 h9 h10 h11 h12 h13 h14 kc1 kc2 kc4 kc5 kc6 kc7 kc8 kc9 kc10 kc11 kc12 kc13 kc14 V3 v0_looks c1 c2 v3_procedures v3_statements c4 c5 c6 c7 c8 c9 c10 c11 c12 c13 c14) → va_S A s.heap H locs → lv_has ls 5 [(0, .ref h0), (2, .int y2), (3, .int y3), (4, .int y4)] → fX0_solve_l85 v3_procedures v3_statements c4 c5 c6 c7 c8 c9 c10 c11 k62 n y2 y3 y4 v0_looks c1 c2 c12 c13 c14 = some o → G 0 0 H locs (F0 m 85 ls []) := by
    intro k62 hk62 n
    induction n with
    | zero => intro y2 y3 y4 v0_looks c1 c2 c12 c13 c14 H locs ls _ _ _ _ hf; cases hf
    | succ n ih => exact B85 k62 hk62 _ ih
  have B62 : ∀ (k62 : Int32 → Int32 → Int32 → (Nat → Int32) → (Nat → Int32) → (Nat → Int32) → (Nat → Int32) → (Nat → Int32) → Option (Int32 × (Nat → Int32) × (Nat → Int32) × (Nat → Int32) × (Nat → Int32) × (Nat → Int32))) (hk62 : ∀ (y2 : Int32) (y3 : Int32) (v0_looks : Int32) (c1 : (Nat → Int32)) (c2 : (Nat → Int32)) (c12 : (Nat → Int32)) (c13 : (Nat → Int32)) (c14 : (Nat → Int32)) (H : Heap) (locs : List Loc) (ls : Array Slot), va_P (dC, dI) vwCl (wX0_solve h0 h1 h2 h3 h4 h5 h6 h7 h8 h9 h10 h11 h12 h13 h14 kc1 kc2 kc4 kc5 kc6 kc7 kc8 kc9 kc10 kc11 kc12 kc13 kc14 V3 v0_looks c1 c2 v3_procedures v3_statements c4 c5 c6 c7 c8 c9 c10 c11 c12 c13 c14) H → va_D A (wX0_solve h0 h1 h2 h3 h4 h5 h6 h7 h8 h9 h10 h11 h12 h13 h14 kc1 kc2 kc4 kc5 kc6 kc7 kc8 kc9 kc10 kc11 kc12 kc13 kc14 V3 v0_looks c1 c2 v3_procedures v3_statements c4 c5 c6 c7 c8 c9 c10 c11 c12 c13 c14) → va_S A s.heap H locs → lv_has ls 5 [(0, .ref h0), (2, .int y2), (3, .int y3)] → k62 y2 y3 v0_looks c1 c2 c12 c13 c14 = some o → G 0 0 H locs (F0 m 62 ls [])), ∀ (y2 : Int32) (y3 : Int32) (v0_looks : Int32) (c1 : (Nat → Int32)) (c2 : (Nat → Int32)) (c12 : (Nat → Int32)) (c13 : (Nat → Int32)) (c14 : (Nat → Int32)) (H : Heap) (locs : List Loc) (ls : Array Slot), va_P (dC, dI) vwCl (wX0_solve h0 h1 h2 h3 h4 h5 h6 h7 h8 h9 h10 h11 h12 h13 h14 kc1 kc2 kc4 kc5 kc6 kc7 kc8 kc9 kc10 kc11 kc12 kc13 kc14 V3 v0_looks c1 c2 v3_procedures v3_statements c4 c5 c6 c7 c8 c9 c10 c11 c12 c13 c14) H → va_D A (wX0_solve h0 h1 h2 h3 h4 h5 h6 h7 h8 h9 h10 h11 h12 h13 h14 kc1 kc2 kc4 kc5 kc6 kc7 kc8 kc9 kc10 kc11 kc12 kc13 kc14 V3 v0_looks c1 c2 v3_procedures v3_statements c4 c5 c6 c7 c8 c9 c10 c11 c12 c13 c14) → va_S A s.heap H locs → lv_has ls 5 [(0, .ref h0), (2, .int y2), (3, .int y3)] → fX0_solve_b62 v3_procedures v3_statements c4 c5 c6 c7 c8 c9 c10 c11  k62 y2 y3 v0_looks c1 c2 c12 c13 c14 = some o → G 0 0 H locs (F0 m 62 ls []) := by
    intro  k62 hk62 y2 y3 v0_looks c1 c2 c12 c13 c14 H locs ls hP hD hS hl hf
    refine (hG _ _ _ _ _).mpr ?_
    unfold fX0_solve_b62 at hf
    refine lv_iload_n hx hb dX0_solve_62 rfl (lv_at hl 2 rfl) ?_
    refine lv_ldc (v := 1000000) hx hb hown w0_ dX0_solve_63 ?_
    refine lv_icmp_ge (tgt := 128) hx hb dX0_solve_65 (by decide) (fun cq9 => ?_) (fun cq9 => ?_)
    · replace hf := if_at hf cq9
      exact (hG _ _ _ _ _).mp (J128 v0_looks c1 c2 c12 c13 c14 H locs ls (hP.sub [0, 1, 2, 3, 4, 5, 6, 7, 8, 9, 10, 11, 12, 13, 14] rfl) (hD.sub [0, 1, 2, 3, 4, 5, 6, 7, 8, 9, 10, 11, 12, 13, 14] (by decide) rfl) hS (lv_sub hl [0] rfl) hf)
    · replace hf := if_no hf cq9
      refine lv_iload_n hx hb dX0_solve_68 rfl (lv_at hl 1 rfl) ?_
      refine lv_if_eq (tgt := 128) hx hb dX0_solve_69 (by decide) (fun cq10 => ?_) (fun cq10 => ?_)
      · replace hf := if_at hf cq10
        exact (hG _ _ _ _ _).mp (J128 v0_looks c1 c2 c12 c13 c14 H locs ls (hP.sub [0, 1, 2, 3, 4, 5, 6, 7, 8, 9, 10, 11, 12, 13, 14] rfl) (hD.sub [0, 1, 2, 3, 4, 5, 6, 7, 8, 9, 10, 11, 12, 13, 14] (by decide) rfl) hS (lv_sub hl [0] rfl) hf)
      · replace hf := if_no hf cq10
        refine lv_iconst (v := 0) hx hb dX0_solve_72 (by decide +kernel) ?_
        refine lv_istore_n (lv' := [(2, .int 0), (0, .ref h0), (3, .int y3)]) hx hb dX0_solve_73 rfl hl (by decide) rfl (fun ls hl => ?_)
        refine lv_aload_n hx hb dX0_solve_74 rfl (lv_at hl 1 rfl) ?_
        refine va_get (D := (dC, dI)) (ci := 0) (v := .ref h3) (C := RX0) (T := TX0) (N := 7) hx hb hts inlX0 hown hK hP 0 rfl rfl 1 (by decide) w1_ (fun _ h9 => h9) rfl dX0_solve_75 ?_
        refine va_get (D := (dC, dI)) (ci := 3) (v := .int v3_statements) (C := RX3) (T := TX3) (N := 18) hx hb hts inlX3 hown hK hP 3 rfl rfl 3 (by decide) w2_ (fun _ h9 => h9) rfl dX0_solve_78 ?_
        refine lv_iconst (v := 1) hx hb dX0_solve_81 (by decide +kernel) ?_
        refine lv_isub hx hb dX0_solve_82 ?_
        refine lv_topi (fun x11 e11 => ?_)
        replace hf := nm_at hf e11
        refine lv_istore (lv' := [(4, .int x11), (2, .int 0), (0, .ref h0), (3, .int y3)]) hx hb dX0_solve_83 hl (by decide) rfl (fun ls hl => ?_)
        exact (hG _ _ _ _ _).mp (L85 k62 hk62 FU 0 y3 x11 v0_looks c1 c2 c12 c13 c14 H locs ls (hP.sub [0, 1, 2, 3, 4, 5, 6, 7, 8, 9, 10, 11, 12, 13, 14] rfl) (hD.sub [0, 1, 2, 3, 4, 5, 6, 7, 8, 9, 10, 11, 12, 13, 14] (by decide) rfl) hS (lv_sub hl [2, 1, 3, 0] rfl) hf)
  have L62 : ∀ (n : Nat), ∀ (y2 : Int32) (y3 : Int32) (v0_looks : Int32) (c1 : (Nat → Int32)) (c2 : (Nat → Int32)) (c12 : (Nat → Int32)) (c13 : (Nat → Int32)) (c14 : (Nat → Int32)) (H : Heap) (locs : List Loc) (ls : Array Slot), va_P (dC, dI) vwCl (wX0_solve h0 h1 h2 h3 h4 h5 h6 h7 h8 h9 h10 h11 h12 h13 h14 kc1 kc2 kc4 kc5 kc6 kc7 kc8 kc9 kc10 kc11 kc12 kc13 kc14 V3 v0_looks c1 c2 v3_procedures v3_statements c4 c5 c6 c7 c8 c9 c10 c11 c12 c13 c14) H → va_D A (wX0_solve h0 h1 h2 h3 h4 h5 h6 h7 h8 h9 h10 h11 h12 h13 h14 kc1 kc2 kc4 kc5 kc6 kc7 kc8 kc9 kc10 kc11 kc12 kc13 kc14 V3 v0_looks c1 c2 v3_procedures v3_statements c4 c5 c6 c7 c8 c9 c10 c11 c12 c13 c14) → va_S A s.heap H locs → lv_has ls 5 [(0, .ref h0), (2, .int y2), (3, .int y3)] → fX0_solve_l62 v3_procedures v3_statements c4 c5 c6 c7 c8 c9 c10 c11  n y2 y3 v0_looks c1 c2 c12 c13 c14 = some o → G 0 0 H locs (F0 m 62 ls []) := by
    intro  n
    induction n with
    | zero => intro y2 y3 v0_looks c1 c2 c12 c13 c14 H locs ls _ _ _ _ hf; cases hf
    | succ n ih => exact B62  _ ih
  have B18 : ∀ (k18 : Int32 → Int32 → Int32 → (Nat → Int32) → (Nat → Int32) → (Nat → Int32) → (Nat → Int32) → (Nat → Int32) → Option (Int32 × (Nat → Int32) × (Nat → Int32) × (Nat → Int32) × (Nat → Int32) × (Nat → Int32))) (hk18 : ∀ (y1 : Int32) (y2 : Int32) (v0_looks : Int32) (c1 : (Nat → Int32)) (c2 : (Nat → Int32)) (c12 : (Nat → Int32)) (c13 : (Nat → Int32)) (c14 : (Nat → Int32)) (H : Heap) (locs : List Loc) (ls : Array Slot), va_P (dC, dI) vwCl (wX0_solve h0 h1 h2 h3 h4 h5 h6 h7 h8 h9 h10 h11 h12 h13 h14 kc1 kc2 kc4 kc5 kc6 kc7 kc8 kc9 kc10 kc11 kc12 kc13 kc14 V3 v0_looks c1 c2 v3_procedures v3_statements c4 c5 c6 c7 c8 c9 c10 c11 c12 c13 c14) H → va_D A (wX0_solve h0 h1 h2 h3 h4 h5 h6 h7 h8 h9 h10 h11 h12 h13 h14 kc1 kc2 kc4 kc5 kc6 kc7 kc8 kc9 kc10 kc11 kc12 kc13 kc14 V3 v0_looks c1 c2 v3_procedures v3_statements c4 c5 c6 c7 c8 c9 c10 c11 c12 c13 c14) → va_S A s.heap H locs → lv_has ls 5 [(0, .ref h0), (1, .int y1), (2, .int y2)] → k18 y1 y2 v0_looks c1 c2 c12 c13 c14 = some o → G 0 0 H locs (F0 m 18 ls [])), ∀ (y1 : Int32) (y2 : Int32) (v0_looks : Int32) (c1 : (Nat → Int32)) (c2 : (Nat → Int32)) (c12 : (Nat → Int32)) (c13 : (Nat → Int32)) (c14 : (Nat → Int32)) (H : Heap) (locs : List Loc) (ls : Array Slot), va_P (dC, dI) vwCl (wX0_solve h0 h1 h2 h3 h4 h5 h6 h7 h8 h9 h10 h11 h12 h13 h14 kc1 kc2 kc4 kc5 kc6 kc7 kc8 kc9 kc10 kc11 kc12 kc13 kc14 V3 v0_looks c1 c2 v3_procedures v3_statements c4 c5 c6 c7 c8 c9 c10 c11 c12 c13 c14) H → va_D A (wX0_solve h0 h1 h2 h3 h4 h5 h6 h7 h8 h9 h10 h11 h12 h13 h14 kc1 kc2 kc4 kc5 kc6 kc7 kc8 kc9 kc10 kc11 kc12 kc13 kc14 V3 v0_looks c1 c2 v3_procedures v3_statements c4 c5 c6 c7 c8 c9 c10 c11 c12 c13 c14) → va_S A s.heap H locs → lv_has ls 5 [(0, .ref h0), (1, .int y1), (2, .int y2)] → fX0_solve_b18 v3_procedures v3_statements c4 c5 c6 c7 c8 c9 c10 c11  k18 y1 y2 v0_looks c1 c2 c12 c13 c14 = some o → G 0 0 H locs (F0 m 18 ls []) := by
    intro  k18 hk18 y1 y2 v0_looks c1 c2 c12 c13 c14 H locs ls hP hD hS hl hf
    refine (hG _ _ _ _ _).mpr ?_
    unfold fX0_solve_b18 at hf
    refine lv_iload_n hx hb dX0_solve_18 rfl (lv_at hl 2 rfl) ?_
    refine lv_iload_n hx hb dX0_solve_19 rfl (lv_at hl 1 rfl) ?_
    refine lv_icmp_ge (tgt := 37) hx hb dX0_solve_20 (by decide) (fun cq12 => ?_) (fun cq12 => ?_)
    · replace hf := if_at hf cq12
      refine lv_aload_n hx hb dX0_solve_37 rfl (lv_at hl 0 rfl) ?_
      refine va_get (D := (dC, dI)) (ci := 0) (v := .ref h13) (C := RX0) (T := TX0) (N := 7) hx hb hts inlX0 hown hK hP 0 rfl rfl 4 (by decide) w3_ (fun _ h9 => h9) rfl dX0_solve_38 ?_
      refine lv_iconst (v := 0) hx hb dX0_solve_41 (by decide +kernel) ?_
      obtain ⟨o13, e13, hf⟩ := ob_some hf
      refine kSv (As := [.ref h13, .int 0]) (rest := []) ⟨hx, hb, hml, hown, hts⟩ (mJ7_fill_53178 l dC dI h13 kc13 H.size base 0 40 c13 o13 e13) (va_cwS 2 hts (gTS q974 q195 q196 q197) rfl rfl rfl (by decide +kernel) ⟨Nat.le_of_ble_eq_true rfl, Nat.le_of_ble_eq_true rfl⟩) hK hP hD hS hA hE hAB [13] [0, 1, 2, 3, 4, 5, 6, 7, 8, 9, 10, 11, 12, 14] [11] (wr := [(h0, .inr (0, [.ref h12, .ref h3, .ref h1, .ref h2, .ref h13, .ref h14, .int v0_looks])), (h1, .inl (kc1, 40, .inl c1)), (h2, .inl (kc2, 6, .inl c2)), (h3, .inr (3, [V3 0, V3 1, .int v3_procedures, .int v3_statements, .ref h4, .ref h5, V3 6, .ref h9, .ref h10, .ref h11, .ref h6, .ref h7, .ref h8, V3 13, V3 14, V3 15, V3 16, V3 17])), (h4, .inl (kc4, 6, .inl c4)), (h5, .inl (kc5, 40, .inl c5)), (h6, .inl (kc6, 40, .inl c6)), (h7, .inl (kc7, 40, .inl c7)), (h8, .inl (kc8, 40, .inl c8)), (h9, .inl (kc9, 40, .inl c9)), (h10, .inl (kc10, 40, .inr (.inl c10))), (h11, .inl (kc11, 40, .inl c11)), (h12, .inl (kc12, 11520, .inl c12)), (h14, .inl (kc14, 40, .inl c14))]) rfl rfl (by decide) (by decide) (by decide) rfl rfl hl.1 rfl (Nat.le_of_ble_eq_true rfl) dX0_solve_42 ⟨Nat.zero_le _, Nat.zero_le _⟩ (fun u13 H locs hw13 hP hD hS => ?_)
      have hw131 : o13 = u13 := Eq.symm hw13
      subst hw131
      have hP : va_P (dC, dI) vwCl (wX0_solve h0 h1 h2 h3 h4 h5 h6 h7 h8 h9 h10 h11 h12 h13 h14 kc1 kc2 kc4 kc5 kc6 kc7 kc8 kc9 kc10 kc11 kc12 kc13 kc14 V3 v0_looks c1 c2 v3_procedures v3_statements c4 c5 c6 c7 c8 c9 c10 c11 c12 o13 c14) H := hP.sub [0, 1, 2, 3, 4, 5, 6, 7, 8, 9, 10, 11, 12, 14, 13] rfl
      have hD : va_D A (wX0_solve h0 h1 h2 h3 h4 h5 h6 h7 h8 h9 h10 h11 h12 h13 h14 kc1 kc2 kc4 kc5 kc6 kc7 kc8 kc9 kc10 kc11 kc12 kc13 kc14 V3 v0_looks c1 c2 v3_procedures v3_statements c4 c5 c6 c7 c8 c9 c10 c11 c12 o13 c14) := hD.sub [0, 1, 2, 3, 4, 5, 6, 7, 8, 9, 10, 11, 12, 14, 13] (by decide) rfl
      refine lv_aload_n hx hb dX0_solve_45 rfl (lv_at hl 0 rfl) ?_
      refine va_get (D := (dC, dI)) (ci := 0) (v := .ref h14) (C := RX0) (T := TX0) (N := 7) hx hb hts inlX0 hown hK hP 0 rfl rfl 5 (by decide) w4_ (fun _ h9 => h9) rfl dX0_solve_46 ?_
      refine lv_iconst (v := 0) hx hb dX0_solve_49 (by decide +kernel) ?_
      obtain ⟨o14, e14, hf⟩ := ob_some hf
      refine kSv (As := [.ref h14, .int 0]) (rest := []) ⟨hx, hb, hml, hown, hts⟩ (mJ7_fill_53178 l dC dI h14 kc14 H.size base 0 40 c14 o14 e14) (va_cwS 2 hts (gTS q974 q195 q196 q197) rfl rfl rfl (by decide +kernel) ⟨Nat.le_of_ble_eq_true rfl, Nat.le_of_ble_eq_true rfl⟩) hK hP hD hS hA hE hAB [14] [0, 1, 2, 3, 4, 5, 6, 7, 8, 9, 10, 11, 12, 13] [12] (wr := [(h0, .inr (0, [.ref h12, .ref h3, .ref h1, .ref h2, .ref h13, .ref h14, .int v0_looks])), (h1, .inl (kc1, 40, .inl c1)), (h2, .inl (kc2, 6, .inl c2)), (h3, .inr (3, [V3 0, V3 1, .int v3_procedures, .int v3_statements, .ref h4, .ref h5, V3 6, .ref h9, .ref h10, .ref h11, .ref h6, .ref h7, .ref h8, V3 13, V3 14, V3 15, V3 16, V3 17])), (h4, .inl (kc4, 6, .inl c4)), (h5, .inl (kc5, 40, .inl c5)), (h6, .inl (kc6, 40, .inl c6)), (h7, .inl (kc7, 40, .inl c7)), (h8, .inl (kc8, 40, .inl c8)), (h9, .inl (kc9, 40, .inl c9)), (h10, .inl (kc10, 40, .inr (.inl c10))), (h11, .inl (kc11, 40, .inl c11)), (h12, .inl (kc12, 11520, .inl c12)), (h13, .inl (kc13, 40, .inl o13))]) rfl rfl (by decide) (by decide) (by decide) rfl rfl hl.1 rfl (Nat.le_of_ble_eq_true rfl) dX0_solve_50 ⟨Nat.zero_le _, Nat.zero_le _⟩ (fun u14 H locs hw14 hP hD hS => ?_)
      have hw141 : o14 = u14 := Eq.symm hw14
      subst hw141
      have hP : va_P (dC, dI) vwCl (wX0_solve h0 h1 h2 h3 h4 h5 h6 h7 h8 h9 h10 h11 h12 h13 h14 kc1 kc2 kc4 kc5 kc6 kc7 kc8 kc9 kc10 kc11 kc12 kc13 kc14 V3 v0_looks c1 c2 v3_procedures v3_statements c4 c5 c6 c7 c8 c9 c10 c11 c12 o13 o14) H := hP.sub [0, 1, 2, 3, 4, 5, 6, 7, 8, 9, 10, 11, 12, 13, 14] rfl
      have hD : va_D A (wX0_solve h0 h1 h2 h3 h4 h5 h6 h7 h8 h9 h10 h11 h12 h13 h14 kc1 kc2 kc4 kc5 kc6 kc7 kc8 kc9 kc10 kc11 kc12 kc13 kc14 V3 v0_looks c1 c2 v3_procedures v3_statements c4 c5 c6 c7 c8 c9 c10 c11 c12 o13 o14) := hD.sub [0, 1, 2, 3, 4, 5, 6, 7, 8, 9, 10, 11, 12, 13, 14] (by decide) rfl
      refine lv_aload_n hx hb dX0_solve_53 rfl (lv_at hl 0 rfl) ?_
      refine lv_iconst (v := 0) hx hb dX0_solve_54 (by decide +kernel) ?_
      refine va_put (D := (dC, dI)) (ci := 0) (v := .int 0) (ty := .int) (C := RX0) (T := TX0) (N := 7) hx hb hts inlX0 tyX0 tyX0_ok nmX0 hown hK hP hD hS 0 rfl rfl 6 (by decide) w5_ (fun _ h9 => h9) rfl (by decide +kernel) rfl rfl (Nat.le_of_ble_eq_true rfl) dX0_solve_55 (fun H locs hP hD hS => ?_)
      have hP : va_P (dC, dI) vwCl (wX0_solve h0 h1 h2 h3 h4 h5 h6 h7 h8 h9 h10 h11 h12 h13 h14 kc1 kc2 kc4 kc5 kc6 kc7 kc8 kc9 kc10 kc11 kc12 kc13 kc14 V3 0 c1 c2 v3_procedures v3_statements c4 c5 c6 c7 c8 c9 c10 c11 c12 o13 o14) H := hP
      have hD : va_D A (wX0_solve h0 h1 h2 h3 h4 h5 h6 h7 h8 h9 h10 h11 h12 h13 h14 kc1 kc2 kc4 kc5 kc6 kc7 kc8 kc9 kc10 kc11 kc12 kc13 kc14 V3 0 c1 c2 v3_procedures v3_statements c4 c5 c6 c7 c8 c9 c10 c11 c12 o13 o14) := hD
      refine lv_iconst (v := 1) hx hb dX0_solve_58 (by decide +kernel) ?_
      refine lv_istore_n (lv' := [(2, .int 1), (0, .ref h0), (1, .int y1)]) hx hb dX0_solve_59 rfl hl (by decide) rfl (fun ls hl => ?_)
      refine lv_iconst (v := 0) hx hb dX0_solve_60 (by decide +kernel) ?_
      refine lv_istore_n (lv' := [(3, .int 0), (2, .int 1), (0, .ref h0), (1, .int y1)]) hx hb dX0_solve_61 rfl hl (by decide) rfl (fun ls hl => ?_)
      exact (hG _ _ _ _ _).mp (L62 FU 1 0 0 c1 c2 c12 o13 o14 H locs ls (hP.sub [0, 1, 2, 3, 4, 5, 6, 7, 8, 9, 10, 11, 12, 13, 14] rfl) (hD.sub [0, 1, 2, 3, 4, 5, 6, 7, 8, 9, 10, 11, 12, 13, 14] (by decide) rfl) hS (lv_sub hl [2, 1, 0] rfl) hf)
    · replace hf := if_no hf cq12
      refine lv_aload_n hx hb dX0_solve_23 rfl (lv_at hl 0 rfl) ?_
      refine va_get (D := (dC, dI)) (ci := 0) (v := .ref h12) (C := RX0) (T := TX0) (N := 7) hx hb hts inlX0 hown hK hP 0 rfl rfl 0 (by decide) w6_ (fun _ h9 => h9) rfl dX0_solve_24 ?_
      refine lv_iload_n hx hb dX0_solve_27 rfl (lv_at hl 2 rfl) ?_
      refine lv_ldc (v := 536870912) hx hb hown w7_ dX0_solve_28 ?_
      have b15 := bd_in hf
      replace hf := bd_k hf
      obtain ⟨c15x, e15⟩ : ∃ y, y = upd c12 y2.toNatClampNeg 536870912 := ⟨_, rfl⟩
      replace hf := nm_at hf e15
      refine va_iast hx hb hK hP hD hS 12 10 rfl rfl b15 dX0_solve_30 (fun H locs hP hD hS => ?_)
      have hP : va_P (dC, dI) vwCl (wX0_solve h0 h1 h2 h3 h4 h5 h6 h7 h8 h9 h10 h11 h12 h13 h14 kc1 kc2 kc4 kc5 kc6 kc7 kc8 kc9 kc10 kc11 kc12 kc13 kc14 V3 v0_looks c1 c2 v3_procedures v3_statements c4 c5 c6 c7 c8 c9 c10 c11 c15x c13 c14) H := by rw [e15]; exact hP
      have hD : va_D A (wX0_solve h0 h1 h2 h3 h4 h5 h6 h7 h8 h9 h10 h11 h12 h13 h14 kc1 kc2 kc4 kc5 kc6 kc7 kc8 kc9 kc10 kc11 kc12 kc13 kc14 V3 v0_looks c1 c2 v3_procedures v3_statements c4 c5 c6 c7 c8 c9 c10 c11 c15x c13 c14) := by rw [e15]; exact hD
      obtain ⟨x16, e16⟩ : ∃ y : Int32, y = y2 + 1 := ⟨_, rfl⟩
      replace hf := nm_at hf e16
      refine lv_iinc (v := x16) (lv' := [(2, .int x16), (0, .ref h0), (1, .int y1)]) hx hb dX0_solve_31 hl (k := 2) rfl (by rw [e16]; rfl) (by decide) rfl (fun ls hl => ?_)
      refine lv_goto (tgt := 18) hx hb dX0_solve_34 (by decide) ?_
      exact (hG _ _ _ _ _).mp (hk18 y1 x16 v0_looks c1 c2 c15x c13 c14 H locs ls (hP.sub [0, 1, 2, 3, 4, 5, 6, 7, 8, 9, 10, 11, 12, 13, 14] rfl) (hD.sub [0, 1, 2, 3, 4, 5, 6, 7, 8, 9, 10, 11, 12, 13, 14] (by decide) rfl) hS (lv_sub hl [1, 2, 0] rfl) hf)
  have L18 : ∀ (n : Nat), ∀ (y1 : Int32) (y2 : Int32) (v0_looks : Int32) (c1 : (Nat → Int32)) (c2 : (Nat → Int32)) (c12 : (Nat → Int32)) (c13 : (Nat → Int32)) (c14 : (Nat → Int32)) (H : Heap) (locs : List Loc) (ls : Array Slot), va_P (dC, dI) vwCl (wX0_solve h0 h1 h2 h3 h4 h5 h6 h7 h8 h9 h10 h11 h12 h13 h14 kc1 kc2 kc4 kc5 kc6 kc7 kc8 kc9 kc10 kc11 kc12 kc13 kc14 V3 v0_looks c1 c2 v3_procedures v3_statements c4 c5 c6 c7 c8 c9 c10 c11 c12 c13 c14) H → va_D A (wX0_solve h0 h1 h2 h3 h4 h5 h6 h7 h8 h9 h10 h11 h12 h13 h14 kc1 kc2 kc4 kc5 kc6 kc7 kc8 kc9 kc10 kc11 kc12 kc13 kc14 V3 v0_looks c1 c2 v3_procedures v3_statements c4 c5 c6 c7 c8 c9 c10 c11 c12 c13 c14) → va_S A s.heap H locs → lv_has ls 5 [(0, .ref h0), (1, .int y1), (2, .int y2)] → fX0_solve_l18 v3_procedures v3_statements c4 c5 c6 c7 c8 c9 c10 c11  n y1 y2 v0_looks c1 c2 c12 c13 c14 = some o → G 0 0 H locs (F0 m 18 ls []) := by
    intro  n
    induction n with
    | zero => intro y1 y2 v0_looks c1 c2 c12 c13 c14 H locs ls _ _ _ _ hf; cases hf
    | succ n ih => exact B18  _ ih
  refine (hG _ _ _ _ _).mpr ?_
  obtain ⟨H, hH⟩ : ∃ H, H = s.heap := ⟨_, rfl⟩
  have hS : va_S A s.heap H [] := by rw [hH]; exact hS
  rw [← hH] at hP ⊢
  generalize ([] : List Loc) = locs at hS ⊢
  unfold fX0_solve at hf
  refine lv_aload_n hx hb dX0_solve_0 rfl (lv_at hl 0 rfl) ?_
  obtain ⟨o17, e17, hf⟩ := ob_some hf
  refine kVv (As := []) (rest := []) ⟨hx, hb, hml, hown, hts⟩ (mX0_reachAll l dC dI h0 h1 h2 h3 h4 h5 h6 h7 h8 h9 h10 h11 kc1 kc2 kc4 kc5 kc6 kc7 kc8 kc9 kc10 kc11 H.size base c1 c2 v3_procedures v3_statements c4 c5 c6 c7 c8 c9 c10 c11 (fun k => match k with | 0 => .ref h12 | 4 => .ref h13 | 5 => .ref h14 | 6 => .int v0_looks | _ => .null) V3 o17 e17) (cwV 0 hts (gTV q969 q970 q971 q946 q972) rfl rfl rfl (by decide +kernel) ⟨Nat.le_of_ble_eq_true rfl, Nat.le_of_ble_eq_true rfl⟩) hK hP hD hS hA hE hAB [0, 1, 2, 3, 4, 5, 6, 7, 8, 9, 10, 11] [12, 13, 14] [0, 1, 2, 3, 4, 5, 6, 7, 8, 9] (wr := [(h12, .inl (kc12, 11520, .inl c12)), (h13, .inl (kc13, 40, .inl c13)), (h14, .inl (kc14, 40, .inl c14))]) rfl rfl (by decide) (by decide) (by decide) rfl (ci := 0) (q0 := 0) rfl rfl rfl rfl hl.1 rfl (Nat.le_of_ble_eq_true rfl) dX0_solve_1 ⟨Nat.zero_le _, Nat.zero_le _⟩ (fun u17 H locs hw17 hP hD hS => ?_)
  have hw171 : o17 = u17 := Eq.symm hw17
  subst hw171
  have hP : va_P (dC, dI) vwCl (wX0_solve h0 h1 h2 h3 h4 h5 h6 h7 h8 h9 h10 h11 h12 h13 h14 kc1 kc2 kc4 kc5 kc6 kc7 kc8 kc9 kc10 kc11 kc12 kc13 kc14 V3 v0_looks o17.1 o17.2 v3_procedures v3_statements c4 c5 c6 c7 c8 c9 c10 c11 c12 c13 c14) H := hP.sub [3, 4, 5, 6, 7, 8, 9, 10, 11, 12, 13, 14, 0, 1, 2] rfl
  have hD : va_D A (wX0_solve h0 h1 h2 h3 h4 h5 h6 h7 h8 h9 h10 h11 h12 h13 h14 kc1 kc2 kc4 kc5 kc6 kc7 kc8 kc9 kc10 kc11 kc12 kc13 kc14 V3 v0_looks o17.1 o17.2 v3_procedures v3_statements c4 c5 c6 c7 c8 c9 c10 c11 c12 c13 c14) := hD.sub [3, 4, 5, 6, 7, 8, 9, 10, 11, 12, 13, 14, 0, 1, 2] (by decide) rfl
  refine lv_aload_n hx hb dX0_solve_4 rfl (lv_at hl 0 rfl) ?_
  refine va_get (D := (dC, dI)) (ci := 0) (v := .ref h3) (C := RX0) (T := TX0) (N := 7) hx hb hts inlX0 hown hK hP 0 rfl rfl 1 (by decide) w1_ (fun _ h9 => h9) rfl dX0_solve_5 ?_
  refine va_get (D := (dC, dI)) (ci := 3) (v := .int v3_statements) (C := RX3) (T := TX3) (N := 18) hx hb hts inlX3 hown hK hP 3 rfl rfl 3 (by decide) w2_ (fun _ h9 => h9) rfl dX0_solve_8 ?_
  refine lv_iconst (v := 0) hx hb dX0_solve_11 (by decide +kernel) ?_
  obtain ⟨o18, e18, hf⟩ := ob_some hf
  refine kSi (As := [.int v3_statements, .int 0]) (rest := []) ⟨hx, hb, hml, hown, hts⟩ (mX0_row l dC dI H.size base v3_statements 0 o18 e18) (va_cwS 2 hts (gTS q1009 q1010 q946 q1011) rfl rfl rfl (by decide +kernel) ⟨Nat.le_of_ble_eq_true rfl, Nat.le_of_ble_eq_true rfl⟩) hK hP hD hS hA hE hAB [] [0, 1, 2, 3, 4, 5, 6, 7, 8, 9, 10, 11, 12, 13, 14] [] (wr := (wX0_solve h0 h1 h2 h3 h4 h5 h6 h7 h8 h9 h10 h11 h12 h13 h14 kc1 kc2 kc4 kc5 kc6 kc7 kc8 kc9 kc10 kc11 kc12 kc13 kc14 V3 v0_looks o17.1 o17.2 v3_procedures v3_statements c4 c5 c6 c7 c8 c9 c10 c11 c12 c13 c14)) rfl rfl (by decide) (by decide) (by decide) rfl rfl hl.1 rfl (Nat.le_of_ble_eq_true rfl) dX0_solve_12 ⟨Nat.zero_le _, Nat.zero_le _⟩ (fun r18 u18 H locs hw18 hP hD hS => ?_)
  obtain ⟨hw181, hw182⟩ := hw18
  subst hw181 hw182
  have hP : va_P (dC, dI) vwCl (wX0_solve h0 h1 h2 h3 h4 h5 h6 h7 h8 h9 h10 h11 h12 h13 h14 kc1 kc2 kc4 kc5 kc6 kc7 kc8 kc9 kc10 kc11 kc12 kc13 kc14 V3 v0_looks o17.1 o17.2 v3_procedures v3_statements c4 c5 c6 c7 c8 c9 c10 c11 c12 c13 c14) H := hP.sub [0, 1, 2, 3, 4, 5, 6, 7, 8, 9, 10, 11, 12, 13, 14] rfl
  have hD : va_D A (wX0_solve h0 h1 h2 h3 h4 h5 h6 h7 h8 h9 h10 h11 h12 h13 h14 kc1 kc2 kc4 kc5 kc6 kc7 kc8 kc9 kc10 kc11 kc12 kc13 kc14 V3 v0_looks o17.1 o17.2 v3_procedures v3_statements c4 c5 c6 c7 c8 c9 c10 c11 c12 c13 c14) := hD.sub [0, 1, 2, 3, 4, 5, 6, 7, 8, 9, 10, 11, 12, 13, 14] (by decide) rfl
  refine lv_istore_n (lv' := [(1, .int o18.1), (0, .ref h0)]) hx hb dX0_solve_15 rfl hl (by decide) rfl (fun ls hl => ?_)
  refine lv_iconst (v := 0) hx hb dX0_solve_16 (by decide +kernel) ?_
  refine lv_istore_n (lv' := [(2, .int 0), (1, .int o18.1), (0, .ref h0)]) hx hb dX0_solve_17 rfl hl (by decide) rfl (fun ls hl => ?_)
  exact (hG _ _ _ _ _).mp (L18 FU o18.1 0 v0_looks o17.1 o17.2 c12 c13 c14 H locs ls (hP.sub [0, 1, 2, 3, 4, 5, 6, 7, 8, 9, 10, 11, 12, 13, 14] rfl) (hD.sub [0, 1, 2, 3, 4, 5, 6, 7, 8, 9, 10, 11, 12, 13, 14] (by decide) rfl) hS (lv_sub hl [2, 1, 0] rfl) hf)
abbrev wX0_stepsToFail (h0 h1 h2 h3 : Nat) (kc2 kc3 : ClassId) (V0 : Nat → Value) (V1 : Nat → Value) (v1_procedures : Int32) (c2 : Nat → Int32) (c3 : Nat → Int32) : va_W := [(h0, .inr (0, [.ref h3, .ref h1, V0 2, V0 3, V0 4, V0 5, V0 6])), (h1, .inr (3, [V1 0, V1 1, .int v1_procedures, V1 3, .ref h2, V1 5, V1 6, V1 7, V1 8, V1 9, V1 10, V1 11, V1 12, V1 13, V1 14, V1 15, V1 16, V1 17])), (h2, .inl (kc2, 6, .inl c2)), (h3, .inl (kc3, 11520, .inl c3))]
set_option maxHeartbeats 4000000 in
set_option maxRecDepth 100000 in
theorem mX0_stepsToFail (l : Launch) (dC : Nat → ClassId) (dI : Nat → Nat → Nat) (h0 h1 h2 h3 : Nat) (kc2 kc3 : ClassId) (sz : Nat) (base : Nat × Nat × Nat) (v1_procedures : Int32) (c2 : Nat → Int32) (c3 : Nat → Int32) (V0 : Nat → Value) (V1 : Nat → Value) (o : Int32 × Unit) (hf : fX0_stepsToFail v1_procedures c2 c3 = some o) : Met l yX0_stepsToFail (.code yX0_stepsToFail cX0_stepsToFail 2 (some .int) :: wsL_law) ({ frames := 1, cells := 0, slots := 0, locals := 21 }) (cPre (dC, dI) vwCl [.ref h0] sz base (wX0_stepsToFail h0 h1 h2 h3 kc2 kc3 V0 V1 v1_procedures c2 c3) [(kc2, .int), (kc3, .int)]) (va_Qi (fun r u => r = o.1 ∧ u = o.2) (fun (u : Unit) t => cPost (dC, dI) vwCl (va_A (wX0_stepsToFail h0 h1 h2 h3 kc2 kc3 V0 V1 v1_procedures c2 c3) sz) (wX0_stepsToFail h0 h1 h2 h3 kc2 kc3 V0 V1 v1_procedures c2 c3) [(kc2, .int), (kc3, .int)] t) (va_A (wX0_stepsToFail h0 h1 h2 h3 kc2 kc3 V0 V1 v1_procedures c2 c3) sz)) 0 0 (va_A (wX0_stepsToFail h0 h1 h2 h3 kc2 kc3 V0 V1 v1_procedures c2 c3) sz) := by
  refine Met.ofW (cc := cX0_stepsToFail) (maxL := 2) (ret := (some .int)) (by decide) rfl ?_
  intro p e s m args below meth c s₁ B hml hv
  obtain ⟨rfl, hsz, hP, hK, hD0, hE⟩ := hv
  have hx := B.exec
  have hb := B.bytes
  have hr := B.returns
  have hts : ∀ w ∈ wsL_law, _ := fun w h => atoms_spec (ws := .code yX0_stepsToFail cX0_stepsToFail 2 (some .int) :: wsL_law) B.pre w (List.mem_cons_of_mem _ h)
  have hown : s.vm.findClass RX0 = some m.cls := findClass_of_methodNamed B.named
  have hlocks := B.notSynchronized
  have w0_ := hts _ q960
  have w1_ := hts _ q955
  have w2_ := hts _ q966
  subst hsz
  have hD := hD0.self (sz := s.heap.size)
  generalize hAe : va_A (wX0_stepsToFail h0 h1 h2 h3 kc2 kc3 V0 V1 v1_procedures c2 c3) s.heap.size = A at hD ⊢
  have hA : ∀ q : Nat, s.heap.size ≤ q → A q := fun q h => by rw [← hAe]; exact Or.inr h
  have hAB : ∀ q : Nat, A q → base.1 ≤ q := fun q h => by rw [← hAe] at h; exact h.elim (fun ⟨k, e, hk⟩ => hD0.2 k _ hk) (fun hk => Nat.le_trans hE.1 hk)
  have hS : va_S A s.heap s.heap [] := va_S.rf
  have hl := lv_entry ([.ref h0]) (n := 2) (Nat.le_of_ble_eq_true rfl)
  rw [lg_entry_eq]
  generalize (lg_sl ([.ref h0]) ++ List.replicate (2 - (lg_sl ([.ref h0])).length) Slot.unset).toArray = ls at hl ⊢
  have hl : lv_has ls 2 [(0, .ref h0)] := hl
  have hP : va_P (dC, dI) vwCl (wX0_stepsToFail h0 h1 h2 h3 kc2 kc3 V0 V1 v1_procedures c2 c3) s.heap := hP
  refine gl_intro (fun G hG => ?_)
  have J30 : ∀ (z0 : Int32) (H : Heap) (locs : List Loc) (ls : Array Slot), va_P (dC, dI) vwCl (wX0_stepsToFail h0 h1 h2 h3 kc2 kc3 V0 V1 v1_procedures c2 c3) H → va_D A (wX0_stepsToFail h0 h1 h2 h3 kc2 kc3 V0 V1 v1_procedures c2 c3) → va_S A s.heap H locs → lv_has ls 2 [(0, .ref h0)] → fX0_stepsToFail_p30 v1_procedures c2 c3  z0 = some o → G 0 0 H locs (F0 m 30 ls [.int z0]) := by
    intro  z0 H locs ls hP hD hS hl hf
    refine (hG _ _ _ _ _).mpr ?_
    unfold fX0_stepsToFail_p30 at hf
    have hf1 := Option.some.inj hf
    subst hf1
    have hP9 := hP.sub (ws' := (wX0_stepsToFail h0 h1 h2 h3 kc2 kc3 V0 V1 v1_procedures c2 c3)) [0, 1, 2, 3] rfl
    have hD9 := hD.sub (ws' := (wX0_stepsToFail h0 h1 h2 h3 kc2 kc3 V0 V1 v1_procedures c2 c3)) [0, 1, 2, 3] (by decide) rfl
    exact W.iret (v := z0) hx hb hr (fun t ht hW => ⟨⟨z0, (), rfl, ⟨rfl, rfl⟩, by rw [ht]; exact hP9, va_K.moved hW.alike hK, hD9⟩, hS.F ht⟩) hS.2.2 dX0_stepsToFail_30
  refine (hG _ _ _ _ _).mpr ?_
  obtain ⟨H, hH⟩ : ∃ H, H = s.heap := ⟨_, rfl⟩
  have hS : va_S A s.heap H [] := by rw [hH]; exact hS
  rw [← hH] at hP ⊢
  generalize ([] : List Loc) = locs at hS ⊢
  unfold fX0_stepsToFail at hf
  refine lv_aload_n hx hb dX0_stepsToFail_0 rfl (lv_at hl 0 rfl) ?_
  refine va_get (D := (dC, dI)) (ci := 0) (v := .ref h1) (C := RX0) (T := TX0) (N := 7) hx hb hts inlX0 hown hK hP 0 rfl rfl 1 (by decide) w0_ (fun _ h9 => h9) rfl dX0_stepsToFail_1 ?_
  obtain ⟨o1, e1, hf⟩ := ob_some hf
  refine kVi (As := []) (rest := []) ⟨hx, hb, hml, hown, hts⟩ (mX3_firstPoint l dC dI h1 h2 kc2 H.size base v1_procedures c2 V1 o1 e1) (cwV 0 hts (gTV q975 q976 q977 q23 q978) rfl rfl rfl (by decide +kernel) ⟨Nat.le_of_ble_eq_true rfl, Nat.le_of_ble_eq_true rfl⟩) hK hP hD hS hA hE hAB [1, 2] [0, 3] [0] (wr := [(h0, .inr (0, [.ref h3, .ref h1, V0 2, V0 3, V0 4, V0 5, V0 6])), (h3, .inl (kc3, 11520, .inl c3))]) rfl rfl (by decide) (by decide) (by decide) rfl (ci := 3) (q0 := 0) rfl rfl rfl rfl hl.1 rfl (Nat.le_of_ble_eq_true rfl) dX0_stepsToFail_4 ⟨Nat.zero_le _, Nat.zero_le _⟩ (fun r1 u1 H locs hw1 hP hD hS => ?_)
  obtain ⟨hw11, hw12⟩ := hw1
  subst hw11 hw12
  have hP : va_P (dC, dI) vwCl (wX0_stepsToFail h0 h1 h2 h3 kc2 kc3 V0 V1 v1_procedures c2 c3) H := hP.sub [0, 2, 3, 1] rfl
  have hD : va_D A (wX0_stepsToFail h0 h1 h2 h3 kc2 kc3 V0 V1 v1_procedures c2 c3) := hD.sub [0, 2, 3, 1] (by decide) rfl
  refine lv_istore_n (lv' := [(1, .int o1.1), (0, .ref h0)]) hx hb dX0_stepsToFail_7 rfl hl (by decide) rfl (fun ls hl => ?_)
  refine lv_iload_n hx hb dX0_stepsToFail_8 rfl (lv_at hl 0 rfl) ?_
  refine lv_if_ge (tgt := 17) hx hb dX0_stepsToFail_9 (by decide) (fun cq2 => ?_) (fun cq2 => ?_)
  · replace hf := if_at hf cq2
    refine lv_aload_n hx hb dX0_stepsToFail_17 rfl (lv_at hl 1 rfl) ?_
    refine va_get (D := (dC, dI)) (ci := 0) (v := .ref h3) (C := RX0) (T := TX0) (N := 7) hx hb hts inlX0 hown hK hP 0 rfl rfl 0 (by decide) w1_ (fun _ h9 => h9) rfl dX0_stepsToFail_18 ?_
    refine lv_iload_n hx hb dX0_stepsToFail_21 rfl (lv_at hl 0 rfl) ?_
    refine lv_iconst (v := 0) hx hb dX0_stepsToFail_22 (by decide +kernel) ?_
    obtain ⟨o3, e3, hf⟩ := ob_some hf
    refine kSi (As := [.int o1.1, .int 0]) (rest := [.ref h3]) ⟨hx, hb, hml, hown, hts⟩ (mX0_row l dC dI H.size base o1.1 0 o3 e3) (va_cwS 2 hts (gTS q1009 q1010 q946 q1011) rfl rfl rfl (by decide +kernel) ⟨Nat.le_of_ble_eq_true rfl, Nat.le_of_ble_eq_true rfl⟩) hK hP hD hS hA hE hAB [] [0, 1, 2, 3] [] (wr := (wX0_stepsToFail h0 h1 h2 h3 kc2 kc3 V0 V1 v1_procedures c2 c3)) rfl rfl (by decide) (by decide) (by decide) rfl rfl hl.1 rfl (Nat.le_of_ble_eq_true rfl) dX0_stepsToFail_23 ⟨Nat.zero_le _, Nat.zero_le _⟩ (fun r3 u3 H locs hw3 hP hD hS => ?_)
    obtain ⟨hw31, hw32⟩ := hw3
    subst hw31 hw32
    have hP : va_P (dC, dI) vwCl (wX0_stepsToFail h0 h1 h2 h3 kc2 kc3 V0 V1 v1_procedures c2 c3) H := hP.sub [0, 1, 2, 3] rfl
    have hD : va_D A (wX0_stepsToFail h0 h1 h2 h3 kc2 kc3 V0 V1 v1_procedures c2 c3) := hD.sub [0, 1, 2, 3] (by decide) rfl
    refine lv_bipush (v := 8) hx hb dX0_stepsToFail_26 (by decide +kernel) ?_
    refine lv_iadd hx hb dX0_stepsToFail_28 ?_
    refine lv_topi (fun x4 e4 => ?_)
    replace hf := nm_at hf e4
    have b5 := bd_in hf
    replace hf := bd_k hf
    refine va_iald hx hb hK hP 3 1 rfl rfl b5 dX0_stepsToFail_29 ?_
    refine lv_topi (fun x6 e6 => ?_)
    replace hf := nm_at hf e6
    exact (hG _ _ _ _ _).mp (J30 x6 H locs ls (hP.sub [0, 1, 2, 3] rfl) (hD.sub [0, 1, 2, 3] (by decide) rfl) hS (lv_sub hl [1] rfl) hf)
  · replace hf := if_no hf cq2
    refine lv_ldc (v := 536870912) hx hb hown w2_ dX0_stepsToFail_12 ?_
    refine lv_goto (tgt := 30) hx hb dX0_stepsToFail_14 (by decide) ?_
    exact (hG _ _ _ _ _).mp (J30 536870912 H locs ls (hP.sub [0, 1, 2, 3] rfl) (hD.sub [0, 1, 2, 3] (by decide) rfl) hS (lv_sub hl [1] rfl) hf)
