abbrev wX11_add (h0 h1 : Nat) (kc1 : ClassId) (V0 : Nat → Value) (c1 : Nat → Int32) : va_W := [(h0, .inr (11, [V0 0, V0 1, V0 2, V0 3, V0 4, V0 5, V0 6, V0 7, V0 8, V0 9, V0 10, V0 11, V0 12, V0 13, V0 14, .ref h1, V0 16, V0 17, V0 18, V0 19, V0 20, V0 21, V0 22, V0 23, V0 24, V0 25, V0 26, V0 27, V0 28, V0 29, V0 30, V0 31, V0 32, V0 33, V0 34, V0 35, V0 36, V0 37, V0 38, V0 39, V0 40, V0 41, V0 42, V0 43, V0 44, V0 45, V0 46, V0 47, V0 48, V0 49, V0 50, V0 51, V0 52, V0 53, V0 54, V0 55, V0 56, V0 57, V0 58, V0 59, V0 60, V0 61, V0 62, V0 63, V0 64, V0 65, V0 66, V0 67, V0 68, V0 69, V0 70])), (h1, .inl (kc1, 150528, .inl c1))]
set_option maxHeartbeats 4000000 in
set_option maxRecDepth 100000 in
theorem mX11_add (l : Launch) (dC : Nat → ClassId) (dI : Nat → Nat → Nat) (h0 h1 : Nat) (kc1 : ClassId) (sz : Nat) (base : Nat × Nat × Nat) (a0 : Int32) (a1 : Int32) (a2 : Int32) (c1 : Nat → Int32) (V0 : Nat → Value) (o : Int32 × (Nat → Int32)) (hf : fX11_add a0 a1 a2 c1 = some o) : Met l yX11_add (.code yX11_add cX11_add 6 (some .boolean) :: wsL_law) ({ frames := 0, cells := 0, slots := 0, locals := 0 }) (cPre (dC, dI) vwCl [.ref h0, .int a0, .int a1, .int a2] sz base (wX11_add h0 h1 kc1 V0 c1) [(kc1, .boolean)]) (va_Qi (fun r u => r = o.1 ∧ u = o.2) (fun (u : (Nat → Int32)) t => cPost (dC, dI) vwCl (va_A (wX11_add h0 h1 kc1 V0 c1) sz) (wX11_add h0 h1 kc1 V0 u) [(kc1, .boolean)] t) (va_A (wX11_add h0 h1 kc1 V0 c1) sz)) 0 0 (va_A (wX11_add h0 h1 kc1 V0 c1) sz) := by
  refine Met.ofW (cc := cX11_add) (maxL := 6) (ret := (some .boolean)) (by decide) rfl ?_
  intro p e s m args below meth c s₁ B hml hv
  obtain ⟨rfl, hsz, hP, hK, hD0, hE⟩ := hv
  have hx := B.exec
  have hb := B.bytes
  have hr := B.returns
  have hts : ∀ w ∈ wsL_law, _ := fun w h => atoms_spec (ws := .code yX11_add cX11_add 6 (some .boolean) :: wsL_law) B.pre w (List.mem_cons_of_mem _ h)
  have hown : s.vm.findClass RX11 = some m.cls := findClass_of_methodNamed B.named
  have hlocks := B.notSynchronized
  have w0_ := hts _ q90
  subst hsz
  have hD := hD0.self (sz := s.heap.size)
  generalize hAe : va_A (wX11_add h0 h1 kc1 V0 c1) s.heap.size = A at hD ⊢
  have hA : ∀ q : Nat, s.heap.size ≤ q → A q := fun q h => by rw [← hAe]; exact Or.inr h
  have hAB : ∀ q : Nat, A q → base.1 ≤ q := fun q h => by rw [← hAe] at h; exact h.elim (fun ⟨k, e, hk⟩ => hD0.2 k _ hk) (fun hk => Nat.le_trans hE.1 hk)
  have hS : va_S A s.heap s.heap [] := va_S.rf
  have hl := lv_entry ([.ref h0, .int a0, .int a1, .int a2]) (n := 6) (Nat.le_of_ble_eq_true rfl)
  rw [lg_entry_eq]
  generalize (lg_sl ([.ref h0, .int a0, .int a1, .int a2]) ++ List.replicate (6 - (lg_sl ([.ref h0, .int a0, .int a1, .int a2])).length) Slot.unset).toArray = ls at hl ⊢
  have hl : lv_has ls 6 [(0, .ref h0), (1, .int a0), (2, .int a1), (3, .int a2)] := hl
  have hP : va_P (dC, dI) vwCl (wX11_add h0 h1 kc1 V0 c1) s.heap := hP
  refine gl_intro (fun G hG => ?_)
  have J29 : ∀ (y4 : Int32) (z0 : Int32) (c1 : (Nat → Int32)) (H : Heap) (locs : List Loc) (ls : Array Slot), va_P (dC, dI) vwCl (wX11_add h0 h1 kc1 V0 c1) H → va_D A (wX11_add h0 h1 kc1 V0 c1) → va_S A s.heap H locs → lv_has ls 6 [(0, .ref h0), (4, .int y4)] → fX11_add_p29   y4 z0 c1 = some o → G 0 0 H locs (F0 m 29 ls [.int z0]) := by
    intro  y4 z0 c1 H locs ls hP hD hS hl hf
    refine (hG _ _ _ _ _).mpr ?_
    unfold fX11_add_p29 at hf
    refine lv_istore (lv' := [(5, .int z0), (0, .ref h0), (4, .int y4)]) hx hb dX11_add_29 hl (by decide) rfl (fun ls hl => ?_)
    refine lv_aload_n hx hb dX11_add_31 rfl (lv_at hl 1 rfl) ?_
    refine va_get (D := (dC, dI)) (ci := 11) (v := .ref h1) (C := RX11) (T := TX11) (N := 71) hx hb hts inlX11 hown hK hP 0 rfl rfl 15 (by decide) w0_ (fun _ h9 => h9) rfl dX11_add_32 ?_
    refine lv_iload hx hb dX11_add_35 (lv_at hl 2 rfl) ?_
    refine lv_iconst (v := 1) hx hb dX11_add_37 (by decide +kernel) ?_
    have b1 := bd_in hf
    replace hf := bd_k hf
    obtain ⟨c1x, e1⟩ : ∃ y, y = upd c1 y4.toNatClampNeg (vp_nar .boolean 1) := ⟨_, rfl⟩
    replace hf := nm_at hf e1
    refine va_zast hx hb hK hP hD hS 1 0 rfl rfl b1 dX11_add_38 (fun H locs hP hD hS => ?_)
    have hP : va_P (dC, dI) vwCl (wX11_add h0 h1 kc1 V0 c1x) H := by rw [e1]; exact hP
    have hD : va_D A (wX11_add h0 h1 kc1 V0 c1x) := by rw [e1]; exact hD
    refine lv_iload hx hb dX11_add_39 (lv_at hl 0 rfl) ?_
    have b2 := bd_b hf
    replace hf := bd_k hf
    have hf1 := Option.some.inj hf
    subst hf1
    have hP9 := hP.sub (ws' := (wX11_add h0 h1 kc1 V0 c1x)) [0, 1] rfl
    have hD9 := hD.sub (ws' := (wX11_add h0 h1 kc1 V0 c1x)) [0, 1] (by decide) rfl
    exact W.zret (v := z0) (ty := .boolean) hx hb hr (bz_nar b2) (fun t ht hW => ⟨⟨z0, c1x, rfl, ⟨rfl, rfl⟩, by rw [ht]; exact hP9, va_K.moved hW.alike hK, hD9⟩, hS.F ht⟩) hS.2.2 dX11_add_41
  refine (hG _ _ _ _ _).mpr ?_
  obtain ⟨H, hH⟩ : ∃ H, H = s.heap := ⟨_, rfl⟩
  have hS : va_S A s.heap H [] := by rw [hH]; exact hS
  rw [← hH] at hP ⊢
  generalize ([] : List Loc) = locs at hS ⊢
  unfold fX11_add at hf
  refine lv_sipush (v := 1344) hx hb dX11_add_0 (by decide +kernel) ?_
  refine lv_iload_n hx hb dX11_add_3 rfl (lv_at hl 1 rfl) ?_
  refine lv_imul hx hb dX11_add_4 ?_
  refine lv_topi (fun x3 e3 => ?_)
  replace hf := nm_at hf e3
  refine lv_bipush (v := 112) hx hb dX11_add_5 (by decide +kernel) ?_
  refine lv_iload_n hx hb dX11_add_7 rfl (lv_at hl 2 rfl) ?_
  refine lv_imul hx hb dX11_add_8 ?_
  refine lv_topi (fun x4 e4 => ?_)
  replace hf := nm_at hf e4
  refine lv_iadd hx hb dX11_add_9 ?_
  refine lv_topi (fun x5 e5 => ?_)
  replace hf := nm_at hf e5
  refine lv_iload_n hx hb dX11_add_10 rfl (lv_at hl 3 rfl) ?_
  refine lv_iadd hx hb dX11_add_11 ?_
  refine lv_topi (fun x6 e6 => ?_)
  replace hf := nm_at hf e6
  refine lv_istore (lv' := [(4, .int x6), (0, .ref h0), (1, .int a0), (2, .int a1), (3, .int a2)]) hx hb dX11_add_12 hl (by decide) rfl (fun ls hl => ?_)
  refine lv_aload_n hx hb dX11_add_14 rfl (lv_at hl 1 rfl) ?_
  refine va_get (D := (dC, dI)) (ci := 11) (v := .ref h1) (C := RX11) (T := TX11) (N := 71) hx hb hts inlX11 hown hK hP 0 rfl rfl 15 (by decide) w0_ (fun _ h9 => h9) rfl dX11_add_15 ?_
  refine lv_iload hx hb dX11_add_18 (lv_at hl 0 rfl) ?_
  have b7 := bd_in hf
  replace hf := bd_k hf
  refine va_zald hx hb hK hP 1 0 rfl rfl b7 dX11_add_20 ?_
  refine lv_topi (fun x8 e8 => ?_)
  replace hf := nm_at hf e8
  refine lv_if_ne (tgt := 28) hx hb dX11_add_21 (by decide) (fun cq9 => ?_) (fun cq9 => ?_)
  · replace hf := if_no hf cq9
    refine lv_iconst (v := 0) hx hb dX11_add_28 (by decide +kernel) ?_
    exact (hG _ _ _ _ _).mp (J29 x6 0 c1 H locs ls (hP.sub [0, 1] rfl) (hD.sub [0, 1] (by decide) rfl) hS (lv_sub hl [1, 0] rfl) hf)
  · replace hf := if_at hf cq9
    refine lv_iconst (v := 1) hx hb dX11_add_24 (by decide +kernel) ?_
    refine lv_goto (tgt := 29) hx hb dX11_add_25 (by decide) ?_
    exact (hG _ _ _ _ _).mp (J29 x6 1 c1 H locs ls (hP.sub [0, 1] rfl) (hD.sub [0, 1] (by decide) rfl) hS (lv_sub hl [1, 0] rfl) hf)
set_option maxHeartbeats 4000000 in
set_option maxRecDepth 100000 in
theorem mX11_in (l : Launch) (dC : Nat → ClassId) (dI : Nat → Nat → Nat) (sz : Nat) (base : Nat × Nat × Nat) (a0 : Int32) (a1 : Int32) (a2 : Int32) (o : Int32 × Unit) (hf : fX11_in a0 a1 a2 = some o) : Met l yX11_in (.code yX11_in cX11_in 3 (some .boolean) :: wsL_law) ({ frames := 0, cells := 0, slots := 0, locals := 0 }) (cPre (dC, dI) vwCl [.int a0, .int a1, .int a2] sz base [] []) (va_Qi (fun r u => r = o.1 ∧ u = o.2) (fun (u : Unit) t => cPost (dC, dI) vwCl (va_A [] sz) [] [] t) (va_A [] sz)) 0 0 (va_A [] sz) := by
  refine Met.ofW (cc := cX11_in) (maxL := 3) (ret := (some .boolean)) (by decide) rfl ?_
  intro p e s m args below meth c s₁ B hml hv
  obtain ⟨rfl, hsz, hP, hK, hD0, hE⟩ := hv
  have hx := B.exec
  have hb := B.bytes
  have hr := B.returns
  have hts : ∀ w ∈ wsL_law, _ := fun w h => atoms_spec (ws := .code yX11_in cX11_in 3 (some .boolean) :: wsL_law) B.pre w (List.mem_cons_of_mem _ h)
  have hown : s.vm.findClass RX11 = some m.cls := findClass_of_methodNamed B.named
  have hlocks := B.notSynchronized
  skip
  subst hsz
  have hD := hD0.self (sz := s.heap.size)
  generalize hAe : va_A [] s.heap.size = A at hD ⊢
  have hA : ∀ q : Nat, s.heap.size ≤ q → A q := fun q h => by rw [← hAe]; exact Or.inr h
  have hAB : ∀ q : Nat, A q → base.1 ≤ q := fun q h => by rw [← hAe] at h; exact h.elim (fun ⟨k, e, hk⟩ => hD0.2 k _ hk) (fun hk => Nat.le_trans hE.1 hk)
  have hS : va_S A s.heap s.heap [] := va_S.rf
  have hl := lv_entry ([.int a0, .int a1, .int a2]) (n := 3) (Nat.le_of_ble_eq_true rfl)
  rw [lg_entry_eq]
  generalize (lg_sl ([.int a0, .int a1, .int a2]) ++ List.replicate (3 - (lg_sl ([.int a0, .int a1, .int a2])).length) Slot.unset).toArray = ls at hl ⊢
  have hl : lv_has ls 3 [(0, .int a0), (1, .int a1), (2, .int a2)] := hl
  have hP : va_P (dC, dI) vwCl [] s.heap := hP
  refine gl_intro (fun G hG => ?_)
  have J15 : ∀ (z0 : Int32) (H : Heap) (locs : List Loc) (ls : Array Slot), va_P (dC, dI) vwCl [] H → va_D A [] → va_S A s.heap H locs → lv_has ls 3 [] → fX11_in_p15   z0 = some o → G 0 0 H locs (F0 m 15 ls [.int z0]) := by
    intro  z0 H locs ls hP hD hS hl hf
    refine (hG _ _ _ _ _).mpr ?_
    unfold fX11_in_p15 at hf
    have b1 := bd_b hf
    replace hf := bd_k hf
    have hf1 := Option.some.inj hf
    subst hf1
    have hP9 := hP.sub (ws' := []) [] rfl
    have hD9 := hD.sub (ws' := []) [] (by decide) rfl
    exact W.zret (v := z0) (ty := .boolean) hx hb hr (bz_nar b1) (fun t ht hW => ⟨⟨z0, (), rfl, ⟨rfl, rfl⟩, by rw [ht]; exact hP9, va_K.moved hW.alike hK, hD9⟩, hS.F ht⟩) hS.2.2 dX11_in_15
  have J14 : ∀ (H : Heap) (locs : List Loc) (ls : Array Slot), va_P (dC, dI) vwCl [] H → va_D A [] → va_S A s.heap H locs → lv_has ls 3 [] → fX11_in_p14    = some o → G 0 0 H locs (F0 m 14 ls []) := by
    intro   H locs ls hP hD hS hl hf
    refine (hG _ _ _ _ _).mpr ?_
    unfold fX11_in_p14 at hf
    refine lv_iconst (v := 0) hx hb dX11_in_14 (by decide +kernel) ?_
    exact (hG _ _ _ _ _).mp (J15 0 H locs ls (hP.sub [] rfl) (hD.sub [] (by decide) rfl) hS (lv_sub hl [] rfl) hf)
  refine (hG _ _ _ _ _).mpr ?_
  obtain ⟨H, hH⟩ : ∃ H, H = s.heap := ⟨_, rfl⟩
  have hS : va_S A s.heap H [] := by rw [hH]; exact hS
  rw [← hH] at hP ⊢
  generalize ([] : List Loc) = locs at hS ⊢
  unfold fX11_in at hf
  refine lv_iload_n hx hb dX11_in_0 rfl (lv_at hl 0 rfl) ?_
  refine lv_iload_n hx hb dX11_in_1 rfl (lv_at hl 1 rfl) ?_
  refine lv_icmp_lt (tgt := 14) hx hb dX11_in_2 (by decide) (fun cq2 => ?_) (fun cq2 => ?_)
  · replace hf := if_at hf cq2
    exact (hG _ _ _ _ _).mp (J14 H locs ls (hP.sub [] rfl) (hD.sub [] (by decide) rfl) hS (lv_sub hl [] rfl) hf)
  · replace hf := if_no hf cq2
    refine lv_iload_n hx hb dX11_in_5 rfl (lv_at hl 0 rfl) ?_
    refine lv_iload_n hx hb dX11_in_6 rfl (lv_at hl 2 rfl) ?_
    refine lv_icmp_gt (tgt := 14) hx hb dX11_in_7 (by decide) (fun cq3 => ?_) (fun cq3 => ?_)
    · replace hf := if_at hf cq3
      exact (hG _ _ _ _ _).mp (J14 H locs ls (hP.sub [] rfl) (hD.sub [] (by decide) rfl) hS (lv_sub hl [] rfl) hf)
    · replace hf := if_no hf cq3
      refine lv_iconst (v := 1) hx hb dX11_in_10 (by decide +kernel) ?_
      refine lv_goto (tgt := 15) hx hb dX11_in_11 (by decide) ?_
      exact (hG _ _ _ _ _).mp (J15 1 H locs ls (hP.sub [] rfl) (hD.sub [] (by decide) rfl) hS (lv_sub hl [] rfl) hf)
abbrev wX11_spread (h0 h1 h2 h3 : Nat) (kc1 kc2 kc3 : ClassId) (V0 : Nat → Value) (v0_rules : Int32) (c1 : Nat → Int32) (c2 : Nat → Int32) (c3 : Nat → Int32) : va_W := [(h0, .inr (11, [V0 0, .int v0_rules, .ref h1, V0 3, V0 4, V0 5, V0 6, V0 7, V0 8, V0 9, V0 10, V0 11, V0 12, V0 13, V0 14, .ref h2, .ref h3, V0 17, V0 18, V0 19, V0 20, V0 21, V0 22, V0 23, V0 24, V0 25, V0 26, V0 27, V0 28, V0 29, V0 30, V0 31, V0 32, V0 33, V0 34, V0 35, V0 36, V0 37, V0 38, V0 39, V0 40, V0 41, V0 42, V0 43, V0 44, V0 45, V0 46, V0 47, V0 48, V0 49, V0 50, V0 51, V0 52, V0 53, V0 54, V0 55, V0 56, V0 57, V0 58, V0 59, V0 60, V0 61, V0 62, V0 63, V0 64, V0 65, V0 66, V0 67, V0 68, V0 69, V0 70])), (h1, .inl (kc1, 288, .inl c1)), (h2, .inl (kc2, 150528, .inl c2)), (h3, .inl (kc3, 896, .inl c3))]
set_option maxHeartbeats 4000000 in
set_option maxRecDepth 100000 in
theorem mX11_spread (l : Launch) (dC : Nat → ClassId) (dI : Nat → Nat → Nat) (h0 h1 h2 h3 : Nat) (kc1 kc2 kc3 : ClassId) (sz : Nat) (base : Nat × Nat × Nat) (v0_rules : Int32) (c1 : Nat → Int32) (c2 : Nat → Int32) (c3 : Nat → Int32) (V0 : Nat → Value) (o : Int32 × (Nat → Int32) × (Nat → Int32)) (hf : fX11_spread v0_rules c1 c2 c3 = some o) : Met l yX11_spread (.code yX11_spread cX11_spread 9 (some .boolean) :: wsL_law) ({ frames := 1, cells := 0, slots := 0, locals := 25 }) (cPre (dC, dI) vwCl [.ref h0] sz base (wX11_spread h0 h1 h2 h3 kc1 kc2 kc3 V0 v0_rules c1 c2 c3) [(kc1, .int), (kc2, .boolean), (kc3, .boolean)]) (va_Qi (fun r u => r = o.1 ∧ u = o.2) (fun (u : (Nat → Int32) × (Nat → Int32)) t => cPost (dC, dI) vwCl (va_A (wX11_spread h0 h1 h2 h3 kc1 kc2 kc3 V0 v0_rules c1 c2 c3) sz) (wX11_spread h0 h1 h2 h3 kc1 kc2 kc3 V0 v0_rules c1 u.1 u.2) [(kc1, .int), (kc2, .boolean), (kc3, .boolean)] t) (va_A (wX11_spread h0 h1 h2 h3 kc1 kc2 kc3 V0 v0_rules c1 c2 c3) sz)) 0 0 (va_A (wX11_spread h0 h1 h2 h3 kc1 kc2 kc3 V0 v0_rules c1 c2 c3) sz) := by
  refine Met.ofW (cc := cX11_spread) (maxL := 9) (ret := (some .boolean)) (by decide) rfl ?_
  intro p e s m args below meth c s₁ B hml hv
  obtain ⟨rfl, hsz, hP, hK, hD0, hE⟩ := hv
  have hx := B.exec
  have hb := B.bytes
  have hr := B.returns
  have hts : ∀ w ∈ wsL_law, _ := fun w h => atoms_spec (ws := .code yX11_spread cX11_spread 9 (some .boolean) :: wsL_law) B.pre w (List.mem_cons_of_mem _ h)
  have hown : s.vm.findClass RX11 = some m.cls := findClass_of_methodNamed B.named
  have hlocks := B.notSynchronized
  have w0_ := hts _ q91
  have w1_ := hts _ q90
  have w2_ := hts _ q78
  have w3_ := hts _ q147
  subst hsz
  have hD := hD0.self (sz := s.heap.size)
  generalize hAe : va_A (wX11_spread h0 h1 h2 h3 kc1 kc2 kc3 V0 v0_rules c1 c2 c3) s.heap.size = A at hD ⊢
  have hA : ∀ q : Nat, s.heap.size ≤ q → A q := fun q h => by rw [← hAe]; exact Or.inr h
  have hAB : ∀ q : Nat, A q → base.1 ≤ q := fun q h => by rw [← hAe] at h; exact h.elim (fun ⟨k, e, hk⟩ => hD0.2 k _ hk) (fun hk => Nat.le_trans hE.1 hk)
  have hS : va_S A s.heap s.heap [] := va_S.rf
  have hl := lv_entry ([.ref h0]) (n := 9) (Nat.le_of_ble_eq_true rfl)
  rw [lg_entry_eq]
  generalize (lg_sl ([.ref h0]) ++ List.replicate (9 - (lg_sl ([.ref h0])).length) Slot.unset).toArray = ls at hl ⊢
  have hl : lv_has ls 9 [(0, .ref h0)] := hl
  have hP : va_P (dC, dI) vwCl (wX11_spread h0 h1 h2 h3 kc1 kc2 kc3 V0 v0_rules c1 c2 c3) s.heap := hP
  refine gl_intro (fun G hG => ?_)
  have J435 : ∀ (k261 : Int32 → Int32 → (Nat → Int32) → (Nat → Int32) → Option (Int32 × (Nat → Int32) × (Nat → Int32))) (hk261 : ∀ (y1 : Int32) (y2 : Int32) (c2 : (Nat → Int32)) (c3 : (Nat → Int32)) (H : Heap) (locs : List Loc) (ls : Array Slot), va_P (dC, dI) vwCl (wX11_spread h0 h1 h2 h3 kc1 kc2 kc3 V0 v0_rules c1 c2 c3) H → va_D A (wX11_spread h0 h1 h2 h3 kc1 kc2 kc3 V0 v0_rules c1 c2 c3) → va_S A s.heap H locs → lv_has ls 9 [(0, .ref h0), (1, .int y1), (2, .int y2)] → k261 y1 y2 c2 c3 = some o → G 0 0 H locs (F0 m 261 ls [])) (k269 : Int32 → Int32 → Int32 → (Nat → Int32) → (Nat → Int32) → Option (Int32 × (Nat → Int32) × (Nat → Int32))) (hk269 : ∀ (y1 : Int32) (y2 : Int32) (y3 : Int32) (c2 : (Nat → Int32)) (c3 : (Nat → Int32)) (H : Heap) (locs : List Loc) (ls : Array Slot), va_P (dC, dI) vwCl (wX11_spread h0 h1 h2 h3 kc1 kc2 kc3 V0 v0_rules c1 c2 c3) H → va_D A (wX11_spread h0 h1 h2 h3 kc1 kc2 kc3 V0 v0_rules c1 c2 c3) → va_S A s.heap H locs → lv_has ls 9 [(0, .ref h0), (1, .int y1), (2, .int y2), (3, .int y3)] → k269 y1 y2 y3 c2 c3 = some o → G 0 0 H locs (F0 m 269 ls [])), ∀ (y1 : Int32) (y2 : Int32) (y3 : Int32) (c2 : (Nat → Int32)) (c3 : (Nat → Int32)) (H : Heap) (locs : List Loc) (ls : Array Slot), va_P (dC, dI) vwCl (wX11_spread h0 h1 h2 h3 kc1 kc2 kc3 V0 v0_rules c1 c2 c3) H → va_D A (wX11_spread h0 h1 h2 h3 kc1 kc2 kc3 V0 v0_rules c1 c2 c3) → va_S A s.heap H locs → lv_has ls 9 [(0, .ref h0), (1, .int y1), (2, .int y2), (3, .int y3)] → fX11_spread_p435 v0_rules c1 k261 k269 y1 y2 y3 c2 c3 = some o → G 0 0 H locs (F0 m 435 ls []) := by
    intro k261 hk261 k269 hk269 y1 y2 y3 c2 c3 H locs ls hP hD hS hl hf
    refine (hG _ _ _ _ _).mpr ?_
    unfold fX11_spread_p435 at hf
    obtain ⟨x1, e1⟩ : ∃ y : Int32, y = y3 + 1 := ⟨_, rfl⟩
    replace hf := nm_at hf e1
    refine lv_iinc (v := x1) (lv' := [(3, .int x1), (0, .ref h0), (1, .int y1), (2, .int y2)]) hx hb dX11_spread_435 hl (k := 3) rfl (by rw [e1]; rfl) (by decide) rfl (fun ls hl => ?_)
    refine lv_goto (tgt := 269) hx hb dX11_spread_438 (by decide) ?_
    exact (hG _ _ _ _ _).mp (hk269 y1 y2 x1 c2 c3 H locs ls (hP.sub [0, 1, 2, 3] rfl) (hD.sub [0, 1, 2, 3] (by decide) rfl) hS (lv_sub hl [1, 2, 3, 0] rfl) hf)
  have J429 : ∀ (k261 : Int32 → Int32 → (Nat → Int32) → (Nat → Int32) → Option (Int32 × (Nat → Int32) × (Nat → Int32))) (hk261 : ∀ (y1 : Int32) (y2 : Int32) (c2 : (Nat → Int32)) (c3 : (Nat → Int32)) (H : Heap) (locs : List Loc) (ls : Array Slot), va_P (dC, dI) vwCl (wX11_spread h0 h1 h2 h3 kc1 kc2 kc3 V0 v0_rules c1 c2 c3) H → va_D A (wX11_spread h0 h1 h2 h3 kc1 kc2 kc3 V0 v0_rules c1 c2 c3) → va_S A s.heap H locs → lv_has ls 9 [(0, .ref h0), (1, .int y1), (2, .int y2)] → k261 y1 y2 c2 c3 = some o → G 0 0 H locs (F0 m 261 ls [])) (k269 : Int32 → Int32 → Int32 → (Nat → Int32) → (Nat → Int32) → Option (Int32 × (Nat → Int32) × (Nat → Int32))) (hk269 : ∀ (y1 : Int32) (y2 : Int32) (y3 : Int32) (c2 : (Nat → Int32)) (c3 : (Nat → Int32)) (H : Heap) (locs : List Loc) (ls : Array Slot), va_P (dC, dI) vwCl (wX11_spread h0 h1 h2 h3 kc1 kc2 kc3 V0 v0_rules c1 c2 c3) H → va_D A (wX11_spread h0 h1 h2 h3 kc1 kc2 kc3 V0 v0_rules c1 c2 c3) → va_S A s.heap H locs → lv_has ls 9 [(0, .ref h0), (1, .int y1), (2, .int y2), (3, .int y3)] → k269 y1 y2 y3 c2 c3 = some o → G 0 0 H locs (F0 m 269 ls [])) (k357 : Int32 → Int32 → Int32 → Int32 → (Nat → Int32) → (Nat → Int32) → Option (Int32 × (Nat → Int32) × (Nat → Int32))) (hk357 : ∀ (y1 : Int32) (y2 : Int32) (y3 : Int32) (y4 : Int32) (c2 : (Nat → Int32)) (c3 : (Nat → Int32)) (H : Heap) (locs : List Loc) (ls : Array Slot), va_P (dC, dI) vwCl (wX11_spread h0 h1 h2 h3 kc1 kc2 kc3 V0 v0_rules c1 c2 c3) H → va_D A (wX11_spread h0 h1 h2 h3 kc1 kc2 kc3 V0 v0_rules c1 c2 c3) → va_S A s.heap H locs → lv_has ls 9 [(0, .ref h0), (1, .int y1), (2, .int y2), (3, .int y3), (4, .int y4)] → k357 y1 y2 y3 y4 c2 c3 = some o → G 0 0 H locs (F0 m 357 ls [])), ∀ (y1 : Int32) (y2 : Int32) (y3 : Int32) (y4 : Int32) (c2 : (Nat → Int32)) (c3 : (Nat → Int32)) (H : Heap) (locs : List Loc) (ls : Array Slot), va_P (dC, dI) vwCl (wX11_spread h0 h1 h2 h3 kc1 kc2 kc3 V0 v0_rules c1 c2 c3) H → va_D A (wX11_spread h0 h1 h2 h3 kc1 kc2 kc3 V0 v0_rules c1 c2 c3) → va_S A s.heap H locs → lv_has ls 9 [(0, .ref h0), (1, .int y1), (2, .int y2), (3, .int y3), (4, .int y4)] → fX11_spread_p429 v0_rules c1 k261 k269 k357 y1 y2 y3 y4 c2 c3 = some o → G 0 0 H locs (F0 m 429 ls []) := by
    intro k261 hk261 k269 hk269 k357 hk357 y1 y2 y3 y4 c2 c3 H locs ls hP hD hS hl hf
    refine (hG _ _ _ _ _).mpr ?_
    unfold fX11_spread_p429 at hf
    obtain ⟨x2, e2⟩ : ∃ y : Int32, y = y4 + 1 := ⟨_, rfl⟩
    replace hf := nm_at hf e2
    refine lv_iinc (v := x2) (lv' := [(4, .int x2), (0, .ref h0), (1, .int y1), (2, .int y2), (3, .int y3)]) hx hb dX11_spread_429 hl (k := 4) rfl (by rw [e2]; rfl) (by decide) rfl (fun ls hl => ?_)
    refine lv_goto (tgt := 357) hx hb dX11_spread_432 (by decide) ?_
    exact (hG _ _ _ _ _).mp (hk357 y1 y2 y3 x2 c2 c3 H locs ls (hP.sub [0, 1, 2, 3] rfl) (hD.sub [0, 1, 2, 3] (by decide) rfl) hS (lv_sub hl [1, 2, 3, 4, 0] rfl) hf)
  have B357 : ∀ (k261 : Int32 → Int32 → (Nat → Int32) → (Nat → Int32) → Option (Int32 × (Nat → Int32) × (Nat → Int32))) (hk261 : ∀ (y1 : Int32) (y2 : Int32) (c2 : (Nat → Int32)) (c3 : (Nat → Int32)) (H : Heap) (locs : List Loc) (ls : Array Slot), va_P (dC, dI) vwCl (wX11_spread h0 h1 h2 h3 kc1 kc2 kc3 V0 v0_rules c1 c2 c3) H → va_D A (wX11_spread h0 h1 h2 h3 kc1 kc2 kc3 V0 v0_rules c1 c2 c3) → va_S A s.heap H locs → lv_has ls 9 [(0, .ref h0), (1, .int y1), (2, .int y2)] → k261 y1 y2 c2 c3 = some o → G 0 0 H locs (F0 m 261 ls [])) (k269 : Int32 → Int32 → Int32 → (Nat → Int32) → (Nat → Int32) → Option (Int32 × (Nat → Int32) × (Nat → Int32))) (hk269 : ∀ (y1 : Int32) (y2 : Int32) (y3 : Int32) (c2 : (Nat → Int32)) (c3 : (Nat → Int32)) (H : Heap) (locs : List Loc) (ls : Array Slot), va_P (dC, dI) vwCl (wX11_spread h0 h1 h2 h3 kc1 kc2 kc3 V0 v0_rules c1 c2 c3) H → va_D A (wX11_spread h0 h1 h2 h3 kc1 kc2 kc3 V0 v0_rules c1 c2 c3) → va_S A s.heap H locs → lv_has ls 9 [(0, .ref h0), (1, .int y1), (2, .int y2), (3, .int y3)] → k269 y1 y2 y3 c2 c3 = some o → G 0 0 H locs (F0 m 269 ls [])) (k357 : Int32 → Int32 → Int32 → Int32 → (Nat → Int32) → (Nat → Int32) → Option (Int32 × (Nat → Int32) × (Nat → Int32))) (hk357 : ∀ (y1 : Int32) (y2 : Int32) (y3 : Int32) (y4 : Int32) (c2 : (Nat → Int32)) (c3 : (Nat → Int32)) (H : Heap) (locs : List Loc) (ls : Array Slot), va_P (dC, dI) vwCl (wX11_spread h0 h1 h2 h3 kc1 kc2 kc3 V0 v0_rules c1 c2 c3) H → va_D A (wX11_spread h0 h1 h2 h3 kc1 kc2 kc3 V0 v0_rules c1 c2 c3) → va_S A s.heap H locs → lv_has ls 9 [(0, .ref h0), (1, .int y1), (2, .int y2), (3, .int y3), (4, .int y4)] → k357 y1 y2 y3 y4 c2 c3 = some o → G 0 0 H locs (F0 m 357 ls [])), ∀ (y1 : Int32) (y2 : Int32) (y3 : Int32) (y4 : Int32) (c2 : (Nat → Int32)) (c3 : (Nat → Int32)) (H : Heap) (locs : List Loc) (ls : Array Slot), va_P (dC, dI) vwCl (wX11_spread h0 h1 h2 h3 kc1 kc2 kc3 V0 v0_rules c1 c2 c3) H → va_D A (wX11_spread h0 h1 h2 h3 kc1 kc2 kc3 V0 v0_rules c1 c2 c3) → va_S A s.heap H locs → lv_has ls 9 [(0, .ref h0), (1, .int y1), (2, .int y2), (3, .int y3), (4, .int y4)] → fX11_spread_b357 v0_rules c1 k261 k269 k357 y1 y2 y3 y4 c2 c3 = some o → G 0 0 H locs (F0 m 357 ls []) := by
    intro k261 hk261 k269 hk269 k357 hk357 y1 y2 y3 y4 c2 c3 H locs ls hP hD hS hl hf
    refine (hG _ _ _ _ _).mpr ?_
    unfold fX11_spread_b357 at hf
    refine lv_iload hx hb dX11_spread_357 (lv_at hl 4 rfl) ?_
    refine lv_bipush (v := 112) hx hb dX11_spread_359 (by decide +kernel) ?_
    refine lv_icmp_ge (tgt := 435) hx hb dX11_spread_361 (by decide) (fun cq3 => ?_) (fun cq3 => ?_)
    · replace hf := if_at hf cq3
      exact (hG _ _ _ _ _).mp (J435 k261 hk261 k269 hk269 y1 y2 y3 c2 c3 H locs ls (hP.sub [0, 1, 2, 3] rfl) (hD.sub [0, 1, 2, 3] (by decide) rfl) hS (lv_sub hl [0, 1, 2, 3] rfl) hf)
    · replace hf := if_no hf cq3
      refine lv_iload_n hx hb dX11_spread_364 rfl (lv_at hl 3 rfl) ?_
      refine lv_bipush (v := 8) hx hb dX11_spread_365 (by decide +kernel) ?_
      refine lv_icmp_ge (tgt := 435) hx hb dX11_spread_367 (by decide) (fun cq4 => ?_) (fun cq4 => ?_)
      · replace hf := if_at hf cq4
        exact (hG _ _ _ _ _).mp (J435 k261 hk261 k269 hk269 y1 y2 y3 c2 c3 H locs ls (hP.sub [0, 1, 2, 3] rfl) (hD.sub [0, 1, 2, 3] (by decide) rfl) hS (lv_sub hl [0, 1, 2, 3] rfl) hf)
      · replace hf := if_no hf cq4
        refine lv_aload_n hx hb dX11_spread_370 rfl (lv_at hl 0 rfl) ?_
        refine va_get (D := (dC, dI)) (ci := 11) (v := .ref h3) (C := RX11) (T := TX11) (N := 71) hx hb hts inlX11 hown hK hP 0 rfl rfl 16 (by decide) w0_ (fun _ h9 => h9) rfl dX11_spread_371 ?_
        refine lv_bipush (v := 112) hx hb dX11_spread_374 (by decide +kernel) ?_
        refine lv_iload_n hx hb dX11_spread_376 rfl (lv_at hl 2 rfl) ?_
        refine lv_imul hx hb dX11_spread_377 ?_
        refine lv_topi (fun x5 e5 => ?_)
        replace hf := nm_at hf e5
        refine lv_iload_n hx hb dX11_spread_378 rfl (lv_at hl 3 rfl) ?_
        refine lv_iadd hx hb dX11_spread_379 ?_
        refine lv_topi (fun x6 e6 => ?_)
        replace hf := nm_at hf e6
        have b7 := bd_in hf
        replace hf := bd_k hf
        refine va_zald hx hb hK hP 3 2 rfl rfl b7 dX11_spread_380 ?_
        refine lv_topi (fun x8 e8 => ?_)
        replace hf := nm_at hf e8
        refine lv_if_eq (tgt := 435) hx hb dX11_spread_381 (by decide) (fun cq9 => ?_) (fun cq9 => ?_)
        · replace hf := if_at hf cq9
          exact (hG _ _ _ _ _).mp (J435 k261 hk261 k269 hk269 y1 y2 y3 c2 c3 H locs ls (hP.sub [0, 1, 2, 3] rfl) (hD.sub [0, 1, 2, 3] (by decide) rfl) hS (lv_sub hl [0, 1, 2, 3] rfl) hf)
        · replace hf := if_no hf cq9
          refine lv_aload_n hx hb dX11_spread_384 rfl (lv_at hl 0 rfl) ?_
          refine va_get (D := (dC, dI)) (ci := 11) (v := .ref h3) (C := RX11) (T := TX11) (N := 71) hx hb hts inlX11 hown hK hP 0 rfl rfl 16 (by decide) w0_ (fun _ h9 => h9) rfl dX11_spread_385 ?_
          refine lv_bipush (v := 112) hx hb dX11_spread_388 (by decide +kernel) ?_
          refine lv_iload_n hx hb dX11_spread_390 rfl (lv_at hl 3 rfl) ?_
          refine lv_imul hx hb dX11_spread_391 ?_
          refine lv_topi (fun x10 e10 => ?_)
          replace hf := nm_at hf e10
          refine lv_iload hx hb dX11_spread_392 (lv_at hl 4 rfl) ?_
          refine lv_iadd hx hb dX11_spread_394 ?_
          refine lv_topi (fun x11 e11 => ?_)
          replace hf := nm_at hf e11
          have b12 := bd_in hf
          replace hf := bd_k hf
          refine va_zald hx hb hK hP 3 2 rfl rfl b12 dX11_spread_395 ?_
          refine lv_topi (fun x13 e13 => ?_)
          replace hf := nm_at hf e13
          refine lv_if_eq (tgt := 429) hx hb dX11_spread_396 (by decide) (fun cq14 => ?_) (fun cq14 => ?_)
          · replace hf := if_at hf cq14
            exact (hG _ _ _ _ _).mp (J429 k261 hk261 k269 hk269 k357 hk357 y1 y2 y3 y4 c2 c3 H locs ls (hP.sub [0, 1, 2, 3] rfl) (hD.sub [0, 1, 2, 3] (by decide) rfl) hS (lv_sub hl [0, 1, 2, 3, 4] rfl) hf)
          · replace hf := if_no hf cq14
            refine lv_aload_n hx hb dX11_spread_399 rfl (lv_at hl 0 rfl) ?_
            refine va_get (D := (dC, dI)) (ci := 11) (v := .ref h3) (C := RX11) (T := TX11) (N := 71) hx hb hts inlX11 hown hK hP 0 rfl rfl 16 (by decide) w0_ (fun _ h9 => h9) rfl dX11_spread_400 ?_
            refine lv_bipush (v := 112) hx hb dX11_spread_403 (by decide +kernel) ?_
            refine lv_iload_n hx hb dX11_spread_405 rfl (lv_at hl 2 rfl) ?_
            refine lv_imul hx hb dX11_spread_406 ?_
            refine lv_topi (fun x15 e15 => ?_)
            replace hf := nm_at hf e15
            refine lv_iload hx hb dX11_spread_407 (lv_at hl 4 rfl) ?_
            refine lv_iadd hx hb dX11_spread_409 ?_
            refine lv_topi (fun x16 e16 => ?_)
            replace hf := nm_at hf e16
            have b17 := bd_in hf
            replace hf := bd_k hf
            refine va_zald hx hb hK hP 3 2 rfl rfl b17 dX11_spread_410 ?_
            refine lv_topi (fun x18 e18 => ?_)
            replace hf := nm_at hf e18
            refine lv_if_ne (tgt := 429) hx hb dX11_spread_411 (by decide) (fun cq19 => ?_) (fun cq19 => ?_)
            · replace hf := if_no hf cq19
              exact (hG _ _ _ _ _).mp (J429 k261 hk261 k269 hk269 k357 hk357 y1 y2 y3 y4 c2 c3 H locs ls (hP.sub [0, 1, 2, 3] rfl) (hD.sub [0, 1, 2, 3] (by decide) rfl) hS (lv_sub hl [0, 1, 2, 3, 4] rfl) hf)
            · replace hf := if_at hf cq19
              refine lv_aload_n hx hb dX11_spread_414 rfl (lv_at hl 0 rfl) ?_
              refine va_get (D := (dC, dI)) (ci := 11) (v := .ref h3) (C := RX11) (T := TX11) (N := 71) hx hb hts inlX11 hown hK hP 0 rfl rfl 16 (by decide) w0_ (fun _ h9 => h9) rfl dX11_spread_415 ?_
              refine lv_bipush (v := 112) hx hb dX11_spread_418 (by decide +kernel) ?_
              refine lv_iload_n hx hb dX11_spread_420 rfl (lv_at hl 2 rfl) ?_
              refine lv_imul hx hb dX11_spread_421 ?_
              refine lv_topi (fun x20 e20 => ?_)
              replace hf := nm_at hf e20
              refine lv_iload hx hb dX11_spread_422 (lv_at hl 4 rfl) ?_
              refine lv_iadd hx hb dX11_spread_424 ?_
              refine lv_topi (fun x21 e21 => ?_)
              replace hf := nm_at hf e21
              refine lv_iconst (v := 1) hx hb dX11_spread_425 (by decide +kernel) ?_
              have b22 := bd_in hf
              replace hf := bd_k hf
              obtain ⟨c22x, e22⟩ : ∃ y, y = upd c3 x21.toNatClampNeg (vp_nar .boolean 1) := ⟨_, rfl⟩
              replace hf := nm_at hf e22
              refine va_zast hx hb hK hP hD hS 3 2 rfl rfl b22 dX11_spread_426 (fun H locs hP hD hS => ?_)
              have hP : va_P (dC, dI) vwCl (wX11_spread h0 h1 h2 h3 kc1 kc2 kc3 V0 v0_rules c1 c2 c22x) H := by rw [e22]; exact hP
              have hD : va_D A (wX11_spread h0 h1 h2 h3 kc1 kc2 kc3 V0 v0_rules c1 c2 c22x) := by rw [e22]; exact hD
              refine lv_iconst (v := 1) hx hb dX11_spread_427 (by decide +kernel) ?_
              refine lv_istore_n (lv' := [(1, .int 1), (0, .ref h0), (2, .int y2), (3, .int y3), (4, .int y4)]) hx hb dX11_spread_428 rfl hl (by decide) rfl (fun ls hl => ?_)
              exact (hG _ _ _ _ _).mp (J429 k261 hk261 k269 hk269 k357 hk357 1 y2 y3 y4 c2 c22x H locs ls (hP.sub [0, 1, 2, 3] rfl) (hD.sub [0, 1, 2, 3] (by decide) rfl) hS (lv_sub hl [1, 0, 2, 3, 4] rfl) hf)
  have L357 : ∀ (k261 : Int32 → Int32 → (Nat → Int32) → (Nat → Int32) → Option (Int32 × (Nat → Int32) × (Nat → Int32))) (hk261 : ∀ (y1 : Int32) (y2 : Int32) (c2 : (Nat → Int32)) (c3 : (Nat → Int32)) (H : Heap) (locs : List Loc) (ls : Array Slot), va_P (dC, dI) vwCl (wX11_spread h0 h1 h2 h3 kc1 kc2 kc3 V0 v0_rules c1 c2 c3) H → va_D A (wX11_spread h0 h1 h2 h3 kc1 kc2 kc3 V0 v0_rules c1 c2 c3) → va_S A s.heap H locs → lv_has ls 9 [(0, .ref h0), (1, .int y1), (2, .int y2)] → k261 y1 y2 c2 c3 = some o → G 0 0 H locs (F0 m 261 ls [])) (k269 : Int32 → Int32 → Int32 → (Nat → Int32) → (Nat → Int32) → Option (Int32 × (Nat → Int32) × (Nat → Int32))) (hk269 : ∀ (y1 : Int32) (y2 : Int32) (y3 : Int32) (c2 : (Nat → Int32)) (c3 : (Nat → Int32)) (H : Heap) (locs : List Loc) (ls : Array Slot), va_P (dC, dI) vwCl (wX11_spread h0 h1 h2 h3 kc1 kc2 kc3 V0 v0_rules c1 c2 c3) H → va_D A (wX11_spread h0 h1 h2 h3 kc1 kc2 kc3 V0 v0_rules c1 c2 c3) → va_S A s.heap H locs → lv_has ls 9 [(0, .ref h0), (1, .int y1), (2, .int y2), (3, .int y3)] → k269 y1 y2 y3 c2 c3 = some o → G 0 0 H locs (F0 m 269 ls [])) (n : Nat), ∀ (y1 : Int32) (y2 : Int32) (y3 : Int32) (y4 : Int32) (c2 : (Nat → Int32)) (c3 : (Nat → Int32)) (H : Heap) (locs : List Loc) (ls : Array Slot), va_P (dC, dI) vwCl (wX11_spread h0 h1 h2 h3 kc1 kc2 kc3 V0 v0_rules c1 c2 c3) H → va_D A (wX11_spread h0 h1 h2 h3 kc1 kc2 kc3 V0 v0_rules c1 c2 c3) → va_S A s.heap H locs → lv_has ls 9 [(0, .ref h0), (1, .int y1), (2, .int y2), (3, .int y3), (4, .int y4)] → fX11_spread_l357 v0_rules c1 k261 k269 n y1 y2 y3 y4 c2 c3 = some o → G 0 0 H locs (F0 m 357 ls []) := by
    intro k261 hk261 k269 hk269 n
    induction n with
    | zero => intro y1 y2 y3 y4 c2 c3 H locs ls _ _ _ _ hf; cases hf
    | succ n ih => exact B357 k261 hk261 k269 hk269 _ ih
  have J354 : ∀ (k261 : Int32 → Int32 → (Nat → Int32) → (Nat → Int32) → Option (Int32 × (Nat → Int32) × (Nat → Int32))) (hk261 : ∀ (y1 : Int32) (y2 : Int32) (c2 : (Nat → Int32)) (c3 : (Nat → Int32)) (H : Heap) (locs : List Loc) (ls : Array Slot), va_P (dC, dI) vwCl (wX11_spread h0 h1 h2 h3 kc1 kc2 kc3 V0 v0_rules c1 c2 c3) H → va_D A (wX11_spread h0 h1 h2 h3 kc1 kc2 kc3 V0 v0_rules c1 c2 c3) → va_S A s.heap H locs → lv_has ls 9 [(0, .ref h0), (1, .int y1), (2, .int y2)] → k261 y1 y2 c2 c3 = some o → G 0 0 H locs (F0 m 261 ls [])) (k269 : Int32 → Int32 → Int32 → (Nat → Int32) → (Nat → Int32) → Option (Int32 × (Nat → Int32) × (Nat → Int32))) (hk269 : ∀ (y1 : Int32) (y2 : Int32) (y3 : Int32) (c2 : (Nat → Int32)) (c3 : (Nat → Int32)) (H : Heap) (locs : List Loc) (ls : Array Slot), va_P (dC, dI) vwCl (wX11_spread h0 h1 h2 h3 kc1 kc2 kc3 V0 v0_rules c1 c2 c3) H → va_D A (wX11_spread h0 h1 h2 h3 kc1 kc2 kc3 V0 v0_rules c1 c2 c3) → va_S A s.heap H locs → lv_has ls 9 [(0, .ref h0), (1, .int y1), (2, .int y2), (3, .int y3)] → k269 y1 y2 y3 c2 c3 = some o → G 0 0 H locs (F0 m 269 ls [])), ∀ (y1 : Int32) (y2 : Int32) (y3 : Int32) (c2 : (Nat → Int32)) (c3 : (Nat → Int32)) (H : Heap) (locs : List Loc) (ls : Array Slot), va_P (dC, dI) vwCl (wX11_spread h0 h1 h2 h3 kc1 kc2 kc3 V0 v0_rules c1 c2 c3) H → va_D A (wX11_spread h0 h1 h2 h3 kc1 kc2 kc3 V0 v0_rules c1 c2 c3) → va_S A s.heap H locs → lv_has ls 9 [(0, .ref h0), (1, .int y1), (2, .int y2), (3, .int y3)] → fX11_spread_p354 v0_rules c1 k261 k269 y1 y2 y3 c2 c3 = some o → G 0 0 H locs (F0 m 354 ls []) := by
    intro k261 hk261 k269 hk269 y1 y2 y3 c2 c3 H locs ls hP hD hS hl hf
    refine (hG _ _ _ _ _).mpr ?_
    unfold fX11_spread_p354 at hf
    refine lv_iconst (v := 0) hx hb dX11_spread_354 (by decide +kernel) ?_
    refine lv_istore (lv' := [(4, .int 0), (0, .ref h0), (1, .int y1), (2, .int y2), (3, .int y3)]) hx hb dX11_spread_355 hl (by decide) rfl (fun ls hl => ?_)
    exact (hG _ _ _ _ _).mp (L357 k261 hk261 k269 hk269 FU y1 y2 y3 0 c2 c3 H locs ls (hP.sub [0, 1, 2, 3] rfl) (hD.sub [0, 1, 2, 3] (by decide) rfl) hS (lv_sub hl [1, 2, 3, 4, 0] rfl) hf)
  have J348 : ∀ (k261 : Int32 → Int32 → (Nat → Int32) → (Nat → Int32) → Option (Int32 × (Nat → Int32) × (Nat → Int32))) (hk261 : ∀ (y1 : Int32) (y2 : Int32) (c2 : (Nat → Int32)) (c3 : (Nat → Int32)) (H : Heap) (locs : List Loc) (ls : Array Slot), va_P (dC, dI) vwCl (wX11_spread h0 h1 h2 h3 kc1 kc2 kc3 V0 v0_rules c1 c2 c3) H → va_D A (wX11_spread h0 h1 h2 h3 kc1 kc2 kc3 V0 v0_rules c1 c2 c3) → va_S A s.heap H locs → lv_has ls 9 [(0, .ref h0), (1, .int y1), (2, .int y2)] → k261 y1 y2 c2 c3 = some o → G 0 0 H locs (F0 m 261 ls [])) (k269 : Int32 → Int32 → Int32 → (Nat → Int32) → (Nat → Int32) → Option (Int32 × (Nat → Int32) × (Nat → Int32))) (hk269 : ∀ (y1 : Int32) (y2 : Int32) (y3 : Int32) (c2 : (Nat → Int32)) (c3 : (Nat → Int32)) (H : Heap) (locs : List Loc) (ls : Array Slot), va_P (dC, dI) vwCl (wX11_spread h0 h1 h2 h3 kc1 kc2 kc3 V0 v0_rules c1 c2 c3) H → va_D A (wX11_spread h0 h1 h2 h3 kc1 kc2 kc3 V0 v0_rules c1 c2 c3) → va_S A s.heap H locs → lv_has ls 9 [(0, .ref h0), (1, .int y1), (2, .int y2), (3, .int y3)] → k269 y1 y2 y3 c2 c3 = some o → G 0 0 H locs (F0 m 269 ls [])) (k278 : Int32 → Int32 → Int32 → Int32 → (Nat → Int32) → (Nat → Int32) → Option (Int32 × (Nat → Int32) × (Nat → Int32))) (hk278 : ∀ (y1 : Int32) (y2 : Int32) (y3 : Int32) (y4 : Int32) (c2 : (Nat → Int32)) (c3 : (Nat → Int32)) (H : Heap) (locs : List Loc) (ls : Array Slot), va_P (dC, dI) vwCl (wX11_spread h0 h1 h2 h3 kc1 kc2 kc3 V0 v0_rules c1 c2 c3) H → va_D A (wX11_spread h0 h1 h2 h3 kc1 kc2 kc3 V0 v0_rules c1 c2 c3) → va_S A s.heap H locs → lv_has ls 9 [(0, .ref h0), (1, .int y1), (2, .int y2), (3, .int y3), (4, .int y4)] → k278 y1 y2 y3 y4 c2 c3 = some o → G 0 0 H locs (F0 m 278 ls [])), ∀ (y1 : Int32) (y2 : Int32) (y3 : Int32) (y4 : Int32) (c2 : (Nat → Int32)) (c3 : (Nat → Int32)) (H : Heap) (locs : List Loc) (ls : Array Slot), va_P (dC, dI) vwCl (wX11_spread h0 h1 h2 h3 kc1 kc2 kc3 V0 v0_rules c1 c2 c3) H → va_D A (wX11_spread h0 h1 h2 h3 kc1 kc2 kc3 V0 v0_rules c1 c2 c3) → va_S A s.heap H locs → lv_has ls 9 [(0, .ref h0), (1, .int y1), (2, .int y2), (3, .int y3), (4, .int y4)] → fX11_spread_p348 v0_rules c1 k261 k269 k278 y1 y2 y3 y4 c2 c3 = some o → G 0 0 H locs (F0 m 348 ls []) := by
    intro k261 hk261 k269 hk269 k278 hk278 y1 y2 y3 y4 c2 c3 H locs ls hP hD hS hl hf
    refine (hG _ _ _ _ _).mpr ?_
    unfold fX11_spread_p348 at hf
    obtain ⟨x23, e23⟩ : ∃ y : Int32, y = y4 + 1 := ⟨_, rfl⟩
    replace hf := nm_at hf e23
    refine lv_iinc (v := x23) (lv' := [(4, .int x23), (0, .ref h0), (1, .int y1), (2, .int y2), (3, .int y3)]) hx hb dX11_spread_348 hl (k := 4) rfl (by rw [e23]; rfl) (by decide) rfl (fun ls hl => ?_)
    refine lv_goto (tgt := 278) hx hb dX11_spread_351 (by decide) ?_
    exact (hG _ _ _ _ _).mp (hk278 y1 y2 y3 x23 c2 c3 H locs ls (hP.sub [0, 1, 2, 3] rfl) (hD.sub [0, 1, 2, 3] (by decide) rfl) hS (lv_sub hl [1, 2, 3, 4, 0] rfl) hf)
  have B278 : ∀ (k261 : Int32 → Int32 → (Nat → Int32) → (Nat → Int32) → Option (Int32 × (Nat → Int32) × (Nat → Int32))) (hk261 : ∀ (y1 : Int32) (y2 : Int32) (c2 : (Nat → Int32)) (c3 : (Nat → Int32)) (H : Heap) (locs : List Loc) (ls : Array Slot), va_P (dC, dI) vwCl (wX11_spread h0 h1 h2 h3 kc1 kc2 kc3 V0 v0_rules c1 c2 c3) H → va_D A (wX11_spread h0 h1 h2 h3 kc1 kc2 kc3 V0 v0_rules c1 c2 c3) → va_S A s.heap H locs → lv_has ls 9 [(0, .ref h0), (1, .int y1), (2, .int y2)] → k261 y1 y2 c2 c3 = some o → G 0 0 H locs (F0 m 261 ls [])) (k269 : Int32 → Int32 → Int32 → (Nat → Int32) → (Nat → Int32) → Option (Int32 × (Nat → Int32) × (Nat → Int32))) (hk269 : ∀ (y1 : Int32) (y2 : Int32) (y3 : Int32) (c2 : (Nat → Int32)) (c3 : (Nat → Int32)) (H : Heap) (locs : List Loc) (ls : Array Slot), va_P (dC, dI) vwCl (wX11_spread h0 h1 h2 h3 kc1 kc2 kc3 V0 v0_rules c1 c2 c3) H → va_D A (wX11_spread h0 h1 h2 h3 kc1 kc2 kc3 V0 v0_rules c1 c2 c3) → va_S A s.heap H locs → lv_has ls 9 [(0, .ref h0), (1, .int y1), (2, .int y2), (3, .int y3)] → k269 y1 y2 y3 c2 c3 = some o → G 0 0 H locs (F0 m 269 ls [])) (k278 : Int32 → Int32 → Int32 → Int32 → (Nat → Int32) → (Nat → Int32) → Option (Int32 × (Nat → Int32) × (Nat → Int32))) (hk278 : ∀ (y1 : Int32) (y2 : Int32) (y3 : Int32) (y4 : Int32) (c2 : (Nat → Int32)) (c3 : (Nat → Int32)) (H : Heap) (locs : List Loc) (ls : Array Slot), va_P (dC, dI) vwCl (wX11_spread h0 h1 h2 h3 kc1 kc2 kc3 V0 v0_rules c1 c2 c3) H → va_D A (wX11_spread h0 h1 h2 h3 kc1 kc2 kc3 V0 v0_rules c1 c2 c3) → va_S A s.heap H locs → lv_has ls 9 [(0, .ref h0), (1, .int y1), (2, .int y2), (3, .int y3), (4, .int y4)] → k278 y1 y2 y3 y4 c2 c3 = some o → G 0 0 H locs (F0 m 278 ls [])), ∀ (y1 : Int32) (y2 : Int32) (y3 : Int32) (y4 : Int32) (c2 : (Nat → Int32)) (c3 : (Nat → Int32)) (H : Heap) (locs : List Loc) (ls : Array Slot), va_P (dC, dI) vwCl (wX11_spread h0 h1 h2 h3 kc1 kc2 kc3 V0 v0_rules c1 c2 c3) H → va_D A (wX11_spread h0 h1 h2 h3 kc1 kc2 kc3 V0 v0_rules c1 c2 c3) → va_S A s.heap H locs → lv_has ls 9 [(0, .ref h0), (1, .int y1), (2, .int y2), (3, .int y3), (4, .int y4)] → fX11_spread_b278 v0_rules c1 k261 k269 k278 y1 y2 y3 y4 c2 c3 = some o → G 0 0 H locs (F0 m 278 ls []) := by
    intro k261 hk261 k269 hk269 k278 hk278 y1 y2 y3 y4 c2 c3 H locs ls hP hD hS hl hf
    refine (hG _ _ _ _ _).mpr ?_
    unfold fX11_spread_b278 at hf
    refine lv_iload hx hb dX11_spread_278 (lv_at hl 4 rfl) ?_
    refine lv_sipush (v := 1344) hx hb dX11_spread_280 (by decide +kernel) ?_
    refine lv_icmp_ge (tgt := 354) hx hb dX11_spread_283 (by decide) (fun cq24 => ?_) (fun cq24 => ?_)
    · replace hf := if_at hf cq24
      exact (hG _ _ _ _ _).mp (J354 k261 hk261 k269 hk269 y1 y2 y3 c2 c3 H locs ls (hP.sub [0, 1, 2, 3] rfl) (hD.sub [0, 1, 2, 3] (by decide) rfl) hS (lv_sub hl [0, 1, 2, 3] rfl) hf)
    · replace hf := if_no hf cq24
      refine lv_aload_n hx hb dX11_spread_286 rfl (lv_at hl 0 rfl) ?_
      refine va_get (D := (dC, dI)) (ci := 11) (v := .ref h3) (C := RX11) (T := TX11) (N := 71) hx hb hts inlX11 hown hK hP 0 rfl rfl 16 (by decide) w0_ (fun _ h9 => h9) rfl dX11_spread_287 ?_
      refine lv_bipush (v := 112) hx hb dX11_spread_290 (by decide +kernel) ?_
      refine lv_iload_n hx hb dX11_spread_292 rfl (lv_at hl 2 rfl) ?_
      refine lv_imul hx hb dX11_spread_293 ?_
      refine lv_topi (fun x25 e25 => ?_)
      replace hf := nm_at hf e25
      refine lv_iload_n hx hb dX11_spread_294 rfl (lv_at hl 3 rfl) ?_
      refine lv_iadd hx hb dX11_spread_295 ?_
      refine lv_topi (fun x26 e26 => ?_)
      replace hf := nm_at hf e26
      have b27 := bd_in hf
      replace hf := bd_k hf
      refine va_zald hx hb hK hP 3 2 rfl rfl b27 dX11_spread_296 ?_
      refine lv_topi (fun x28 e28 => ?_)
      replace hf := nm_at hf e28
      refine lv_if_eq (tgt := 354) hx hb dX11_spread_297 (by decide) (fun cq29 => ?_) (fun cq29 => ?_)
      · replace hf := if_at hf cq29
        exact (hG _ _ _ _ _).mp (J354 k261 hk261 k269 hk269 y1 y2 y3 c2 c3 H locs ls (hP.sub [0, 1, 2, 3] rfl) (hD.sub [0, 1, 2, 3] (by decide) rfl) hS (lv_sub hl [0, 1, 2, 3] rfl) hf)
      · replace hf := if_no hf cq29
        refine lv_aload_n hx hb dX11_spread_300 rfl (lv_at hl 0 rfl) ?_
        refine va_get (D := (dC, dI)) (ci := 11) (v := .ref h2) (C := RX11) (T := TX11) (N := 71) hx hb hts inlX11 hown hK hP 0 rfl rfl 15 (by decide) w1_ (fun _ h9 => h9) rfl dX11_spread_301 ?_
        refine lv_sipush (v := 1344) hx hb dX11_spread_304 (by decide +kernel) ?_
        refine lv_iload_n hx hb dX11_spread_307 rfl (lv_at hl 3 rfl) ?_
        refine lv_imul hx hb dX11_spread_308 ?_
        refine lv_topi (fun x30 e30 => ?_)
        replace hf := nm_at hf e30
        refine lv_iload hx hb dX11_spread_309 (lv_at hl 4 rfl) ?_
        refine lv_iadd hx hb dX11_spread_311 ?_
        refine lv_topi (fun x31 e31 => ?_)
        replace hf := nm_at hf e31
        have b32 := bd_in hf
        replace hf := bd_k hf
        refine va_zald hx hb hK hP 2 1 rfl rfl b32 dX11_spread_312 ?_
        refine lv_topi (fun x33 e33 => ?_)
        replace hf := nm_at hf e33
        refine lv_if_eq (tgt := 348) hx hb dX11_spread_313 (by decide) (fun cq34 => ?_) (fun cq34 => ?_)
        · replace hf := if_at hf cq34
          exact (hG _ _ _ _ _).mp (J348 k261 hk261 k269 hk269 k278 hk278 y1 y2 y3 y4 c2 c3 H locs ls (hP.sub [0, 1, 2, 3] rfl) (hD.sub [0, 1, 2, 3] (by decide) rfl) hS (lv_sub hl [0, 1, 2, 3, 4] rfl) hf)
        · replace hf := if_no hf cq34
          refine lv_aload_n hx hb dX11_spread_316 rfl (lv_at hl 0 rfl) ?_
          refine va_get (D := (dC, dI)) (ci := 11) (v := .ref h2) (C := RX11) (T := TX11) (N := 71) hx hb hts inlX11 hown hK hP 0 rfl rfl 15 (by decide) w1_ (fun _ h9 => h9) rfl dX11_spread_317 ?_
          refine lv_sipush (v := 1344) hx hb dX11_spread_320 (by decide +kernel) ?_
          refine lv_iload_n hx hb dX11_spread_323 rfl (lv_at hl 2 rfl) ?_
          refine lv_imul hx hb dX11_spread_324 ?_
          refine lv_topi (fun x35 e35 => ?_)
          replace hf := nm_at hf e35
          refine lv_iload hx hb dX11_spread_325 (lv_at hl 4 rfl) ?_
          refine lv_iadd hx hb dX11_spread_327 ?_
          refine lv_topi (fun x36 e36 => ?_)
          replace hf := nm_at hf e36
          have b37 := bd_in hf
          replace hf := bd_k hf
          refine va_zald hx hb hK hP 2 1 rfl rfl b37 dX11_spread_328 ?_
          refine lv_topi (fun x38 e38 => ?_)
          replace hf := nm_at hf e38
          refine lv_if_ne (tgt := 348) hx hb dX11_spread_329 (by decide) (fun cq39 => ?_) (fun cq39 => ?_)
          · replace hf := if_no hf cq39
            exact (hG _ _ _ _ _).mp (J348 k261 hk261 k269 hk269 k278 hk278 y1 y2 y3 y4 c2 c3 H locs ls (hP.sub [0, 1, 2, 3] rfl) (hD.sub [0, 1, 2, 3] (by decide) rfl) hS (lv_sub hl [0, 1, 2, 3, 4] rfl) hf)
          · replace hf := if_at hf cq39
            refine lv_aload_n hx hb dX11_spread_332 rfl (lv_at hl 0 rfl) ?_
            refine va_get (D := (dC, dI)) (ci := 11) (v := .ref h2) (C := RX11) (T := TX11) (N := 71) hx hb hts inlX11 hown hK hP 0 rfl rfl 15 (by decide) w1_ (fun _ h9 => h9) rfl dX11_spread_333 ?_
            refine lv_sipush (v := 1344) hx hb dX11_spread_336 (by decide +kernel) ?_
            refine lv_iload_n hx hb dX11_spread_339 rfl (lv_at hl 2 rfl) ?_
            refine lv_imul hx hb dX11_spread_340 ?_
            refine lv_topi (fun x40 e40 => ?_)
            replace hf := nm_at hf e40
            refine lv_iload hx hb dX11_spread_341 (lv_at hl 4 rfl) ?_
            refine lv_iadd hx hb dX11_spread_343 ?_
            refine lv_topi (fun x41 e41 => ?_)
            replace hf := nm_at hf e41
            refine lv_iconst (v := 1) hx hb dX11_spread_344 (by decide +kernel) ?_
            have b42 := bd_in hf
            replace hf := bd_k hf
            obtain ⟨c42x, e42⟩ : ∃ y, y = upd c2 x41.toNatClampNeg (vp_nar .boolean 1) := ⟨_, rfl⟩
            replace hf := nm_at hf e42
            refine va_zast hx hb hK hP hD hS 2 1 rfl rfl b42 dX11_spread_345 (fun H locs hP hD hS => ?_)
            have hP : va_P (dC, dI) vwCl (wX11_spread h0 h1 h2 h3 kc1 kc2 kc3 V0 v0_rules c1 c42x c3) H := by rw [e42]; exact hP
            have hD : va_D A (wX11_spread h0 h1 h2 h3 kc1 kc2 kc3 V0 v0_rules c1 c42x c3) := by rw [e42]; exact hD
            refine lv_iconst (v := 1) hx hb dX11_spread_346 (by decide +kernel) ?_
            refine lv_istore_n (lv' := [(1, .int 1), (0, .ref h0), (2, .int y2), (3, .int y3), (4, .int y4)]) hx hb dX11_spread_347 rfl hl (by decide) rfl (fun ls hl => ?_)
            exact (hG _ _ _ _ _).mp (J348 k261 hk261 k269 hk269 k278 hk278 1 y2 y3 y4 c42x c3 H locs ls (hP.sub [0, 1, 2, 3] rfl) (hD.sub [0, 1, 2, 3] (by decide) rfl) hS (lv_sub hl [1, 0, 2, 3, 4] rfl) hf)
  have L278 : ∀ (k261 : Int32 → Int32 → (Nat → Int32) → (Nat → Int32) → Option (Int32 × (Nat → Int32) × (Nat → Int32))) (hk261 : ∀ (y1 : Int32) (y2 : Int32) (c2 : (Nat → Int32)) (c3 : (Nat → Int32)) (H : Heap) (locs : List Loc) (ls : Array Slot), va_P (dC, dI) vwCl (wX11_spread h0 h1 h2 h3 kc1 kc2 kc3 V0 v0_rules c1 c2 c3) H → va_D A (wX11_spread h0 h1 h2 h3 kc1 kc2 kc3 V0 v0_rules c1 c2 c3) → va_S A s.heap H locs → lv_has ls 9 [(0, .ref h0), (1, .int y1), (2, .int y2)] → k261 y1 y2 c2 c3 = some o → G 0 0 H locs (F0 m 261 ls [])) (k269 : Int32 → Int32 → Int32 → (Nat → Int32) → (Nat → Int32) → Option (Int32 × (Nat → Int32) × (Nat → Int32))) (hk269 : ∀ (y1 : Int32) (y2 : Int32) (y3 : Int32) (c2 : (Nat → Int32)) (c3 : (Nat → Int32)) (H : Heap) (locs : List Loc) (ls : Array Slot), va_P (dC, dI) vwCl (wX11_spread h0 h1 h2 h3 kc1 kc2 kc3 V0 v0_rules c1 c2 c3) H → va_D A (wX11_spread h0 h1 h2 h3 kc1 kc2 kc3 V0 v0_rules c1 c2 c3) → va_S A s.heap H locs → lv_has ls 9 [(0, .ref h0), (1, .int y1), (2, .int y2), (3, .int y3)] → k269 y1 y2 y3 c2 c3 = some o → G 0 0 H locs (F0 m 269 ls [])) (n : Nat), ∀ (y1 : Int32) (y2 : Int32) (y3 : Int32) (y4 : Int32) (c2 : (Nat → Int32)) (c3 : (Nat → Int32)) (H : Heap) (locs : List Loc) (ls : Array Slot), va_P (dC, dI) vwCl (wX11_spread h0 h1 h2 h3 kc1 kc2 kc3 V0 v0_rules c1 c2 c3) H → va_D A (wX11_spread h0 h1 h2 h3 kc1 kc2 kc3 V0 v0_rules c1 c2 c3) → va_S A s.heap H locs → lv_has ls 9 [(0, .ref h0), (1, .int y1), (2, .int y2), (3, .int y3), (4, .int y4)] → fX11_spread_l278 v0_rules c1 k261 k269 n y1 y2 y3 y4 c2 c3 = some o → G 0 0 H locs (F0 m 278 ls []) := by
    intro k261 hk261 k269 hk269 n
    induction n with
    | zero => intro y1 y2 y3 y4 c2 c3 H locs ls _ _ _ _ hf; cases hf
    | succ n ih => exact B278 k261 hk261 k269 hk269 _ ih
  have B269 : ∀ (k261 : Int32 → Int32 → (Nat → Int32) → (Nat → Int32) → Option (Int32 × (Nat → Int32) × (Nat → Int32))) (hk261 : ∀ (y1 : Int32) (y2 : Int32) (c2 : (Nat → Int32)) (c3 : (Nat → Int32)) (H : Heap) (locs : List Loc) (ls : Array Slot), va_P (dC, dI) vwCl (wX11_spread h0 h1 h2 h3 kc1 kc2 kc3 V0 v0_rules c1 c2 c3) H → va_D A (wX11_spread h0 h1 h2 h3 kc1 kc2 kc3 V0 v0_rules c1 c2 c3) → va_S A s.heap H locs → lv_has ls 9 [(0, .ref h0), (1, .int y1), (2, .int y2)] → k261 y1 y2 c2 c3 = some o → G 0 0 H locs (F0 m 261 ls [])) (k269 : Int32 → Int32 → Int32 → (Nat → Int32) → (Nat → Int32) → Option (Int32 × (Nat → Int32) × (Nat → Int32))) (hk269 : ∀ (y1 : Int32) (y2 : Int32) (y3 : Int32) (c2 : (Nat → Int32)) (c3 : (Nat → Int32)) (H : Heap) (locs : List Loc) (ls : Array Slot), va_P (dC, dI) vwCl (wX11_spread h0 h1 h2 h3 kc1 kc2 kc3 V0 v0_rules c1 c2 c3) H → va_D A (wX11_spread h0 h1 h2 h3 kc1 kc2 kc3 V0 v0_rules c1 c2 c3) → va_S A s.heap H locs → lv_has ls 9 [(0, .ref h0), (1, .int y1), (2, .int y2), (3, .int y3)] → k269 y1 y2 y3 c2 c3 = some o → G 0 0 H locs (F0 m 269 ls [])), ∀ (y1 : Int32) (y2 : Int32) (y3 : Int32) (c2 : (Nat → Int32)) (c3 : (Nat → Int32)) (H : Heap) (locs : List Loc) (ls : Array Slot), va_P (dC, dI) vwCl (wX11_spread h0 h1 h2 h3 kc1 kc2 kc3 V0 v0_rules c1 c2 c3) H → va_D A (wX11_spread h0 h1 h2 h3 kc1 kc2 kc3 V0 v0_rules c1 c2 c3) → va_S A s.heap H locs → lv_has ls 9 [(0, .ref h0), (1, .int y1), (2, .int y2), (3, .int y3)] → fX11_spread_b269 v0_rules c1 k261 k269 y1 y2 y3 c2 c3 = some o → G 0 0 H locs (F0 m 269 ls []) := by
    intro k261 hk261 k269 hk269 y1 y2 y3 c2 c3 H locs ls hP hD hS hl hf
    refine (hG _ _ _ _ _).mpr ?_
    unfold fX11_spread_b269 at hf
    refine lv_iload_n hx hb dX11_spread_269 rfl (lv_at hl 3 rfl) ?_
    refine lv_bipush (v := 112) hx hb dX11_spread_270 (by decide +kernel) ?_
    refine lv_icmp_ge (tgt := 441) hx hb dX11_spread_272 (by decide) (fun cq43 => ?_) (fun cq43 => ?_)
    · replace hf := if_at hf cq43
      obtain ⟨x44, e44⟩ : ∃ y : Int32, y = y2 + 1 := ⟨_, rfl⟩
      replace hf := nm_at hf e44
      refine lv_iinc (v := x44) (lv' := [(2, .int x44), (0, .ref h0), (1, .int y1), (3, .int y3)]) hx hb dX11_spread_441 hl (k := 2) rfl (by rw [e44]; rfl) (by decide) rfl (fun ls hl => ?_)
      refine lv_goto (tgt := 261) hx hb dX11_spread_444 (by decide) ?_
      exact (hG _ _ _ _ _).mp (hk261 y1 x44 c2 c3 H locs ls (hP.sub [0, 1, 2, 3] rfl) (hD.sub [0, 1, 2, 3] (by decide) rfl) hS (lv_sub hl [1, 2, 0] rfl) hf)
    · replace hf := if_no hf cq43
      refine lv_iconst (v := 0) hx hb dX11_spread_275 (by decide +kernel) ?_
      refine lv_istore (lv' := [(4, .int 0), (0, .ref h0), (1, .int y1), (2, .int y2), (3, .int y3)]) hx hb dX11_spread_276 hl (by decide) rfl (fun ls hl => ?_)
      exact (hG _ _ _ _ _).mp (L278 k261 hk261 k269 hk269 FU y1 y2 y3 0 c2 c3 H locs ls (hP.sub [0, 1, 2, 3] rfl) (hD.sub [0, 1, 2, 3] (by decide) rfl) hS (lv_sub hl [1, 2, 3, 4, 0] rfl) hf)
  have L269 : ∀ (k261 : Int32 → Int32 → (Nat → Int32) → (Nat → Int32) → Option (Int32 × (Nat → Int32) × (Nat → Int32))) (hk261 : ∀ (y1 : Int32) (y2 : Int32) (c2 : (Nat → Int32)) (c3 : (Nat → Int32)) (H : Heap) (locs : List Loc) (ls : Array Slot), va_P (dC, dI) vwCl (wX11_spread h0 h1 h2 h3 kc1 kc2 kc3 V0 v0_rules c1 c2 c3) H → va_D A (wX11_spread h0 h1 h2 h3 kc1 kc2 kc3 V0 v0_rules c1 c2 c3) → va_S A s.heap H locs → lv_has ls 9 [(0, .ref h0), (1, .int y1), (2, .int y2)] → k261 y1 y2 c2 c3 = some o → G 0 0 H locs (F0 m 261 ls [])) (n : Nat), ∀ (y1 : Int32) (y2 : Int32) (y3 : Int32) (c2 : (Nat → Int32)) (c3 : (Nat → Int32)) (H : Heap) (locs : List Loc) (ls : Array Slot), va_P (dC, dI) vwCl (wX11_spread h0 h1 h2 h3 kc1 kc2 kc3 V0 v0_rules c1 c2 c3) H → va_D A (wX11_spread h0 h1 h2 h3 kc1 kc2 kc3 V0 v0_rules c1 c2 c3) → va_S A s.heap H locs → lv_has ls 9 [(0, .ref h0), (1, .int y1), (2, .int y2), (3, .int y3)] → fX11_spread_l269 v0_rules c1 k261 n y1 y2 y3 c2 c3 = some o → G 0 0 H locs (F0 m 269 ls []) := by
    intro k261 hk261 n
    induction n with
    | zero => intro y1 y2 y3 c2 c3 H locs ls _ _ _ _ hf; cases hf
    | succ n ih => exact B269 k261 hk261 _ ih
  have B261 : ∀ (k261 : Int32 → Int32 → (Nat → Int32) → (Nat → Int32) → Option (Int32 × (Nat → Int32) × (Nat → Int32))) (hk261 : ∀ (y1 : Int32) (y2 : Int32) (c2 : (Nat → Int32)) (c3 : (Nat → Int32)) (H : Heap) (locs : List Loc) (ls : Array Slot), va_P (dC, dI) vwCl (wX11_spread h0 h1 h2 h3 kc1 kc2 kc3 V0 v0_rules c1 c2 c3) H → va_D A (wX11_spread h0 h1 h2 h3 kc1 kc2 kc3 V0 v0_rules c1 c2 c3) → va_S A s.heap H locs → lv_has ls 9 [(0, .ref h0), (1, .int y1), (2, .int y2)] → k261 y1 y2 c2 c3 = some o → G 0 0 H locs (F0 m 261 ls [])), ∀ (y1 : Int32) (y2 : Int32) (c2 : (Nat → Int32)) (c3 : (Nat → Int32)) (H : Heap) (locs : List Loc) (ls : Array Slot), va_P (dC, dI) vwCl (wX11_spread h0 h1 h2 h3 kc1 kc2 kc3 V0 v0_rules c1 c2 c3) H → va_D A (wX11_spread h0 h1 h2 h3 kc1 kc2 kc3 V0 v0_rules c1 c2 c3) → va_S A s.heap H locs → lv_has ls 9 [(0, .ref h0), (1, .int y1), (2, .int y2)] → fX11_spread_b261 v0_rules c1  k261 y1 y2 c2 c3 = some o → G 0 0 H locs (F0 m 261 ls []) := by
    intro  k261 hk261 y1 y2 c2 c3 H locs ls hP hD hS hl hf
    refine (hG _ _ _ _ _).mpr ?_
    unfold fX11_spread_b261 at hf
    refine lv_iload_n hx hb dX11_spread_261 rfl (lv_at hl 2 rfl) ?_
    refine lv_bipush (v := 8) hx hb dX11_spread_262 (by decide +kernel) ?_
    refine lv_icmp_ge (tgt := 447) hx hb dX11_spread_264 (by decide) (fun cq45 => ?_) (fun cq45 => ?_)
    · replace hf := if_at hf cq45
      refine lv_iload_n hx hb dX11_spread_447 rfl (lv_at hl 1 rfl) ?_
      have b46 := bd_b hf
      replace hf := bd_k hf
      have hf1 := Option.some.inj hf
      subst hf1
      have hP9 := hP.sub (ws' := (wX11_spread h0 h1 h2 h3 kc1 kc2 kc3 V0 v0_rules c1 c2 c3)) [0, 1, 2, 3] rfl
      have hD9 := hD.sub (ws' := (wX11_spread h0 h1 h2 h3 kc1 kc2 kc3 V0 v0_rules c1 c2 c3)) [0, 1, 2, 3] (by decide) rfl
      exact W.zret (v := y1) (ty := .boolean) hx hb hr (bz_nar b46) (fun t ht hW => ⟨⟨y1, (c2, c3), rfl, ⟨rfl, rfl⟩, by rw [ht]; exact hP9, va_K.moved hW.alike hK, hD9⟩, hS.F ht⟩) hS.2.2 dX11_spread_448
    · replace hf := if_no hf cq45
      refine lv_iconst (v := 0) hx hb dX11_spread_267 (by decide +kernel) ?_
      refine lv_istore_n (lv' := [(3, .int 0), (0, .ref h0), (1, .int y1), (2, .int y2)]) hx hb dX11_spread_268 rfl hl (by decide) rfl (fun ls hl => ?_)
      exact (hG _ _ _ _ _).mp (L269 k261 hk261 FU y1 y2 0 c2 c3 H locs ls (hP.sub [0, 1, 2, 3] rfl) (hD.sub [0, 1, 2, 3] (by decide) rfl) hS (lv_sub hl [1, 2, 3, 0] rfl) hf)
  have L261 : ∀ (n : Nat), ∀ (y1 : Int32) (y2 : Int32) (c2 : (Nat → Int32)) (c3 : (Nat → Int32)) (H : Heap) (locs : List Loc) (ls : Array Slot), va_P (dC, dI) vwCl (wX11_spread h0 h1 h2 h3 kc1 kc2 kc3 V0 v0_rules c1 c2 c3) H → va_D A (wX11_spread h0 h1 h2 h3 kc1 kc2 kc3 V0 v0_rules c1 c2 c3) → va_S A s.heap H locs → lv_has ls 9 [(0, .ref h0), (1, .int y1), (2, .int y2)] → fX11_spread_l261 v0_rules c1  n y1 y2 c2 c3 = some o → G 0 0 H locs (F0 m 261 ls []) := by
    intro  n
    induction n with
    | zero => intro y1 y2 c2 c3 H locs ls _ _ _ _ hf; cases hf
    | succ n ih => exact B261  _ ih
  have J247 : ∀ (k4 : Int32 → Int32 → (Nat → Int32) → (Nat → Int32) → Option (Int32 × (Nat → Int32) × (Nat → Int32))) (hk4 : ∀ (y1 : Int32) (y2 : Int32) (c2 : (Nat → Int32)) (c3 : (Nat → Int32)) (H : Heap) (locs : List Loc) (ls : Array Slot), va_P (dC, dI) vwCl (wX11_spread h0 h1 h2 h3 kc1 kc2 kc3 V0 v0_rules c1 c2 c3) H → va_D A (wX11_spread h0 h1 h2 h3 kc1 kc2 kc3 V0 v0_rules c1 c2 c3) → va_S A s.heap H locs → lv_has ls 9 [(0, .ref h0), (1, .int y1), (2, .int y2)] → k4 y1 y2 c2 c3 = some o → G 0 0 H locs (F0 m 4 ls [])) (k30 : Int32 → Int32 → Int32 → Int32 → Int32 → (Nat → Int32) → (Nat → Int32) → Option (Int32 × (Nat → Int32) × (Nat → Int32))) (hk30 : ∀ (y1 : Int32) (y2 : Int32) (y3 : Int32) (y4 : Int32) (y5 : Int32) (c2 : (Nat → Int32)) (c3 : (Nat → Int32)) (H : Heap) (locs : List Loc) (ls : Array Slot), va_P (dC, dI) vwCl (wX11_spread h0 h1 h2 h3 kc1 kc2 kc3 V0 v0_rules c1 c2 c3) H → va_D A (wX11_spread h0 h1 h2 h3 kc1 kc2 kc3 V0 v0_rules c1 c2 c3) → va_S A s.heap H locs → lv_has ls 9 [(0, .ref h0), (1, .int y1), (2, .int y2), (3, .int y3), (4, .int y4), (5, .int y5)] → k30 y1 y2 y3 y4 y5 c2 c3 = some o → G 0 0 H locs (F0 m 30 ls [])), ∀ (y1 : Int32) (y2 : Int32) (y3 : Int32) (y4 : Int32) (y5 : Int32) (c2 : (Nat → Int32)) (c3 : (Nat → Int32)) (H : Heap) (locs : List Loc) (ls : Array Slot), va_P (dC, dI) vwCl (wX11_spread h0 h1 h2 h3 kc1 kc2 kc3 V0 v0_rules c1 c2 c3) H → va_D A (wX11_spread h0 h1 h2 h3 kc1 kc2 kc3 V0 v0_rules c1 c2 c3) → va_S A s.heap H locs → lv_has ls 9 [(0, .ref h0), (1, .int y1), (2, .int y2), (3, .int y3), (4, .int y4), (5, .int y5)] → fX11_spread_p247 v0_rules c1 k4 k30 y1 y2 y3 y4 y5 c2 c3 = some o → G 0 0 H locs (F0 m 247 ls []) := by
    intro k4 hk4 k30 hk30 y1 y2 y3 y4 y5 c2 c3 H locs ls hP hD hS hl hf
    refine (hG _ _ _ _ _).mpr ?_
    unfold fX11_spread_p247 at hf
    obtain ⟨x47, e47⟩ : ∃ y : Int32, y = y5 + 1 := ⟨_, rfl⟩
    replace hf := nm_at hf e47
    refine lv_iinc (v := x47) (lv' := [(5, .int x47), (0, .ref h0), (1, .int y1), (2, .int y2), (3, .int y3), (4, .int y4)]) hx hb dX11_spread_247 hl (k := 5) rfl (by rw [e47]; rfl) (by decide) rfl (fun ls hl => ?_)
    refine lv_goto (tgt := 30) hx hb dX11_spread_250 (by decide) ?_
    exact (hG _ _ _ _ _).mp (hk30 y1 y2 y3 y4 x47 c2 c3 H locs ls (hP.sub [0, 1, 2, 3] rfl) (hD.sub [0, 1, 2, 3] (by decide) rfl) hS (lv_sub hl [1, 2, 3, 4, 5, 0] rfl) hf)
  have J246 : ∀ (k4 : Int32 → Int32 → (Nat → Int32) → (Nat → Int32) → Option (Int32 × (Nat → Int32) × (Nat → Int32))) (hk4 : ∀ (y1 : Int32) (y2 : Int32) (c2 : (Nat → Int32)) (c3 : (Nat → Int32)) (H : Heap) (locs : List Loc) (ls : Array Slot), va_P (dC, dI) vwCl (wX11_spread h0 h1 h2 h3 kc1 kc2 kc3 V0 v0_rules c1 c2 c3) H → va_D A (wX11_spread h0 h1 h2 h3 kc1 kc2 kc3 V0 v0_rules c1 c2 c3) → va_S A s.heap H locs → lv_has ls 9 [(0, .ref h0), (1, .int y1), (2, .int y2)] → k4 y1 y2 c2 c3 = some o → G 0 0 H locs (F0 m 4 ls [])) (k30 : Int32 → Int32 → Int32 → Int32 → Int32 → (Nat → Int32) → (Nat → Int32) → Option (Int32 × (Nat → Int32) × (Nat → Int32))) (hk30 : ∀ (y1 : Int32) (y2 : Int32) (y3 : Int32) (y4 : Int32) (y5 : Int32) (c2 : (Nat → Int32)) (c3 : (Nat → Int32)) (H : Heap) (locs : List Loc) (ls : Array Slot), va_P (dC, dI) vwCl (wX11_spread h0 h1 h2 h3 kc1 kc2 kc3 V0 v0_rules c1 c2 c3) H → va_D A (wX11_spread h0 h1 h2 h3 kc1 kc2 kc3 V0 v0_rules c1 c2 c3) → va_S A s.heap H locs → lv_has ls 9 [(0, .ref h0), (1, .int y1), (2, .int y2), (3, .int y3), (4, .int y4), (5, .int y5)] → k30 y1 y2 y3 y4 y5 c2 c3 = some o → G 0 0 H locs (F0 m 30 ls [])), ∀ (y2 : Int32) (y3 : Int32) (y4 : Int32) (y5 : Int32) (z0 : Int32) (c2 : (Nat → Int32)) (c3 : (Nat → Int32)) (H : Heap) (locs : List Loc) (ls : Array Slot), va_P (dC, dI) vwCl (wX11_spread h0 h1 h2 h3 kc1 kc2 kc3 V0 v0_rules c1 c2 c3) H → va_D A (wX11_spread h0 h1 h2 h3 kc1 kc2 kc3 V0 v0_rules c1 c2 c3) → va_S A s.heap H locs → lv_has ls 9 [(0, .ref h0), (2, .int y2), (3, .int y3), (4, .int y4), (5, .int y5)] → fX11_spread_p246 v0_rules c1 k4 k30 y2 y3 y4 y5 z0 c2 c3 = some o → G 0 0 H locs (F0 m 246 ls [.int z0]) := by
    intro k4 hk4 k30 hk30 y2 y3 y4 y5 z0 c2 c3 H locs ls hP hD hS hl hf
    refine (hG _ _ _ _ _).mpr ?_
    unfold fX11_spread_p246 at hf
    refine lv_istore_n (lv' := [(1, .int z0), (0, .ref h0), (2, .int y2), (3, .int y3), (4, .int y4), (5, .int y5)]) hx hb dX11_spread_246 rfl hl (by decide) rfl (fun ls hl => ?_)
    exact (hG _ _ _ _ _).mp (J247 k4 hk4 k30 hk30 z0 y2 y3 y4 y5 c2 c3 H locs ls (hP.sub [0, 1, 2, 3] rfl) (hD.sub [0, 1, 2, 3] (by decide) rfl) hS (lv_sub hl [1, 0, 2, 3, 4, 5] rfl) hf)
  have J241 : ∀ (k4 : Int32 → Int32 → (Nat → Int32) → (Nat → Int32) → Option (Int32 × (Nat → Int32) × (Nat → Int32))) (hk4 : ∀ (y1 : Int32) (y2 : Int32) (c2 : (Nat → Int32)) (c3 : (Nat → Int32)) (H : Heap) (locs : List Loc) (ls : Array Slot), va_P (dC, dI) vwCl (wX11_spread h0 h1 h2 h3 kc1 kc2 kc3 V0 v0_rules c1 c2 c3) H → va_D A (wX11_spread h0 h1 h2 h3 kc1 kc2 kc3 V0 v0_rules c1 c2 c3) → va_S A s.heap H locs → lv_has ls 9 [(0, .ref h0), (1, .int y1), (2, .int y2)] → k4 y1 y2 c2 c3 = some o → G 0 0 H locs (F0 m 4 ls [])) (k30 : Int32 → Int32 → Int32 → Int32 → Int32 → (Nat → Int32) → (Nat → Int32) → Option (Int32 × (Nat → Int32) × (Nat → Int32))) (hk30 : ∀ (y1 : Int32) (y2 : Int32) (y3 : Int32) (y4 : Int32) (y5 : Int32) (c2 : (Nat → Int32)) (c3 : (Nat → Int32)) (H : Heap) (locs : List Loc) (ls : Array Slot), va_P (dC, dI) vwCl (wX11_spread h0 h1 h2 h3 kc1 kc2 kc3 V0 v0_rules c1 c2 c3) H → va_D A (wX11_spread h0 h1 h2 h3 kc1 kc2 kc3 V0 v0_rules c1 c2 c3) → va_S A s.heap H locs → lv_has ls 9 [(0, .ref h0), (1, .int y1), (2, .int y2), (3, .int y3), (4, .int y4), (5, .int y5)] → k30 y1 y2 y3 y4 y5 c2 c3 = some o → G 0 0 H locs (F0 m 30 ls [])), ∀ (y2 : Int32) (y3 : Int32) (y4 : Int32) (y5 : Int32) (c2 : (Nat → Int32)) (c3 : (Nat → Int32)) (H : Heap) (locs : List Loc) (ls : Array Slot), va_P (dC, dI) vwCl (wX11_spread h0 h1 h2 h3 kc1 kc2 kc3 V0 v0_rules c1 c2 c3) H → va_D A (wX11_spread h0 h1 h2 h3 kc1 kc2 kc3 V0 v0_rules c1 c2 c3) → va_S A s.heap H locs → lv_has ls 9 [(0, .ref h0), (2, .int y2), (3, .int y3), (4, .int y4), (5, .int y5)] → fX11_spread_p241 v0_rules c1 k4 k30 y2 y3 y4 y5 c2 c3 = some o → G 0 0 H locs (F0 m 241 ls []) := by
    intro k4 hk4 k30 hk30 y2 y3 y4 y5 c2 c3 H locs ls hP hD hS hl hf
    refine (hG _ _ _ _ _).mpr ?_
    unfold fX11_spread_p241 at hf
    refine lv_iconst (v := 1) hx hb dX11_spread_241 (by decide +kernel) ?_
    refine lv_goto (tgt := 246) hx hb dX11_spread_242 (by decide) ?_
    exact (hG _ _ _ _ _).mp (J246 k4 hk4 k30 hk30 y2 y3 y4 y5 1 c2 c3 H locs ls (hP.sub [0, 1, 2, 3] rfl) (hD.sub [0, 1, 2, 3] (by decide) rfl) hS (lv_sub hl [0, 1, 2, 3, 4] rfl) hf)
  have J168 : ∀ (k4 : Int32 → Int32 → (Nat → Int32) → (Nat → Int32) → Option (Int32 × (Nat → Int32) × (Nat → Int32))) (hk4 : ∀ (y1 : Int32) (y2 : Int32) (c2 : (Nat → Int32)) (c3 : (Nat → Int32)) (H : Heap) (locs : List Loc) (ls : Array Slot), va_P (dC, dI) vwCl (wX11_spread h0 h1 h2 h3 kc1 kc2 kc3 V0 v0_rules c1 c2 c3) H → va_D A (wX11_spread h0 h1 h2 h3 kc1 kc2 kc3 V0 v0_rules c1 c2 c3) → va_S A s.heap H locs → lv_has ls 9 [(0, .ref h0), (1, .int y1), (2, .int y2)] → k4 y1 y2 c2 c3 = some o → G 0 0 H locs (F0 m 4 ls [])) (k30 : Int32 → Int32 → Int32 → Int32 → Int32 → (Nat → Int32) → (Nat → Int32) → Option (Int32 × (Nat → Int32) × (Nat → Int32))) (hk30 : ∀ (y1 : Int32) (y2 : Int32) (y3 : Int32) (y4 : Int32) (y5 : Int32) (c2 : (Nat → Int32)) (c3 : (Nat → Int32)) (H : Heap) (locs : List Loc) (ls : Array Slot), va_P (dC, dI) vwCl (wX11_spread h0 h1 h2 h3 kc1 kc2 kc3 V0 v0_rules c1 c2 c3) H → va_D A (wX11_spread h0 h1 h2 h3 kc1 kc2 kc3 V0 v0_rules c1 c2 c3) → va_S A s.heap H locs → lv_has ls 9 [(0, .ref h0), (1, .int y1), (2, .int y2), (3, .int y3), (4, .int y4), (5, .int y5)] → k30 y1 y2 y3 y4 y5 c2 c3 = some o → G 0 0 H locs (F0 m 30 ls [])), ∀ (y2 : Int32) (y3 : Int32) (y4 : Int32) (y5 : Int32) (z0 : Int32) (c2 : (Nat → Int32)) (c3 : (Nat → Int32)) (H : Heap) (locs : List Loc) (ls : Array Slot), va_P (dC, dI) vwCl (wX11_spread h0 h1 h2 h3 kc1 kc2 kc3 V0 v0_rules c1 c2 c3) H → va_D A (wX11_spread h0 h1 h2 h3 kc1 kc2 kc3 V0 v0_rules c1 c2 c3) → va_S A s.heap H locs → lv_has ls 9 [(0, .ref h0), (2, .int y2), (3, .int y3), (4, .int y4), (5, .int y5)] → fX11_spread_p168 v0_rules c1 k4 k30 y2 y3 y4 y5 z0 c2 c3 = some o → G 0 0 H locs (F0 m 168 ls [.int z0]) := by
    intro k4 hk4 k30 hk30 y2 y3 y4 y5 z0 c2 c3 H locs ls hP hD hS hl hf
    refine (hG _ _ _ _ _).mpr ?_
    unfold fX11_spread_p168 at hf
    refine lv_istore_n (lv' := [(1, .int z0), (0, .ref h0), (2, .int y2), (3, .int y3), (4, .int y4), (5, .int y5)]) hx hb dX11_spread_168 rfl hl (by decide) rfl (fun ls hl => ?_)
    refine lv_goto (tgt := 247) hx hb dX11_spread_169 (by decide) ?_
    exact (hG _ _ _ _ _).mp (J247 k4 hk4 k30 hk30 z0 y2 y3 y4 y5 c2 c3 H locs ls (hP.sub [0, 1, 2, 3] rfl) (hD.sub [0, 1, 2, 3] (by decide) rfl) hS (lv_sub hl [1, 0, 2, 3, 4, 5] rfl) hf)
  have J163 : ∀ (k4 : Int32 → Int32 → (Nat → Int32) → (Nat → Int32) → Option (Int32 × (Nat → Int32) × (Nat → Int32))) (hk4 : ∀ (y1 : Int32) (y2 : Int32) (c2 : (Nat → Int32)) (c3 : (Nat → Int32)) (H : Heap) (locs : List Loc) (ls : Array Slot), va_P (dC, dI) vwCl (wX11_spread h0 h1 h2 h3 kc1 kc2 kc3 V0 v0_rules c1 c2 c3) H → va_D A (wX11_spread h0 h1 h2 h3 kc1 kc2 kc3 V0 v0_rules c1 c2 c3) → va_S A s.heap H locs → lv_has ls 9 [(0, .ref h0), (1, .int y1), (2, .int y2)] → k4 y1 y2 c2 c3 = some o → G 0 0 H locs (F0 m 4 ls [])) (k30 : Int32 → Int32 → Int32 → Int32 → Int32 → (Nat → Int32) → (Nat → Int32) → Option (Int32 × (Nat → Int32) × (Nat → Int32))) (hk30 : ∀ (y1 : Int32) (y2 : Int32) (y3 : Int32) (y4 : Int32) (y5 : Int32) (c2 : (Nat → Int32)) (c3 : (Nat → Int32)) (H : Heap) (locs : List Loc) (ls : Array Slot), va_P (dC, dI) vwCl (wX11_spread h0 h1 h2 h3 kc1 kc2 kc3 V0 v0_rules c1 c2 c3) H → va_D A (wX11_spread h0 h1 h2 h3 kc1 kc2 kc3 V0 v0_rules c1 c2 c3) → va_S A s.heap H locs → lv_has ls 9 [(0, .ref h0), (1, .int y1), (2, .int y2), (3, .int y3), (4, .int y4), (5, .int y5)] → k30 y1 y2 y3 y4 y5 c2 c3 = some o → G 0 0 H locs (F0 m 30 ls [])), ∀ (y2 : Int32) (y3 : Int32) (y4 : Int32) (y5 : Int32) (c2 : (Nat → Int32)) (c3 : (Nat → Int32)) (H : Heap) (locs : List Loc) (ls : Array Slot), va_P (dC, dI) vwCl (wX11_spread h0 h1 h2 h3 kc1 kc2 kc3 V0 v0_rules c1 c2 c3) H → va_D A (wX11_spread h0 h1 h2 h3 kc1 kc2 kc3 V0 v0_rules c1 c2 c3) → va_S A s.heap H locs → lv_has ls 9 [(0, .ref h0), (2, .int y2), (3, .int y3), (4, .int y4), (5, .int y5)] → fX11_spread_p163 v0_rules c1 k4 k30 y2 y3 y4 y5 c2 c3 = some o → G 0 0 H locs (F0 m 163 ls []) := by
    intro k4 hk4 k30 hk30 y2 y3 y4 y5 c2 c3 H locs ls hP hD hS hl hf
    refine (hG _ _ _ _ _).mpr ?_
    unfold fX11_spread_p163 at hf
    refine lv_iconst (v := 1) hx hb dX11_spread_163 (by decide +kernel) ?_
    refine lv_goto (tgt := 168) hx hb dX11_spread_164 (by decide) ?_
    exact (hG _ _ _ _ _).mp (J168 k4 hk4 k30 hk30 y2 y3 y4 y5 1 c2 c3 H locs ls (hP.sub [0, 1, 2, 3] rfl) (hD.sub [0, 1, 2, 3] (by decide) rfl) hS (lv_sub hl [0, 1, 2, 3, 4] rfl) hf)
  have J106 : ∀ (k4 : Int32 → Int32 → (Nat → Int32) → (Nat → Int32) → Option (Int32 × (Nat → Int32) × (Nat → Int32))) (hk4 : ∀ (y1 : Int32) (y2 : Int32) (c2 : (Nat → Int32)) (c3 : (Nat → Int32)) (H : Heap) (locs : List Loc) (ls : Array Slot), va_P (dC, dI) vwCl (wX11_spread h0 h1 h2 h3 kc1 kc2 kc3 V0 v0_rules c1 c2 c3) H → va_D A (wX11_spread h0 h1 h2 h3 kc1 kc2 kc3 V0 v0_rules c1 c2 c3) → va_S A s.heap H locs → lv_has ls 9 [(0, .ref h0), (1, .int y1), (2, .int y2)] → k4 y1 y2 c2 c3 = some o → G 0 0 H locs (F0 m 4 ls [])) (k30 : Int32 → Int32 → Int32 → Int32 → Int32 → (Nat → Int32) → (Nat → Int32) → Option (Int32 × (Nat → Int32) × (Nat → Int32))) (hk30 : ∀ (y1 : Int32) (y2 : Int32) (y3 : Int32) (y4 : Int32) (y5 : Int32) (c2 : (Nat → Int32)) (c3 : (Nat → Int32)) (H : Heap) (locs : List Loc) (ls : Array Slot), va_P (dC, dI) vwCl (wX11_spread h0 h1 h2 h3 kc1 kc2 kc3 V0 v0_rules c1 c2 c3) H → va_D A (wX11_spread h0 h1 h2 h3 kc1 kc2 kc3 V0 v0_rules c1 c2 c3) → va_S A s.heap H locs → lv_has ls 9 [(0, .ref h0), (1, .int y1), (2, .int y2), (3, .int y3), (4, .int y4), (5, .int y5)] → k30 y1 y2 y3 y4 y5 c2 c3 = some o → G 0 0 H locs (F0 m 30 ls [])), ∀ (y2 : Int32) (y3 : Int32) (y4 : Int32) (y5 : Int32) (z0 : Int32) (c2 : (Nat → Int32)) (c3 : (Nat → Int32)) (H : Heap) (locs : List Loc) (ls : Array Slot), va_P (dC, dI) vwCl (wX11_spread h0 h1 h2 h3 kc1 kc2 kc3 V0 v0_rules c1 c2 c3) H → va_D A (wX11_spread h0 h1 h2 h3 kc1 kc2 kc3 V0 v0_rules c1 c2 c3) → va_S A s.heap H locs → lv_has ls 9 [(0, .ref h0), (2, .int y2), (3, .int y3), (4, .int y4), (5, .int y5)] → fX11_spread_p106 v0_rules c1 k4 k30 y2 y3 y4 y5 z0 c2 c3 = some o → G 0 0 H locs (F0 m 106 ls [.int z0]) := by
    intro k4 hk4 k30 hk30 y2 y3 y4 y5 z0 c2 c3 H locs ls hP hD hS hl hf
    refine (hG _ _ _ _ _).mpr ?_
    unfold fX11_spread_p106 at hf
    refine lv_istore_n (lv' := [(1, .int z0), (0, .ref h0), (2, .int y2), (3, .int y3), (4, .int y4), (5, .int y5)]) hx hb dX11_spread_106 rfl hl (by decide) rfl (fun ls hl => ?_)
    refine lv_aload_n hx hb dX11_spread_107 rfl (lv_at hl 1 rfl) ?_
    refine va_get (D := (dC, dI)) (ci := 11) (v := .ref h3) (C := RX11) (T := TX11) (N := 71) hx hb hts inlX11 hown hK hP 0 rfl rfl 16 (by decide) w0_ (fun _ h9 => h9) rfl dX11_spread_108 ?_
    refine lv_bipush (v := 112) hx hb dX11_spread_111 (by decide +kernel) ?_
    refine lv_iload hx hb dX11_spread_113 (lv_at hl 4 rfl) ?_
    refine lv_imul hx hb dX11_spread_115 ?_
    refine lv_topi (fun x48 e48 => ?_)
    replace hf := nm_at hf e48
    refine lv_iload hx hb dX11_spread_116 (lv_at hl 5 rfl) ?_
    refine lv_iadd hx hb dX11_spread_118 ?_
    refine lv_topi (fun x49 e49 => ?_)
    replace hf := nm_at hf e49
    refine lv_iconst (v := 1) hx hb dX11_spread_119 (by decide +kernel) ?_
    have b50 := bd_in hf
    replace hf := bd_k hf
    obtain ⟨c50x, e50⟩ : ∃ y, y = upd c3 x49.toNatClampNeg (vp_nar .boolean 1) := ⟨_, rfl⟩
    replace hf := nm_at hf e50
    refine va_zast hx hb hK hP hD hS 3 2 rfl rfl b50 dX11_spread_120 (fun H locs hP hD hS => ?_)
    have hP : va_P (dC, dI) vwCl (wX11_spread h0 h1 h2 h3 kc1 kc2 kc3 V0 v0_rules c1 c2 c50x) H := by rw [e50]; exact hP
    have hD : va_D A (wX11_spread h0 h1 h2 h3 kc1 kc2 kc3 V0 v0_rules c1 c2 c50x) := by rw [e50]; exact hD
    refine lv_goto (tgt := 247) hx hb dX11_spread_121 (by decide) ?_
    exact (hG _ _ _ _ _).mp (J247 k4 hk4 k30 hk30 z0 y2 y3 y4 y5 c2 c50x H locs ls (hP.sub [0, 1, 2, 3] rfl) (hD.sub [0, 1, 2, 3] (by decide) rfl) hS (lv_sub hl [1, 0, 2, 3, 4, 5] rfl) hf)
  have J101 : ∀ (k4 : Int32 → Int32 → (Nat → Int32) → (Nat → Int32) → Option (Int32 × (Nat → Int32) × (Nat → Int32))) (hk4 : ∀ (y1 : Int32) (y2 : Int32) (c2 : (Nat → Int32)) (c3 : (Nat → Int32)) (H : Heap) (locs : List Loc) (ls : Array Slot), va_P (dC, dI) vwCl (wX11_spread h0 h1 h2 h3 kc1 kc2 kc3 V0 v0_rules c1 c2 c3) H → va_D A (wX11_spread h0 h1 h2 h3 kc1 kc2 kc3 V0 v0_rules c1 c2 c3) → va_S A s.heap H locs → lv_has ls 9 [(0, .ref h0), (1, .int y1), (2, .int y2)] → k4 y1 y2 c2 c3 = some o → G 0 0 H locs (F0 m 4 ls [])) (k30 : Int32 → Int32 → Int32 → Int32 → Int32 → (Nat → Int32) → (Nat → Int32) → Option (Int32 × (Nat → Int32) × (Nat → Int32))) (hk30 : ∀ (y1 : Int32) (y2 : Int32) (y3 : Int32) (y4 : Int32) (y5 : Int32) (c2 : (Nat → Int32)) (c3 : (Nat → Int32)) (H : Heap) (locs : List Loc) (ls : Array Slot), va_P (dC, dI) vwCl (wX11_spread h0 h1 h2 h3 kc1 kc2 kc3 V0 v0_rules c1 c2 c3) H → va_D A (wX11_spread h0 h1 h2 h3 kc1 kc2 kc3 V0 v0_rules c1 c2 c3) → va_S A s.heap H locs → lv_has ls 9 [(0, .ref h0), (1, .int y1), (2, .int y2), (3, .int y3), (4, .int y4), (5, .int y5)] → k30 y1 y2 y3 y4 y5 c2 c3 = some o → G 0 0 H locs (F0 m 30 ls [])), ∀ (y2 : Int32) (y3 : Int32) (y4 : Int32) (y5 : Int32) (c2 : (Nat → Int32)) (c3 : (Nat → Int32)) (H : Heap) (locs : List Loc) (ls : Array Slot), va_P (dC, dI) vwCl (wX11_spread h0 h1 h2 h3 kc1 kc2 kc3 V0 v0_rules c1 c2 c3) H → va_D A (wX11_spread h0 h1 h2 h3 kc1 kc2 kc3 V0 v0_rules c1 c2 c3) → va_S A s.heap H locs → lv_has ls 9 [(0, .ref h0), (2, .int y2), (3, .int y3), (4, .int y4), (5, .int y5)] → fX11_spread_p101 v0_rules c1 k4 k30 y2 y3 y4 y5 c2 c3 = some o → G 0 0 H locs (F0 m 101 ls []) := by
    intro k4 hk4 k30 hk30 y2 y3 y4 y5 c2 c3 H locs ls hP hD hS hl hf
    refine (hG _ _ _ _ _).mpr ?_
    unfold fX11_spread_p101 at hf
    refine lv_iconst (v := 1) hx hb dX11_spread_101 (by decide +kernel) ?_
    refine lv_goto (tgt := 106) hx hb dX11_spread_102 (by decide) ?_
    exact (hG _ _ _ _ _).mp (J106 k4 hk4 k30 hk30 y2 y3 y4 y5 1 c2 c3 H locs ls (hP.sub [0, 1, 2, 3] rfl) (hD.sub [0, 1, 2, 3] (by decide) rfl) hS (lv_sub hl [0, 1, 2, 3, 4] rfl) hf)
  have B30 : ∀ (k4 : Int32 → Int32 → (Nat → Int32) → (Nat → Int32) → Option (Int32 × (Nat → Int32) × (Nat → Int32))) (hk4 : ∀ (y1 : Int32) (y2 : Int32) (c2 : (Nat → Int32)) (c3 : (Nat → Int32)) (H : Heap) (locs : List Loc) (ls : Array Slot), va_P (dC, dI) vwCl (wX11_spread h0 h1 h2 h3 kc1 kc2 kc3 V0 v0_rules c1 c2 c3) H → va_D A (wX11_spread h0 h1 h2 h3 kc1 kc2 kc3 V0 v0_rules c1 c2 c3) → va_S A s.heap H locs → lv_has ls 9 [(0, .ref h0), (1, .int y1), (2, .int y2)] → k4 y1 y2 c2 c3 = some o → G 0 0 H locs (F0 m 4 ls [])) (k30 : Int32 → Int32 → Int32 → Int32 → Int32 → (Nat → Int32) → (Nat → Int32) → Option (Int32 × (Nat → Int32) × (Nat → Int32))) (hk30 : ∀ (y1 : Int32) (y2 : Int32) (y3 : Int32) (y4 : Int32) (y5 : Int32) (c2 : (Nat → Int32)) (c3 : (Nat → Int32)) (H : Heap) (locs : List Loc) (ls : Array Slot), va_P (dC, dI) vwCl (wX11_spread h0 h1 h2 h3 kc1 kc2 kc3 V0 v0_rules c1 c2 c3) H → va_D A (wX11_spread h0 h1 h2 h3 kc1 kc2 kc3 V0 v0_rules c1 c2 c3) → va_S A s.heap H locs → lv_has ls 9 [(0, .ref h0), (1, .int y1), (2, .int y2), (3, .int y3), (4, .int y4), (5, .int y5)] → k30 y1 y2 y3 y4 y5 c2 c3 = some o → G 0 0 H locs (F0 m 30 ls [])), ∀ (y1 : Int32) (y2 : Int32) (y3 : Int32) (y4 : Int32) (y5 : Int32) (c2 : (Nat → Int32)) (c3 : (Nat → Int32)) (H : Heap) (locs : List Loc) (ls : Array Slot), va_P (dC, dI) vwCl (wX11_spread h0 h1 h2 h3 kc1 kc2 kc3 V0 v0_rules c1 c2 c3) H → va_D A (wX11_spread h0 h1 h2 h3 kc1 kc2 kc3 V0 v0_rules c1 c2 c3) → va_S A s.heap H locs → lv_has ls 9 [(0, .ref h0), (1, .int y1), (2, .int y2), (3, .int y3), (4, .int y4), (5, .int y5)] → fX11_spread_b30 v0_rules c1 k4 k30 y1 y2 y3 y4 y5 c2 c3 = some o → G 0 0 H locs (F0 m 30 ls []) := by
    intro k4 hk4 k30 hk30 y1 y2 y3 y4 y5 c2 c3 H locs ls hP hD hS hl hf
    refine (hG _ _ _ _ _).mpr ?_
    unfold fX11_spread_b30 at hf
    refine lv_iload hx hb dX11_spread_30 (lv_at hl 5 rfl) ?_
    refine lv_bipush (v := 112) hx hb dX11_spread_32 (by decide +kernel) ?_
    refine lv_icmp_ge (tgt := 253) hx hb dX11_spread_34 (by decide) (fun cq51 => ?_) (fun cq51 => ?_)
    · replace hf := if_at hf cq51
      obtain ⟨x52, e52⟩ : ∃ y : Int32, y = y2 + 1 := ⟨_, rfl⟩
      replace hf := nm_at hf e52
      refine lv_iinc (v := x52) (lv' := [(2, .int x52), (0, .ref h0), (1, .int y1), (3, .int y3), (4, .int y4), (5, .int y5)]) hx hb dX11_spread_253 hl (k := 2) rfl (by rw [e52]; rfl) (by decide) rfl (fun ls hl => ?_)
      refine lv_goto (tgt := 4) hx hb dX11_spread_256 (by decide) ?_
      exact (hG _ _ _ _ _).mp (hk4 y1 x52 c2 c3 H locs ls (hP.sub [0, 1, 2, 3] rfl) (hD.sub [0, 1, 2, 3] (by decide) rfl) hS (lv_sub hl [1, 2, 0] rfl) hf)
    · replace hf := if_no hf cq51
      refine lv_aload_n hx hb dX11_spread_37 rfl (lv_at hl 0 rfl) ?_
      refine va_get (D := (dC, dI)) (ci := 11) (v := .ref h2) (C := RX11) (T := TX11) (N := 71) hx hb hts inlX11 hown hK hP 0 rfl rfl 15 (by decide) w1_ (fun _ h9 => h9) rfl dX11_spread_38 ?_
      refine lv_sipush (v := 1344) hx hb dX11_spread_41 (by decide +kernel) ?_
      refine lv_aload_n hx hb dX11_spread_44 rfl (lv_at hl 0 rfl) ?_
      refine va_get (D := (dC, dI)) (ci := 11) (v := .ref h1) (C := RX11) (T := TX11) (N := 71) hx hb hts inlX11 hown hK hP 0 rfl rfl 2 (by decide) w2_ (fun _ h9 => h9) rfl dX11_spread_45 ?_
      refine lv_iload_n hx hb dX11_spread_48 rfl (lv_at hl 3 rfl) ?_
      have b53 := bd_in hf
      replace hf := bd_k hf
      refine va_iald hx hb hK hP 1 0 rfl rfl b53 dX11_spread_49 ?_
      refine lv_topi (fun x54 e54 => ?_)
      replace hf := nm_at hf e54
      refine lv_imul hx hb dX11_spread_50 ?_
      refine lv_topi (fun x55 e55 => ?_)
      replace hf := nm_at hf e55
      refine lv_bipush (v := 112) hx hb dX11_spread_51 (by decide +kernel) ?_
      refine lv_aload_n hx hb dX11_spread_53 rfl (lv_at hl 0 rfl) ?_
      refine va_get (D := (dC, dI)) (ci := 11) (v := .ref h1) (C := RX11) (T := TX11) (N := 71) hx hb hts inlX11 hown hK hP 0 rfl rfl 2 (by decide) w2_ (fun _ h9 => h9) rfl dX11_spread_54 ?_
      refine lv_iload_n hx hb dX11_spread_57 rfl (lv_at hl 3 rfl) ?_
      refine lv_iconst (v := 1) hx hb dX11_spread_58 (by decide +kernel) ?_
      refine lv_iadd hx hb dX11_spread_59 ?_
      refine lv_topi (fun x56 e56 => ?_)
      replace hf := nm_at hf e56
      have b57 := bd_in hf
      replace hf := bd_k hf
      refine va_iald hx hb hK hP 1 0 rfl rfl b57 dX11_spread_60 ?_
      refine lv_topi (fun x58 e58 => ?_)
      replace hf := nm_at hf e58
      refine lv_imul hx hb dX11_spread_61 ?_
      refine lv_topi (fun x59 e59 => ?_)
      replace hf := nm_at hf e59
      refine lv_iadd hx hb dX11_spread_62 ?_
      refine lv_topi (fun x60 e60 => ?_)
      replace hf := nm_at hf e60
      refine lv_iload hx hb dX11_spread_63 (lv_at hl 5 rfl) ?_
      refine lv_iadd hx hb dX11_spread_65 ?_
      refine lv_topi (fun x61 e61 => ?_)
      replace hf := nm_at hf e61
      have b62 := bd_in hf
      replace hf := bd_k hf
      refine va_zald hx hb hK hP 2 1 rfl rfl b62 dX11_spread_66 ?_
      refine lv_topi (fun x63 e63 => ?_)
      replace hf := nm_at hf e63
      refine lv_if_eq (tgt := 247) hx hb dX11_spread_67 (by decide) (fun cq64 => ?_) (fun cq64 => ?_)
      · replace hf := if_at hf cq64
        exact (hG _ _ _ _ _).mp (J247 k4 hk4 k30 hk30 y1 y2 y3 y4 y5 c2 c3 H locs ls (hP.sub [0, 1, 2, 3] rfl) (hD.sub [0, 1, 2, 3] (by decide) rfl) hS (lv_sub hl [0, 1, 2, 3, 4, 5] rfl) hf)
      · replace hf := if_no hf cq64
        refine lv_aload_n hx hb dX11_spread_70 rfl (lv_at hl 0 rfl) ?_
        refine va_get (D := (dC, dI)) (ci := 11) (v := .ref h1) (C := RX11) (T := TX11) (N := 71) hx hb hts inlX11 hown hK hP 0 rfl rfl 2 (by decide) w2_ (fun _ h9 => h9) rfl dX11_spread_71 ?_
        refine lv_iload_n hx hb dX11_spread_74 rfl (lv_at hl 3 rfl) ?_
        refine lv_iconst (v := 3) hx hb dX11_spread_75 (by decide +kernel) ?_
        refine lv_iadd hx hb dX11_spread_76 ?_
        refine lv_topi (fun x65 e65 => ?_)
        replace hf := nm_at hf e65
        have b66 := bd_in hf
        replace hf := bd_k hf
        refine va_iald hx hb hK hP 1 0 rfl rfl b66 dX11_spread_77 ?_
        refine lv_topi (fun x67 e67 => ?_)
        replace hf := nm_at hf e67
        refine lv_if_ne (tgt := 124) hx hb dX11_spread_78 (by decide) (fun cq68 => ?_) (fun cq68 => ?_)
        · replace hf := if_no hf cq68
          refine lv_aload_n hx hb dX11_spread_124 rfl (lv_at hl 0 rfl) ?_
          refine va_get (D := (dC, dI)) (ci := 11) (v := .ref h1) (C := RX11) (T := TX11) (N := 71) hx hb hts inlX11 hown hK hP 0 rfl rfl 2 (by decide) w2_ (fun _ h9 => h9) rfl dX11_spread_125 ?_
          refine lv_iload_n hx hb dX11_spread_128 rfl (lv_at hl 3 rfl) ?_
          refine lv_iconst (v := 3) hx hb dX11_spread_129 (by decide +kernel) ?_
          refine lv_iadd hx hb dX11_spread_130 ?_
          refine lv_topi (fun x69 e69 => ?_)
          replace hf := nm_at hf e69
          have b70 := bd_in hf
          replace hf := bd_k hf
          refine va_iald hx hb hK hP 1 0 rfl rfl b70 dX11_spread_131 ?_
          refine lv_topi (fun x71 e71 => ?_)
          replace hf := nm_at hf e71
          refine lv_iconst (v := 1) hx hb dX11_spread_132 (by decide +kernel) ?_
          refine lv_icmp_ne (tgt := 172) hx hb dX11_spread_133 (by decide) (fun cq72 => ?_) (fun cq72 => ?_)
          · replace hf := if_no hf cq72
            refine lv_bipush (v := 16) hx hb dX11_spread_172 (by decide +kernel) ?_
            refine lv_bipush (v := 12) hx hb dX11_spread_174 (by decide +kernel) ?_
            refine lv_iload hx hb dX11_spread_176 (lv_at hl 4 rfl) ?_
            refine lv_imul hx hb dX11_spread_178 ?_
            refine lv_topi (fun x73 e73 => ?_)
            replace hf := nm_at hf e73
            refine lv_iadd hx hb dX11_spread_179 ?_
            refine lv_topi (fun x74 e74 => ?_)
            replace hf := nm_at hf e74
            refine lv_aload_n hx hb dX11_spread_180 rfl (lv_at hl 0 rfl) ?_
            refine va_get (D := (dC, dI)) (ci := 11) (v := .ref h1) (C := RX11) (T := TX11) (N := 71) hx hb hts inlX11 hown hK hP 0 rfl rfl 2 (by decide) w2_ (fun _ h9 => h9) rfl dX11_spread_181 ?_
            refine lv_iload_n hx hb dX11_spread_184 rfl (lv_at hl 3 rfl) ?_
            refine lv_iconst (v := 4) hx hb dX11_spread_185 (by decide +kernel) ?_
            refine lv_iadd hx hb dX11_spread_186 ?_
            refine lv_topi (fun x75 e75 => ?_)
            replace hf := nm_at hf e75
            have b76 := bd_in hf
            replace hf := bd_k hf
            refine va_iald hx hb hK hP 1 0 rfl rfl b76 dX11_spread_187 ?_
            refine lv_topi (fun x77 e77 => ?_)
            replace hf := nm_at hf e77
            refine lv_iadd hx hb dX11_spread_188 ?_
            refine lv_topi (fun x78 e78 => ?_)
            replace hf := nm_at hf e78
            refine lv_istore (lv' := [(6, .int x78), (0, .ref h0), (1, .int y1), (2, .int y2), (3, .int y3), (4, .int y4), (5, .int y5)]) hx hb dX11_spread_189 hl (by decide) rfl (fun ls hl => ?_)
            refine lv_aload_n hx hb dX11_spread_191 rfl (lv_at hl 1 rfl) ?_
            refine lv_iload hx hb dX11_spread_192 (lv_at hl 5 rfl) ?_
            refine lv_aload_n hx hb dX11_spread_194 rfl (lv_at hl 1 rfl) ?_
            refine va_get (D := (dC, dI)) (ci := 11) (v := .ref h1) (C := RX11) (T := TX11) (N := 71) hx hb hts inlX11 hown hK hP 0 rfl rfl 2 (by decide) w2_ (fun _ h9 => h9) rfl dX11_spread_195 ?_
            refine lv_iload_n hx hb dX11_spread_198 rfl (lv_at hl 4 rfl) ?_
            refine lv_iconst (v := 4) hx hb dX11_spread_199 (by decide +kernel) ?_
            refine lv_iadd hx hb dX11_spread_200 ?_
            refine lv_topi (fun x79 e79 => ?_)
            replace hf := nm_at hf e79
            have b80 := bd_in hf
            replace hf := bd_k hf
            refine va_iald hx hb hK hP 1 0 rfl rfl b80 dX11_spread_201 ?_
            refine lv_topi (fun x81 e81 => ?_)
            replace hf := nm_at hf e81
            refine lv_iload hx hb dX11_spread_202 (lv_at hl 0 rfl) ?_
            obtain ⟨o82, e82, hf⟩ := ob_some hf
            refine kVi (As := [.int y4, .int x81, .int x78]) (rest := []) ⟨hx, hb, hml, hown, hts⟩ (mX11_add l dC dI h0 h2 kc2 H.size base y4 x81 x78 c2 (fun k => match k with | 1 => .int v0_rules | 2 => .ref h1 | 16 => .ref h3 | k => V0 k) o82 e82) (cwV 3 hts (gTV q513 q514 q515 q5 q516) rfl rfl rfl (by decide +kernel) ⟨Nat.le_of_ble_eq_true rfl, Nat.le_of_ble_eq_true rfl⟩) hK hP hD hS hA hE hAB [0, 2] [1, 3] [1] (wr := [(h1, .inl (kc1, 288, .inl c1)), (h3, .inl (kc3, 896, .inl c3))]) rfl rfl (by decide) (by decide) (by decide) rfl (ci := 11) (q0 := 0) rfl rfl rfl rfl hl.1 rfl (Nat.le_of_ble_eq_true rfl) dX11_spread_204 ⟨Nat.zero_le _, Nat.zero_le _⟩ (fun r82 u82 H locs hw82 hP hD hS => ?_)
            obtain ⟨hw821, hw822⟩ := hw82
            subst hw821 hw822
            have hP : va_P (dC, dI) vwCl (wX11_spread h0 h1 h2 h3 kc1 kc2 kc3 V0 v0_rules c1 o82.2 c3) H := hP.sub [2, 0, 3, 1] rfl
            have hD : va_D A (wX11_spread h0 h1 h2 h3 kc1 kc2 kc3 V0 v0_rules c1 o82.2 c3) := hD.sub [2, 0, 3, 1] (by decide) rfl
            refine lv_istore (lv' := [(7, .int o82.1), (6, .int x78), (0, .ref h0), (1, .int y1), (2, .int y2), (3, .int y3), (4, .int y4), (5, .int y5)]) hx hb dX11_spread_207 hl (by decide) rfl (fun ls hl => ?_)
            refine lv_aload_n hx hb dX11_spread_209 rfl (lv_at hl 2 rfl) ?_
            refine lv_iload hx hb dX11_spread_210 (lv_at hl 1 rfl) ?_
            refine lv_aload_n hx hb dX11_spread_212 rfl (lv_at hl 2 rfl) ?_
            refine va_get (D := (dC, dI)) (ci := 11) (v := .ref h1) (C := RX11) (T := TX11) (N := 71) hx hb hts inlX11 hown hK hP 0 rfl rfl 2 (by decide) w2_ (fun _ h9 => h9) rfl dX11_spread_213 ?_
            refine lv_iload_n hx hb dX11_spread_216 rfl (lv_at hl 5 rfl) ?_
            refine lv_iconst (v := 5) hx hb dX11_spread_217 (by decide +kernel) ?_
            refine lv_iadd hx hb dX11_spread_218 ?_
            refine lv_topi (fun x83 e83 => ?_)
            replace hf := nm_at hf e83
            have b84 := bd_in hf
            replace hf := bd_k hf
            refine va_iald hx hb hK hP 1 0 rfl rfl b84 dX11_spread_219 ?_
            refine lv_topi (fun x85 e85 => ?_)
            replace hf := nm_at hf e85
            refine lv_iload hx hb dX11_spread_220 (lv_at hl 7 rfl) ?_
            obtain ⟨o86, e86, hf⟩ := ob_some hf
            refine kVi (As := [.int x78, .int x85, .int y5]) (rest := []) ⟨hx, hb, hml, hown, hts⟩ (mX11_add l dC dI h0 h2 kc2 H.size base x78 x85 y5 o82.2 (fun k => match k with | 1 => .int v0_rules | 2 => .ref h1 | 16 => .ref h3 | k => V0 k) o86 e86) (cwV 3 hts (gTV q513 q514 q515 q5 q516) rfl rfl rfl (by decide +kernel) ⟨Nat.le_of_ble_eq_true rfl, Nat.le_of_ble_eq_true rfl⟩) hK hP hD hS hA hE hAB [0, 2] [1, 3] [1] (wr := [(h1, .inl (kc1, 288, .inl c1)), (h3, .inl (kc3, 896, .inl c3))]) rfl rfl (by decide) (by decide) (by decide) rfl (ci := 11) (q0 := 0) rfl rfl rfl rfl hl.1 rfl (Nat.le_of_ble_eq_true rfl) dX11_spread_222 ⟨Nat.zero_le _, Nat.zero_le _⟩ (fun r86 u86 H locs hw86 hP hD hS => ?_)
            obtain ⟨hw861, hw862⟩ := hw86
            subst hw861 hw862
            have hP : va_P (dC, dI) vwCl (wX11_spread h0 h1 h2 h3 kc1 kc2 kc3 V0 v0_rules c1 o86.2 c3) H := hP.sub [2, 0, 3, 1] rfl
            have hD : va_D A (wX11_spread h0 h1 h2 h3 kc1 kc2 kc3 V0 v0_rules c1 o86.2 c3) := hD.sub [2, 0, 3, 1] (by decide) rfl
            refine lv_istore (lv' := [(8, .int o86.1), (7, .int o82.1), (6, .int x78), (0, .ref h0), (1, .int y1), (2, .int y2), (3, .int y3), (4, .int y4), (5, .int y5)]) hx hb dX11_spread_225 hl (by decide) rfl (fun ls hl => ?_)
            refine lv_iload_n hx hb dX11_spread_227 rfl (lv_at hl 4 rfl) ?_
            refine lv_if_ne (tgt := 241) hx hb dX11_spread_228 (by decide) (fun cq87 => ?_) (fun cq87 => ?_)
            · replace hf := if_no hf cq87
              exact (hG _ _ _ _ _).mp (J241 k4 hk4 k30 hk30 y2 y3 y4 y5 o86.2 c3 H locs ls (hP.sub [0, 1, 2, 3] rfl) (hD.sub [0, 1, 2, 3] (by decide) rfl) hS (lv_sub hl [3, 5, 6, 7, 8] rfl) hf)
            · replace hf := if_at hf cq87
              refine lv_iload hx hb dX11_spread_231 (lv_at hl 1 rfl) ?_
              refine lv_if_ne (tgt := 241) hx hb dX11_spread_233 (by decide) (fun cq88 => ?_) (fun cq88 => ?_)
              · replace hf := if_no hf cq88
                exact (hG _ _ _ _ _).mp (J241 k4 hk4 k30 hk30 y2 y3 y4 y5 o86.2 c3 H locs ls (hP.sub [0, 1, 2, 3] rfl) (hD.sub [0, 1, 2, 3] (by decide) rfl) hS (lv_sub hl [3, 5, 6, 7, 8] rfl) hf)
              · replace hf := if_at hf cq88
                refine lv_iload hx hb dX11_spread_236 (lv_at hl 0 rfl) ?_
                refine lv_if_eq (tgt := 245) hx hb dX11_spread_238 (by decide) (fun cq89 => ?_) (fun cq89 => ?_)
                · replace hf := if_at hf cq89
                  refine lv_iconst (v := 0) hx hb dX11_spread_245 (by decide +kernel) ?_
                  exact (hG _ _ _ _ _).mp (J246 k4 hk4 k30 hk30 y2 y3 y4 y5 0 o86.2 c3 H locs ls (hP.sub [0, 1, 2, 3] rfl) (hD.sub [0, 1, 2, 3] (by decide) rfl) hS (lv_sub hl [3, 5, 6, 7, 8] rfl) hf)
                · replace hf := if_no hf cq89
                  exact (hG _ _ _ _ _).mp (J241 k4 hk4 k30 hk30 y2 y3 y4 y5 o86.2 c3 H locs ls (hP.sub [0, 1, 2, 3] rfl) (hD.sub [0, 1, 2, 3] (by decide) rfl) hS (lv_sub hl [3, 5, 6, 7, 8] rfl) hf)
          · replace hf := if_at hf cq72
            refine lv_aload_n hx hb dX11_spread_136 rfl (lv_at hl 0 rfl) ?_
            refine lv_iload hx hb dX11_spread_137 (lv_at hl 4 rfl) ?_
            refine lv_aload_n hx hb dX11_spread_139 rfl (lv_at hl 0 rfl) ?_
            refine va_get (D := (dC, dI)) (ci := 11) (v := .ref h1) (C := RX11) (T := TX11) (N := 71) hx hb hts inlX11 hown hK hP 0 rfl rfl 2 (by decide) w2_ (fun _ h9 => h9) rfl dX11_spread_140 ?_
            refine lv_iload_n hx hb dX11_spread_143 rfl (lv_at hl 3 rfl) ?_
            refine lv_iconst (v := 4) hx hb dX11_spread_144 (by decide +kernel) ?_
            refine lv_iadd hx hb dX11_spread_145 ?_
            refine lv_topi (fun x90 e90 => ?_)
            replace hf := nm_at hf e90
            have b91 := bd_in hf
            replace hf := bd_k hf
            refine va_iald hx hb hK hP 1 0 rfl rfl b91 dX11_spread_146 ?_
            refine lv_topi (fun x92 e92 => ?_)
            replace hf := nm_at hf e92
            refine lv_iload hx hb dX11_spread_147 (lv_at hl 5 rfl) ?_
            obtain ⟨o93, e93, hf⟩ := ob_some hf
            refine kVi (As := [.int y4, .int x92, .int y5]) (rest := []) ⟨hx, hb, hml, hown, hts⟩ (mX11_add l dC dI h0 h2 kc2 H.size base y4 x92 y5 c2 (fun k => match k with | 1 => .int v0_rules | 2 => .ref h1 | 16 => .ref h3 | k => V0 k) o93 e93) (cwV 3 hts (gTV q513 q514 q515 q5 q516) rfl rfl rfl (by decide +kernel) ⟨Nat.le_of_ble_eq_true rfl, Nat.le_of_ble_eq_true rfl⟩) hK hP hD hS hA hE hAB [0, 2] [1, 3] [1] (wr := [(h1, .inl (kc1, 288, .inl c1)), (h3, .inl (kc3, 896, .inl c3))]) rfl rfl (by decide) (by decide) (by decide) rfl (ci := 11) (q0 := 0) rfl rfl rfl rfl hl.1 rfl (Nat.le_of_ble_eq_true rfl) dX11_spread_149 ⟨Nat.zero_le _, Nat.zero_le _⟩ (fun r93 u93 H locs hw93 hP hD hS => ?_)
            obtain ⟨hw931, hw932⟩ := hw93
            subst hw931 hw932
            have hP : va_P (dC, dI) vwCl (wX11_spread h0 h1 h2 h3 kc1 kc2 kc3 V0 v0_rules c1 o93.2 c3) H := hP.sub [2, 0, 3, 1] rfl
            have hD : va_D A (wX11_spread h0 h1 h2 h3 kc1 kc2 kc3 V0 v0_rules c1 o93.2 c3) := hD.sub [2, 0, 3, 1] (by decide) rfl
            refine lv_istore (lv' := [(6, .int o93.1), (0, .ref h0), (1, .int y1), (2, .int y2), (3, .int y3), (4, .int y4), (5, .int y5)]) hx hb dX11_spread_152 hl (by decide) rfl (fun ls hl => ?_)
            refine lv_iload_n hx hb dX11_spread_154 rfl (lv_at hl 2 rfl) ?_
            refine lv_if_ne (tgt := 163) hx hb dX11_spread_155 (by decide) (fun cq94 => ?_) (fun cq94 => ?_)
            · replace hf := if_no hf cq94
              exact (hG _ _ _ _ _).mp (J163 k4 hk4 k30 hk30 y2 y3 y4 y5 o93.2 c3 H locs ls (hP.sub [0, 1, 2, 3] rfl) (hD.sub [0, 1, 2, 3] (by decide) rfl) hS (lv_sub hl [1, 3, 4, 5, 6] rfl) hf)
            · replace hf := if_at hf cq94
              refine lv_iload hx hb dX11_spread_158 (lv_at hl 0 rfl) ?_
              refine lv_if_eq (tgt := 167) hx hb dX11_spread_160 (by decide) (fun cq95 => ?_) (fun cq95 => ?_)
              · replace hf := if_at hf cq95
                refine lv_iconst (v := 0) hx hb dX11_spread_167 (by decide +kernel) ?_
                exact (hG _ _ _ _ _).mp (J168 k4 hk4 k30 hk30 y2 y3 y4 y5 0 o93.2 c3 H locs ls (hP.sub [0, 1, 2, 3] rfl) (hD.sub [0, 1, 2, 3] (by decide) rfl) hS (lv_sub hl [1, 3, 4, 5, 6] rfl) hf)
              · replace hf := if_no hf cq95
                exact (hG _ _ _ _ _).mp (J163 k4 hk4 k30 hk30 y2 y3 y4 y5 o93.2 c3 H locs ls (hP.sub [0, 1, 2, 3] rfl) (hD.sub [0, 1, 2, 3] (by decide) rfl) hS (lv_sub hl [1, 3, 4, 5, 6] rfl) hf)
        · replace hf := if_at hf cq68
          refine lv_iload_n hx hb dX11_spread_81 rfl (lv_at hl 1 rfl) ?_
          refine lv_if_ne (tgt := 101) hx hb dX11_spread_82 (by decide) (fun cq96 => ?_) (fun cq96 => ?_)
          · replace hf := if_no hf cq96
            exact (hG _ _ _ _ _).mp (J101 k4 hk4 k30 hk30 y2 y3 y4 y5 c2 c3 H locs ls (hP.sub [0, 1, 2, 3] rfl) (hD.sub [0, 1, 2, 3] (by decide) rfl) hS (lv_sub hl [0, 2, 3, 4, 5] rfl) hf)
          · replace hf := if_at hf cq96
            refine lv_aload_n hx hb dX11_spread_85 rfl (lv_at hl 0 rfl) ?_
            refine va_get (D := (dC, dI)) (ci := 11) (v := .ref h3) (C := RX11) (T := TX11) (N := 71) hx hb hts inlX11 hown hK hP 0 rfl rfl 16 (by decide) w0_ (fun _ h9 => h9) rfl dX11_spread_86 ?_
            refine lv_bipush (v := 112) hx hb dX11_spread_89 (by decide +kernel) ?_
            refine lv_iload hx hb dX11_spread_91 (lv_at hl 4 rfl) ?_
            refine lv_imul hx hb dX11_spread_93 ?_
            refine lv_topi (fun x97 e97 => ?_)
            replace hf := nm_at hf e97
            refine lv_iload hx hb dX11_spread_94 (lv_at hl 5 rfl) ?_
            refine lv_iadd hx hb dX11_spread_96 ?_
            refine lv_topi (fun x98 e98 => ?_)
            replace hf := nm_at hf e98
            have b99 := bd_in hf
            replace hf := bd_k hf
            refine va_zald hx hb hK hP 3 2 rfl rfl b99 dX11_spread_97 ?_
            refine lv_topi (fun x100 e100 => ?_)
            replace hf := nm_at hf e100
            refine lv_if_ne (tgt := 105) hx hb dX11_spread_98 (by decide) (fun cq101 => ?_) (fun cq101 => ?_)
            · replace hf := if_no hf cq101
              refine lv_iconst (v := 0) hx hb dX11_spread_105 (by decide +kernel) ?_
              exact (hG _ _ _ _ _).mp (J106 k4 hk4 k30 hk30 y2 y3 y4 y5 0 c2 c3 H locs ls (hP.sub [0, 1, 2, 3] rfl) (hD.sub [0, 1, 2, 3] (by decide) rfl) hS (lv_sub hl [0, 2, 3, 4, 5] rfl) hf)
            · replace hf := if_at hf cq101
              exact (hG _ _ _ _ _).mp (J101 k4 hk4 k30 hk30 y2 y3 y4 y5 c2 c3 H locs ls (hP.sub [0, 1, 2, 3] rfl) (hD.sub [0, 1, 2, 3] (by decide) rfl) hS (lv_sub hl [0, 2, 3, 4, 5] rfl) hf)
  have L30 : ∀ (k4 : Int32 → Int32 → (Nat → Int32) → (Nat → Int32) → Option (Int32 × (Nat → Int32) × (Nat → Int32))) (hk4 : ∀ (y1 : Int32) (y2 : Int32) (c2 : (Nat → Int32)) (c3 : (Nat → Int32)) (H : Heap) (locs : List Loc) (ls : Array Slot), va_P (dC, dI) vwCl (wX11_spread h0 h1 h2 h3 kc1 kc2 kc3 V0 v0_rules c1 c2 c3) H → va_D A (wX11_spread h0 h1 h2 h3 kc1 kc2 kc3 V0 v0_rules c1 c2 c3) → va_S A s.heap H locs → lv_has ls 9 [(0, .ref h0), (1, .int y1), (2, .int y2)] → k4 y1 y2 c2 c3 = some o → G 0 0 H locs (F0 m 4 ls [])) (n : Nat), ∀ (y1 : Int32) (y2 : Int32) (y3 : Int32) (y4 : Int32) (y5 : Int32) (c2 : (Nat → Int32)) (c3 : (Nat → Int32)) (H : Heap) (locs : List Loc) (ls : Array Slot), va_P (dC, dI) vwCl (wX11_spread h0 h1 h2 h3 kc1 kc2 kc3 V0 v0_rules c1 c2 c3) H → va_D A (wX11_spread h0 h1 h2 h3 kc1 kc2 kc3 V0 v0_rules c1 c2 c3) → va_S A s.heap H locs → lv_has ls 9 [(0, .ref h0), (1, .int y1), (2, .int y2), (3, .int y3), (4, .int y4), (5, .int y5)] → fX11_spread_l30 v0_rules c1 k4 n y1 y2 y3 y4 y5 c2 c3 = some o → G 0 0 H locs (F0 m 30 ls []) := by
    intro k4 hk4 n
    induction n with
    | zero => intro y1 y2 y3 y4 y5 c2 c3 H locs ls _ _ _ _ hf; cases hf
    | succ n ih => exact B30 k4 hk4 _ ih
  have B4 : ∀ (k4 : Int32 → Int32 → (Nat → Int32) → (Nat → Int32) → Option (Int32 × (Nat → Int32) × (Nat → Int32))) (hk4 : ∀ (y1 : Int32) (y2 : Int32) (c2 : (Nat → Int32)) (c3 : (Nat → Int32)) (H : Heap) (locs : List Loc) (ls : Array Slot), va_P (dC, dI) vwCl (wX11_spread h0 h1 h2 h3 kc1 kc2 kc3 V0 v0_rules c1 c2 c3) H → va_D A (wX11_spread h0 h1 h2 h3 kc1 kc2 kc3 V0 v0_rules c1 c2 c3) → va_S A s.heap H locs → lv_has ls 9 [(0, .ref h0), (1, .int y1), (2, .int y2)] → k4 y1 y2 c2 c3 = some o → G 0 0 H locs (F0 m 4 ls [])), ∀ (y1 : Int32) (y2 : Int32) (c2 : (Nat → Int32)) (c3 : (Nat → Int32)) (H : Heap) (locs : List Loc) (ls : Array Slot), va_P (dC, dI) vwCl (wX11_spread h0 h1 h2 h3 kc1 kc2 kc3 V0 v0_rules c1 c2 c3) H → va_D A (wX11_spread h0 h1 h2 h3 kc1 kc2 kc3 V0 v0_rules c1 c2 c3) → va_S A s.heap H locs → lv_has ls 9 [(0, .ref h0), (1, .int y1), (2, .int y2)] → fX11_spread_b4 v0_rules c1  k4 y1 y2 c2 c3 = some o → G 0 0 H locs (F0 m 4 ls []) := by
    intro  k4 hk4 y1 y2 c2 c3 H locs ls hP hD hS hl hf
    refine (hG _ _ _ _ _).mpr ?_
    unfold fX11_spread_b4 at hf
    refine lv_iload_n hx hb dX11_spread_4 rfl (lv_at hl 2 rfl) ?_
    refine lv_aload_n hx hb dX11_spread_5 rfl (lv_at hl 0 rfl) ?_
    refine va_get (D := (dC, dI)) (ci := 11) (v := .int v0_rules) (C := RX11) (T := TX11) (N := 71) hx hb hts inlX11 hown hK hP 0 rfl rfl 1 (by decide) w3_ (fun _ h9 => h9) rfl dX11_spread_6 ?_
    refine lv_icmp_ge (tgt := 259) hx hb dX11_spread_9 (by decide) (fun cq102 => ?_) (fun cq102 => ?_)
    · replace hf := if_at hf cq102
      refine lv_iconst (v := 0) hx hb dX11_spread_259 (by decide +kernel) ?_
      refine lv_istore_n (lv' := [(2, .int 0), (0, .ref h0), (1, .int y1)]) hx hb dX11_spread_260 rfl hl (by decide) rfl (fun ls hl => ?_)
      exact (hG _ _ _ _ _).mp (L261 FU y1 0 c2 c3 H locs ls (hP.sub [0, 1, 2, 3] rfl) (hD.sub [0, 1, 2, 3] (by decide) rfl) hS (lv_sub hl [1, 2, 0] rfl) hf)
    · replace hf := if_no hf cq102
      refine lv_bipush (v := 6) hx hb dX11_spread_12 (by decide +kernel) ?_
      refine lv_iload_n hx hb dX11_spread_14 rfl (lv_at hl 2 rfl) ?_
      refine lv_imul hx hb dX11_spread_15 ?_
      refine lv_topi (fun x103 e103 => ?_)
      replace hf := nm_at hf e103
      refine lv_istore_n (lv' := [(3, .int x103), (0, .ref h0), (1, .int y1), (2, .int y2)]) hx hb dX11_spread_16 rfl hl (by decide) rfl (fun ls hl => ?_)
      refine lv_aload_n hx hb dX11_spread_17 rfl (lv_at hl 1 rfl) ?_
      refine va_get (D := (dC, dI)) (ci := 11) (v := .ref h1) (C := RX11) (T := TX11) (N := 71) hx hb hts inlX11 hown hK hP 0 rfl rfl 2 (by decide) w2_ (fun _ h9 => h9) rfl dX11_spread_18 ?_
      refine lv_iload_n hx hb dX11_spread_21 rfl (lv_at hl 0 rfl) ?_
      refine lv_iconst (v := 2) hx hb dX11_spread_22 (by decide +kernel) ?_
      refine lv_iadd hx hb dX11_spread_23 ?_
      refine lv_topi (fun x104 e104 => ?_)
      replace hf := nm_at hf e104
      have b105 := bd_in hf
      replace hf := bd_k hf
      refine va_iald hx hb hK hP 1 0 rfl rfl b105 dX11_spread_24 ?_
      refine lv_topi (fun x106 e106 => ?_)
      replace hf := nm_at hf e106
      refine lv_istore (lv' := [(4, .int x106), (3, .int x103), (0, .ref h0), (1, .int y1), (2, .int y2)]) hx hb dX11_spread_25 hl (by decide) rfl (fun ls hl => ?_)
      refine lv_iconst (v := 0) hx hb dX11_spread_27 (by decide +kernel) ?_
      refine lv_istore (lv' := [(5, .int 0), (4, .int x106), (3, .int x103), (0, .ref h0), (1, .int y1), (2, .int y2)]) hx hb dX11_spread_28 hl (by decide) rfl (fun ls hl => ?_)
      exact (hG _ _ _ _ _).mp (L30 k4 hk4 FU y1 y2 x103 x106 0 c2 c3 H locs ls (hP.sub [0, 1, 2, 3] rfl) (hD.sub [0, 1, 2, 3] (by decide) rfl) hS (lv_sub hl [3, 4, 5, 2, 1, 0] rfl) hf)
  have L4 : ∀ (n : Nat), ∀ (y1 : Int32) (y2 : Int32) (c2 : (Nat → Int32)) (c3 : (Nat → Int32)) (H : Heap) (locs : List Loc) (ls : Array Slot), va_P (dC, dI) vwCl (wX11_spread h0 h1 h2 h3 kc1 kc2 kc3 V0 v0_rules c1 c2 c3) H → va_D A (wX11_spread h0 h1 h2 h3 kc1 kc2 kc3 V0 v0_rules c1 c2 c3) → va_S A s.heap H locs → lv_has ls 9 [(0, .ref h0), (1, .int y1), (2, .int y2)] → fX11_spread_l4 v0_rules c1  n y1 y2 c2 c3 = some o → G 0 0 H locs (F0 m 4 ls []) := by
    intro  n
    induction n with
    | zero => intro y1 y2 c2 c3 H locs ls _ _ _ _ hf; cases hf
    | succ n ih => exact B4  _ ih
  refine (hG _ _ _ _ _).mpr ?_
  obtain ⟨H, hH⟩ : ∃ H, H = s.heap := ⟨_, rfl⟩
  have hS : va_S A s.heap H [] := by rw [hH]; exact hS
  rw [← hH] at hP ⊢
  generalize ([] : List Loc) = locs at hS ⊢
  unfold fX11_spread at hf
  refine lv_iconst (v := 0) hx hb dX11_spread_0 (by decide +kernel) ?_
  refine lv_istore_n (lv' := [(1, .int 0), (0, .ref h0)]) hx hb dX11_spread_1 rfl hl (by decide) rfl (fun ls hl => ?_)
  refine lv_iconst (v := 0) hx hb dX11_spread_2 (by decide +kernel) ?_
  refine lv_istore_n (lv' := [(2, .int 0), (1, .int 0), (0, .ref h0)]) hx hb dX11_spread_3 rfl hl (by decide) rfl (fun ls hl => ?_)
  exact (hG _ _ _ _ _).mp (L4 FU 0 0 c2 c3 H locs ls (hP.sub [0, 1, 2, 3] rfl) (hD.sub [0, 1, 2, 3] (by decide) rfl) hS (lv_sub hl [2, 1, 0] rfl) hf)
abbrev wX11_after (h0 h1 h2 h3 h4 h5 h6 h7 h8 : Nat) (kc1 kc2 kc3 kc4 kc5 kc6 kc7 kc8 : ClassId) (V0 : Nat → Value) (v0_thrown : Int32) (v0_rules : Int32) (v0_size : Int32) (c1 : Nat → Int32) (c2 : Nat → Int32) (c3 : Nat → Int32) (c4 : Nat → Int32) (c5 : Nat → Int32) (c6 : Nat → Int32) (c7 : Nat → Int32) (c8 : Nat → Int32) : va_W := [(h0, .inr (11, [.int v0_thrown, .int v0_rules, .ref h4, V0 3, .ref h3, .ref h8, .int v0_size, .ref h7, V0 8, V0 9, V0 10, V0 11, V0 12, V0 13, V0 14, .ref h1, .ref h2, .ref h5, .ref h6, V0 19, V0 20, V0 21, V0 22, V0 23, V0 24, V0 25, V0 26, V0 27, V0 28, V0 29, V0 30, V0 31, V0 32, V0 33, V0 34, V0 35, V0 36, V0 37, V0 38, V0 39, V0 40, V0 41, V0 42, V0 43, V0 44, V0 45, V0 46, V0 47, V0 48, V0 49, V0 50, V0 51, V0 52, V0 53, V0 54, V0 55, V0 56, V0 57, V0 58, V0 59, V0 60, V0 61, V0 62, V0 63, V0 64, V0 65, V0 66, V0 67, V0 68, V0 69, V0 70])), (h1, .inl (kc1, 150528, .inl c1)), (h2, .inl (kc2, 896, .inl c2)), (h3, .inl (kc3, 3072, .inl c3)), (h4, .inl (kc4, 288, .inl c4)), (h5, .inl (kc5, 112, .inl c5)), (h6, .inl (kc6, 112, .inl c6)), (h7, .inl (kc7, 30, .inl c7)), (h8, .inl (kc8, 16, .inl c8))]
set_option maxHeartbeats 4000000 in
set_option maxRecDepth 100000 in
theorem mX11_after (l : Launch) (dC : Nat → ClassId) (dI : Nat → Nat → Nat) (h0 h1 h2 h3 h4 h5 h6 h7 h8 : Nat) (kc1 kc2 kc3 kc4 kc5 kc6 kc7 kc8 : ClassId) (sz : Nat) (base : Nat × Nat × Nat) (a0 : Int32) (v0_thrown : Int32) (v0_rules : Int32) (v0_size : Int32) (c1 : Nat → Int32) (c2 : Nat → Int32) (c3 : Nat → Int32) (c4 : Nat → Int32) (c5 : Nat → Int32) (c6 : Nat → Int32) (c7 : Nat → Int32) (c8 : Nat → Int32) (V0 : Nat → Value) (o : Int32 × Int32 × (Nat → Int32) × (Nat → Int32) × (Nat → Int32) × (Nat → Int32)) (hf : fX11_after a0 v0_thrown v0_rules v0_size c1 c2 c3 c4 c5 c6 c7 c8 = some o) : Met l yX11_after (.code yX11_after cX11_after 6 (some .int) :: wsL_law) ({ frames := 2, cells := 0, slots := 0, locals := 53 }) (cPre (dC, dI) vwCl [.ref h0, .int a0] sz base (wX11_after h0 h1 h2 h3 h4 h5 h6 h7 h8 kc1 kc2 kc3 kc4 kc5 kc6 kc7 kc8 V0 v0_thrown v0_rules v0_size c1 c2 c3 c4 c5 c6 c7 c8) [(kc1, .boolean), (kc2, .boolean), (kc3, .boolean), (kc4, .int), (kc5, .boolean), (kc6, .boolean), (kc7, .int), (kc8, .boolean)]) (va_Qi (fun r u => r = o.1 ∧ u = o.2) (fun (u : Int32 × (Nat → Int32) × (Nat → Int32) × (Nat → Int32) × (Nat → Int32)) t => cPost (dC, dI) vwCl (va_A (wX11_after h0 h1 h2 h3 h4 h5 h6 h7 h8 kc1 kc2 kc3 kc4 kc5 kc6 kc7 kc8 V0 v0_thrown v0_rules v0_size c1 c2 c3 c4 c5 c6 c7 c8) sz) (wX11_after h0 h1 h2 h3 h4 h5 h6 h7 h8 kc1 kc2 kc3 kc4 kc5 kc6 kc7 kc8 V0 u.1 v0_rules v0_size u.2.1 u.2.2.1 c3 c4 u.2.2.2.1 u.2.2.2.2 c7 c8) [(kc1, .boolean), (kc2, .boolean), (kc3, .boolean), (kc4, .int), (kc5, .boolean), (kc6, .boolean), (kc7, .int), (kc8, .boolean)] t) (va_A (wX11_after h0 h1 h2 h3 h4 h5 h6 h7 h8 kc1 kc2 kc3 kc4 kc5 kc6 kc7 kc8 V0 v0_thrown v0_rules v0_size c1 c2 c3 c4 c5 c6 c7 c8) sz)) 0 0 (va_A (wX11_after h0 h1 h2 h3 h4 h5 h6 h7 h8 kc1 kc2 kc3 kc4 kc5 kc6 kc7 kc8 V0 v0_thrown v0_rules v0_size c1 c2 c3 c4 c5 c6 c7 c8) sz) := by
  refine Met.ofW (cc := cX11_after) (maxL := 6) (ret := (some .int)) (by decide) rfl ?_
  intro p e s m args below meth c s₁ B hml hv
  obtain ⟨rfl, hsz, hP, hK, hD0, hE⟩ := hv
  have hx := B.exec
  have hb := B.bytes
  have hr := B.returns
  have hts : ∀ w ∈ wsL_law, _ := fun w h => atoms_spec (ws := .code yX11_after cX11_after 6 (some .int) :: wsL_law) B.pre w (List.mem_cons_of_mem _ h)
  have hown : s.vm.findClass RX11 = some m.cls := findClass_of_methodNamed B.named
  have hlocks := B.notSynchronized
  have w0_ := hts _ q92
  have w1_ := hts _ q81
  have w2_ := hts _ q93
  have w3_ := hts _ q90
  have w4_ := hts _ q82
  have w5_ := hts _ q216
  have w6_ := hts _ q91
  have w7_ := hts _ q80
  have w8_ := hts _ q89
  have w9_ := hts _ q146
  subst hsz
  have hD := hD0.self (sz := s.heap.size)
  generalize hAe : va_A (wX11_after h0 h1 h2 h3 h4 h5 h6 h7 h8 kc1 kc2 kc3 kc4 kc5 kc6 kc7 kc8 V0 v0_thrown v0_rules v0_size c1 c2 c3 c4 c5 c6 c7 c8) s.heap.size = A at hD ⊢
  have hA : ∀ q : Nat, s.heap.size ≤ q → A q := fun q h => by rw [← hAe]; exact Or.inr h
  have hAB : ∀ q : Nat, A q → base.1 ≤ q := fun q h => by rw [← hAe] at h; exact h.elim (fun ⟨k, e, hk⟩ => hD0.2 k _ hk) (fun hk => Nat.le_trans hE.1 hk)
  have hS : va_S A s.heap s.heap [] := va_S.rf
  have hl := lv_entry ([.ref h0, .int a0]) (n := 6) (Nat.le_of_ble_eq_true rfl)
  rw [lg_entry_eq]
  generalize (lg_sl ([.ref h0, .int a0]) ++ List.replicate (6 - (lg_sl ([.ref h0, .int a0])).length) Slot.unset).toArray = ls at hl ⊢
  have hl : lv_has ls 6 [(0, .ref h0), (1, .int a0)] := hl
  have hP : va_P (dC, dI) vwCl (wX11_after h0 h1 h2 h3 h4 h5 h6 h7 h8 kc1 kc2 kc3 kc4 kc5 kc6 kc7 kc8 V0 v0_thrown v0_rules v0_size c1 c2 c3 c4 c5 c6 c7 c8) s.heap := hP
  refine gl_intro (fun G hG => ?_)
  have J419 : ∀ (z0 : Int32) (v0_thrown : Int32) (c1 : (Nat → Int32)) (c2 : (Nat → Int32)) (c5 : (Nat → Int32)) (c6 : (Nat → Int32)) (H : Heap) (locs : List Loc) (ls : Array Slot), va_P (dC, dI) vwCl (wX11_after h0 h1 h2 h3 h4 h5 h6 h7 h8 kc1 kc2 kc3 kc4 kc5 kc6 kc7 kc8 V0 v0_thrown v0_rules v0_size c1 c2 c3 c4 c5 c6 c7 c8) H → va_D A (wX11_after h0 h1 h2 h3 h4 h5 h6 h7 h8 kc1 kc2 kc3 kc4 kc5 kc6 kc7 kc8 V0 v0_thrown v0_rules v0_size c1 c2 c3 c4 c5 c6 c7 c8) → va_S A s.heap H locs → lv_has ls 6 [(0, .ref h0)] → fX11_after_p419 v0_rules v0_size c3 c4 c7 c8  z0 v0_thrown c1 c2 c5 c6 = some o → G 0 0 H locs (F0 m 419 ls [.int z0]) := by
    intro  z0 v0_thrown c1 c2 c5 c6 H locs ls hP hD hS hl hf
    refine (hG _ _ _ _ _).mpr ?_
    unfold fX11_after_p419 at hf
    have hf1 := Option.some.inj hf
    subst hf1
    have hP9 := hP.sub (ws' := (wX11_after h0 h1 h2 h3 h4 h5 h6 h7 h8 kc1 kc2 kc3 kc4 kc5 kc6 kc7 kc8 V0 v0_thrown v0_rules v0_size c1 c2 c3 c4 c5 c6 c7 c8)) [0, 1, 2, 3, 4, 5, 6, 7, 8] rfl
    have hD9 := hD.sub (ws' := (wX11_after h0 h1 h2 h3 h4 h5 h6 h7 h8 kc1 kc2 kc3 kc4 kc5 kc6 kc7 kc8 V0 v0_thrown v0_rules v0_size c1 c2 c3 c4 c5 c6 c7 c8)) [0, 1, 2, 3, 4, 5, 6, 7, 8] (by decide) rfl
    exact W.iret (v := z0) hx hb hr (fun t ht hW => ⟨⟨z0, (v0_thrown, c1, c2, c5, c6), rfl, ⟨rfl, rfl⟩, by rw [ht]; exact hP9, va_K.moved hW.alike hK, hD9⟩, hS.F ht⟩) hS.2.2 dX11_after_419
  have J403 : ∀ (k367 : Int32 → Int32 → Int32 → (Nat → Int32) → (Nat → Int32) → (Nat → Int32) → (Nat → Int32) → Option (Int32 × Int32 × (Nat → Int32) × (Nat → Int32) × (Nat → Int32) × (Nat → Int32))) (hk367 : ∀ (y3 : Int32) (y4 : Int32) (v0_thrown : Int32) (c1 : (Nat → Int32)) (c2 : (Nat → Int32)) (c5 : (Nat → Int32)) (c6 : (Nat → Int32)) (H : Heap) (locs : List Loc) (ls : Array Slot), va_P (dC, dI) vwCl (wX11_after h0 h1 h2 h3 h4 h5 h6 h7 h8 kc1 kc2 kc3 kc4 kc5 kc6 kc7 kc8 V0 v0_thrown v0_rules v0_size c1 c2 c3 c4 c5 c6 c7 c8) H → va_D A (wX11_after h0 h1 h2 h3 h4 h5 h6 h7 h8 kc1 kc2 kc3 kc4 kc5 kc6 kc7 kc8 V0 v0_thrown v0_rules v0_size c1 c2 c3 c4 c5 c6 c7 c8) → va_S A s.heap H locs → lv_has ls 6 [(0, .ref h0), (3, .int y3), (4, .int y4)] → k367 y3 y4 v0_thrown c1 c2 c5 c6 = some o → G 0 0 H locs (F0 m 367 ls [])), ∀ (y4 : Int32) (z0 : Int32) (v0_thrown : Int32) (c1 : (Nat → Int32)) (c2 : (Nat → Int32)) (c5 : (Nat → Int32)) (c6 : (Nat → Int32)) (H : Heap) (locs : List Loc) (ls : Array Slot), va_P (dC, dI) vwCl (wX11_after h0 h1 h2 h3 h4 h5 h6 h7 h8 kc1 kc2 kc3 kc4 kc5 kc6 kc7 kc8 V0 v0_thrown v0_rules v0_size c1 c2 c3 c4 c5 c6 c7 c8) H → va_D A (wX11_after h0 h1 h2 h3 h4 h5 h6 h7 h8 kc1 kc2 kc3 kc4 kc5 kc6 kc7 kc8 V0 v0_thrown v0_rules v0_size c1 c2 c3 c4 c5 c6 c7 c8) → va_S A s.heap H locs → lv_has ls 6 [(0, .ref h0), (4, .int y4)] → fX11_after_p403 v0_rules v0_size c3 c4 c7 c8 k367 y4 z0 v0_thrown c1 c2 c5 c6 = some o → G 0 0 H locs (F0 m 403 ls [.int z0]) := by
    intro k367 hk367 y4 z0 v0_thrown c1 c2 c5 c6 H locs ls hP hD hS hl hf
    refine (hG _ _ _ _ _).mpr ?_
    unfold fX11_after_p403 at hf
    refine lv_istore_n (lv' := [(3, .int z0), (0, .ref h0), (4, .int y4)]) hx hb dX11_after_403 rfl hl (by decide) rfl (fun ls hl => ?_)
    obtain ⟨x1, e1⟩ : ∃ y : Int32, y = y4 + 1 := ⟨_, rfl⟩
    replace hf := nm_at hf e1
    refine lv_iinc (v := x1) (lv' := [(4, .int x1), (3, .int z0), (0, .ref h0)]) hx hb dX11_after_404 hl (k := 2) rfl (by rw [e1]; rfl) (by decide) rfl (fun ls hl => ?_)
    refine lv_goto (tgt := 367) hx hb dX11_after_407 (by decide) ?_
    exact (hG _ _ _ _ _).mp (hk367 z0 x1 v0_thrown c1 c2 c5 c6 H locs ls (hP.sub [0, 1, 2, 3, 4, 5, 6, 7, 8] rfl) (hD.sub [0, 1, 2, 3, 4, 5, 6, 7, 8] (by decide) rfl) hS (lv_sub hl [2, 1, 0] rfl) hf)
  have J398 : ∀ (k367 : Int32 → Int32 → Int32 → (Nat → Int32) → (Nat → Int32) → (Nat → Int32) → (Nat → Int32) → Option (Int32 × Int32 × (Nat → Int32) × (Nat → Int32) × (Nat → Int32) × (Nat → Int32))) (hk367 : ∀ (y3 : Int32) (y4 : Int32) (v0_thrown : Int32) (c1 : (Nat → Int32)) (c2 : (Nat → Int32)) (c5 : (Nat → Int32)) (c6 : (Nat → Int32)) (H : Heap) (locs : List Loc) (ls : Array Slot), va_P (dC, dI) vwCl (wX11_after h0 h1 h2 h3 h4 h5 h6 h7 h8 kc1 kc2 kc3 kc4 kc5 kc6 kc7 kc8 V0 v0_thrown v0_rules v0_size c1 c2 c3 c4 c5 c6 c7 c8) H → va_D A (wX11_after h0 h1 h2 h3 h4 h5 h6 h7 h8 kc1 kc2 kc3 kc4 kc5 kc6 kc7 kc8 V0 v0_thrown v0_rules v0_size c1 c2 c3 c4 c5 c6 c7 c8) → va_S A s.heap H locs → lv_has ls 6 [(0, .ref h0), (3, .int y3), (4, .int y4)] → k367 y3 y4 v0_thrown c1 c2 c5 c6 = some o → G 0 0 H locs (F0 m 367 ls [])), ∀ (y4 : Int32) (v0_thrown : Int32) (c1 : (Nat → Int32)) (c2 : (Nat → Int32)) (c5 : (Nat → Int32)) (c6 : (Nat → Int32)) (H : Heap) (locs : List Loc) (ls : Array Slot), va_P (dC, dI) vwCl (wX11_after h0 h1 h2 h3 h4 h5 h6 h7 h8 kc1 kc2 kc3 kc4 kc5 kc6 kc7 kc8 V0 v0_thrown v0_rules v0_size c1 c2 c3 c4 c5 c6 c7 c8) H → va_D A (wX11_after h0 h1 h2 h3 h4 h5 h6 h7 h8 kc1 kc2 kc3 kc4 kc5 kc6 kc7 kc8 V0 v0_thrown v0_rules v0_size c1 c2 c3 c4 c5 c6 c7 c8) → va_S A s.heap H locs → lv_has ls 6 [(0, .ref h0), (4, .int y4)] → fX11_after_p398 v0_rules v0_size c3 c4 c7 c8 k367 y4 v0_thrown c1 c2 c5 c6 = some o → G 0 0 H locs (F0 m 398 ls []) := by
    intro k367 hk367 y4 v0_thrown c1 c2 c5 c6 H locs ls hP hD hS hl hf
    refine (hG _ _ _ _ _).mpr ?_
    unfold fX11_after_p398 at hf
    refine lv_iconst (v := 1) hx hb dX11_after_398 (by decide +kernel) ?_
    refine lv_goto (tgt := 403) hx hb dX11_after_399 (by decide) ?_
    exact (hG _ _ _ _ _).mp (J403 k367 hk367 y4 1 v0_thrown c1 c2 c5 c6 H locs ls (hP.sub [0, 1, 2, 3, 4, 5, 6, 7, 8] rfl) (hD.sub [0, 1, 2, 3, 4, 5, 6, 7, 8] (by decide) rfl) hS (lv_sub hl [0, 1] rfl) hf)
  have J402 : ∀ (k367 : Int32 → Int32 → Int32 → (Nat → Int32) → (Nat → Int32) → (Nat → Int32) → (Nat → Int32) → Option (Int32 × Int32 × (Nat → Int32) × (Nat → Int32) × (Nat → Int32) × (Nat → Int32))) (hk367 : ∀ (y3 : Int32) (y4 : Int32) (v0_thrown : Int32) (c1 : (Nat → Int32)) (c2 : (Nat → Int32)) (c5 : (Nat → Int32)) (c6 : (Nat → Int32)) (H : Heap) (locs : List Loc) (ls : Array Slot), va_P (dC, dI) vwCl (wX11_after h0 h1 h2 h3 h4 h5 h6 h7 h8 kc1 kc2 kc3 kc4 kc5 kc6 kc7 kc8 V0 v0_thrown v0_rules v0_size c1 c2 c3 c4 c5 c6 c7 c8) H → va_D A (wX11_after h0 h1 h2 h3 h4 h5 h6 h7 h8 kc1 kc2 kc3 kc4 kc5 kc6 kc7 kc8 V0 v0_thrown v0_rules v0_size c1 c2 c3 c4 c5 c6 c7 c8) → va_S A s.heap H locs → lv_has ls 6 [(0, .ref h0), (3, .int y3), (4, .int y4)] → k367 y3 y4 v0_thrown c1 c2 c5 c6 = some o → G 0 0 H locs (F0 m 367 ls [])), ∀ (y4 : Int32) (v0_thrown : Int32) (c1 : (Nat → Int32)) (c2 : (Nat → Int32)) (c5 : (Nat → Int32)) (c6 : (Nat → Int32)) (H : Heap) (locs : List Loc) (ls : Array Slot), va_P (dC, dI) vwCl (wX11_after h0 h1 h2 h3 h4 h5 h6 h7 h8 kc1 kc2 kc3 kc4 kc5 kc6 kc7 kc8 V0 v0_thrown v0_rules v0_size c1 c2 c3 c4 c5 c6 c7 c8) H → va_D A (wX11_after h0 h1 h2 h3 h4 h5 h6 h7 h8 kc1 kc2 kc3 kc4 kc5 kc6 kc7 kc8 V0 v0_thrown v0_rules v0_size c1 c2 c3 c4 c5 c6 c7 c8) → va_S A s.heap H locs → lv_has ls 6 [(0, .ref h0), (4, .int y4)] → fX11_after_p402 v0_rules v0_size c3 c4 c7 c8 k367 y4 v0_thrown c1 c2 c5 c6 = some o → G 0 0 H locs (F0 m 402 ls []) := by
    intro k367 hk367 y4 v0_thrown c1 c2 c5 c6 H locs ls hP hD hS hl hf
    refine (hG _ _ _ _ _).mpr ?_
    unfold fX11_after_p402 at hf
    refine lv_iconst (v := 0) hx hb dX11_after_402 (by decide +kernel) ?_
    exact (hG _ _ _ _ _).mp (J403 k367 hk367 y4 0 v0_thrown c1 c2 c5 c6 H locs ls (hP.sub [0, 1, 2, 3, 4, 5, 6, 7, 8] rfl) (hD.sub [0, 1, 2, 3, 4, 5, 6, 7, 8] (by decide) rfl) hS (lv_sub hl [0, 1] rfl) hf)
  have B367 : ∀ (k367 : Int32 → Int32 → Int32 → (Nat → Int32) → (Nat → Int32) → (Nat → Int32) → (Nat → Int32) → Option (Int32 × Int32 × (Nat → Int32) × (Nat → Int32) × (Nat → Int32) × (Nat → Int32))) (hk367 : ∀ (y3 : Int32) (y4 : Int32) (v0_thrown : Int32) (c1 : (Nat → Int32)) (c2 : (Nat → Int32)) (c5 : (Nat → Int32)) (c6 : (Nat → Int32)) (H : Heap) (locs : List Loc) (ls : Array Slot), va_P (dC, dI) vwCl (wX11_after h0 h1 h2 h3 h4 h5 h6 h7 h8 kc1 kc2 kc3 kc4 kc5 kc6 kc7 kc8 V0 v0_thrown v0_rules v0_size c1 c2 c3 c4 c5 c6 c7 c8) H → va_D A (wX11_after h0 h1 h2 h3 h4 h5 h6 h7 h8 kc1 kc2 kc3 kc4 kc5 kc6 kc7 kc8 V0 v0_thrown v0_rules v0_size c1 c2 c3 c4 c5 c6 c7 c8) → va_S A s.heap H locs → lv_has ls 6 [(0, .ref h0), (3, .int y3), (4, .int y4)] → k367 y3 y4 v0_thrown c1 c2 c5 c6 = some o → G 0 0 H locs (F0 m 367 ls [])), ∀ (y3 : Int32) (y4 : Int32) (v0_thrown : Int32) (c1 : (Nat → Int32)) (c2 : (Nat → Int32)) (c5 : (Nat → Int32)) (c6 : (Nat → Int32)) (H : Heap) (locs : List Loc) (ls : Array Slot), va_P (dC, dI) vwCl (wX11_after h0 h1 h2 h3 h4 h5 h6 h7 h8 kc1 kc2 kc3 kc4 kc5 kc6 kc7 kc8 V0 v0_thrown v0_rules v0_size c1 c2 c3 c4 c5 c6 c7 c8) H → va_D A (wX11_after h0 h1 h2 h3 h4 h5 h6 h7 h8 kc1 kc2 kc3 kc4 kc5 kc6 kc7 kc8 V0 v0_thrown v0_rules v0_size c1 c2 c3 c4 c5 c6 c7 c8) → va_S A s.heap H locs → lv_has ls 6 [(0, .ref h0), (3, .int y3), (4, .int y4)] → fX11_after_b367 v0_rules v0_size c3 c4 c7 c8  k367 y3 y4 v0_thrown c1 c2 c5 c6 = some o → G 0 0 H locs (F0 m 367 ls []) := by
    intro  k367 hk367 y3 y4 v0_thrown c1 c2 c5 c6 H locs ls hP hD hS hl hf
    refine (hG _ _ _ _ _).mpr ?_
    unfold fX11_after_b367 at hf
    refine lv_iload hx hb dX11_after_367 (lv_at hl 2 rfl) ?_
    refine lv_bipush (v := 16) hx hb dX11_after_369 (by decide +kernel) ?_
    refine lv_icmp_ge (tgt := 410) hx hb dX11_after_371 (by decide) (fun cq2 => ?_) (fun cq2 => ?_)
    · replace hf := if_at hf cq2
      refine lv_iload_n hx hb dX11_after_410 rfl (lv_at hl 1 rfl) ?_
      refine lv_if_eq (tgt := 418) hx hb dX11_after_411 (by decide) (fun cq3 => ?_) (fun cq3 => ?_)
      · replace hf := if_at hf cq3
        refine lv_iconst (v := 0) hx hb dX11_after_418 (by decide +kernel) ?_
        exact (hG _ _ _ _ _).mp (J419 0 v0_thrown c1 c2 c5 c6 H locs ls (hP.sub [0, 1, 2, 3, 4, 5, 6, 7, 8] rfl) (hD.sub [0, 1, 2, 3, 4, 5, 6, 7, 8] (by decide) rfl) hS (lv_sub hl [0] rfl) hf)
      · replace hf := if_no hf cq3
        refine lv_iconst (v := 1) hx hb dX11_after_414 (by decide +kernel) ?_
        refine lv_goto (tgt := 419) hx hb dX11_after_415 (by decide) ?_
        exact (hG _ _ _ _ _).mp (J419 1 v0_thrown c1 c2 c5 c6 H locs ls (hP.sub [0, 1, 2, 3, 4, 5, 6, 7, 8] rfl) (hD.sub [0, 1, 2, 3, 4, 5, 6, 7, 8] (by decide) rfl) hS (lv_sub hl [0] rfl) hf)
    · replace hf := if_no hf cq2
      refine lv_iload_n hx hb dX11_after_374 rfl (lv_at hl 1 rfl) ?_
      refine lv_if_ne (tgt := 398) hx hb dX11_after_375 (by decide) (fun cq4 => ?_) (fun cq4 => ?_)
      · replace hf := if_no hf cq4
        exact (hG _ _ _ _ _).mp (J398 k367 hk367 y4 v0_thrown c1 c2 c5 c6 H locs ls (hP.sub [0, 1, 2, 3, 4, 5, 6, 7, 8] rfl) (hD.sub [0, 1, 2, 3, 4, 5, 6, 7, 8] (by decide) rfl) hS (lv_sub hl [0, 2] rfl) hf)
      · replace hf := if_at hf cq4
        refine lv_aload_n hx hb dX11_after_378 rfl (lv_at hl 0 rfl) ?_
        refine va_get (D := (dC, dI)) (ci := 11) (v := .ref h5) (C := RX11) (T := TX11) (N := 71) hx hb hts inlX11 hown hK hP 0 rfl rfl 17 (by decide) w0_ (fun _ h9 => h9) rfl dX11_after_379 ?_
        refine lv_iload hx hb dX11_after_382 (lv_at hl 2 rfl) ?_
        have b5 := bd_in hf
        replace hf := bd_k hf
        refine va_zald hx hb hK hP 5 4 rfl rfl b5 dX11_after_384 ?_
        refine lv_topi (fun x6 e6 => ?_)
        replace hf := nm_at hf e6
        refine lv_if_eq (tgt := 402) hx hb dX11_after_385 (by decide) (fun cq7 => ?_) (fun cq7 => ?_)
        · replace hf := if_at hf cq7
          exact (hG _ _ _ _ _).mp (J402 k367 hk367 y4 v0_thrown c1 c2 c5 c6 H locs ls (hP.sub [0, 1, 2, 3, 4, 5, 6, 7, 8] rfl) (hD.sub [0, 1, 2, 3, 4, 5, 6, 7, 8] (by decide) rfl) hS (lv_sub hl [0, 2] rfl) hf)
        · replace hf := if_no hf cq7
          refine lv_aload_n hx hb dX11_after_388 rfl (lv_at hl 0 rfl) ?_
          refine va_get (D := (dC, dI)) (ci := 11) (v := .ref h8) (C := RX11) (T := TX11) (N := 71) hx hb hts inlX11 hown hK hP 0 rfl rfl 5 (by decide) w1_ (fun _ h9 => h9) rfl dX11_after_389 ?_
          refine lv_iload hx hb dX11_after_392 (lv_at hl 2 rfl) ?_
          have b8 := bd_in hf
          replace hf := bd_k hf
          refine va_zald hx hb hK hP 8 7 rfl rfl b8 dX11_after_394 ?_
          refine lv_topi (fun x9 e9 => ?_)
          replace hf := nm_at hf e9
          refine lv_if_eq (tgt := 402) hx hb dX11_after_395 (by decide) (fun cq10 => ?_) (fun cq10 => ?_)
          · replace hf := if_at hf cq10
            exact (hG _ _ _ _ _).mp (J402 k367 hk367 y4 v0_thrown c1 c2 c5 c6 H locs ls (hP.sub [0, 1, 2, 3, 4, 5, 6, 7, 8] rfl) (hD.sub [0, 1, 2, 3, 4, 5, 6, 7, 8] (by decide) rfl) hS (lv_sub hl [0, 2] rfl) hf)
          · replace hf := if_no hf cq10
            exact (hG _ _ _ _ _).mp (J398 k367 hk367 y4 v0_thrown c1 c2 c5 c6 H locs ls (hP.sub [0, 1, 2, 3, 4, 5, 6, 7, 8] rfl) (hD.sub [0, 1, 2, 3, 4, 5, 6, 7, 8] (by decide) rfl) hS (lv_sub hl [0, 2] rfl) hf)
  have L367 : ∀ (n : Nat), ∀ (y3 : Int32) (y4 : Int32) (v0_thrown : Int32) (c1 : (Nat → Int32)) (c2 : (Nat → Int32)) (c5 : (Nat → Int32)) (c6 : (Nat → Int32)) (H : Heap) (locs : List Loc) (ls : Array Slot), va_P (dC, dI) vwCl (wX11_after h0 h1 h2 h3 h4 h5 h6 h7 h8 kc1 kc2 kc3 kc4 kc5 kc6 kc7 kc8 V0 v0_thrown v0_rules v0_size c1 c2 c3 c4 c5 c6 c7 c8) H → va_D A (wX11_after h0 h1 h2 h3 h4 h5 h6 h7 h8 kc1 kc2 kc3 kc4 kc5 kc6 kc7 kc8 V0 v0_thrown v0_rules v0_size c1 c2 c3 c4 c5 c6 c7 c8) → va_S A s.heap H locs → lv_has ls 6 [(0, .ref h0), (3, .int y3), (4, .int y4)] → fX11_after_l367 v0_rules v0_size c3 c4 c7 c8  n y3 y4 v0_thrown c1 c2 c5 c6 = some o → G 0 0 H locs (F0 m 367 ls []) := by
    intro  n
    induction n with
    | zero => intro y3 y4 v0_thrown c1 c2 c5 c6 H locs ls _ _ _ _ hf; cases hf
    | succ n ih => exact B367  _ ih
  have B329 : ∀ (k207 : Int32 → Int32 → (Nat → Int32) → (Nat → Int32) → (Nat → Int32) → (Nat → Int32) → Option (Int32 × Int32 × (Nat → Int32) × (Nat → Int32) × (Nat → Int32) × (Nat → Int32))) (hk207 : ∀ (y3 : Int32) (v0_thrown : Int32) (c1 : (Nat → Int32)) (c2 : (Nat → Int32)) (c5 : (Nat → Int32)) (c6 : (Nat → Int32)) (H : Heap) (locs : List Loc) (ls : Array Slot), va_P (dC, dI) vwCl (wX11_after h0 h1 h2 h3 h4 h5 h6 h7 h8 kc1 kc2 kc3 kc4 kc5 kc6 kc7 kc8 V0 v0_thrown v0_rules v0_size c1 c2 c3 c4 c5 c6 c7 c8) H → va_D A (wX11_after h0 h1 h2 h3 h4 h5 h6 h7 h8 kc1 kc2 kc3 kc4 kc5 kc6 kc7 kc8 V0 v0_thrown v0_rules v0_size c1 c2 c3 c4 c5 c6 c7 c8) → va_S A s.heap H locs → lv_has ls 6 [(0, .ref h0), (3, .int y3)] → k207 y3 v0_thrown c1 c2 c5 c6 = some o → G 0 0 H locs (F0 m 207 ls [])) (k329 : Int32 → Int32 → Int32 → (Nat → Int32) → (Nat → Int32) → (Nat → Int32) → (Nat → Int32) → Option (Int32 × Int32 × (Nat → Int32) × (Nat → Int32) × (Nat → Int32) × (Nat → Int32))) (hk329 : ∀ (y3 : Int32) (y4 : Int32) (v0_thrown : Int32) (c1 : (Nat → Int32)) (c2 : (Nat → Int32)) (c5 : (Nat → Int32)) (c6 : (Nat → Int32)) (H : Heap) (locs : List Loc) (ls : Array Slot), va_P (dC, dI) vwCl (wX11_after h0 h1 h2 h3 h4 h5 h6 h7 h8 kc1 kc2 kc3 kc4 kc5 kc6 kc7 kc8 V0 v0_thrown v0_rules v0_size c1 c2 c3 c4 c5 c6 c7 c8) H → va_D A (wX11_after h0 h1 h2 h3 h4 h5 h6 h7 h8 kc1 kc2 kc3 kc4 kc5 kc6 kc7 kc8 V0 v0_thrown v0_rules v0_size c1 c2 c3 c4 c5 c6 c7 c8) → va_S A s.heap H locs → lv_has ls 6 [(0, .ref h0), (3, .int y3), (4, .int y4)] → k329 y3 y4 v0_thrown c1 c2 c5 c6 = some o → G 0 0 H locs (F0 m 329 ls [])), ∀ (y3 : Int32) (y4 : Int32) (v0_thrown : Int32) (c1 : (Nat → Int32)) (c2 : (Nat → Int32)) (c5 : (Nat → Int32)) (c6 : (Nat → Int32)) (H : Heap) (locs : List Loc) (ls : Array Slot), va_P (dC, dI) vwCl (wX11_after h0 h1 h2 h3 h4 h5 h6 h7 h8 kc1 kc2 kc3 kc4 kc5 kc6 kc7 kc8 V0 v0_thrown v0_rules v0_size c1 c2 c3 c4 c5 c6 c7 c8) H → va_D A (wX11_after h0 h1 h2 h3 h4 h5 h6 h7 h8 kc1 kc2 kc3 kc4 kc5 kc6 kc7 kc8 V0 v0_thrown v0_rules v0_size c1 c2 c3 c4 c5 c6 c7 c8) → va_S A s.heap H locs → lv_has ls 6 [(0, .ref h0), (3, .int y3), (4, .int y4)] → fX11_after_b329 v0_rules v0_size c3 c4 c7 c8 k207 k329 y3 y4 v0_thrown c1 c2 c5 c6 = some o → G 0 0 H locs (F0 m 329 ls []) := by
    intro k207 hk207 k329 hk329 y3 y4 v0_thrown c1 c2 c5 c6 H locs ls hP hD hS hl hf
    refine (hG _ _ _ _ _).mpr ?_
    unfold fX11_after_b329 at hf
    refine lv_iload hx hb dX11_after_329 (lv_at hl 2 rfl) ?_
    refine lv_bipush (v := 112) hx hb dX11_after_331 (by decide +kernel) ?_
    refine lv_icmp_ge (tgt := 356) hx hb dX11_after_333 (by decide) (fun cq11 => ?_) (fun cq11 => ?_)
    · replace hf := if_at hf cq11
      obtain ⟨x12, e12⟩ : ∃ y : Int32, y = y3 + (-1) := ⟨_, rfl⟩
      replace hf := nm_at hf e12
      refine lv_iinc (v := x12) (lv' := [(3, .int x12), (0, .ref h0), (4, .int y4)]) hx hb dX11_after_356 hl (k := 1) rfl (by rw [e12]; rfl) (by decide) rfl (fun ls hl => ?_)
      refine lv_goto (tgt := 207) hx hb dX11_after_359 (by decide) ?_
      exact (hG _ _ _ _ _).mp (hk207 x12 v0_thrown c1 c2 c5 c6 H locs ls (hP.sub [0, 1, 2, 3, 4, 5, 6, 7, 8] rfl) (hD.sub [0, 1, 2, 3, 4, 5, 6, 7, 8] (by decide) rfl) hS (lv_sub hl [1, 0] rfl) hf)
    · replace hf := if_no hf cq11
      refine lv_aload_n hx hb dX11_after_336 rfl (lv_at hl 0 rfl) ?_
      refine va_get (D := (dC, dI)) (ci := 11) (v := .ref h5) (C := RX11) (T := TX11) (N := 71) hx hb hts inlX11 hown hK hP 0 rfl rfl 17 (by decide) w0_ (fun _ h9 => h9) rfl dX11_after_337 ?_
      refine lv_iload hx hb dX11_after_340 (lv_at hl 2 rfl) ?_
      refine lv_aload_n hx hb dX11_after_342 rfl (lv_at hl 0 rfl) ?_
      refine va_get (D := (dC, dI)) (ci := 11) (v := .ref h6) (C := RX11) (T := TX11) (N := 71) hx hb hts inlX11 hown hK hP 0 rfl rfl 18 (by decide) w2_ (fun _ h9 => h9) rfl dX11_after_343 ?_
      refine lv_iload hx hb dX11_after_346 (lv_at hl 2 rfl) ?_
      have b13 := bd_in hf
      replace hf := bd_k hf
      refine va_zald hx hb hK hP 6 5 rfl rfl b13 dX11_after_348 ?_
      refine lv_topi (fun x14 e14 => ?_)
      replace hf := nm_at hf e14
      have b15 := bd_in hf
      replace hf := bd_k hf
      obtain ⟨c15x, e15⟩ : ∃ y, y = upd c5 y4.toNatClampNeg (vp_nar .boolean x14) := ⟨_, rfl⟩
      replace hf := nm_at hf e15
      refine va_zast hx hb hK hP hD hS 5 4 rfl rfl b15 dX11_after_349 (fun H locs hP hD hS => ?_)
      have hP : va_P (dC, dI) vwCl (wX11_after h0 h1 h2 h3 h4 h5 h6 h7 h8 kc1 kc2 kc3 kc4 kc5 kc6 kc7 kc8 V0 v0_thrown v0_rules v0_size c1 c2 c3 c4 c15x c6 c7 c8) H := by rw [e15]; exact hP
      have hD : va_D A (wX11_after h0 h1 h2 h3 h4 h5 h6 h7 h8 kc1 kc2 kc3 kc4 kc5 kc6 kc7 kc8 V0 v0_thrown v0_rules v0_size c1 c2 c3 c4 c15x c6 c7 c8) := by rw [e15]; exact hD
      obtain ⟨x16, e16⟩ : ∃ y : Int32, y = y4 + 1 := ⟨_, rfl⟩
      replace hf := nm_at hf e16
      refine lv_iinc (v := x16) (lv' := [(4, .int x16), (0, .ref h0), (3, .int y3)]) hx hb dX11_after_350 hl (k := 2) rfl (by rw [e16]; rfl) (by decide) rfl (fun ls hl => ?_)
      refine lv_goto (tgt := 329) hx hb dX11_after_353 (by decide) ?_
      exact (hG _ _ _ _ _).mp (hk329 y3 x16 v0_thrown c1 c2 c15x c6 H locs ls (hP.sub [0, 1, 2, 3, 4, 5, 6, 7, 8] rfl) (hD.sub [0, 1, 2, 3, 4, 5, 6, 7, 8] (by decide) rfl) hS (lv_sub hl [1, 2, 0] rfl) hf)
  have L329 : ∀ (k207 : Int32 → Int32 → (Nat → Int32) → (Nat → Int32) → (Nat → Int32) → (Nat → Int32) → Option (Int32 × Int32 × (Nat → Int32) × (Nat → Int32) × (Nat → Int32) × (Nat → Int32))) (hk207 : ∀ (y3 : Int32) (v0_thrown : Int32) (c1 : (Nat → Int32)) (c2 : (Nat → Int32)) (c5 : (Nat → Int32)) (c6 : (Nat → Int32)) (H : Heap) (locs : List Loc) (ls : Array Slot), va_P (dC, dI) vwCl (wX11_after h0 h1 h2 h3 h4 h5 h6 h7 h8 kc1 kc2 kc3 kc4 kc5 kc6 kc7 kc8 V0 v0_thrown v0_rules v0_size c1 c2 c3 c4 c5 c6 c7 c8) H → va_D A (wX11_after h0 h1 h2 h3 h4 h5 h6 h7 h8 kc1 kc2 kc3 kc4 kc5 kc6 kc7 kc8 V0 v0_thrown v0_rules v0_size c1 c2 c3 c4 c5 c6 c7 c8) → va_S A s.heap H locs → lv_has ls 6 [(0, .ref h0), (3, .int y3)] → k207 y3 v0_thrown c1 c2 c5 c6 = some o → G 0 0 H locs (F0 m 207 ls [])) (n : Nat), ∀ (y3 : Int32) (y4 : Int32) (v0_thrown : Int32) (c1 : (Nat → Int32)) (c2 : (Nat → Int32)) (c5 : (Nat → Int32)) (c6 : (Nat → Int32)) (H : Heap) (locs : List Loc) (ls : Array Slot), va_P (dC, dI) vwCl (wX11_after h0 h1 h2 h3 h4 h5 h6 h7 h8 kc1 kc2 kc3 kc4 kc5 kc6 kc7 kc8 V0 v0_thrown v0_rules v0_size c1 c2 c3 c4 c5 c6 c7 c8) H → va_D A (wX11_after h0 h1 h2 h3 h4 h5 h6 h7 h8 kc1 kc2 kc3 kc4 kc5 kc6 kc7 kc8 V0 v0_thrown v0_rules v0_size c1 c2 c3 c4 c5 c6 c7 c8) → va_S A s.heap H locs → lv_has ls 6 [(0, .ref h0), (3, .int y3), (4, .int y4)] → fX11_after_l329 v0_rules v0_size c3 c4 c7 c8 k207 n y3 y4 v0_thrown c1 c2 c5 c6 = some o → G 0 0 H locs (F0 m 329 ls []) := by
    intro k207 hk207 n
    induction n with
    | zero => intro y3 y4 v0_thrown c1 c2 c5 c6 H locs ls _ _ _ _ hf; cases hf
    | succ n ih => exact B329 k207 hk207 _ ih
  have J320 : ∀ (k207 : Int32 → Int32 → (Nat → Int32) → (Nat → Int32) → (Nat → Int32) → (Nat → Int32) → Option (Int32 × Int32 × (Nat → Int32) × (Nat → Int32) × (Nat → Int32) × (Nat → Int32))) (hk207 : ∀ (y3 : Int32) (v0_thrown : Int32) (c1 : (Nat → Int32)) (c2 : (Nat → Int32)) (c5 : (Nat → Int32)) (c6 : (Nat → Int32)) (H : Heap) (locs : List Loc) (ls : Array Slot), va_P (dC, dI) vwCl (wX11_after h0 h1 h2 h3 h4 h5 h6 h7 h8 kc1 kc2 kc3 kc4 kc5 kc6 kc7 kc8 V0 v0_thrown v0_rules v0_size c1 c2 c3 c4 c5 c6 c7 c8) H → va_D A (wX11_after h0 h1 h2 h3 h4 h5 h6 h7 h8 kc1 kc2 kc3 kc4 kc5 kc6 kc7 kc8 V0 v0_thrown v0_rules v0_size c1 c2 c3 c4 c5 c6 c7 c8) → va_S A s.heap H locs → lv_has ls 6 [(0, .ref h0), (3, .int y3)] → k207 y3 v0_thrown c1 c2 c5 c6 = some o → G 0 0 H locs (F0 m 207 ls [])) (k238 : Int32 → Int32 → Int32 → (Nat → Int32) → (Nat → Int32) → (Nat → Int32) → (Nat → Int32) → Option (Int32 × Int32 × (Nat → Int32) × (Nat → Int32) × (Nat → Int32) × (Nat → Int32))) (hk238 : ∀ (y3 : Int32) (y4 : Int32) (v0_thrown : Int32) (c1 : (Nat → Int32)) (c2 : (Nat → Int32)) (c5 : (Nat → Int32)) (c6 : (Nat → Int32)) (H : Heap) (locs : List Loc) (ls : Array Slot), va_P (dC, dI) vwCl (wX11_after h0 h1 h2 h3 h4 h5 h6 h7 h8 kc1 kc2 kc3 kc4 kc5 kc6 kc7 kc8 V0 v0_thrown v0_rules v0_size c1 c2 c3 c4 c5 c6 c7 c8) H → va_D A (wX11_after h0 h1 h2 h3 h4 h5 h6 h7 h8 kc1 kc2 kc3 kc4 kc5 kc6 kc7 kc8 V0 v0_thrown v0_rules v0_size c1 c2 c3 c4 c5 c6 c7 c8) → va_S A s.heap H locs → lv_has ls 6 [(0, .ref h0), (3, .int y3), (4, .int y4)] → k238 y3 y4 v0_thrown c1 c2 c5 c6 = some o → G 0 0 H locs (F0 m 238 ls [])), ∀ (y3 : Int32) (y4 : Int32) (v0_thrown : Int32) (c1 : (Nat → Int32)) (c2 : (Nat → Int32)) (c5 : (Nat → Int32)) (c6 : (Nat → Int32)) (H : Heap) (locs : List Loc) (ls : Array Slot), va_P (dC, dI) vwCl (wX11_after h0 h1 h2 h3 h4 h5 h6 h7 h8 kc1 kc2 kc3 kc4 kc5 kc6 kc7 kc8 V0 v0_thrown v0_rules v0_size c1 c2 c3 c4 c5 c6 c7 c8) H → va_D A (wX11_after h0 h1 h2 h3 h4 h5 h6 h7 h8 kc1 kc2 kc3 kc4 kc5 kc6 kc7 kc8 V0 v0_thrown v0_rules v0_size c1 c2 c3 c4 c5 c6 c7 c8) → va_S A s.heap H locs → lv_has ls 6 [(0, .ref h0), (3, .int y3), (4, .int y4)] → fX11_after_p320 v0_rules v0_size c3 c4 c7 c8 k207 k238 y3 y4 v0_thrown c1 c2 c5 c6 = some o → G 0 0 H locs (F0 m 320 ls []) := by
    intro k207 hk207 k238 hk238 y3 y4 v0_thrown c1 c2 c5 c6 H locs ls hP hD hS hl hf
    refine (hG _ _ _ _ _).mpr ?_
    unfold fX11_after_p320 at hf
    obtain ⟨x17, e17⟩ : ∃ y : Int32, y = y4 + 1 := ⟨_, rfl⟩
    replace hf := nm_at hf e17
    refine lv_iinc (v := x17) (lv' := [(4, .int x17), (0, .ref h0), (3, .int y3)]) hx hb dX11_after_320 hl (k := 2) rfl (by rw [e17]; rfl) (by decide) rfl (fun ls hl => ?_)
    refine lv_goto (tgt := 238) hx hb dX11_after_323 (by decide) ?_
    exact (hG _ _ _ _ _).mp (hk238 y3 x17 v0_thrown c1 c2 c5 c6 H locs ls (hP.sub [0, 1, 2, 3, 4, 5, 6, 7, 8] rfl) (hD.sub [0, 1, 2, 3, 4, 5, 6, 7, 8] (by decide) rfl) hS (lv_sub hl [1, 2, 0] rfl) hf)
  have J313 : ∀ (k207 : Int32 → Int32 → (Nat → Int32) → (Nat → Int32) → (Nat → Int32) → (Nat → Int32) → Option (Int32 × Int32 × (Nat → Int32) × (Nat → Int32) × (Nat → Int32) × (Nat → Int32))) (hk207 : ∀ (y3 : Int32) (v0_thrown : Int32) (c1 : (Nat → Int32)) (c2 : (Nat → Int32)) (c5 : (Nat → Int32)) (c6 : (Nat → Int32)) (H : Heap) (locs : List Loc) (ls : Array Slot), va_P (dC, dI) vwCl (wX11_after h0 h1 h2 h3 h4 h5 h6 h7 h8 kc1 kc2 kc3 kc4 kc5 kc6 kc7 kc8 V0 v0_thrown v0_rules v0_size c1 c2 c3 c4 c5 c6 c7 c8) H → va_D A (wX11_after h0 h1 h2 h3 h4 h5 h6 h7 h8 kc1 kc2 kc3 kc4 kc5 kc6 kc7 kc8 V0 v0_thrown v0_rules v0_size c1 c2 c3 c4 c5 c6 c7 c8) → va_S A s.heap H locs → lv_has ls 6 [(0, .ref h0), (3, .int y3)] → k207 y3 v0_thrown c1 c2 c5 c6 = some o → G 0 0 H locs (F0 m 207 ls [])) (k238 : Int32 → Int32 → Int32 → (Nat → Int32) → (Nat → Int32) → (Nat → Int32) → (Nat → Int32) → Option (Int32 × Int32 × (Nat → Int32) × (Nat → Int32) × (Nat → Int32) × (Nat → Int32))) (hk238 : ∀ (y3 : Int32) (y4 : Int32) (v0_thrown : Int32) (c1 : (Nat → Int32)) (c2 : (Nat → Int32)) (c5 : (Nat → Int32)) (c6 : (Nat → Int32)) (H : Heap) (locs : List Loc) (ls : Array Slot), va_P (dC, dI) vwCl (wX11_after h0 h1 h2 h3 h4 h5 h6 h7 h8 kc1 kc2 kc3 kc4 kc5 kc6 kc7 kc8 V0 v0_thrown v0_rules v0_size c1 c2 c3 c4 c5 c6 c7 c8) H → va_D A (wX11_after h0 h1 h2 h3 h4 h5 h6 h7 h8 kc1 kc2 kc3 kc4 kc5 kc6 kc7 kc8 V0 v0_thrown v0_rules v0_size c1 c2 c3 c4 c5 c6 c7 c8) → va_S A s.heap H locs → lv_has ls 6 [(0, .ref h0), (3, .int y3), (4, .int y4)] → k238 y3 y4 v0_thrown c1 c2 c5 c6 = some o → G 0 0 H locs (F0 m 238 ls [])) (k248 : Int32 → Int32 → Int32 → Int32 → (Nat → Int32) → (Nat → Int32) → (Nat → Int32) → (Nat → Int32) → Option (Int32 × Int32 × (Nat → Int32) × (Nat → Int32) × (Nat → Int32) × (Nat → Int32))) (hk248 : ∀ (y3 : Int32) (y4 : Int32) (y5 : Int32) (v0_thrown : Int32) (c1 : (Nat → Int32)) (c2 : (Nat → Int32)) (c5 : (Nat → Int32)) (c6 : (Nat → Int32)) (H : Heap) (locs : List Loc) (ls : Array Slot), va_P (dC, dI) vwCl (wX11_after h0 h1 h2 h3 h4 h5 h6 h7 h8 kc1 kc2 kc3 kc4 kc5 kc6 kc7 kc8 V0 v0_thrown v0_rules v0_size c1 c2 c3 c4 c5 c6 c7 c8) H → va_D A (wX11_after h0 h1 h2 h3 h4 h5 h6 h7 h8 kc1 kc2 kc3 kc4 kc5 kc6 kc7 kc8 V0 v0_thrown v0_rules v0_size c1 c2 c3 c4 c5 c6 c7 c8) → va_S A s.heap H locs → lv_has ls 6 [(0, .ref h0), (3, .int y3), (4, .int y4), (5, .int y5)] → k248 y3 y4 y5 v0_thrown c1 c2 c5 c6 = some o → G 0 0 H locs (F0 m 248 ls [])), ∀ (y3 : Int32) (y4 : Int32) (y5 : Int32) (z0 : Int32) (z1 : Int32) (v0_thrown : Int32) (c1 : (Nat → Int32)) (c2 : (Nat → Int32)) (c5 : (Nat → Int32)) (c6 : (Nat → Int32)) (H : Heap) (locs : List Loc) (ls : Array Slot), va_P (dC, dI) vwCl (wX11_after h0 h1 h2 h3 h4 h5 h6 h7 h8 kc1 kc2 kc3 kc4 kc5 kc6 kc7 kc8 V0 v0_thrown v0_rules v0_size c1 c2 c3 c4 c5 c6 c7 c8) H → va_D A (wX11_after h0 h1 h2 h3 h4 h5 h6 h7 h8 kc1 kc2 kc3 kc4 kc5 kc6 kc7 kc8 V0 v0_thrown v0_rules v0_size c1 c2 c3 c4 c5 c6 c7 c8) → va_S A s.heap H locs → lv_has ls 6 [(0, .ref h0), (3, .int y3), (4, .int y4), (5, .int y5)] → fX11_after_p313 v0_rules v0_size c3 c4 c7 c8 k207 k238 k248 y3 y4 y5 z0 z1 v0_thrown c1 c2 c5 c6 = some o → G 0 0 H locs (F0 m 313 ls [.int z0, .int z1, .ref h6]) := by
    intro k207 hk207 k238 hk238 k248 hk248 y3 y4 y5 z0 z1 v0_thrown c1 c2 c5 c6 H locs ls hP hD hS hl hf
    refine (hG _ _ _ _ _).mpr ?_
    unfold fX11_after_p313 at hf
    have b18 := bd_in hf
    replace hf := bd_k hf
    obtain ⟨c18x, e18⟩ : ∃ y, y = upd c6 z1.toNatClampNeg (vp_nar .boolean z0) := ⟨_, rfl⟩
    replace hf := nm_at hf e18
    refine va_zast hx hb hK hP hD hS 6 5 rfl rfl b18 dX11_after_313 (fun H locs hP hD hS => ?_)
    have hP : va_P (dC, dI) vwCl (wX11_after h0 h1 h2 h3 h4 h5 h6 h7 h8 kc1 kc2 kc3 kc4 kc5 kc6 kc7 kc8 V0 v0_thrown v0_rules v0_size c1 c2 c3 c4 c5 c18x c7 c8) H := by rw [e18]; exact hP
    have hD : va_D A (wX11_after h0 h1 h2 h3 h4 h5 h6 h7 h8 kc1 kc2 kc3 kc4 kc5 kc6 kc7 kc8 V0 v0_thrown v0_rules v0_size c1 c2 c3 c4 c5 c18x c7 c8) := by rw [e18]; exact hD
    obtain ⟨x19, e19⟩ : ∃ y : Int32, y = y5 + 1 := ⟨_, rfl⟩
    replace hf := nm_at hf e19
    refine lv_iinc (v := x19) (lv' := [(5, .int x19), (0, .ref h0), (3, .int y3), (4, .int y4)]) hx hb dX11_after_314 hl (k := 3) rfl (by rw [e19]; rfl) (by decide) rfl (fun ls hl => ?_)
    refine lv_goto (tgt := 248) hx hb dX11_after_317 (by decide) ?_
    exact (hG _ _ _ _ _).mp (hk248 y3 y4 x19 v0_thrown c1 c2 c5 c18x H locs ls (hP.sub [0, 1, 2, 3, 4, 5, 6, 7, 8] rfl) (hD.sub [0, 1, 2, 3, 4, 5, 6, 7, 8] (by decide) rfl) hS (lv_sub hl [1, 2, 3, 0] rfl) hf)
  have J308 : ∀ (k207 : Int32 → Int32 → (Nat → Int32) → (Nat → Int32) → (Nat → Int32) → (Nat → Int32) → Option (Int32 × Int32 × (Nat → Int32) × (Nat → Int32) × (Nat → Int32) × (Nat → Int32))) (hk207 : ∀ (y3 : Int32) (v0_thrown : Int32) (c1 : (Nat → Int32)) (c2 : (Nat → Int32)) (c5 : (Nat → Int32)) (c6 : (Nat → Int32)) (H : Heap) (locs : List Loc) (ls : Array Slot), va_P (dC, dI) vwCl (wX11_after h0 h1 h2 h3 h4 h5 h6 h7 h8 kc1 kc2 kc3 kc4 kc5 kc6 kc7 kc8 V0 v0_thrown v0_rules v0_size c1 c2 c3 c4 c5 c6 c7 c8) H → va_D A (wX11_after h0 h1 h2 h3 h4 h5 h6 h7 h8 kc1 kc2 kc3 kc4 kc5 kc6 kc7 kc8 V0 v0_thrown v0_rules v0_size c1 c2 c3 c4 c5 c6 c7 c8) → va_S A s.heap H locs → lv_has ls 6 [(0, .ref h0), (3, .int y3)] → k207 y3 v0_thrown c1 c2 c5 c6 = some o → G 0 0 H locs (F0 m 207 ls [])) (k238 : Int32 → Int32 → Int32 → (Nat → Int32) → (Nat → Int32) → (Nat → Int32) → (Nat → Int32) → Option (Int32 × Int32 × (Nat → Int32) × (Nat → Int32) × (Nat → Int32) × (Nat → Int32))) (hk238 : ∀ (y3 : Int32) (y4 : Int32) (v0_thrown : Int32) (c1 : (Nat → Int32)) (c2 : (Nat → Int32)) (c5 : (Nat → Int32)) (c6 : (Nat → Int32)) (H : Heap) (locs : List Loc) (ls : Array Slot), va_P (dC, dI) vwCl (wX11_after h0 h1 h2 h3 h4 h5 h6 h7 h8 kc1 kc2 kc3 kc4 kc5 kc6 kc7 kc8 V0 v0_thrown v0_rules v0_size c1 c2 c3 c4 c5 c6 c7 c8) H → va_D A (wX11_after h0 h1 h2 h3 h4 h5 h6 h7 h8 kc1 kc2 kc3 kc4 kc5 kc6 kc7 kc8 V0 v0_thrown v0_rules v0_size c1 c2 c3 c4 c5 c6 c7 c8) → va_S A s.heap H locs → lv_has ls 6 [(0, .ref h0), (3, .int y3), (4, .int y4)] → k238 y3 y4 v0_thrown c1 c2 c5 c6 = some o → G 0 0 H locs (F0 m 238 ls [])) (k248 : Int32 → Int32 → Int32 → Int32 → (Nat → Int32) → (Nat → Int32) → (Nat → Int32) → (Nat → Int32) → Option (Int32 × Int32 × (Nat → Int32) × (Nat → Int32) × (Nat → Int32) × (Nat → Int32))) (hk248 : ∀ (y3 : Int32) (y4 : Int32) (y5 : Int32) (v0_thrown : Int32) (c1 : (Nat → Int32)) (c2 : (Nat → Int32)) (c5 : (Nat → Int32)) (c6 : (Nat → Int32)) (H : Heap) (locs : List Loc) (ls : Array Slot), va_P (dC, dI) vwCl (wX11_after h0 h1 h2 h3 h4 h5 h6 h7 h8 kc1 kc2 kc3 kc4 kc5 kc6 kc7 kc8 V0 v0_thrown v0_rules v0_size c1 c2 c3 c4 c5 c6 c7 c8) H → va_D A (wX11_after h0 h1 h2 h3 h4 h5 h6 h7 h8 kc1 kc2 kc3 kc4 kc5 kc6 kc7 kc8 V0 v0_thrown v0_rules v0_size c1 c2 c3 c4 c5 c6 c7 c8) → va_S A s.heap H locs → lv_has ls 6 [(0, .ref h0), (3, .int y3), (4, .int y4), (5, .int y5)] → k248 y3 y4 y5 v0_thrown c1 c2 c5 c6 = some o → G 0 0 H locs (F0 m 248 ls [])), ∀ (y3 : Int32) (y4 : Int32) (y5 : Int32) (z0 : Int32) (v0_thrown : Int32) (c1 : (Nat → Int32)) (c2 : (Nat → Int32)) (c5 : (Nat → Int32)) (c6 : (Nat → Int32)) (H : Heap) (locs : List Loc) (ls : Array Slot), va_P (dC, dI) vwCl (wX11_after h0 h1 h2 h3 h4 h5 h6 h7 h8 kc1 kc2 kc3 kc4 kc5 kc6 kc7 kc8 V0 v0_thrown v0_rules v0_size c1 c2 c3 c4 c5 c6 c7 c8) H → va_D A (wX11_after h0 h1 h2 h3 h4 h5 h6 h7 h8 kc1 kc2 kc3 kc4 kc5 kc6 kc7 kc8 V0 v0_thrown v0_rules v0_size c1 c2 c3 c4 c5 c6 c7 c8) → va_S A s.heap H locs → lv_has ls 6 [(0, .ref h0), (3, .int y3), (4, .int y4), (5, .int y5)] → fX11_after_p308 v0_rules v0_size c3 c4 c7 c8 k207 k238 k248 y3 y4 y5 z0 v0_thrown c1 c2 c5 c6 = some o → G 0 0 H locs (F0 m 308 ls [.int z0, .ref h6]) := by
    intro k207 hk207 k238 hk238 k248 hk248 y3 y4 y5 z0 v0_thrown c1 c2 c5 c6 H locs ls hP hD hS hl hf
    refine (hG _ _ _ _ _).mpr ?_
    unfold fX11_after_p308 at hf
    refine lv_iconst (v := 1) hx hb dX11_after_308 (by decide +kernel) ?_
    refine lv_goto (tgt := 313) hx hb dX11_after_309 (by decide) ?_
    exact (hG _ _ _ _ _).mp (J313 k207 hk207 k238 hk238 k248 hk248 y3 y4 y5 1 z0 v0_thrown c1 c2 c5 c6 H locs ls (hP.sub [0, 1, 2, 3, 4, 5, 6, 7, 8] rfl) (hD.sub [0, 1, 2, 3, 4, 5, 6, 7, 8] (by decide) rfl) hS (lv_sub hl [0, 1, 2, 3] rfl) hf)
  have B248 : ∀ (k207 : Int32 → Int32 → (Nat → Int32) → (Nat → Int32) → (Nat → Int32) → (Nat → Int32) → Option (Int32 × Int32 × (Nat → Int32) × (Nat → Int32) × (Nat → Int32) × (Nat → Int32))) (hk207 : ∀ (y3 : Int32) (v0_thrown : Int32) (c1 : (Nat → Int32)) (c2 : (Nat → Int32)) (c5 : (Nat → Int32)) (c6 : (Nat → Int32)) (H : Heap) (locs : List Loc) (ls : Array Slot), va_P (dC, dI) vwCl (wX11_after h0 h1 h2 h3 h4 h5 h6 h7 h8 kc1 kc2 kc3 kc4 kc5 kc6 kc7 kc8 V0 v0_thrown v0_rules v0_size c1 c2 c3 c4 c5 c6 c7 c8) H → va_D A (wX11_after h0 h1 h2 h3 h4 h5 h6 h7 h8 kc1 kc2 kc3 kc4 kc5 kc6 kc7 kc8 V0 v0_thrown v0_rules v0_size c1 c2 c3 c4 c5 c6 c7 c8) → va_S A s.heap H locs → lv_has ls 6 [(0, .ref h0), (3, .int y3)] → k207 y3 v0_thrown c1 c2 c5 c6 = some o → G 0 0 H locs (F0 m 207 ls [])) (k238 : Int32 → Int32 → Int32 → (Nat → Int32) → (Nat → Int32) → (Nat → Int32) → (Nat → Int32) → Option (Int32 × Int32 × (Nat → Int32) × (Nat → Int32) × (Nat → Int32) × (Nat → Int32))) (hk238 : ∀ (y3 : Int32) (y4 : Int32) (v0_thrown : Int32) (c1 : (Nat → Int32)) (c2 : (Nat → Int32)) (c5 : (Nat → Int32)) (c6 : (Nat → Int32)) (H : Heap) (locs : List Loc) (ls : Array Slot), va_P (dC, dI) vwCl (wX11_after h0 h1 h2 h3 h4 h5 h6 h7 h8 kc1 kc2 kc3 kc4 kc5 kc6 kc7 kc8 V0 v0_thrown v0_rules v0_size c1 c2 c3 c4 c5 c6 c7 c8) H → va_D A (wX11_after h0 h1 h2 h3 h4 h5 h6 h7 h8 kc1 kc2 kc3 kc4 kc5 kc6 kc7 kc8 V0 v0_thrown v0_rules v0_size c1 c2 c3 c4 c5 c6 c7 c8) → va_S A s.heap H locs → lv_has ls 6 [(0, .ref h0), (3, .int y3), (4, .int y4)] → k238 y3 y4 v0_thrown c1 c2 c5 c6 = some o → G 0 0 H locs (F0 m 238 ls [])) (k248 : Int32 → Int32 → Int32 → Int32 → (Nat → Int32) → (Nat → Int32) → (Nat → Int32) → (Nat → Int32) → Option (Int32 × Int32 × (Nat → Int32) × (Nat → Int32) × (Nat → Int32) × (Nat → Int32))) (hk248 : ∀ (y3 : Int32) (y4 : Int32) (y5 : Int32) (v0_thrown : Int32) (c1 : (Nat → Int32)) (c2 : (Nat → Int32)) (c5 : (Nat → Int32)) (c6 : (Nat → Int32)) (H : Heap) (locs : List Loc) (ls : Array Slot), va_P (dC, dI) vwCl (wX11_after h0 h1 h2 h3 h4 h5 h6 h7 h8 kc1 kc2 kc3 kc4 kc5 kc6 kc7 kc8 V0 v0_thrown v0_rules v0_size c1 c2 c3 c4 c5 c6 c7 c8) H → va_D A (wX11_after h0 h1 h2 h3 h4 h5 h6 h7 h8 kc1 kc2 kc3 kc4 kc5 kc6 kc7 kc8 V0 v0_thrown v0_rules v0_size c1 c2 c3 c4 c5 c6 c7 c8) → va_S A s.heap H locs → lv_has ls 6 [(0, .ref h0), (3, .int y3), (4, .int y4), (5, .int y5)] → k248 y3 y4 y5 v0_thrown c1 c2 c5 c6 = some o → G 0 0 H locs (F0 m 248 ls [])), ∀ (y3 : Int32) (y4 : Int32) (y5 : Int32) (v0_thrown : Int32) (c1 : (Nat → Int32)) (c2 : (Nat → Int32)) (c5 : (Nat → Int32)) (c6 : (Nat → Int32)) (H : Heap) (locs : List Loc) (ls : Array Slot), va_P (dC, dI) vwCl (wX11_after h0 h1 h2 h3 h4 h5 h6 h7 h8 kc1 kc2 kc3 kc4 kc5 kc6 kc7 kc8 V0 v0_thrown v0_rules v0_size c1 c2 c3 c4 c5 c6 c7 c8) H → va_D A (wX11_after h0 h1 h2 h3 h4 h5 h6 h7 h8 kc1 kc2 kc3 kc4 kc5 kc6 kc7 kc8 V0 v0_thrown v0_rules v0_size c1 c2 c3 c4 c5 c6 c7 c8) → va_S A s.heap H locs → lv_has ls 6 [(0, .ref h0), (3, .int y3), (4, .int y4), (5, .int y5)] → fX11_after_b248 v0_rules v0_size c3 c4 c7 c8 k207 k238 k248 y3 y4 y5 v0_thrown c1 c2 c5 c6 = some o → G 0 0 H locs (F0 m 248 ls []) := by
    intro k207 hk207 k238 hk238 k248 hk248 y3 y4 y5 v0_thrown c1 c2 c5 c6 H locs ls hP hD hS hl hf
    refine (hG _ _ _ _ _).mpr ?_
    unfold fX11_after_b248 at hf
    refine lv_iload hx hb dX11_after_248 (lv_at hl 3 rfl) ?_
    refine lv_bipush (v := 112) hx hb dX11_after_250 (by decide +kernel) ?_
    refine lv_icmp_ge (tgt := 320) hx hb dX11_after_252 (by decide) (fun cq20 => ?_) (fun cq20 => ?_)
    · replace hf := if_at hf cq20
      exact (hG _ _ _ _ _).mp (J320 k207 hk207 k238 hk238 y3 y4 v0_thrown c1 c2 c5 c6 H locs ls (hP.sub [0, 1, 2, 3, 4, 5, 6, 7, 8] rfl) (hD.sub [0, 1, 2, 3, 4, 5, 6, 7, 8] (by decide) rfl) hS (lv_sub hl [0, 1, 2] rfl) hf)
    · replace hf := if_no hf cq20
      refine lv_aload_n hx hb dX11_after_255 rfl (lv_at hl 0 rfl) ?_
      refine va_get (D := (dC, dI)) (ci := 11) (v := .ref h5) (C := RX11) (T := TX11) (N := 71) hx hb hts inlX11 hown hK hP 0 rfl rfl 17 (by decide) w0_ (fun _ h9 => h9) rfl dX11_after_256 ?_
      refine lv_iload hx hb dX11_after_259 (lv_at hl 2 rfl) ?_
      have b21 := bd_in hf
      replace hf := bd_k hf
      refine va_zald hx hb hK hP 5 4 rfl rfl b21 dX11_after_261 ?_
      refine lv_topi (fun x22 e22 => ?_)
      replace hf := nm_at hf e22
      refine lv_if_eq (tgt := 320) hx hb dX11_after_262 (by decide) (fun cq23 => ?_) (fun cq23 => ?_)
      · replace hf := if_at hf cq23
        exact (hG _ _ _ _ _).mp (J320 k207 hk207 k238 hk238 y3 y4 v0_thrown c1 c2 c5 c6 H locs ls (hP.sub [0, 1, 2, 3, 4, 5, 6, 7, 8] rfl) (hD.sub [0, 1, 2, 3, 4, 5, 6, 7, 8] (by decide) rfl) hS (lv_sub hl [0, 1, 2] rfl) hf)
      · replace hf := if_no hf cq23
        refine lv_aload_n hx hb dX11_after_265 rfl (lv_at hl 0 rfl) ?_
        refine va_get (D := (dC, dI)) (ci := 11) (v := .ref h6) (C := RX11) (T := TX11) (N := 71) hx hb hts inlX11 hown hK hP 0 rfl rfl 18 (by decide) w2_ (fun _ h9 => h9) rfl dX11_after_266 ?_
        refine lv_iload hx hb dX11_after_269 (lv_at hl 3 rfl) ?_
        refine lv_aload_n hx hb dX11_after_271 rfl (lv_at hl 0 rfl) ?_
        refine va_get (D := (dC, dI)) (ci := 11) (v := .ref h6) (C := RX11) (T := TX11) (N := 71) hx hb hts inlX11 hown hK hP 0 rfl rfl 18 (by decide) w2_ (fun _ h9 => h9) rfl dX11_after_272 ?_
        refine lv_iload hx hb dX11_after_275 (lv_at hl 3 rfl) ?_
        have b24 := bd_in hf
        replace hf := bd_k hf
        refine va_zald hx hb hK hP 6 5 rfl rfl b24 dX11_after_277 ?_
        refine lv_topi (fun x25 e25 => ?_)
        replace hf := nm_at hf e25
        refine lv_if_ne (tgt := 308) hx hb dX11_after_278 (by decide) (fun cq26 => ?_) (fun cq26 => ?_)
        · replace hf := if_no hf cq26
          exact (hG _ _ _ _ _).mp (J308 k207 hk207 k238 hk238 k248 hk248 y3 y4 y5 y5 v0_thrown c1 c2 c5 c6 H locs ls (hP.sub [0, 1, 2, 3, 4, 5, 6, 7, 8] rfl) (hD.sub [0, 1, 2, 3, 4, 5, 6, 7, 8] (by decide) rfl) hS (lv_sub hl [0, 1, 2, 3] rfl) hf)
        · replace hf := if_at hf cq26
          refine lv_aload_n hx hb dX11_after_281 rfl (lv_at hl 0 rfl) ?_
          refine va_get (D := (dC, dI)) (ci := 11) (v := .ref h1) (C := RX11) (T := TX11) (N := 71) hx hb hts inlX11 hown hK hP 0 rfl rfl 15 (by decide) w3_ (fun _ h9 => h9) rfl dX11_after_282 ?_
          refine lv_sipush (v := 1344) hx hb dX11_after_285 (by decide +kernel) ?_
          refine lv_iload hx hb dX11_after_288 (lv_at hl 2 rfl) ?_
          refine lv_imul hx hb dX11_after_290 ?_
          refine lv_topi (fun x27 e27 => ?_)
          replace hf := nm_at hf e27
          refine lv_bipush (v := 112) hx hb dX11_after_291 (by decide +kernel) ?_
          refine lv_aload_n hx hb dX11_after_293 rfl (lv_at hl 0 rfl) ?_
          refine va_get (D := (dC, dI)) (ci := 11) (v := .ref h7) (C := RX11) (T := TX11) (N := 71) hx hb hts inlX11 hown hK hP 0 rfl rfl 7 (by decide) w4_ (fun _ h9 => h9) rfl dX11_after_294 ?_
          refine lv_iload_n hx hb dX11_after_297 rfl (lv_at hl 1 rfl) ?_
          have b28 := bd_in hf
          replace hf := bd_k hf
          refine va_iald hx hb hK hP 7 6 rfl rfl b28 dX11_after_298 ?_
          refine lv_topi (fun x29 e29 => ?_)
          replace hf := nm_at hf e29
          refine lv_imul hx hb dX11_after_299 ?_
          refine lv_topi (fun x30 e30 => ?_)
          replace hf := nm_at hf e30
          refine lv_iadd hx hb dX11_after_300 ?_
          refine lv_topi (fun x31 e31 => ?_)
          replace hf := nm_at hf e31
          refine lv_iload hx hb dX11_after_301 (lv_at hl 3 rfl) ?_
          refine lv_iadd hx hb dX11_after_303 ?_
          refine lv_topi (fun x32 e32 => ?_)
          replace hf := nm_at hf e32
          have b33 := bd_in hf
          replace hf := bd_k hf
          refine va_zald hx hb hK hP 1 0 rfl rfl b33 dX11_after_304 ?_
          refine lv_topi (fun x34 e34 => ?_)
          replace hf := nm_at hf e34
          refine lv_if_eq (tgt := 312) hx hb dX11_after_305 (by decide) (fun cq35 => ?_) (fun cq35 => ?_)
          · replace hf := if_at hf cq35
            refine lv_iconst (v := 0) hx hb dX11_after_312 (by decide +kernel) ?_
            exact (hG _ _ _ _ _).mp (J313 k207 hk207 k238 hk238 k248 hk248 y3 y4 y5 0 y5 v0_thrown c1 c2 c5 c6 H locs ls (hP.sub [0, 1, 2, 3, 4, 5, 6, 7, 8] rfl) (hD.sub [0, 1, 2, 3, 4, 5, 6, 7, 8] (by decide) rfl) hS (lv_sub hl [0, 1, 2, 3] rfl) hf)
          · replace hf := if_no hf cq35
            exact (hG _ _ _ _ _).mp (J308 k207 hk207 k238 hk238 k248 hk248 y3 y4 y5 y5 v0_thrown c1 c2 c5 c6 H locs ls (hP.sub [0, 1, 2, 3, 4, 5, 6, 7, 8] rfl) (hD.sub [0, 1, 2, 3, 4, 5, 6, 7, 8] (by decide) rfl) hS (lv_sub hl [0, 1, 2, 3] rfl) hf)
  have L248 : ∀ (k207 : Int32 → Int32 → (Nat → Int32) → (Nat → Int32) → (Nat → Int32) → (Nat → Int32) → Option (Int32 × Int32 × (Nat → Int32) × (Nat → Int32) × (Nat → Int32) × (Nat → Int32))) (hk207 : ∀ (y3 : Int32) (v0_thrown : Int32) (c1 : (Nat → Int32)) (c2 : (Nat → Int32)) (c5 : (Nat → Int32)) (c6 : (Nat → Int32)) (H : Heap) (locs : List Loc) (ls : Array Slot), va_P (dC, dI) vwCl (wX11_after h0 h1 h2 h3 h4 h5 h6 h7 h8 kc1 kc2 kc3 kc4 kc5 kc6 kc7 kc8 V0 v0_thrown v0_rules v0_size c1 c2 c3 c4 c5 c6 c7 c8) H → va_D A (wX11_after h0 h1 h2 h3 h4 h5 h6 h7 h8 kc1 kc2 kc3 kc4 kc5 kc6 kc7 kc8 V0 v0_thrown v0_rules v0_size c1 c2 c3 c4 c5 c6 c7 c8) → va_S A s.heap H locs → lv_has ls 6 [(0, .ref h0), (3, .int y3)] → k207 y3 v0_thrown c1 c2 c5 c6 = some o → G 0 0 H locs (F0 m 207 ls [])) (k238 : Int32 → Int32 → Int32 → (Nat → Int32) → (Nat → Int32) → (Nat → Int32) → (Nat → Int32) → Option (Int32 × Int32 × (Nat → Int32) × (Nat → Int32) × (Nat → Int32) × (Nat → Int32))) (hk238 : ∀ (y3 : Int32) (y4 : Int32) (v0_thrown : Int32) (c1 : (Nat → Int32)) (c2 : (Nat → Int32)) (c5 : (Nat → Int32)) (c6 : (Nat → Int32)) (H : Heap) (locs : List Loc) (ls : Array Slot), va_P (dC, dI) vwCl (wX11_after h0 h1 h2 h3 h4 h5 h6 h7 h8 kc1 kc2 kc3 kc4 kc5 kc6 kc7 kc8 V0 v0_thrown v0_rules v0_size c1 c2 c3 c4 c5 c6 c7 c8) H → va_D A (wX11_after h0 h1 h2 h3 h4 h5 h6 h7 h8 kc1 kc2 kc3 kc4 kc5 kc6 kc7 kc8 V0 v0_thrown v0_rules v0_size c1 c2 c3 c4 c5 c6 c7 c8) → va_S A s.heap H locs → lv_has ls 6 [(0, .ref h0), (3, .int y3), (4, .int y4)] → k238 y3 y4 v0_thrown c1 c2 c5 c6 = some o → G 0 0 H locs (F0 m 238 ls [])) (n : Nat), ∀ (y3 : Int32) (y4 : Int32) (y5 : Int32) (v0_thrown : Int32) (c1 : (Nat → Int32)) (c2 : (Nat → Int32)) (c5 : (Nat → Int32)) (c6 : (Nat → Int32)) (H : Heap) (locs : List Loc) (ls : Array Slot), va_P (dC, dI) vwCl (wX11_after h0 h1 h2 h3 h4 h5 h6 h7 h8 kc1 kc2 kc3 kc4 kc5 kc6 kc7 kc8 V0 v0_thrown v0_rules v0_size c1 c2 c3 c4 c5 c6 c7 c8) H → va_D A (wX11_after h0 h1 h2 h3 h4 h5 h6 h7 h8 kc1 kc2 kc3 kc4 kc5 kc6 kc7 kc8 V0 v0_thrown v0_rules v0_size c1 c2 c3 c4 c5 c6 c7 c8) → va_S A s.heap H locs → lv_has ls 6 [(0, .ref h0), (3, .int y3), (4, .int y4), (5, .int y5)] → fX11_after_l248 v0_rules v0_size c3 c4 c7 c8 k207 k238 n y3 y4 y5 v0_thrown c1 c2 c5 c6 = some o → G 0 0 H locs (F0 m 248 ls []) := by
    intro k207 hk207 k238 hk238 n
    induction n with
    | zero => intro y3 y4 y5 v0_thrown c1 c2 c5 c6 H locs ls _ _ _ _ hf; cases hf
    | succ n ih => exact B248 k207 hk207 k238 hk238 _ ih
  have B238 : ∀ (k207 : Int32 → Int32 → (Nat → Int32) → (Nat → Int32) → (Nat → Int32) → (Nat → Int32) → Option (Int32 × Int32 × (Nat → Int32) × (Nat → Int32) × (Nat → Int32) × (Nat → Int32))) (hk207 : ∀ (y3 : Int32) (v0_thrown : Int32) (c1 : (Nat → Int32)) (c2 : (Nat → Int32)) (c5 : (Nat → Int32)) (c6 : (Nat → Int32)) (H : Heap) (locs : List Loc) (ls : Array Slot), va_P (dC, dI) vwCl (wX11_after h0 h1 h2 h3 h4 h5 h6 h7 h8 kc1 kc2 kc3 kc4 kc5 kc6 kc7 kc8 V0 v0_thrown v0_rules v0_size c1 c2 c3 c4 c5 c6 c7 c8) H → va_D A (wX11_after h0 h1 h2 h3 h4 h5 h6 h7 h8 kc1 kc2 kc3 kc4 kc5 kc6 kc7 kc8 V0 v0_thrown v0_rules v0_size c1 c2 c3 c4 c5 c6 c7 c8) → va_S A s.heap H locs → lv_has ls 6 [(0, .ref h0), (3, .int y3)] → k207 y3 v0_thrown c1 c2 c5 c6 = some o → G 0 0 H locs (F0 m 207 ls [])) (k238 : Int32 → Int32 → Int32 → (Nat → Int32) → (Nat → Int32) → (Nat → Int32) → (Nat → Int32) → Option (Int32 × Int32 × (Nat → Int32) × (Nat → Int32) × (Nat → Int32) × (Nat → Int32))) (hk238 : ∀ (y3 : Int32) (y4 : Int32) (v0_thrown : Int32) (c1 : (Nat → Int32)) (c2 : (Nat → Int32)) (c5 : (Nat → Int32)) (c6 : (Nat → Int32)) (H : Heap) (locs : List Loc) (ls : Array Slot), va_P (dC, dI) vwCl (wX11_after h0 h1 h2 h3 h4 h5 h6 h7 h8 kc1 kc2 kc3 kc4 kc5 kc6 kc7 kc8 V0 v0_thrown v0_rules v0_size c1 c2 c3 c4 c5 c6 c7 c8) H → va_D A (wX11_after h0 h1 h2 h3 h4 h5 h6 h7 h8 kc1 kc2 kc3 kc4 kc5 kc6 kc7 kc8 V0 v0_thrown v0_rules v0_size c1 c2 c3 c4 c5 c6 c7 c8) → va_S A s.heap H locs → lv_has ls 6 [(0, .ref h0), (3, .int y3), (4, .int y4)] → k238 y3 y4 v0_thrown c1 c2 c5 c6 = some o → G 0 0 H locs (F0 m 238 ls [])), ∀ (y3 : Int32) (y4 : Int32) (v0_thrown : Int32) (c1 : (Nat → Int32)) (c2 : (Nat → Int32)) (c5 : (Nat → Int32)) (c6 : (Nat → Int32)) (H : Heap) (locs : List Loc) (ls : Array Slot), va_P (dC, dI) vwCl (wX11_after h0 h1 h2 h3 h4 h5 h6 h7 h8 kc1 kc2 kc3 kc4 kc5 kc6 kc7 kc8 V0 v0_thrown v0_rules v0_size c1 c2 c3 c4 c5 c6 c7 c8) H → va_D A (wX11_after h0 h1 h2 h3 h4 h5 h6 h7 h8 kc1 kc2 kc3 kc4 kc5 kc6 kc7 kc8 V0 v0_thrown v0_rules v0_size c1 c2 c3 c4 c5 c6 c7 c8) → va_S A s.heap H locs → lv_has ls 6 [(0, .ref h0), (3, .int y3), (4, .int y4)] → fX11_after_b238 v0_rules v0_size c3 c4 c7 c8 k207 k238 y3 y4 v0_thrown c1 c2 c5 c6 = some o → G 0 0 H locs (F0 m 238 ls []) := by
    intro k207 hk207 k238 hk238 y3 y4 v0_thrown c1 c2 c5 c6 H locs ls hP hD hS hl hf
    refine (hG _ _ _ _ _).mpr ?_
    unfold fX11_after_b238 at hf
    refine lv_iload hx hb dX11_after_238 (lv_at hl 2 rfl) ?_
    refine lv_bipush (v := 112) hx hb dX11_after_240 (by decide +kernel) ?_
    refine lv_icmp_ge (tgt := 326) hx hb dX11_after_242 (by decide) (fun cq36 => ?_) (fun cq36 => ?_)
    · replace hf := if_at hf cq36
      refine lv_iconst (v := 0) hx hb dX11_after_326 (by decide +kernel) ?_
      refine lv_istore (lv' := [(4, .int 0), (0, .ref h0), (3, .int y3)]) hx hb dX11_after_327 hl (by decide) rfl (fun ls hl => ?_)
      exact (hG _ _ _ _ _).mp (L329 k207 hk207 FU y3 0 v0_thrown c1 c2 c5 c6 H locs ls (hP.sub [0, 1, 2, 3, 4, 5, 6, 7, 8] rfl) (hD.sub [0, 1, 2, 3, 4, 5, 6, 7, 8] (by decide) rfl) hS (lv_sub hl [1, 2, 0] rfl) hf)
    · replace hf := if_no hf cq36
      refine lv_iconst (v := 0) hx hb dX11_after_245 (by decide +kernel) ?_
      refine lv_istore (lv' := [(5, .int 0), (0, .ref h0), (3, .int y3), (4, .int y4)]) hx hb dX11_after_246 hl (by decide) rfl (fun ls hl => ?_)
      exact (hG _ _ _ _ _).mp (L248 k207 hk207 k238 hk238 FU y3 y4 0 v0_thrown c1 c2 c5 c6 H locs ls (hP.sub [0, 1, 2, 3, 4, 5, 6, 7, 8] rfl) (hD.sub [0, 1, 2, 3, 4, 5, 6, 7, 8] (by decide) rfl) hS (lv_sub hl [1, 2, 3, 0] rfl) hf)
  have L238 : ∀ (k207 : Int32 → Int32 → (Nat → Int32) → (Nat → Int32) → (Nat → Int32) → (Nat → Int32) → Option (Int32 × Int32 × (Nat → Int32) × (Nat → Int32) × (Nat → Int32) × (Nat → Int32))) (hk207 : ∀ (y3 : Int32) (v0_thrown : Int32) (c1 : (Nat → Int32)) (c2 : (Nat → Int32)) (c5 : (Nat → Int32)) (c6 : (Nat → Int32)) (H : Heap) (locs : List Loc) (ls : Array Slot), va_P (dC, dI) vwCl (wX11_after h0 h1 h2 h3 h4 h5 h6 h7 h8 kc1 kc2 kc3 kc4 kc5 kc6 kc7 kc8 V0 v0_thrown v0_rules v0_size c1 c2 c3 c4 c5 c6 c7 c8) H → va_D A (wX11_after h0 h1 h2 h3 h4 h5 h6 h7 h8 kc1 kc2 kc3 kc4 kc5 kc6 kc7 kc8 V0 v0_thrown v0_rules v0_size c1 c2 c3 c4 c5 c6 c7 c8) → va_S A s.heap H locs → lv_has ls 6 [(0, .ref h0), (3, .int y3)] → k207 y3 v0_thrown c1 c2 c5 c6 = some o → G 0 0 H locs (F0 m 207 ls [])) (n : Nat), ∀ (y3 : Int32) (y4 : Int32) (v0_thrown : Int32) (c1 : (Nat → Int32)) (c2 : (Nat → Int32)) (c5 : (Nat → Int32)) (c6 : (Nat → Int32)) (H : Heap) (locs : List Loc) (ls : Array Slot), va_P (dC, dI) vwCl (wX11_after h0 h1 h2 h3 h4 h5 h6 h7 h8 kc1 kc2 kc3 kc4 kc5 kc6 kc7 kc8 V0 v0_thrown v0_rules v0_size c1 c2 c3 c4 c5 c6 c7 c8) H → va_D A (wX11_after h0 h1 h2 h3 h4 h5 h6 h7 h8 kc1 kc2 kc3 kc4 kc5 kc6 kc7 kc8 V0 v0_thrown v0_rules v0_size c1 c2 c3 c4 c5 c6 c7 c8) → va_S A s.heap H locs → lv_has ls 6 [(0, .ref h0), (3, .int y3), (4, .int y4)] → fX11_after_l238 v0_rules v0_size c3 c4 c7 c8 k207 n y3 y4 v0_thrown c1 c2 c5 c6 = some o → G 0 0 H locs (F0 m 238 ls []) := by
    intro k207 hk207 n
    induction n with
    | zero => intro y3 y4 v0_thrown c1 c2 c5 c6 H locs ls _ _ _ _ hf; cases hf
    | succ n ih => exact B238 k207 hk207 _ ih
  have B214 : ∀ (k207 : Int32 → Int32 → (Nat → Int32) → (Nat → Int32) → (Nat → Int32) → (Nat → Int32) → Option (Int32 × Int32 × (Nat → Int32) × (Nat → Int32) × (Nat → Int32) × (Nat → Int32))) (hk207 : ∀ (y3 : Int32) (v0_thrown : Int32) (c1 : (Nat → Int32)) (c2 : (Nat → Int32)) (c5 : (Nat → Int32)) (c6 : (Nat → Int32)) (H : Heap) (locs : List Loc) (ls : Array Slot), va_P (dC, dI) vwCl (wX11_after h0 h1 h2 h3 h4 h5 h6 h7 h8 kc1 kc2 kc3 kc4 kc5 kc6 kc7 kc8 V0 v0_thrown v0_rules v0_size c1 c2 c3 c4 c5 c6 c7 c8) H → va_D A (wX11_after h0 h1 h2 h3 h4 h5 h6 h7 h8 kc1 kc2 kc3 kc4 kc5 kc6 kc7 kc8 V0 v0_thrown v0_rules v0_size c1 c2 c3 c4 c5 c6 c7 c8) → va_S A s.heap H locs → lv_has ls 6 [(0, .ref h0), (3, .int y3)] → k207 y3 v0_thrown c1 c2 c5 c6 = some o → G 0 0 H locs (F0 m 207 ls [])) (k214 : Int32 → Int32 → Int32 → (Nat → Int32) → (Nat → Int32) → (Nat → Int32) → (Nat → Int32) → Option (Int32 × Int32 × (Nat → Int32) × (Nat → Int32) × (Nat → Int32) × (Nat → Int32))) (hk214 : ∀ (y3 : Int32) (y4 : Int32) (v0_thrown : Int32) (c1 : (Nat → Int32)) (c2 : (Nat → Int32)) (c5 : (Nat → Int32)) (c6 : (Nat → Int32)) (H : Heap) (locs : List Loc) (ls : Array Slot), va_P (dC, dI) vwCl (wX11_after h0 h1 h2 h3 h4 h5 h6 h7 h8 kc1 kc2 kc3 kc4 kc5 kc6 kc7 kc8 V0 v0_thrown v0_rules v0_size c1 c2 c3 c4 c5 c6 c7 c8) H → va_D A (wX11_after h0 h1 h2 h3 h4 h5 h6 h7 h8 kc1 kc2 kc3 kc4 kc5 kc6 kc7 kc8 V0 v0_thrown v0_rules v0_size c1 c2 c3 c4 c5 c6 c7 c8) → va_S A s.heap H locs → lv_has ls 6 [(0, .ref h0), (3, .int y3), (4, .int y4)] → k214 y3 y4 v0_thrown c1 c2 c5 c6 = some o → G 0 0 H locs (F0 m 214 ls [])), ∀ (y3 : Int32) (y4 : Int32) (v0_thrown : Int32) (c1 : (Nat → Int32)) (c2 : (Nat → Int32)) (c5 : (Nat → Int32)) (c6 : (Nat → Int32)) (H : Heap) (locs : List Loc) (ls : Array Slot), va_P (dC, dI) vwCl (wX11_after h0 h1 h2 h3 h4 h5 h6 h7 h8 kc1 kc2 kc3 kc4 kc5 kc6 kc7 kc8 V0 v0_thrown v0_rules v0_size c1 c2 c3 c4 c5 c6 c7 c8) H → va_D A (wX11_after h0 h1 h2 h3 h4 h5 h6 h7 h8 kc1 kc2 kc3 kc4 kc5 kc6 kc7 kc8 V0 v0_thrown v0_rules v0_size c1 c2 c3 c4 c5 c6 c7 c8) → va_S A s.heap H locs → lv_has ls 6 [(0, .ref h0), (3, .int y3), (4, .int y4)] → fX11_after_b214 v0_rules v0_size c3 c4 c7 c8 k207 k214 y3 y4 v0_thrown c1 c2 c5 c6 = some o → G 0 0 H locs (F0 m 214 ls []) := by
    intro k207 hk207 k214 hk214 y3 y4 v0_thrown c1 c2 c5 c6 H locs ls hP hD hS hl hf
    refine (hG _ _ _ _ _).mpr ?_
    unfold fX11_after_b214 at hf
    refine lv_iload hx hb dX11_after_214 (lv_at hl 2 rfl) ?_
    refine lv_bipush (v := 112) hx hb dX11_after_216 (by decide +kernel) ?_
    refine lv_icmp_ge (tgt := 235) hx hb dX11_after_218 (by decide) (fun cq37 => ?_) (fun cq37 => ?_)
    · replace hf := if_at hf cq37
      refine lv_iconst (v := 0) hx hb dX11_after_235 (by decide +kernel) ?_
      refine lv_istore (lv' := [(4, .int 0), (0, .ref h0), (3, .int y3)]) hx hb dX11_after_236 hl (by decide) rfl (fun ls hl => ?_)
      exact (hG _ _ _ _ _).mp (L238 k207 hk207 FU y3 0 v0_thrown c1 c2 c5 c6 H locs ls (hP.sub [0, 1, 2, 3, 4, 5, 6, 7, 8] rfl) (hD.sub [0, 1, 2, 3, 4, 5, 6, 7, 8] (by decide) rfl) hS (lv_sub hl [1, 2, 0] rfl) hf)
    · replace hf := if_no hf cq37
      refine lv_aload_n hx hb dX11_after_221 rfl (lv_at hl 0 rfl) ?_
      refine va_get (D := (dC, dI)) (ci := 11) (v := .ref h6) (C := RX11) (T := TX11) (N := 71) hx hb hts inlX11 hown hK hP 0 rfl rfl 18 (by decide) w2_ (fun _ h9 => h9) rfl dX11_after_222 ?_
      refine lv_iload hx hb dX11_after_225 (lv_at hl 2 rfl) ?_
      refine lv_iconst (v := 0) hx hb dX11_after_227 (by decide +kernel) ?_
      have b38 := bd_in hf
      replace hf := bd_k hf
      obtain ⟨c38x, e38⟩ : ∃ y, y = upd c6 y4.toNatClampNeg (vp_nar .boolean 0) := ⟨_, rfl⟩
      replace hf := nm_at hf e38
      refine va_zast hx hb hK hP hD hS 6 5 rfl rfl b38 dX11_after_228 (fun H locs hP hD hS => ?_)
      have hP : va_P (dC, dI) vwCl (wX11_after h0 h1 h2 h3 h4 h5 h6 h7 h8 kc1 kc2 kc3 kc4 kc5 kc6 kc7 kc8 V0 v0_thrown v0_rules v0_size c1 c2 c3 c4 c5 c38x c7 c8) H := by rw [e38]; exact hP
      have hD : va_D A (wX11_after h0 h1 h2 h3 h4 h5 h6 h7 h8 kc1 kc2 kc3 kc4 kc5 kc6 kc7 kc8 V0 v0_thrown v0_rules v0_size c1 c2 c3 c4 c5 c38x c7 c8) := by rw [e38]; exact hD
      obtain ⟨x39, e39⟩ : ∃ y : Int32, y = y4 + 1 := ⟨_, rfl⟩
      replace hf := nm_at hf e39
      refine lv_iinc (v := x39) (lv' := [(4, .int x39), (0, .ref h0), (3, .int y3)]) hx hb dX11_after_229 hl (k := 2) rfl (by rw [e39]; rfl) (by decide) rfl (fun ls hl => ?_)
      refine lv_goto (tgt := 214) hx hb dX11_after_232 (by decide) ?_
      exact (hG _ _ _ _ _).mp (hk214 y3 x39 v0_thrown c1 c2 c5 c38x H locs ls (hP.sub [0, 1, 2, 3, 4, 5, 6, 7, 8] rfl) (hD.sub [0, 1, 2, 3, 4, 5, 6, 7, 8] (by decide) rfl) hS (lv_sub hl [1, 2, 0] rfl) hf)
  have L214 : ∀ (k207 : Int32 → Int32 → (Nat → Int32) → (Nat → Int32) → (Nat → Int32) → (Nat → Int32) → Option (Int32 × Int32 × (Nat → Int32) × (Nat → Int32) × (Nat → Int32) × (Nat → Int32))) (hk207 : ∀ (y3 : Int32) (v0_thrown : Int32) (c1 : (Nat → Int32)) (c2 : (Nat → Int32)) (c5 : (Nat → Int32)) (c6 : (Nat → Int32)) (H : Heap) (locs : List Loc) (ls : Array Slot), va_P (dC, dI) vwCl (wX11_after h0 h1 h2 h3 h4 h5 h6 h7 h8 kc1 kc2 kc3 kc4 kc5 kc6 kc7 kc8 V0 v0_thrown v0_rules v0_size c1 c2 c3 c4 c5 c6 c7 c8) H → va_D A (wX11_after h0 h1 h2 h3 h4 h5 h6 h7 h8 kc1 kc2 kc3 kc4 kc5 kc6 kc7 kc8 V0 v0_thrown v0_rules v0_size c1 c2 c3 c4 c5 c6 c7 c8) → va_S A s.heap H locs → lv_has ls 6 [(0, .ref h0), (3, .int y3)] → k207 y3 v0_thrown c1 c2 c5 c6 = some o → G 0 0 H locs (F0 m 207 ls [])) (n : Nat), ∀ (y3 : Int32) (y4 : Int32) (v0_thrown : Int32) (c1 : (Nat → Int32)) (c2 : (Nat → Int32)) (c5 : (Nat → Int32)) (c6 : (Nat → Int32)) (H : Heap) (locs : List Loc) (ls : Array Slot), va_P (dC, dI) vwCl (wX11_after h0 h1 h2 h3 h4 h5 h6 h7 h8 kc1 kc2 kc3 kc4 kc5 kc6 kc7 kc8 V0 v0_thrown v0_rules v0_size c1 c2 c3 c4 c5 c6 c7 c8) H → va_D A (wX11_after h0 h1 h2 h3 h4 h5 h6 h7 h8 kc1 kc2 kc3 kc4 kc5 kc6 kc7 kc8 V0 v0_thrown v0_rules v0_size c1 c2 c3 c4 c5 c6 c7 c8) → va_S A s.heap H locs → lv_has ls 6 [(0, .ref h0), (3, .int y3), (4, .int y4)] → fX11_after_l214 v0_rules v0_size c3 c4 c7 c8 k207 n y3 y4 v0_thrown c1 c2 c5 c6 = some o → G 0 0 H locs (F0 m 214 ls []) := by
    intro k207 hk207 n
    induction n with
    | zero => intro y3 y4 v0_thrown c1 c2 c5 c6 H locs ls _ _ _ _ hf; cases hf
    | succ n ih => exact B214 k207 hk207 _ ih
  have B207 : ∀ (k207 : Int32 → Int32 → (Nat → Int32) → (Nat → Int32) → (Nat → Int32) → (Nat → Int32) → Option (Int32 × Int32 × (Nat → Int32) × (Nat → Int32) × (Nat → Int32) × (Nat → Int32))) (hk207 : ∀ (y3 : Int32) (v0_thrown : Int32) (c1 : (Nat → Int32)) (c2 : (Nat → Int32)) (c5 : (Nat → Int32)) (c6 : (Nat → Int32)) (H : Heap) (locs : List Loc) (ls : Array Slot), va_P (dC, dI) vwCl (wX11_after h0 h1 h2 h3 h4 h5 h6 h7 h8 kc1 kc2 kc3 kc4 kc5 kc6 kc7 kc8 V0 v0_thrown v0_rules v0_size c1 c2 c3 c4 c5 c6 c7 c8) H → va_D A (wX11_after h0 h1 h2 h3 h4 h5 h6 h7 h8 kc1 kc2 kc3 kc4 kc5 kc6 kc7 kc8 V0 v0_thrown v0_rules v0_size c1 c2 c3 c4 c5 c6 c7 c8) → va_S A s.heap H locs → lv_has ls 6 [(0, .ref h0), (3, .int y3)] → k207 y3 v0_thrown c1 c2 c5 c6 = some o → G 0 0 H locs (F0 m 207 ls [])), ∀ (y3 : Int32) (v0_thrown : Int32) (c1 : (Nat → Int32)) (c2 : (Nat → Int32)) (c5 : (Nat → Int32)) (c6 : (Nat → Int32)) (H : Heap) (locs : List Loc) (ls : Array Slot), va_P (dC, dI) vwCl (wX11_after h0 h1 h2 h3 h4 h5 h6 h7 h8 kc1 kc2 kc3 kc4 kc5 kc6 kc7 kc8 V0 v0_thrown v0_rules v0_size c1 c2 c3 c4 c5 c6 c7 c8) H → va_D A (wX11_after h0 h1 h2 h3 h4 h5 h6 h7 h8 kc1 kc2 kc3 kc4 kc5 kc6 kc7 kc8 V0 v0_thrown v0_rules v0_size c1 c2 c3 c4 c5 c6 c7 c8) → va_S A s.heap H locs → lv_has ls 6 [(0, .ref h0), (3, .int y3)] → fX11_after_b207 v0_rules v0_size c3 c4 c7 c8  k207 y3 v0_thrown c1 c2 c5 c6 = some o → G 0 0 H locs (F0 m 207 ls []) := by
    intro  k207 hk207 y3 v0_thrown c1 c2 c5 c6 H locs ls hP hD hS hl hf
    refine (hG _ _ _ _ _).mpr ?_
    unfold fX11_after_b207 at hf
    refine lv_iload_n hx hb dX11_after_207 rfl (lv_at hl 1 rfl) ?_
    refine lv_if_lt (tgt := 362) hx hb dX11_after_208 (by decide) (fun cq40 => ?_) (fun cq40 => ?_)
    · replace hf := if_at hf cq40
      refine lv_iconst (v := 0) hx hb dX11_after_362 (by decide +kernel) ?_
      refine lv_istore_n (lv' := [(3, .int 0), (0, .ref h0)]) hx hb dX11_after_363 rfl hl (by decide) rfl (fun ls hl => ?_)
      refine lv_iconst (v := 0) hx hb dX11_after_364 (by decide +kernel) ?_
      refine lv_istore (lv' := [(4, .int 0), (3, .int 0), (0, .ref h0)]) hx hb dX11_after_365 hl (by decide) rfl (fun ls hl => ?_)
      exact (hG _ _ _ _ _).mp (L367 FU 0 0 v0_thrown c1 c2 c5 c6 H locs ls (hP.sub [0, 1, 2, 3, 4, 5, 6, 7, 8] rfl) (hD.sub [0, 1, 2, 3, 4, 5, 6, 7, 8] (by decide) rfl) hS (lv_sub hl [2, 1, 0] rfl) hf)
    · replace hf := if_no hf cq40
      refine lv_iconst (v := 0) hx hb dX11_after_211 (by decide +kernel) ?_
      refine lv_istore (lv' := [(4, .int 0), (0, .ref h0), (3, .int y3)]) hx hb dX11_after_212 hl (by decide) rfl (fun ls hl => ?_)
      exact (hG _ _ _ _ _).mp (L214 k207 hk207 FU y3 0 v0_thrown c1 c2 c5 c6 H locs ls (hP.sub [0, 1, 2, 3, 4, 5, 6, 7, 8] rfl) (hD.sub [0, 1, 2, 3, 4, 5, 6, 7, 8] (by decide) rfl) hS (lv_sub hl [1, 2, 0] rfl) hf)
  have L207 : ∀ (n : Nat), ∀ (y3 : Int32) (v0_thrown : Int32) (c1 : (Nat → Int32)) (c2 : (Nat → Int32)) (c5 : (Nat → Int32)) (c6 : (Nat → Int32)) (H : Heap) (locs : List Loc) (ls : Array Slot), va_P (dC, dI) vwCl (wX11_after h0 h1 h2 h3 h4 h5 h6 h7 h8 kc1 kc2 kc3 kc4 kc5 kc6 kc7 kc8 V0 v0_thrown v0_rules v0_size c1 c2 c3 c4 c5 c6 c7 c8) H → va_D A (wX11_after h0 h1 h2 h3 h4 h5 h6 h7 h8 kc1 kc2 kc3 kc4 kc5 kc6 kc7 kc8 V0 v0_thrown v0_rules v0_size c1 c2 c3 c4 c5 c6 c7 c8) → va_S A s.heap H locs → lv_has ls 6 [(0, .ref h0), (3, .int y3)] → fX11_after_l207 v0_rules v0_size c3 c4 c7 c8  n y3 v0_thrown c1 c2 c5 c6 = some o → G 0 0 H locs (F0 m 207 ls []) := by
    intro  n
    induction n with
    | zero => intro y3 v0_thrown c1 c2 c5 c6 H locs ls _ _ _ _ hf; cases hf
    | succ n ih => exact B207  _ ih
  have J193 : ∀ (k158 : Int32 → Int32 → Int32 → (Nat → Int32) → (Nat → Int32) → (Nat → Int32) → (Nat → Int32) → Option (Int32 × Int32 × (Nat → Int32) × (Nat → Int32) × (Nat → Int32) × (Nat → Int32))) (hk158 : ∀ (y1 : Int32) (y3 : Int32) (v0_thrown : Int32) (c1 : (Nat → Int32)) (c2 : (Nat → Int32)) (c5 : (Nat → Int32)) (c6 : (Nat → Int32)) (H : Heap) (locs : List Loc) (ls : Array Slot), va_P (dC, dI) vwCl (wX11_after h0 h1 h2 h3 h4 h5 h6 h7 h8 kc1 kc2 kc3 kc4 kc5 kc6 kc7 kc8 V0 v0_thrown v0_rules v0_size c1 c2 c3 c4 c5 c6 c7 c8) H → va_D A (wX11_after h0 h1 h2 h3 h4 h5 h6 h7 h8 kc1 kc2 kc3 kc4 kc5 kc6 kc7 kc8 V0 v0_thrown v0_rules v0_size c1 c2 c3 c4 c5 c6 c7 c8) → va_S A s.heap H locs → lv_has ls 6 [(0, .ref h0), (1, .int y1), (3, .int y3)] → k158 y1 y3 v0_thrown c1 c2 c5 c6 = some o → G 0 0 H locs (F0 m 158 ls [])), ∀ (y1 : Int32) (y3 : Int32) (z0 : Int32) (z1 : Int32) (v0_thrown : Int32) (c1 : (Nat → Int32)) (c2 : (Nat → Int32)) (c5 : (Nat → Int32)) (c6 : (Nat → Int32)) (H : Heap) (locs : List Loc) (ls : Array Slot), va_P (dC, dI) vwCl (wX11_after h0 h1 h2 h3 h4 h5 h6 h7 h8 kc1 kc2 kc3 kc4 kc5 kc6 kc7 kc8 V0 v0_thrown v0_rules v0_size c1 c2 c3 c4 c5 c6 c7 c8) H → va_D A (wX11_after h0 h1 h2 h3 h4 h5 h6 h7 h8 kc1 kc2 kc3 kc4 kc5 kc6 kc7 kc8 V0 v0_thrown v0_rules v0_size c1 c2 c3 c4 c5 c6 c7 c8) → va_S A s.heap H locs → lv_has ls 6 [(0, .ref h0), (1, .int y1), (3, .int y3)] → fX11_after_p193 v0_rules v0_size c3 c4 c7 c8 k158 y1 y3 z0 z1 v0_thrown c1 c2 c5 c6 = some o → G 0 0 H locs (F0 m 193 ls [.int z0, .int z1, .ref h5]) := by
    intro k158 hk158 y1 y3 z0 z1 v0_thrown c1 c2 c5 c6 H locs ls hP hD hS hl hf
    refine (hG _ _ _ _ _).mpr ?_
    unfold fX11_after_p193 at hf
    have b41 := bd_in hf
    replace hf := bd_k hf
    obtain ⟨c41x, e41⟩ : ∃ y, y = upd c5 z1.toNatClampNeg (vp_nar .boolean z0) := ⟨_, rfl⟩
    replace hf := nm_at hf e41
    refine va_zast hx hb hK hP hD hS 5 4 rfl rfl b41 dX11_after_193 (fun H locs hP hD hS => ?_)
    have hP : va_P (dC, dI) vwCl (wX11_after h0 h1 h2 h3 h4 h5 h6 h7 h8 kc1 kc2 kc3 kc4 kc5 kc6 kc7 kc8 V0 v0_thrown v0_rules v0_size c1 c2 c3 c4 c41x c6 c7 c8) H := by rw [e41]; exact hP
    have hD : va_D A (wX11_after h0 h1 h2 h3 h4 h5 h6 h7 h8 kc1 kc2 kc3 kc4 kc5 kc6 kc7 kc8 V0 v0_thrown v0_rules v0_size c1 c2 c3 c4 c41x c6 c7 c8) := by rw [e41]; exact hD
    obtain ⟨x42, e42⟩ : ∃ y : Int32, y = y3 + 1 := ⟨_, rfl⟩
    replace hf := nm_at hf e42
    refine lv_iinc (v := x42) (lv' := [(3, .int x42), (0, .ref h0), (1, .int y1)]) hx hb dX11_after_194 hl (k := 2) rfl (by rw [e42]; rfl) (by decide) rfl (fun ls hl => ?_)
    refine lv_goto (tgt := 158) hx hb dX11_after_197 (by decide) ?_
    exact (hG _ _ _ _ _).mp (hk158 y1 x42 v0_thrown c1 c2 c41x c6 H locs ls (hP.sub [0, 1, 2, 3, 4, 5, 6, 7, 8] rfl) (hD.sub [0, 1, 2, 3, 4, 5, 6, 7, 8] (by decide) rfl) hS (lv_sub hl [1, 2, 0] rfl) hf)
  have J188 : ∀ (k158 : Int32 → Int32 → Int32 → (Nat → Int32) → (Nat → Int32) → (Nat → Int32) → (Nat → Int32) → Option (Int32 × Int32 × (Nat → Int32) × (Nat → Int32) × (Nat → Int32) × (Nat → Int32))) (hk158 : ∀ (y1 : Int32) (y3 : Int32) (v0_thrown : Int32) (c1 : (Nat → Int32)) (c2 : (Nat → Int32)) (c5 : (Nat → Int32)) (c6 : (Nat → Int32)) (H : Heap) (locs : List Loc) (ls : Array Slot), va_P (dC, dI) vwCl (wX11_after h0 h1 h2 h3 h4 h5 h6 h7 h8 kc1 kc2 kc3 kc4 kc5 kc6 kc7 kc8 V0 v0_thrown v0_rules v0_size c1 c2 c3 c4 c5 c6 c7 c8) H → va_D A (wX11_after h0 h1 h2 h3 h4 h5 h6 h7 h8 kc1 kc2 kc3 kc4 kc5 kc6 kc7 kc8 V0 v0_thrown v0_rules v0_size c1 c2 c3 c4 c5 c6 c7 c8) → va_S A s.heap H locs → lv_has ls 6 [(0, .ref h0), (1, .int y1), (3, .int y3)] → k158 y1 y3 v0_thrown c1 c2 c5 c6 = some o → G 0 0 H locs (F0 m 158 ls [])), ∀ (y1 : Int32) (y3 : Int32) (z0 : Int32) (v0_thrown : Int32) (c1 : (Nat → Int32)) (c2 : (Nat → Int32)) (c5 : (Nat → Int32)) (c6 : (Nat → Int32)) (H : Heap) (locs : List Loc) (ls : Array Slot), va_P (dC, dI) vwCl (wX11_after h0 h1 h2 h3 h4 h5 h6 h7 h8 kc1 kc2 kc3 kc4 kc5 kc6 kc7 kc8 V0 v0_thrown v0_rules v0_size c1 c2 c3 c4 c5 c6 c7 c8) H → va_D A (wX11_after h0 h1 h2 h3 h4 h5 h6 h7 h8 kc1 kc2 kc3 kc4 kc5 kc6 kc7 kc8 V0 v0_thrown v0_rules v0_size c1 c2 c3 c4 c5 c6 c7 c8) → va_S A s.heap H locs → lv_has ls 6 [(0, .ref h0), (1, .int y1), (3, .int y3)] → fX11_after_p188 v0_rules v0_size c3 c4 c7 c8 k158 y1 y3 z0 v0_thrown c1 c2 c5 c6 = some o → G 0 0 H locs (F0 m 188 ls [.int z0, .ref h5]) := by
    intro k158 hk158 y1 y3 z0 v0_thrown c1 c2 c5 c6 H locs ls hP hD hS hl hf
    refine (hG _ _ _ _ _).mpr ?_
    unfold fX11_after_p188 at hf
    refine lv_iconst (v := 1) hx hb dX11_after_188 (by decide +kernel) ?_
    refine lv_goto (tgt := 193) hx hb dX11_after_189 (by decide) ?_
    exact (hG _ _ _ _ _).mp (J193 k158 hk158 y1 y3 1 z0 v0_thrown c1 c2 c5 c6 H locs ls (hP.sub [0, 1, 2, 3, 4, 5, 6, 7, 8] rfl) (hD.sub [0, 1, 2, 3, 4, 5, 6, 7, 8] (by decide) rfl) hS (lv_sub hl [0, 1, 2] rfl) hf)
  have B158 : ∀ (k158 : Int32 → Int32 → Int32 → (Nat → Int32) → (Nat → Int32) → (Nat → Int32) → (Nat → Int32) → Option (Int32 × Int32 × (Nat → Int32) × (Nat → Int32) × (Nat → Int32) × (Nat → Int32))) (hk158 : ∀ (y1 : Int32) (y3 : Int32) (v0_thrown : Int32) (c1 : (Nat → Int32)) (c2 : (Nat → Int32)) (c5 : (Nat → Int32)) (c6 : (Nat → Int32)) (H : Heap) (locs : List Loc) (ls : Array Slot), va_P (dC, dI) vwCl (wX11_after h0 h1 h2 h3 h4 h5 h6 h7 h8 kc1 kc2 kc3 kc4 kc5 kc6 kc7 kc8 V0 v0_thrown v0_rules v0_size c1 c2 c3 c4 c5 c6 c7 c8) H → va_D A (wX11_after h0 h1 h2 h3 h4 h5 h6 h7 h8 kc1 kc2 kc3 kc4 kc5 kc6 kc7 kc8 V0 v0_thrown v0_rules v0_size c1 c2 c3 c4 c5 c6 c7 c8) → va_S A s.heap H locs → lv_has ls 6 [(0, .ref h0), (1, .int y1), (3, .int y3)] → k158 y1 y3 v0_thrown c1 c2 c5 c6 = some o → G 0 0 H locs (F0 m 158 ls [])), ∀ (y1 : Int32) (y3 : Int32) (v0_thrown : Int32) (c1 : (Nat → Int32)) (c2 : (Nat → Int32)) (c5 : (Nat → Int32)) (c6 : (Nat → Int32)) (H : Heap) (locs : List Loc) (ls : Array Slot), va_P (dC, dI) vwCl (wX11_after h0 h1 h2 h3 h4 h5 h6 h7 h8 kc1 kc2 kc3 kc4 kc5 kc6 kc7 kc8 V0 v0_thrown v0_rules v0_size c1 c2 c3 c4 c5 c6 c7 c8) H → va_D A (wX11_after h0 h1 h2 h3 h4 h5 h6 h7 h8 kc1 kc2 kc3 kc4 kc5 kc6 kc7 kc8 V0 v0_thrown v0_rules v0_size c1 c2 c3 c4 c5 c6 c7 c8) → va_S A s.heap H locs → lv_has ls 6 [(0, .ref h0), (1, .int y1), (3, .int y3)] → fX11_after_b158 v0_rules v0_size c3 c4 c7 c8  k158 y1 y3 v0_thrown c1 c2 c5 c6 = some o → G 0 0 H locs (F0 m 158 ls []) := by
    intro  k158 hk158 y1 y3 v0_thrown c1 c2 c5 c6 H locs ls hP hD hS hl hf
    refine (hG _ _ _ _ _).mpr ?_
    unfold fX11_after_b158 at hf
    refine lv_iload_n hx hb dX11_after_158 rfl (lv_at hl 2 rfl) ?_
    refine lv_bipush (v := 112) hx hb dX11_after_159 (by decide +kernel) ?_
    refine lv_icmp_ge (tgt := 200) hx hb dX11_after_161 (by decide) (fun cq43 => ?_) (fun cq43 => ?_)
    · replace hf := if_at hf cq43
      refine lv_aload_n hx hb dX11_after_200 rfl (lv_at hl 0 rfl) ?_
      refine va_get (D := (dC, dI)) (ci := 11) (v := .int v0_size) (C := RX11) (T := TX11) (N := 71) hx hb hts inlX11 hown hK hP 0 rfl rfl 6 (by decide) w5_ (fun _ h9 => h9) rfl dX11_after_201 ?_
      refine lv_iconst (v := 1) hx hb dX11_after_204 (by decide +kernel) ?_
      refine lv_isub hx hb dX11_after_205 ?_
      refine lv_topi (fun x44 e44 => ?_)
      replace hf := nm_at hf e44
      refine lv_istore_n (lv' := [(3, .int x44), (0, .ref h0), (1, .int y1)]) hx hb dX11_after_206 rfl hl (by decide) rfl (fun ls hl => ?_)
      exact (hG _ _ _ _ _).mp (L207 FU x44 v0_thrown c1 c2 c5 c6 H locs ls (hP.sub [0, 1, 2, 3, 4, 5, 6, 7, 8] rfl) (hD.sub [0, 1, 2, 3, 4, 5, 6, 7, 8] (by decide) rfl) hS (lv_sub hl [1, 0] rfl) hf)
    · replace hf := if_no hf cq43
      refine lv_aload_n hx hb dX11_after_164 rfl (lv_at hl 0 rfl) ?_
      refine va_get (D := (dC, dI)) (ci := 11) (v := .ref h5) (C := RX11) (T := TX11) (N := 71) hx hb hts inlX11 hown hK hP 0 rfl rfl 17 (by decide) w0_ (fun _ h9 => h9) rfl dX11_after_165 ?_
      refine lv_iload_n hx hb dX11_after_168 rfl (lv_at hl 2 rfl) ?_
      refine lv_iload_n hx hb dX11_after_169 rfl (lv_at hl 2 rfl) ?_
      refine lv_iload_n hx hb dX11_after_170 rfl (lv_at hl 1 rfl) ?_
      refine lv_icmp_eq (tgt := 188) hx hb dX11_after_171 (by decide) (fun cq45 => ?_) (fun cq45 => ?_)
      · replace hf := if_at hf cq45
        exact (hG _ _ _ _ _).mp (J188 k158 hk158 y1 y3 y3 v0_thrown c1 c2 c5 c6 H locs ls (hP.sub [0, 1, 2, 3, 4, 5, 6, 7, 8] rfl) (hD.sub [0, 1, 2, 3, 4, 5, 6, 7, 8] (by decide) rfl) hS (lv_sub hl [0, 1, 2] rfl) hf)
      · replace hf := if_no hf cq45
        refine lv_aload_n hx hb dX11_after_174 rfl (lv_at hl 0 rfl) ?_
        refine va_get (D := (dC, dI)) (ci := 11) (v := .ref h2) (C := RX11) (T := TX11) (N := 71) hx hb hts inlX11 hown hK hP 0 rfl rfl 16 (by decide) w6_ (fun _ h9 => h9) rfl dX11_after_175 ?_
        refine lv_bipush (v := 112) hx hb dX11_after_178 (by decide +kernel) ?_
        refine lv_iload_n hx hb dX11_after_180 rfl (lv_at hl 1 rfl) ?_
        refine lv_imul hx hb dX11_after_181 ?_
        refine lv_topi (fun x46 e46 => ?_)
        replace hf := nm_at hf e46
        refine lv_iload_n hx hb dX11_after_182 rfl (lv_at hl 2 rfl) ?_
        refine lv_iadd hx hb dX11_after_183 ?_
        refine lv_topi (fun x47 e47 => ?_)
        replace hf := nm_at hf e47
        have b48 := bd_in hf
        replace hf := bd_k hf
        refine va_zald hx hb hK hP 2 1 rfl rfl b48 dX11_after_184 ?_
        refine lv_topi (fun x49 e49 => ?_)
        replace hf := nm_at hf e49
        refine lv_if_eq (tgt := 192) hx hb dX11_after_185 (by decide) (fun cq50 => ?_) (fun cq50 => ?_)
        · replace hf := if_at hf cq50
          refine lv_iconst (v := 0) hx hb dX11_after_192 (by decide +kernel) ?_
          exact (hG _ _ _ _ _).mp (J193 k158 hk158 y1 y3 0 y3 v0_thrown c1 c2 c5 c6 H locs ls (hP.sub [0, 1, 2, 3, 4, 5, 6, 7, 8] rfl) (hD.sub [0, 1, 2, 3, 4, 5, 6, 7, 8] (by decide) rfl) hS (lv_sub hl [0, 1, 2] rfl) hf)
        · replace hf := if_no hf cq50
          exact (hG _ _ _ _ _).mp (J188 k158 hk158 y1 y3 y3 v0_thrown c1 c2 c5 c6 H locs ls (hP.sub [0, 1, 2, 3, 4, 5, 6, 7, 8] rfl) (hD.sub [0, 1, 2, 3, 4, 5, 6, 7, 8] (by decide) rfl) hS (lv_sub hl [0, 1, 2] rfl) hf)
  have L158 : ∀ (n : Nat), ∀ (y1 : Int32) (y3 : Int32) (v0_thrown : Int32) (c1 : (Nat → Int32)) (c2 : (Nat → Int32)) (c5 : (Nat → Int32)) (c6 : (Nat → Int32)) (H : Heap) (locs : List Loc) (ls : Array Slot), va_P (dC, dI) vwCl (wX11_after h0 h1 h2 h3 h4 h5 h6 h7 h8 kc1 kc2 kc3 kc4 kc5 kc6 kc7 kc8 V0 v0_thrown v0_rules v0_size c1 c2 c3 c4 c5 c6 c7 c8) H → va_D A (wX11_after h0 h1 h2 h3 h4 h5 h6 h7 h8 kc1 kc2 kc3 kc4 kc5 kc6 kc7 kc8 V0 v0_thrown v0_rules v0_size c1 c2 c3 c4 c5 c6 c7 c8) → va_S A s.heap H locs → lv_has ls 6 [(0, .ref h0), (1, .int y1), (3, .int y3)] → fX11_after_l158 v0_rules v0_size c3 c4 c7 c8  n y1 y3 v0_thrown c1 c2 c5 c6 = some o → G 0 0 H locs (F0 m 158 ls []) := by
    intro  n
    induction n with
    | zero => intro y1 y3 v0_thrown c1 c2 c5 c6 H locs ls _ _ _ _ hf; cases hf
    | succ n ih => exact B158  _ ih
  have B144 : ∀ (k144 : Int32 → Int32 → Int32 → (Nat → Int32) → (Nat → Int32) → (Nat → Int32) → (Nat → Int32) → Option (Int32 × Int32 × (Nat → Int32) × (Nat → Int32) × (Nat → Int32) × (Nat → Int32))) (hk144 : ∀ (y1 : Int32) (y2 : Int32) (v0_thrown : Int32) (c1 : (Nat → Int32)) (c2 : (Nat → Int32)) (c5 : (Nat → Int32)) (c6 : (Nat → Int32)) (H : Heap) (locs : List Loc) (ls : Array Slot), va_P (dC, dI) vwCl (wX11_after h0 h1 h2 h3 h4 h5 h6 h7 h8 kc1 kc2 kc3 kc4 kc5 kc6 kc7 kc8 V0 v0_thrown v0_rules v0_size c1 c2 c3 c4 c5 c6 c7 c8) H → va_D A (wX11_after h0 h1 h2 h3 h4 h5 h6 h7 h8 kc1 kc2 kc3 kc4 kc5 kc6 kc7 kc8 V0 v0_thrown v0_rules v0_size c1 c2 c3 c4 c5 c6 c7 c8) → va_S A s.heap H locs → lv_has ls 6 [(0, .ref h0), (1, .int y1), (2, .int y2)] → k144 y1 y2 v0_thrown c1 c2 c5 c6 = some o → G 0 0 H locs (F0 m 144 ls [])), ∀ (y1 : Int32) (y2 : Int32) (v0_thrown : Int32) (c1 : (Nat → Int32)) (c2 : (Nat → Int32)) (c5 : (Nat → Int32)) (c6 : (Nat → Int32)) (H : Heap) (locs : List Loc) (ls : Array Slot), va_P (dC, dI) vwCl (wX11_after h0 h1 h2 h3 h4 h5 h6 h7 h8 kc1 kc2 kc3 kc4 kc5 kc6 kc7 kc8 V0 v0_thrown v0_rules v0_size c1 c2 c3 c4 c5 c6 c7 c8) H → va_D A (wX11_after h0 h1 h2 h3 h4 h5 h6 h7 h8 kc1 kc2 kc3 kc4 kc5 kc6 kc7 kc8 V0 v0_thrown v0_rules v0_size c1 c2 c3 c4 c5 c6 c7 c8) → va_S A s.heap H locs → lv_has ls 6 [(0, .ref h0), (1, .int y1), (2, .int y2)] → fX11_after_b144 v0_rules v0_size c3 c4 c7 c8  k144 y1 y2 v0_thrown c1 c2 c5 c6 = some o → G 0 0 H locs (F0 m 144 ls []) := by
    intro  k144 hk144 y1 y2 v0_thrown c1 c2 c5 c6 H locs ls hP hD hS hl hf
    refine (hG _ _ _ _ _).mpr ?_
    unfold fX11_after_b144 at hf
    refine lv_iload_n hx hb dX11_after_144 rfl (lv_at hl 2 rfl) ?_
    refine lv_if_eq (tgt := 156) hx hb dX11_after_145 (by decide) (fun cq51 => ?_) (fun cq51 => ?_)
    · replace hf := if_at hf cq51
      refine lv_iconst (v := 0) hx hb dX11_after_156 (by decide +kernel) ?_
      refine lv_istore_n (lv' := [(3, .int 0), (0, .ref h0), (1, .int y1), (2, .int y2)]) hx hb dX11_after_157 rfl hl (by decide) rfl (fun ls hl => ?_)
      exact (hG _ _ _ _ _).mp (L158 FU y1 0 v0_thrown c1 c2 c5 c6 H locs ls (hP.sub [0, 1, 2, 3, 4, 5, 6, 7, 8] rfl) (hD.sub [0, 1, 2, 3, 4, 5, 6, 7, 8] (by decide) rfl) hS (lv_sub hl [1, 2, 0] rfl) hf)
    · replace hf := if_no hf cq51
      refine lv_aload_n hx hb dX11_after_148 rfl (lv_at hl 0 rfl) ?_
      obtain ⟨o52, e52, hf⟩ := ob_some hf
      refine kVi (As := []) (rest := []) ⟨hx, hb, hml, hown, hts⟩ (mX11_spread l dC dI h0 h4 h1 h2 kc4 kc1 kc2 H.size base v0_rules c4 c1 c2 (fun k => match k with | 0 => .int v0_thrown | 4 => .ref h3 | 5 => .ref h8 | 6 => .int v0_size | 7 => .ref h7 | 17 => .ref h5 | 18 => .ref h6 | k => V0 k) o52 e52) (cwV 0 hts (gTV q509 q510 q511 q5 q512) rfl rfl rfl (by decide +kernel) ⟨Nat.le_of_ble_eq_true rfl, Nat.le_of_ble_eq_true rfl⟩) hK hP hD hS hA hE hAB [0, 4, 1, 2] [3, 5, 6, 7, 8] [3, 0, 1] (wr := [(h3, .inl (kc3, 3072, .inl c3)), (h5, .inl (kc5, 112, .inl c5)), (h6, .inl (kc6, 112, .inl c6)), (h7, .inl (kc7, 30, .inl c7)), (h8, .inl (kc8, 16, .inl c8))]) rfl rfl (by decide) (by decide) (by decide) rfl (ci := 11) (q0 := 0) rfl rfl rfl rfl hl.1 rfl (Nat.le_of_ble_eq_true rfl) dX11_after_149 ⟨Nat.zero_le _, Nat.zero_le _⟩ (fun r52 u52 H locs hw52 hP hD hS => ?_)
      obtain ⟨hw521, hw522⟩ := hw52
      subst hw521 hw522
      have hP : va_P (dC, dI) vwCl (wX11_after h0 h1 h2 h3 h4 h5 h6 h7 h8 kc1 kc2 kc3 kc4 kc5 kc6 kc7 kc8 V0 v0_thrown v0_rules v0_size o52.2.1 o52.2.2 c3 c4 c5 c6 c7 c8) H := hP.sub [5, 7, 8, 0, 6, 1, 2, 3, 4] rfl
      have hD : va_D A (wX11_after h0 h1 h2 h3 h4 h5 h6 h7 h8 kc1 kc2 kc3 kc4 kc5 kc6 kc7 kc8 V0 v0_thrown v0_rules v0_size o52.2.1 o52.2.2 c3 c4 c5 c6 c7 c8) := hD.sub [5, 7, 8, 0, 6, 1, 2, 3, 4] (by decide) rfl
      refine lv_istore_n (lv' := [(2, .int o52.1), (0, .ref h0), (1, .int y1)]) hx hb dX11_after_152 rfl hl (by decide) rfl (fun ls hl => ?_)
      refine lv_goto (tgt := 144) hx hb dX11_after_153 (by decide) ?_
      exact (hG _ _ _ _ _).mp (hk144 y1 o52.1 v0_thrown o52.2.1 o52.2.2 c5 c6 H locs ls (hP.sub [0, 1, 2, 3, 4, 5, 6, 7, 8] rfl) (hD.sub [0, 1, 2, 3, 4, 5, 6, 7, 8] (by decide) rfl) hS (lv_sub hl [1, 2, 0] rfl) hf)
  have L144 : ∀ (n : Nat), ∀ (y1 : Int32) (y2 : Int32) (v0_thrown : Int32) (c1 : (Nat → Int32)) (c2 : (Nat → Int32)) (c5 : (Nat → Int32)) (c6 : (Nat → Int32)) (H : Heap) (locs : List Loc) (ls : Array Slot), va_P (dC, dI) vwCl (wX11_after h0 h1 h2 h3 h4 h5 h6 h7 h8 kc1 kc2 kc3 kc4 kc5 kc6 kc7 kc8 V0 v0_thrown v0_rules v0_size c1 c2 c3 c4 c5 c6 c7 c8) H → va_D A (wX11_after h0 h1 h2 h3 h4 h5 h6 h7 h8 kc1 kc2 kc3 kc4 kc5 kc6 kc7 kc8 V0 v0_thrown v0_rules v0_size c1 c2 c3 c4 c5 c6 c7 c8) → va_S A s.heap H locs → lv_has ls 6 [(0, .ref h0), (1, .int y1), (2, .int y2)] → fX11_after_l144 v0_rules v0_size c3 c4 c7 c8  n y1 y2 v0_thrown c1 c2 c5 c6 = some o → G 0 0 H locs (F0 m 144 ls []) := by
    intro  n
    induction n with
    | zero => intro y1 y2 v0_thrown c1 c2 c5 c6 H locs ls _ _ _ _ hf; cases hf
    | succ n ih => exact B144  _ ih
  have B81 : ∀ (k63 : Int32 → Int32 → Int32 → (Nat → Int32) → (Nat → Int32) → (Nat → Int32) → (Nat → Int32) → Option (Int32 × Int32 × (Nat → Int32) × (Nat → Int32) × (Nat → Int32) × (Nat → Int32))) (hk63 : ∀ (y1 : Int32) (y2 : Int32) (v0_thrown : Int32) (c1 : (Nat → Int32)) (c2 : (Nat → Int32)) (c5 : (Nat → Int32)) (c6 : (Nat → Int32)) (H : Heap) (locs : List Loc) (ls : Array Slot), va_P (dC, dI) vwCl (wX11_after h0 h1 h2 h3 h4 h5 h6 h7 h8 kc1 kc2 kc3 kc4 kc5 kc6 kc7 kc8 V0 v0_thrown v0_rules v0_size c1 c2 c3 c4 c5 c6 c7 c8) H → va_D A (wX11_after h0 h1 h2 h3 h4 h5 h6 h7 h8 kc1 kc2 kc3 kc4 kc5 kc6 kc7 kc8 V0 v0_thrown v0_rules v0_size c1 c2 c3 c4 c5 c6 c7 c8) → va_S A s.heap H locs → lv_has ls 6 [(0, .ref h0), (1, .int y1), (2, .int y2)] → k63 y1 y2 v0_thrown c1 c2 c5 c6 = some o → G 0 0 H locs (F0 m 63 ls [])) (k71 : Int32 → Int32 → Int32 → Int32 → (Nat → Int32) → (Nat → Int32) → (Nat → Int32) → (Nat → Int32) → Option (Int32 × Int32 × (Nat → Int32) × (Nat → Int32) × (Nat → Int32) × (Nat → Int32))) (hk71 : ∀ (y1 : Int32) (y2 : Int32) (y3 : Int32) (v0_thrown : Int32) (c1 : (Nat → Int32)) (c2 : (Nat → Int32)) (c5 : (Nat → Int32)) (c6 : (Nat → Int32)) (H : Heap) (locs : List Loc) (ls : Array Slot), va_P (dC, dI) vwCl (wX11_after h0 h1 h2 h3 h4 h5 h6 h7 h8 kc1 kc2 kc3 kc4 kc5 kc6 kc7 kc8 V0 v0_thrown v0_rules v0_size c1 c2 c3 c4 c5 c6 c7 c8) H → va_D A (wX11_after h0 h1 h2 h3 h4 h5 h6 h7 h8 kc1 kc2 kc3 kc4 kc5 kc6 kc7 kc8 V0 v0_thrown v0_rules v0_size c1 c2 c3 c4 c5 c6 c7 c8) → va_S A s.heap H locs → lv_has ls 6 [(0, .ref h0), (1, .int y1), (2, .int y2), (3, .int y3)] → k71 y1 y2 y3 v0_thrown c1 c2 c5 c6 = some o → G 0 0 H locs (F0 m 71 ls [])) (k81 : Int32 → Int32 → Int32 → Int32 → Int32 → (Nat → Int32) → (Nat → Int32) → (Nat → Int32) → (Nat → Int32) → Option (Int32 × Int32 × (Nat → Int32) × (Nat → Int32) × (Nat → Int32) × (Nat → Int32))) (hk81 : ∀ (y1 : Int32) (y2 : Int32) (y3 : Int32) (y4 : Int32) (v0_thrown : Int32) (c1 : (Nat → Int32)) (c2 : (Nat → Int32)) (c5 : (Nat → Int32)) (c6 : (Nat → Int32)) (H : Heap) (locs : List Loc) (ls : Array Slot), va_P (dC, dI) vwCl (wX11_after h0 h1 h2 h3 h4 h5 h6 h7 h8 kc1 kc2 kc3 kc4 kc5 kc6 kc7 kc8 V0 v0_thrown v0_rules v0_size c1 c2 c3 c4 c5 c6 c7 c8) H → va_D A (wX11_after h0 h1 h2 h3 h4 h5 h6 h7 h8 kc1 kc2 kc3 kc4 kc5 kc6 kc7 kc8 V0 v0_thrown v0_rules v0_size c1 c2 c3 c4 c5 c6 c7 c8) → va_S A s.heap H locs → lv_has ls 6 [(0, .ref h0), (1, .int y1), (2, .int y2), (3, .int y3), (4, .int y4)] → k81 y1 y2 y3 y4 v0_thrown c1 c2 c5 c6 = some o → G 0 0 H locs (F0 m 81 ls [])), ∀ (y1 : Int32) (y2 : Int32) (y3 : Int32) (y4 : Int32) (v0_thrown : Int32) (c1 : (Nat → Int32)) (c2 : (Nat → Int32)) (c5 : (Nat → Int32)) (c6 : (Nat → Int32)) (H : Heap) (locs : List Loc) (ls : Array Slot), va_P (dC, dI) vwCl (wX11_after h0 h1 h2 h3 h4 h5 h6 h7 h8 kc1 kc2 kc3 kc4 kc5 kc6 kc7 kc8 V0 v0_thrown v0_rules v0_size c1 c2 c3 c4 c5 c6 c7 c8) H → va_D A (wX11_after h0 h1 h2 h3 h4 h5 h6 h7 h8 kc1 kc2 kc3 kc4 kc5 kc6 kc7 kc8 V0 v0_thrown v0_rules v0_size c1 c2 c3 c4 c5 c6 c7 c8) → va_S A s.heap H locs → lv_has ls 6 [(0, .ref h0), (1, .int y1), (2, .int y2), (3, .int y3), (4, .int y4)] → fX11_after_b81 v0_rules v0_size c3 c4 c7 c8 k63 k71 k81 y1 y2 y3 y4 v0_thrown c1 c2 c5 c6 = some o → G 0 0 H locs (F0 m 81 ls []) := by
    intro k63 hk63 k71 hk71 k81 hk81 y1 y2 y3 y4 v0_thrown c1 c2 c5 c6 H locs ls hP hD hS hl hf
    refine (hG _ _ _ _ _).mpr ?_
    unfold fX11_after_b81 at hf
    refine lv_iload hx hb dX11_after_81 (lv_at hl 4 rfl) ?_
    refine lv_bipush (v := 16) hx hb dX11_after_83 (by decide +kernel) ?_
    refine lv_icmp_ge (tgt := 130) hx hb dX11_after_85 (by decide) (fun cq53 => ?_) (fun cq53 => ?_)
    · replace hf := if_at hf cq53
      obtain ⟨x54, e54⟩ : ∃ y : Int32, y = y3 + 1 := ⟨_, rfl⟩
      replace hf := nm_at hf e54
      refine lv_iinc (v := x54) (lv' := [(3, .int x54), (0, .ref h0), (1, .int y1), (2, .int y2), (4, .int y4)]) hx hb dX11_after_130 hl (k := 3) rfl (by rw [e54]; rfl) (by decide) rfl (fun ls hl => ?_)
      refine lv_goto (tgt := 71) hx hb dX11_after_133 (by decide) ?_
      exact (hG _ _ _ _ _).mp (hk71 y1 y2 x54 v0_thrown c1 c2 c5 c6 H locs ls (hP.sub [0, 1, 2, 3, 4, 5, 6, 7, 8] rfl) (hD.sub [0, 1, 2, 3, 4, 5, 6, 7, 8] (by decide) rfl) hS (lv_sub hl [1, 2, 3, 0] rfl) hf)
    · replace hf := if_no hf cq53
      refine lv_aload_n hx hb dX11_after_88 rfl (lv_at hl 0 rfl) ?_
      refine va_get (D := (dC, dI)) (ci := 11) (v := .ref h1) (C := RX11) (T := TX11) (N := 71) hx hb hts inlX11 hown hK hP 0 rfl rfl 15 (by decide) w3_ (fun _ h9 => h9) rfl dX11_after_89 ?_
      refine lv_sipush (v := 1344) hx hb dX11_after_92 (by decide +kernel) ?_
      refine lv_iload_n hx hb dX11_after_95 rfl (lv_at hl 2 rfl) ?_
      refine lv_imul hx hb dX11_after_96 ?_
      refine lv_topi (fun x55 e55 => ?_)
      replace hf := nm_at hf e55
      refine lv_bipush (v := 112) hx hb dX11_after_97 (by decide +kernel) ?_
      refine lv_iload_n hx hb dX11_after_99 rfl (lv_at hl 3 rfl) ?_
      refine lv_imul hx hb dX11_after_100 ?_
      refine lv_topi (fun x56 e56 => ?_)
      replace hf := nm_at hf e56
      refine lv_iadd hx hb dX11_after_101 ?_
      refine lv_topi (fun x57 e57 => ?_)
      replace hf := nm_at hf e57
      refine lv_iload hx hb dX11_after_102 (lv_at hl 4 rfl) ?_
      refine lv_iadd hx hb dX11_after_104 ?_
      refine lv_topi (fun x58 e58 => ?_)
      replace hf := nm_at hf e58
      refine lv_aload_n hx hb dX11_after_105 rfl (lv_at hl 0 rfl) ?_
      refine va_get (D := (dC, dI)) (ci := 11) (v := .ref h3) (C := RX11) (T := TX11) (N := 71) hx hb hts inlX11 hown hK hP 0 rfl rfl 4 (by decide) w7_ (fun _ h9 => h9) rfl dX11_after_106 ?_
      refine lv_sipush (v := 192) hx hb dX11_after_109 (by decide +kernel) ?_
      refine lv_iload_n hx hb dX11_after_112 rfl (lv_at hl 2 rfl) ?_
      refine lv_imul hx hb dX11_after_113 ?_
      refine lv_topi (fun x59 e59 => ?_)
      replace hf := nm_at hf e59
      refine lv_bipush (v := 16) hx hb dX11_after_114 (by decide +kernel) ?_
      refine lv_iload_n hx hb dX11_after_116 rfl (lv_at hl 3 rfl) ?_
      refine lv_imul hx hb dX11_after_117 ?_
      refine lv_topi (fun x60 e60 => ?_)
      replace hf := nm_at hf e60
      refine lv_iadd hx hb dX11_after_118 ?_
      refine lv_topi (fun x61 e61 => ?_)
      replace hf := nm_at hf e61
      refine lv_iload hx hb dX11_after_119 (lv_at hl 4 rfl) ?_
      refine lv_iadd hx hb dX11_after_121 ?_
      refine lv_topi (fun x62 e62 => ?_)
      replace hf := nm_at hf e62
      have b63 := bd_in hf
      replace hf := bd_k hf
      refine va_zald hx hb hK hP 3 2 rfl rfl b63 dX11_after_122 ?_
      refine lv_topi (fun x64 e64 => ?_)
      replace hf := nm_at hf e64
      have b65 := bd_in hf
      replace hf := bd_k hf
      obtain ⟨c65x, e65⟩ : ∃ y, y = upd c1 x58.toNatClampNeg (vp_nar .boolean x64) := ⟨_, rfl⟩
      replace hf := nm_at hf e65
      refine va_zast hx hb hK hP hD hS 1 0 rfl rfl b65 dX11_after_123 (fun H locs hP hD hS => ?_)
      have hP : va_P (dC, dI) vwCl (wX11_after h0 h1 h2 h3 h4 h5 h6 h7 h8 kc1 kc2 kc3 kc4 kc5 kc6 kc7 kc8 V0 v0_thrown v0_rules v0_size c65x c2 c3 c4 c5 c6 c7 c8) H := by rw [e65]; exact hP
      have hD : va_D A (wX11_after h0 h1 h2 h3 h4 h5 h6 h7 h8 kc1 kc2 kc3 kc4 kc5 kc6 kc7 kc8 V0 v0_thrown v0_rules v0_size c65x c2 c3 c4 c5 c6 c7 c8) := by rw [e65]; exact hD
      obtain ⟨x66, e66⟩ : ∃ y : Int32, y = y4 + 1 := ⟨_, rfl⟩
      replace hf := nm_at hf e66
      refine lv_iinc (v := x66) (lv' := [(4, .int x66), (0, .ref h0), (1, .int y1), (2, .int y2), (3, .int y3)]) hx hb dX11_after_124 hl (k := 4) rfl (by rw [e66]; rfl) (by decide) rfl (fun ls hl => ?_)
      refine lv_goto (tgt := 81) hx hb dX11_after_127 (by decide) ?_
      exact (hG _ _ _ _ _).mp (hk81 y1 y2 y3 x66 v0_thrown c65x c2 c5 c6 H locs ls (hP.sub [0, 1, 2, 3, 4, 5, 6, 7, 8] rfl) (hD.sub [0, 1, 2, 3, 4, 5, 6, 7, 8] (by decide) rfl) hS (lv_sub hl [1, 2, 3, 4, 0] rfl) hf)
  have L81 : ∀ (k63 : Int32 → Int32 → Int32 → (Nat → Int32) → (Nat → Int32) → (Nat → Int32) → (Nat → Int32) → Option (Int32 × Int32 × (Nat → Int32) × (Nat → Int32) × (Nat → Int32) × (Nat → Int32))) (hk63 : ∀ (y1 : Int32) (y2 : Int32) (v0_thrown : Int32) (c1 : (Nat → Int32)) (c2 : (Nat → Int32)) (c5 : (Nat → Int32)) (c6 : (Nat → Int32)) (H : Heap) (locs : List Loc) (ls : Array Slot), va_P (dC, dI) vwCl (wX11_after h0 h1 h2 h3 h4 h5 h6 h7 h8 kc1 kc2 kc3 kc4 kc5 kc6 kc7 kc8 V0 v0_thrown v0_rules v0_size c1 c2 c3 c4 c5 c6 c7 c8) H → va_D A (wX11_after h0 h1 h2 h3 h4 h5 h6 h7 h8 kc1 kc2 kc3 kc4 kc5 kc6 kc7 kc8 V0 v0_thrown v0_rules v0_size c1 c2 c3 c4 c5 c6 c7 c8) → va_S A s.heap H locs → lv_has ls 6 [(0, .ref h0), (1, .int y1), (2, .int y2)] → k63 y1 y2 v0_thrown c1 c2 c5 c6 = some o → G 0 0 H locs (F0 m 63 ls [])) (k71 : Int32 → Int32 → Int32 → Int32 → (Nat → Int32) → (Nat → Int32) → (Nat → Int32) → (Nat → Int32) → Option (Int32 × Int32 × (Nat → Int32) × (Nat → Int32) × (Nat → Int32) × (Nat → Int32))) (hk71 : ∀ (y1 : Int32) (y2 : Int32) (y3 : Int32) (v0_thrown : Int32) (c1 : (Nat → Int32)) (c2 : (Nat → Int32)) (c5 : (Nat → Int32)) (c6 : (Nat → Int32)) (H : Heap) (locs : List Loc) (ls : Array Slot), va_P (dC, dI) vwCl (wX11_after h0 h1 h2 h3 h4 h5 h6 h7 h8 kc1 kc2 kc3 kc4 kc5 kc6 kc7 kc8 V0 v0_thrown v0_rules v0_size c1 c2 c3 c4 c5 c6 c7 c8) H → va_D A (wX11_after h0 h1 h2 h3 h4 h5 h6 h7 h8 kc1 kc2 kc3 kc4 kc5 kc6 kc7 kc8 V0 v0_thrown v0_rules v0_size c1 c2 c3 c4 c5 c6 c7 c8) → va_S A s.heap H locs → lv_has ls 6 [(0, .ref h0), (1, .int y1), (2, .int y2), (3, .int y3)] → k71 y1 y2 y3 v0_thrown c1 c2 c5 c6 = some o → G 0 0 H locs (F0 m 71 ls [])) (n : Nat), ∀ (y1 : Int32) (y2 : Int32) (y3 : Int32) (y4 : Int32) (v0_thrown : Int32) (c1 : (Nat → Int32)) (c2 : (Nat → Int32)) (c5 : (Nat → Int32)) (c6 : (Nat → Int32)) (H : Heap) (locs : List Loc) (ls : Array Slot), va_P (dC, dI) vwCl (wX11_after h0 h1 h2 h3 h4 h5 h6 h7 h8 kc1 kc2 kc3 kc4 kc5 kc6 kc7 kc8 V0 v0_thrown v0_rules v0_size c1 c2 c3 c4 c5 c6 c7 c8) H → va_D A (wX11_after h0 h1 h2 h3 h4 h5 h6 h7 h8 kc1 kc2 kc3 kc4 kc5 kc6 kc7 kc8 V0 v0_thrown v0_rules v0_size c1 c2 c3 c4 c5 c6 c7 c8) → va_S A s.heap H locs → lv_has ls 6 [(0, .ref h0), (1, .int y1), (2, .int y2), (3, .int y3), (4, .int y4)] → fX11_after_l81 v0_rules v0_size c3 c4 c7 c8 k63 k71 n y1 y2 y3 y4 v0_thrown c1 c2 c5 c6 = some o → G 0 0 H locs (F0 m 81 ls []) := by
    intro k63 hk63 k71 hk71 n
    induction n with
    | zero => intro y1 y2 y3 y4 v0_thrown c1 c2 c5 c6 H locs ls _ _ _ _ hf; cases hf
    | succ n ih => exact B81 k63 hk63 k71 hk71 _ ih
  have B71 : ∀ (k63 : Int32 → Int32 → Int32 → (Nat → Int32) → (Nat → Int32) → (Nat → Int32) → (Nat → Int32) → Option (Int32 × Int32 × (Nat → Int32) × (Nat → Int32) × (Nat → Int32) × (Nat → Int32))) (hk63 : ∀ (y1 : Int32) (y2 : Int32) (v0_thrown : Int32) (c1 : (Nat → Int32)) (c2 : (Nat → Int32)) (c5 : (Nat → Int32)) (c6 : (Nat → Int32)) (H : Heap) (locs : List Loc) (ls : Array Slot), va_P (dC, dI) vwCl (wX11_after h0 h1 h2 h3 h4 h5 h6 h7 h8 kc1 kc2 kc3 kc4 kc5 kc6 kc7 kc8 V0 v0_thrown v0_rules v0_size c1 c2 c3 c4 c5 c6 c7 c8) H → va_D A (wX11_after h0 h1 h2 h3 h4 h5 h6 h7 h8 kc1 kc2 kc3 kc4 kc5 kc6 kc7 kc8 V0 v0_thrown v0_rules v0_size c1 c2 c3 c4 c5 c6 c7 c8) → va_S A s.heap H locs → lv_has ls 6 [(0, .ref h0), (1, .int y1), (2, .int y2)] → k63 y1 y2 v0_thrown c1 c2 c5 c6 = some o → G 0 0 H locs (F0 m 63 ls [])) (k71 : Int32 → Int32 → Int32 → Int32 → (Nat → Int32) → (Nat → Int32) → (Nat → Int32) → (Nat → Int32) → Option (Int32 × Int32 × (Nat → Int32) × (Nat → Int32) × (Nat → Int32) × (Nat → Int32))) (hk71 : ∀ (y1 : Int32) (y2 : Int32) (y3 : Int32) (v0_thrown : Int32) (c1 : (Nat → Int32)) (c2 : (Nat → Int32)) (c5 : (Nat → Int32)) (c6 : (Nat → Int32)) (H : Heap) (locs : List Loc) (ls : Array Slot), va_P (dC, dI) vwCl (wX11_after h0 h1 h2 h3 h4 h5 h6 h7 h8 kc1 kc2 kc3 kc4 kc5 kc6 kc7 kc8 V0 v0_thrown v0_rules v0_size c1 c2 c3 c4 c5 c6 c7 c8) H → va_D A (wX11_after h0 h1 h2 h3 h4 h5 h6 h7 h8 kc1 kc2 kc3 kc4 kc5 kc6 kc7 kc8 V0 v0_thrown v0_rules v0_size c1 c2 c3 c4 c5 c6 c7 c8) → va_S A s.heap H locs → lv_has ls 6 [(0, .ref h0), (1, .int y1), (2, .int y2), (3, .int y3)] → k71 y1 y2 y3 v0_thrown c1 c2 c5 c6 = some o → G 0 0 H locs (F0 m 71 ls [])), ∀ (y1 : Int32) (y2 : Int32) (y3 : Int32) (v0_thrown : Int32) (c1 : (Nat → Int32)) (c2 : (Nat → Int32)) (c5 : (Nat → Int32)) (c6 : (Nat → Int32)) (H : Heap) (locs : List Loc) (ls : Array Slot), va_P (dC, dI) vwCl (wX11_after h0 h1 h2 h3 h4 h5 h6 h7 h8 kc1 kc2 kc3 kc4 kc5 kc6 kc7 kc8 V0 v0_thrown v0_rules v0_size c1 c2 c3 c4 c5 c6 c7 c8) H → va_D A (wX11_after h0 h1 h2 h3 h4 h5 h6 h7 h8 kc1 kc2 kc3 kc4 kc5 kc6 kc7 kc8 V0 v0_thrown v0_rules v0_size c1 c2 c3 c4 c5 c6 c7 c8) → va_S A s.heap H locs → lv_has ls 6 [(0, .ref h0), (1, .int y1), (2, .int y2), (3, .int y3)] → fX11_after_b71 v0_rules v0_size c3 c4 c7 c8 k63 k71 y1 y2 y3 v0_thrown c1 c2 c5 c6 = some o → G 0 0 H locs (F0 m 71 ls []) := by
    intro k63 hk63 k71 hk71 y1 y2 y3 v0_thrown c1 c2 c5 c6 H locs ls hP hD hS hl hf
    refine (hG _ _ _ _ _).mpr ?_
    unfold fX11_after_b71 at hf
    refine lv_iload_n hx hb dX11_after_71 rfl (lv_at hl 3 rfl) ?_
    refine lv_bipush (v := 12) hx hb dX11_after_72 (by decide +kernel) ?_
    refine lv_icmp_ge (tgt := 136) hx hb dX11_after_74 (by decide) (fun cq67 => ?_) (fun cq67 => ?_)
    · replace hf := if_at hf cq67
      obtain ⟨x68, e68⟩ : ∃ y : Int32, y = y2 + 1 := ⟨_, rfl⟩
      replace hf := nm_at hf e68
      refine lv_iinc (v := x68) (lv' := [(2, .int x68), (0, .ref h0), (1, .int y1), (3, .int y3)]) hx hb dX11_after_136 hl (k := 2) rfl (by rw [e68]; rfl) (by decide) rfl (fun ls hl => ?_)
      refine lv_goto (tgt := 63) hx hb dX11_after_139 (by decide) ?_
      exact (hG _ _ _ _ _).mp (hk63 y1 x68 v0_thrown c1 c2 c5 c6 H locs ls (hP.sub [0, 1, 2, 3, 4, 5, 6, 7, 8] rfl) (hD.sub [0, 1, 2, 3, 4, 5, 6, 7, 8] (by decide) rfl) hS (lv_sub hl [1, 2, 0] rfl) hf)
    · replace hf := if_no hf cq67
      refine lv_bipush (v := 8) hx hb dX11_after_77 (by decide +kernel) ?_
      refine lv_istore (lv' := [(4, .int 8), (0, .ref h0), (1, .int y1), (2, .int y2), (3, .int y3)]) hx hb dX11_after_79 hl (by decide) rfl (fun ls hl => ?_)
      exact (hG _ _ _ _ _).mp (L81 k63 hk63 k71 hk71 FU y1 y2 y3 8 v0_thrown c1 c2 c5 c6 H locs ls (hP.sub [0, 1, 2, 3, 4, 5, 6, 7, 8] rfl) (hD.sub [0, 1, 2, 3, 4, 5, 6, 7, 8] (by decide) rfl) hS (lv_sub hl [1, 2, 3, 4, 0] rfl) hf)
  have L71 : ∀ (k63 : Int32 → Int32 → Int32 → (Nat → Int32) → (Nat → Int32) → (Nat → Int32) → (Nat → Int32) → Option (Int32 × Int32 × (Nat → Int32) × (Nat → Int32) × (Nat → Int32) × (Nat → Int32))) (hk63 : ∀ (y1 : Int32) (y2 : Int32) (v0_thrown : Int32) (c1 : (Nat → Int32)) (c2 : (Nat → Int32)) (c5 : (Nat → Int32)) (c6 : (Nat → Int32)) (H : Heap) (locs : List Loc) (ls : Array Slot), va_P (dC, dI) vwCl (wX11_after h0 h1 h2 h3 h4 h5 h6 h7 h8 kc1 kc2 kc3 kc4 kc5 kc6 kc7 kc8 V0 v0_thrown v0_rules v0_size c1 c2 c3 c4 c5 c6 c7 c8) H → va_D A (wX11_after h0 h1 h2 h3 h4 h5 h6 h7 h8 kc1 kc2 kc3 kc4 kc5 kc6 kc7 kc8 V0 v0_thrown v0_rules v0_size c1 c2 c3 c4 c5 c6 c7 c8) → va_S A s.heap H locs → lv_has ls 6 [(0, .ref h0), (1, .int y1), (2, .int y2)] → k63 y1 y2 v0_thrown c1 c2 c5 c6 = some o → G 0 0 H locs (F0 m 63 ls [])) (n : Nat), ∀ (y1 : Int32) (y2 : Int32) (y3 : Int32) (v0_thrown : Int32) (c1 : (Nat → Int32)) (c2 : (Nat → Int32)) (c5 : (Nat → Int32)) (c6 : (Nat → Int32)) (H : Heap) (locs : List Loc) (ls : Array Slot), va_P (dC, dI) vwCl (wX11_after h0 h1 h2 h3 h4 h5 h6 h7 h8 kc1 kc2 kc3 kc4 kc5 kc6 kc7 kc8 V0 v0_thrown v0_rules v0_size c1 c2 c3 c4 c5 c6 c7 c8) H → va_D A (wX11_after h0 h1 h2 h3 h4 h5 h6 h7 h8 kc1 kc2 kc3 kc4 kc5 kc6 kc7 kc8 V0 v0_thrown v0_rules v0_size c1 c2 c3 c4 c5 c6 c7 c8) → va_S A s.heap H locs → lv_has ls 6 [(0, .ref h0), (1, .int y1), (2, .int y2), (3, .int y3)] → fX11_after_l71 v0_rules v0_size c3 c4 c7 c8 k63 n y1 y2 y3 v0_thrown c1 c2 c5 c6 = some o → G 0 0 H locs (F0 m 71 ls []) := by
    intro k63 hk63 n
    induction n with
    | zero => intro y1 y2 y3 v0_thrown c1 c2 c5 c6 H locs ls _ _ _ _ hf; cases hf
    | succ n ih => exact B71 k63 hk63 _ ih
  have B63 : ∀ (k63 : Int32 → Int32 → Int32 → (Nat → Int32) → (Nat → Int32) → (Nat → Int32) → (Nat → Int32) → Option (Int32 × Int32 × (Nat → Int32) × (Nat → Int32) × (Nat → Int32) × (Nat → Int32))) (hk63 : ∀ (y1 : Int32) (y2 : Int32) (v0_thrown : Int32) (c1 : (Nat → Int32)) (c2 : (Nat → Int32)) (c5 : (Nat → Int32)) (c6 : (Nat → Int32)) (H : Heap) (locs : List Loc) (ls : Array Slot), va_P (dC, dI) vwCl (wX11_after h0 h1 h2 h3 h4 h5 h6 h7 h8 kc1 kc2 kc3 kc4 kc5 kc6 kc7 kc8 V0 v0_thrown v0_rules v0_size c1 c2 c3 c4 c5 c6 c7 c8) H → va_D A (wX11_after h0 h1 h2 h3 h4 h5 h6 h7 h8 kc1 kc2 kc3 kc4 kc5 kc6 kc7 kc8 V0 v0_thrown v0_rules v0_size c1 c2 c3 c4 c5 c6 c7 c8) → va_S A s.heap H locs → lv_has ls 6 [(0, .ref h0), (1, .int y1), (2, .int y2)] → k63 y1 y2 v0_thrown c1 c2 c5 c6 = some o → G 0 0 H locs (F0 m 63 ls [])), ∀ (y1 : Int32) (y2 : Int32) (v0_thrown : Int32) (c1 : (Nat → Int32)) (c2 : (Nat → Int32)) (c5 : (Nat → Int32)) (c6 : (Nat → Int32)) (H : Heap) (locs : List Loc) (ls : Array Slot), va_P (dC, dI) vwCl (wX11_after h0 h1 h2 h3 h4 h5 h6 h7 h8 kc1 kc2 kc3 kc4 kc5 kc6 kc7 kc8 V0 v0_thrown v0_rules v0_size c1 c2 c3 c4 c5 c6 c7 c8) H → va_D A (wX11_after h0 h1 h2 h3 h4 h5 h6 h7 h8 kc1 kc2 kc3 kc4 kc5 kc6 kc7 kc8 V0 v0_thrown v0_rules v0_size c1 c2 c3 c4 c5 c6 c7 c8) → va_S A s.heap H locs → lv_has ls 6 [(0, .ref h0), (1, .int y1), (2, .int y2)] → fX11_after_b63 v0_rules v0_size c3 c4 c7 c8  k63 y1 y2 v0_thrown c1 c2 c5 c6 = some o → G 0 0 H locs (F0 m 63 ls []) := by
    intro  k63 hk63 y1 y2 v0_thrown c1 c2 c5 c6 H locs ls hP hD hS hl hf
    refine (hG _ _ _ _ _).mpr ?_
    unfold fX11_after_b63 at hf
    refine lv_iload_n hx hb dX11_after_63 rfl (lv_at hl 2 rfl) ?_
    refine lv_bipush (v := 16) hx hb dX11_after_64 (by decide +kernel) ?_
    refine lv_icmp_ge (tgt := 142) hx hb dX11_after_66 (by decide) (fun cq69 => ?_) (fun cq69 => ?_)
    · replace hf := if_at hf cq69
      refine lv_iconst (v := 1) hx hb dX11_after_142 (by decide +kernel) ?_
      refine lv_istore_n (lv' := [(2, .int 1), (0, .ref h0), (1, .int y1)]) hx hb dX11_after_143 rfl hl (by decide) rfl (fun ls hl => ?_)
      exact (hG _ _ _ _ _).mp (L144 FU y1 1 v0_thrown c1 c2 c5 c6 H locs ls (hP.sub [0, 1, 2, 3, 4, 5, 6, 7, 8] rfl) (hD.sub [0, 1, 2, 3, 4, 5, 6, 7, 8] (by decide) rfl) hS (lv_sub hl [1, 2, 0] rfl) hf)
    · replace hf := if_no hf cq69
      refine lv_iconst (v := 0) hx hb dX11_after_69 (by decide +kernel) ?_
      refine lv_istore_n (lv' := [(3, .int 0), (0, .ref h0), (1, .int y1), (2, .int y2)]) hx hb dX11_after_70 rfl hl (by decide) rfl (fun ls hl => ?_)
      exact (hG _ _ _ _ _).mp (L71 k63 hk63 FU y1 y2 0 v0_thrown c1 c2 c5 c6 H locs ls (hP.sub [0, 1, 2, 3, 4, 5, 6, 7, 8] rfl) (hD.sub [0, 1, 2, 3, 4, 5, 6, 7, 8] (by decide) rfl) hS (lv_sub hl [1, 2, 3, 0] rfl) hf)
  have L63 : ∀ (n : Nat), ∀ (y1 : Int32) (y2 : Int32) (v0_thrown : Int32) (c1 : (Nat → Int32)) (c2 : (Nat → Int32)) (c5 : (Nat → Int32)) (c6 : (Nat → Int32)) (H : Heap) (locs : List Loc) (ls : Array Slot), va_P (dC, dI) vwCl (wX11_after h0 h1 h2 h3 h4 h5 h6 h7 h8 kc1 kc2 kc3 kc4 kc5 kc6 kc7 kc8 V0 v0_thrown v0_rules v0_size c1 c2 c3 c4 c5 c6 c7 c8) H → va_D A (wX11_after h0 h1 h2 h3 h4 h5 h6 h7 h8 kc1 kc2 kc3 kc4 kc5 kc6 kc7 kc8 V0 v0_thrown v0_rules v0_size c1 c2 c3 c4 c5 c6 c7 c8) → va_S A s.heap H locs → lv_has ls 6 [(0, .ref h0), (1, .int y1), (2, .int y2)] → fX11_after_l63 v0_rules v0_size c3 c4 c7 c8  n y1 y2 v0_thrown c1 c2 c5 c6 = some o → G 0 0 H locs (F0 m 63 ls []) := by
    intro  n
    induction n with
    | zero => intro y1 y2 v0_thrown c1 c2 c5 c6 H locs ls _ _ _ _ hf; cases hf
    | succ n ih => exact B63  _ ih
  have B41 : ∀ (k41 : Int32 → Int32 → Int32 → (Nat → Int32) → (Nat → Int32) → (Nat → Int32) → (Nat → Int32) → Option (Int32 × Int32 × (Nat → Int32) × (Nat → Int32) × (Nat → Int32) × (Nat → Int32))) (hk41 : ∀ (y1 : Int32) (y2 : Int32) (v0_thrown : Int32) (c1 : (Nat → Int32)) (c2 : (Nat → Int32)) (c5 : (Nat → Int32)) (c6 : (Nat → Int32)) (H : Heap) (locs : List Loc) (ls : Array Slot), va_P (dC, dI) vwCl (wX11_after h0 h1 h2 h3 h4 h5 h6 h7 h8 kc1 kc2 kc3 kc4 kc5 kc6 kc7 kc8 V0 v0_thrown v0_rules v0_size c1 c2 c3 c4 c5 c6 c7 c8) H → va_D A (wX11_after h0 h1 h2 h3 h4 h5 h6 h7 h8 kc1 kc2 kc3 kc4 kc5 kc6 kc7 kc8 V0 v0_thrown v0_rules v0_size c1 c2 c3 c4 c5 c6 c7 c8) → va_S A s.heap H locs → lv_has ls 6 [(0, .ref h0), (1, .int y1), (2, .int y2)] → k41 y1 y2 v0_thrown c1 c2 c5 c6 = some o → G 0 0 H locs (F0 m 41 ls [])), ∀ (y1 : Int32) (y2 : Int32) (v0_thrown : Int32) (c1 : (Nat → Int32)) (c2 : (Nat → Int32)) (c5 : (Nat → Int32)) (c6 : (Nat → Int32)) (H : Heap) (locs : List Loc) (ls : Array Slot), va_P (dC, dI) vwCl (wX11_after h0 h1 h2 h3 h4 h5 h6 h7 h8 kc1 kc2 kc3 kc4 kc5 kc6 kc7 kc8 V0 v0_thrown v0_rules v0_size c1 c2 c3 c4 c5 c6 c7 c8) H → va_D A (wX11_after h0 h1 h2 h3 h4 h5 h6 h7 h8 kc1 kc2 kc3 kc4 kc5 kc6 kc7 kc8 V0 v0_thrown v0_rules v0_size c1 c2 c3 c4 c5 c6 c7 c8) → va_S A s.heap H locs → lv_has ls 6 [(0, .ref h0), (1, .int y1), (2, .int y2)] → fX11_after_b41 v0_rules v0_size c3 c4 c7 c8  k41 y1 y2 v0_thrown c1 c2 c5 c6 = some o → G 0 0 H locs (F0 m 41 ls []) := by
    intro  k41 hk41 y1 y2 v0_thrown c1 c2 c5 c6 H locs ls hP hD hS hl hf
    refine (hG _ _ _ _ _).mpr ?_
    unfold fX11_after_b41 at hf
    refine lv_iload_n hx hb dX11_after_41 rfl (lv_at hl 2 rfl) ?_
    refine lv_sipush (v := 896) hx hb dX11_after_42 (by decide +kernel) ?_
    refine lv_icmp_ge (tgt := 61) hx hb dX11_after_45 (by decide) (fun cq70 => ?_) (fun cq70 => ?_)
    · replace hf := if_at hf cq70
      refine lv_iconst (v := 0) hx hb dX11_after_61 (by decide +kernel) ?_
      refine lv_istore_n (lv' := [(2, .int 0), (0, .ref h0), (1, .int y1)]) hx hb dX11_after_62 rfl hl (by decide) rfl (fun ls hl => ?_)
      exact (hG _ _ _ _ _).mp (L63 FU y1 0 v0_thrown c1 c2 c5 c6 H locs ls (hP.sub [0, 1, 2, 3, 4, 5, 6, 7, 8] rfl) (hD.sub [0, 1, 2, 3, 4, 5, 6, 7, 8] (by decide) rfl) hS (lv_sub hl [1, 2, 0] rfl) hf)
    · replace hf := if_no hf cq70
      refine lv_aload_n hx hb dX11_after_48 rfl (lv_at hl 0 rfl) ?_
      refine va_get (D := (dC, dI)) (ci := 11) (v := .ref h2) (C := RX11) (T := TX11) (N := 71) hx hb hts inlX11 hown hK hP 0 rfl rfl 16 (by decide) w6_ (fun _ h9 => h9) rfl dX11_after_49 ?_
      refine lv_iload_n hx hb dX11_after_52 rfl (lv_at hl 2 rfl) ?_
      refine lv_iconst (v := 0) hx hb dX11_after_53 (by decide +kernel) ?_
      have b71 := bd_in hf
      replace hf := bd_k hf
      obtain ⟨c71x, e71⟩ : ∃ y, y = upd c2 y2.toNatClampNeg (vp_nar .boolean 0) := ⟨_, rfl⟩
      replace hf := nm_at hf e71
      refine va_zast hx hb hK hP hD hS 2 1 rfl rfl b71 dX11_after_54 (fun H locs hP hD hS => ?_)
      have hP : va_P (dC, dI) vwCl (wX11_after h0 h1 h2 h3 h4 h5 h6 h7 h8 kc1 kc2 kc3 kc4 kc5 kc6 kc7 kc8 V0 v0_thrown v0_rules v0_size c1 c71x c3 c4 c5 c6 c7 c8) H := by rw [e71]; exact hP
      have hD : va_D A (wX11_after h0 h1 h2 h3 h4 h5 h6 h7 h8 kc1 kc2 kc3 kc4 kc5 kc6 kc7 kc8 V0 v0_thrown v0_rules v0_size c1 c71x c3 c4 c5 c6 c7 c8) := by rw [e71]; exact hD
      obtain ⟨x72, e72⟩ : ∃ y : Int32, y = y2 + 1 := ⟨_, rfl⟩
      replace hf := nm_at hf e72
      refine lv_iinc (v := x72) (lv' := [(2, .int x72), (0, .ref h0), (1, .int y1)]) hx hb dX11_after_55 hl (k := 2) rfl (by rw [e72]; rfl) (by decide) rfl (fun ls hl => ?_)
      refine lv_goto (tgt := 41) hx hb dX11_after_58 (by decide) ?_
      exact (hG _ _ _ _ _).mp (hk41 y1 x72 v0_thrown c1 c71x c5 c6 H locs ls (hP.sub [0, 1, 2, 3, 4, 5, 6, 7, 8] rfl) (hD.sub [0, 1, 2, 3, 4, 5, 6, 7, 8] (by decide) rfl) hS (lv_sub hl [1, 2, 0] rfl) hf)
  have L41 : ∀ (n : Nat), ∀ (y1 : Int32) (y2 : Int32) (v0_thrown : Int32) (c1 : (Nat → Int32)) (c2 : (Nat → Int32)) (c5 : (Nat → Int32)) (c6 : (Nat → Int32)) (H : Heap) (locs : List Loc) (ls : Array Slot), va_P (dC, dI) vwCl (wX11_after h0 h1 h2 h3 h4 h5 h6 h7 h8 kc1 kc2 kc3 kc4 kc5 kc6 kc7 kc8 V0 v0_thrown v0_rules v0_size c1 c2 c3 c4 c5 c6 c7 c8) H → va_D A (wX11_after h0 h1 h2 h3 h4 h5 h6 h7 h8 kc1 kc2 kc3 kc4 kc5 kc6 kc7 kc8 V0 v0_thrown v0_rules v0_size c1 c2 c3 c4 c5 c6 c7 c8) → va_S A s.heap H locs → lv_has ls 6 [(0, .ref h0), (1, .int y1), (2, .int y2)] → fX11_after_l41 v0_rules v0_size c3 c4 c7 c8  n y1 y2 v0_thrown c1 c2 c5 c6 = some o → G 0 0 H locs (F0 m 41 ls []) := by
    intro  n
    induction n with
    | zero => intro y1 y2 v0_thrown c1 c2 c5 c6 H locs ls _ _ _ _ hf; cases hf
    | succ n ih => exact B41  _ ih
  have B20 : ∀ (k20 : Int32 → Int32 → Int32 → (Nat → Int32) → (Nat → Int32) → (Nat → Int32) → (Nat → Int32) → Option (Int32 × Int32 × (Nat → Int32) × (Nat → Int32) × (Nat → Int32) × (Nat → Int32))) (hk20 : ∀ (y1 : Int32) (y2 : Int32) (v0_thrown : Int32) (c1 : (Nat → Int32)) (c2 : (Nat → Int32)) (c5 : (Nat → Int32)) (c6 : (Nat → Int32)) (H : Heap) (locs : List Loc) (ls : Array Slot), va_P (dC, dI) vwCl (wX11_after h0 h1 h2 h3 h4 h5 h6 h7 h8 kc1 kc2 kc3 kc4 kc5 kc6 kc7 kc8 V0 v0_thrown v0_rules v0_size c1 c2 c3 c4 c5 c6 c7 c8) H → va_D A (wX11_after h0 h1 h2 h3 h4 h5 h6 h7 h8 kc1 kc2 kc3 kc4 kc5 kc6 kc7 kc8 V0 v0_thrown v0_rules v0_size c1 c2 c3 c4 c5 c6 c7 c8) → va_S A s.heap H locs → lv_has ls 6 [(0, .ref h0), (1, .int y1), (2, .int y2)] → k20 y1 y2 v0_thrown c1 c2 c5 c6 = some o → G 0 0 H locs (F0 m 20 ls [])), ∀ (y1 : Int32) (y2 : Int32) (v0_thrown : Int32) (c1 : (Nat → Int32)) (c2 : (Nat → Int32)) (c5 : (Nat → Int32)) (c6 : (Nat → Int32)) (H : Heap) (locs : List Loc) (ls : Array Slot), va_P (dC, dI) vwCl (wX11_after h0 h1 h2 h3 h4 h5 h6 h7 h8 kc1 kc2 kc3 kc4 kc5 kc6 kc7 kc8 V0 v0_thrown v0_rules v0_size c1 c2 c3 c4 c5 c6 c7 c8) H → va_D A (wX11_after h0 h1 h2 h3 h4 h5 h6 h7 h8 kc1 kc2 kc3 kc4 kc5 kc6 kc7 kc8 V0 v0_thrown v0_rules v0_size c1 c2 c3 c4 c5 c6 c7 c8) → va_S A s.heap H locs → lv_has ls 6 [(0, .ref h0), (1, .int y1), (2, .int y2)] → fX11_after_b20 v0_rules v0_size c3 c4 c7 c8  k20 y1 y2 v0_thrown c1 c2 c5 c6 = some o → G 0 0 H locs (F0 m 20 ls []) := by
    intro  k20 hk20 y1 y2 v0_thrown c1 c2 c5 c6 H locs ls hP hD hS hl hf
    refine (hG _ _ _ _ _).mpr ?_
    unfold fX11_after_b20 at hf
    refine lv_iload_n hx hb dX11_after_20 rfl (lv_at hl 2 rfl) ?_
    refine lv_ldc (v := 150528) hx hb hown w8_ dX11_after_21 ?_
    refine lv_icmp_ge (tgt := 39) hx hb dX11_after_23 (by decide) (fun cq73 => ?_) (fun cq73 => ?_)
    · replace hf := if_at hf cq73
      refine lv_iconst (v := 0) hx hb dX11_after_39 (by decide +kernel) ?_
      refine lv_istore_n (lv' := [(2, .int 0), (0, .ref h0), (1, .int y1)]) hx hb dX11_after_40 rfl hl (by decide) rfl (fun ls hl => ?_)
      exact (hG _ _ _ _ _).mp (L41 FU y1 0 v0_thrown c1 c2 c5 c6 H locs ls (hP.sub [0, 1, 2, 3, 4, 5, 6, 7, 8] rfl) (hD.sub [0, 1, 2, 3, 4, 5, 6, 7, 8] (by decide) rfl) hS (lv_sub hl [1, 2, 0] rfl) hf)
    · replace hf := if_no hf cq73
      refine lv_aload_n hx hb dX11_after_26 rfl (lv_at hl 0 rfl) ?_
      refine va_get (D := (dC, dI)) (ci := 11) (v := .ref h1) (C := RX11) (T := TX11) (N := 71) hx hb hts inlX11 hown hK hP 0 rfl rfl 15 (by decide) w3_ (fun _ h9 => h9) rfl dX11_after_27 ?_
      refine lv_iload_n hx hb dX11_after_30 rfl (lv_at hl 2 rfl) ?_
      refine lv_iconst (v := 0) hx hb dX11_after_31 (by decide +kernel) ?_
      have b74 := bd_in hf
      replace hf := bd_k hf
      obtain ⟨c74x, e74⟩ : ∃ y, y = upd c1 y2.toNatClampNeg (vp_nar .boolean 0) := ⟨_, rfl⟩
      replace hf := nm_at hf e74
      refine va_zast hx hb hK hP hD hS 1 0 rfl rfl b74 dX11_after_32 (fun H locs hP hD hS => ?_)
      have hP : va_P (dC, dI) vwCl (wX11_after h0 h1 h2 h3 h4 h5 h6 h7 h8 kc1 kc2 kc3 kc4 kc5 kc6 kc7 kc8 V0 v0_thrown v0_rules v0_size c74x c2 c3 c4 c5 c6 c7 c8) H := by rw [e74]; exact hP
      have hD : va_D A (wX11_after h0 h1 h2 h3 h4 h5 h6 h7 h8 kc1 kc2 kc3 kc4 kc5 kc6 kc7 kc8 V0 v0_thrown v0_rules v0_size c74x c2 c3 c4 c5 c6 c7 c8) := by rw [e74]; exact hD
      obtain ⟨x75, e75⟩ : ∃ y : Int32, y = y2 + 1 := ⟨_, rfl⟩
      replace hf := nm_at hf e75
      refine lv_iinc (v := x75) (lv' := [(2, .int x75), (0, .ref h0), (1, .int y1)]) hx hb dX11_after_33 hl (k := 2) rfl (by rw [e75]; rfl) (by decide) rfl (fun ls hl => ?_)
      refine lv_goto (tgt := 20) hx hb dX11_after_36 (by decide) ?_
      exact (hG _ _ _ _ _).mp (hk20 y1 x75 v0_thrown c74x c2 c5 c6 H locs ls (hP.sub [0, 1, 2, 3, 4, 5, 6, 7, 8] rfl) (hD.sub [0, 1, 2, 3, 4, 5, 6, 7, 8] (by decide) rfl) hS (lv_sub hl [1, 2, 0] rfl) hf)
  have L20 : ∀ (n : Nat), ∀ (y1 : Int32) (y2 : Int32) (v0_thrown : Int32) (c1 : (Nat → Int32)) (c2 : (Nat → Int32)) (c5 : (Nat → Int32)) (c6 : (Nat → Int32)) (H : Heap) (locs : List Loc) (ls : Array Slot), va_P (dC, dI) vwCl (wX11_after h0 h1 h2 h3 h4 h5 h6 h7 h8 kc1 kc2 kc3 kc4 kc5 kc6 kc7 kc8 V0 v0_thrown v0_rules v0_size c1 c2 c3 c4 c5 c6 c7 c8) H → va_D A (wX11_after h0 h1 h2 h3 h4 h5 h6 h7 h8 kc1 kc2 kc3 kc4 kc5 kc6 kc7 kc8 V0 v0_thrown v0_rules v0_size c1 c2 c3 c4 c5 c6 c7 c8) → va_S A s.heap H locs → lv_has ls 6 [(0, .ref h0), (1, .int y1), (2, .int y2)] → fX11_after_l20 v0_rules v0_size c3 c4 c7 c8  n y1 y2 v0_thrown c1 c2 c5 c6 = some o → G 0 0 H locs (F0 m 20 ls []) := by
    intro  n
    induction n with
    | zero => intro y1 y2 v0_thrown c1 c2 c5 c6 H locs ls _ _ _ _ hf; cases hf
    | succ n ih => exact B20  _ ih
  refine (hG _ _ _ _ _).mpr ?_
  obtain ⟨H, hH⟩ : ∃ H, H = s.heap := ⟨_, rfl⟩
  have hS : va_S A s.heap H [] := by rw [hH]; exact hS
  rw [← hH] at hP ⊢
  generalize ([] : List Loc) = locs at hS ⊢
  unfold fX11_after at hf
  refine lv_aload_n hx hb dX11_after_0 rfl (lv_at hl 0 rfl) ?_
  refine lv_iconst (v := 0) hx hb dX11_after_1 (by decide +kernel) ?_
  refine va_put (D := (dC, dI)) (ci := 11) (v := .int 0) (ty := .int) (C := RX11) (T := TX11) (N := 71) hx hb hts inlX11 tyX11 tyX11_ok nmX11 hown hK hP hD hS 0 rfl rfl 0 (by decide) w9_ (fun _ h9 => h9) rfl (by decide +kernel) rfl rfl (Nat.le_of_ble_eq_true rfl) dX11_after_2 (fun H locs hP hD hS => ?_)
  have hP : va_P (dC, dI) vwCl (wX11_after h0 h1 h2 h3 h4 h5 h6 h7 h8 kc1 kc2 kc3 kc4 kc5 kc6 kc7 kc8 V0 0 v0_rules v0_size c1 c2 c3 c4 c5 c6 c7 c8) H := hP
  have hD : va_D A (wX11_after h0 h1 h2 h3 h4 h5 h6 h7 h8 kc1 kc2 kc3 kc4 kc5 kc6 kc7 kc8 V0 0 v0_rules v0_size c1 c2 c3 c4 c5 c6 c7 c8) := hD
  refine lv_iload_n hx hb dX11_after_5 rfl (lv_at hl 1 rfl) ?_
  refine lv_iconst (v := 0) hx hb dX11_after_6 (by decide +kernel) ?_
  refine lv_bipush (v := 7) hx hb dX11_after_7 (by decide +kernel) ?_
  obtain ⟨o76, e76, hf⟩ := ob_some hf
  refine kSi (As := [.int a0, .int 0, .int 7]) (rest := []) ⟨hx, hb, hml, hown, hts⟩ (mX11_in l dC dI H.size base a0 0 7 o76 e76) (va_cwS 3 hts (gTS q148 q149 q5 q150) rfl rfl rfl (by decide +kernel) ⟨Nat.le_of_ble_eq_true rfl, Nat.le_of_ble_eq_true rfl⟩) hK hP hD hS hA hE hAB [] [0, 1, 2, 3, 4, 5, 6, 7, 8] [] (wr := (wX11_after h0 h1 h2 h3 h4 h5 h6 h7 h8 kc1 kc2 kc3 kc4 kc5 kc6 kc7 kc8 V0 0 v0_rules v0_size c1 c2 c3 c4 c5 c6 c7 c8)) rfl rfl (by decide) (by decide) (by decide) rfl rfl hl.1 rfl (Nat.le_of_ble_eq_true rfl) dX11_after_9 ⟨Nat.zero_le _, Nat.zero_le _⟩ (fun r76 u76 H locs hw76 hP hD hS => ?_)
  obtain ⟨hw761, hw762⟩ := hw76
  subst hw761 hw762
  have hP : va_P (dC, dI) vwCl (wX11_after h0 h1 h2 h3 h4 h5 h6 h7 h8 kc1 kc2 kc3 kc4 kc5 kc6 kc7 kc8 V0 0 v0_rules v0_size c1 c2 c3 c4 c5 c6 c7 c8) H := hP.sub [0, 1, 2, 3, 4, 5, 6, 7, 8] rfl
  have hD : va_D A (wX11_after h0 h1 h2 h3 h4 h5 h6 h7 h8 kc1 kc2 kc3 kc4 kc5 kc6 kc7 kc8 V0 0 v0_rules v0_size c1 c2 c3 c4 c5 c6 c7 c8) := hD.sub [0, 1, 2, 3, 4, 5, 6, 7, 8] (by decide) rfl
  refine lv_if_ne (tgt := 18) hx hb dX11_after_12 (by decide) (fun cq77 => ?_) (fun cq77 => ?_)
  · replace hf := if_no hf cq77
    refine lv_iconst (v := 0) hx hb dX11_after_18 (by decide +kernel) ?_
    refine lv_istore_n (lv' := [(2, .int 0), (0, .ref h0), (1, .int a0)]) hx hb dX11_after_19 rfl hl (by decide) rfl (fun ls hl => ?_)
    exact (hG _ _ _ _ _).mp (L20 FU a0 0 0 c1 c2 c5 c6 H locs ls (hP.sub [0, 1, 2, 3, 4, 5, 6, 7, 8] rfl) (hD.sub [0, 1, 2, 3, 4, 5, 6, 7, 8] (by decide) rfl) hS (lv_sub hl [1, 2, 0] rfl) hf)
  · replace hf := if_at hf cq77
    refine lv_bipush (v := (-2)) hx hb dX11_after_15 (by decide +kernel) ?_
    have hf1 := Option.some.inj hf
    subst hf1
    have hP9 := hP.sub (ws' := (wX11_after h0 h1 h2 h3 h4 h5 h6 h7 h8 kc1 kc2 kc3 kc4 kc5 kc6 kc7 kc8 V0 0 v0_rules v0_size c1 c2 c3 c4 c5 c6 c7 c8)) [0, 1, 2, 3, 4, 5, 6, 7, 8] rfl
    have hD9 := hD.sub (ws' := (wX11_after h0 h1 h2 h3 h4 h5 h6 h7 h8 kc1 kc2 kc3 kc4 kc5 kc6 kc7 kc8 V0 0 v0_rules v0_size c1 c2 c3 c4 c5 c6 c7 c8)) [0, 1, 2, 3, 4, 5, 6, 7, 8] (by decide) rfl
    exact W.iret (v := (-2)) hx hb hr (fun t ht hW => ⟨⟨(-2), (0, c1, c2, c5, c6), rfl, ⟨rfl, rfl⟩, by rw [ht]; exact hP9, va_K.moved hW.alike hK, hD9⟩, hS.F ht⟩) hS.2.2 dX11_after_17
