abbrev wX11_toEnd (h0 h1 : Nat) (kc1 : ClassId) (V0 : Nat → Value) (c1 : Nat → Int32) : va_W := [(h0, .inr (11, [V0 0, V0 1, V0 2, V0 3, V0 4, V0 5, V0 6, V0 7, V0 8, V0 9, V0 10, V0 11, V0 12, V0 13, V0 14, V0 15, V0 16, V0 17, V0 18, V0 19, V0 20, V0 21, V0 22, V0 23, V0 24, V0 25, V0 26, V0 27, V0 28, V0 29, V0 30, V0 31, V0 32, V0 33, V0 34, V0 35, V0 36, V0 37, V0 38, V0 39, V0 40, V0 41, V0 42, V0 43, V0 44, V0 45, V0 46, V0 47, V0 48, V0 49, V0 50, V0 51, V0 52, V0 53, V0 54, V0 55, V0 56, V0 57, V0 58, V0 59, .ref h1, V0 61, V0 62, V0 63, V0 64, V0 65, V0 66, V0 67, V0 68, V0 69, V0 70])), (h1, .inl (kc1, 10240, .inl c1))]
set_option maxHeartbeats 4000000 in
set_option maxRecDepth 100000 in
theorem mX11_toEnd (l : Launch) (dC : Nat → ClassId) (dI : Nat → Nat → Nat) (h0 h1 : Nat) (kc1 : ClassId) (sz : Nat) (base : Nat × Nat × Nat) (a0 : Int32) (a1 : Int32) (a2 : Int32) (a3 : Int32) (c1 : Nat → Int32) (V0 : Nat → Value) (o : Int32 × Unit) (hf : fX11_toEnd a0 a1 a2 a3 c1 = some o) : Met l yX11_toEnd (.code yX11_toEnd cX11_toEnd 5 (some .int) :: wsL_law) ({ frames := 1, cells := 0, slots := 0, locals := 22 }) (cPre (dC, dI) vwCl [.ref h0, .int a0, .int a1, .int a2, .int a3] sz base (wX11_toEnd h0 h1 kc1 V0 c1) [(kc1, .int)]) (va_Qi (fun r u => r = o.1 ∧ u = o.2) (fun (u : Unit) t => cPost (dC, dI) vwCl (va_A (wX11_toEnd h0 h1 kc1 V0 c1) sz) (wX11_toEnd h0 h1 kc1 V0 c1) [(kc1, .int)] t) (va_A (wX11_toEnd h0 h1 kc1 V0 c1) sz)) 0 0 (va_A (wX11_toEnd h0 h1 kc1 V0 c1) sz) := by
  refine Met.ofW (cc := cX11_toEnd) (maxL := 5) (ret := (some .int)) (by decide) rfl ?_
  intro p e s m args below meth c s₁ B hml hv
  obtain ⟨rfl, hsz, hP, hK, hD0, hE⟩ := hv
  have hx := B.exec
  have hb := B.bytes
  have hr := B.returns
  have hts : ∀ w ∈ wsL_law, _ := fun w h => atoms_spec (ws := .code yX11_toEnd cX11_toEnd 5 (some .int) :: wsL_law) B.pre w (List.mem_cons_of_mem _ h)
  have hown : s.vm.findClass RX11 = some m.cls := findClass_of_methodNamed B.named
  have hlocks := B.notSynchronized
  have w0_ := hts _ q120
  have w1_ := hts _ q354
  subst hsz
  have hD := hD0.self (sz := s.heap.size)
  generalize hAe : va_A (wX11_toEnd h0 h1 kc1 V0 c1) s.heap.size = A at hD ⊢
  have hA : ∀ q : Nat, s.heap.size ≤ q → A q := fun q h => by rw [← hAe]; exact Or.inr h
  have hAB : ∀ q : Nat, A q → base.1 ≤ q := fun q h => by rw [← hAe] at h; exact h.elim (fun ⟨k, e, hk⟩ => hD0.2 k _ hk) (fun hk => Nat.le_trans hE.1 hk)
  have hS : va_S A s.heap s.heap [] := va_S.rf
  have hl := lv_entry ([.ref h0, .int a0, .int a1, .int a2, .int a3]) (n := 5) (Nat.le_of_ble_eq_true rfl)
  rw [lg_entry_eq]
  generalize (lg_sl ([.ref h0, .int a0, .int a1, .int a2, .int a3]) ++ List.replicate (5 - (lg_sl ([.ref h0, .int a0, .int a1, .int a2, .int a3])).length) Slot.unset).toArray = ls at hl ⊢
  have hl : lv_has ls 5 [(0, .ref h0), (1, .int a0), (2, .int a1), (3, .int a2), (4, .int a3)] := hl
  have hP : va_P (dC, dI) vwCl (wX11_toEnd h0 h1 kc1 V0 c1) s.heap := hP
  refine gl_intro (fun G hG => ?_)
  have J37 : ∀ (z0 : Int32) (H : Heap) (locs : List Loc) (ls : Array Slot), va_P (dC, dI) vwCl (wX11_toEnd h0 h1 kc1 V0 c1) H → va_D A (wX11_toEnd h0 h1 kc1 V0 c1) → va_S A s.heap H locs → lv_has ls 5 [(0, .ref h0)] → fX11_toEnd_p37 c1  z0 = some o → G 0 0 H locs (F0 m 37 ls [.int z0]) := by
    intro  z0 H locs ls hP hD hS hl hf
    refine (hG _ _ _ _ _).mpr ?_
    unfold fX11_toEnd_p37 at hf
    have hf1 := Option.some.inj hf
    subst hf1
    have hP9 := hP.sub (ws' := (wX11_toEnd h0 h1 kc1 V0 c1)) [0, 1] rfl
    have hD9 := hD.sub (ws' := (wX11_toEnd h0 h1 kc1 V0 c1)) [0, 1] (by decide) rfl
    exact W.iret (v := z0) hx hb hr (fun t ht hW => ⟨⟨z0, (), rfl, ⟨rfl, rfl⟩, by rw [ht]; exact hP9, va_K.moved hW.alike hK, hD9⟩, hS.F ht⟩) hS.2.2 dX11_toEnd_37
  refine (hG _ _ _ _ _).mpr ?_
  obtain ⟨H, hH⟩ : ∃ H, H = s.heap := ⟨_, rfl⟩
  have hS : va_S A s.heap H [] := by rw [hH]; exact hS
  rw [← hH] at hP ⊢
  generalize ([] : List Loc) = locs at hS ⊢
  unfold fX11_toEnd at hf
  refine lv_iload_n hx hb dX11_toEnd_0 rfl (lv_at hl 2 rfl) ?_
  refine lv_iconst (v := (-1)) hx hb dX11_toEnd_1 (by decide +kernel) ?_
  refine lv_icmp_ne (tgt := 20) hx hb dX11_toEnd_2 (by decide) (fun cq1 => ?_) (fun cq1 => ?_)
  · replace hf := if_no hf cq1
    refine lv_aload_n hx hb dX11_toEnd_20 rfl (lv_at hl 0 rfl) ?_
    refine va_get (D := (dC, dI)) (ci := 11) (v := .ref h1) (C := RX11) (T := TX11) (N := 71) hx hb hts inlX11 hown hK hP 0 rfl rfl 60 (by decide) w0_ (fun _ h9 => h9) rfl dX11_toEnd_21 ?_
    refine lv_bipush (v := 8) hx hb dX11_toEnd_24 (by decide +kernel) ?_
    refine lv_iload_n hx hb dX11_toEnd_26 rfl (lv_at hl 1 rfl) ?_
    refine lv_iload_n hx hb dX11_toEnd_27 rfl (lv_at hl 2 rfl) ?_
    refine lv_iload_n hx hb dX11_toEnd_28 rfl (lv_at hl 3 rfl) ?_
    obtain ⟨o2, e2, hf⟩ := ob_some hf
    refine kSi (As := [.int a0, .int a1, .int a2]) (rest := [.int 8, .ref h1]) ⟨hx, hb, hml, hown, hts⟩ (mX11_at l dC dI H.size base a0 a1 a2 o2 e2) (va_cwS 3 hts (gTS q1112 q1113 q5 q1114) rfl rfl rfl (by decide +kernel) ⟨Nat.le_of_ble_eq_true rfl, Nat.le_of_ble_eq_true rfl⟩) hK hP hD hS hA hE hAB [] [0, 1] [] (wr := (wX11_toEnd h0 h1 kc1 V0 c1)) rfl rfl (by decide) (by decide) (by decide) rfl rfl hl.1 rfl (Nat.le_of_ble_eq_true rfl) dX11_toEnd_29 ⟨Nat.zero_le _, Nat.zero_le _⟩ (fun r2 u2 H locs hw2 hP hD hS => ?_)
    obtain ⟨hw21, hw22⟩ := hw2
    subst hw21 hw22
    have hP : va_P (dC, dI) vwCl (wX11_toEnd h0 h1 kc1 V0 c1) H := hP.sub [0, 1] rfl
    have hD : va_D A (wX11_toEnd h0 h1 kc1 V0 c1) := hD.sub [0, 1] (by decide) rfl
    refine lv_imul hx hb dX11_toEnd_32 ?_
    refine lv_topi (fun x3 e3 => ?_)
    replace hf := nm_at hf e3
    refine lv_iload hx hb dX11_toEnd_33 (lv_at hl 4 rfl) ?_
    refine lv_iadd hx hb dX11_toEnd_35 ?_
    refine lv_topi (fun x4 e4 => ?_)
    replace hf := nm_at hf e4
    have b5 := bd_in hf
    replace hf := bd_k hf
    refine va_iald hx hb hK hP 1 0 rfl rfl b5 dX11_toEnd_36 ?_
    refine lv_topi (fun x6 e6 => ?_)
    replace hf := nm_at hf e6
    exact (hG _ _ _ _ _).mp (J37 x6 H locs ls (hP.sub [0, 1] rfl) (hD.sub [0, 1] (by decide) rfl) hS (lv_sub hl [0] rfl) hf)
  · replace hf := if_at hf cq1
    refine lv_iload_n hx hb dX11_toEnd_5 rfl (lv_at hl 1 rfl) ?_
    refine lv_iload hx hb dX11_toEnd_6 (lv_at hl 4 rfl) ?_
    refine lv_icmp_ne (tgt := 15) hx hb dX11_toEnd_8 (by decide) (fun cq7 => ?_) (fun cq7 => ?_)
    · replace hf := if_no hf cq7
      refine lv_ldc (v := 2000000) hx hb hown w1_ dX11_toEnd_15 ?_
      refine lv_goto (tgt := 37) hx hb dX11_toEnd_17 (by decide) ?_
      exact (hG _ _ _ _ _).mp (J37 2000000 H locs ls (hP.sub [0, 1] rfl) (hD.sub [0, 1] (by decide) rfl) hS (lv_sub hl [0] rfl) hf)
    · replace hf := if_at hf cq7
      refine lv_iconst (v := 0) hx hb dX11_toEnd_11 (by decide +kernel) ?_
      refine lv_goto (tgt := 37) hx hb dX11_toEnd_12 (by decide) ?_
      exact (hG _ _ _ _ _).mp (J37 0 H locs ls (hP.sub [0, 1] rfl) (hD.sub [0, 1] (by decide) rfl) hS (lv_sub hl [0] rfl) hf)
abbrev wX11_go (h0 h1 h2 h3 h4 : Nat) (kc1 kc2 kc3 kc4 : ClassId) (V0 : Nat → Value) (v0_newG : Int32) (v0_newL : Int32) (v0_newS : Int32) (c1 : Nat → Int32) (c2 : Nat → Int32) (c3 : Nat → Int32) (c4 : Nat → Int32) : va_W := [(h0, .inr (11, [V0 0, V0 1, V0 2, V0 3, V0 4, V0 5, V0 6, V0 7, V0 8, V0 9, V0 10, V0 11, V0 12, V0 13, V0 14, V0 15, V0 16, V0 17, V0 18, V0 19, V0 20, V0 21, V0 22, V0 23, V0 24, V0 25, V0 26, V0 27, V0 28, V0 29, V0 30, V0 31, V0 32, V0 33, V0 34, V0 35, .ref h2, V0 37, V0 38, .ref h3, .ref h4, .ref h1, V0 42, V0 43, V0 44, V0 45, V0 46, V0 47, V0 48, V0 49, V0 50, V0 51, V0 52, V0 53, V0 54, V0 55, V0 56, V0 57, V0 58, V0 59, V0 60, V0 61, .int v0_newG, .int v0_newL, .int v0_newS, V0 65, V0 66, V0 67, V0 68, V0 69, V0 70])), (h1, .inl (kc1, 40, .inl c1)), (h2, .inl (kc2, 40, .inl c2)), (h3, .inl (kc3, 40, .inl c3)), (h4, .inl (kc4, 80, .inl c4))]
set_option maxHeartbeats 4000000 in
set_option maxRecDepth 100000 in
theorem mX11_go (l : Launch) (dC : Nat → ClassId) (dI : Nat → Nat → Nat) (h0 h1 h2 h3 h4 : Nat) (kc1 kc2 kc3 kc4 : ClassId) (sz : Nat) (base : Nat × Nat × Nat) (a0 : Int32) (a1 : Int32) (a2 : Int32) (a3 : Int32) (v0_newG : Int32) (v0_newL : Int32) (v0_newS : Int32) (c1 : Nat → Int32) (c2 : Nat → Int32) (c3 : Nat → Int32) (c4 : Nat → Int32) (V0 : Nat → Value) (o : Int32 × Int32 × Int32) (hf : fX11_go a0 a1 a2 a3 v0_newG v0_newL v0_newS c1 c2 c3 c4 = some o) : Met l yX11_go (.code yX11_go cX11_go 6 none :: wsL_law) ({ frames := 0, cells := 0, slots := 0, locals := 0 }) (cPre (dC, dI) vwCl [.ref h0, .int a0, .int a1, .int a2, .int a3] sz base (wX11_go h0 h1 h2 h3 h4 kc1 kc2 kc3 kc4 V0 v0_newG v0_newL v0_newS c1 c2 c3 c4) [(kc1, .int), (kc2, .int), (kc3, .int), (kc4, .int)]) (va_Qv (fun u => u = o) (fun (u : Int32 × Int32 × Int32) t => cPost (dC, dI) vwCl (va_A (wX11_go h0 h1 h2 h3 h4 kc1 kc2 kc3 kc4 V0 v0_newG v0_newL v0_newS c1 c2 c3 c4) sz) (wX11_go h0 h1 h2 h3 h4 kc1 kc2 kc3 kc4 V0 u.1 u.2.1 u.2.2 c1 c2 c3 c4) [(kc1, .int), (kc2, .int), (kc3, .int), (kc4, .int)] t) (va_A (wX11_go h0 h1 h2 h3 h4 kc1 kc2 kc3 kc4 V0 v0_newG v0_newL v0_newS c1 c2 c3 c4) sz)) 0 0 (va_A (wX11_go h0 h1 h2 h3 h4 kc1 kc2 kc3 kc4 V0 v0_newG v0_newL v0_newS c1 c2 c3 c4) sz) := by
  refine Met.ofW (cc := cX11_go) (maxL := 6) (ret := none) (by decide) rfl ?_
  intro p e s m args below meth c s₁ B hml hv
  obtain ⟨rfl, hsz, hP, hK, hD0, hE⟩ := hv
  have hx := B.exec
  have hb := B.bytes
  have hr := B.returns
  have hts : ∀ w ∈ wsL_law, _ := fun w h => atoms_spec (ws := .code yX11_go cX11_go 6 none :: wsL_law) B.pre w (List.mem_cons_of_mem _ h)
  have hown : s.vm.findClass RX11 = some m.cls := findClass_of_methodNamed B.named
  have hlocks := B.notSynchronized
  have w0_ := hts _ q1120
  have w1_ := hts _ q106
  have w2_ := hts _ q105
  have w3_ := hts _ q101
  have w4_ := hts _ q1121
  have w5_ := hts _ q1119
  have w6_ := hts _ q104
  subst hsz
  have hD := hD0.self (sz := s.heap.size)
  generalize hAe : va_A (wX11_go h0 h1 h2 h3 h4 kc1 kc2 kc3 kc4 V0 v0_newG v0_newL v0_newS c1 c2 c3 c4) s.heap.size = A at hD ⊢
  have hA : ∀ q : Nat, s.heap.size ≤ q → A q := fun q h => by rw [← hAe]; exact Or.inr h
  have hAB : ∀ q : Nat, A q → base.1 ≤ q := fun q h => by rw [← hAe] at h; exact h.elim (fun ⟨k, e, hk⟩ => hD0.2 k _ hk) (fun hk => Nat.le_trans hE.1 hk)
  have hS : va_S A s.heap s.heap [] := va_S.rf
  have hl := lv_entry ([.ref h0, .int a0, .int a1, .int a2, .int a3]) (n := 6) (Nat.le_of_ble_eq_true rfl)
  rw [lg_entry_eq]
  generalize (lg_sl ([.ref h0, .int a0, .int a1, .int a2, .int a3]) ++ List.replicate (6 - (lg_sl ([.ref h0, .int a0, .int a1, .int a2, .int a3])).length) Slot.unset).toArray = ls at hl ⊢
  have hl : lv_has ls 6 [(0, .ref h0), (1, .int a0), (2, .int a1), (3, .int a2), (4, .int a3)] := hl
  have hP : va_P (dC, dI) vwCl (wX11_go h0 h1 h2 h3 h4 kc1 kc2 kc3 kc4 V0 v0_newG v0_newL v0_newS c1 c2 c3 c4) s.heap := hP
  refine gl_intro (fun G hG => ?_)
  have J184 : ∀ (v0_newG : Int32) (v0_newL : Int32) (v0_newS : Int32) (H : Heap) (locs : List Loc) (ls : Array Slot), va_P (dC, dI) vwCl (wX11_go h0 h1 h2 h3 h4 kc1 kc2 kc3 kc4 V0 v0_newG v0_newL v0_newS c1 c2 c3 c4) H → va_D A (wX11_go h0 h1 h2 h3 h4 kc1 kc2 kc3 kc4 V0 v0_newG v0_newL v0_newS c1 c2 c3 c4) → va_S A s.heap H locs → lv_has ls 6 [(0, .ref h0)] → fX11_go_p184 c1 c2 c3 c4  v0_newG v0_newL v0_newS = some o → G 0 0 H locs (F0 m 184 ls []) := by
    intro  v0_newG v0_newL v0_newS H locs ls hP hD hS hl hf
    refine (hG _ _ _ _ _).mpr ?_
    unfold fX11_go_p184 at hf
    have hf1 := Option.some.inj hf
    subst hf1
    have hP9 := hP.sub (ws' := (wX11_go h0 h1 h2 h3 h4 kc1 kc2 kc3 kc4 V0 v0_newG v0_newL v0_newS c1 c2 c3 c4)) [0, 1, 2, 3, 4] rfl
    have hD9 := hD.sub (ws' := (wX11_go h0 h1 h2 h3 h4 kc1 kc2 kc3 kc4 V0 v0_newG v0_newL v0_newS c1 c2 c3 c4)) [0, 1, 2, 3, 4] (by decide) rfl
    exact W.vret hx hb hr (fun t ht hW => ⟨⟨(v0_newG, v0_newL, v0_newS), rfl, rfl, by rw [ht]; exact hP9, va_K.moved hW.alike hK, hD9⟩, hS.F ht⟩) hS.2.2 dX11_go_184
  have J181 : ∀ (z0 : Int32) (v0_newG : Int32) (v0_newL : Int32) (v0_newS : Int32) (H : Heap) (locs : List Loc) (ls : Array Slot), va_P (dC, dI) vwCl (wX11_go h0 h1 h2 h3 h4 kc1 kc2 kc3 kc4 V0 v0_newG v0_newL v0_newS c1 c2 c3 c4) H → va_D A (wX11_go h0 h1 h2 h3 h4 kc1 kc2 kc3 kc4 V0 v0_newG v0_newL v0_newS c1 c2 c3 c4) → va_S A s.heap H locs → lv_has ls 6 [(0, .ref h0)] → fX11_go_p181 c1 c2 c3 c4  z0 v0_newG v0_newL v0_newS = some o → G 0 0 H locs (F0 m 181 ls [.int z0, .ref h0]) := by
    intro  z0 v0_newG v0_newL v0_newS H locs ls hP hD hS hl hf
    refine (hG _ _ _ _ _).mpr ?_
    unfold fX11_go_p181 at hf
    refine va_put (D := (dC, dI)) (ci := 11) (v := .int z0) (ty := .int) (C := RX11) (T := TX11) (N := 71) hx hb hts inlX11 tyX11 tyX11_ok nmX11 hown hK hP hD hS 0 rfl rfl 64 (by decide) w0_ (fun _ h9 => h9) rfl (by decide +kernel) rfl rfl (Nat.le_of_ble_eq_true rfl) dX11_go_181 (fun H locs hP hD hS => ?_)
    have hP : va_P (dC, dI) vwCl (wX11_go h0 h1 h2 h3 h4 kc1 kc2 kc3 kc4 V0 v0_newG v0_newL z0 c1 c2 c3 c4) H := hP
    have hD : va_D A (wX11_go h0 h1 h2 h3 h4 kc1 kc2 kc3 kc4 V0 v0_newG v0_newL z0 c1 c2 c3 c4) := hD
    exact (hG _ _ _ _ _).mp (J184 v0_newG v0_newL z0 H locs ls (hP.sub [0, 1, 2, 3, 4] rfl) (hD.sub [0, 1, 2, 3, 4] (by decide) rfl) hS (lv_sub hl [0] rfl) hf)
  have J175 : ∀ (y1 : Int32) (v0_newG : Int32) (v0_newL : Int32) (v0_newS : Int32) (H : Heap) (locs : List Loc) (ls : Array Slot), va_P (dC, dI) vwCl (wX11_go h0 h1 h2 h3 h4 kc1 kc2 kc3 kc4 V0 v0_newG v0_newL v0_newS c1 c2 c3 c4) H → va_D A (wX11_go h0 h1 h2 h3 h4 kc1 kc2 kc3 kc4 V0 v0_newG v0_newL v0_newS c1 c2 c3 c4) → va_S A s.heap H locs → lv_has ls 6 [(0, .ref h0), (1, .int y1)] → fX11_go_p175 c1 c2 c3 c4  y1 v0_newG v0_newL v0_newS = some o → G 0 0 H locs (F0 m 175 ls [.ref h0]) := by
    intro  y1 v0_newG v0_newL v0_newS H locs ls hP hD hS hl hf
    refine (hG _ _ _ _ _).mpr ?_
    unfold fX11_go_p175 at hf
    refine lv_aload_n hx hb dX11_go_175 rfl (lv_at hl 0 rfl) ?_
    refine va_get (D := (dC, dI)) (ci := 11) (v := .ref h1) (C := RX11) (T := TX11) (N := 71) hx hb hts inlX11 hown hK hP 0 rfl rfl 41 (by decide) w1_ (fun _ h9 => h9) rfl dX11_go_176 ?_
    refine lv_iload_n hx hb dX11_go_179 rfl (lv_at hl 1 rfl) ?_
    have b1 := bd_in hf
    replace hf := bd_k hf
    refine va_iald hx hb hK hP 1 0 rfl rfl b1 dX11_go_180 ?_
    refine lv_topi (fun x2 e2 => ?_)
    replace hf := nm_at hf e2
    exact (hG _ _ _ _ _).mp (J181 x2 v0_newG v0_newL v0_newS H locs ls (hP.sub [0, 1, 2, 3, 4] rfl) (hD.sub [0, 1, 2, 3, 4] (by decide) rfl) hS (lv_sub hl [0] rfl) hf)
  have J130 : ∀ (y1 : Int32) (y4 : Int32) (v0_newG : Int32) (v0_newL : Int32) (v0_newS : Int32) (H : Heap) (locs : List Loc) (ls : Array Slot), va_P (dC, dI) vwCl (wX11_go h0 h1 h2 h3 h4 kc1 kc2 kc3 kc4 V0 v0_newG v0_newL v0_newS c1 c2 c3 c4) H → va_D A (wX11_go h0 h1 h2 h3 h4 kc1 kc2 kc3 kc4 V0 v0_newG v0_newL v0_newS c1 c2 c3 c4) → va_S A s.heap H locs → lv_has ls 6 [(0, .ref h0), (1, .int y1), (4, .int y4)] → fX11_go_p130 c1 c2 c3 c4  y1 y4 v0_newG v0_newL v0_newS = some o → G 0 0 H locs (F0 m 130 ls []) := by
    intro  y1 y4 v0_newG v0_newL v0_newS H locs ls hP hD hS hl hf
    refine (hG _ _ _ _ _).mpr ?_
    unfold fX11_go_p130 at hf
    refine lv_aload_n hx hb dX11_go_130 rfl (lv_at hl 0 rfl) ?_
    refine va_get (D := (dC, dI)) (ci := 11) (v := .ref h4) (C := RX11) (T := TX11) (N := 71) hx hb hts inlX11 hown hK hP 0 rfl rfl 40 (by decide) w2_ (fun _ h9 => h9) rfl dX11_go_131 ?_
    refine lv_iconst (v := 2) hx hb dX11_go_134 (by decide +kernel) ?_
    refine lv_iload_n hx hb dX11_go_135 rfl (lv_at hl 1 rfl) ?_
    refine lv_imul hx hb dX11_go_136 ?_
    refine lv_topi (fun x3 e3 => ?_)
    replace hf := nm_at hf e3
    refine lv_iload hx hb dX11_go_137 (lv_at hl 2 rfl) ?_
    refine lv_iadd hx hb dX11_go_139 ?_
    refine lv_topi (fun x4 e4 => ?_)
    replace hf := nm_at hf e4
    have b5 := bd_in hf
    replace hf := bd_k hf
    refine va_iald hx hb hK hP 4 3 rfl rfl b5 dX11_go_140 ?_
    refine lv_topi (fun x6 e6 => ?_)
    replace hf := nm_at hf e6
    refine lv_istore (lv' := [(5, .int x6), (0, .ref h0), (1, .int y1), (4, .int y4)]) hx hb dX11_go_141 hl (by decide) rfl (fun ls hl => ?_)
    refine lv_aload_n hx hb dX11_go_143 rfl (lv_at hl 1 rfl) ?_
    refine lv_iload hx hb dX11_go_144 (lv_at hl 0 rfl) ?_
    refine lv_iconst (v := (-1)) hx hb dX11_go_146 (by decide +kernel) ?_
    refine lv_icmp_eq (tgt := 155) hx hb dX11_go_147 (by decide) (fun cq7 => ?_) (fun cq7 => ?_)
    · replace hf := if_at hf cq7
      refine lv_aload_n hx hb dX11_go_155 rfl (lv_at hl 1 rfl) ?_
      refine va_get (D := (dC, dI)) (ci := 11) (v := .ref h2) (C := RX11) (T := TX11) (N := 71) hx hb hts inlX11 hown hK hP 0 rfl rfl 36 (by decide) w3_ (fun _ h9 => h9) rfl dX11_go_156 ?_
      refine lv_iload_n hx hb dX11_go_159 rfl (lv_at hl 2 rfl) ?_
      have b8 := bd_in hf
      replace hf := bd_k hf
      refine va_iald hx hb hK hP 2 1 rfl rfl b8 dX11_go_160 ?_
      refine lv_topi (fun x9 e9 => ?_)
      replace hf := nm_at hf e9
      refine lv_iconst (v := 2) hx hb dX11_go_161 (by decide +kernel) ?_
      refine lv_icmp_ne (tgt := 175) hx hb dX11_go_162 (by decide) (fun cq10 => ?_) (fun cq10 => ?_)
      · replace hf := if_no hf cq10
        exact (hG _ _ _ _ _).mp (J175 y1 v0_newG v0_newL v0_newS H locs ls (hP.sub [0, 1, 2, 3, 4] rfl) (hD.sub [0, 1, 2, 3, 4] (by decide) rfl) hS (lv_sub hl [1, 2] rfl) hf)
      · replace hf := if_at hf cq10
        refine lv_iload hx hb dX11_go_165 (lv_at hl 3 rfl) ?_
        refine lv_iconst (v := 1) hx hb dX11_go_167 (by decide +kernel) ?_
        refine lv_icmp_ne (tgt := 175) hx hb dX11_go_168 (by decide) (fun cq11 => ?_) (fun cq11 => ?_)
        · replace hf := if_no hf cq11
          exact (hG _ _ _ _ _).mp (J175 y1 v0_newG v0_newL v0_newS H locs ls (hP.sub [0, 1, 2, 3, 4] rfl) (hD.sub [0, 1, 2, 3, 4] (by decide) rfl) hS (lv_sub hl [1, 2] rfl) hf)
        · replace hf := if_at hf cq11
          refine lv_iload_n hx hb dX11_go_171 rfl (lv_at hl 2 rfl) ?_
          refine lv_goto (tgt := 181) hx hb dX11_go_172 (by decide) ?_
          exact (hG _ _ _ _ _).mp (J181 y1 v0_newG v0_newL v0_newS H locs ls (hP.sub [0, 1, 2, 3, 4] rfl) (hD.sub [0, 1, 2, 3, 4] (by decide) rfl) hS (lv_sub hl [1] rfl) hf)
    · replace hf := if_no hf cq7
      refine lv_iload hx hb dX11_go_150 (lv_at hl 0 rfl) ?_
      refine lv_goto (tgt := 181) hx hb dX11_go_152 (by decide) ?_
      exact (hG _ _ _ _ _).mp (J181 x6 v0_newG v0_newL v0_newS H locs ls (hP.sub [0, 1, 2, 3, 4] rfl) (hD.sub [0, 1, 2, 3, 4] (by decide) rfl) hS (lv_sub hl [1] rfl) hf)
  have J104 : ∀ (z0 : Int32) (v0_newG : Int32) (v0_newL : Int32) (v0_newS : Int32) (H : Heap) (locs : List Loc) (ls : Array Slot), va_P (dC, dI) vwCl (wX11_go h0 h1 h2 h3 h4 kc1 kc2 kc3 kc4 V0 v0_newG v0_newL v0_newS c1 c2 c3 c4) H → va_D A (wX11_go h0 h1 h2 h3 h4 kc1 kc2 kc3 kc4 V0 v0_newG v0_newL v0_newS c1 c2 c3 c4) → va_S A s.heap H locs → lv_has ls 6 [(0, .ref h0)] → fX11_go_p104 c1 c2 c3 c4  z0 v0_newG v0_newL v0_newS = some o → G 0 0 H locs (F0 m 104 ls [.int z0, .ref h0]) := by
    intro  z0 v0_newG v0_newL v0_newS H locs ls hP hD hS hl hf
    refine (hG _ _ _ _ _).mpr ?_
    unfold fX11_go_p104 at hf
    refine va_put (D := (dC, dI)) (ci := 11) (v := .int z0) (ty := .int) (C := RX11) (T := TX11) (N := 71) hx hb hts inlX11 tyX11 tyX11_ok nmX11 hown hK hP hD hS 0 rfl rfl 63 (by decide) w4_ (fun _ h9 => h9) rfl (by decide +kernel) rfl rfl (Nat.le_of_ble_eq_true rfl) dX11_go_104 (fun H locs hP hD hS => ?_)
    have hP : va_P (dC, dI) vwCl (wX11_go h0 h1 h2 h3 h4 kc1 kc2 kc3 kc4 V0 v0_newG z0 v0_newS c1 c2 c3 c4) H := hP
    have hD : va_D A (wX11_go h0 h1 h2 h3 h4 kc1 kc2 kc3 kc4 V0 v0_newG z0 v0_newS c1 c2 c3 c4) := hD
    refine lv_goto (tgt := 184) hx hb dX11_go_107 (by decide) ?_
    exact (hG _ _ _ _ _).mp (J184 v0_newG z0 v0_newS H locs ls (hP.sub [0, 1, 2, 3, 4] rfl) (hD.sub [0, 1, 2, 3, 4] (by decide) rfl) hS (lv_sub hl [0] rfl) hf)
  have J69 : ∀ (y3 : Int32) (y4 : Int32) (y5 : Int32) (z0 : Int32) (v0_newG : Int32) (v0_newL : Int32) (v0_newS : Int32) (H : Heap) (locs : List Loc) (ls : Array Slot), va_P (dC, dI) vwCl (wX11_go h0 h1 h2 h3 h4 kc1 kc2 kc3 kc4 V0 v0_newG v0_newL v0_newS c1 c2 c3 c4) H → va_D A (wX11_go h0 h1 h2 h3 h4 kc1 kc2 kc3 kc4 V0 v0_newG v0_newL v0_newS c1 c2 c3 c4) → va_S A s.heap H locs → lv_has ls 6 [(0, .ref h0), (3, .int y3), (4, .int y4), (5, .int y5)] → fX11_go_p69 c1 c2 c3 c4  y3 y4 y5 z0 v0_newG v0_newL v0_newS = some o → G 0 0 H locs (F0 m 69 ls [.int z0, .ref h0]) := by
    intro  y3 y4 y5 z0 v0_newG v0_newL v0_newS H locs ls hP hD hS hl hf
    refine (hG _ _ _ _ _).mpr ?_
    unfold fX11_go_p69 at hf
    refine va_put (D := (dC, dI)) (ci := 11) (v := .int z0) (ty := .int) (C := RX11) (T := TX11) (N := 71) hx hb hts inlX11 tyX11 tyX11_ok nmX11 hown hK hP hD hS 0 rfl rfl 62 (by decide) w5_ (fun _ h9 => h9) rfl (by decide +kernel) rfl rfl (Nat.le_of_ble_eq_true rfl) dX11_go_69 (fun H locs hP hD hS => ?_)
    have hP : va_P (dC, dI) vwCl (wX11_go h0 h1 h2 h3 h4 kc1 kc2 kc3 kc4 V0 z0 v0_newL v0_newS c1 c2 c3 c4) H := hP
    have hD : va_D A (wX11_go h0 h1 h2 h3 h4 kc1 kc2 kc3 kc4 V0 z0 v0_newL v0_newS c1 c2 c3 c4) := hD
    refine lv_aload_n hx hb dX11_go_72 rfl (lv_at hl 0 rfl) ?_
    refine lv_iload hx hb dX11_go_73 (lv_at hl 3 rfl) ?_
    refine lv_bipush (v := 24) hx hb dX11_go_75 (by decide +kernel) ?_
    refine lv_icmp_ge (tgt := 84) hx hb dX11_go_77 (by decide) (fun cq12 => ?_) (fun cq12 => ?_)
    · replace hf := if_at hf cq12
      refine lv_iload_n hx hb dX11_go_84 rfl (lv_at hl 1 rfl) ?_
      refine lv_iconst (v := 1) hx hb dX11_go_85 (by decide +kernel) ?_
      refine lv_iload hx hb dX11_go_86 (lv_at hl 3 rfl) ?_
      refine lv_bipush (v := 24) hx hb dX11_go_88 (by decide +kernel) ?_
      refine lv_isub hx hb dX11_go_90 ?_
      refine lv_topi (fun x13 e13 => ?_)
      replace hf := nm_at hf e13
      refine lv_ishl hx hb dX11_go_91 ?_
      refine lv_topi (fun x14 e14 => ?_)
      replace hf := nm_at hf e14
      refine lv_iconst (v := (-1)) hx hb dX11_go_92 (by decide +kernel) ?_
      refine lv_ixor hx hb dX11_go_93 ?_
      refine lv_topi (fun x15 e15 => ?_)
      replace hf := nm_at hf e15
      refine lv_iand hx hb dX11_go_94 ?_
      refine lv_topi (fun x16 e16 => ?_)
      replace hf := nm_at hf e16
      refine lv_iload hx hb dX11_go_95 (lv_at hl 2 rfl) ?_
      refine lv_iload hx hb dX11_go_97 (lv_at hl 3 rfl) ?_
      refine lv_bipush (v := 24) hx hb dX11_go_99 (by decide +kernel) ?_
      refine lv_isub hx hb dX11_go_101 ?_
      refine lv_topi (fun x17 e17 => ?_)
      replace hf := nm_at hf e17
      refine lv_ishl hx hb dX11_go_102 ?_
      refine lv_topi (fun x18 e18 => ?_)
      replace hf := nm_at hf e18
      refine lv_ior hx hb dX11_go_103 ?_
      refine lv_topi (fun x19 e19 => ?_)
      replace hf := nm_at hf e19
      exact (hG _ _ _ _ _).mp (J104 x19 z0 v0_newL v0_newS H locs ls (hP.sub [0, 1, 2, 3, 4] rfl) (hD.sub [0, 1, 2, 3, 4] (by decide) rfl) hS (lv_sub hl [0] rfl) hf)
    · replace hf := if_no hf cq12
      refine lv_iload_n hx hb dX11_go_80 rfl (lv_at hl 1 rfl) ?_
      refine lv_goto (tgt := 104) hx hb dX11_go_81 (by decide) ?_
      exact (hG _ _ _ _ _).mp (J104 y3 z0 v0_newL v0_newS H locs ls (hP.sub [0, 1, 2, 3, 4] rfl) (hD.sub [0, 1, 2, 3, 4] (by decide) rfl) hS (lv_sub hl [0] rfl) hf)
  refine (hG _ _ _ _ _).mpr ?_
  obtain ⟨H, hH⟩ : ∃ H, H = s.heap := ⟨_, rfl⟩
  have hS : va_S A s.heap H [] := by rw [hH]; exact hS
  rw [← hH] at hP ⊢
  generalize ([] : List Loc) = locs at hS ⊢
  unfold fX11_go at hf
  refine lv_aload_n hx hb dX11_go_0 rfl (lv_at hl 0 rfl) ?_
  refine lv_iload_n hx hb dX11_go_1 rfl (lv_at hl 2 rfl) ?_
  refine va_put (D := (dC, dI)) (ci := 11) (v := .int a1) (ty := .int) (C := RX11) (T := TX11) (N := 71) hx hb hts inlX11 tyX11 tyX11_ok nmX11 hown hK hP hD hS 0 rfl rfl 62 (by decide) w5_ (fun _ h9 => h9) rfl (by decide +kernel) rfl rfl (Nat.le_of_ble_eq_true rfl) dX11_go_2 (fun H locs hP hD hS => ?_)
  have hP : va_P (dC, dI) vwCl (wX11_go h0 h1 h2 h3 h4 kc1 kc2 kc3 kc4 V0 a1 v0_newL v0_newS c1 c2 c3 c4) H := hP
  have hD : va_D A (wX11_go h0 h1 h2 h3 h4 kc1 kc2 kc3 kc4 V0 a1 v0_newL v0_newS c1 c2 c3 c4) := hD
  refine lv_aload_n hx hb dX11_go_5 rfl (lv_at hl 0 rfl) ?_
  refine lv_iload_n hx hb dX11_go_6 rfl (lv_at hl 3 rfl) ?_
  refine va_put (D := (dC, dI)) (ci := 11) (v := .int a2) (ty := .int) (C := RX11) (T := TX11) (N := 71) hx hb hts inlX11 tyX11 tyX11_ok nmX11 hown hK hP hD hS 0 rfl rfl 63 (by decide) w4_ (fun _ h9 => h9) rfl (by decide +kernel) rfl rfl (Nat.le_of_ble_eq_true rfl) dX11_go_7 (fun H locs hP hD hS => ?_)
  have hP : va_P (dC, dI) vwCl (wX11_go h0 h1 h2 h3 h4 kc1 kc2 kc3 kc4 V0 a1 a2 v0_newS c1 c2 c3 c4) H := hP
  have hD : va_D A (wX11_go h0 h1 h2 h3 h4 kc1 kc2 kc3 kc4 V0 a1 a2 v0_newS c1 c2 c3 c4) := hD
  refine lv_aload_n hx hb dX11_go_10 rfl (lv_at hl 0 rfl) ?_
  refine lv_aload_n hx hb dX11_go_11 rfl (lv_at hl 0 rfl) ?_
  refine va_get (D := (dC, dI)) (ci := 11) (v := .ref h1) (C := RX11) (T := TX11) (N := 71) hx hb hts inlX11 hown hK hP 0 rfl rfl 41 (by decide) w1_ (fun _ h9 => h9) rfl dX11_go_12 ?_
  refine lv_iload_n hx hb dX11_go_15 rfl (lv_at hl 1 rfl) ?_
  have b20 := bd_in hf
  replace hf := bd_k hf
  refine va_iald hx hb hK hP 1 0 rfl rfl b20 dX11_go_16 ?_
  refine lv_topi (fun x21 e21 => ?_)
  replace hf := nm_at hf e21
  refine va_put (D := (dC, dI)) (ci := 11) (v := .int x21) (ty := .int) (C := RX11) (T := TX11) (N := 71) hx hb hts inlX11 tyX11 tyX11_ok nmX11 hown hK hP hD hS 0 rfl rfl 64 (by decide) w0_ (fun _ h9 => h9) rfl (by decide +kernel) rfl rfl (Nat.le_of_ble_eq_true rfl) dX11_go_17 (fun H locs hP hD hS => ?_)
  have hP : va_P (dC, dI) vwCl (wX11_go h0 h1 h2 h3 h4 kc1 kc2 kc3 kc4 V0 a1 a2 x21 c1 c2 c3 c4) H := hP
  have hD : va_D A (wX11_go h0 h1 h2 h3 h4 kc1 kc2 kc3 kc4 V0 a1 a2 x21 c1 c2 c3 c4) := hD
  refine lv_aload_n hx hb dX11_go_20 rfl (lv_at hl 0 rfl) ?_
  refine va_get (D := (dC, dI)) (ci := 11) (v := .ref h2) (C := RX11) (T := TX11) (N := 71) hx hb hts inlX11 hown hK hP 0 rfl rfl 36 (by decide) w3_ (fun _ h9 => h9) rfl dX11_go_21 ?_
  refine lv_iload_n hx hb dX11_go_24 rfl (lv_at hl 1 rfl) ?_
  have b22 := bd_in hf
  replace hf := bd_k hf
  refine va_iald hx hb hK hP 2 1 rfl rfl b22 dX11_go_25 ?_
  refine lv_topi (fun x23 e23 => ?_)
  replace hf := nm_at hf e23
  refine lv_if_ne (tgt := 110) hx hb dX11_go_26 (by decide) (fun cq24 => ?_) (fun cq24 => ?_)
  · replace hf := if_no hf cq24
    refine lv_aload_n hx hb dX11_go_110 rfl (lv_at hl 0 rfl) ?_
    refine va_get (D := (dC, dI)) (ci := 11) (v := .ref h2) (C := RX11) (T := TX11) (N := 71) hx hb hts inlX11 hown hK hP 0 rfl rfl 36 (by decide) w3_ (fun _ h9 => h9) rfl dX11_go_111 ?_
    refine lv_iload_n hx hb dX11_go_114 rfl (lv_at hl 1 rfl) ?_
    have b25 := bd_in hf
    replace hf := bd_k hf
    refine va_iald hx hb hK hP 2 1 rfl rfl b25 dX11_go_115 ?_
    refine lv_topi (fun x26 e26 => ?_)
    replace hf := nm_at hf e26
    refine lv_iconst (v := 1) hx hb dX11_go_116 (by decide +kernel) ?_
    refine lv_icmp_eq (tgt := 130) hx hb dX11_go_117 (by decide) (fun cq27 => ?_) (fun cq27 => ?_)
    · replace hf := if_at hf cq27
      exact (hG _ _ _ _ _).mp (J130 a0 a3 a1 a2 x21 H locs ls (hP.sub [0, 1, 2, 3, 4] rfl) (hD.sub [0, 1, 2, 3, 4] (by decide) rfl) hS (lv_sub hl [0, 1, 4] rfl) hf)
    · replace hf := if_no hf cq27
      refine lv_aload_n hx hb dX11_go_120 rfl (lv_at hl 0 rfl) ?_
      refine va_get (D := (dC, dI)) (ci := 11) (v := .ref h2) (C := RX11) (T := TX11) (N := 71) hx hb hts inlX11 hown hK hP 0 rfl rfl 36 (by decide) w3_ (fun _ h9 => h9) rfl dX11_go_121 ?_
      refine lv_iload_n hx hb dX11_go_124 rfl (lv_at hl 1 rfl) ?_
      have b28 := bd_in hf
      replace hf := bd_k hf
      refine va_iald hx hb hK hP 2 1 rfl rfl b28 dX11_go_125 ?_
      refine lv_topi (fun x29 e29 => ?_)
      replace hf := nm_at hf e29
      refine lv_iconst (v := 2) hx hb dX11_go_126 (by decide +kernel) ?_
      refine lv_icmp_ne (tgt := 184) hx hb dX11_go_127 (by decide) (fun cq30 => ?_) (fun cq30 => ?_)
      · replace hf := if_no hf cq30
        exact (hG _ _ _ _ _).mp (J184 a1 a2 x21 H locs ls (hP.sub [0, 1, 2, 3, 4] rfl) (hD.sub [0, 1, 2, 3, 4] (by decide) rfl) hS (lv_sub hl [0] rfl) hf)
      · replace hf := if_at hf cq30
        exact (hG _ _ _ _ _).mp (J130 a0 a3 a1 a2 x21 H locs ls (hP.sub [0, 1, 2, 3, 4] rfl) (hD.sub [0, 1, 2, 3, 4] (by decide) rfl) hS (lv_sub hl [0, 1, 4] rfl) hf)
  · replace hf := if_at hf cq24
    refine lv_aload_n hx hb dX11_go_29 rfl (lv_at hl 0 rfl) ?_
    refine va_get (D := (dC, dI)) (ci := 11) (v := .ref h3) (C := RX11) (T := TX11) (N := 71) hx hb hts inlX11 hown hK hP 0 rfl rfl 39 (by decide) w6_ (fun _ h9 => h9) rfl dX11_go_30 ?_
    refine lv_iload_n hx hb dX11_go_33 rfl (lv_at hl 1 rfl) ?_
    have b31 := bd_in hf
    replace hf := bd_k hf
    refine va_iald hx hb hK hP 3 2 rfl rfl b31 dX11_go_34 ?_
    refine lv_topi (fun x32 e32 => ?_)
    replace hf := nm_at hf e32
    refine lv_istore (lv' := [(5, .int x32), (0, .ref h0), (1, .int a0), (2, .int a1), (3, .int a2), (4, .int a3)]) hx hb dX11_go_35 hl (by decide) rfl (fun ls hl => ?_)
    refine lv_aload_n hx hb dX11_go_37 rfl (lv_at hl 1 rfl) ?_
    refine lv_iload hx hb dX11_go_38 (lv_at hl 0 rfl) ?_
    refine lv_bipush (v := 24) hx hb dX11_go_40 (by decide +kernel) ?_
    refine lv_icmp_ge (tgt := 68) hx hb dX11_go_42 (by decide) (fun cq33 => ?_) (fun cq33 => ?_)
    · replace hf := if_at hf cq33
      refine lv_iload_n hx hb dX11_go_68 rfl (lv_at hl 3 rfl) ?_
      exact (hG _ _ _ _ _).mp (J69 a2 a3 x32 a1 a1 a2 x21 H locs ls (hP.sub [0, 1, 2, 3, 4] rfl) (hD.sub [0, 1, 2, 3, 4] (by decide) rfl) hS (lv_sub hl [1, 4, 5, 0] rfl) hf)
    · replace hf := if_no hf cq33
      refine lv_iload_n hx hb dX11_go_45 rfl (lv_at hl 3 rfl) ?_
      refine lv_iconst (v := 1) hx hb dX11_go_46 (by decide +kernel) ?_
      refine lv_iload hx hb dX11_go_47 (lv_at hl 0 rfl) ?_
      refine lv_bipush (v := 16) hx hb dX11_go_49 (by decide +kernel) ?_
      refine lv_isub hx hb dX11_go_51 ?_
      refine lv_topi (fun x34 e34 => ?_)
      replace hf := nm_at hf e34
      refine lv_ishl hx hb dX11_go_52 ?_
      refine lv_topi (fun x35 e35 => ?_)
      replace hf := nm_at hf e35
      refine lv_iconst (v := (-1)) hx hb dX11_go_53 (by decide +kernel) ?_
      refine lv_ixor hx hb dX11_go_54 ?_
      refine lv_topi (fun x36 e36 => ?_)
      replace hf := nm_at hf e36
      refine lv_iand hx hb dX11_go_55 ?_
      refine lv_topi (fun x37 e37 => ?_)
      replace hf := nm_at hf e37
      refine lv_iload hx hb dX11_go_56 (lv_at hl 5 rfl) ?_
      refine lv_iload hx hb dX11_go_58 (lv_at hl 0 rfl) ?_
      refine lv_bipush (v := 16) hx hb dX11_go_60 (by decide +kernel) ?_
      refine lv_isub hx hb dX11_go_62 ?_
      refine lv_topi (fun x38 e38 => ?_)
      replace hf := nm_at hf e38
      refine lv_ishl hx hb dX11_go_63 ?_
      refine lv_topi (fun x39 e39 => ?_)
      replace hf := nm_at hf e39
      refine lv_ior hx hb dX11_go_64 ?_
      refine lv_topi (fun x40 e40 => ?_)
      replace hf := nm_at hf e40
      refine lv_goto (tgt := 69) hx hb dX11_go_65 (by decide) ?_
      exact (hG _ _ _ _ _).mp (J69 a2 a3 x32 x40 a1 a2 x21 H locs ls (hP.sub [0, 1, 2, 3, 4] rfl) (hD.sub [0, 1, 2, 3, 4] (by decide) rfl) hS (lv_sub hl [1, 4, 5, 0] rfl) hf)
abbrev wX11_endCost (h0 h1 h2 h3 h4 h5 h6 h7 h8 h9 h10 : Nat) (kc1 kc2 kc3 kc4 kc5 kc6 kc7 kc8 kc9 kc10 : ClassId) (V0 : Nat → Value) (v0_newG : Int32) (v0_newL : Int32) (v0_newS : Int32) (c1 : Nat → Int32) (c2 : Nat → Int32) (c3 : Nat → Int32) (c4 : Nat → Int32) (c5 : Nat → Int32) (c6 : Nat → Int32) (c7 : Nat → Int32) (c8 : Nat → Int32) (c9 : Nat → Int32) (c10 : Nat → Int32) : va_W := [(h0, .inr (11, [V0 0, V0 1, V0 2, V0 3, V0 4, V0 5, V0 6, V0 7, V0 8, V0 9, V0 10, V0 11, V0 12, V0 13, V0 14, V0 15, V0 16, V0 17, V0 18, V0 19, V0 20, V0 21, V0 22, V0 23, V0 24, V0 25, V0 26, V0 27, V0 28, V0 29, V0 30, V0 31, V0 32, V0 33, V0 34, .ref h5, .ref h1, V0 37, V0 38, .ref h4, .ref h10, .ref h2, V0 42, V0 43, .ref h6, .ref h7, .ref h8, V0 47, V0 48, V0 49, V0 50, V0 51, V0 52, V0 53, V0 54, V0 55, V0 56, V0 57, V0 58, .ref h9, .ref h3, V0 61, .int v0_newG, .int v0_newL, .int v0_newS, V0 65, V0 66, V0 67, V0 68, V0 69, V0 70])), (h1, .inl (kc1, 40, .inl c1)), (h2, .inl (kc2, 40, .inl c2)), (h3, .inl (kc3, 10240, .inl c3)), (h4, .inl (kc4, 40, .inl c4)), (h5, .inl (kc5, 6, .inl c5)), (h6, .inl (kc6, 40, .inl c6)), (h7, .inl (kc7, 40, .inl c7)), (h8, .inl (kc8, 700, .inl c8)), (h9, .inl (kc9, 700, .inl c9)), (h10, .inl (kc10, 80, .inl c10))]
set_option maxHeartbeats 4000000 in
set_option maxRecDepth 100000 in
theorem mX11_endCost (l : Launch) (dC : Nat → ClassId) (dI : Nat → Nat → Nat) (h0 h1 h2 h3 h4 h5 h6 h7 h8 h9 h10 : Nat) (kc1 kc2 kc3 kc4 kc5 kc6 kc7 kc8 kc9 kc10 : ClassId) (sz : Nat) (base : Nat × Nat × Nat) (a0 : Int32) (a1 : Int32) (a2 : Int32) (a3 : Int32) (v0_newG : Int32) (v0_newL : Int32) (v0_newS : Int32) (c1 : Nat → Int32) (c2 : Nat → Int32) (c3 : Nat → Int32) (c4 : Nat → Int32) (c5 : Nat → Int32) (c6 : Nat → Int32) (c7 : Nat → Int32) (c8 : Nat → Int32) (c9 : Nat → Int32) (c10 : Nat → Int32) (V0 : Nat → Value) (o : Int32 × Int32 × Int32 × Int32 × (Nat → Int32)) (hf : fX11_endCost a0 a1 a2 a3 v0_newG v0_newL v0_newS c1 c2 c3 c4 c5 c6 c7 c8 c9 c10 = some o) : Met l yX11_endCost (.code yX11_endCost cX11_endCost 9 (some .int) :: wsL_law) ({ frames := 2, cells := 0, slots := 0, locals := 46 }) (cPre (dC, dI) vwCl [.ref h0, .int a0, .int a1, .int a2, .int a3] sz base (wX11_endCost h0 h1 h2 h3 h4 h5 h6 h7 h8 h9 h10 kc1 kc2 kc3 kc4 kc5 kc6 kc7 kc8 kc9 kc10 V0 v0_newG v0_newL v0_newS c1 c2 c3 c4 c5 c6 c7 c8 c9 c10) [(kc1, .int), (kc2, .int), (kc3, .int), (kc4, .int), (kc5, .int), (kc6, .int), (kc7, .int), (kc8, .int), (kc9, .int), (kc10, .int)]) (va_Qi (fun r u => r = o.1 ∧ u = o.2) (fun (u : Int32 × Int32 × Int32 × (Nat → Int32)) t => cPost (dC, dI) vwCl (va_A (wX11_endCost h0 h1 h2 h3 h4 h5 h6 h7 h8 h9 h10 kc1 kc2 kc3 kc4 kc5 kc6 kc7 kc8 kc9 kc10 V0 v0_newG v0_newL v0_newS c1 c2 c3 c4 c5 c6 c7 c8 c9 c10) sz) (wX11_endCost h0 h1 h2 h3 h4 h5 h6 h7 h8 h9 h10 kc1 kc2 kc3 kc4 kc5 kc6 kc7 kc8 kc9 kc10 V0 u.1 u.2.1 u.2.2.1 c1 c2 c3 c4 c5 c6 c7 c8 u.2.2.2 c10) [(kc1, .int), (kc2, .int), (kc3, .int), (kc4, .int), (kc5, .int), (kc6, .int), (kc7, .int), (kc8, .int), (kc9, .int), (kc10, .int)] t) (va_A (wX11_endCost h0 h1 h2 h3 h4 h5 h6 h7 h8 h9 h10 kc1 kc2 kc3 kc4 kc5 kc6 kc7 kc8 kc9 kc10 V0 v0_newG v0_newL v0_newS c1 c2 c3 c4 c5 c6 c7 c8 c9 c10) sz)) 0 0 (va_A (wX11_endCost h0 h1 h2 h3 h4 h5 h6 h7 h8 h9 h10 kc1 kc2 kc3 kc4 kc5 kc6 kc7 kc8 kc9 kc10 V0 v0_newG v0_newL v0_newS c1 c2 c3 c4 c5 c6 c7 c8 c9 c10) sz) := by
  refine Met.ofW (cc := cX11_endCost) (maxL := 9) (ret := (some .int)) (by decide) rfl ?_
  intro p e s m args below meth c s₁ B hml hv
  obtain ⟨rfl, hsz, hP, hK, hD0, hE⟩ := hv
  have hx := B.exec
  have hb := B.bytes
  have hr := B.returns
  have hts : ∀ w ∈ wsL_law, _ := fun w h => atoms_spec (ws := .code yX11_endCost cX11_endCost 9 (some .int) :: wsL_law) B.pre w (List.mem_cons_of_mem _ h)
  have hown : s.vm.findClass RX11 = some m.cls := findClass_of_methodNamed B.named
  have hlocks := B.notSynchronized
  have w0_ := hts _ q1119
  have w1_ := hts _ q1120
  have w2_ := hts _ q1121
  have w3_ := hts _ q100
  have w4_ := hts _ q104
  have w5_ := hts _ q106
  have w6_ := hts _ q101
  have w7_ := hts _ q354
  subst hsz
  have hD := hD0.self (sz := s.heap.size)
  generalize hAe : va_A (wX11_endCost h0 h1 h2 h3 h4 h5 h6 h7 h8 h9 h10 kc1 kc2 kc3 kc4 kc5 kc6 kc7 kc8 kc9 kc10 V0 v0_newG v0_newL v0_newS c1 c2 c3 c4 c5 c6 c7 c8 c9 c10) s.heap.size = A at hD ⊢
  have hA : ∀ q : Nat, s.heap.size ≤ q → A q := fun q h => by rw [← hAe]; exact Or.inr h
  have hAB : ∀ q : Nat, A q → base.1 ≤ q := fun q h => by rw [← hAe] at h; exact h.elim (fun ⟨k, e, hk⟩ => hD0.2 k _ hk) (fun hk => Nat.le_trans hE.1 hk)
  have hS : va_S A s.heap s.heap [] := va_S.rf
  have hl := lv_entry ([.ref h0, .int a0, .int a1, .int a2, .int a3]) (n := 9) (Nat.le_of_ble_eq_true rfl)
  rw [lg_entry_eq]
  generalize (lg_sl ([.ref h0, .int a0, .int a1, .int a2, .int a3]) ++ List.replicate (9 - (lg_sl ([.ref h0, .int a0, .int a1, .int a2, .int a3])).length) Slot.unset).toArray = ls at hl ⊢
  have hl : lv_has ls 9 [(0, .ref h0), (1, .int a0), (2, .int a1), (3, .int a2), (4, .int a3)] := hl
  have hP : va_P (dC, dI) vwCl (wX11_endCost h0 h1 h2 h3 h4 h5 h6 h7 h8 h9 h10 kc1 kc2 kc3 kc4 kc5 kc6 kc7 kc8 kc9 kc10 V0 v0_newG v0_newL v0_newS c1 c2 c3 c4 c5 c6 c7 c8 c9 c10) s.heap := hP
  refine gl_intro (fun G hG => ?_)
  have J234 : ∀ (k172 : Int32 → Int32 → Int32 → Int32 → Int32 → Int32 → Int32 → Int32 → Int32 → Int32 → (Nat → Int32) → Option (Int32 × Int32 × Int32 × Int32 × (Nat → Int32))) (hk172 : ∀ (y1 : Int32) (y2 : Int32) (y3 : Int32) (y4 : Int32) (y5 : Int32) (y6 : Int32) (y7 : Int32) (v0_newG : Int32) (v0_newL : Int32) (v0_newS : Int32) (c9 : (Nat → Int32)) (H : Heap) (locs : List Loc) (ls : Array Slot), va_P (dC, dI) vwCl (wX11_endCost h0 h1 h2 h3 h4 h5 h6 h7 h8 h9 h10 kc1 kc2 kc3 kc4 kc5 kc6 kc7 kc8 kc9 kc10 V0 v0_newG v0_newL v0_newS c1 c2 c3 c4 c5 c6 c7 c8 c9 c10) H → va_D A (wX11_endCost h0 h1 h2 h3 h4 h5 h6 h7 h8 h9 h10 kc1 kc2 kc3 kc4 kc5 kc6 kc7 kc8 kc9 kc10 V0 v0_newG v0_newL v0_newS c1 c2 c3 c4 c5 c6 c7 c8 c9 c10) → va_S A s.heap H locs → lv_has ls 9 [(0, .ref h0), (1, .int y1), (2, .int y2), (3, .int y3), (4, .int y4), (5, .int y5), (6, .int y6), (7, .int y7)] → k172 y1 y2 y3 y4 y5 y6 y7 v0_newG v0_newL v0_newS c9 = some o → G 0 0 H locs (F0 m 172 ls [])), ∀ (y1 : Int32) (y2 : Int32) (y3 : Int32) (y4 : Int32) (y5 : Int32) (y6 : Int32) (y7 : Int32) (v0_newG : Int32) (v0_newL : Int32) (v0_newS : Int32) (c9 : (Nat → Int32)) (H : Heap) (locs : List Loc) (ls : Array Slot), va_P (dC, dI) vwCl (wX11_endCost h0 h1 h2 h3 h4 h5 h6 h7 h8 h9 h10 kc1 kc2 kc3 kc4 kc5 kc6 kc7 kc8 kc9 kc10 V0 v0_newG v0_newL v0_newS c1 c2 c3 c4 c5 c6 c7 c8 c9 c10) H → va_D A (wX11_endCost h0 h1 h2 h3 h4 h5 h6 h7 h8 h9 h10 kc1 kc2 kc3 kc4 kc5 kc6 kc7 kc8 kc9 kc10 V0 v0_newG v0_newL v0_newS c1 c2 c3 c4 c5 c6 c7 c8 c9 c10) → va_S A s.heap H locs → lv_has ls 9 [(0, .ref h0), (1, .int y1), (2, .int y2), (3, .int y3), (4, .int y4), (5, .int y5), (6, .int y6), (7, .int y7)] → fX11_endCost_p234 c1 c2 c3 c4 c5 c6 c7 c8 c10 k172 y1 y2 y3 y4 y5 y6 y7 v0_newG v0_newL v0_newS c9 = some o → G 0 0 H locs (F0 m 234 ls []) := by
    intro k172 hk172 y1 y2 y3 y4 y5 y6 y7 v0_newG v0_newL v0_newS c9 H locs ls hP hD hS hl hf
    refine (hG _ _ _ _ _).mpr ?_
    unfold fX11_endCost_p234 at hf
    obtain ⟨x1, e1⟩ : ∃ y : Int32, y = y7 + 1 := ⟨_, rfl⟩
    replace hf := nm_at hf e1
    refine lv_iinc (v := x1) (lv' := [(7, .int x1), (0, .ref h0), (1, .int y1), (2, .int y2), (3, .int y3), (4, .int y4), (5, .int y5), (6, .int y6)]) hx hb dX11_endCost_234 hl (k := 7) rfl (by rw [e1]; rfl) (by decide) rfl (fun ls hl => ?_)
    refine lv_goto (tgt := 172) hx hb dX11_endCost_237 (by decide) ?_
    exact (hG _ _ _ _ _).mp (hk172 y1 y2 y3 y4 y5 y6 x1 v0_newG v0_newL v0_newS c9 H locs ls (hP.sub [0, 1, 2, 3, 4, 5, 6, 7, 8, 9, 10] rfl) (hD.sub [0, 1, 2, 3, 4, 5, 6, 7, 8, 9, 10] (by decide) rfl) hS (lv_sub hl [1, 2, 3, 4, 5, 6, 7, 0] rfl) hf)
  have J232 : ∀ (k172 : Int32 → Int32 → Int32 → Int32 → Int32 → Int32 → Int32 → Int32 → Int32 → Int32 → (Nat → Int32) → Option (Int32 × Int32 × Int32 × Int32 × (Nat → Int32))) (hk172 : ∀ (y1 : Int32) (y2 : Int32) (y3 : Int32) (y4 : Int32) (y5 : Int32) (y6 : Int32) (y7 : Int32) (v0_newG : Int32) (v0_newL : Int32) (v0_newS : Int32) (c9 : (Nat → Int32)) (H : Heap) (locs : List Loc) (ls : Array Slot), va_P (dC, dI) vwCl (wX11_endCost h0 h1 h2 h3 h4 h5 h6 h7 h8 h9 h10 kc1 kc2 kc3 kc4 kc5 kc6 kc7 kc8 kc9 kc10 V0 v0_newG v0_newL v0_newS c1 c2 c3 c4 c5 c6 c7 c8 c9 c10) H → va_D A (wX11_endCost h0 h1 h2 h3 h4 h5 h6 h7 h8 h9 h10 kc1 kc2 kc3 kc4 kc5 kc6 kc7 kc8 kc9 kc10 V0 v0_newG v0_newL v0_newS c1 c2 c3 c4 c5 c6 c7 c8 c9 c10) → va_S A s.heap H locs → lv_has ls 9 [(0, .ref h0), (1, .int y1), (2, .int y2), (3, .int y3), (4, .int y4), (5, .int y5), (6, .int y6), (7, .int y7)] → k172 y1 y2 y3 y4 y5 y6 y7 v0_newG v0_newL v0_newS c9 = some o → G 0 0 H locs (F0 m 172 ls [])), ∀ (y1 : Int32) (y2 : Int32) (y3 : Int32) (y4 : Int32) (y6 : Int32) (y7 : Int32) (z0 : Int32) (v0_newG : Int32) (v0_newL : Int32) (v0_newS : Int32) (c9 : (Nat → Int32)) (H : Heap) (locs : List Loc) (ls : Array Slot), va_P (dC, dI) vwCl (wX11_endCost h0 h1 h2 h3 h4 h5 h6 h7 h8 h9 h10 kc1 kc2 kc3 kc4 kc5 kc6 kc7 kc8 kc9 kc10 V0 v0_newG v0_newL v0_newS c1 c2 c3 c4 c5 c6 c7 c8 c9 c10) H → va_D A (wX11_endCost h0 h1 h2 h3 h4 h5 h6 h7 h8 h9 h10 kc1 kc2 kc3 kc4 kc5 kc6 kc7 kc8 kc9 kc10 V0 v0_newG v0_newL v0_newS c1 c2 c3 c4 c5 c6 c7 c8 c9 c10) → va_S A s.heap H locs → lv_has ls 9 [(0, .ref h0), (1, .int y1), (2, .int y2), (3, .int y3), (4, .int y4), (6, .int y6), (7, .int y7)] → fX11_endCost_p232 c1 c2 c3 c4 c5 c6 c7 c8 c10 k172 y1 y2 y3 y4 y6 y7 z0 v0_newG v0_newL v0_newS c9 = some o → G 0 0 H locs (F0 m 232 ls [.int z0]) := by
    intro k172 hk172 y1 y2 y3 y4 y6 y7 z0 v0_newG v0_newL v0_newS c9 H locs ls hP hD hS hl hf
    refine (hG _ _ _ _ _).mpr ?_
    unfold fX11_endCost_p232 at hf
    refine lv_istore (lv' := [(5, .int z0), (0, .ref h0), (1, .int y1), (2, .int y2), (3, .int y3), (4, .int y4), (6, .int y6), (7, .int y7)]) hx hb dX11_endCost_232 hl (by decide) rfl (fun ls hl => ?_)
    exact (hG _ _ _ _ _).mp (J234 k172 hk172 y1 y2 y3 y4 z0 y6 y7 v0_newG v0_newL v0_newS c9 H locs ls (hP.sub [0, 1, 2, 3, 4, 5, 6, 7, 8, 9, 10] rfl) (hD.sub [0, 1, 2, 3, 4, 5, 6, 7, 8, 9, 10] (by decide) rfl) hS (lv_sub hl [1, 2, 3, 4, 5, 0, 6, 7] rfl) hf)
  have B172 : ∀ (k172 : Int32 → Int32 → Int32 → Int32 → Int32 → Int32 → Int32 → Int32 → Int32 → Int32 → (Nat → Int32) → Option (Int32 × Int32 × Int32 × Int32 × (Nat → Int32))) (hk172 : ∀ (y1 : Int32) (y2 : Int32) (y3 : Int32) (y4 : Int32) (y5 : Int32) (y6 : Int32) (y7 : Int32) (v0_newG : Int32) (v0_newL : Int32) (v0_newS : Int32) (c9 : (Nat → Int32)) (H : Heap) (locs : List Loc) (ls : Array Slot), va_P (dC, dI) vwCl (wX11_endCost h0 h1 h2 h3 h4 h5 h6 h7 h8 h9 h10 kc1 kc2 kc3 kc4 kc5 kc6 kc7 kc8 kc9 kc10 V0 v0_newG v0_newL v0_newS c1 c2 c3 c4 c5 c6 c7 c8 c9 c10) H → va_D A (wX11_endCost h0 h1 h2 h3 h4 h5 h6 h7 h8 h9 h10 kc1 kc2 kc3 kc4 kc5 kc6 kc7 kc8 kc9 kc10 V0 v0_newG v0_newL v0_newS c1 c2 c3 c4 c5 c6 c7 c8 c9 c10) → va_S A s.heap H locs → lv_has ls 9 [(0, .ref h0), (1, .int y1), (2, .int y2), (3, .int y3), (4, .int y4), (5, .int y5), (6, .int y6), (7, .int y7)] → k172 y1 y2 y3 y4 y5 y6 y7 v0_newG v0_newL v0_newS c9 = some o → G 0 0 H locs (F0 m 172 ls [])), ∀ (y1 : Int32) (y2 : Int32) (y3 : Int32) (y4 : Int32) (y5 : Int32) (y6 : Int32) (y7 : Int32) (v0_newG : Int32) (v0_newL : Int32) (v0_newS : Int32) (c9 : (Nat → Int32)) (H : Heap) (locs : List Loc) (ls : Array Slot), va_P (dC, dI) vwCl (wX11_endCost h0 h1 h2 h3 h4 h5 h6 h7 h8 h9 h10 kc1 kc2 kc3 kc4 kc5 kc6 kc7 kc8 kc9 kc10 V0 v0_newG v0_newL v0_newS c1 c2 c3 c4 c5 c6 c7 c8 c9 c10) H → va_D A (wX11_endCost h0 h1 h2 h3 h4 h5 h6 h7 h8 h9 h10 kc1 kc2 kc3 kc4 kc5 kc6 kc7 kc8 kc9 kc10 V0 v0_newG v0_newL v0_newS c1 c2 c3 c4 c5 c6 c7 c8 c9 c10) → va_S A s.heap H locs → lv_has ls 9 [(0, .ref h0), (1, .int y1), (2, .int y2), (3, .int y3), (4, .int y4), (5, .int y5), (6, .int y6), (7, .int y7)] → fX11_endCost_b172 c1 c2 c3 c4 c5 c6 c7 c8 c10  k172 y1 y2 y3 y4 y5 y6 y7 v0_newG v0_newL v0_newS c9 = some o → G 0 0 H locs (F0 m 172 ls []) := by
    intro  k172 hk172 y1 y2 y3 y4 y5 y6 y7 v0_newG v0_newL v0_newS c9 H locs ls hP hD hS hl hf
    refine (hG _ _ _ _ _).mpr ?_
    unfold fX11_endCost_b172 at hf
    refine lv_iload hx hb dX11_endCost_172 (lv_at hl 7 rfl) ?_
    refine lv_iconst (v := 2) hx hb dX11_endCost_174 (by decide +kernel) ?_
    refine lv_icmp_ge (tgt := 240) hx hb dX11_endCost_175 (by decide) (fun cq2 => ?_) (fun cq2 => ?_)
    · replace hf := if_at hf cq2
      refine lv_iconst (v := 1) hx hb dX11_endCost_240 (by decide +kernel) ?_
      refine lv_iload hx hb dX11_endCost_241 (lv_at hl 5 rfl) ?_
      obtain ⟨o3, e3, hf⟩ := ob_some hf
      refine kSi (As := [.int 1, .int y5]) (rest := []) ⟨hx, hb, hml, hown, hts⟩ (mX11_sum l dC dI H.size base 1 y5 o3 e3) (va_cwS 2 hts (gTS q367 q368 q5 q369) rfl rfl rfl (by decide +kernel) ⟨Nat.le_of_ble_eq_true rfl, Nat.le_of_ble_eq_true rfl⟩) hK hP hD hS hA hE hAB [] [0, 1, 2, 3, 4, 5, 6, 7, 8, 9, 10] [] (wr := (wX11_endCost h0 h1 h2 h3 h4 h5 h6 h7 h8 h9 h10 kc1 kc2 kc3 kc4 kc5 kc6 kc7 kc8 kc9 kc10 V0 v0_newG v0_newL v0_newS c1 c2 c3 c4 c5 c6 c7 c8 c9 c10)) rfl rfl (by decide) (by decide) (by decide) rfl rfl hl.1 rfl (Nat.le_of_ble_eq_true rfl) dX11_endCost_243 ⟨Nat.zero_le _, Nat.zero_le _⟩ (fun r3 u3 H locs hw3 hP hD hS => ?_)
      obtain ⟨hw31, hw32⟩ := hw3
      subst hw31 hw32
      have hP : va_P (dC, dI) vwCl (wX11_endCost h0 h1 h2 h3 h4 h5 h6 h7 h8 h9 h10 kc1 kc2 kc3 kc4 kc5 kc6 kc7 kc8 kc9 kc10 V0 v0_newG v0_newL v0_newS c1 c2 c3 c4 c5 c6 c7 c8 c9 c10) H := hP.sub [0, 1, 2, 3, 4, 5, 6, 7, 8, 9, 10] rfl
      have hD : va_D A (wX11_endCost h0 h1 h2 h3 h4 h5 h6 h7 h8 h9 h10 kc1 kc2 kc3 kc4 kc5 kc6 kc7 kc8 kc9 kc10 V0 v0_newG v0_newL v0_newS c1 c2 c3 c4 c5 c6 c7 c8 c9 c10) := hD.sub [0, 1, 2, 3, 4, 5, 6, 7, 8, 9, 10] (by decide) rfl
      have hf1 := Option.some.inj hf
      subst hf1
      have hP9 := hP.sub (ws' := (wX11_endCost h0 h1 h2 h3 h4 h5 h6 h7 h8 h9 h10 kc1 kc2 kc3 kc4 kc5 kc6 kc7 kc8 kc9 kc10 V0 v0_newG v0_newL v0_newS c1 c2 c3 c4 c5 c6 c7 c8 c9 c10)) [0, 1, 2, 3, 4, 5, 6, 7, 8, 9, 10] rfl
      have hD9 := hD.sub (ws' := (wX11_endCost h0 h1 h2 h3 h4 h5 h6 h7 h8 h9 h10 kc1 kc2 kc3 kc4 kc5 kc6 kc7 kc8 kc9 kc10 V0 v0_newG v0_newL v0_newS c1 c2 c3 c4 c5 c6 c7 c8 c9 c10)) [0, 1, 2, 3, 4, 5, 6, 7, 8, 9, 10] (by decide) rfl
      exact W.iret (v := o3.1) hx hb hr (fun t ht hW => ⟨⟨o3.1, (v0_newG, v0_newL, v0_newS, c9), rfl, ⟨rfl, rfl⟩, by rw [ht]; exact hP9, va_K.moved hW.alike hK, hD9⟩, hS.F ht⟩) hS.2.2 dX11_endCost_246
    · replace hf := if_no hf cq2
      refine lv_iload hx hb dX11_endCost_178 (lv_at hl 6 rfl) ?_
      refine lv_iload hx hb dX11_endCost_180 (lv_at hl 7 rfl) ?_
      refine lv_ishr hx hb dX11_endCost_182 ?_
      refine lv_topi (fun x4 e4 => ?_)
      replace hf := nm_at hf e4
      refine lv_iconst (v := 1) hx hb dX11_endCost_183 (by decide +kernel) ?_
      refine lv_iand hx hb dX11_endCost_184 ?_
      refine lv_topi (fun x5 e5 => ?_)
      replace hf := nm_at hf e5
      refine lv_iconst (v := 1) hx hb dX11_endCost_185 (by decide +kernel) ?_
      refine lv_icmp_ne (tgt := 234) hx hb dX11_endCost_186 (by decide) (fun cq6 => ?_) (fun cq6 => ?_)
      · replace hf := if_no hf cq6
        exact (hG _ _ _ _ _).mp (J234 k172 hk172 y1 y2 y3 y4 y5 y6 y7 v0_newG v0_newL v0_newS c9 H locs ls (hP.sub [0, 1, 2, 3, 4, 5, 6, 7, 8, 9, 10] rfl) (hD.sub [0, 1, 2, 3, 4, 5, 6, 7, 8, 9, 10] (by decide) rfl) hS (lv_sub hl [0, 1, 2, 3, 4, 5, 6, 7] rfl) hf)
      · replace hf := if_at hf cq6
        refine lv_aload_n hx hb dX11_endCost_189 rfl (lv_at hl 0 rfl) ?_
        refine lv_iload_n hx hb dX11_endCost_190 rfl (lv_at hl 2 rfl) ?_
        refine lv_iload_n hx hb dX11_endCost_191 rfl (lv_at hl 1 rfl) ?_
        refine lv_iload_n hx hb dX11_endCost_192 rfl (lv_at hl 3 rfl) ?_
        refine lv_iload hx hb dX11_endCost_193 (lv_at hl 7 rfl) ?_
        obtain ⟨o7, e7, hf⟩ := ob_some hf
        refine kVv (As := [.int y2, .int y1, .int y3, .int y7]) (rest := []) ⟨hx, hb, hml, hown, hts⟩ (mX11_go l dC dI h0 h2 h1 h4 h10 kc2 kc1 kc4 kc10 H.size base y2 y1 y3 y7 v0_newG v0_newL v0_newS c2 c1 c4 c10 (fun k => match k with | 35 => .ref h5 | 44 => .ref h6 | 45 => .ref h7 | 46 => .ref h8 | 59 => .ref h9 | 60 => .ref h3 | k => V0 k) o7 e7) (cwV 4 hts (gTV q1130 q1131 q1132 q5 q1133) rfl rfl rfl (by decide +kernel) ⟨Nat.le_of_ble_eq_true rfl, Nat.le_of_ble_eq_true rfl⟩) hK hP hD hS hA hE hAB [0, 2, 1, 4, 10] [3, 5, 6, 7, 8, 9] [1, 0, 3, 9] (wr := [(h3, .inl (kc3, 10240, .inl c3)), (h5, .inl (kc5, 6, .inl c5)), (h6, .inl (kc6, 40, .inl c6)), (h7, .inl (kc7, 40, .inl c7)), (h8, .inl (kc8, 700, .inl c8)), (h9, .inl (kc9, 700, .inl c9))]) rfl rfl (by decide) (by decide) (by decide) rfl (ci := 11) (q0 := 0) rfl rfl rfl rfl hl.1 rfl (Nat.le_of_ble_eq_true rfl) dX11_endCost_195 ⟨Nat.zero_le _, Nat.zero_le _⟩ (fun u7 H locs hw7 hP hD hS => ?_)
        have hw71 : o7 = u7 := Eq.symm hw7
        subst hw71
        have hP : va_P (dC, dI) vwCl (wX11_endCost h0 h1 h2 h3 h4 h5 h6 h7 h8 h9 h10 kc1 kc2 kc3 kc4 kc5 kc6 kc7 kc8 kc9 kc10 V0 o7.1 o7.2.1 o7.2.2 c1 c2 c3 c4 c5 c6 c7 c8 c9 c10) H := hP.sub [6, 8, 7, 0, 9, 1, 2, 3, 4, 5, 10] rfl
        have hD : va_D A (wX11_endCost h0 h1 h2 h3 h4 h5 h6 h7 h8 h9 h10 kc1 kc2 kc3 kc4 kc5 kc6 kc7 kc8 kc9 kc10 V0 o7.1 o7.2.1 o7.2.2 c1 c2 c3 c4 c5 c6 c7 c8 c9 c10) := hD.sub [6, 8, 7, 0, 9, 1, 2, 3, 4, 5, 10] (by decide) rfl
        refine lv_aload_n hx hb dX11_endCost_198 rfl (lv_at hl 0 rfl) ?_
        refine lv_aload_n hx hb dX11_endCost_199 rfl (lv_at hl 0 rfl) ?_
        refine va_get (D := (dC, dI)) (ci := 11) (v := .int o7.1) (C := RX11) (T := TX11) (N := 71) hx hb hts inlX11 hown hK hP 0 rfl rfl 62 (by decide) w0_ (fun _ h9 => h9) rfl dX11_endCost_200 ?_
        refine lv_aload_n hx hb dX11_endCost_203 rfl (lv_at hl 0 rfl) ?_
        refine va_get (D := (dC, dI)) (ci := 11) (v := .int o7.2.2) (C := RX11) (T := TX11) (N := 71) hx hb hts inlX11 hown hK hP 0 rfl rfl 64 (by decide) w1_ (fun _ h9 => h9) rfl dX11_endCost_204 ?_
        refine lv_aload_n hx hb dX11_endCost_207 rfl (lv_at hl 0 rfl) ?_
        refine va_get (D := (dC, dI)) (ci := 11) (v := .int o7.2.1) (C := RX11) (T := TX11) (N := 71) hx hb hts inlX11 hown hK hP 0 rfl rfl 63 (by decide) w2_ (fun _ h9 => h9) rfl dX11_endCost_208 ?_
        refine lv_iload hx hb dX11_endCost_211 (lv_at hl 4 rfl) ?_
        obtain ⟨o8, e8, hf⟩ := ob_some hf
        refine kVi (As := [.int o7.1, .int o7.2.2, .int o7.2.1, .int y4]) (rest := []) ⟨hx, hb, hml, hown, hts⟩ (mX11_toEnd l dC dI h0 h3 kc3 H.size base o7.1 o7.2.2 o7.2.1 y4 c3 (fun k => match k with | 35 => .ref h5 | 36 => .ref h1 | 39 => .ref h4 | 40 => .ref h10 | 41 => .ref h2 | 44 => .ref h6 | 45 => .ref h7 | 46 => .ref h8 | 59 => .ref h9 | 62 => .int o7.1 | 63 => .int o7.2.1 | 64 => .int o7.2.2 | k => V0 k) o8 e8) (cwV 4 hts (gTV q1122 q1123 q1124 q5 q1125) rfl rfl rfl (by decide +kernel) ⟨Nat.le_of_ble_eq_true rfl, Nat.le_of_ble_eq_true rfl⟩) hK hP hD hS hA hE hAB [0, 3] [1, 2, 4, 5, 6, 7, 8, 9, 10] [2] (wr := [(h1, .inl (kc1, 40, .inl c1)), (h2, .inl (kc2, 40, .inl c2)), (h4, .inl (kc4, 40, .inl c4)), (h5, .inl (kc5, 6, .inl c5)), (h6, .inl (kc6, 40, .inl c6)), (h7, .inl (kc7, 40, .inl c7)), (h8, .inl (kc8, 700, .inl c8)), (h9, .inl (kc9, 700, .inl c9)), (h10, .inl (kc10, 80, .inl c10))]) rfl rfl (by decide) (by decide) (by decide) rfl (ci := 11) (q0 := 0) rfl rfl rfl rfl hl.1 rfl (Nat.le_of_ble_eq_true rfl) dX11_endCost_213 ⟨Nat.zero_le _, Nat.zero_le _⟩ (fun r8 u8 H locs hw8 hP hD hS => ?_)
        obtain ⟨hw81, hw82⟩ := hw8
        subst hw81 hw82
        have hP : va_P (dC, dI) vwCl (wX11_endCost h0 h1 h2 h3 h4 h5 h6 h7 h8 h9 h10 kc1 kc2 kc3 kc4 kc5 kc6 kc7 kc8 kc9 kc10 V0 o7.1 o7.2.1 o7.2.2 c1 c2 c3 c4 c5 c6 c7 c8 c9 c10) H := hP.sub [9, 0, 1, 10, 2, 3, 4, 5, 6, 7, 8] rfl
        have hD : va_D A (wX11_endCost h0 h1 h2 h3 h4 h5 h6 h7 h8 h9 h10 kc1 kc2 kc3 kc4 kc5 kc6 kc7 kc8 kc9 kc10 V0 o7.1 o7.2.1 o7.2.2 c1 c2 c3 c4 c5 c6 c7 c8 c9 c10) := hD.sub [9, 0, 1, 10, 2, 3, 4, 5, 6, 7, 8] (by decide) rfl
        refine lv_istore (lv' := [(8, .int o8.1), (0, .ref h0), (1, .int y1), (2, .int y2), (3, .int y3), (4, .int y4), (5, .int y5), (6, .int y6), (7, .int y7)]) hx hb dX11_endCost_216 hl (by decide) rfl (fun ls hl => ?_)
        refine lv_iload hx hb dX11_endCost_218 (lv_at hl 0 rfl) ?_
        refine lv_iload hx hb dX11_endCost_220 (lv_at hl 6 rfl) ?_
        refine lv_icmp_ge (tgt := 230) hx hb dX11_endCost_222 (by decide) (fun cq9 => ?_) (fun cq9 => ?_)
        · replace hf := if_at hf cq9
          refine lv_iload hx hb dX11_endCost_230 (lv_at hl 6 rfl) ?_
          exact (hG _ _ _ _ _).mp (J232 k172 hk172 y1 y2 y3 y4 y6 y7 y5 o7.1 o7.2.1 o7.2.2 c9 H locs ls (hP.sub [0, 1, 2, 3, 4, 5, 6, 7, 8, 9, 10] rfl) (hD.sub [0, 1, 2, 3, 4, 5, 6, 7, 8, 9, 10] (by decide) rfl) hS (lv_sub hl [1, 2, 3, 4, 5, 7, 8] rfl) hf)
        · replace hf := if_no hf cq9
          refine lv_iload hx hb dX11_endCost_225 (lv_at hl 0 rfl) ?_
          refine lv_goto (tgt := 232) hx hb dX11_endCost_227 (by decide) ?_
          exact (hG _ _ _ _ _).mp (J232 k172 hk172 y1 y2 y3 y4 y6 y7 o8.1 o7.1 o7.2.1 o7.2.2 c9 H locs ls (hP.sub [0, 1, 2, 3, 4, 5, 6, 7, 8, 9, 10] rfl) (hD.sub [0, 1, 2, 3, 4, 5, 6, 7, 8, 9, 10] (by decide) rfl) hS (lv_sub hl [1, 2, 3, 4, 5, 7, 8] rfl) hf)
  have L172 : ∀ (n : Nat), ∀ (y1 : Int32) (y2 : Int32) (y3 : Int32) (y4 : Int32) (y5 : Int32) (y6 : Int32) (y7 : Int32) (v0_newG : Int32) (v0_newL : Int32) (v0_newS : Int32) (c9 : (Nat → Int32)) (H : Heap) (locs : List Loc) (ls : Array Slot), va_P (dC, dI) vwCl (wX11_endCost h0 h1 h2 h3 h4 h5 h6 h7 h8 h9 h10 kc1 kc2 kc3 kc4 kc5 kc6 kc7 kc8 kc9 kc10 V0 v0_newG v0_newL v0_newS c1 c2 c3 c4 c5 c6 c7 c8 c9 c10) H → va_D A (wX11_endCost h0 h1 h2 h3 h4 h5 h6 h7 h8 h9 h10 kc1 kc2 kc3 kc4 kc5 kc6 kc7 kc8 kc9 kc10 V0 v0_newG v0_newL v0_newS c1 c2 c3 c4 c5 c6 c7 c8 c9 c10) → va_S A s.heap H locs → lv_has ls 9 [(0, .ref h0), (1, .int y1), (2, .int y2), (3, .int y3), (4, .int y4), (5, .int y5), (6, .int y6), (7, .int y7)] → fX11_endCost_l172 c1 c2 c3 c4 c5 c6 c7 c8 c10  n y1 y2 y3 y4 y5 y6 y7 v0_newG v0_newL v0_newS c9 = some o → G 0 0 H locs (F0 m 172 ls []) := by
    intro  n
    induction n with
    | zero => intro y1 y2 y3 y4 y5 y6 y7 v0_newG v0_newL v0_newS c9 H locs ls _ _ _ _ hf; cases hf
    | succ n ih => exact B172  _ ih
  have J170 : ∀ (y1 : Int32) (y2 : Int32) (y3 : Int32) (y4 : Int32) (y5 : Int32) (y6 : Int32) (z0 : Int32) (v0_newG : Int32) (v0_newL : Int32) (v0_newS : Int32) (c9 : (Nat → Int32)) (H : Heap) (locs : List Loc) (ls : Array Slot), va_P (dC, dI) vwCl (wX11_endCost h0 h1 h2 h3 h4 h5 h6 h7 h8 h9 h10 kc1 kc2 kc3 kc4 kc5 kc6 kc7 kc8 kc9 kc10 V0 v0_newG v0_newL v0_newS c1 c2 c3 c4 c5 c6 c7 c8 c9 c10) H → va_D A (wX11_endCost h0 h1 h2 h3 h4 h5 h6 h7 h8 h9 h10 kc1 kc2 kc3 kc4 kc5 kc6 kc7 kc8 kc9 kc10 V0 v0_newG v0_newL v0_newS c1 c2 c3 c4 c5 c6 c7 c8 c9 c10) → va_S A s.heap H locs → lv_has ls 9 [(0, .ref h0), (1, .int y1), (2, .int y2), (3, .int y3), (4, .int y4), (5, .int y5), (6, .int y6)] → fX11_endCost_p170 c1 c2 c3 c4 c5 c6 c7 c8 c10  y1 y2 y3 y4 y5 y6 z0 v0_newG v0_newL v0_newS c9 = some o → G 0 0 H locs (F0 m 170 ls [.int z0]) := by
    intro  y1 y2 y3 y4 y5 y6 z0 v0_newG v0_newL v0_newS c9 H locs ls hP hD hS hl hf
    refine (hG _ _ _ _ _).mpr ?_
    unfold fX11_endCost_p170 at hf
    refine lv_istore (lv' := [(7, .int z0), (0, .ref h0), (1, .int y1), (2, .int y2), (3, .int y3), (4, .int y4), (5, .int y5), (6, .int y6)]) hx hb dX11_endCost_170 hl (by decide) rfl (fun ls hl => ?_)
    exact (hG _ _ _ _ _).mp (L172 FU y1 y2 y3 y4 y5 y6 z0 v0_newG v0_newL v0_newS c9 H locs ls (hP.sub [0, 1, 2, 3, 4, 5, 6, 7, 8, 9, 10] rfl) (hD.sub [0, 1, 2, 3, 4, 5, 6, 7, 8, 9, 10] (by decide) rfl) hS (lv_sub hl [1, 2, 3, 4, 5, 6, 7, 0] rfl) hf)
  have J131 : ∀ (k71 : Int32 → Int32 → Int32 → Int32 → Int32 → Int32 → Int32 → Int32 → Int32 → (Nat → Int32) → Option (Int32 × Int32 × Int32 × Int32 × (Nat → Int32))) (hk71 : ∀ (y1 : Int32) (y2 : Int32) (y3 : Int32) (y4 : Int32) (y5 : Int32) (y6 : Int32) (v0_newG : Int32) (v0_newL : Int32) (v0_newS : Int32) (c9 : (Nat → Int32)) (H : Heap) (locs : List Loc) (ls : Array Slot), va_P (dC, dI) vwCl (wX11_endCost h0 h1 h2 h3 h4 h5 h6 h7 h8 h9 h10 kc1 kc2 kc3 kc4 kc5 kc6 kc7 kc8 kc9 kc10 V0 v0_newG v0_newL v0_newS c1 c2 c3 c4 c5 c6 c7 c8 c9 c10) H → va_D A (wX11_endCost h0 h1 h2 h3 h4 h5 h6 h7 h8 h9 h10 kc1 kc2 kc3 kc4 kc5 kc6 kc7 kc8 kc9 kc10 V0 v0_newG v0_newL v0_newS c1 c2 c3 c4 c5 c6 c7 c8 c9 c10) → va_S A s.heap H locs → lv_has ls 9 [(0, .ref h0), (1, .int y1), (2, .int y2), (3, .int y3), (4, .int y4), (5, .int y5), (6, .int y6)] → k71 y1 y2 y3 y4 y5 y6 v0_newG v0_newL v0_newS c9 = some o → G 0 0 H locs (F0 m 71 ls [])), ∀ (y1 : Int32) (y2 : Int32) (y3 : Int32) (y4 : Int32) (y6 : Int32) (z0 : Int32) (v0_newG : Int32) (v0_newL : Int32) (v0_newS : Int32) (c9 : (Nat → Int32)) (H : Heap) (locs : List Loc) (ls : Array Slot), va_P (dC, dI) vwCl (wX11_endCost h0 h1 h2 h3 h4 h5 h6 h7 h8 h9 h10 kc1 kc2 kc3 kc4 kc5 kc6 kc7 kc8 kc9 kc10 V0 v0_newG v0_newL v0_newS c1 c2 c3 c4 c5 c6 c7 c8 c9 c10) H → va_D A (wX11_endCost h0 h1 h2 h3 h4 h5 h6 h7 h8 h9 h10 kc1 kc2 kc3 kc4 kc5 kc6 kc7 kc8 kc9 kc10 V0 v0_newG v0_newL v0_newS c1 c2 c3 c4 c5 c6 c7 c8 c9 c10) → va_S A s.heap H locs → lv_has ls 9 [(0, .ref h0), (1, .int y1), (2, .int y2), (3, .int y3), (4, .int y4), (6, .int y6)] → fX11_endCost_p131 c1 c2 c3 c4 c5 c6 c7 c8 c10 k71 y1 y2 y3 y4 y6 z0 v0_newG v0_newL v0_newS c9 = some o → G 0 0 H locs (F0 m 131 ls [.int z0]) := by
    intro k71 hk71 y1 y2 y3 y4 y6 z0 v0_newG v0_newL v0_newS c9 H locs ls hP hD hS hl hf
    refine (hG _ _ _ _ _).mpr ?_
    unfold fX11_endCost_p131 at hf
    refine lv_istore (lv' := [(5, .int z0), (0, .ref h0), (1, .int y1), (2, .int y2), (3, .int y3), (4, .int y4), (6, .int y6)]) hx hb dX11_endCost_131 hl (by decide) rfl (fun ls hl => ?_)
    obtain ⟨x10, e10⟩ : ∃ y : Int32, y = y6 + 1 := ⟨_, rfl⟩
    replace hf := nm_at hf e10
    refine lv_iinc (v := x10) (lv' := [(6, .int x10), (5, .int z0), (0, .ref h0), (1, .int y1), (2, .int y2), (3, .int y3), (4, .int y4)]) hx hb dX11_endCost_133 hl (k := 6) rfl (by rw [e10]; rfl) (by decide) rfl (fun ls hl => ?_)
    refine lv_goto (tgt := 71) hx hb dX11_endCost_136 (by decide) ?_
    exact (hG _ _ _ _ _).mp (hk71 y1 y2 y3 y4 z0 x10 v0_newG v0_newL v0_newS c9 H locs ls (hP.sub [0, 1, 2, 3, 4, 5, 6, 7, 8, 9, 10] rfl) (hD.sub [0, 1, 2, 3, 4, 5, 6, 7, 8, 9, 10] (by decide) rfl) hS (lv_sub hl [2, 3, 4, 5, 6, 1, 0] rfl) hf)
  have B71 : ∀ (k71 : Int32 → Int32 → Int32 → Int32 → Int32 → Int32 → Int32 → Int32 → Int32 → (Nat → Int32) → Option (Int32 × Int32 × Int32 × Int32 × (Nat → Int32))) (hk71 : ∀ (y1 : Int32) (y2 : Int32) (y3 : Int32) (y4 : Int32) (y5 : Int32) (y6 : Int32) (v0_newG : Int32) (v0_newL : Int32) (v0_newS : Int32) (c9 : (Nat → Int32)) (H : Heap) (locs : List Loc) (ls : Array Slot), va_P (dC, dI) vwCl (wX11_endCost h0 h1 h2 h3 h4 h5 h6 h7 h8 h9 h10 kc1 kc2 kc3 kc4 kc5 kc6 kc7 kc8 kc9 kc10 V0 v0_newG v0_newL v0_newS c1 c2 c3 c4 c5 c6 c7 c8 c9 c10) H → va_D A (wX11_endCost h0 h1 h2 h3 h4 h5 h6 h7 h8 h9 h10 kc1 kc2 kc3 kc4 kc5 kc6 kc7 kc8 kc9 kc10 V0 v0_newG v0_newL v0_newS c1 c2 c3 c4 c5 c6 c7 c8 c9 c10) → va_S A s.heap H locs → lv_has ls 9 [(0, .ref h0), (1, .int y1), (2, .int y2), (3, .int y3), (4, .int y4), (5, .int y5), (6, .int y6)] → k71 y1 y2 y3 y4 y5 y6 v0_newG v0_newL v0_newS c9 = some o → G 0 0 H locs (F0 m 71 ls [])), ∀ (y1 : Int32) (y2 : Int32) (y3 : Int32) (y4 : Int32) (y5 : Int32) (y6 : Int32) (v0_newG : Int32) (v0_newL : Int32) (v0_newS : Int32) (c9 : (Nat → Int32)) (H : Heap) (locs : List Loc) (ls : Array Slot), va_P (dC, dI) vwCl (wX11_endCost h0 h1 h2 h3 h4 h5 h6 h7 h8 h9 h10 kc1 kc2 kc3 kc4 kc5 kc6 kc7 kc8 kc9 kc10 V0 v0_newG v0_newL v0_newS c1 c2 c3 c4 c5 c6 c7 c8 c9 c10) H → va_D A (wX11_endCost h0 h1 h2 h3 h4 h5 h6 h7 h8 h9 h10 kc1 kc2 kc3 kc4 kc5 kc6 kc7 kc8 kc9 kc10 V0 v0_newG v0_newL v0_newS c1 c2 c3 c4 c5 c6 c7 c8 c9 c10) → va_S A s.heap H locs → lv_has ls 9 [(0, .ref h0), (1, .int y1), (2, .int y2), (3, .int y3), (4, .int y4), (5, .int y5), (6, .int y6)] → fX11_endCost_b71 c1 c2 c3 c4 c5 c6 c7 c8 c10  k71 y1 y2 y3 y4 y5 y6 v0_newG v0_newL v0_newS c9 = some o → G 0 0 H locs (F0 m 71 ls []) := by
    intro  k71 hk71 y1 y2 y3 y4 y5 y6 v0_newG v0_newL v0_newS c9 H locs ls hP hD hS hl hf
    refine (hG _ _ _ _ _).mpr ?_
    unfold fX11_endCost_b71 at hf
    refine lv_iload hx hb dX11_endCost_71 (lv_at hl 6 rfl) ?_
    refine lv_bipush (v := 8) hx hb dX11_endCost_73 (by decide +kernel) ?_
    refine lv_icmp_ge (tgt := 139) hx hb dX11_endCost_75 (by decide) (fun cq11 => ?_) (fun cq11 => ?_)
    · replace hf := if_at hf cq11
      refine lv_iconst (v := 1) hx hb dX11_endCost_139 (by decide +kernel) ?_
      refine lv_iload hx hb dX11_endCost_140 (lv_at hl 5 rfl) ?_
      obtain ⟨o12, e12, hf⟩ := ob_some hf
      refine kSi (As := [.int 1, .int y5]) (rest := []) ⟨hx, hb, hml, hown, hts⟩ (mX11_sum l dC dI H.size base 1 y5 o12 e12) (va_cwS 2 hts (gTS q367 q368 q5 q369) rfl rfl rfl (by decide +kernel) ⟨Nat.le_of_ble_eq_true rfl, Nat.le_of_ble_eq_true rfl⟩) hK hP hD hS hA hE hAB [] [0, 1, 2, 3, 4, 5, 6, 7, 8, 9, 10] [] (wr := (wX11_endCost h0 h1 h2 h3 h4 h5 h6 h7 h8 h9 h10 kc1 kc2 kc3 kc4 kc5 kc6 kc7 kc8 kc9 kc10 V0 v0_newG v0_newL v0_newS c1 c2 c3 c4 c5 c6 c7 c8 c9 c10)) rfl rfl (by decide) (by decide) (by decide) rfl rfl hl.1 rfl (Nat.le_of_ble_eq_true rfl) dX11_endCost_142 ⟨Nat.zero_le _, Nat.zero_le _⟩ (fun r12 u12 H locs hw12 hP hD hS => ?_)
      obtain ⟨hw121, hw122⟩ := hw12
      subst hw121 hw122
      have hP : va_P (dC, dI) vwCl (wX11_endCost h0 h1 h2 h3 h4 h5 h6 h7 h8 h9 h10 kc1 kc2 kc3 kc4 kc5 kc6 kc7 kc8 kc9 kc10 V0 v0_newG v0_newL v0_newS c1 c2 c3 c4 c5 c6 c7 c8 c9 c10) H := hP.sub [0, 1, 2, 3, 4, 5, 6, 7, 8, 9, 10] rfl
      have hD : va_D A (wX11_endCost h0 h1 h2 h3 h4 h5 h6 h7 h8 h9 h10 kc1 kc2 kc3 kc4 kc5 kc6 kc7 kc8 kc9 kc10 V0 v0_newG v0_newL v0_newS c1 c2 c3 c4 c5 c6 c7 c8 c9 c10) := hD.sub [0, 1, 2, 3, 4, 5, 6, 7, 8, 9, 10] (by decide) rfl
      have hf1 := Option.some.inj hf
      subst hf1
      have hP9 := hP.sub (ws' := (wX11_endCost h0 h1 h2 h3 h4 h5 h6 h7 h8 h9 h10 kc1 kc2 kc3 kc4 kc5 kc6 kc7 kc8 kc9 kc10 V0 v0_newG v0_newL v0_newS c1 c2 c3 c4 c5 c6 c7 c8 c9 c10)) [0, 1, 2, 3, 4, 5, 6, 7, 8, 9, 10] rfl
      have hD9 := hD.sub (ws' := (wX11_endCost h0 h1 h2 h3 h4 h5 h6 h7 h8 h9 h10 kc1 kc2 kc3 kc4 kc5 kc6 kc7 kc8 kc9 kc10 V0 v0_newG v0_newL v0_newS c1 c2 c3 c4 c5 c6 c7 c8 c9 c10)) [0, 1, 2, 3, 4, 5, 6, 7, 8, 9, 10] (by decide) rfl
      exact W.iret (v := o12.1) hx hb hr (fun t ht hW => ⟨⟨o12.1, (v0_newG, v0_newL, v0_newS, c9), rfl, ⟨rfl, rfl⟩, by rw [ht]; exact hP9, va_K.moved hW.alike hK, hD9⟩, hS.F ht⟩) hS.2.2 dX11_endCost_145
    · replace hf := if_no hf cq11
      refine lv_aload_n hx hb dX11_endCost_78 rfl (lv_at hl 0 rfl) ?_
      refine lv_iload_n hx hb dX11_endCost_79 rfl (lv_at hl 1 rfl) ?_
      refine lv_aload_n hx hb dX11_endCost_80 rfl (lv_at hl 0 rfl) ?_
      refine va_get (D := (dC, dI)) (ci := 11) (v := .ref h5) (C := RX11) (T := TX11) (N := 71) hx hb hts inlX11 hown hK hP 0 rfl rfl 35 (by decide) w3_ (fun _ h9 => h9) rfl dX11_endCost_81 ?_
      refine lv_aload_n hx hb dX11_endCost_84 rfl (lv_at hl 0 rfl) ?_
      refine va_get (D := (dC, dI)) (ci := 11) (v := .ref h4) (C := RX11) (T := TX11) (N := 71) hx hb hts inlX11 hown hK hP 0 rfl rfl 39 (by decide) w4_ (fun _ h9 => h9) rfl dX11_endCost_85 ?_
      refine lv_iload_n hx hb dX11_endCost_88 rfl (lv_at hl 2 rfl) ?_
      have b13 := bd_in hf
      replace hf := bd_k hf
      refine va_iald hx hb hK hP 4 3 rfl rfl b13 dX11_endCost_89 ?_
      refine lv_topi (fun x14 e14 => ?_)
      replace hf := nm_at hf e14
      have b15 := bd_in hf
      replace hf := bd_k hf
      refine va_iald hx hb hK hP 5 4 rfl rfl b15 dX11_endCost_90 ?_
      refine lv_topi (fun x16 e16 => ?_)
      replace hf := nm_at hf e16
      refine lv_iconst (v := 0) hx hb dX11_endCost_91 (by decide +kernel) ?_
      refine lv_iload hx hb dX11_endCost_92 (lv_at hl 6 rfl) ?_
      obtain ⟨o17, e17, hf⟩ := ob_some hf
      refine kVi (As := [.int y1, .int x16, .int 0, .int y6]) (rest := []) ⟨hx, hb, hml, hown, hts⟩ (mX11_toEnd l dC dI h0 h3 kc3 H.size base y1 x16 0 y6 c3 (fun k => match k with | 35 => .ref h5 | 36 => .ref h1 | 39 => .ref h4 | 40 => .ref h10 | 41 => .ref h2 | 44 => .ref h6 | 45 => .ref h7 | 46 => .ref h8 | 59 => .ref h9 | 62 => .int v0_newG | 63 => .int v0_newL | 64 => .int v0_newS | k => V0 k) o17 e17) (cwV 4 hts (gTV q1122 q1123 q1124 q5 q1125) rfl rfl rfl (by decide +kernel) ⟨Nat.le_of_ble_eq_true rfl, Nat.le_of_ble_eq_true rfl⟩) hK hP hD hS hA hE hAB [0, 3] [1, 2, 4, 5, 6, 7, 8, 9, 10] [2] (wr := [(h1, .inl (kc1, 40, .inl c1)), (h2, .inl (kc2, 40, .inl c2)), (h4, .inl (kc4, 40, .inl c4)), (h5, .inl (kc5, 6, .inl c5)), (h6, .inl (kc6, 40, .inl c6)), (h7, .inl (kc7, 40, .inl c7)), (h8, .inl (kc8, 700, .inl c8)), (h9, .inl (kc9, 700, .inl c9)), (h10, .inl (kc10, 80, .inl c10))]) rfl rfl (by decide) (by decide) (by decide) rfl (ci := 11) (q0 := 0) rfl rfl rfl rfl hl.1 rfl (Nat.le_of_ble_eq_true rfl) dX11_endCost_94 ⟨Nat.zero_le _, Nat.zero_le _⟩ (fun r17 u17 H locs hw17 hP hD hS => ?_)
      obtain ⟨hw171, hw172⟩ := hw17
      subst hw171 hw172
      have hP : va_P (dC, dI) vwCl (wX11_endCost h0 h1 h2 h3 h4 h5 h6 h7 h8 h9 h10 kc1 kc2 kc3 kc4 kc5 kc6 kc7 kc8 kc9 kc10 V0 v0_newG v0_newL v0_newS c1 c2 c3 c4 c5 c6 c7 c8 c9 c10) H := hP.sub [9, 0, 1, 10, 2, 3, 4, 5, 6, 7, 8] rfl
      have hD : va_D A (wX11_endCost h0 h1 h2 h3 h4 h5 h6 h7 h8 h9 h10 kc1 kc2 kc3 kc4 kc5 kc6 kc7 kc8 kc9 kc10 V0 v0_newG v0_newL v0_newS c1 c2 c3 c4 c5 c6 c7 c8 c9 c10) := hD.sub [9, 0, 1, 10, 2, 3, 4, 5, 6, 7, 8] (by decide) rfl
      refine lv_aload_n hx hb dX11_endCost_97 rfl (lv_at hl 0 rfl) ?_
      refine lv_iload hx hb dX11_endCost_98 (lv_at hl 6 rfl) ?_
      refine lv_aload_n hx hb dX11_endCost_100 rfl (lv_at hl 0 rfl) ?_
      refine va_get (D := (dC, dI)) (ci := 11) (v := .ref h2) (C := RX11) (T := TX11) (N := 71) hx hb hts inlX11 hown hK hP 0 rfl rfl 41 (by decide) w5_ (fun _ h9 => h9) rfl dX11_endCost_101 ?_
      refine lv_iload_n hx hb dX11_endCost_104 rfl (lv_at hl 2 rfl) ?_
      have b18 := bd_in hf
      replace hf := bd_k hf
      refine va_iald hx hb hK hP 2 1 rfl rfl b18 dX11_endCost_105 ?_
      refine lv_topi (fun x19 e19 => ?_)
      replace hf := nm_at hf e19
      refine lv_iload_n hx hb dX11_endCost_106 rfl (lv_at hl 3 rfl) ?_
      refine lv_iload hx hb dX11_endCost_107 (lv_at hl 4 rfl) ?_
      obtain ⟨o20, e20, hf⟩ := ob_some hf
      refine kVi (As := [.int y6, .int x19, .int y3, .int y4]) (rest := [.int o17.1]) ⟨hx, hb, hml, hown, hts⟩ (mX11_toEnd l dC dI h0 h3 kc3 H.size base y6 x19 y3 y4 c3 (fun k => match k with | 35 => .ref h5 | 36 => .ref h1 | 39 => .ref h4 | 40 => .ref h10 | 41 => .ref h2 | 44 => .ref h6 | 45 => .ref h7 | 46 => .ref h8 | 59 => .ref h9 | 62 => .int v0_newG | 63 => .int v0_newL | 64 => .int v0_newS | k => V0 k) o20 e20) (cwV 4 hts (gTV q1122 q1123 q1124 q5 q1125) rfl rfl rfl (by decide +kernel) ⟨Nat.le_of_ble_eq_true rfl, Nat.le_of_ble_eq_true rfl⟩) hK hP hD hS hA hE hAB [0, 3] [1, 2, 4, 5, 6, 7, 8, 9, 10] [2] (wr := [(h1, .inl (kc1, 40, .inl c1)), (h2, .inl (kc2, 40, .inl c2)), (h4, .inl (kc4, 40, .inl c4)), (h5, .inl (kc5, 6, .inl c5)), (h6, .inl (kc6, 40, .inl c6)), (h7, .inl (kc7, 40, .inl c7)), (h8, .inl (kc8, 700, .inl c8)), (h9, .inl (kc9, 700, .inl c9)), (h10, .inl (kc10, 80, .inl c10))]) rfl rfl (by decide) (by decide) (by decide) rfl (ci := 11) (q0 := 0) rfl rfl rfl rfl hl.1 rfl (Nat.le_of_ble_eq_true rfl) dX11_endCost_109 ⟨Nat.zero_le _, Nat.zero_le _⟩ (fun r20 u20 H locs hw20 hP hD hS => ?_)
      obtain ⟨hw201, hw202⟩ := hw20
      subst hw201 hw202
      have hP : va_P (dC, dI) vwCl (wX11_endCost h0 h1 h2 h3 h4 h5 h6 h7 h8 h9 h10 kc1 kc2 kc3 kc4 kc5 kc6 kc7 kc8 kc9 kc10 V0 v0_newG v0_newL v0_newS c1 c2 c3 c4 c5 c6 c7 c8 c9 c10) H := hP.sub [9, 0, 1, 10, 2, 3, 4, 5, 6, 7, 8] rfl
      have hD : va_D A (wX11_endCost h0 h1 h2 h3 h4 h5 h6 h7 h8 h9 h10 kc1 kc2 kc3 kc4 kc5 kc6 kc7 kc8 kc9 kc10 V0 v0_newG v0_newL v0_newS c1 c2 c3 c4 c5 c6 c7 c8 c9 c10) := hD.sub [9, 0, 1, 10, 2, 3, 4, 5, 6, 7, 8] (by decide) rfl
      obtain ⟨o21, e21, hf⟩ := ob_some hf
      refine kSi (As := [.int o17.1, .int o20.1]) (rest := []) ⟨hx, hb, hml, hown, hts⟩ (mX11_sum l dC dI H.size base o17.1 o20.1 o21 e21) (va_cwS 2 hts (gTS q367 q368 q5 q369) rfl rfl rfl (by decide +kernel) ⟨Nat.le_of_ble_eq_true rfl, Nat.le_of_ble_eq_true rfl⟩) hK hP hD hS hA hE hAB [] [0, 1, 2, 3, 4, 5, 6, 7, 8, 9, 10] [] (wr := (wX11_endCost h0 h1 h2 h3 h4 h5 h6 h7 h8 h9 h10 kc1 kc2 kc3 kc4 kc5 kc6 kc7 kc8 kc9 kc10 V0 v0_newG v0_newL v0_newS c1 c2 c3 c4 c5 c6 c7 c8 c9 c10)) rfl rfl (by decide) (by decide) (by decide) rfl rfl hl.1 rfl (Nat.le_of_ble_eq_true rfl) dX11_endCost_112 ⟨Nat.zero_le _, Nat.zero_le _⟩ (fun r21 u21 H locs hw21 hP hD hS => ?_)
      obtain ⟨hw211, hw212⟩ := hw21
      subst hw211 hw212
      have hP : va_P (dC, dI) vwCl (wX11_endCost h0 h1 h2 h3 h4 h5 h6 h7 h8 h9 h10 kc1 kc2 kc3 kc4 kc5 kc6 kc7 kc8 kc9 kc10 V0 v0_newG v0_newL v0_newS c1 c2 c3 c4 c5 c6 c7 c8 c9 c10) H := hP.sub [0, 1, 2, 3, 4, 5, 6, 7, 8, 9, 10] rfl
      have hD : va_D A (wX11_endCost h0 h1 h2 h3 h4 h5 h6 h7 h8 h9 h10 kc1 kc2 kc3 kc4 kc5 kc6 kc7 kc8 kc9 kc10 V0 v0_newG v0_newL v0_newS c1 c2 c3 c4 c5 c6 c7 c8 c9 c10) := hD.sub [0, 1, 2, 3, 4, 5, 6, 7, 8, 9, 10] (by decide) rfl
      refine lv_istore (lv' := [(7, .int o21.1), (0, .ref h0), (1, .int y1), (2, .int y2), (3, .int y3), (4, .int y4), (5, .int y5), (6, .int y6)]) hx hb dX11_endCost_115 hl (by decide) rfl (fun ls hl => ?_)
      refine lv_iload hx hb dX11_endCost_117 (lv_at hl 0 rfl) ?_
      refine lv_iload hx hb dX11_endCost_119 (lv_at hl 6 rfl) ?_
      refine lv_icmp_ge (tgt := 129) hx hb dX11_endCost_121 (by decide) (fun cq22 => ?_) (fun cq22 => ?_)
      · replace hf := if_at hf cq22
        refine lv_iload hx hb dX11_endCost_129 (lv_at hl 6 rfl) ?_
        exact (hG _ _ _ _ _).mp (J131 k71 hk71 y1 y2 y3 y4 y6 y5 v0_newG v0_newL v0_newS c9 H locs ls (hP.sub [0, 1, 2, 3, 4, 5, 6, 7, 8, 9, 10] rfl) (hD.sub [0, 1, 2, 3, 4, 5, 6, 7, 8, 9, 10] (by decide) rfl) hS (lv_sub hl [1, 2, 3, 4, 5, 7] rfl) hf)
      · replace hf := if_no hf cq22
        refine lv_iload hx hb dX11_endCost_124 (lv_at hl 0 rfl) ?_
        refine lv_goto (tgt := 131) hx hb dX11_endCost_126 (by decide) ?_
        exact (hG _ _ _ _ _).mp (J131 k71 hk71 y1 y2 y3 y4 y6 o21.1 v0_newG v0_newL v0_newS c9 H locs ls (hP.sub [0, 1, 2, 3, 4, 5, 6, 7, 8, 9, 10] rfl) (hD.sub [0, 1, 2, 3, 4, 5, 6, 7, 8, 9, 10] (by decide) rfl) hS (lv_sub hl [1, 2, 3, 4, 5, 7] rfl) hf)
  have L71 : ∀ (n : Nat), ∀ (y1 : Int32) (y2 : Int32) (y3 : Int32) (y4 : Int32) (y5 : Int32) (y6 : Int32) (v0_newG : Int32) (v0_newL : Int32) (v0_newS : Int32) (c9 : (Nat → Int32)) (H : Heap) (locs : List Loc) (ls : Array Slot), va_P (dC, dI) vwCl (wX11_endCost h0 h1 h2 h3 h4 h5 h6 h7 h8 h9 h10 kc1 kc2 kc3 kc4 kc5 kc6 kc7 kc8 kc9 kc10 V0 v0_newG v0_newL v0_newS c1 c2 c3 c4 c5 c6 c7 c8 c9 c10) H → va_D A (wX11_endCost h0 h1 h2 h3 h4 h5 h6 h7 h8 h9 h10 kc1 kc2 kc3 kc4 kc5 kc6 kc7 kc8 kc9 kc10 V0 v0_newG v0_newL v0_newS c1 c2 c3 c4 c5 c6 c7 c8 c9 c10) → va_S A s.heap H locs → lv_has ls 9 [(0, .ref h0), (1, .int y1), (2, .int y2), (3, .int y3), (4, .int y4), (5, .int y5), (6, .int y6)] → fX11_endCost_l71 c1 c2 c3 c4 c5 c6 c7 c8 c10  n y1 y2 y3 y4 y5 y6 v0_newG v0_newL v0_newS c9 = some o → G 0 0 H locs (F0 m 71 ls []) := by
    intro  n
    induction n with
    | zero => intro y1 y2 y3 y4 y5 y6 v0_newG v0_newL v0_newS c9 H locs ls _ _ _ _ hf; cases hf
    | succ n ih => exact B71  _ ih
  have J23 : ∀ (z0 : Int32) (v0_newG : Int32) (v0_newL : Int32) (v0_newS : Int32) (c9 : (Nat → Int32)) (H : Heap) (locs : List Loc) (ls : Array Slot), va_P (dC, dI) vwCl (wX11_endCost h0 h1 h2 h3 h4 h5 h6 h7 h8 h9 h10 kc1 kc2 kc3 kc4 kc5 kc6 kc7 kc8 kc9 kc10 V0 v0_newG v0_newL v0_newS c1 c2 c3 c4 c5 c6 c7 c8 c9 c10) H → va_D A (wX11_endCost h0 h1 h2 h3 h4 h5 h6 h7 h8 h9 h10 kc1 kc2 kc3 kc4 kc5 kc6 kc7 kc8 kc9 kc10 V0 v0_newG v0_newL v0_newS c1 c2 c3 c4 c5 c6 c7 c8 c9 c10) → va_S A s.heap H locs → lv_has ls 9 [(0, .ref h0)] → fX11_endCost_p23 c1 c2 c3 c4 c5 c6 c7 c8 c10  z0 v0_newG v0_newL v0_newS c9 = some o → G 0 0 H locs (F0 m 23 ls [.int z0]) := by
    intro  z0 v0_newG v0_newL v0_newS c9 H locs ls hP hD hS hl hf
    refine (hG _ _ _ _ _).mpr ?_
    unfold fX11_endCost_p23 at hf
    have hf1 := Option.some.inj hf
    subst hf1
    have hP9 := hP.sub (ws' := (wX11_endCost h0 h1 h2 h3 h4 h5 h6 h7 h8 h9 h10 kc1 kc2 kc3 kc4 kc5 kc6 kc7 kc8 kc9 kc10 V0 v0_newG v0_newL v0_newS c1 c2 c3 c4 c5 c6 c7 c8 c9 c10)) [0, 1, 2, 3, 4, 5, 6, 7, 8, 9, 10] rfl
    have hD9 := hD.sub (ws' := (wX11_endCost h0 h1 h2 h3 h4 h5 h6 h7 h8 h9 h10 kc1 kc2 kc3 kc4 kc5 kc6 kc7 kc8 kc9 kc10 V0 v0_newG v0_newL v0_newS c1 c2 c3 c4 c5 c6 c7 c8 c9 c10)) [0, 1, 2, 3, 4, 5, 6, 7, 8, 9, 10] (by decide) rfl
    exact W.iret (v := z0) hx hb hr (fun t ht hW => ⟨⟨z0, (v0_newG, v0_newL, v0_newS, c9), rfl, ⟨rfl, rfl⟩, by rw [ht]; exact hP9, va_K.moved hW.alike hK, hD9⟩, hS.F ht⟩) hS.2.2 dX11_endCost_23
  refine (hG _ _ _ _ _).mpr ?_
  obtain ⟨H, hH⟩ : ∃ H, H = s.heap := ⟨_, rfl⟩
  have hS : va_S A s.heap H [] := by rw [hH]; exact hS
  rw [← hH] at hP ⊢
  generalize ([] : List Loc) = locs at hS ⊢
  unfold fX11_endCost at hf
  refine lv_aload_n hx hb dX11_endCost_0 rfl (lv_at hl 0 rfl) ?_
  refine va_get (D := (dC, dI)) (ci := 11) (v := .ref h1) (C := RX11) (T := TX11) (N := 71) hx hb hts inlX11 hown hK hP 0 rfl rfl 36 (by decide) w6_ (fun _ h9 => h9) rfl dX11_endCost_1 ?_
  refine lv_iload_n hx hb dX11_endCost_4 rfl (lv_at hl 2 rfl) ?_
  have b23 := bd_in hf
  replace hf := bd_k hf
  refine va_iald hx hb hK hP 1 0 rfl rfl b23 dX11_endCost_5 ?_
  refine lv_topi (fun x24 e24 => ?_)
  replace hf := nm_at hf e24
  refine lv_bipush (v := 6) hx hb dX11_endCost_6 (by decide +kernel) ?_
  refine lv_icmp_ne (tgt := 24) hx hb dX11_endCost_8 (by decide) (fun cq25 => ?_) (fun cq25 => ?_)
  · replace hf := if_no hf cq25
    refine lv_aload_n hx hb dX11_endCost_24 rfl (lv_at hl 0 rfl) ?_
    refine va_get (D := (dC, dI)) (ci := 11) (v := .ref h1) (C := RX11) (T := TX11) (N := 71) hx hb hts inlX11 hown hK hP 0 rfl rfl 36 (by decide) w6_ (fun _ h9 => h9) rfl dX11_endCost_25 ?_
    refine lv_iload_n hx hb dX11_endCost_28 rfl (lv_at hl 2 rfl) ?_
    have b26 := bd_in hf
    replace hf := bd_k hf
    refine va_iald hx hb hK hP 1 0 rfl rfl b26 dX11_endCost_29 ?_
    refine lv_topi (fun x27 e27 => ?_)
    replace hf := nm_at hf e27
    refine lv_bipush (v := 7) hx hb dX11_endCost_30 (by decide +kernel) ?_
    refine lv_icmp_ne (tgt := 54) hx hb dX11_endCost_32 (by decide) (fun cq28 => ?_) (fun cq28 => ?_)
    · replace hf := if_no hf cq28
      refine lv_ldc (v := 2000000) hx hb hown w7_ dX11_endCost_54 ?_
      refine lv_istore (lv' := [(5, .int 2000000), (0, .ref h0), (1, .int a0), (2, .int a1), (3, .int a2), (4, .int a3)]) hx hb dX11_endCost_56 hl (by decide) rfl (fun ls hl => ?_)
      refine lv_aload_n hx hb dX11_endCost_58 rfl (lv_at hl 1 rfl) ?_
      refine va_get (D := (dC, dI)) (ci := 11) (v := .ref h1) (C := RX11) (T := TX11) (N := 71) hx hb hts inlX11 hown hK hP 0 rfl rfl 36 (by decide) w6_ (fun _ h9 => h9) rfl dX11_endCost_59 ?_
      refine lv_iload_n hx hb dX11_endCost_62 rfl (lv_at hl 3 rfl) ?_
      have b29 := bd_in hf
      replace hf := bd_k hf
      refine va_iald hx hb hK hP 1 0 rfl rfl b29 dX11_endCost_63 ?_
      refine lv_topi (fun x30 e30 => ?_)
      replace hf := nm_at hf e30
      refine lv_iconst (v := 3) hx hb dX11_endCost_64 (by decide +kernel) ?_
      refine lv_icmp_ne (tgt := 146) hx hb dX11_endCost_65 (by decide) (fun cq31 => ?_) (fun cq31 => ?_)
      · replace hf := if_no hf cq31
        refine lv_aload_n hx hb dX11_endCost_146 rfl (lv_at hl 1 rfl) ?_
        refine lv_iload_n hx hb dX11_endCost_147 rfl (lv_at hl 3 rfl) ?_
        refine lv_iload_n hx hb dX11_endCost_148 rfl (lv_at hl 2 rfl) ?_
        refine lv_iload_n hx hb dX11_endCost_149 rfl (lv_at hl 4 rfl) ?_
        obtain ⟨o32, e32, hf⟩ := ob_some hf
        refine kVi (As := [.int a1, .int a0, .int a2]) (rest := []) ⟨hx, hb, hml, hown, hts⟩ (mX11_can l dC dI h0 h6 h7 h8 h9 kc6 kc7 kc8 kc9 H.size base a1 a0 a2 c6 c7 c8 c9 (fun k => match k with | 35 => .ref h5 | 36 => .ref h1 | 39 => .ref h4 | 40 => .ref h10 | 41 => .ref h2 | 60 => .ref h3 | 62 => .int v0_newG | 63 => .int v0_newL | 64 => .int v0_newS | k => V0 k) o32 e32) (cwV 3 hts (gTV q1126 q1127 q1128 q5 q1129) rfl rfl rfl (by decide +kernel) ⟨Nat.le_of_ble_eq_true rfl, Nat.le_of_ble_eq_true rfl⟩) hK hP hD hS hA hE hAB [0, 6, 7, 8, 9] [1, 2, 3, 4, 5, 10] [5, 6, 7, 8] (wr := [(h1, .inl (kc1, 40, .inl c1)), (h2, .inl (kc2, 40, .inl c2)), (h3, .inl (kc3, 10240, .inl c3)), (h4, .inl (kc4, 40, .inl c4)), (h5, .inl (kc5, 6, .inl c5)), (h10, .inl (kc10, 80, .inl c10))]) rfl rfl (by decide) (by decide) (by decide) rfl (ci := 11) (q0 := 0) rfl rfl rfl rfl hl.1 rfl (Nat.le_of_ble_eq_true rfl) dX11_endCost_150 ⟨Nat.zero_le _, Nat.zero_le _⟩ (fun r32 u32 H locs hw32 hP hD hS => ?_)
        obtain ⟨hw321, hw322⟩ := hw32
        subst hw321 hw322
        have hP : va_P (dC, dI) vwCl (wX11_endCost h0 h1 h2 h3 h4 h5 h6 h7 h8 h9 h10 kc1 kc2 kc3 kc4 kc5 kc6 kc7 kc8 kc9 kc10 V0 v0_newG v0_newL v0_newS c1 c2 c3 c4 c5 c6 c7 c8 o32.2 c10) H := hP.sub [6, 0, 1, 2, 3, 4, 7, 8, 9, 10, 5] rfl
        have hD : va_D A (wX11_endCost h0 h1 h2 h3 h4 h5 h6 h7 h8 h9 h10 kc1 kc2 kc3 kc4 kc5 kc6 kc7 kc8 kc9 kc10 V0 v0_newG v0_newL v0_newS c1 c2 c3 c4 c5 c6 c7 c8 o32.2 c10) := hD.sub [6, 0, 1, 2, 3, 4, 7, 8, 9, 10, 5] (by decide) rfl
        refine lv_istore (lv' := [(6, .int o32.1), (5, .int 2000000), (0, .ref h0), (1, .int a0), (2, .int a1), (3, .int a2), (4, .int a3)]) hx hb dX11_endCost_153 hl (by decide) rfl (fun ls hl => ?_)
        refine lv_aload_n hx hb dX11_endCost_155 rfl (lv_at hl 2 rfl) ?_
        refine va_get (D := (dC, dI)) (ci := 11) (v := .ref h1) (C := RX11) (T := TX11) (N := 71) hx hb hts inlX11 hown hK hP 0 rfl rfl 36 (by decide) w6_ (fun _ h9 => h9) rfl dX11_endCost_156 ?_
        refine lv_iload_n hx hb dX11_endCost_159 rfl (lv_at hl 4 rfl) ?_
        have b33 := bd_in hf
        replace hf := bd_k hf
        refine va_iald hx hb hK hP 1 0 rfl rfl b33 dX11_endCost_160 ?_
        refine lv_topi (fun x34 e34 => ?_)
        replace hf := nm_at hf e34
        refine lv_iconst (v := 3) hx hb dX11_endCost_161 (by decide +kernel) ?_
        refine lv_icmp_le (tgt := 169) hx hb dX11_endCost_162 (by decide) (fun cq35 => ?_) (fun cq35 => ?_)
        · replace hf := if_at hf cq35
          refine lv_iconst (v := 0) hx hb dX11_endCost_169 (by decide +kernel) ?_
          exact (hG _ _ _ _ _).mp (J170 a0 a1 a2 a3 2000000 o32.1 0 v0_newG v0_newL v0_newS o32.2 H locs ls (hP.sub [0, 1, 2, 3, 4, 5, 6, 7, 8, 9, 10] rfl) (hD.sub [0, 1, 2, 3, 4, 5, 6, 7, 8, 9, 10] (by decide) rfl) hS (lv_sub hl [2, 3, 4, 5, 6, 1, 0] rfl) hf)
        · replace hf := if_no hf cq35
          refine lv_iconst (v := 1) hx hb dX11_endCost_165 (by decide +kernel) ?_
          refine lv_goto (tgt := 170) hx hb dX11_endCost_166 (by decide) ?_
          exact (hG _ _ _ _ _).mp (J170 a0 a1 a2 a3 2000000 o32.1 1 v0_newG v0_newL v0_newS o32.2 H locs ls (hP.sub [0, 1, 2, 3, 4, 5, 6, 7, 8, 9, 10] rfl) (hD.sub [0, 1, 2, 3, 4, 5, 6, 7, 8, 9, 10] (by decide) rfl) hS (lv_sub hl [2, 3, 4, 5, 6, 1, 0] rfl) hf)
      · replace hf := if_at hf cq31
        refine lv_iconst (v := 0) hx hb dX11_endCost_68 (by decide +kernel) ?_
        refine lv_istore (lv' := [(6, .int 0), (5, .int 2000000), (0, .ref h0), (1, .int a0), (2, .int a1), (3, .int a2), (4, .int a3)]) hx hb dX11_endCost_69 hl (by decide) rfl (fun ls hl => ?_)
        exact (hG _ _ _ _ _).mp (L71 FU a0 a1 a2 a3 2000000 0 v0_newG v0_newL v0_newS c9 H locs ls (hP.sub [0, 1, 2, 3, 4, 5, 6, 7, 8, 9, 10] rfl) (hD.sub [0, 1, 2, 3, 4, 5, 6, 7, 8, 9, 10] (by decide) rfl) hS (lv_sub hl [2, 3, 4, 5, 6, 1, 0] rfl) hf)
    · replace hf := if_at hf cq28
      refine lv_iconst (v := 1) hx hb dX11_endCost_35 (by decide +kernel) ?_
      refine lv_aload_n hx hb dX11_endCost_36 rfl (lv_at hl 0 rfl) ?_
      refine lv_iload_n hx hb dX11_endCost_37 rfl (lv_at hl 1 rfl) ?_
      refine lv_aload_n hx hb dX11_endCost_38 rfl (lv_at hl 0 rfl) ?_
      refine va_get (D := (dC, dI)) (ci := 11) (v := .ref h2) (C := RX11) (T := TX11) (N := 71) hx hb hts inlX11 hown hK hP 0 rfl rfl 41 (by decide) w5_ (fun _ h9 => h9) rfl dX11_endCost_39 ?_
      refine lv_iload_n hx hb dX11_endCost_42 rfl (lv_at hl 2 rfl) ?_
      have b36 := bd_in hf
      replace hf := bd_k hf
      refine va_iald hx hb hK hP 2 1 rfl rfl b36 dX11_endCost_43 ?_
      refine lv_topi (fun x37 e37 => ?_)
      replace hf := nm_at hf e37
      refine lv_iload_n hx hb dX11_endCost_44 rfl (lv_at hl 3 rfl) ?_
      refine lv_iload hx hb dX11_endCost_45 (lv_at hl 4 rfl) ?_
      obtain ⟨o38, e38, hf⟩ := ob_some hf
      refine kVi (As := [.int a0, .int x37, .int a2, .int a3]) (rest := [.int 1]) ⟨hx, hb, hml, hown, hts⟩ (mX11_toEnd l dC dI h0 h3 kc3 H.size base a0 x37 a2 a3 c3 (fun k => match k with | 35 => .ref h5 | 36 => .ref h1 | 39 => .ref h4 | 40 => .ref h10 | 41 => .ref h2 | 44 => .ref h6 | 45 => .ref h7 | 46 => .ref h8 | 59 => .ref h9 | 62 => .int v0_newG | 63 => .int v0_newL | 64 => .int v0_newS | k => V0 k) o38 e38) (cwV 4 hts (gTV q1122 q1123 q1124 q5 q1125) rfl rfl rfl (by decide +kernel) ⟨Nat.le_of_ble_eq_true rfl, Nat.le_of_ble_eq_true rfl⟩) hK hP hD hS hA hE hAB [0, 3] [1, 2, 4, 5, 6, 7, 8, 9, 10] [2] (wr := [(h1, .inl (kc1, 40, .inl c1)), (h2, .inl (kc2, 40, .inl c2)), (h4, .inl (kc4, 40, .inl c4)), (h5, .inl (kc5, 6, .inl c5)), (h6, .inl (kc6, 40, .inl c6)), (h7, .inl (kc7, 40, .inl c7)), (h8, .inl (kc8, 700, .inl c8)), (h9, .inl (kc9, 700, .inl c9)), (h10, .inl (kc10, 80, .inl c10))]) rfl rfl (by decide) (by decide) (by decide) rfl (ci := 11) (q0 := 0) rfl rfl rfl rfl hl.1 rfl (Nat.le_of_ble_eq_true rfl) dX11_endCost_47 ⟨Nat.zero_le _, Nat.zero_le _⟩ (fun r38 u38 H locs hw38 hP hD hS => ?_)
      obtain ⟨hw381, hw382⟩ := hw38
      subst hw381 hw382
      have hP : va_P (dC, dI) vwCl (wX11_endCost h0 h1 h2 h3 h4 h5 h6 h7 h8 h9 h10 kc1 kc2 kc3 kc4 kc5 kc6 kc7 kc8 kc9 kc10 V0 v0_newG v0_newL v0_newS c1 c2 c3 c4 c5 c6 c7 c8 c9 c10) H := hP.sub [9, 0, 1, 10, 2, 3, 4, 5, 6, 7, 8] rfl
      have hD : va_D A (wX11_endCost h0 h1 h2 h3 h4 h5 h6 h7 h8 h9 h10 kc1 kc2 kc3 kc4 kc5 kc6 kc7 kc8 kc9 kc10 V0 v0_newG v0_newL v0_newS c1 c2 c3 c4 c5 c6 c7 c8 c9 c10) := hD.sub [9, 0, 1, 10, 2, 3, 4, 5, 6, 7, 8] (by decide) rfl
      obtain ⟨o39, e39, hf⟩ := ob_some hf
      refine kSi (As := [.int 1, .int o38.1]) (rest := []) ⟨hx, hb, hml, hown, hts⟩ (mX11_sum l dC dI H.size base 1 o38.1 o39 e39) (va_cwS 2 hts (gTS q367 q368 q5 q369) rfl rfl rfl (by decide +kernel) ⟨Nat.le_of_ble_eq_true rfl, Nat.le_of_ble_eq_true rfl⟩) hK hP hD hS hA hE hAB [] [0, 1, 2, 3, 4, 5, 6, 7, 8, 9, 10] [] (wr := (wX11_endCost h0 h1 h2 h3 h4 h5 h6 h7 h8 h9 h10 kc1 kc2 kc3 kc4 kc5 kc6 kc7 kc8 kc9 kc10 V0 v0_newG v0_newL v0_newS c1 c2 c3 c4 c5 c6 c7 c8 c9 c10)) rfl rfl (by decide) (by decide) (by decide) rfl rfl hl.1 rfl (Nat.le_of_ble_eq_true rfl) dX11_endCost_50 ⟨Nat.zero_le _, Nat.zero_le _⟩ (fun r39 u39 H locs hw39 hP hD hS => ?_)
      obtain ⟨hw391, hw392⟩ := hw39
      subst hw391 hw392
      have hP : va_P (dC, dI) vwCl (wX11_endCost h0 h1 h2 h3 h4 h5 h6 h7 h8 h9 h10 kc1 kc2 kc3 kc4 kc5 kc6 kc7 kc8 kc9 kc10 V0 v0_newG v0_newL v0_newS c1 c2 c3 c4 c5 c6 c7 c8 c9 c10) H := hP.sub [0, 1, 2, 3, 4, 5, 6, 7, 8, 9, 10] rfl
      have hD : va_D A (wX11_endCost h0 h1 h2 h3 h4 h5 h6 h7 h8 h9 h10 kc1 kc2 kc3 kc4 kc5 kc6 kc7 kc8 kc9 kc10 V0 v0_newG v0_newL v0_newS c1 c2 c3 c4 c5 c6 c7 c8 c9 c10) := hD.sub [0, 1, 2, 3, 4, 5, 6, 7, 8, 9, 10] (by decide) rfl
      have hf1 := Option.some.inj hf
      subst hf1
      have hP9 := hP.sub (ws' := (wX11_endCost h0 h1 h2 h3 h4 h5 h6 h7 h8 h9 h10 kc1 kc2 kc3 kc4 kc5 kc6 kc7 kc8 kc9 kc10 V0 v0_newG v0_newL v0_newS c1 c2 c3 c4 c5 c6 c7 c8 c9 c10)) [0, 1, 2, 3, 4, 5, 6, 7, 8, 9, 10] rfl
      have hD9 := hD.sub (ws' := (wX11_endCost h0 h1 h2 h3 h4 h5 h6 h7 h8 h9 h10 kc1 kc2 kc3 kc4 kc5 kc6 kc7 kc8 kc9 kc10 V0 v0_newG v0_newL v0_newS c1 c2 c3 c4 c5 c6 c7 c8 c9 c10)) [0, 1, 2, 3, 4, 5, 6, 7, 8, 9, 10] (by decide) rfl
      exact W.iret (v := o39.1) hx hb hr (fun t ht hW => ⟨⟨o39.1, (v0_newG, v0_newL, v0_newS, c9), rfl, ⟨rfl, rfl⟩, by rw [ht]; exact hP9, va_K.moved hW.alike hK, hD9⟩, hS.F ht⟩) hS.2.2 dX11_endCost_53
  · replace hf := if_at hf cq25
    refine lv_iload_n hx hb dX11_endCost_11 rfl (lv_at hl 1 rfl) ?_
    refine lv_iload hx hb dX11_endCost_12 (lv_at hl 4 rfl) ?_
    refine lv_icmp_ne (tgt := 21) hx hb dX11_endCost_14 (by decide) (fun cq40 => ?_) (fun cq40 => ?_)
    · replace hf := if_no hf cq40
      refine lv_ldc (v := 2000000) hx hb hown w7_ dX11_endCost_21 ?_
      exact (hG _ _ _ _ _).mp (J23 2000000 v0_newG v0_newL v0_newS c9 H locs ls (hP.sub [0, 1, 2, 3, 4, 5, 6, 7, 8, 9, 10] rfl) (hD.sub [0, 1, 2, 3, 4, 5, 6, 7, 8, 9, 10] (by decide) rfl) hS (lv_sub hl [0] rfl) hf)
    · replace hf := if_at hf cq40
      refine lv_iconst (v := 1) hx hb dX11_endCost_17 (by decide +kernel) ?_
      refine lv_goto (tgt := 23) hx hb dX11_endCost_18 (by decide) ?_
      exact (hG _ _ _ _ _).mp (J23 1 v0_newG v0_newL v0_newS c9 H locs ls (hP.sub [0, 1, 2, 3, 4, 5, 6, 7, 8, 9, 10] rfl) (hD.sub [0, 1, 2, 3, 4, 5, 6, 7, 8, 9, 10] (by decide) rfl) hS (lv_sub hl [0] rfl) hf)
abbrev wX11_toFail (h0 h1 : Nat) (kc1 : ClassId) (V0 : Nat → Value) (c1 : Nat → Int32) : va_W := [(h0, .inr (11, [V0 0, V0 1, V0 2, V0 3, V0 4, V0 5, V0 6, V0 7, V0 8, V0 9, V0 10, V0 11, V0 12, V0 13, V0 14, V0 15, V0 16, V0 17, V0 18, V0 19, V0 20, V0 21, V0 22, V0 23, V0 24, V0 25, V0 26, V0 27, V0 28, V0 29, V0 30, V0 31, V0 32, V0 33, V0 34, V0 35, V0 36, V0 37, V0 38, V0 39, V0 40, V0 41, V0 42, V0 43, V0 44, V0 45, V0 46, V0 47, V0 48, V0 49, V0 50, V0 51, V0 52, V0 53, V0 54, V0 55, V0 56, V0 57, V0 58, V0 59, V0 60, .ref h1, V0 62, V0 63, V0 64, V0 65, V0 66, V0 67, V0 68, V0 69, V0 70])), (h1, .inl (kc1, 1280, .inl c1))]
set_option maxHeartbeats 4000000 in
set_option maxRecDepth 100000 in
theorem mX11_toFail (l : Launch) (dC : Nat → ClassId) (dI : Nat → Nat → Nat) (h0 h1 : Nat) (kc1 : ClassId) (sz : Nat) (base : Nat × Nat × Nat) (a0 : Int32) (a1 : Int32) (a2 : Int32) (c1 : Nat → Int32) (V0 : Nat → Value) (o : Int32 × Unit) (hf : fX11_toFail a0 a1 a2 c1 = some o) : Met l yX11_toFail (.code yX11_toFail cX11_toFail 4 (some .int) :: wsL_law) ({ frames := 1, cells := 0, slots := 0, locals := 22 }) (cPre (dC, dI) vwCl [.ref h0, .int a0, .int a1, .int a2] sz base (wX11_toFail h0 h1 kc1 V0 c1) [(kc1, .int)]) (va_Qi (fun r u => r = o.1 ∧ u = o.2) (fun (u : Unit) t => cPost (dC, dI) vwCl (va_A (wX11_toFail h0 h1 kc1 V0 c1) sz) (wX11_toFail h0 h1 kc1 V0 c1) [(kc1, .int)] t) (va_A (wX11_toFail h0 h1 kc1 V0 c1) sz)) 0 0 (va_A (wX11_toFail h0 h1 kc1 V0 c1) sz) := by
  refine Met.ofW (cc := cX11_toFail) (maxL := 4) (ret := (some .int)) (by decide) rfl ?_
  intro p e s m args below meth c s₁ B hml hv
  obtain ⟨rfl, hsz, hP, hK, hD0, hE⟩ := hv
  have hx := B.exec
  have hb := B.bytes
  have hr := B.returns
  have hts : ∀ w ∈ wsL_law, _ := fun w h => atoms_spec (ws := .code yX11_toFail cX11_toFail 4 (some .int) :: wsL_law) B.pre w (List.mem_cons_of_mem _ h)
  have hown : s.vm.findClass RX11 = some m.cls := findClass_of_methodNamed B.named
  have hlocks := B.notSynchronized
  have w0_ := hts _ q121
  have w1_ := hts _ q354
  subst hsz
  have hD := hD0.self (sz := s.heap.size)
  generalize hAe : va_A (wX11_toFail h0 h1 kc1 V0 c1) s.heap.size = A at hD ⊢
  have hA : ∀ q : Nat, s.heap.size ≤ q → A q := fun q h => by rw [← hAe]; exact Or.inr h
  have hAB : ∀ q : Nat, A q → base.1 ≤ q := fun q h => by rw [← hAe] at h; exact h.elim (fun ⟨k, e, hk⟩ => hD0.2 k _ hk) (fun hk => Nat.le_trans hE.1 hk)
  have hS : va_S A s.heap s.heap [] := va_S.rf
  have hl := lv_entry ([.ref h0, .int a0, .int a1, .int a2]) (n := 4) (Nat.le_of_ble_eq_true rfl)
  rw [lg_entry_eq]
  generalize (lg_sl ([.ref h0, .int a0, .int a1, .int a2]) ++ List.replicate (4 - (lg_sl ([.ref h0, .int a0, .int a1, .int a2])).length) Slot.unset).toArray = ls at hl ⊢
  have hl : lv_has ls 4 [(0, .ref h0), (1, .int a0), (2, .int a1), (3, .int a2)] := hl
  have hP : va_P (dC, dI) vwCl (wX11_toFail h0 h1 kc1 V0 c1) s.heap := hP
  refine gl_intro (fun G hG => ?_)
  have J21 : ∀ (z0 : Int32) (H : Heap) (locs : List Loc) (ls : Array Slot), va_P (dC, dI) vwCl (wX11_toFail h0 h1 kc1 V0 c1) H → va_D A (wX11_toFail h0 h1 kc1 V0 c1) → va_S A s.heap H locs → lv_has ls 4 [(0, .ref h0)] → fX11_toFail_p21 c1  z0 = some o → G 0 0 H locs (F0 m 21 ls [.int z0]) := by
    intro  z0 H locs ls hP hD hS hl hf
    refine (hG _ _ _ _ _).mpr ?_
    unfold fX11_toFail_p21 at hf
    have hf1 := Option.some.inj hf
    subst hf1
    have hP9 := hP.sub (ws' := (wX11_toFail h0 h1 kc1 V0 c1)) [0, 1] rfl
    have hD9 := hD.sub (ws' := (wX11_toFail h0 h1 kc1 V0 c1)) [0, 1] (by decide) rfl
    exact W.iret (v := z0) hx hb hr (fun t ht hW => ⟨⟨z0, (), rfl, ⟨rfl, rfl⟩, by rw [ht]; exact hP9, va_K.moved hW.alike hK, hD9⟩, hS.F ht⟩) hS.2.2 dX11_toFail_21
  refine (hG _ _ _ _ _).mpr ?_
  obtain ⟨H, hH⟩ : ∃ H, H = s.heap := ⟨_, rfl⟩
  have hS : va_S A s.heap H [] := by rw [hH]; exact hS
  rw [← hH] at hP ⊢
  generalize ([] : List Loc) = locs at hS ⊢
  unfold fX11_toFail at hf
  refine lv_iload_n hx hb dX11_toFail_0 rfl (lv_at hl 2 rfl) ?_
  refine lv_iconst (v := (-1)) hx hb dX11_toFail_1 (by decide +kernel) ?_
  refine lv_icmp_ne (tgt := 10) hx hb dX11_toFail_2 (by decide) (fun cq1 => ?_) (fun cq1 => ?_)
  · replace hf := if_no hf cq1
    refine lv_aload_n hx hb dX11_toFail_10 rfl (lv_at hl 0 rfl) ?_
    refine va_get (D := (dC, dI)) (ci := 11) (v := .ref h1) (C := RX11) (T := TX11) (N := 71) hx hb hts inlX11 hown hK hP 0 rfl rfl 61 (by decide) w0_ (fun _ h9 => h9) rfl dX11_toFail_11 ?_
    refine lv_iload_n hx hb dX11_toFail_14 rfl (lv_at hl 1 rfl) ?_
    refine lv_iload_n hx hb dX11_toFail_15 rfl (lv_at hl 2 rfl) ?_
    refine lv_iload_n hx hb dX11_toFail_16 rfl (lv_at hl 3 rfl) ?_
    obtain ⟨o2, e2, hf⟩ := ob_some hf
    refine kSi (As := [.int a0, .int a1, .int a2]) (rest := [.ref h1]) ⟨hx, hb, hml, hown, hts⟩ (mX11_at l dC dI H.size base a0 a1 a2 o2 e2) (va_cwS 3 hts (gTS q1112 q1113 q5 q1114) rfl rfl rfl (by decide +kernel) ⟨Nat.le_of_ble_eq_true rfl, Nat.le_of_ble_eq_true rfl⟩) hK hP hD hS hA hE hAB [] [0, 1] [] (wr := (wX11_toFail h0 h1 kc1 V0 c1)) rfl rfl (by decide) (by decide) (by decide) rfl rfl hl.1 rfl (Nat.le_of_ble_eq_true rfl) dX11_toFail_17 ⟨Nat.zero_le _, Nat.zero_le _⟩ (fun r2 u2 H locs hw2 hP hD hS => ?_)
    obtain ⟨hw21, hw22⟩ := hw2
    subst hw21 hw22
    have hP : va_P (dC, dI) vwCl (wX11_toFail h0 h1 kc1 V0 c1) H := hP.sub [0, 1] rfl
    have hD : va_D A (wX11_toFail h0 h1 kc1 V0 c1) := hD.sub [0, 1] (by decide) rfl
    have b3 := bd_in hf
    replace hf := bd_k hf
    refine va_iald hx hb hK hP 1 0 rfl rfl b3 dX11_toFail_20 ?_
    refine lv_topi (fun x4 e4 => ?_)
    replace hf := nm_at hf e4
    exact (hG _ _ _ _ _).mp (J21 x4 H locs ls (hP.sub [0, 1] rfl) (hD.sub [0, 1] (by decide) rfl) hS (lv_sub hl [0] rfl) hf)
  · replace hf := if_at hf cq1
    refine lv_ldc (v := 2000000) hx hb hown w1_ dX11_toFail_5 ?_
    refine lv_goto (tgt := 21) hx hb dX11_toFail_7 (by decide) ?_
    exact (hG _ _ _ _ _).mp (J21 2000000 H locs ls (hP.sub [0, 1] rfl) (hD.sub [0, 1] (by decide) rfl) hS (lv_sub hl [0] rfl) hf)
abbrev wX11_failCost (h0 h1 h2 h3 h4 h5 h6 h7 h8 h9 h10 h11 : Nat) (kc1 kc2 kc3 kc4 kc5 kc6 kc7 kc8 kc9 kc10 kc11 : ClassId) (V0 : Nat → Value) (v0_newG : Int32) (v0_newL : Int32) (v0_newS : Int32) (c1 : Nat → Int32) (c2 : Nat → Int32) (c3 : Nat → Int32) (c4 : Nat → Int32) (c5 : Nat → Int32) (c6 : Nat → Int32) (c7 : Nat → Int32) (c8 : Nat → Int32) (c9 : Nat → Int32) (c10 : Nat → Int32) (c11 : Nat → Int32) : va_W := [(h0, .inr (11, [V0 0, V0 1, V0 2, V0 3, V0 4, V0 5, V0 6, V0 7, V0 8, V0 9, V0 10, V0 11, V0 12, V0 13, V0 14, V0 15, V0 16, V0 17, V0 18, V0 19, V0 20, V0 21, V0 22, V0 23, V0 24, V0 25, V0 26, V0 27, V0 28, V0 29, V0 30, V0 31, V0 32, V0 33, V0 34, .ref h5, .ref h1, V0 37, V0 38, .ref h4, .ref h11, .ref h2, V0 42, V0 43, .ref h7, .ref h8, .ref h9, V0 47, V0 48, V0 49, V0 50, V0 51, V0 52, V0 53, V0 54, V0 55, V0 56, V0 57, V0 58, .ref h10, .ref h6, .ref h3, .int v0_newG, .int v0_newL, .int v0_newS, V0 65, V0 66, V0 67, V0 68, V0 69, V0 70])), (h1, .inl (kc1, 40, .inl c1)), (h2, .inl (kc2, 40, .inl c2)), (h3, .inl (kc3, 1280, .inl c3)), (h4, .inl (kc4, 40, .inl c4)), (h5, .inl (kc5, 6, .inl c5)), (h6, .inl (kc6, 10240, .inl c6)), (h7, .inl (kc7, 40, .inl c7)), (h8, .inl (kc8, 40, .inl c8)), (h9, .inl (kc9, 700, .inl c9)), (h10, .inl (kc10, 700, .inl c10)), (h11, .inl (kc11, 80, .inl c11))]
set_option maxHeartbeats 4000000 in
set_option maxRecDepth 100000 in
theorem mX11_failCost (l : Launch) (dC : Nat → ClassId) (dI : Nat → Nat → Nat) (h0 h1 h2 h3 h4 h5 h6 h7 h8 h9 h10 h11 : Nat) (kc1 kc2 kc3 kc4 kc5 kc6 kc7 kc8 kc9 kc10 kc11 : ClassId) (sz : Nat) (base : Nat × Nat × Nat) (a0 : Int32) (a1 : Int32) (a2 : Int32) (v0_newG : Int32) (v0_newL : Int32) (v0_newS : Int32) (c1 : Nat → Int32) (c2 : Nat → Int32) (c3 : Nat → Int32) (c4 : Nat → Int32) (c5 : Nat → Int32) (c6 : Nat → Int32) (c7 : Nat → Int32) (c8 : Nat → Int32) (c9 : Nat → Int32) (c10 : Nat → Int32) (c11 : Nat → Int32) (V0 : Nat → Value) (o : Int32 × Int32 × Int32 × Int32 × (Nat → Int32)) (hf : fX11_failCost a0 a1 a2 v0_newG v0_newL v0_newS c1 c2 c3 c4 c5 c6 c7 c8 c9 c10 c11 = some o) : Met l yX11_failCost (.code yX11_failCost cX11_failCost 8 (some .int) :: wsL_law) ({ frames := 2, cells := 0, slots := 0, locals := 46 }) (cPre (dC, dI) vwCl [.ref h0, .int a0, .int a1, .int a2] sz base (wX11_failCost h0 h1 h2 h3 h4 h5 h6 h7 h8 h9 h10 h11 kc1 kc2 kc3 kc4 kc5 kc6 kc7 kc8 kc9 kc10 kc11 V0 v0_newG v0_newL v0_newS c1 c2 c3 c4 c5 c6 c7 c8 c9 c10 c11) [(kc1, .int), (kc2, .int), (kc3, .int), (kc4, .int), (kc5, .int), (kc6, .int), (kc7, .int), (kc8, .int), (kc9, .int), (kc10, .int), (kc11, .int)]) (va_Qi (fun r u => r = o.1 ∧ u = o.2) (fun (u : Int32 × Int32 × Int32 × (Nat → Int32)) t => cPost (dC, dI) vwCl (va_A (wX11_failCost h0 h1 h2 h3 h4 h5 h6 h7 h8 h9 h10 h11 kc1 kc2 kc3 kc4 kc5 kc6 kc7 kc8 kc9 kc10 kc11 V0 v0_newG v0_newL v0_newS c1 c2 c3 c4 c5 c6 c7 c8 c9 c10 c11) sz) (wX11_failCost h0 h1 h2 h3 h4 h5 h6 h7 h8 h9 h10 h11 kc1 kc2 kc3 kc4 kc5 kc6 kc7 kc8 kc9 kc10 kc11 V0 u.1 u.2.1 u.2.2.1 c1 c2 c3 c4 c5 c6 c7 c8 c9 u.2.2.2 c11) [(kc1, .int), (kc2, .int), (kc3, .int), (kc4, .int), (kc5, .int), (kc6, .int), (kc7, .int), (kc8, .int), (kc9, .int), (kc10, .int), (kc11, .int)] t) (va_A (wX11_failCost h0 h1 h2 h3 h4 h5 h6 h7 h8 h9 h10 h11 kc1 kc2 kc3 kc4 kc5 kc6 kc7 kc8 kc9 kc10 kc11 V0 v0_newG v0_newL v0_newS c1 c2 c3 c4 c5 c6 c7 c8 c9 c10 c11) sz)) 0 0 (va_A (wX11_failCost h0 h1 h2 h3 h4 h5 h6 h7 h8 h9 h10 h11 kc1 kc2 kc3 kc4 kc5 kc6 kc7 kc8 kc9 kc10 kc11 V0 v0_newG v0_newL v0_newS c1 c2 c3 c4 c5 c6 c7 c8 c9 c10 c11) sz) := by
  refine Met.ofW (cc := cX11_failCost) (maxL := 8) (ret := (some .int)) (by decide) rfl ?_
  intro p e s m args below meth c s₁ B hml hv
  obtain ⟨rfl, hsz, hP, hK, hD0, hE⟩ := hv
  have hx := B.exec
  have hb := B.bytes
  have hr := B.returns
  have hts : ∀ w ∈ wsL_law, _ := fun w h => atoms_spec (ws := .code yX11_failCost cX11_failCost 8 (some .int) :: wsL_law) B.pre w (List.mem_cons_of_mem _ h)
  have hown : s.vm.findClass RX11 = some m.cls := findClass_of_methodNamed B.named
  have hlocks := B.notSynchronized
  have w0_ := hts _ q1119
  have w1_ := hts _ q1120
  have w2_ := hts _ q1121
  have w3_ := hts _ q354
  have w4_ := hts _ q101
  have w5_ := hts _ q100
  have w6_ := hts _ q104
  have w7_ := hts _ q106
  subst hsz
  have hD := hD0.self (sz := s.heap.size)
  generalize hAe : va_A (wX11_failCost h0 h1 h2 h3 h4 h5 h6 h7 h8 h9 h10 h11 kc1 kc2 kc3 kc4 kc5 kc6 kc7 kc8 kc9 kc10 kc11 V0 v0_newG v0_newL v0_newS c1 c2 c3 c4 c5 c6 c7 c8 c9 c10 c11) s.heap.size = A at hD ⊢
  have hA : ∀ q : Nat, s.heap.size ≤ q → A q := fun q h => by rw [← hAe]; exact Or.inr h
  have hAB : ∀ q : Nat, A q → base.1 ≤ q := fun q h => by rw [← hAe] at h; exact h.elim (fun ⟨k, e, hk⟩ => hD0.2 k _ hk) (fun hk => Nat.le_trans hE.1 hk)
  have hS : va_S A s.heap s.heap [] := va_S.rf
  have hl := lv_entry ([.ref h0, .int a0, .int a1, .int a2]) (n := 8) (Nat.le_of_ble_eq_true rfl)
  rw [lg_entry_eq]
  generalize (lg_sl ([.ref h0, .int a0, .int a1, .int a2]) ++ List.replicate (8 - (lg_sl ([.ref h0, .int a0, .int a1, .int a2])).length) Slot.unset).toArray = ls at hl ⊢
  have hl : lv_has ls 8 [(0, .ref h0), (1, .int a0), (2, .int a1), (3, .int a2)] := hl
  have hP : va_P (dC, dI) vwCl (wX11_failCost h0 h1 h2 h3 h4 h5 h6 h7 h8 h9 h10 h11 kc1 kc2 kc3 kc4 kc5 kc6 kc7 kc8 kc9 kc10 kc11 V0 v0_newG v0_newL v0_newS c1 c2 c3 c4 c5 c6 c7 c8 c9 c10 c11) s.heap := hP
  refine gl_intro (fun G hG => ?_)
  have J257 : ∀ (k197 : Int32 → Int32 → Int32 → Int32 → Int32 → Int32 → Int32 → Int32 → Int32 → (Nat → Int32) → Option (Int32 × Int32 × Int32 × Int32 × (Nat → Int32))) (hk197 : ∀ (y1 : Int32) (y2 : Int32) (y3 : Int32) (y4 : Int32) (y5 : Int32) (y6 : Int32) (v0_newG : Int32) (v0_newL : Int32) (v0_newS : Int32) (c10 : (Nat → Int32)) (H : Heap) (locs : List Loc) (ls : Array Slot), va_P (dC, dI) vwCl (wX11_failCost h0 h1 h2 h3 h4 h5 h6 h7 h8 h9 h10 h11 kc1 kc2 kc3 kc4 kc5 kc6 kc7 kc8 kc9 kc10 kc11 V0 v0_newG v0_newL v0_newS c1 c2 c3 c4 c5 c6 c7 c8 c9 c10 c11) H → va_D A (wX11_failCost h0 h1 h2 h3 h4 h5 h6 h7 h8 h9 h10 h11 kc1 kc2 kc3 kc4 kc5 kc6 kc7 kc8 kc9 kc10 kc11 V0 v0_newG v0_newL v0_newS c1 c2 c3 c4 c5 c6 c7 c8 c9 c10 c11) → va_S A s.heap H locs → lv_has ls 8 [(0, .ref h0), (1, .int y1), (2, .int y2), (3, .int y3), (4, .int y4), (5, .int y5), (6, .int y6)] → k197 y1 y2 y3 y4 y5 y6 v0_newG v0_newL v0_newS c10 = some o → G 0 0 H locs (F0 m 197 ls [])), ∀ (y1 : Int32) (y2 : Int32) (y3 : Int32) (y4 : Int32) (y5 : Int32) (y6 : Int32) (v0_newG : Int32) (v0_newL : Int32) (v0_newS : Int32) (c10 : (Nat → Int32)) (H : Heap) (locs : List Loc) (ls : Array Slot), va_P (dC, dI) vwCl (wX11_failCost h0 h1 h2 h3 h4 h5 h6 h7 h8 h9 h10 h11 kc1 kc2 kc3 kc4 kc5 kc6 kc7 kc8 kc9 kc10 kc11 V0 v0_newG v0_newL v0_newS c1 c2 c3 c4 c5 c6 c7 c8 c9 c10 c11) H → va_D A (wX11_failCost h0 h1 h2 h3 h4 h5 h6 h7 h8 h9 h10 h11 kc1 kc2 kc3 kc4 kc5 kc6 kc7 kc8 kc9 kc10 kc11 V0 v0_newG v0_newL v0_newS c1 c2 c3 c4 c5 c6 c7 c8 c9 c10 c11) → va_S A s.heap H locs → lv_has ls 8 [(0, .ref h0), (1, .int y1), (2, .int y2), (3, .int y3), (4, .int y4), (5, .int y5), (6, .int y6)] → fX11_failCost_p257 c1 c2 c3 c4 c5 c6 c7 c8 c9 c11 k197 y1 y2 y3 y4 y5 y6 v0_newG v0_newL v0_newS c10 = some o → G 0 0 H locs (F0 m 257 ls []) := by
    intro k197 hk197 y1 y2 y3 y4 y5 y6 v0_newG v0_newL v0_newS c10 H locs ls hP hD hS hl hf
    refine (hG _ _ _ _ _).mpr ?_
    unfold fX11_failCost_p257 at hf
    obtain ⟨x1, e1⟩ : ∃ y : Int32, y = y6 + 1 := ⟨_, rfl⟩
    replace hf := nm_at hf e1
    refine lv_iinc (v := x1) (lv' := [(6, .int x1), (0, .ref h0), (1, .int y1), (2, .int y2), (3, .int y3), (4, .int y4), (5, .int y5)]) hx hb dX11_failCost_257 hl (k := 6) rfl (by rw [e1]; rfl) (by decide) rfl (fun ls hl => ?_)
    refine lv_goto (tgt := 197) hx hb dX11_failCost_260 (by decide) ?_
    exact (hG _ _ _ _ _).mp (hk197 y1 y2 y3 y4 y5 x1 v0_newG v0_newL v0_newS c10 H locs ls (hP.sub [0, 1, 2, 3, 4, 5, 6, 7, 8, 9, 10, 11] rfl) (hD.sub [0, 1, 2, 3, 4, 5, 6, 7, 8, 9, 10, 11] (by decide) rfl) hS (lv_sub hl [1, 2, 3, 4, 5, 6, 0] rfl) hf)
  have J255 : ∀ (k197 : Int32 → Int32 → Int32 → Int32 → Int32 → Int32 → Int32 → Int32 → Int32 → (Nat → Int32) → Option (Int32 × Int32 × Int32 × Int32 × (Nat → Int32))) (hk197 : ∀ (y1 : Int32) (y2 : Int32) (y3 : Int32) (y4 : Int32) (y5 : Int32) (y6 : Int32) (v0_newG : Int32) (v0_newL : Int32) (v0_newS : Int32) (c10 : (Nat → Int32)) (H : Heap) (locs : List Loc) (ls : Array Slot), va_P (dC, dI) vwCl (wX11_failCost h0 h1 h2 h3 h4 h5 h6 h7 h8 h9 h10 h11 kc1 kc2 kc3 kc4 kc5 kc6 kc7 kc8 kc9 kc10 kc11 V0 v0_newG v0_newL v0_newS c1 c2 c3 c4 c5 c6 c7 c8 c9 c10 c11) H → va_D A (wX11_failCost h0 h1 h2 h3 h4 h5 h6 h7 h8 h9 h10 h11 kc1 kc2 kc3 kc4 kc5 kc6 kc7 kc8 kc9 kc10 kc11 V0 v0_newG v0_newL v0_newS c1 c2 c3 c4 c5 c6 c7 c8 c9 c10 c11) → va_S A s.heap H locs → lv_has ls 8 [(0, .ref h0), (1, .int y1), (2, .int y2), (3, .int y3), (4, .int y4), (5, .int y5), (6, .int y6)] → k197 y1 y2 y3 y4 y5 y6 v0_newG v0_newL v0_newS c10 = some o → G 0 0 H locs (F0 m 197 ls [])), ∀ (y1 : Int32) (y2 : Int32) (y3 : Int32) (y4 : Int32) (y6 : Int32) (z0 : Int32) (v0_newG : Int32) (v0_newL : Int32) (v0_newS : Int32) (c10 : (Nat → Int32)) (H : Heap) (locs : List Loc) (ls : Array Slot), va_P (dC, dI) vwCl (wX11_failCost h0 h1 h2 h3 h4 h5 h6 h7 h8 h9 h10 h11 kc1 kc2 kc3 kc4 kc5 kc6 kc7 kc8 kc9 kc10 kc11 V0 v0_newG v0_newL v0_newS c1 c2 c3 c4 c5 c6 c7 c8 c9 c10 c11) H → va_D A (wX11_failCost h0 h1 h2 h3 h4 h5 h6 h7 h8 h9 h10 h11 kc1 kc2 kc3 kc4 kc5 kc6 kc7 kc8 kc9 kc10 kc11 V0 v0_newG v0_newL v0_newS c1 c2 c3 c4 c5 c6 c7 c8 c9 c10 c11) → va_S A s.heap H locs → lv_has ls 8 [(0, .ref h0), (1, .int y1), (2, .int y2), (3, .int y3), (4, .int y4), (6, .int y6)] → fX11_failCost_p255 c1 c2 c3 c4 c5 c6 c7 c8 c9 c11 k197 y1 y2 y3 y4 y6 z0 v0_newG v0_newL v0_newS c10 = some o → G 0 0 H locs (F0 m 255 ls [.int z0]) := by
    intro k197 hk197 y1 y2 y3 y4 y6 z0 v0_newG v0_newL v0_newS c10 H locs ls hP hD hS hl hf
    refine (hG _ _ _ _ _).mpr ?_
    unfold fX11_failCost_p255 at hf
    refine lv_istore (lv' := [(5, .int z0), (0, .ref h0), (1, .int y1), (2, .int y2), (3, .int y3), (4, .int y4), (6, .int y6)]) hx hb dX11_failCost_255 hl (by decide) rfl (fun ls hl => ?_)
    exact (hG _ _ _ _ _).mp (J257 k197 hk197 y1 y2 y3 y4 z0 y6 v0_newG v0_newL v0_newS c10 H locs ls (hP.sub [0, 1, 2, 3, 4, 5, 6, 7, 8, 9, 10, 11] rfl) (hD.sub [0, 1, 2, 3, 4, 5, 6, 7, 8, 9, 10, 11] (by decide) rfl) hS (lv_sub hl [1, 2, 3, 4, 5, 0, 6] rfl) hf)
  have B197 : ∀ (k197 : Int32 → Int32 → Int32 → Int32 → Int32 → Int32 → Int32 → Int32 → Int32 → (Nat → Int32) → Option (Int32 × Int32 × Int32 × Int32 × (Nat → Int32))) (hk197 : ∀ (y1 : Int32) (y2 : Int32) (y3 : Int32) (y4 : Int32) (y5 : Int32) (y6 : Int32) (v0_newG : Int32) (v0_newL : Int32) (v0_newS : Int32) (c10 : (Nat → Int32)) (H : Heap) (locs : List Loc) (ls : Array Slot), va_P (dC, dI) vwCl (wX11_failCost h0 h1 h2 h3 h4 h5 h6 h7 h8 h9 h10 h11 kc1 kc2 kc3 kc4 kc5 kc6 kc7 kc8 kc9 kc10 kc11 V0 v0_newG v0_newL v0_newS c1 c2 c3 c4 c5 c6 c7 c8 c9 c10 c11) H → va_D A (wX11_failCost h0 h1 h2 h3 h4 h5 h6 h7 h8 h9 h10 h11 kc1 kc2 kc3 kc4 kc5 kc6 kc7 kc8 kc9 kc10 kc11 V0 v0_newG v0_newL v0_newS c1 c2 c3 c4 c5 c6 c7 c8 c9 c10 c11) → va_S A s.heap H locs → lv_has ls 8 [(0, .ref h0), (1, .int y1), (2, .int y2), (3, .int y3), (4, .int y4), (5, .int y5), (6, .int y6)] → k197 y1 y2 y3 y4 y5 y6 v0_newG v0_newL v0_newS c10 = some o → G 0 0 H locs (F0 m 197 ls [])), ∀ (y1 : Int32) (y2 : Int32) (y3 : Int32) (y4 : Int32) (y5 : Int32) (y6 : Int32) (v0_newG : Int32) (v0_newL : Int32) (v0_newS : Int32) (c10 : (Nat → Int32)) (H : Heap) (locs : List Loc) (ls : Array Slot), va_P (dC, dI) vwCl (wX11_failCost h0 h1 h2 h3 h4 h5 h6 h7 h8 h9 h10 h11 kc1 kc2 kc3 kc4 kc5 kc6 kc7 kc8 kc9 kc10 kc11 V0 v0_newG v0_newL v0_newS c1 c2 c3 c4 c5 c6 c7 c8 c9 c10 c11) H → va_D A (wX11_failCost h0 h1 h2 h3 h4 h5 h6 h7 h8 h9 h10 h11 kc1 kc2 kc3 kc4 kc5 kc6 kc7 kc8 kc9 kc10 kc11 V0 v0_newG v0_newL v0_newS c1 c2 c3 c4 c5 c6 c7 c8 c9 c10 c11) → va_S A s.heap H locs → lv_has ls 8 [(0, .ref h0), (1, .int y1), (2, .int y2), (3, .int y3), (4, .int y4), (5, .int y5), (6, .int y6)] → fX11_failCost_b197 c1 c2 c3 c4 c5 c6 c7 c8 c9 c11  k197 y1 y2 y3 y4 y5 y6 v0_newG v0_newL v0_newS c10 = some o → G 0 0 H locs (F0 m 197 ls []) := by
    intro  k197 hk197 y1 y2 y3 y4 y5 y6 v0_newG v0_newL v0_newS c10 H locs ls hP hD hS hl hf
    refine (hG _ _ _ _ _).mpr ?_
    unfold fX11_failCost_b197 at hf
    refine lv_iload hx hb dX11_failCost_197 (lv_at hl 6 rfl) ?_
    refine lv_iconst (v := 2) hx hb dX11_failCost_199 (by decide +kernel) ?_
    refine lv_icmp_ge (tgt := 263) hx hb dX11_failCost_200 (by decide) (fun cq2 => ?_) (fun cq2 => ?_)
    · replace hf := if_at hf cq2
      refine lv_iconst (v := 1) hx hb dX11_failCost_263 (by decide +kernel) ?_
      refine lv_iload hx hb dX11_failCost_264 (lv_at hl 5 rfl) ?_
      obtain ⟨o3, e3, hf⟩ := ob_some hf
      refine kSi (As := [.int 1, .int y5]) (rest := []) ⟨hx, hb, hml, hown, hts⟩ (mX11_sum l dC dI H.size base 1 y5 o3 e3) (va_cwS 2 hts (gTS q367 q368 q5 q369) rfl rfl rfl (by decide +kernel) ⟨Nat.le_of_ble_eq_true rfl, Nat.le_of_ble_eq_true rfl⟩) hK hP hD hS hA hE hAB [] [0, 1, 2, 3, 4, 5, 6, 7, 8, 9, 10, 11] [] (wr := (wX11_failCost h0 h1 h2 h3 h4 h5 h6 h7 h8 h9 h10 h11 kc1 kc2 kc3 kc4 kc5 kc6 kc7 kc8 kc9 kc10 kc11 V0 v0_newG v0_newL v0_newS c1 c2 c3 c4 c5 c6 c7 c8 c9 c10 c11)) rfl rfl (by decide) (by decide) (by decide) rfl rfl hl.1 rfl (Nat.le_of_ble_eq_true rfl) dX11_failCost_266 ⟨Nat.zero_le _, Nat.zero_le _⟩ (fun r3 u3 H locs hw3 hP hD hS => ?_)
      obtain ⟨hw31, hw32⟩ := hw3
      subst hw31 hw32
      have hP : va_P (dC, dI) vwCl (wX11_failCost h0 h1 h2 h3 h4 h5 h6 h7 h8 h9 h10 h11 kc1 kc2 kc3 kc4 kc5 kc6 kc7 kc8 kc9 kc10 kc11 V0 v0_newG v0_newL v0_newS c1 c2 c3 c4 c5 c6 c7 c8 c9 c10 c11) H := hP.sub [0, 1, 2, 3, 4, 5, 6, 7, 8, 9, 10, 11] rfl
      have hD : va_D A (wX11_failCost h0 h1 h2 h3 h4 h5 h6 h7 h8 h9 h10 h11 kc1 kc2 kc3 kc4 kc5 kc6 kc7 kc8 kc9 kc10 kc11 V0 v0_newG v0_newL v0_newS c1 c2 c3 c4 c5 c6 c7 c8 c9 c10 c11) := hD.sub [0, 1, 2, 3, 4, 5, 6, 7, 8, 9, 10, 11] (by decide) rfl
      have hf1 := Option.some.inj hf
      subst hf1
      have hP9 := hP.sub (ws' := (wX11_failCost h0 h1 h2 h3 h4 h5 h6 h7 h8 h9 h10 h11 kc1 kc2 kc3 kc4 kc5 kc6 kc7 kc8 kc9 kc10 kc11 V0 v0_newG v0_newL v0_newS c1 c2 c3 c4 c5 c6 c7 c8 c9 c10 c11)) [0, 1, 2, 3, 4, 5, 6, 7, 8, 9, 10, 11] rfl
      have hD9 := hD.sub (ws' := (wX11_failCost h0 h1 h2 h3 h4 h5 h6 h7 h8 h9 h10 h11 kc1 kc2 kc3 kc4 kc5 kc6 kc7 kc8 kc9 kc10 kc11 V0 v0_newG v0_newL v0_newS c1 c2 c3 c4 c5 c6 c7 c8 c9 c10 c11)) [0, 1, 2, 3, 4, 5, 6, 7, 8, 9, 10, 11] (by decide) rfl
      exact W.iret (v := o3.1) hx hb hr (fun t ht hW => ⟨⟨o3.1, (v0_newG, v0_newL, v0_newS, c10), rfl, ⟨rfl, rfl⟩, by rw [ht]; exact hP9, va_K.moved hW.alike hK, hD9⟩, hS.F ht⟩) hS.2.2 dX11_failCost_269
    · replace hf := if_no hf cq2
      refine lv_iload hx hb dX11_failCost_203 (lv_at hl 4 rfl) ?_
      refine lv_iload hx hb dX11_failCost_205 (lv_at hl 6 rfl) ?_
      refine lv_ishr hx hb dX11_failCost_207 ?_
      refine lv_topi (fun x4 e4 => ?_)
      replace hf := nm_at hf e4
      refine lv_iconst (v := 1) hx hb dX11_failCost_208 (by decide +kernel) ?_
      refine lv_iand hx hb dX11_failCost_209 ?_
      refine lv_topi (fun x5 e5 => ?_)
      replace hf := nm_at hf e5
      refine lv_iconst (v := 1) hx hb dX11_failCost_210 (by decide +kernel) ?_
      refine lv_icmp_ne (tgt := 257) hx hb dX11_failCost_211 (by decide) (fun cq6 => ?_) (fun cq6 => ?_)
      · replace hf := if_no hf cq6
        exact (hG _ _ _ _ _).mp (J257 k197 hk197 y1 y2 y3 y4 y5 y6 v0_newG v0_newL v0_newS c10 H locs ls (hP.sub [0, 1, 2, 3, 4, 5, 6, 7, 8, 9, 10, 11] rfl) (hD.sub [0, 1, 2, 3, 4, 5, 6, 7, 8, 9, 10, 11] (by decide) rfl) hS (lv_sub hl [0, 1, 2, 3, 4, 5, 6] rfl) hf)
      · replace hf := if_at hf cq6
        refine lv_aload_n hx hb dX11_failCost_214 rfl (lv_at hl 0 rfl) ?_
        refine lv_iload_n hx hb dX11_failCost_215 rfl (lv_at hl 2 rfl) ?_
        refine lv_iload_n hx hb dX11_failCost_216 rfl (lv_at hl 1 rfl) ?_
        refine lv_iload_n hx hb dX11_failCost_217 rfl (lv_at hl 3 rfl) ?_
        refine lv_iload hx hb dX11_failCost_218 (lv_at hl 6 rfl) ?_
        obtain ⟨o7, e7, hf⟩ := ob_some hf
        refine kVv (As := [.int y2, .int y1, .int y3, .int y6]) (rest := []) ⟨hx, hb, hml, hown, hts⟩ (mX11_go l dC dI h0 h2 h1 h4 h11 kc2 kc1 kc4 kc11 H.size base y2 y1 y3 y6 v0_newG v0_newL v0_newS c2 c1 c4 c11 (fun k => match k with | 35 => .ref h5 | 44 => .ref h7 | 45 => .ref h8 | 46 => .ref h9 | 59 => .ref h10 | 60 => .ref h6 | 61 => .ref h3 | k => V0 k) o7 e7) (cwV 4 hts (gTV q1130 q1131 q1132 q5 q1133) rfl rfl rfl (by decide +kernel) ⟨Nat.le_of_ble_eq_true rfl, Nat.le_of_ble_eq_true rfl⟩) hK hP hD hS hA hE hAB [0, 2, 1, 4, 11] [3, 5, 6, 7, 8, 9, 10] [1, 0, 3, 10] (wr := [(h3, .inl (kc3, 1280, .inl c3)), (h5, .inl (kc5, 6, .inl c5)), (h6, .inl (kc6, 10240, .inl c6)), (h7, .inl (kc7, 40, .inl c7)), (h8, .inl (kc8, 40, .inl c8)), (h9, .inl (kc9, 700, .inl c9)), (h10, .inl (kc10, 700, .inl c10))]) rfl rfl (by decide) (by decide) (by decide) rfl (ci := 11) (q0 := 0) rfl rfl rfl rfl hl.1 rfl (Nat.le_of_ble_eq_true rfl) dX11_failCost_220 ⟨Nat.zero_le _, Nat.zero_le _⟩ (fun u7 H locs hw7 hP hD hS => ?_)
        have hw71 : o7 = u7 := Eq.symm hw7
        subst hw71
        have hP : va_P (dC, dI) vwCl (wX11_failCost h0 h1 h2 h3 h4 h5 h6 h7 h8 h9 h10 h11 kc1 kc2 kc3 kc4 kc5 kc6 kc7 kc8 kc9 kc10 kc11 V0 o7.1 o7.2.1 o7.2.2 c1 c2 c3 c4 c5 c6 c7 c8 c9 c10 c11) H := hP.sub [7, 9, 8, 0, 10, 1, 2, 3, 4, 5, 6, 11] rfl
        have hD : va_D A (wX11_failCost h0 h1 h2 h3 h4 h5 h6 h7 h8 h9 h10 h11 kc1 kc2 kc3 kc4 kc5 kc6 kc7 kc8 kc9 kc10 kc11 V0 o7.1 o7.2.1 o7.2.2 c1 c2 c3 c4 c5 c6 c7 c8 c9 c10 c11) := hD.sub [7, 9, 8, 0, 10, 1, 2, 3, 4, 5, 6, 11] (by decide) rfl
        refine lv_aload_n hx hb dX11_failCost_223 rfl (lv_at hl 0 rfl) ?_
        refine lv_aload_n hx hb dX11_failCost_224 rfl (lv_at hl 0 rfl) ?_
        refine va_get (D := (dC, dI)) (ci := 11) (v := .int o7.1) (C := RX11) (T := TX11) (N := 71) hx hb hts inlX11 hown hK hP 0 rfl rfl 62 (by decide) w0_ (fun _ h9 => h9) rfl dX11_failCost_225 ?_
        refine lv_aload_n hx hb dX11_failCost_228 rfl (lv_at hl 0 rfl) ?_
        refine va_get (D := (dC, dI)) (ci := 11) (v := .int o7.2.2) (C := RX11) (T := TX11) (N := 71) hx hb hts inlX11 hown hK hP 0 rfl rfl 64 (by decide) w1_ (fun _ h9 => h9) rfl dX11_failCost_229 ?_
        refine lv_aload_n hx hb dX11_failCost_232 rfl (lv_at hl 0 rfl) ?_
        refine va_get (D := (dC, dI)) (ci := 11) (v := .int o7.2.1) (C := RX11) (T := TX11) (N := 71) hx hb hts inlX11 hown hK hP 0 rfl rfl 63 (by decide) w2_ (fun _ h9 => h9) rfl dX11_failCost_233 ?_
        obtain ⟨o8, e8, hf⟩ := ob_some hf
        refine kVi (As := [.int o7.1, .int o7.2.2, .int o7.2.1]) (rest := []) ⟨hx, hb, hml, hown, hts⟩ (mX11_toFail l dC dI h0 h3 kc3 H.size base o7.1 o7.2.2 o7.2.1 c3 (fun k => match k with | 35 => .ref h5 | 36 => .ref h1 | 39 => .ref h4 | 40 => .ref h11 | 41 => .ref h2 | 44 => .ref h7 | 45 => .ref h8 | 46 => .ref h9 | 59 => .ref h10 | 60 => .ref h6 | 62 => .int o7.1 | 63 => .int o7.2.1 | 64 => .int o7.2.2 | k => V0 k) o8 e8) (cwV 3 hts (gTV q1138 q1139 q1140 q5 q1141) rfl rfl rfl (by decide +kernel) ⟨Nat.le_of_ble_eq_true rfl, Nat.le_of_ble_eq_true rfl⟩) hK hP hD hS hA hE hAB [0, 3] [1, 2, 4, 5, 6, 7, 8, 9, 10, 11] [2] (wr := [(h1, .inl (kc1, 40, .inl c1)), (h2, .inl (kc2, 40, .inl c2)), (h4, .inl (kc4, 40, .inl c4)), (h5, .inl (kc5, 6, .inl c5)), (h6, .inl (kc6, 10240, .inl c6)), (h7, .inl (kc7, 40, .inl c7)), (h8, .inl (kc8, 40, .inl c8)), (h9, .inl (kc9, 700, .inl c9)), (h10, .inl (kc10, 700, .inl c10)), (h11, .inl (kc11, 80, .inl c11))]) rfl rfl (by decide) (by decide) (by decide) rfl (ci := 11) (q0 := 0) rfl rfl rfl rfl hl.1 rfl (Nat.le_of_ble_eq_true rfl) dX11_failCost_236 ⟨Nat.zero_le _, Nat.zero_le _⟩ (fun r8 u8 H locs hw8 hP hD hS => ?_)
        obtain ⟨hw81, hw82⟩ := hw8
        subst hw81 hw82
        have hP : va_P (dC, dI) vwCl (wX11_failCost h0 h1 h2 h3 h4 h5 h6 h7 h8 h9 h10 h11 kc1 kc2 kc3 kc4 kc5 kc6 kc7 kc8 kc9 kc10 kc11 V0 o7.1 o7.2.1 o7.2.2 c1 c2 c3 c4 c5 c6 c7 c8 c9 c10 c11) H := hP.sub [10, 0, 1, 11, 2, 3, 4, 5, 6, 7, 8, 9] rfl
        have hD : va_D A (wX11_failCost h0 h1 h2 h3 h4 h5 h6 h7 h8 h9 h10 h11 kc1 kc2 kc3 kc4 kc5 kc6 kc7 kc8 kc9 kc10 kc11 V0 o7.1 o7.2.1 o7.2.2 c1 c2 c3 c4 c5 c6 c7 c8 c9 c10 c11) := hD.sub [10, 0, 1, 11, 2, 3, 4, 5, 6, 7, 8, 9] (by decide) rfl
        refine lv_istore (lv' := [(7, .int o8.1), (0, .ref h0), (1, .int y1), (2, .int y2), (3, .int y3), (4, .int y4), (5, .int y5), (6, .int y6)]) hx hb dX11_failCost_239 hl (by decide) rfl (fun ls hl => ?_)
        refine lv_iload hx hb dX11_failCost_241 (lv_at hl 0 rfl) ?_
        refine lv_iload hx hb dX11_failCost_243 (lv_at hl 6 rfl) ?_
        refine lv_icmp_ge (tgt := 253) hx hb dX11_failCost_245 (by decide) (fun cq9 => ?_) (fun cq9 => ?_)
        · replace hf := if_at hf cq9
          refine lv_iload hx hb dX11_failCost_253 (lv_at hl 6 rfl) ?_
          exact (hG _ _ _ _ _).mp (J255 k197 hk197 y1 y2 y3 y4 y6 y5 o7.1 o7.2.1 o7.2.2 c10 H locs ls (hP.sub [0, 1, 2, 3, 4, 5, 6, 7, 8, 9, 10, 11] rfl) (hD.sub [0, 1, 2, 3, 4, 5, 6, 7, 8, 9, 10, 11] (by decide) rfl) hS (lv_sub hl [1, 2, 3, 4, 5, 7] rfl) hf)
        · replace hf := if_no hf cq9
          refine lv_iload hx hb dX11_failCost_248 (lv_at hl 0 rfl) ?_
          refine lv_goto (tgt := 255) hx hb dX11_failCost_250 (by decide) ?_
          exact (hG _ _ _ _ _).mp (J255 k197 hk197 y1 y2 y3 y4 y6 o8.1 o7.1 o7.2.1 o7.2.2 c10 H locs ls (hP.sub [0, 1, 2, 3, 4, 5, 6, 7, 8, 9, 10, 11] rfl) (hD.sub [0, 1, 2, 3, 4, 5, 6, 7, 8, 9, 10, 11] (by decide) rfl) hS (lv_sub hl [1, 2, 3, 4, 5, 7] rfl) hf)
  have L197 : ∀ (n : Nat), ∀ (y1 : Int32) (y2 : Int32) (y3 : Int32) (y4 : Int32) (y5 : Int32) (y6 : Int32) (v0_newG : Int32) (v0_newL : Int32) (v0_newS : Int32) (c10 : (Nat → Int32)) (H : Heap) (locs : List Loc) (ls : Array Slot), va_P (dC, dI) vwCl (wX11_failCost h0 h1 h2 h3 h4 h5 h6 h7 h8 h9 h10 h11 kc1 kc2 kc3 kc4 kc5 kc6 kc7 kc8 kc9 kc10 kc11 V0 v0_newG v0_newL v0_newS c1 c2 c3 c4 c5 c6 c7 c8 c9 c10 c11) H → va_D A (wX11_failCost h0 h1 h2 h3 h4 h5 h6 h7 h8 h9 h10 h11 kc1 kc2 kc3 kc4 kc5 kc6 kc7 kc8 kc9 kc10 kc11 V0 v0_newG v0_newL v0_newS c1 c2 c3 c4 c5 c6 c7 c8 c9 c10 c11) → va_S A s.heap H locs → lv_has ls 8 [(0, .ref h0), (1, .int y1), (2, .int y2), (3, .int y3), (4, .int y4), (5, .int y5), (6, .int y6)] → fX11_failCost_l197 c1 c2 c3 c4 c5 c6 c7 c8 c9 c11  n y1 y2 y3 y4 y5 y6 v0_newG v0_newL v0_newS c10 = some o → G 0 0 H locs (F0 m 197 ls []) := by
    intro  n
    induction n with
    | zero => intro y1 y2 y3 y4 y5 y6 v0_newG v0_newL v0_newS c10 H locs ls _ _ _ _ hf; cases hf
    | succ n ih => exact B197  _ ih
  have J195 : ∀ (y1 : Int32) (y2 : Int32) (y3 : Int32) (y4 : Int32) (y5 : Int32) (z0 : Int32) (v0_newG : Int32) (v0_newL : Int32) (v0_newS : Int32) (c10 : (Nat → Int32)) (H : Heap) (locs : List Loc) (ls : Array Slot), va_P (dC, dI) vwCl (wX11_failCost h0 h1 h2 h3 h4 h5 h6 h7 h8 h9 h10 h11 kc1 kc2 kc3 kc4 kc5 kc6 kc7 kc8 kc9 kc10 kc11 V0 v0_newG v0_newL v0_newS c1 c2 c3 c4 c5 c6 c7 c8 c9 c10 c11) H → va_D A (wX11_failCost h0 h1 h2 h3 h4 h5 h6 h7 h8 h9 h10 h11 kc1 kc2 kc3 kc4 kc5 kc6 kc7 kc8 kc9 kc10 kc11 V0 v0_newG v0_newL v0_newS c1 c2 c3 c4 c5 c6 c7 c8 c9 c10 c11) → va_S A s.heap H locs → lv_has ls 8 [(0, .ref h0), (1, .int y1), (2, .int y2), (3, .int y3), (4, .int y4), (5, .int y5)] → fX11_failCost_p195 c1 c2 c3 c4 c5 c6 c7 c8 c9 c11  y1 y2 y3 y4 y5 z0 v0_newG v0_newL v0_newS c10 = some o → G 0 0 H locs (F0 m 195 ls [.int z0]) := by
    intro  y1 y2 y3 y4 y5 z0 v0_newG v0_newL v0_newS c10 H locs ls hP hD hS hl hf
    refine (hG _ _ _ _ _).mpr ?_
    unfold fX11_failCost_p195 at hf
    refine lv_istore (lv' := [(6, .int z0), (0, .ref h0), (1, .int y1), (2, .int y2), (3, .int y3), (4, .int y4), (5, .int y5)]) hx hb dX11_failCost_195 hl (by decide) rfl (fun ls hl => ?_)
    exact (hG _ _ _ _ _).mp (L197 FU y1 y2 y3 y4 y5 z0 v0_newG v0_newL v0_newS c10 H locs ls (hP.sub [0, 1, 2, 3, 4, 5, 6, 7, 8, 9, 10, 11] rfl) (hD.sub [0, 1, 2, 3, 4, 5, 6, 7, 8, 9, 10, 11] (by decide) rfl) hS (lv_sub hl [1, 2, 3, 4, 5, 6, 0] rfl) hf)
  have J176 : ∀ (y1 : Int32) (y2 : Int32) (y3 : Int32) (y4 : Int32) (v0_newG : Int32) (v0_newL : Int32) (v0_newS : Int32) (c10 : (Nat → Int32)) (H : Heap) (locs : List Loc) (ls : Array Slot), va_P (dC, dI) vwCl (wX11_failCost h0 h1 h2 h3 h4 h5 h6 h7 h8 h9 h10 h11 kc1 kc2 kc3 kc4 kc5 kc6 kc7 kc8 kc9 kc10 kc11 V0 v0_newG v0_newL v0_newS c1 c2 c3 c4 c5 c6 c7 c8 c9 c10 c11) H → va_D A (wX11_failCost h0 h1 h2 h3 h4 h5 h6 h7 h8 h9 h10 h11 kc1 kc2 kc3 kc4 kc5 kc6 kc7 kc8 kc9 kc10 kc11 V0 v0_newG v0_newL v0_newS c1 c2 c3 c4 c5 c6 c7 c8 c9 c10 c11) → va_S A s.heap H locs → lv_has ls 8 [(0, .ref h0), (1, .int y1), (2, .int y2), (3, .int y3), (4, .int y4)] → fX11_failCost_p176 c1 c2 c3 c4 c5 c6 c7 c8 c9 c11  y1 y2 y3 y4 v0_newG v0_newL v0_newS c10 = some o → G 0 0 H locs (F0 m 176 ls []) := by
    intro  y1 y2 y3 y4 v0_newG v0_newL v0_newS c10 H locs ls hP hD hS hl hf
    refine (hG _ _ _ _ _).mpr ?_
    unfold fX11_failCost_p176 at hf
    refine lv_ldc (v := 2000000) hx hb hown w3_ dX11_failCost_176 ?_
    refine lv_istore (lv' := [(5, .int 2000000), (0, .ref h0), (1, .int y1), (2, .int y2), (3, .int y3), (4, .int y4)]) hx hb dX11_failCost_178 hl (by decide) rfl (fun ls hl => ?_)
    refine lv_aload_n hx hb dX11_failCost_180 rfl (lv_at hl 1 rfl) ?_
    refine va_get (D := (dC, dI)) (ci := 11) (v := .ref h1) (C := RX11) (T := TX11) (N := 71) hx hb hts inlX11 hown hK hP 0 rfl rfl 36 (by decide) w4_ (fun _ h9 => h9) rfl dX11_failCost_181 ?_
    refine lv_iload_n hx hb dX11_failCost_184 rfl (lv_at hl 3 rfl) ?_
    have b10 := bd_in hf
    replace hf := bd_k hf
    refine va_iald hx hb hK hP 1 0 rfl rfl b10 dX11_failCost_185 ?_
    refine lv_topi (fun x11 e11 => ?_)
    replace hf := nm_at hf e11
    refine lv_iconst (v := 3) hx hb dX11_failCost_186 (by decide +kernel) ?_
    refine lv_icmp_le (tgt := 194) hx hb dX11_failCost_187 (by decide) (fun cq12 => ?_) (fun cq12 => ?_)
    · replace hf := if_at hf cq12
      refine lv_iconst (v := 0) hx hb dX11_failCost_194 (by decide +kernel) ?_
      exact (hG _ _ _ _ _).mp (J195 y1 y2 y3 y4 2000000 0 v0_newG v0_newL v0_newS c10 H locs ls (hP.sub [0, 1, 2, 3, 4, 5, 6, 7, 8, 9, 10, 11] rfl) (hD.sub [0, 1, 2, 3, 4, 5, 6, 7, 8, 9, 10, 11] (by decide) rfl) hS (lv_sub hl [1, 2, 3, 4, 5, 0] rfl) hf)
    · replace hf := if_no hf cq12
      refine lv_iconst (v := 1) hx hb dX11_failCost_190 (by decide +kernel) ?_
      refine lv_goto (tgt := 195) hx hb dX11_failCost_191 (by decide) ?_
      exact (hG _ _ _ _ _).mp (J195 y1 y2 y3 y4 2000000 1 v0_newG v0_newL v0_newS c10 H locs ls (hP.sub [0, 1, 2, 3, 4, 5, 6, 7, 8, 9, 10, 11] rfl) (hD.sub [0, 1, 2, 3, 4, 5, 6, 7, 8, 9, 10, 11] (by decide) rfl) hS (lv_sub hl [1, 2, 3, 4, 5, 0] rfl) hf)
  have J132 : ∀ (k74 : Int32 → Int32 → Int32 → Int32 → Int32 → Int32 → Int32 → Int32 → (Nat → Int32) → Option (Int32 × Int32 × Int32 × Int32 × (Nat → Int32))) (hk74 : ∀ (y1 : Int32) (y2 : Int32) (y3 : Int32) (y4 : Int32) (y5 : Int32) (v0_newG : Int32) (v0_newL : Int32) (v0_newS : Int32) (c10 : (Nat → Int32)) (H : Heap) (locs : List Loc) (ls : Array Slot), va_P (dC, dI) vwCl (wX11_failCost h0 h1 h2 h3 h4 h5 h6 h7 h8 h9 h10 h11 kc1 kc2 kc3 kc4 kc5 kc6 kc7 kc8 kc9 kc10 kc11 V0 v0_newG v0_newL v0_newS c1 c2 c3 c4 c5 c6 c7 c8 c9 c10 c11) H → va_D A (wX11_failCost h0 h1 h2 h3 h4 h5 h6 h7 h8 h9 h10 h11 kc1 kc2 kc3 kc4 kc5 kc6 kc7 kc8 kc9 kc10 kc11 V0 v0_newG v0_newL v0_newS c1 c2 c3 c4 c5 c6 c7 c8 c9 c10 c11) → va_S A s.heap H locs → lv_has ls 8 [(0, .ref h0), (1, .int y1), (2, .int y2), (3, .int y3), (4, .int y4), (5, .int y5)] → k74 y1 y2 y3 y4 y5 v0_newG v0_newL v0_newS c10 = some o → G 0 0 H locs (F0 m 74 ls [])), ∀ (y1 : Int32) (y2 : Int32) (y3 : Int32) (y5 : Int32) (z0 : Int32) (v0_newG : Int32) (v0_newL : Int32) (v0_newS : Int32) (c10 : (Nat → Int32)) (H : Heap) (locs : List Loc) (ls : Array Slot), va_P (dC, dI) vwCl (wX11_failCost h0 h1 h2 h3 h4 h5 h6 h7 h8 h9 h10 h11 kc1 kc2 kc3 kc4 kc5 kc6 kc7 kc8 kc9 kc10 kc11 V0 v0_newG v0_newL v0_newS c1 c2 c3 c4 c5 c6 c7 c8 c9 c10 c11) H → va_D A (wX11_failCost h0 h1 h2 h3 h4 h5 h6 h7 h8 h9 h10 h11 kc1 kc2 kc3 kc4 kc5 kc6 kc7 kc8 kc9 kc10 kc11 V0 v0_newG v0_newL v0_newS c1 c2 c3 c4 c5 c6 c7 c8 c9 c10 c11) → va_S A s.heap H locs → lv_has ls 8 [(0, .ref h0), (1, .int y1), (2, .int y2), (3, .int y3), (5, .int y5)] → fX11_failCost_p132 c1 c2 c3 c4 c5 c6 c7 c8 c9 c11 k74 y1 y2 y3 y5 z0 v0_newG v0_newL v0_newS c10 = some o → G 0 0 H locs (F0 m 132 ls [.int z0]) := by
    intro k74 hk74 y1 y2 y3 y5 z0 v0_newG v0_newL v0_newS c10 H locs ls hP hD hS hl hf
    refine (hG _ _ _ _ _).mpr ?_
    unfold fX11_failCost_p132 at hf
    refine lv_istore (lv' := [(4, .int z0), (0, .ref h0), (1, .int y1), (2, .int y2), (3, .int y3), (5, .int y5)]) hx hb dX11_failCost_132 hl (by decide) rfl (fun ls hl => ?_)
    obtain ⟨x13, e13⟩ : ∃ y : Int32, y = y5 + 1 := ⟨_, rfl⟩
    replace hf := nm_at hf e13
    refine lv_iinc (v := x13) (lv' := [(5, .int x13), (4, .int z0), (0, .ref h0), (1, .int y1), (2, .int y2), (3, .int y3)]) hx hb dX11_failCost_134 hl (k := 5) rfl (by rw [e13]; rfl) (by decide) rfl (fun ls hl => ?_)
    refine lv_goto (tgt := 74) hx hb dX11_failCost_137 (by decide) ?_
    exact (hG _ _ _ _ _).mp (hk74 y1 y2 y3 z0 x13 v0_newG v0_newL v0_newS c10 H locs ls (hP.sub [0, 1, 2, 3, 4, 5, 6, 7, 8, 9, 10, 11] rfl) (hD.sub [0, 1, 2, 3, 4, 5, 6, 7, 8, 9, 10, 11] (by decide) rfl) hS (lv_sub hl [2, 3, 4, 5, 1, 0] rfl) hf)
  have B74 : ∀ (k74 : Int32 → Int32 → Int32 → Int32 → Int32 → Int32 → Int32 → Int32 → (Nat → Int32) → Option (Int32 × Int32 × Int32 × Int32 × (Nat → Int32))) (hk74 : ∀ (y1 : Int32) (y2 : Int32) (y3 : Int32) (y4 : Int32) (y5 : Int32) (v0_newG : Int32) (v0_newL : Int32) (v0_newS : Int32) (c10 : (Nat → Int32)) (H : Heap) (locs : List Loc) (ls : Array Slot), va_P (dC, dI) vwCl (wX11_failCost h0 h1 h2 h3 h4 h5 h6 h7 h8 h9 h10 h11 kc1 kc2 kc3 kc4 kc5 kc6 kc7 kc8 kc9 kc10 kc11 V0 v0_newG v0_newL v0_newS c1 c2 c3 c4 c5 c6 c7 c8 c9 c10 c11) H → va_D A (wX11_failCost h0 h1 h2 h3 h4 h5 h6 h7 h8 h9 h10 h11 kc1 kc2 kc3 kc4 kc5 kc6 kc7 kc8 kc9 kc10 kc11 V0 v0_newG v0_newL v0_newS c1 c2 c3 c4 c5 c6 c7 c8 c9 c10 c11) → va_S A s.heap H locs → lv_has ls 8 [(0, .ref h0), (1, .int y1), (2, .int y2), (3, .int y3), (4, .int y4), (5, .int y5)] → k74 y1 y2 y3 y4 y5 v0_newG v0_newL v0_newS c10 = some o → G 0 0 H locs (F0 m 74 ls [])), ∀ (y1 : Int32) (y2 : Int32) (y3 : Int32) (y4 : Int32) (y5 : Int32) (v0_newG : Int32) (v0_newL : Int32) (v0_newS : Int32) (c10 : (Nat → Int32)) (H : Heap) (locs : List Loc) (ls : Array Slot), va_P (dC, dI) vwCl (wX11_failCost h0 h1 h2 h3 h4 h5 h6 h7 h8 h9 h10 h11 kc1 kc2 kc3 kc4 kc5 kc6 kc7 kc8 kc9 kc10 kc11 V0 v0_newG v0_newL v0_newS c1 c2 c3 c4 c5 c6 c7 c8 c9 c10 c11) H → va_D A (wX11_failCost h0 h1 h2 h3 h4 h5 h6 h7 h8 h9 h10 h11 kc1 kc2 kc3 kc4 kc5 kc6 kc7 kc8 kc9 kc10 kc11 V0 v0_newG v0_newL v0_newS c1 c2 c3 c4 c5 c6 c7 c8 c9 c10 c11) → va_S A s.heap H locs → lv_has ls 8 [(0, .ref h0), (1, .int y1), (2, .int y2), (3, .int y3), (4, .int y4), (5, .int y5)] → fX11_failCost_b74 c1 c2 c3 c4 c5 c6 c7 c8 c9 c11  k74 y1 y2 y3 y4 y5 v0_newG v0_newL v0_newS c10 = some o → G 0 0 H locs (F0 m 74 ls []) := by
    intro  k74 hk74 y1 y2 y3 y4 y5 v0_newG v0_newL v0_newS c10 H locs ls hP hD hS hl hf
    refine (hG _ _ _ _ _).mpr ?_
    unfold fX11_failCost_b74 at hf
    refine lv_iload hx hb dX11_failCost_74 (lv_at hl 5 rfl) ?_
    refine lv_bipush (v := 8) hx hb dX11_failCost_76 (by decide +kernel) ?_
    refine lv_icmp_ge (tgt := 140) hx hb dX11_failCost_78 (by decide) (fun cq14 => ?_) (fun cq14 => ?_)
    · replace hf := if_at hf cq14
      refine lv_iconst (v := 1) hx hb dX11_failCost_140 (by decide +kernel) ?_
      refine lv_iload hx hb dX11_failCost_141 (lv_at hl 4 rfl) ?_
      obtain ⟨o15, e15, hf⟩ := ob_some hf
      refine kSi (As := [.int 1, .int y4]) (rest := []) ⟨hx, hb, hml, hown, hts⟩ (mX11_sum l dC dI H.size base 1 y4 o15 e15) (va_cwS 2 hts (gTS q367 q368 q5 q369) rfl rfl rfl (by decide +kernel) ⟨Nat.le_of_ble_eq_true rfl, Nat.le_of_ble_eq_true rfl⟩) hK hP hD hS hA hE hAB [] [0, 1, 2, 3, 4, 5, 6, 7, 8, 9, 10, 11] [] (wr := (wX11_failCost h0 h1 h2 h3 h4 h5 h6 h7 h8 h9 h10 h11 kc1 kc2 kc3 kc4 kc5 kc6 kc7 kc8 kc9 kc10 kc11 V0 v0_newG v0_newL v0_newS c1 c2 c3 c4 c5 c6 c7 c8 c9 c10 c11)) rfl rfl (by decide) (by decide) (by decide) rfl rfl hl.1 rfl (Nat.le_of_ble_eq_true rfl) dX11_failCost_143 ⟨Nat.zero_le _, Nat.zero_le _⟩ (fun r15 u15 H locs hw15 hP hD hS => ?_)
      obtain ⟨hw151, hw152⟩ := hw15
      subst hw151 hw152
      have hP : va_P (dC, dI) vwCl (wX11_failCost h0 h1 h2 h3 h4 h5 h6 h7 h8 h9 h10 h11 kc1 kc2 kc3 kc4 kc5 kc6 kc7 kc8 kc9 kc10 kc11 V0 v0_newG v0_newL v0_newS c1 c2 c3 c4 c5 c6 c7 c8 c9 c10 c11) H := hP.sub [0, 1, 2, 3, 4, 5, 6, 7, 8, 9, 10, 11] rfl
      have hD : va_D A (wX11_failCost h0 h1 h2 h3 h4 h5 h6 h7 h8 h9 h10 h11 kc1 kc2 kc3 kc4 kc5 kc6 kc7 kc8 kc9 kc10 kc11 V0 v0_newG v0_newL v0_newS c1 c2 c3 c4 c5 c6 c7 c8 c9 c10 c11) := hD.sub [0, 1, 2, 3, 4, 5, 6, 7, 8, 9, 10, 11] (by decide) rfl
      have hf1 := Option.some.inj hf
      subst hf1
      have hP9 := hP.sub (ws' := (wX11_failCost h0 h1 h2 h3 h4 h5 h6 h7 h8 h9 h10 h11 kc1 kc2 kc3 kc4 kc5 kc6 kc7 kc8 kc9 kc10 kc11 V0 v0_newG v0_newL v0_newS c1 c2 c3 c4 c5 c6 c7 c8 c9 c10 c11)) [0, 1, 2, 3, 4, 5, 6, 7, 8, 9, 10, 11] rfl
      have hD9 := hD.sub (ws' := (wX11_failCost h0 h1 h2 h3 h4 h5 h6 h7 h8 h9 h10 h11 kc1 kc2 kc3 kc4 kc5 kc6 kc7 kc8 kc9 kc10 kc11 V0 v0_newG v0_newL v0_newS c1 c2 c3 c4 c5 c6 c7 c8 c9 c10 c11)) [0, 1, 2, 3, 4, 5, 6, 7, 8, 9, 10, 11] (by decide) rfl
      exact W.iret (v := o15.1) hx hb hr (fun t ht hW => ⟨⟨o15.1, (v0_newG, v0_newL, v0_newS, c10), rfl, ⟨rfl, rfl⟩, by rw [ht]; exact hP9, va_K.moved hW.alike hK, hD9⟩, hS.F ht⟩) hS.2.2 dX11_failCost_146
    · replace hf := if_no hf cq14
      refine lv_aload_n hx hb dX11_failCost_81 rfl (lv_at hl 0 rfl) ?_
      refine lv_iload_n hx hb dX11_failCost_82 rfl (lv_at hl 1 rfl) ?_
      refine lv_aload_n hx hb dX11_failCost_83 rfl (lv_at hl 0 rfl) ?_
      refine va_get (D := (dC, dI)) (ci := 11) (v := .ref h5) (C := RX11) (T := TX11) (N := 71) hx hb hts inlX11 hown hK hP 0 rfl rfl 35 (by decide) w5_ (fun _ h9 => h9) rfl dX11_failCost_84 ?_
      refine lv_aload_n hx hb dX11_failCost_87 rfl (lv_at hl 0 rfl) ?_
      refine va_get (D := (dC, dI)) (ci := 11) (v := .ref h4) (C := RX11) (T := TX11) (N := 71) hx hb hts inlX11 hown hK hP 0 rfl rfl 39 (by decide) w6_ (fun _ h9 => h9) rfl dX11_failCost_88 ?_
      refine lv_iload_n hx hb dX11_failCost_91 rfl (lv_at hl 2 rfl) ?_
      have b16 := bd_in hf
      replace hf := bd_k hf
      refine va_iald hx hb hK hP 4 3 rfl rfl b16 dX11_failCost_92 ?_
      refine lv_topi (fun x17 e17 => ?_)
      replace hf := nm_at hf e17
      have b18 := bd_in hf
      replace hf := bd_k hf
      refine va_iald hx hb hK hP 5 4 rfl rfl b18 dX11_failCost_93 ?_
      refine lv_topi (fun x19 e19 => ?_)
      replace hf := nm_at hf e19
      refine lv_iconst (v := 0) hx hb dX11_failCost_94 (by decide +kernel) ?_
      refine lv_iload hx hb dX11_failCost_95 (lv_at hl 5 rfl) ?_
      obtain ⟨o20, e20, hf⟩ := ob_some hf
      refine kVi (As := [.int y1, .int x19, .int 0, .int y5]) (rest := []) ⟨hx, hb, hml, hown, hts⟩ (mX11_toEnd l dC dI h0 h6 kc6 H.size base y1 x19 0 y5 c6 (fun k => match k with | 35 => .ref h5 | 36 => .ref h1 | 39 => .ref h4 | 40 => .ref h11 | 41 => .ref h2 | 44 => .ref h7 | 45 => .ref h8 | 46 => .ref h9 | 59 => .ref h10 | 61 => .ref h3 | 62 => .int v0_newG | 63 => .int v0_newL | 64 => .int v0_newS | k => V0 k) o20 e20) (cwV 4 hts (gTV q1122 q1123 q1124 q5 q1125) rfl rfl rfl (by decide +kernel) ⟨Nat.le_of_ble_eq_true rfl, Nat.le_of_ble_eq_true rfl⟩) hK hP hD hS hA hE hAB [0, 6] [1, 2, 3, 4, 5, 7, 8, 9, 10, 11] [5] (wr := [(h1, .inl (kc1, 40, .inl c1)), (h2, .inl (kc2, 40, .inl c2)), (h3, .inl (kc3, 1280, .inl c3)), (h4, .inl (kc4, 40, .inl c4)), (h5, .inl (kc5, 6, .inl c5)), (h7, .inl (kc7, 40, .inl c7)), (h8, .inl (kc8, 40, .inl c8)), (h9, .inl (kc9, 700, .inl c9)), (h10, .inl (kc10, 700, .inl c10)), (h11, .inl (kc11, 80, .inl c11))]) rfl rfl (by decide) (by decide) (by decide) rfl (ci := 11) (q0 := 0) rfl rfl rfl rfl hl.1 rfl (Nat.le_of_ble_eq_true rfl) dX11_failCost_97 ⟨Nat.zero_le _, Nat.zero_le _⟩ (fun r20 u20 H locs hw20 hP hD hS => ?_)
      obtain ⟨hw201, hw202⟩ := hw20
      subst hw201 hw202
      have hP : va_P (dC, dI) vwCl (wX11_failCost h0 h1 h2 h3 h4 h5 h6 h7 h8 h9 h10 h11 kc1 kc2 kc3 kc4 kc5 kc6 kc7 kc8 kc9 kc10 kc11 V0 v0_newG v0_newL v0_newS c1 c2 c3 c4 c5 c6 c7 c8 c9 c10 c11) H := hP.sub [10, 0, 1, 2, 3, 4, 11, 5, 6, 7, 8, 9] rfl
      have hD : va_D A (wX11_failCost h0 h1 h2 h3 h4 h5 h6 h7 h8 h9 h10 h11 kc1 kc2 kc3 kc4 kc5 kc6 kc7 kc8 kc9 kc10 kc11 V0 v0_newG v0_newL v0_newS c1 c2 c3 c4 c5 c6 c7 c8 c9 c10 c11) := hD.sub [10, 0, 1, 2, 3, 4, 11, 5, 6, 7, 8, 9] (by decide) rfl
      refine lv_aload_n hx hb dX11_failCost_100 rfl (lv_at hl 0 rfl) ?_
      refine lv_iload hx hb dX11_failCost_101 (lv_at hl 5 rfl) ?_
      refine lv_aload_n hx hb dX11_failCost_103 rfl (lv_at hl 0 rfl) ?_
      refine va_get (D := (dC, dI)) (ci := 11) (v := .ref h2) (C := RX11) (T := TX11) (N := 71) hx hb hts inlX11 hown hK hP 0 rfl rfl 41 (by decide) w7_ (fun _ h9 => h9) rfl dX11_failCost_104 ?_
      refine lv_iload_n hx hb dX11_failCost_107 rfl (lv_at hl 2 rfl) ?_
      have b21 := bd_in hf
      replace hf := bd_k hf
      refine va_iald hx hb hK hP 2 1 rfl rfl b21 dX11_failCost_108 ?_
      refine lv_topi (fun x22 e22 => ?_)
      replace hf := nm_at hf e22
      refine lv_iload_n hx hb dX11_failCost_109 rfl (lv_at hl 3 rfl) ?_
      obtain ⟨o23, e23, hf⟩ := ob_some hf
      refine kVi (As := [.int y5, .int x22, .int y3]) (rest := [.int o20.1]) ⟨hx, hb, hml, hown, hts⟩ (mX11_toFail l dC dI h0 h3 kc3 H.size base y5 x22 y3 c3 (fun k => match k with | 35 => .ref h5 | 36 => .ref h1 | 39 => .ref h4 | 40 => .ref h11 | 41 => .ref h2 | 44 => .ref h7 | 45 => .ref h8 | 46 => .ref h9 | 59 => .ref h10 | 60 => .ref h6 | 62 => .int v0_newG | 63 => .int v0_newL | 64 => .int v0_newS | k => V0 k) o23 e23) (cwV 3 hts (gTV q1138 q1139 q1140 q5 q1141) rfl rfl rfl (by decide +kernel) ⟨Nat.le_of_ble_eq_true rfl, Nat.le_of_ble_eq_true rfl⟩) hK hP hD hS hA hE hAB [0, 3] [1, 2, 4, 5, 6, 7, 8, 9, 10, 11] [2] (wr := [(h1, .inl (kc1, 40, .inl c1)), (h2, .inl (kc2, 40, .inl c2)), (h4, .inl (kc4, 40, .inl c4)), (h5, .inl (kc5, 6, .inl c5)), (h6, .inl (kc6, 10240, .inl c6)), (h7, .inl (kc7, 40, .inl c7)), (h8, .inl (kc8, 40, .inl c8)), (h9, .inl (kc9, 700, .inl c9)), (h10, .inl (kc10, 700, .inl c10)), (h11, .inl (kc11, 80, .inl c11))]) rfl rfl (by decide) (by decide) (by decide) rfl (ci := 11) (q0 := 0) rfl rfl rfl rfl hl.1 rfl (Nat.le_of_ble_eq_true rfl) dX11_failCost_110 ⟨Nat.zero_le _, Nat.zero_le _⟩ (fun r23 u23 H locs hw23 hP hD hS => ?_)
      obtain ⟨hw231, hw232⟩ := hw23
      subst hw231 hw232
      have hP : va_P (dC, dI) vwCl (wX11_failCost h0 h1 h2 h3 h4 h5 h6 h7 h8 h9 h10 h11 kc1 kc2 kc3 kc4 kc5 kc6 kc7 kc8 kc9 kc10 kc11 V0 v0_newG v0_newL v0_newS c1 c2 c3 c4 c5 c6 c7 c8 c9 c10 c11) H := hP.sub [10, 0, 1, 11, 2, 3, 4, 5, 6, 7, 8, 9] rfl
      have hD : va_D A (wX11_failCost h0 h1 h2 h3 h4 h5 h6 h7 h8 h9 h10 h11 kc1 kc2 kc3 kc4 kc5 kc6 kc7 kc8 kc9 kc10 kc11 V0 v0_newG v0_newL v0_newS c1 c2 c3 c4 c5 c6 c7 c8 c9 c10 c11) := hD.sub [10, 0, 1, 11, 2, 3, 4, 5, 6, 7, 8, 9] (by decide) rfl
      obtain ⟨o24, e24, hf⟩ := ob_some hf
      refine kSi (As := [.int o20.1, .int o23.1]) (rest := []) ⟨hx, hb, hml, hown, hts⟩ (mX11_sum l dC dI H.size base o20.1 o23.1 o24 e24) (va_cwS 2 hts (gTS q367 q368 q5 q369) rfl rfl rfl (by decide +kernel) ⟨Nat.le_of_ble_eq_true rfl, Nat.le_of_ble_eq_true rfl⟩) hK hP hD hS hA hE hAB [] [0, 1, 2, 3, 4, 5, 6, 7, 8, 9, 10, 11] [] (wr := (wX11_failCost h0 h1 h2 h3 h4 h5 h6 h7 h8 h9 h10 h11 kc1 kc2 kc3 kc4 kc5 kc6 kc7 kc8 kc9 kc10 kc11 V0 v0_newG v0_newL v0_newS c1 c2 c3 c4 c5 c6 c7 c8 c9 c10 c11)) rfl rfl (by decide) (by decide) (by decide) rfl rfl hl.1 rfl (Nat.le_of_ble_eq_true rfl) dX11_failCost_113 ⟨Nat.zero_le _, Nat.zero_le _⟩ (fun r24 u24 H locs hw24 hP hD hS => ?_)
      obtain ⟨hw241, hw242⟩ := hw24
      subst hw241 hw242
      have hP : va_P (dC, dI) vwCl (wX11_failCost h0 h1 h2 h3 h4 h5 h6 h7 h8 h9 h10 h11 kc1 kc2 kc3 kc4 kc5 kc6 kc7 kc8 kc9 kc10 kc11 V0 v0_newG v0_newL v0_newS c1 c2 c3 c4 c5 c6 c7 c8 c9 c10 c11) H := hP.sub [0, 1, 2, 3, 4, 5, 6, 7, 8, 9, 10, 11] rfl
      have hD : va_D A (wX11_failCost h0 h1 h2 h3 h4 h5 h6 h7 h8 h9 h10 h11 kc1 kc2 kc3 kc4 kc5 kc6 kc7 kc8 kc9 kc10 kc11 V0 v0_newG v0_newL v0_newS c1 c2 c3 c4 c5 c6 c7 c8 c9 c10 c11) := hD.sub [0, 1, 2, 3, 4, 5, 6, 7, 8, 9, 10, 11] (by decide) rfl
      refine lv_istore (lv' := [(6, .int o24.1), (0, .ref h0), (1, .int y1), (2, .int y2), (3, .int y3), (4, .int y4), (5, .int y5)]) hx hb dX11_failCost_116 hl (by decide) rfl (fun ls hl => ?_)
      refine lv_iload hx hb dX11_failCost_118 (lv_at hl 0 rfl) ?_
      refine lv_iload hx hb dX11_failCost_120 (lv_at hl 5 rfl) ?_
      refine lv_icmp_ge (tgt := 130) hx hb dX11_failCost_122 (by decide) (fun cq25 => ?_) (fun cq25 => ?_)
      · replace hf := if_at hf cq25
        refine lv_iload hx hb dX11_failCost_130 (lv_at hl 5 rfl) ?_
        exact (hG _ _ _ _ _).mp (J132 k74 hk74 y1 y2 y3 y5 y4 v0_newG v0_newL v0_newS c10 H locs ls (hP.sub [0, 1, 2, 3, 4, 5, 6, 7, 8, 9, 10, 11] rfl) (hD.sub [0, 1, 2, 3, 4, 5, 6, 7, 8, 9, 10, 11] (by decide) rfl) hS (lv_sub hl [1, 2, 3, 4, 6] rfl) hf)
      · replace hf := if_no hf cq25
        refine lv_iload hx hb dX11_failCost_125 (lv_at hl 0 rfl) ?_
        refine lv_goto (tgt := 132) hx hb dX11_failCost_127 (by decide) ?_
        exact (hG _ _ _ _ _).mp (J132 k74 hk74 y1 y2 y3 y5 o24.1 v0_newG v0_newL v0_newS c10 H locs ls (hP.sub [0, 1, 2, 3, 4, 5, 6, 7, 8, 9, 10, 11] rfl) (hD.sub [0, 1, 2, 3, 4, 5, 6, 7, 8, 9, 10, 11] (by decide) rfl) hS (lv_sub hl [1, 2, 3, 4, 6] rfl) hf)
  have L74 : ∀ (n : Nat), ∀ (y1 : Int32) (y2 : Int32) (y3 : Int32) (y4 : Int32) (y5 : Int32) (v0_newG : Int32) (v0_newL : Int32) (v0_newS : Int32) (c10 : (Nat → Int32)) (H : Heap) (locs : List Loc) (ls : Array Slot), va_P (dC, dI) vwCl (wX11_failCost h0 h1 h2 h3 h4 h5 h6 h7 h8 h9 h10 h11 kc1 kc2 kc3 kc4 kc5 kc6 kc7 kc8 kc9 kc10 kc11 V0 v0_newG v0_newL v0_newS c1 c2 c3 c4 c5 c6 c7 c8 c9 c10 c11) H → va_D A (wX11_failCost h0 h1 h2 h3 h4 h5 h6 h7 h8 h9 h10 h11 kc1 kc2 kc3 kc4 kc5 kc6 kc7 kc8 kc9 kc10 kc11 V0 v0_newG v0_newL v0_newS c1 c2 c3 c4 c5 c6 c7 c8 c9 c10 c11) → va_S A s.heap H locs → lv_has ls 8 [(0, .ref h0), (1, .int y1), (2, .int y2), (3, .int y3), (4, .int y4), (5, .int y5)] → fX11_failCost_l74 c1 c2 c3 c4 c5 c6 c7 c8 c9 c11  n y1 y2 y3 y4 y5 v0_newG v0_newL v0_newS c10 = some o → G 0 0 H locs (F0 m 74 ls []) := by
    intro  n
    induction n with
    | zero => intro y1 y2 y3 y4 y5 v0_newG v0_newL v0_newS c10 H locs ls _ _ _ _ hf; cases hf
    | succ n ih => exact B74  _ ih
  refine (hG _ _ _ _ _).mpr ?_
  obtain ⟨H, hH⟩ : ∃ H, H = s.heap := ⟨_, rfl⟩
  have hS : va_S A s.heap H [] := by rw [hH]; exact hS
  rw [← hH] at hP ⊢
  generalize ([] : List Loc) = locs at hS ⊢
  unfold fX11_failCost at hf
  refine lv_aload_n hx hb dX11_failCost_0 rfl (lv_at hl 0 rfl) ?_
  refine va_get (D := (dC, dI)) (ci := 11) (v := .ref h1) (C := RX11) (T := TX11) (N := 71) hx hb hts inlX11 hown hK hP 0 rfl rfl 36 (by decide) w4_ (fun _ h9 => h9) rfl dX11_failCost_1 ?_
  refine lv_iload_n hx hb dX11_failCost_4 rfl (lv_at hl 2 rfl) ?_
  have b26 := bd_in hf
  replace hf := bd_k hf
  refine va_iald hx hb hK hP 1 0 rfl rfl b26 dX11_failCost_5 ?_
  refine lv_topi (fun x27 e27 => ?_)
  replace hf := nm_at hf e27
  refine lv_bipush (v := 6) hx hb dX11_failCost_6 (by decide +kernel) ?_
  refine lv_icmp_ne (tgt := 14) hx hb dX11_failCost_8 (by decide) (fun cq28 => ?_) (fun cq28 => ?_)
  · replace hf := if_no hf cq28
    refine lv_aload_n hx hb dX11_failCost_14 rfl (lv_at hl 0 rfl) ?_
    refine va_get (D := (dC, dI)) (ci := 11) (v := .ref h1) (C := RX11) (T := TX11) (N := 71) hx hb hts inlX11 hown hK hP 0 rfl rfl 36 (by decide) w4_ (fun _ h9 => h9) rfl dX11_failCost_15 ?_
    refine lv_iload_n hx hb dX11_failCost_18 rfl (lv_at hl 2 rfl) ?_
    have b29 := bd_in hf
    replace hf := bd_k hf
    refine va_iald hx hb hK hP 1 0 rfl rfl b29 dX11_failCost_19 ?_
    refine lv_topi (fun x30 e30 => ?_)
    replace hf := nm_at hf e30
    refine lv_bipush (v := 7) hx hb dX11_failCost_20 (by decide +kernel) ?_
    refine lv_icmp_ne (tgt := 42) hx hb dX11_failCost_22 (by decide) (fun cq31 => ?_) (fun cq31 => ?_)
    · replace hf := if_no hf cq31
      refine lv_aload_n hx hb dX11_failCost_42 rfl (lv_at hl 0 rfl) ?_
      refine va_get (D := (dC, dI)) (ci := 11) (v := .ref h1) (C := RX11) (T := TX11) (N := 71) hx hb hts inlX11 hown hK hP 0 rfl rfl 36 (by decide) w4_ (fun _ h9 => h9) rfl dX11_failCost_43 ?_
      refine lv_iload_n hx hb dX11_failCost_46 rfl (lv_at hl 2 rfl) ?_
      have b32 := bd_in hf
      replace hf := bd_k hf
      refine va_iald hx hb hK hP 1 0 rfl rfl b32 dX11_failCost_47 ?_
      refine lv_topi (fun x33 e33 => ?_)
      replace hf := nm_at hf e33
      refine lv_iconst (v := 3) hx hb dX11_failCost_48 (by decide +kernel) ?_
      refine lv_icmp_ne (tgt := 147) hx hb dX11_failCost_49 (by decide) (fun cq34 => ?_) (fun cq34 => ?_)
      · replace hf := if_no hf cq34
        refine lv_aload_n hx hb dX11_failCost_147 rfl (lv_at hl 0 rfl) ?_
        refine lv_iload_n hx hb dX11_failCost_148 rfl (lv_at hl 2 rfl) ?_
        refine lv_iload_n hx hb dX11_failCost_149 rfl (lv_at hl 1 rfl) ?_
        refine lv_iload_n hx hb dX11_failCost_150 rfl (lv_at hl 3 rfl) ?_
        obtain ⟨o35, e35, hf⟩ := ob_some hf
        refine kVi (As := [.int a1, .int a0, .int a2]) (rest := []) ⟨hx, hb, hml, hown, hts⟩ (mX11_can l dC dI h0 h7 h8 h9 h10 kc7 kc8 kc9 kc10 H.size base a1 a0 a2 c7 c8 c9 c10 (fun k => match k with | 35 => .ref h5 | 36 => .ref h1 | 39 => .ref h4 | 40 => .ref h11 | 41 => .ref h2 | 60 => .ref h6 | 61 => .ref h3 | 62 => .int v0_newG | 63 => .int v0_newL | 64 => .int v0_newS | k => V0 k) o35 e35) (cwV 3 hts (gTV q1126 q1127 q1128 q5 q1129) rfl rfl rfl (by decide +kernel) ⟨Nat.le_of_ble_eq_true rfl, Nat.le_of_ble_eq_true rfl⟩) hK hP hD hS hA hE hAB [0, 7, 8, 9, 10] [1, 2, 3, 4, 5, 6, 11] [6, 7, 8, 9] (wr := [(h1, .inl (kc1, 40, .inl c1)), (h2, .inl (kc2, 40, .inl c2)), (h3, .inl (kc3, 1280, .inl c3)), (h4, .inl (kc4, 40, .inl c4)), (h5, .inl (kc5, 6, .inl c5)), (h6, .inl (kc6, 10240, .inl c6)), (h11, .inl (kc11, 80, .inl c11))]) rfl rfl (by decide) (by decide) (by decide) rfl (ci := 11) (q0 := 0) rfl rfl rfl rfl hl.1 rfl (Nat.le_of_ble_eq_true rfl) dX11_failCost_151 ⟨Nat.zero_le _, Nat.zero_le _⟩ (fun r35 u35 H locs hw35 hP hD hS => ?_)
        obtain ⟨hw351, hw352⟩ := hw35
        subst hw351 hw352
        have hP : va_P (dC, dI) vwCl (wX11_failCost h0 h1 h2 h3 h4 h5 h6 h7 h8 h9 h10 h11 kc1 kc2 kc3 kc4 kc5 kc6 kc7 kc8 kc9 kc10 kc11 V0 v0_newG v0_newL v0_newS c1 c2 c3 c4 c5 c6 c7 c8 c9 o35.2 c11) H := hP.sub [7, 0, 1, 2, 3, 4, 5, 8, 9, 10, 11, 6] rfl
        have hD : va_D A (wX11_failCost h0 h1 h2 h3 h4 h5 h6 h7 h8 h9 h10 h11 kc1 kc2 kc3 kc4 kc5 kc6 kc7 kc8 kc9 kc10 kc11 V0 v0_newG v0_newL v0_newS c1 c2 c3 c4 c5 c6 c7 c8 c9 o35.2 c11) := hD.sub [7, 0, 1, 2, 3, 4, 5, 8, 9, 10, 11, 6] (by decide) rfl
        refine lv_istore (lv' := [(4, .int o35.1), (0, .ref h0), (1, .int a0), (2, .int a1), (3, .int a2)]) hx hb dX11_failCost_154 hl (by decide) rfl (fun ls hl => ?_)
        refine lv_aload_n hx hb dX11_failCost_156 rfl (lv_at hl 1 rfl) ?_
        refine va_get (D := (dC, dI)) (ci := 11) (v := .ref h1) (C := RX11) (T := TX11) (N := 71) hx hb hts inlX11 hown hK hP 0 rfl rfl 36 (by decide) w4_ (fun _ h9 => h9) rfl dX11_failCost_157 ?_
        refine lv_iload_n hx hb dX11_failCost_160 rfl (lv_at hl 3 rfl) ?_
        have b36 := bd_in hf
        replace hf := bd_k hf
        refine va_iald hx hb hK hP 1 0 rfl rfl b36 dX11_failCost_161 ?_
        refine lv_topi (fun x37 e37 => ?_)
        replace hf := nm_at hf e37
        refine lv_iconst (v := 4) hx hb dX11_failCost_162 (by decide +kernel) ?_
        refine lv_icmp_ne (tgt := 176) hx hb dX11_failCost_163 (by decide) (fun cq38 => ?_) (fun cq38 => ?_)
        · replace hf := if_no hf cq38
          exact (hG _ _ _ _ _).mp (J176 a0 a1 a2 o35.1 v0_newG v0_newL v0_newS o35.2 H locs ls (hP.sub [0, 1, 2, 3, 4, 5, 6, 7, 8, 9, 10, 11] rfl) (hD.sub [0, 1, 2, 3, 4, 5, 6, 7, 8, 9, 10, 11] (by decide) rfl) hS (lv_sub hl [1, 2, 3, 4, 0] rfl) hf)
        · replace hf := if_at hf cq38
          refine lv_iload hx hb dX11_failCost_166 (lv_at hl 0 rfl) ?_
          refine lv_iconst (v := 1) hx hb dX11_failCost_168 (by decide +kernel) ?_
          refine lv_iand hx hb dX11_failCost_169 ?_
          refine lv_topi (fun x39 e39 => ?_)
          replace hf := nm_at hf e39
          refine lv_iconst (v := 1) hx hb dX11_failCost_170 (by decide +kernel) ?_
          refine lv_icmp_ne (tgt := 176) hx hb dX11_failCost_171 (by decide) (fun cq40 => ?_) (fun cq40 => ?_)
          · replace hf := if_no hf cq40
            exact (hG _ _ _ _ _).mp (J176 a0 a1 a2 o35.1 v0_newG v0_newL v0_newS o35.2 H locs ls (hP.sub [0, 1, 2, 3, 4, 5, 6, 7, 8, 9, 10, 11] rfl) (hD.sub [0, 1, 2, 3, 4, 5, 6, 7, 8, 9, 10, 11] (by decide) rfl) hS (lv_sub hl [1, 2, 3, 4, 0] rfl) hf)
          · replace hf := if_at hf cq40
            refine lv_iconst (v := 1) hx hb dX11_failCost_174 (by decide +kernel) ?_
            have hf1 := Option.some.inj hf
            subst hf1
            have hP9 := hP.sub (ws' := (wX11_failCost h0 h1 h2 h3 h4 h5 h6 h7 h8 h9 h10 h11 kc1 kc2 kc3 kc4 kc5 kc6 kc7 kc8 kc9 kc10 kc11 V0 v0_newG v0_newL v0_newS c1 c2 c3 c4 c5 c6 c7 c8 c9 o35.2 c11)) [0, 1, 2, 3, 4, 5, 6, 7, 8, 9, 10, 11] rfl
            have hD9 := hD.sub (ws' := (wX11_failCost h0 h1 h2 h3 h4 h5 h6 h7 h8 h9 h10 h11 kc1 kc2 kc3 kc4 kc5 kc6 kc7 kc8 kc9 kc10 kc11 V0 v0_newG v0_newL v0_newS c1 c2 c3 c4 c5 c6 c7 c8 c9 o35.2 c11)) [0, 1, 2, 3, 4, 5, 6, 7, 8, 9, 10, 11] (by decide) rfl
            exact W.iret (v := 1) hx hb hr (fun t ht hW => ⟨⟨1, (v0_newG, v0_newL, v0_newS, o35.2), rfl, ⟨rfl, rfl⟩, by rw [ht]; exact hP9, va_K.moved hW.alike hK, hD9⟩, hS.F ht⟩) hS.2.2 dX11_failCost_175
      · replace hf := if_at hf cq34
        refine lv_aload_n hx hb dX11_failCost_52 rfl (lv_at hl 0 rfl) ?_
        refine lv_iload_n hx hb dX11_failCost_53 rfl (lv_at hl 1 rfl) ?_
        refine lv_aload_n hx hb dX11_failCost_54 rfl (lv_at hl 0 rfl) ?_
        refine va_get (D := (dC, dI)) (ci := 11) (v := .ref h5) (C := RX11) (T := TX11) (N := 71) hx hb hts inlX11 hown hK hP 0 rfl rfl 35 (by decide) w5_ (fun _ h9 => h9) rfl dX11_failCost_55 ?_
        refine lv_aload_n hx hb dX11_failCost_58 rfl (lv_at hl 0 rfl) ?_
        refine va_get (D := (dC, dI)) (ci := 11) (v := .ref h4) (C := RX11) (T := TX11) (N := 71) hx hb hts inlX11 hown hK hP 0 rfl rfl 39 (by decide) w6_ (fun _ h9 => h9) rfl dX11_failCost_59 ?_
        refine lv_iload_n hx hb dX11_failCost_62 rfl (lv_at hl 2 rfl) ?_
        have b41 := bd_in hf
        replace hf := bd_k hf
        refine va_iald hx hb hK hP 4 3 rfl rfl b41 dX11_failCost_63 ?_
        refine lv_topi (fun x42 e42 => ?_)
        replace hf := nm_at hf e42
        have b43 := bd_in hf
        replace hf := bd_k hf
        refine va_iald hx hb hK hP 5 4 rfl rfl b43 dX11_failCost_64 ?_
        refine lv_topi (fun x44 e44 => ?_)
        replace hf := nm_at hf e44
        refine lv_iconst (v := 0) hx hb dX11_failCost_65 (by decide +kernel) ?_
        obtain ⟨o45, e45, hf⟩ := ob_some hf
        refine kVi (As := [.int a0, .int x44, .int 0]) (rest := []) ⟨hx, hb, hml, hown, hts⟩ (mX11_toFail l dC dI h0 h3 kc3 H.size base a0 x44 0 c3 (fun k => match k with | 35 => .ref h5 | 36 => .ref h1 | 39 => .ref h4 | 40 => .ref h11 | 41 => .ref h2 | 44 => .ref h7 | 45 => .ref h8 | 46 => .ref h9 | 59 => .ref h10 | 60 => .ref h6 | 62 => .int v0_newG | 63 => .int v0_newL | 64 => .int v0_newS | k => V0 k) o45 e45) (cwV 3 hts (gTV q1138 q1139 q1140 q5 q1141) rfl rfl rfl (by decide +kernel) ⟨Nat.le_of_ble_eq_true rfl, Nat.le_of_ble_eq_true rfl⟩) hK hP hD hS hA hE hAB [0, 3] [1, 2, 4, 5, 6, 7, 8, 9, 10, 11] [2] (wr := [(h1, .inl (kc1, 40, .inl c1)), (h2, .inl (kc2, 40, .inl c2)), (h4, .inl (kc4, 40, .inl c4)), (h5, .inl (kc5, 6, .inl c5)), (h6, .inl (kc6, 10240, .inl c6)), (h7, .inl (kc7, 40, .inl c7)), (h8, .inl (kc8, 40, .inl c8)), (h9, .inl (kc9, 700, .inl c9)), (h10, .inl (kc10, 700, .inl c10)), (h11, .inl (kc11, 80, .inl c11))]) rfl rfl (by decide) (by decide) (by decide) rfl (ci := 11) (q0 := 0) rfl rfl rfl rfl hl.1 rfl (Nat.le_of_ble_eq_true rfl) dX11_failCost_66 ⟨Nat.zero_le _, Nat.zero_le _⟩ (fun r45 u45 H locs hw45 hP hD hS => ?_)
        obtain ⟨hw451, hw452⟩ := hw45
        subst hw451 hw452
        have hP : va_P (dC, dI) vwCl (wX11_failCost h0 h1 h2 h3 h4 h5 h6 h7 h8 h9 h10 h11 kc1 kc2 kc3 kc4 kc5 kc6 kc7 kc8 kc9 kc10 kc11 V0 v0_newG v0_newL v0_newS c1 c2 c3 c4 c5 c6 c7 c8 c9 c10 c11) H := hP.sub [10, 0, 1, 11, 2, 3, 4, 5, 6, 7, 8, 9] rfl
        have hD : va_D A (wX11_failCost h0 h1 h2 h3 h4 h5 h6 h7 h8 h9 h10 h11 kc1 kc2 kc3 kc4 kc5 kc6 kc7 kc8 kc9 kc10 kc11 V0 v0_newG v0_newL v0_newS c1 c2 c3 c4 c5 c6 c7 c8 c9 c10 c11) := hD.sub [10, 0, 1, 11, 2, 3, 4, 5, 6, 7, 8, 9] (by decide) rfl
        refine lv_istore (lv' := [(4, .int o45.1), (0, .ref h0), (1, .int a0), (2, .int a1), (3, .int a2)]) hx hb dX11_failCost_69 hl (by decide) rfl (fun ls hl => ?_)
        refine lv_iconst (v := 0) hx hb dX11_failCost_71 (by decide +kernel) ?_
        refine lv_istore (lv' := [(5, .int 0), (4, .int o45.1), (0, .ref h0), (1, .int a0), (2, .int a1), (3, .int a2)]) hx hb dX11_failCost_72 hl (by decide) rfl (fun ls hl => ?_)
        exact (hG _ _ _ _ _).mp (L74 FU a0 a1 a2 o45.1 0 v0_newG v0_newL v0_newS c10 H locs ls (hP.sub [0, 1, 2, 3, 4, 5, 6, 7, 8, 9, 10, 11] rfl) (hD.sub [0, 1, 2, 3, 4, 5, 6, 7, 8, 9, 10, 11] (by decide) rfl) hS (lv_sub hl [2, 3, 4, 5, 1, 0] rfl) hf)
    · replace hf := if_at hf cq31
      refine lv_iconst (v := 1) hx hb dX11_failCost_25 (by decide +kernel) ?_
      refine lv_aload_n hx hb dX11_failCost_26 rfl (lv_at hl 0 rfl) ?_
      refine lv_iload_n hx hb dX11_failCost_27 rfl (lv_at hl 1 rfl) ?_
      refine lv_aload_n hx hb dX11_failCost_28 rfl (lv_at hl 0 rfl) ?_
      refine va_get (D := (dC, dI)) (ci := 11) (v := .ref h2) (C := RX11) (T := TX11) (N := 71) hx hb hts inlX11 hown hK hP 0 rfl rfl 41 (by decide) w7_ (fun _ h9 => h9) rfl dX11_failCost_29 ?_
      refine lv_iload_n hx hb dX11_failCost_32 rfl (lv_at hl 2 rfl) ?_
      have b46 := bd_in hf
      replace hf := bd_k hf
      refine va_iald hx hb hK hP 2 1 rfl rfl b46 dX11_failCost_33 ?_
      refine lv_topi (fun x47 e47 => ?_)
      replace hf := nm_at hf e47
      refine lv_iload_n hx hb dX11_failCost_34 rfl (lv_at hl 3 rfl) ?_
      obtain ⟨o48, e48, hf⟩ := ob_some hf
      refine kVi (As := [.int a0, .int x47, .int a2]) (rest := [.int 1]) ⟨hx, hb, hml, hown, hts⟩ (mX11_toFail l dC dI h0 h3 kc3 H.size base a0 x47 a2 c3 (fun k => match k with | 35 => .ref h5 | 36 => .ref h1 | 39 => .ref h4 | 40 => .ref h11 | 41 => .ref h2 | 44 => .ref h7 | 45 => .ref h8 | 46 => .ref h9 | 59 => .ref h10 | 60 => .ref h6 | 62 => .int v0_newG | 63 => .int v0_newL | 64 => .int v0_newS | k => V0 k) o48 e48) (cwV 3 hts (gTV q1138 q1139 q1140 q5 q1141) rfl rfl rfl (by decide +kernel) ⟨Nat.le_of_ble_eq_true rfl, Nat.le_of_ble_eq_true rfl⟩) hK hP hD hS hA hE hAB [0, 3] [1, 2, 4, 5, 6, 7, 8, 9, 10, 11] [2] (wr := [(h1, .inl (kc1, 40, .inl c1)), (h2, .inl (kc2, 40, .inl c2)), (h4, .inl (kc4, 40, .inl c4)), (h5, .inl (kc5, 6, .inl c5)), (h6, .inl (kc6, 10240, .inl c6)), (h7, .inl (kc7, 40, .inl c7)), (h8, .inl (kc8, 40, .inl c8)), (h9, .inl (kc9, 700, .inl c9)), (h10, .inl (kc10, 700, .inl c10)), (h11, .inl (kc11, 80, .inl c11))]) rfl rfl (by decide) (by decide) (by decide) rfl (ci := 11) (q0 := 0) rfl rfl rfl rfl hl.1 rfl (Nat.le_of_ble_eq_true rfl) dX11_failCost_35 ⟨Nat.zero_le _, Nat.zero_le _⟩ (fun r48 u48 H locs hw48 hP hD hS => ?_)
      obtain ⟨hw481, hw482⟩ := hw48
      subst hw481 hw482
      have hP : va_P (dC, dI) vwCl (wX11_failCost h0 h1 h2 h3 h4 h5 h6 h7 h8 h9 h10 h11 kc1 kc2 kc3 kc4 kc5 kc6 kc7 kc8 kc9 kc10 kc11 V0 v0_newG v0_newL v0_newS c1 c2 c3 c4 c5 c6 c7 c8 c9 c10 c11) H := hP.sub [10, 0, 1, 11, 2, 3, 4, 5, 6, 7, 8, 9] rfl
      have hD : va_D A (wX11_failCost h0 h1 h2 h3 h4 h5 h6 h7 h8 h9 h10 h11 kc1 kc2 kc3 kc4 kc5 kc6 kc7 kc8 kc9 kc10 kc11 V0 v0_newG v0_newL v0_newS c1 c2 c3 c4 c5 c6 c7 c8 c9 c10 c11) := hD.sub [10, 0, 1, 11, 2, 3, 4, 5, 6, 7, 8, 9] (by decide) rfl
      obtain ⟨o49, e49, hf⟩ := ob_some hf
      refine kSi (As := [.int 1, .int o48.1]) (rest := []) ⟨hx, hb, hml, hown, hts⟩ (mX11_sum l dC dI H.size base 1 o48.1 o49 e49) (va_cwS 2 hts (gTS q367 q368 q5 q369) rfl rfl rfl (by decide +kernel) ⟨Nat.le_of_ble_eq_true rfl, Nat.le_of_ble_eq_true rfl⟩) hK hP hD hS hA hE hAB [] [0, 1, 2, 3, 4, 5, 6, 7, 8, 9, 10, 11] [] (wr := (wX11_failCost h0 h1 h2 h3 h4 h5 h6 h7 h8 h9 h10 h11 kc1 kc2 kc3 kc4 kc5 kc6 kc7 kc8 kc9 kc10 kc11 V0 v0_newG v0_newL v0_newS c1 c2 c3 c4 c5 c6 c7 c8 c9 c10 c11)) rfl rfl (by decide) (by decide) (by decide) rfl rfl hl.1 rfl (Nat.le_of_ble_eq_true rfl) dX11_failCost_38 ⟨Nat.zero_le _, Nat.zero_le _⟩ (fun r49 u49 H locs hw49 hP hD hS => ?_)
      obtain ⟨hw491, hw492⟩ := hw49
      subst hw491 hw492
      have hP : va_P (dC, dI) vwCl (wX11_failCost h0 h1 h2 h3 h4 h5 h6 h7 h8 h9 h10 h11 kc1 kc2 kc3 kc4 kc5 kc6 kc7 kc8 kc9 kc10 kc11 V0 v0_newG v0_newL v0_newS c1 c2 c3 c4 c5 c6 c7 c8 c9 c10 c11) H := hP.sub [0, 1, 2, 3, 4, 5, 6, 7, 8, 9, 10, 11] rfl
      have hD : va_D A (wX11_failCost h0 h1 h2 h3 h4 h5 h6 h7 h8 h9 h10 h11 kc1 kc2 kc3 kc4 kc5 kc6 kc7 kc8 kc9 kc10 kc11 V0 v0_newG v0_newL v0_newS c1 c2 c3 c4 c5 c6 c7 c8 c9 c10 c11) := hD.sub [0, 1, 2, 3, 4, 5, 6, 7, 8, 9, 10, 11] (by decide) rfl
      have hf1 := Option.some.inj hf
      subst hf1
      have hP9 := hP.sub (ws' := (wX11_failCost h0 h1 h2 h3 h4 h5 h6 h7 h8 h9 h10 h11 kc1 kc2 kc3 kc4 kc5 kc6 kc7 kc8 kc9 kc10 kc11 V0 v0_newG v0_newL v0_newS c1 c2 c3 c4 c5 c6 c7 c8 c9 c10 c11)) [0, 1, 2, 3, 4, 5, 6, 7, 8, 9, 10, 11] rfl
      have hD9 := hD.sub (ws' := (wX11_failCost h0 h1 h2 h3 h4 h5 h6 h7 h8 h9 h10 h11 kc1 kc2 kc3 kc4 kc5 kc6 kc7 kc8 kc9 kc10 kc11 V0 v0_newG v0_newL v0_newS c1 c2 c3 c4 c5 c6 c7 c8 c9 c10 c11)) [0, 1, 2, 3, 4, 5, 6, 7, 8, 9, 10, 11] (by decide) rfl
      exact W.iret (v := o49.1) hx hb hr (fun t ht hW => ⟨⟨o49.1, (v0_newG, v0_newL, v0_newS, c10), rfl, ⟨rfl, rfl⟩, by rw [ht]; exact hP9, va_K.moved hW.alike hK, hD9⟩, hS.F ht⟩) hS.2.2 dX11_failCost_41
  · replace hf := if_at hf cq28
    refine lv_ldc (v := 2000000) hx hb hown w3_ dX11_failCost_11 ?_
    have hf1 := Option.some.inj hf
    subst hf1
    have hP9 := hP.sub (ws' := (wX11_failCost h0 h1 h2 h3 h4 h5 h6 h7 h8 h9 h10 h11 kc1 kc2 kc3 kc4 kc5 kc6 kc7 kc8 kc9 kc10 kc11 V0 v0_newG v0_newL v0_newS c1 c2 c3 c4 c5 c6 c7 c8 c9 c10 c11)) [0, 1, 2, 3, 4, 5, 6, 7, 8, 9, 10, 11] rfl
    have hD9 := hD.sub (ws' := (wX11_failCost h0 h1 h2 h3 h4 h5 h6 h7 h8 h9 h10 h11 kc1 kc2 kc3 kc4 kc5 kc6 kc7 kc8 kc9 kc10 kc11 V0 v0_newG v0_newL v0_newS c1 c2 c3 c4 c5 c6 c7 c8 c9 c10 c11)) [0, 1, 2, 3, 4, 5, 6, 7, 8, 9, 10, 11] (by decide) rfl
    exact W.iret (v := 2000000) hx hb hr (fun t ht hW => ⟨⟨2000000, (v0_newG, v0_newL, v0_newS, c10), rfl, ⟨rfl, rfl⟩, by rw [ht]; exact hP9, va_K.moved hW.alike hK, hD9⟩, hS.F ht⟩) hS.2.2 dX11_failCost_13
abbrev wX11_solve (h0 h1 h2 h3 h4 h5 h6 h7 h8 h9 h10 h11 : Nat) (kc1 kc2 kc3 kc4 kc5 kc6 kc7 kc8 kc9 kc10 kc11 : ClassId) (V0 : Nat → Value) (v0_statements : Int32) (v0_newG : Int32) (v0_newL : Int32) (v0_newS : Int32) (c1 : Nat → Int32) (c2 : Nat → Int32) (c3 : Nat → Int32) (c4 : Nat → Int32) (c5 : Nat → Int32) (c6 : Nat → Int32) (c7 : Nat → Int32) (c8 : Nat → Int32) (c9 : Nat → Int32) (c10 : Nat → Int32) (c11 : Nat → Int32) : va_W := [(h0, .inr (11, [V0 0, V0 1, V0 2, V0 3, V0 4, V0 5, V0 6, V0 7, V0 8, V0 9, V0 10, V0 11, V0 12, V0 13, V0 14, V0 15, V0 16, V0 17, V0 18, V0 19, V0 20, V0 21, V0 22, V0 23, V0 24, V0 25, V0 26, V0 27, V0 28, V0 29, .int v0_statements, V0 31, V0 32, V0 33, V0 34, .ref h6, .ref h3, V0 37, V0 38, .ref h5, .ref h11, .ref h4, V0 42, V0 43, .ref h7, .ref h8, .ref h9, V0 47, V0 48, V0 49, V0 50, V0 51, V0 52, V0 53, V0 54, V0 55, V0 56, V0 57, V0 58, .ref h10, .ref h1, .ref h2, .int v0_newG, .int v0_newL, .int v0_newS, V0 65, V0 66, V0 67, V0 68, V0 69, V0 70])), (h1, .inl (kc1, 10240, .inl c1)), (h2, .inl (kc2, 1280, .inl c2)), (h3, .inl (kc3, 40, .inl c3)), (h4, .inl (kc4, 40, .inl c4)), (h5, .inl (kc5, 40, .inl c5)), (h6, .inl (kc6, 6, .inl c6)), (h7, .inl (kc7, 40, .inl c7)), (h8, .inl (kc8, 40, .inl c8)), (h9, .inl (kc9, 700, .inl c9)), (h10, .inl (kc10, 700, .inl c10)), (h11, .inl (kc11, 80, .inl c11))]
set_option maxHeartbeats 4000000 in
set_option maxRecDepth 100000 in
theorem mX11_solve (l : Launch) (dC : Nat → ClassId) (dI : Nat → Nat → Nat) (h0 h1 h2 h3 h4 h5 h6 h7 h8 h9 h10 h11 : Nat) (kc1 kc2 kc3 kc4 kc5 kc6 kc7 kc8 kc9 kc10 kc11 : ClassId) (sz : Nat) (base : Nat × Nat × Nat) (v0_statements : Int32) (v0_newG : Int32) (v0_newL : Int32) (v0_newS : Int32) (c1 : Nat → Int32) (c2 : Nat → Int32) (c3 : Nat → Int32) (c4 : Nat → Int32) (c5 : Nat → Int32) (c6 : Nat → Int32) (c7 : Nat → Int32) (c8 : Nat → Int32) (c9 : Nat → Int32) (c10 : Nat → Int32) (c11 : Nat → Int32) (V0 : Nat → Value) (o : Int32 × Int32 × Int32 × (Nat → Int32) × (Nat → Int32) × (Nat → Int32)) (hf : fX11_solve v0_statements v0_newG v0_newL v0_newS c1 c2 c3 c4 c5 c6 c7 c8 c9 c10 c11 = some o) : Met l yX11_solve (.code yX11_solve cX11_solve 7 none :: wsL_law) ({ frames := 3, cells := 0, slots := 0, locals := 74 }) (cPre (dC, dI) vwCl [.ref h0] sz base (wX11_solve h0 h1 h2 h3 h4 h5 h6 h7 h8 h9 h10 h11 kc1 kc2 kc3 kc4 kc5 kc6 kc7 kc8 kc9 kc10 kc11 V0 v0_statements v0_newG v0_newL v0_newS c1 c2 c3 c4 c5 c6 c7 c8 c9 c10 c11) [(kc1, .int), (kc2, .int), (kc3, .int), (kc4, .int), (kc5, .int), (kc6, .int), (kc7, .int), (kc8, .int), (kc9, .int), (kc10, .int), (kc11, .int)]) (va_Qv (fun u => u = o) (fun (u : Int32 × Int32 × Int32 × (Nat → Int32) × (Nat → Int32) × (Nat → Int32)) t => cPost (dC, dI) vwCl (va_A (wX11_solve h0 h1 h2 h3 h4 h5 h6 h7 h8 h9 h10 h11 kc1 kc2 kc3 kc4 kc5 kc6 kc7 kc8 kc9 kc10 kc11 V0 v0_statements v0_newG v0_newL v0_newS c1 c2 c3 c4 c5 c6 c7 c8 c9 c10 c11) sz) (wX11_solve h0 h1 h2 h3 h4 h5 h6 h7 h8 h9 h10 h11 kc1 kc2 kc3 kc4 kc5 kc6 kc7 kc8 kc9 kc10 kc11 V0 v0_statements u.1 u.2.1 u.2.2.1 u.2.2.2.1 u.2.2.2.2.1 c3 c4 c5 c6 c7 c8 c9 u.2.2.2.2.2 c11) [(kc1, .int), (kc2, .int), (kc3, .int), (kc4, .int), (kc5, .int), (kc6, .int), (kc7, .int), (kc8, .int), (kc9, .int), (kc10, .int), (kc11, .int)] t) (va_A (wX11_solve h0 h1 h2 h3 h4 h5 h6 h7 h8 h9 h10 h11 kc1 kc2 kc3 kc4 kc5 kc6 kc7 kc8 kc9 kc10 kc11 V0 v0_statements v0_newG v0_newL v0_newS c1 c2 c3 c4 c5 c6 c7 c8 c9 c10 c11) sz)) 0 0 (va_A (wX11_solve h0 h1 h2 h3 h4 h5 h6 h7 h8 h9 h10 h11 kc1 kc2 kc3 kc4 kc5 kc6 kc7 kc8 kc9 kc10 kc11 V0 v0_statements v0_newG v0_newL v0_newS c1 c2 c3 c4 c5 c6 c7 c8 c9 c10 c11) sz) := by
  refine Met.ofW (cc := cX11_solve) (maxL := 7) (ret := none) (by decide) rfl ?_
  intro p e s m args below meth c s₁ B hml hv
  obtain ⟨rfl, hsz, hP, hK, hD0, hE⟩ := hv
  have hx := B.exec
  have hb := B.bytes
  have hr := B.returns
  have hts : ∀ w ∈ wsL_law, _ := fun w h => atoms_spec (ws := .code yX11_solve cX11_solve 7 none :: wsL_law) B.pre w (List.mem_cons_of_mem _ h)
  have hown : s.vm.findClass RX11 = some m.cls := findClass_of_methodNamed B.named
  have hlocks := B.notSynchronized
  have w0_ := hts _ q121
  have w1_ := hts _ q796
  have w2_ := hts _ q120
  have w3_ := hts _ q354
  subst hsz
  have hD := hD0.self (sz := s.heap.size)
  generalize hAe : va_A (wX11_solve h0 h1 h2 h3 h4 h5 h6 h7 h8 h9 h10 h11 kc1 kc2 kc3 kc4 kc5 kc6 kc7 kc8 kc9 kc10 kc11 V0 v0_statements v0_newG v0_newL v0_newS c1 c2 c3 c4 c5 c6 c7 c8 c9 c10 c11) s.heap.size = A at hD ⊢
  have hA : ∀ q : Nat, s.heap.size ≤ q → A q := fun q h => by rw [← hAe]; exact Or.inr h
  have hAB : ∀ q : Nat, A q → base.1 ≤ q := fun q h => by rw [← hAe] at h; exact h.elim (fun ⟨k, e, hk⟩ => hD0.2 k _ hk) (fun hk => Nat.le_trans hE.1 hk)
  have hS : va_S A s.heap s.heap [] := va_S.rf
  have hl := lv_entry ([.ref h0]) (n := 7) (Nat.le_of_ble_eq_true rfl)
  rw [lg_entry_eq]
  generalize (lg_sl ([.ref h0]) ++ List.replicate (7 - (lg_sl ([.ref h0])).length) Slot.unset).toArray = ls at hl ⊢
  have hl : lv_has ls 7 [(0, .ref h0)] := hl
  have hP : va_P (dC, dI) vwCl (wX11_solve h0 h1 h2 h3 h4 h5 h6 h7 h8 h9 h10 h11 kc1 kc2 kc3 kc4 kc5 kc6 kc7 kc8 kc9 kc10 kc11 V0 v0_statements v0_newG v0_newL v0_newS c1 c2 c3 c4 c5 c6 c7 c8 c9 c10 c11) s.heap := hP
  refine gl_intro (fun G hG => ?_)
  have J294 : ∀ (k192 : Int32 → Int32 → Int32 → Int32 → (Nat → Int32) → (Nat → Int32) → (Nat → Int32) → Option (Int32 × Int32 × Int32 × (Nat → Int32) × (Nat → Int32) × (Nat → Int32))) (hk192 : ∀ (y1 : Int32) (v0_newG : Int32) (v0_newL : Int32) (v0_newS : Int32) (c1 : (Nat → Int32)) (c2 : (Nat → Int32)) (c10 : (Nat → Int32)) (H : Heap) (locs : List Loc) (ls : Array Slot), va_P (dC, dI) vwCl (wX11_solve h0 h1 h2 h3 h4 h5 h6 h7 h8 h9 h10 h11 kc1 kc2 kc3 kc4 kc5 kc6 kc7 kc8 kc9 kc10 kc11 V0 v0_statements v0_newG v0_newL v0_newS c1 c2 c3 c4 c5 c6 c7 c8 c9 c10 c11) H → va_D A (wX11_solve h0 h1 h2 h3 h4 h5 h6 h7 h8 h9 h10 h11 kc1 kc2 kc3 kc4 kc5 kc6 kc7 kc8 kc9 kc10 kc11 V0 v0_statements v0_newG v0_newL v0_newS c1 c2 c3 c4 c5 c6 c7 c8 c9 c10 c11) → va_S A s.heap H locs → lv_has ls 7 [(0, .ref h0), (1, .int y1)] → k192 y1 v0_newG v0_newL v0_newS c1 c2 c10 = some o → G 0 0 H locs (F0 m 192 ls [])) (k205 : Int32 → Int32 → Int32 → Int32 → Int32 → (Nat → Int32) → (Nat → Int32) → (Nat → Int32) → Option (Int32 × Int32 × Int32 × (Nat → Int32) × (Nat → Int32) × (Nat → Int32))) (hk205 : ∀ (y1 : Int32) (y2 : Int32) (v0_newG : Int32) (v0_newL : Int32) (v0_newS : Int32) (c1 : (Nat → Int32)) (c2 : (Nat → Int32)) (c10 : (Nat → Int32)) (H : Heap) (locs : List Loc) (ls : Array Slot), va_P (dC, dI) vwCl (wX11_solve h0 h1 h2 h3 h4 h5 h6 h7 h8 h9 h10 h11 kc1 kc2 kc3 kc4 kc5 kc6 kc7 kc8 kc9 kc10 kc11 V0 v0_statements v0_newG v0_newL v0_newS c1 c2 c3 c4 c5 c6 c7 c8 c9 c10 c11) H → va_D A (wX11_solve h0 h1 h2 h3 h4 h5 h6 h7 h8 h9 h10 h11 kc1 kc2 kc3 kc4 kc5 kc6 kc7 kc8 kc9 kc10 kc11 V0 v0_statements v0_newG v0_newL v0_newS c1 c2 c3 c4 c5 c6 c7 c8 c9 c10 c11) → va_S A s.heap H locs → lv_has ls 7 [(0, .ref h0), (1, .int y1), (2, .int y2)] → k205 y1 y2 v0_newG v0_newL v0_newS c1 c2 c10 = some o → G 0 0 H locs (F0 m 205 ls [])) (k211 : Int32 → Int32 → Int32 → Int32 → Int32 → Int32 → (Nat → Int32) → (Nat → Int32) → (Nat → Int32) → Option (Int32 × Int32 × Int32 × (Nat → Int32) × (Nat → Int32) × (Nat → Int32))) (hk211 : ∀ (y1 : Int32) (y2 : Int32) (y3 : Int32) (v0_newG : Int32) (v0_newL : Int32) (v0_newS : Int32) (c1 : (Nat → Int32)) (c2 : (Nat → Int32)) (c10 : (Nat → Int32)) (H : Heap) (locs : List Loc) (ls : Array Slot), va_P (dC, dI) vwCl (wX11_solve h0 h1 h2 h3 h4 h5 h6 h7 h8 h9 h10 h11 kc1 kc2 kc3 kc4 kc5 kc6 kc7 kc8 kc9 kc10 kc11 V0 v0_statements v0_newG v0_newL v0_newS c1 c2 c3 c4 c5 c6 c7 c8 c9 c10 c11) H → va_D A (wX11_solve h0 h1 h2 h3 h4 h5 h6 h7 h8 h9 h10 h11 kc1 kc2 kc3 kc4 kc5 kc6 kc7 kc8 kc9 kc10 kc11 V0 v0_statements v0_newG v0_newL v0_newS c1 c2 c3 c4 c5 c6 c7 c8 c9 c10 c11) → va_S A s.heap H locs → lv_has ls 7 [(0, .ref h0), (1, .int y1), (2, .int y2), (3, .int y3)] → k211 y1 y2 y3 v0_newG v0_newL v0_newS c1 c2 c10 = some o → G 0 0 H locs (F0 m 211 ls [])), ∀ (y1 : Int32) (y2 : Int32) (y3 : Int32) (z0 : Int32) (z1 : Int32) (v0_newG : Int32) (v0_newL : Int32) (v0_newS : Int32) (c1 : (Nat → Int32)) (c2 : (Nat → Int32)) (c10 : (Nat → Int32)) (H : Heap) (locs : List Loc) (ls : Array Slot), va_P (dC, dI) vwCl (wX11_solve h0 h1 h2 h3 h4 h5 h6 h7 h8 h9 h10 h11 kc1 kc2 kc3 kc4 kc5 kc6 kc7 kc8 kc9 kc10 kc11 V0 v0_statements v0_newG v0_newL v0_newS c1 c2 c3 c4 c5 c6 c7 c8 c9 c10 c11) H → va_D A (wX11_solve h0 h1 h2 h3 h4 h5 h6 h7 h8 h9 h10 h11 kc1 kc2 kc3 kc4 kc5 kc6 kc7 kc8 kc9 kc10 kc11 V0 v0_statements v0_newG v0_newL v0_newS c1 c2 c3 c4 c5 c6 c7 c8 c9 c10 c11) → va_S A s.heap H locs → lv_has ls 7 [(0, .ref h0), (1, .int y1), (2, .int y2), (3, .int y3)] → fX11_solve_p294 v0_statements c3 c4 c5 c6 c7 c8 c9 c11 k192 k205 k211 y1 y2 y3 z0 z1 v0_newG v0_newL v0_newS c1 c2 c10 = some o → G 0 0 H locs (F0 m 294 ls [.int z0, .int z1, .ref h2]) := by
    intro k192 hk192 k205 hk205 k211 hk211 y1 y2 y3 z0 z1 v0_newG v0_newL v0_newS c1 c2 c10 H locs ls hP hD hS hl hf
    refine (hG _ _ _ _ _).mpr ?_
    unfold fX11_solve_p294 at hf
    have b1 := bd_in hf
    replace hf := bd_k hf
    obtain ⟨c1x, e1⟩ : ∃ y, y = upd c2 z1.toNatClampNeg z0 := ⟨_, rfl⟩
    replace hf := nm_at hf e1
    refine va_iast hx hb hK hP hD hS 2 1 rfl rfl b1 dX11_solve_294 (fun H locs hP hD hS => ?_)
    have hP : va_P (dC, dI) vwCl (wX11_solve h0 h1 h2 h3 h4 h5 h6 h7 h8 h9 h10 h11 kc1 kc2 kc3 kc4 kc5 kc6 kc7 kc8 kc9 kc10 kc11 V0 v0_statements v0_newG v0_newL v0_newS c1 c1x c3 c4 c5 c6 c7 c8 c9 c10 c11) H := by rw [e1]; exact hP
    have hD : va_D A (wX11_solve h0 h1 h2 h3 h4 h5 h6 h7 h8 h9 h10 h11 kc1 kc2 kc3 kc4 kc5 kc6 kc7 kc8 kc9 kc10 kc11 V0 v0_statements v0_newG v0_newL v0_newS c1 c1x c3 c4 c5 c6 c7 c8 c9 c10 c11) := by rw [e1]; exact hD
    obtain ⟨x2, e2⟩ : ∃ y : Int32, y = y3 + 1 := ⟨_, rfl⟩
    replace hf := nm_at hf e2
    refine lv_iinc (v := x2) (lv' := [(3, .int x2), (0, .ref h0), (1, .int y1), (2, .int y2)]) hx hb dX11_solve_295 hl (k := 3) rfl (by rw [e2]; rfl) (by decide) rfl (fun ls hl => ?_)
    refine lv_goto (tgt := 211) hx hb dX11_solve_298 (by decide) ?_
    exact (hG _ _ _ _ _).mp (hk211 y1 y2 x2 v0_newG v0_newL v0_newS c1 c1x c10 H locs ls (hP.sub [0, 1, 2, 3, 4, 5, 6, 7, 8, 9, 10, 11] rfl) (hD.sub [0, 1, 2, 3, 4, 5, 6, 7, 8, 9, 10, 11] (by decide) rfl) hS (lv_sub hl [1, 2, 3, 0] rfl) hf)
  have J263 : ∀ (k192 : Int32 → Int32 → Int32 → Int32 → (Nat → Int32) → (Nat → Int32) → (Nat → Int32) → Option (Int32 × Int32 × Int32 × (Nat → Int32) × (Nat → Int32) × (Nat → Int32))) (hk192 : ∀ (y1 : Int32) (v0_newG : Int32) (v0_newL : Int32) (v0_newS : Int32) (c1 : (Nat → Int32)) (c2 : (Nat → Int32)) (c10 : (Nat → Int32)) (H : Heap) (locs : List Loc) (ls : Array Slot), va_P (dC, dI) vwCl (wX11_solve h0 h1 h2 h3 h4 h5 h6 h7 h8 h9 h10 h11 kc1 kc2 kc3 kc4 kc5 kc6 kc7 kc8 kc9 kc10 kc11 V0 v0_statements v0_newG v0_newL v0_newS c1 c2 c3 c4 c5 c6 c7 c8 c9 c10 c11) H → va_D A (wX11_solve h0 h1 h2 h3 h4 h5 h6 h7 h8 h9 h10 h11 kc1 kc2 kc3 kc4 kc5 kc6 kc7 kc8 kc9 kc10 kc11 V0 v0_statements v0_newG v0_newL v0_newS c1 c2 c3 c4 c5 c6 c7 c8 c9 c10 c11) → va_S A s.heap H locs → lv_has ls 7 [(0, .ref h0), (1, .int y1)] → k192 y1 v0_newG v0_newL v0_newS c1 c2 c10 = some o → G 0 0 H locs (F0 m 192 ls [])) (k205 : Int32 → Int32 → Int32 → Int32 → Int32 → (Nat → Int32) → (Nat → Int32) → (Nat → Int32) → Option (Int32 × Int32 × Int32 × (Nat → Int32) × (Nat → Int32) × (Nat → Int32))) (hk205 : ∀ (y1 : Int32) (y2 : Int32) (v0_newG : Int32) (v0_newL : Int32) (v0_newS : Int32) (c1 : (Nat → Int32)) (c2 : (Nat → Int32)) (c10 : (Nat → Int32)) (H : Heap) (locs : List Loc) (ls : Array Slot), va_P (dC, dI) vwCl (wX11_solve h0 h1 h2 h3 h4 h5 h6 h7 h8 h9 h10 h11 kc1 kc2 kc3 kc4 kc5 kc6 kc7 kc8 kc9 kc10 kc11 V0 v0_statements v0_newG v0_newL v0_newS c1 c2 c3 c4 c5 c6 c7 c8 c9 c10 c11) H → va_D A (wX11_solve h0 h1 h2 h3 h4 h5 h6 h7 h8 h9 h10 h11 kc1 kc2 kc3 kc4 kc5 kc6 kc7 kc8 kc9 kc10 kc11 V0 v0_statements v0_newG v0_newL v0_newS c1 c2 c3 c4 c5 c6 c7 c8 c9 c10 c11) → va_S A s.heap H locs → lv_has ls 7 [(0, .ref h0), (1, .int y1), (2, .int y2)] → k205 y1 y2 v0_newG v0_newL v0_newS c1 c2 c10 = some o → G 0 0 H locs (F0 m 205 ls [])) (k211 : Int32 → Int32 → Int32 → Int32 → Int32 → Int32 → (Nat → Int32) → (Nat → Int32) → (Nat → Int32) → Option (Int32 × Int32 × Int32 × (Nat → Int32) × (Nat → Int32) × (Nat → Int32))) (hk211 : ∀ (y1 : Int32) (y2 : Int32) (y3 : Int32) (v0_newG : Int32) (v0_newL : Int32) (v0_newS : Int32) (c1 : (Nat → Int32)) (c2 : (Nat → Int32)) (c10 : (Nat → Int32)) (H : Heap) (locs : List Loc) (ls : Array Slot), va_P (dC, dI) vwCl (wX11_solve h0 h1 h2 h3 h4 h5 h6 h7 h8 h9 h10 h11 kc1 kc2 kc3 kc4 kc5 kc6 kc7 kc8 kc9 kc10 kc11 V0 v0_statements v0_newG v0_newL v0_newS c1 c2 c3 c4 c5 c6 c7 c8 c9 c10 c11) H → va_D A (wX11_solve h0 h1 h2 h3 h4 h5 h6 h7 h8 h9 h10 h11 kc1 kc2 kc3 kc4 kc5 kc6 kc7 kc8 kc9 kc10 kc11 V0 v0_statements v0_newG v0_newL v0_newS c1 c2 c3 c4 c5 c6 c7 c8 c9 c10 c11) → va_S A s.heap H locs → lv_has ls 7 [(0, .ref h0), (1, .int y1), (2, .int y2), (3, .int y3)] → k211 y1 y2 y3 v0_newG v0_newL v0_newS c1 c2 c10 = some o → G 0 0 H locs (F0 m 211 ls [])), ∀ (y2 : Int32) (y3 : Int32) (y4 : Int32) (y5 : Int32) (z0 : Int32) (v0_newG : Int32) (v0_newL : Int32) (v0_newS : Int32) (c1 : (Nat → Int32)) (c2 : (Nat → Int32)) (c10 : (Nat → Int32)) (H : Heap) (locs : List Loc) (ls : Array Slot), va_P (dC, dI) vwCl (wX11_solve h0 h1 h2 h3 h4 h5 h6 h7 h8 h9 h10 h11 kc1 kc2 kc3 kc4 kc5 kc6 kc7 kc8 kc9 kc10 kc11 V0 v0_statements v0_newG v0_newL v0_newS c1 c2 c3 c4 c5 c6 c7 c8 c9 c10 c11) H → va_D A (wX11_solve h0 h1 h2 h3 h4 h5 h6 h7 h8 h9 h10 h11 kc1 kc2 kc3 kc4 kc5 kc6 kc7 kc8 kc9 kc10 kc11 V0 v0_statements v0_newG v0_newL v0_newS c1 c2 c3 c4 c5 c6 c7 c8 c9 c10 c11) → va_S A s.heap H locs → lv_has ls 7 [(0, .ref h0), (2, .int y2), (3, .int y3), (4, .int y4), (5, .int y5)] → fX11_solve_p263 v0_statements c3 c4 c5 c6 c7 c8 c9 c11 k192 k205 k211 y2 y3 y4 y5 z0 v0_newG v0_newL v0_newS c1 c2 c10 = some o → G 0 0 H locs (F0 m 263 ls [.int z0]) := by
    intro k192 hk192 k205 hk205 k211 hk211 y2 y3 y4 y5 z0 v0_newG v0_newL v0_newS c1 c2 c10 H locs ls hP hD hS hl hf
    refine (hG _ _ _ _ _).mpr ?_
    unfold fX11_solve_p263 at hf
    refine lv_istore_n (lv' := [(1, .int z0), (0, .ref h0), (2, .int y2), (3, .int y3), (4, .int y4), (5, .int y5)]) hx hb dX11_solve_263 rfl hl (by decide) rfl (fun ls hl => ?_)
    refine lv_aload_n hx hb dX11_solve_264 rfl (lv_at hl 1 rfl) ?_
    refine va_get (D := (dC, dI)) (ci := 11) (v := .ref h2) (C := RX11) (T := TX11) (N := 71) hx hb hts inlX11 hown hK hP 0 rfl rfl 61 (by decide) w0_ (fun _ h9 => h9) rfl dX11_solve_265 ?_
    refine lv_iload hx hb dX11_solve_268 (lv_at hl 4 rfl) ?_
    refine lv_iload hx hb dX11_solve_270 (lv_at hl 5 rfl) ?_
    refine lv_aload_n hx hb dX11_solve_272 rfl (lv_at hl 1 rfl) ?_
    refine va_get (D := (dC, dI)) (ci := 11) (v := .ref h2) (C := RX11) (T := TX11) (N := 71) hx hb hts inlX11 hown hK hP 0 rfl rfl 61 (by decide) w0_ (fun _ h9 => h9) rfl dX11_solve_273 ?_
    refine lv_iload hx hb dX11_solve_276 (lv_at hl 4 rfl) ?_
    have b3 := bd_in hf
    replace hf := bd_k hf
    refine va_iald hx hb hK hP 2 1 rfl rfl b3 dX11_solve_278 ?_
    refine lv_topi (fun x4 e4 => ?_)
    replace hf := nm_at hf e4
    refine lv_icmp_ge (tgt := 287) hx hb dX11_solve_279 (by decide) (fun cq5 => ?_) (fun cq5 => ?_)
    · replace hf := if_at hf cq5
      refine lv_aload_n hx hb dX11_solve_287 rfl (lv_at hl 1 rfl) ?_
      refine va_get (D := (dC, dI)) (ci := 11) (v := .ref h2) (C := RX11) (T := TX11) (N := 71) hx hb hts inlX11 hown hK hP 0 rfl rfl 61 (by decide) w0_ (fun _ h9 => h9) rfl dX11_solve_288 ?_
      refine lv_iload hx hb dX11_solve_291 (lv_at hl 4 rfl) ?_
      have b6 := bd_in hf
      replace hf := bd_k hf
      refine va_iald hx hb hK hP 2 1 rfl rfl b6 dX11_solve_293 ?_
      refine lv_topi (fun x7 e7 => ?_)
      replace hf := nm_at hf e7
      exact (hG _ _ _ _ _).mp (J294 k192 hk192 k205 hk205 k211 hk211 z0 y2 y3 x7 y4 v0_newG v0_newL v0_newS c1 c2 c10 H locs ls (hP.sub [0, 1, 2, 3, 4, 5, 6, 7, 8, 9, 10, 11] rfl) (hD.sub [0, 1, 2, 3, 4, 5, 6, 7, 8, 9, 10, 11] (by decide) rfl) hS (lv_sub hl [1, 0, 2, 3] rfl) hf)
    · replace hf := if_no hf cq5
      refine lv_iload hx hb dX11_solve_282 (lv_at hl 5 rfl) ?_
      refine lv_goto (tgt := 294) hx hb dX11_solve_284 (by decide) ?_
      exact (hG _ _ _ _ _).mp (J294 k192 hk192 k205 hk205 k211 hk211 z0 y2 y3 y5 y4 v0_newG v0_newL v0_newS c1 c2 c10 H locs ls (hP.sub [0, 1, 2, 3, 4, 5, 6, 7, 8, 9, 10, 11] rfl) (hD.sub [0, 1, 2, 3, 4, 5, 6, 7, 8, 9, 10, 11] (by decide) rfl) hS (lv_sub hl [1, 0, 2, 3] rfl) hf)
  have J258 : ∀ (k192 : Int32 → Int32 → Int32 → Int32 → (Nat → Int32) → (Nat → Int32) → (Nat → Int32) → Option (Int32 × Int32 × Int32 × (Nat → Int32) × (Nat → Int32) × (Nat → Int32))) (hk192 : ∀ (y1 : Int32) (v0_newG : Int32) (v0_newL : Int32) (v0_newS : Int32) (c1 : (Nat → Int32)) (c2 : (Nat → Int32)) (c10 : (Nat → Int32)) (H : Heap) (locs : List Loc) (ls : Array Slot), va_P (dC, dI) vwCl (wX11_solve h0 h1 h2 h3 h4 h5 h6 h7 h8 h9 h10 h11 kc1 kc2 kc3 kc4 kc5 kc6 kc7 kc8 kc9 kc10 kc11 V0 v0_statements v0_newG v0_newL v0_newS c1 c2 c3 c4 c5 c6 c7 c8 c9 c10 c11) H → va_D A (wX11_solve h0 h1 h2 h3 h4 h5 h6 h7 h8 h9 h10 h11 kc1 kc2 kc3 kc4 kc5 kc6 kc7 kc8 kc9 kc10 kc11 V0 v0_statements v0_newG v0_newL v0_newS c1 c2 c3 c4 c5 c6 c7 c8 c9 c10 c11) → va_S A s.heap H locs → lv_has ls 7 [(0, .ref h0), (1, .int y1)] → k192 y1 v0_newG v0_newL v0_newS c1 c2 c10 = some o → G 0 0 H locs (F0 m 192 ls [])) (k205 : Int32 → Int32 → Int32 → Int32 → Int32 → (Nat → Int32) → (Nat → Int32) → (Nat → Int32) → Option (Int32 × Int32 × Int32 × (Nat → Int32) × (Nat → Int32) × (Nat → Int32))) (hk205 : ∀ (y1 : Int32) (y2 : Int32) (v0_newG : Int32) (v0_newL : Int32) (v0_newS : Int32) (c1 : (Nat → Int32)) (c2 : (Nat → Int32)) (c10 : (Nat → Int32)) (H : Heap) (locs : List Loc) (ls : Array Slot), va_P (dC, dI) vwCl (wX11_solve h0 h1 h2 h3 h4 h5 h6 h7 h8 h9 h10 h11 kc1 kc2 kc3 kc4 kc5 kc6 kc7 kc8 kc9 kc10 kc11 V0 v0_statements v0_newG v0_newL v0_newS c1 c2 c3 c4 c5 c6 c7 c8 c9 c10 c11) H → va_D A (wX11_solve h0 h1 h2 h3 h4 h5 h6 h7 h8 h9 h10 h11 kc1 kc2 kc3 kc4 kc5 kc6 kc7 kc8 kc9 kc10 kc11 V0 v0_statements v0_newG v0_newL v0_newS c1 c2 c3 c4 c5 c6 c7 c8 c9 c10 c11) → va_S A s.heap H locs → lv_has ls 7 [(0, .ref h0), (1, .int y1), (2, .int y2)] → k205 y1 y2 v0_newG v0_newL v0_newS c1 c2 c10 = some o → G 0 0 H locs (F0 m 205 ls [])) (k211 : Int32 → Int32 → Int32 → Int32 → Int32 → Int32 → (Nat → Int32) → (Nat → Int32) → (Nat → Int32) → Option (Int32 × Int32 × Int32 × (Nat → Int32) × (Nat → Int32) × (Nat → Int32))) (hk211 : ∀ (y1 : Int32) (y2 : Int32) (y3 : Int32) (v0_newG : Int32) (v0_newL : Int32) (v0_newS : Int32) (c1 : (Nat → Int32)) (c2 : (Nat → Int32)) (c10 : (Nat → Int32)) (H : Heap) (locs : List Loc) (ls : Array Slot), va_P (dC, dI) vwCl (wX11_solve h0 h1 h2 h3 h4 h5 h6 h7 h8 h9 h10 h11 kc1 kc2 kc3 kc4 kc5 kc6 kc7 kc8 kc9 kc10 kc11 V0 v0_statements v0_newG v0_newL v0_newS c1 c2 c3 c4 c5 c6 c7 c8 c9 c10 c11) H → va_D A (wX11_solve h0 h1 h2 h3 h4 h5 h6 h7 h8 h9 h10 h11 kc1 kc2 kc3 kc4 kc5 kc6 kc7 kc8 kc9 kc10 kc11 V0 v0_statements v0_newG v0_newL v0_newS c1 c2 c3 c4 c5 c6 c7 c8 c9 c10 c11) → va_S A s.heap H locs → lv_has ls 7 [(0, .ref h0), (1, .int y1), (2, .int y2), (3, .int y3)] → k211 y1 y2 y3 v0_newG v0_newL v0_newS c1 c2 c10 = some o → G 0 0 H locs (F0 m 211 ls [])), ∀ (y2 : Int32) (y3 : Int32) (y4 : Int32) (y5 : Int32) (v0_newG : Int32) (v0_newL : Int32) (v0_newS : Int32) (c1 : (Nat → Int32)) (c2 : (Nat → Int32)) (c10 : (Nat → Int32)) (H : Heap) (locs : List Loc) (ls : Array Slot), va_P (dC, dI) vwCl (wX11_solve h0 h1 h2 h3 h4 h5 h6 h7 h8 h9 h10 h11 kc1 kc2 kc3 kc4 kc5 kc6 kc7 kc8 kc9 kc10 kc11 V0 v0_statements v0_newG v0_newL v0_newS c1 c2 c3 c4 c5 c6 c7 c8 c9 c10 c11) H → va_D A (wX11_solve h0 h1 h2 h3 h4 h5 h6 h7 h8 h9 h10 h11 kc1 kc2 kc3 kc4 kc5 kc6 kc7 kc8 kc9 kc10 kc11 V0 v0_statements v0_newG v0_newL v0_newS c1 c2 c3 c4 c5 c6 c7 c8 c9 c10 c11) → va_S A s.heap H locs → lv_has ls 7 [(0, .ref h0), (2, .int y2), (3, .int y3), (4, .int y4), (5, .int y5)] → fX11_solve_p258 v0_statements c3 c4 c5 c6 c7 c8 c9 c11 k192 k205 k211 y2 y3 y4 y5 v0_newG v0_newL v0_newS c1 c2 c10 = some o → G 0 0 H locs (F0 m 258 ls []) := by
    intro k192 hk192 k205 hk205 k211 hk211 y2 y3 y4 y5 v0_newG v0_newL v0_newS c1 c2 c10 H locs ls hP hD hS hl hf
    refine (hG _ _ _ _ _).mpr ?_
    unfold fX11_solve_p258 at hf
    refine lv_iconst (v := 1) hx hb dX11_solve_258 (by decide +kernel) ?_
    refine lv_goto (tgt := 263) hx hb dX11_solve_259 (by decide) ?_
    exact (hG _ _ _ _ _).mp (J263 k192 hk192 k205 hk205 k211 hk211 y2 y3 y4 y5 1 v0_newG v0_newL v0_newS c1 c2 c10 H locs ls (hP.sub [0, 1, 2, 3, 4, 5, 6, 7, 8, 9, 10, 11] rfl) (hD.sub [0, 1, 2, 3, 4, 5, 6, 7, 8, 9, 10, 11] (by decide) rfl) hS (lv_sub hl [0, 1, 2, 3, 4] rfl) hf)
  have B211 : ∀ (k192 : Int32 → Int32 → Int32 → Int32 → (Nat → Int32) → (Nat → Int32) → (Nat → Int32) → Option (Int32 × Int32 × Int32 × (Nat → Int32) × (Nat → Int32) × (Nat → Int32))) (hk192 : ∀ (y1 : Int32) (v0_newG : Int32) (v0_newL : Int32) (v0_newS : Int32) (c1 : (Nat → Int32)) (c2 : (Nat → Int32)) (c10 : (Nat → Int32)) (H : Heap) (locs : List Loc) (ls : Array Slot), va_P (dC, dI) vwCl (wX11_solve h0 h1 h2 h3 h4 h5 h6 h7 h8 h9 h10 h11 kc1 kc2 kc3 kc4 kc5 kc6 kc7 kc8 kc9 kc10 kc11 V0 v0_statements v0_newG v0_newL v0_newS c1 c2 c3 c4 c5 c6 c7 c8 c9 c10 c11) H → va_D A (wX11_solve h0 h1 h2 h3 h4 h5 h6 h7 h8 h9 h10 h11 kc1 kc2 kc3 kc4 kc5 kc6 kc7 kc8 kc9 kc10 kc11 V0 v0_statements v0_newG v0_newL v0_newS c1 c2 c3 c4 c5 c6 c7 c8 c9 c10 c11) → va_S A s.heap H locs → lv_has ls 7 [(0, .ref h0), (1, .int y1)] → k192 y1 v0_newG v0_newL v0_newS c1 c2 c10 = some o → G 0 0 H locs (F0 m 192 ls [])) (k205 : Int32 → Int32 → Int32 → Int32 → Int32 → (Nat → Int32) → (Nat → Int32) → (Nat → Int32) → Option (Int32 × Int32 × Int32 × (Nat → Int32) × (Nat → Int32) × (Nat → Int32))) (hk205 : ∀ (y1 : Int32) (y2 : Int32) (v0_newG : Int32) (v0_newL : Int32) (v0_newS : Int32) (c1 : (Nat → Int32)) (c2 : (Nat → Int32)) (c10 : (Nat → Int32)) (H : Heap) (locs : List Loc) (ls : Array Slot), va_P (dC, dI) vwCl (wX11_solve h0 h1 h2 h3 h4 h5 h6 h7 h8 h9 h10 h11 kc1 kc2 kc3 kc4 kc5 kc6 kc7 kc8 kc9 kc10 kc11 V0 v0_statements v0_newG v0_newL v0_newS c1 c2 c3 c4 c5 c6 c7 c8 c9 c10 c11) H → va_D A (wX11_solve h0 h1 h2 h3 h4 h5 h6 h7 h8 h9 h10 h11 kc1 kc2 kc3 kc4 kc5 kc6 kc7 kc8 kc9 kc10 kc11 V0 v0_statements v0_newG v0_newL v0_newS c1 c2 c3 c4 c5 c6 c7 c8 c9 c10 c11) → va_S A s.heap H locs → lv_has ls 7 [(0, .ref h0), (1, .int y1), (2, .int y2)] → k205 y1 y2 v0_newG v0_newL v0_newS c1 c2 c10 = some o → G 0 0 H locs (F0 m 205 ls [])) (k211 : Int32 → Int32 → Int32 → Int32 → Int32 → Int32 → (Nat → Int32) → (Nat → Int32) → (Nat → Int32) → Option (Int32 × Int32 × Int32 × (Nat → Int32) × (Nat → Int32) × (Nat → Int32))) (hk211 : ∀ (y1 : Int32) (y2 : Int32) (y3 : Int32) (v0_newG : Int32) (v0_newL : Int32) (v0_newS : Int32) (c1 : (Nat → Int32)) (c2 : (Nat → Int32)) (c10 : (Nat → Int32)) (H : Heap) (locs : List Loc) (ls : Array Slot), va_P (dC, dI) vwCl (wX11_solve h0 h1 h2 h3 h4 h5 h6 h7 h8 h9 h10 h11 kc1 kc2 kc3 kc4 kc5 kc6 kc7 kc8 kc9 kc10 kc11 V0 v0_statements v0_newG v0_newL v0_newS c1 c2 c3 c4 c5 c6 c7 c8 c9 c10 c11) H → va_D A (wX11_solve h0 h1 h2 h3 h4 h5 h6 h7 h8 h9 h10 h11 kc1 kc2 kc3 kc4 kc5 kc6 kc7 kc8 kc9 kc10 kc11 V0 v0_statements v0_newG v0_newL v0_newS c1 c2 c3 c4 c5 c6 c7 c8 c9 c10 c11) → va_S A s.heap H locs → lv_has ls 7 [(0, .ref h0), (1, .int y1), (2, .int y2), (3, .int y3)] → k211 y1 y2 y3 v0_newG v0_newL v0_newS c1 c2 c10 = some o → G 0 0 H locs (F0 m 211 ls [])), ∀ (y1 : Int32) (y2 : Int32) (y3 : Int32) (v0_newG : Int32) (v0_newL : Int32) (v0_newS : Int32) (c1 : (Nat → Int32)) (c2 : (Nat → Int32)) (c10 : (Nat → Int32)) (H : Heap) (locs : List Loc) (ls : Array Slot), va_P (dC, dI) vwCl (wX11_solve h0 h1 h2 h3 h4 h5 h6 h7 h8 h9 h10 h11 kc1 kc2 kc3 kc4 kc5 kc6 kc7 kc8 kc9 kc10 kc11 V0 v0_statements v0_newG v0_newL v0_newS c1 c2 c3 c4 c5 c6 c7 c8 c9 c10 c11) H → va_D A (wX11_solve h0 h1 h2 h3 h4 h5 h6 h7 h8 h9 h10 h11 kc1 kc2 kc3 kc4 kc5 kc6 kc7 kc8 kc9 kc10 kc11 V0 v0_statements v0_newG v0_newL v0_newS c1 c2 c3 c4 c5 c6 c7 c8 c9 c10 c11) → va_S A s.heap H locs → lv_has ls 7 [(0, .ref h0), (1, .int y1), (2, .int y2), (3, .int y3)] → fX11_solve_b211 v0_statements c3 c4 c5 c6 c7 c8 c9 c11 k192 k205 k211 y1 y2 y3 v0_newG v0_newL v0_newS c1 c2 c10 = some o → G 0 0 H locs (F0 m 211 ls []) := by
    intro k192 hk192 k205 hk205 k211 hk211 y1 y2 y3 v0_newG v0_newL v0_newS c1 c2 c10 H locs ls hP hD hS hl hf
    refine (hG _ _ _ _ _).mpr ?_
    unfold fX11_solve_b211 at hf
    refine lv_iload_n hx hb dX11_solve_211 rfl (lv_at hl 3 rfl) ?_
    refine lv_bipush (v := 32) hx hb dX11_solve_212 (by decide +kernel) ?_
    refine lv_icmp_ge (tgt := 301) hx hb dX11_solve_214 (by decide) (fun cq8 => ?_) (fun cq8 => ?_)
    · replace hf := if_at hf cq8
      obtain ⟨x9, e9⟩ : ∃ y : Int32, y = y2 + (-1) := ⟨_, rfl⟩
      replace hf := nm_at hf e9
      refine lv_iinc (v := x9) (lv' := [(2, .int x9), (0, .ref h0), (1, .int y1), (3, .int y3)]) hx hb dX11_solve_301 hl (k := 2) rfl (by rw [e9]; rfl) (by decide) rfl (fun ls hl => ?_)
      refine lv_goto (tgt := 205) hx hb dX11_solve_304 (by decide) ?_
      exact (hG _ _ _ _ _).mp (hk205 y1 x9 v0_newG v0_newL v0_newS c1 c2 c10 H locs ls (hP.sub [0, 1, 2, 3, 4, 5, 6, 7, 8, 9, 10, 11] rfl) (hD.sub [0, 1, 2, 3, 4, 5, 6, 7, 8, 9, 10, 11] (by decide) rfl) hS (lv_sub hl [1, 2, 0] rfl) hf)
    · replace hf := if_no hf cq8
      refine lv_iload_n hx hb dX11_solve_217 rfl (lv_at hl 3 rfl) ?_
      refine lv_iconst (v := 2) hx hb dX11_solve_218 (by decide +kernel) ?_
      refine lv_ishr hx hb dX11_solve_219 ?_
      refine lv_topi (fun x10 e10 => ?_)
      replace hf := nm_at hf e10
      refine lv_iload_n hx hb dX11_solve_220 rfl (lv_at hl 2 rfl) ?_
      refine lv_iload_n hx hb dX11_solve_221 rfl (lv_at hl 3 rfl) ?_
      refine lv_iconst (v := 3) hx hb dX11_solve_222 (by decide +kernel) ?_
      refine lv_iand hx hb dX11_solve_223 ?_
      refine lv_topi (fun x11 e11 => ?_)
      replace hf := nm_at hf e11
      obtain ⟨o12, e12, hf⟩ := ob_some hf
      refine kSi (As := [.int x10, .int y2, .int x11]) (rest := []) ⟨hx, hb, hml, hown, hts⟩ (mX11_at l dC dI H.size base x10 y2 x11 o12 e12) (va_cwS 3 hts (gTS q1112 q1113 q5 q1114) rfl rfl rfl (by decide +kernel) ⟨Nat.le_of_ble_eq_true rfl, Nat.le_of_ble_eq_true rfl⟩) hK hP hD hS hA hE hAB [] [0, 1, 2, 3, 4, 5, 6, 7, 8, 9, 10, 11] [] (wr := (wX11_solve h0 h1 h2 h3 h4 h5 h6 h7 h8 h9 h10 h11 kc1 kc2 kc3 kc4 kc5 kc6 kc7 kc8 kc9 kc10 kc11 V0 v0_statements v0_newG v0_newL v0_newS c1 c2 c3 c4 c5 c6 c7 c8 c9 c10 c11)) rfl rfl (by decide) (by decide) (by decide) rfl rfl hl.1 rfl (Nat.le_of_ble_eq_true rfl) dX11_solve_224 ⟨Nat.zero_le _, Nat.zero_le _⟩ (fun r12 u12 H locs hw12 hP hD hS => ?_)
      obtain ⟨hw121, hw122⟩ := hw12
      subst hw121 hw122
      have hP : va_P (dC, dI) vwCl (wX11_solve h0 h1 h2 h3 h4 h5 h6 h7 h8 h9 h10 h11 kc1 kc2 kc3 kc4 kc5 kc6 kc7 kc8 kc9 kc10 kc11 V0 v0_statements v0_newG v0_newL v0_newS c1 c2 c3 c4 c5 c6 c7 c8 c9 c10 c11) H := hP.sub [0, 1, 2, 3, 4, 5, 6, 7, 8, 9, 10, 11] rfl
      have hD : va_D A (wX11_solve h0 h1 h2 h3 h4 h5 h6 h7 h8 h9 h10 h11 kc1 kc2 kc3 kc4 kc5 kc6 kc7 kc8 kc9 kc10 kc11 V0 v0_statements v0_newG v0_newL v0_newS c1 c2 c3 c4 c5 c6 c7 c8 c9 c10 c11) := hD.sub [0, 1, 2, 3, 4, 5, 6, 7, 8, 9, 10, 11] (by decide) rfl
      refine lv_istore (lv' := [(4, .int o12.1), (0, .ref h0), (1, .int y1), (2, .int y2), (3, .int y3)]) hx hb dX11_solve_227 hl (by decide) rfl (fun ls hl => ?_)
      refine lv_aload_n hx hb dX11_solve_229 rfl (lv_at hl 1 rfl) ?_
      refine lv_iload_n hx hb dX11_solve_230 rfl (lv_at hl 4 rfl) ?_
      refine lv_iconst (v := 2) hx hb dX11_solve_231 (by decide +kernel) ?_
      refine lv_ishr hx hb dX11_solve_232 ?_
      refine lv_topi (fun x13 e13 => ?_)
      replace hf := nm_at hf e13
      refine lv_iload_n hx hb dX11_solve_233 rfl (lv_at hl 3 rfl) ?_
      refine lv_iload_n hx hb dX11_solve_234 rfl (lv_at hl 4 rfl) ?_
      refine lv_iconst (v := 3) hx hb dX11_solve_235 (by decide +kernel) ?_
      refine lv_iand hx hb dX11_solve_236 ?_
      refine lv_topi (fun x14 e14 => ?_)
      replace hf := nm_at hf e14
      obtain ⟨o15, e15, hf⟩ := ob_some hf
      refine kVi (As := [.int x13, .int y2, .int x14]) (rest := []) ⟨hx, hb, hml, hown, hts⟩ (mX11_failCost l dC dI h0 h3 h4 h2 h5 h6 h1 h7 h8 h9 h10 h11 kc3 kc4 kc2 kc5 kc6 kc1 kc7 kc8 kc9 kc10 kc11 H.size base x13 y2 x14 v0_newG v0_newL v0_newS c3 c4 c2 c5 c6 c1 c7 c8 c9 c10 c11 (fun k => match k with | 30 => .int v0_statements | k => V0 k) o15 e15) (cwV 3 hts (gTV q1134 q1135 q1136 q5 q1137) rfl rfl rfl (by decide +kernel) ⟨Nat.le_of_ble_eq_true rfl, Nat.le_of_ble_eq_true rfl⟩) hK hP hD hS hA hE hAB [0, 3, 4, 2, 5, 6, 1, 7, 8, 9, 10, 11] [] [2, 3, 1, 4, 5, 0, 6, 7, 8, 9, 10] (wr := []) rfl rfl (by decide) (by decide) (by decide) rfl (ci := 11) (q0 := 0) rfl rfl rfl rfl hl.1 rfl (Nat.le_of_ble_eq_true rfl) dX11_solve_237 ⟨Nat.zero_le _, Nat.zero_le _⟩ (fun r15 u15 H locs hw15 hP hD hS => ?_)
      obtain ⟨hw151, hw152⟩ := hw15
      subst hw151 hw152
      have hP : va_P (dC, dI) vwCl (wX11_solve h0 h1 h2 h3 h4 h5 h6 h7 h8 h9 h10 h11 kc1 kc2 kc3 kc4 kc5 kc6 kc7 kc8 kc9 kc10 kc11 V0 v0_statements o15.2.1 o15.2.2.1 o15.2.2.2.1 c1 c2 c3 c4 c5 c6 c7 c8 c9 o15.2.2.2.2 c11) H := hP.sub [0, 6, 3, 1, 2, 4, 5, 7, 8, 9, 10, 11] rfl
      have hD : va_D A (wX11_solve h0 h1 h2 h3 h4 h5 h6 h7 h8 h9 h10 h11 kc1 kc2 kc3 kc4 kc5 kc6 kc7 kc8 kc9 kc10 kc11 V0 v0_statements o15.2.1 o15.2.2.1 o15.2.2.2.1 c1 c2 c3 c4 c5 c6 c7 c8 c9 o15.2.2.2.2 c11) := hD.sub [0, 6, 3, 1, 2, 4, 5, 7, 8, 9, 10, 11] (by decide) rfl
      refine lv_istore (lv' := [(5, .int o15.1), (4, .int o12.1), (0, .ref h0), (1, .int y1), (2, .int y2), (3, .int y3)]) hx hb dX11_solve_240 hl (by decide) rfl (fun ls hl => ?_)
      refine lv_iload_n hx hb dX11_solve_242 rfl (lv_at hl 3 rfl) ?_
      refine lv_if_ne (tgt := 258) hx hb dX11_solve_243 (by decide) (fun cq16 => ?_) (fun cq16 => ?_)
      · replace hf := if_no hf cq16
        exact (hG _ _ _ _ _).mp (J258 k192 hk192 k205 hk205 k211 hk211 y2 y3 o12.1 o15.1 o15.2.1 o15.2.2.1 o15.2.2.2.1 c1 c2 o15.2.2.2.2 H locs ls (hP.sub [0, 1, 2, 3, 4, 5, 6, 7, 8, 9, 10, 11] rfl) (hD.sub [0, 1, 2, 3, 4, 5, 6, 7, 8, 9, 10, 11] (by decide) rfl) hS (lv_sub hl [2, 4, 5, 1, 0] rfl) hf)
      · replace hf := if_at hf cq16
        refine lv_iload hx hb dX11_solve_246 (lv_at hl 0 rfl) ?_
        refine lv_aload_n hx hb dX11_solve_248 rfl (lv_at hl 2 rfl) ?_
        refine va_get (D := (dC, dI)) (ci := 11) (v := .ref h2) (C := RX11) (T := TX11) (N := 71) hx hb hts inlX11 hown hK hP 0 rfl rfl 61 (by decide) w0_ (fun _ h9 => h9) rfl dX11_solve_249 ?_
        refine lv_iload hx hb dX11_solve_252 (lv_at hl 1 rfl) ?_
        have b17 := bd_in hf
        replace hf := bd_k hf
        refine va_iald hx hb hK hP 2 1 rfl rfl b17 dX11_solve_254 ?_
        refine lv_topi (fun x18 e18 => ?_)
        replace hf := nm_at hf e18
        refine lv_icmp_ge (tgt := 262) hx hb dX11_solve_255 (by decide) (fun cq19 => ?_) (fun cq19 => ?_)
        · replace hf := if_at hf cq19
          refine lv_iconst (v := 0) hx hb dX11_solve_262 (by decide +kernel) ?_
          exact (hG _ _ _ _ _).mp (J263 k192 hk192 k205 hk205 k211 hk211 y2 y3 o12.1 o15.1 0 o15.2.1 o15.2.2.1 o15.2.2.2.1 c1 c2 o15.2.2.2.2 H locs ls (hP.sub [0, 1, 2, 3, 4, 5, 6, 7, 8, 9, 10, 11] rfl) (hD.sub [0, 1, 2, 3, 4, 5, 6, 7, 8, 9, 10, 11] (by decide) rfl) hS (lv_sub hl [2, 4, 5, 1, 0] rfl) hf)
        · replace hf := if_no hf cq19
          exact (hG _ _ _ _ _).mp (J258 k192 hk192 k205 hk205 k211 hk211 y2 y3 o12.1 o15.1 o15.2.1 o15.2.2.1 o15.2.2.2.1 c1 c2 o15.2.2.2.2 H locs ls (hP.sub [0, 1, 2, 3, 4, 5, 6, 7, 8, 9, 10, 11] rfl) (hD.sub [0, 1, 2, 3, 4, 5, 6, 7, 8, 9, 10, 11] (by decide) rfl) hS (lv_sub hl [2, 4, 5, 1, 0] rfl) hf)
  have L211 : ∀ (k192 : Int32 → Int32 → Int32 → Int32 → (Nat → Int32) → (Nat → Int32) → (Nat → Int32) → Option (Int32 × Int32 × Int32 × (Nat → Int32) × (Nat → Int32) × (Nat → Int32))) (hk192 : ∀ (y1 : Int32) (v0_newG : Int32) (v0_newL : Int32) (v0_newS : Int32) (c1 : (Nat → Int32)) (c2 : (Nat → Int32)) (c10 : (Nat → Int32)) (H : Heap) (locs : List Loc) (ls : Array Slot), va_P (dC, dI) vwCl (wX11_solve h0 h1 h2 h3 h4 h5 h6 h7 h8 h9 h10 h11 kc1 kc2 kc3 kc4 kc5 kc6 kc7 kc8 kc9 kc10 kc11 V0 v0_statements v0_newG v0_newL v0_newS c1 c2 c3 c4 c5 c6 c7 c8 c9 c10 c11) H → va_D A (wX11_solve h0 h1 h2 h3 h4 h5 h6 h7 h8 h9 h10 h11 kc1 kc2 kc3 kc4 kc5 kc6 kc7 kc8 kc9 kc10 kc11 V0 v0_statements v0_newG v0_newL v0_newS c1 c2 c3 c4 c5 c6 c7 c8 c9 c10 c11) → va_S A s.heap H locs → lv_has ls 7 [(0, .ref h0), (1, .int y1)] → k192 y1 v0_newG v0_newL v0_newS c1 c2 c10 = some o → G 0 0 H locs (F0 m 192 ls [])) (k205 : Int32 → Int32 → Int32 → Int32 → Int32 → (Nat → Int32) → (Nat → Int32) → (Nat → Int32) → Option (Int32 × Int32 × Int32 × (Nat → Int32) × (Nat → Int32) × (Nat → Int32))) (hk205 : ∀ (y1 : Int32) (y2 : Int32) (v0_newG : Int32) (v0_newL : Int32) (v0_newS : Int32) (c1 : (Nat → Int32)) (c2 : (Nat → Int32)) (c10 : (Nat → Int32)) (H : Heap) (locs : List Loc) (ls : Array Slot), va_P (dC, dI) vwCl (wX11_solve h0 h1 h2 h3 h4 h5 h6 h7 h8 h9 h10 h11 kc1 kc2 kc3 kc4 kc5 kc6 kc7 kc8 kc9 kc10 kc11 V0 v0_statements v0_newG v0_newL v0_newS c1 c2 c3 c4 c5 c6 c7 c8 c9 c10 c11) H → va_D A (wX11_solve h0 h1 h2 h3 h4 h5 h6 h7 h8 h9 h10 h11 kc1 kc2 kc3 kc4 kc5 kc6 kc7 kc8 kc9 kc10 kc11 V0 v0_statements v0_newG v0_newL v0_newS c1 c2 c3 c4 c5 c6 c7 c8 c9 c10 c11) → va_S A s.heap H locs → lv_has ls 7 [(0, .ref h0), (1, .int y1), (2, .int y2)] → k205 y1 y2 v0_newG v0_newL v0_newS c1 c2 c10 = some o → G 0 0 H locs (F0 m 205 ls [])) (n : Nat), ∀ (y1 : Int32) (y2 : Int32) (y3 : Int32) (v0_newG : Int32) (v0_newL : Int32) (v0_newS : Int32) (c1 : (Nat → Int32)) (c2 : (Nat → Int32)) (c10 : (Nat → Int32)) (H : Heap) (locs : List Loc) (ls : Array Slot), va_P (dC, dI) vwCl (wX11_solve h0 h1 h2 h3 h4 h5 h6 h7 h8 h9 h10 h11 kc1 kc2 kc3 kc4 kc5 kc6 kc7 kc8 kc9 kc10 kc11 V0 v0_statements v0_newG v0_newL v0_newS c1 c2 c3 c4 c5 c6 c7 c8 c9 c10 c11) H → va_D A (wX11_solve h0 h1 h2 h3 h4 h5 h6 h7 h8 h9 h10 h11 kc1 kc2 kc3 kc4 kc5 kc6 kc7 kc8 kc9 kc10 kc11 V0 v0_statements v0_newG v0_newL v0_newS c1 c2 c3 c4 c5 c6 c7 c8 c9 c10 c11) → va_S A s.heap H locs → lv_has ls 7 [(0, .ref h0), (1, .int y1), (2, .int y2), (3, .int y3)] → fX11_solve_l211 v0_statements c3 c4 c5 c6 c7 c8 c9 c11 k192 k205 n y1 y2 y3 v0_newG v0_newL v0_newS c1 c2 c10 = some o → G 0 0 H locs (F0 m 211 ls []) := by
    intro k192 hk192 k205 hk205 n
    induction n with
    | zero => intro y1 y2 y3 v0_newG v0_newL v0_newS c1 c2 c10 H locs ls _ _ _ _ hf; cases hf
    | succ n ih => exact B211 k192 hk192 k205 hk205 _ ih
  have B205 : ∀ (k192 : Int32 → Int32 → Int32 → Int32 → (Nat → Int32) → (Nat → Int32) → (Nat → Int32) → Option (Int32 × Int32 × Int32 × (Nat → Int32) × (Nat → Int32) × (Nat → Int32))) (hk192 : ∀ (y1 : Int32) (v0_newG : Int32) (v0_newL : Int32) (v0_newS : Int32) (c1 : (Nat → Int32)) (c2 : (Nat → Int32)) (c10 : (Nat → Int32)) (H : Heap) (locs : List Loc) (ls : Array Slot), va_P (dC, dI) vwCl (wX11_solve h0 h1 h2 h3 h4 h5 h6 h7 h8 h9 h10 h11 kc1 kc2 kc3 kc4 kc5 kc6 kc7 kc8 kc9 kc10 kc11 V0 v0_statements v0_newG v0_newL v0_newS c1 c2 c3 c4 c5 c6 c7 c8 c9 c10 c11) H → va_D A (wX11_solve h0 h1 h2 h3 h4 h5 h6 h7 h8 h9 h10 h11 kc1 kc2 kc3 kc4 kc5 kc6 kc7 kc8 kc9 kc10 kc11 V0 v0_statements v0_newG v0_newL v0_newS c1 c2 c3 c4 c5 c6 c7 c8 c9 c10 c11) → va_S A s.heap H locs → lv_has ls 7 [(0, .ref h0), (1, .int y1)] → k192 y1 v0_newG v0_newL v0_newS c1 c2 c10 = some o → G 0 0 H locs (F0 m 192 ls [])) (k205 : Int32 → Int32 → Int32 → Int32 → Int32 → (Nat → Int32) → (Nat → Int32) → (Nat → Int32) → Option (Int32 × Int32 × Int32 × (Nat → Int32) × (Nat → Int32) × (Nat → Int32))) (hk205 : ∀ (y1 : Int32) (y2 : Int32) (v0_newG : Int32) (v0_newL : Int32) (v0_newS : Int32) (c1 : (Nat → Int32)) (c2 : (Nat → Int32)) (c10 : (Nat → Int32)) (H : Heap) (locs : List Loc) (ls : Array Slot), va_P (dC, dI) vwCl (wX11_solve h0 h1 h2 h3 h4 h5 h6 h7 h8 h9 h10 h11 kc1 kc2 kc3 kc4 kc5 kc6 kc7 kc8 kc9 kc10 kc11 V0 v0_statements v0_newG v0_newL v0_newS c1 c2 c3 c4 c5 c6 c7 c8 c9 c10 c11) H → va_D A (wX11_solve h0 h1 h2 h3 h4 h5 h6 h7 h8 h9 h10 h11 kc1 kc2 kc3 kc4 kc5 kc6 kc7 kc8 kc9 kc10 kc11 V0 v0_statements v0_newG v0_newL v0_newS c1 c2 c3 c4 c5 c6 c7 c8 c9 c10 c11) → va_S A s.heap H locs → lv_has ls 7 [(0, .ref h0), (1, .int y1), (2, .int y2)] → k205 y1 y2 v0_newG v0_newL v0_newS c1 c2 c10 = some o → G 0 0 H locs (F0 m 205 ls [])), ∀ (y1 : Int32) (y2 : Int32) (v0_newG : Int32) (v0_newL : Int32) (v0_newS : Int32) (c1 : (Nat → Int32)) (c2 : (Nat → Int32)) (c10 : (Nat → Int32)) (H : Heap) (locs : List Loc) (ls : Array Slot), va_P (dC, dI) vwCl (wX11_solve h0 h1 h2 h3 h4 h5 h6 h7 h8 h9 h10 h11 kc1 kc2 kc3 kc4 kc5 kc6 kc7 kc8 kc9 kc10 kc11 V0 v0_statements v0_newG v0_newL v0_newS c1 c2 c3 c4 c5 c6 c7 c8 c9 c10 c11) H → va_D A (wX11_solve h0 h1 h2 h3 h4 h5 h6 h7 h8 h9 h10 h11 kc1 kc2 kc3 kc4 kc5 kc6 kc7 kc8 kc9 kc10 kc11 V0 v0_statements v0_newG v0_newL v0_newS c1 c2 c3 c4 c5 c6 c7 c8 c9 c10 c11) → va_S A s.heap H locs → lv_has ls 7 [(0, .ref h0), (1, .int y1), (2, .int y2)] → fX11_solve_b205 v0_statements c3 c4 c5 c6 c7 c8 c9 c11 k192 k205 y1 y2 v0_newG v0_newL v0_newS c1 c2 c10 = some o → G 0 0 H locs (F0 m 205 ls []) := by
    intro k192 hk192 k205 hk205 y1 y2 v0_newG v0_newL v0_newS c1 c2 c10 H locs ls hP hD hS hl hf
    refine (hG _ _ _ _ _).mpr ?_
    unfold fX11_solve_b205 at hf
    refine lv_iload_n hx hb dX11_solve_205 rfl (lv_at hl 2 rfl) ?_
    refine lv_if_lt (tgt := 307) hx hb dX11_solve_206 (by decide) (fun cq20 => ?_) (fun cq20 => ?_)
    · replace hf := if_at hf cq20
      refine lv_goto (tgt := 192) hx hb dX11_solve_307 (by decide) ?_
      exact (hG _ _ _ _ _).mp (hk192 y1 v0_newG v0_newL v0_newS c1 c2 c10 H locs ls (hP.sub [0, 1, 2, 3, 4, 5, 6, 7, 8, 9, 10, 11] rfl) (hD.sub [0, 1, 2, 3, 4, 5, 6, 7, 8, 9, 10, 11] (by decide) rfl) hS (lv_sub hl [0, 1] rfl) hf)
    · replace hf := if_no hf cq20
      refine lv_iconst (v := 0) hx hb dX11_solve_209 (by decide +kernel) ?_
      refine lv_istore_n (lv' := [(3, .int 0), (0, .ref h0), (1, .int y1), (2, .int y2)]) hx hb dX11_solve_210 rfl hl (by decide) rfl (fun ls hl => ?_)
      exact (hG _ _ _ _ _).mp (L211 k192 hk192 k205 hk205 FU y1 y2 0 v0_newG v0_newL v0_newS c1 c2 c10 H locs ls (hP.sub [0, 1, 2, 3, 4, 5, 6, 7, 8, 9, 10, 11] rfl) (hD.sub [0, 1, 2, 3, 4, 5, 6, 7, 8, 9, 10, 11] (by decide) rfl) hS (lv_sub hl [1, 2, 3, 0] rfl) hf)
  have L205 : ∀ (k192 : Int32 → Int32 → Int32 → Int32 → (Nat → Int32) → (Nat → Int32) → (Nat → Int32) → Option (Int32 × Int32 × Int32 × (Nat → Int32) × (Nat → Int32) × (Nat → Int32))) (hk192 : ∀ (y1 : Int32) (v0_newG : Int32) (v0_newL : Int32) (v0_newS : Int32) (c1 : (Nat → Int32)) (c2 : (Nat → Int32)) (c10 : (Nat → Int32)) (H : Heap) (locs : List Loc) (ls : Array Slot), va_P (dC, dI) vwCl (wX11_solve h0 h1 h2 h3 h4 h5 h6 h7 h8 h9 h10 h11 kc1 kc2 kc3 kc4 kc5 kc6 kc7 kc8 kc9 kc10 kc11 V0 v0_statements v0_newG v0_newL v0_newS c1 c2 c3 c4 c5 c6 c7 c8 c9 c10 c11) H → va_D A (wX11_solve h0 h1 h2 h3 h4 h5 h6 h7 h8 h9 h10 h11 kc1 kc2 kc3 kc4 kc5 kc6 kc7 kc8 kc9 kc10 kc11 V0 v0_statements v0_newG v0_newL v0_newS c1 c2 c3 c4 c5 c6 c7 c8 c9 c10 c11) → va_S A s.heap H locs → lv_has ls 7 [(0, .ref h0), (1, .int y1)] → k192 y1 v0_newG v0_newL v0_newS c1 c2 c10 = some o → G 0 0 H locs (F0 m 192 ls [])) (n : Nat), ∀ (y1 : Int32) (y2 : Int32) (v0_newG : Int32) (v0_newL : Int32) (v0_newS : Int32) (c1 : (Nat → Int32)) (c2 : (Nat → Int32)) (c10 : (Nat → Int32)) (H : Heap) (locs : List Loc) (ls : Array Slot), va_P (dC, dI) vwCl (wX11_solve h0 h1 h2 h3 h4 h5 h6 h7 h8 h9 h10 h11 kc1 kc2 kc3 kc4 kc5 kc6 kc7 kc8 kc9 kc10 kc11 V0 v0_statements v0_newG v0_newL v0_newS c1 c2 c3 c4 c5 c6 c7 c8 c9 c10 c11) H → va_D A (wX11_solve h0 h1 h2 h3 h4 h5 h6 h7 h8 h9 h10 h11 kc1 kc2 kc3 kc4 kc5 kc6 kc7 kc8 kc9 kc10 kc11 V0 v0_statements v0_newG v0_newL v0_newS c1 c2 c3 c4 c5 c6 c7 c8 c9 c10 c11) → va_S A s.heap H locs → lv_has ls 7 [(0, .ref h0), (1, .int y1), (2, .int y2)] → fX11_solve_l205 v0_statements c3 c4 c5 c6 c7 c8 c9 c11 k192 n y1 y2 v0_newG v0_newL v0_newS c1 c2 c10 = some o → G 0 0 H locs (F0 m 205 ls []) := by
    intro k192 hk192 n
    induction n with
    | zero => intro y1 y2 v0_newG v0_newL v0_newS c1 c2 c10 H locs ls _ _ _ _ hf; cases hf
    | succ n ih => exact B205 k192 hk192 _ ih
  have B192 : ∀ (k192 : Int32 → Int32 → Int32 → Int32 → (Nat → Int32) → (Nat → Int32) → (Nat → Int32) → Option (Int32 × Int32 × Int32 × (Nat → Int32) × (Nat → Int32) × (Nat → Int32))) (hk192 : ∀ (y1 : Int32) (v0_newG : Int32) (v0_newL : Int32) (v0_newS : Int32) (c1 : (Nat → Int32)) (c2 : (Nat → Int32)) (c10 : (Nat → Int32)) (H : Heap) (locs : List Loc) (ls : Array Slot), va_P (dC, dI) vwCl (wX11_solve h0 h1 h2 h3 h4 h5 h6 h7 h8 h9 h10 h11 kc1 kc2 kc3 kc4 kc5 kc6 kc7 kc8 kc9 kc10 kc11 V0 v0_statements v0_newG v0_newL v0_newS c1 c2 c3 c4 c5 c6 c7 c8 c9 c10 c11) H → va_D A (wX11_solve h0 h1 h2 h3 h4 h5 h6 h7 h8 h9 h10 h11 kc1 kc2 kc3 kc4 kc5 kc6 kc7 kc8 kc9 kc10 kc11 V0 v0_statements v0_newG v0_newL v0_newS c1 c2 c3 c4 c5 c6 c7 c8 c9 c10 c11) → va_S A s.heap H locs → lv_has ls 7 [(0, .ref h0), (1, .int y1)] → k192 y1 v0_newG v0_newL v0_newS c1 c2 c10 = some o → G 0 0 H locs (F0 m 192 ls [])), ∀ (y1 : Int32) (v0_newG : Int32) (v0_newL : Int32) (v0_newS : Int32) (c1 : (Nat → Int32)) (c2 : (Nat → Int32)) (c10 : (Nat → Int32)) (H : Heap) (locs : List Loc) (ls : Array Slot), va_P (dC, dI) vwCl (wX11_solve h0 h1 h2 h3 h4 h5 h6 h7 h8 h9 h10 h11 kc1 kc2 kc3 kc4 kc5 kc6 kc7 kc8 kc9 kc10 kc11 V0 v0_statements v0_newG v0_newL v0_newS c1 c2 c3 c4 c5 c6 c7 c8 c9 c10 c11) H → va_D A (wX11_solve h0 h1 h2 h3 h4 h5 h6 h7 h8 h9 h10 h11 kc1 kc2 kc3 kc4 kc5 kc6 kc7 kc8 kc9 kc10 kc11 V0 v0_statements v0_newG v0_newL v0_newS c1 c2 c3 c4 c5 c6 c7 c8 c9 c10 c11) → va_S A s.heap H locs → lv_has ls 7 [(0, .ref h0), (1, .int y1)] → fX11_solve_b192 v0_statements c3 c4 c5 c6 c7 c8 c9 c11  k192 y1 v0_newG v0_newL v0_newS c1 c2 c10 = some o → G 0 0 H locs (F0 m 192 ls []) := by
    intro  k192 hk192 y1 v0_newG v0_newL v0_newS c1 c2 c10 H locs ls hP hD hS hl hf
    refine (hG _ _ _ _ _).mpr ?_
    unfold fX11_solve_b192 at hf
    refine lv_iload_n hx hb dX11_solve_192 rfl (lv_at hl 1 rfl) ?_
    refine lv_if_eq (tgt := 310) hx hb dX11_solve_193 (by decide) (fun cq21 => ?_) (fun cq21 => ?_)
    · replace hf := if_at hf cq21
      have hf1 := Option.some.inj hf
      subst hf1
      have hP9 := hP.sub (ws' := (wX11_solve h0 h1 h2 h3 h4 h5 h6 h7 h8 h9 h10 h11 kc1 kc2 kc3 kc4 kc5 kc6 kc7 kc8 kc9 kc10 kc11 V0 v0_statements v0_newG v0_newL v0_newS c1 c2 c3 c4 c5 c6 c7 c8 c9 c10 c11)) [0, 1, 2, 3, 4, 5, 6, 7, 8, 9, 10, 11] rfl
      have hD9 := hD.sub (ws' := (wX11_solve h0 h1 h2 h3 h4 h5 h6 h7 h8 h9 h10 h11 kc1 kc2 kc3 kc4 kc5 kc6 kc7 kc8 kc9 kc10 kc11 V0 v0_statements v0_newG v0_newL v0_newS c1 c2 c3 c4 c5 c6 c7 c8 c9 c10 c11)) [0, 1, 2, 3, 4, 5, 6, 7, 8, 9, 10, 11] (by decide) rfl
      exact W.vret hx hb hr (fun t ht hW => ⟨⟨(v0_newG, v0_newL, v0_newS, c1, c2, c10), rfl, rfl, by rw [ht]; exact hP9, va_K.moved hW.alike hK, hD9⟩, hS.F ht⟩) hS.2.2 dX11_solve_310
    · replace hf := if_no hf cq21
      refine lv_iconst (v := 0) hx hb dX11_solve_196 (by decide +kernel) ?_
      refine lv_istore_n (lv' := [(1, .int 0), (0, .ref h0)]) hx hb dX11_solve_197 rfl hl (by decide) rfl (fun ls hl => ?_)
      refine lv_aload_n hx hb dX11_solve_198 rfl (lv_at hl 1 rfl) ?_
      refine va_get (D := (dC, dI)) (ci := 11) (v := .int v0_statements) (C := RX11) (T := TX11) (N := 71) hx hb hts inlX11 hown hK hP 0 rfl rfl 30 (by decide) w1_ (fun _ h9 => h9) rfl dX11_solve_199 ?_
      refine lv_iconst (v := 1) hx hb dX11_solve_202 (by decide +kernel) ?_
      refine lv_isub hx hb dX11_solve_203 ?_
      refine lv_topi (fun x22 e22 => ?_)
      replace hf := nm_at hf e22
      refine lv_istore_n (lv' := [(2, .int x22), (1, .int 0), (0, .ref h0)]) hx hb dX11_solve_204 rfl hl (by decide) rfl (fun ls hl => ?_)
      exact (hG _ _ _ _ _).mp (L205 k192 hk192 FU 0 x22 v0_newG v0_newL v0_newS c1 c2 c10 H locs ls (hP.sub [0, 1, 2, 3, 4, 5, 6, 7, 8, 9, 10, 11] rfl) (hD.sub [0, 1, 2, 3, 4, 5, 6, 7, 8, 9, 10, 11] (by decide) rfl) hS (lv_sub hl [2, 1, 0] rfl) hf)
  have L192 : ∀ (n : Nat), ∀ (y1 : Int32) (v0_newG : Int32) (v0_newL : Int32) (v0_newS : Int32) (c1 : (Nat → Int32)) (c2 : (Nat → Int32)) (c10 : (Nat → Int32)) (H : Heap) (locs : List Loc) (ls : Array Slot), va_P (dC, dI) vwCl (wX11_solve h0 h1 h2 h3 h4 h5 h6 h7 h8 h9 h10 h11 kc1 kc2 kc3 kc4 kc5 kc6 kc7 kc8 kc9 kc10 kc11 V0 v0_statements v0_newG v0_newL v0_newS c1 c2 c3 c4 c5 c6 c7 c8 c9 c10 c11) H → va_D A (wX11_solve h0 h1 h2 h3 h4 h5 h6 h7 h8 h9 h10 h11 kc1 kc2 kc3 kc4 kc5 kc6 kc7 kc8 kc9 kc10 kc11 V0 v0_statements v0_newG v0_newL v0_newS c1 c2 c3 c4 c5 c6 c7 c8 c9 c10 c11) → va_S A s.heap H locs → lv_has ls 7 [(0, .ref h0), (1, .int y1)] → fX11_solve_l192 v0_statements c3 c4 c5 c6 c7 c8 c9 c11  n y1 v0_newG v0_newL v0_newS c1 c2 c10 = some o → G 0 0 H locs (F0 m 192 ls []) := by
    intro  n
    induction n with
    | zero => intro y1 v0_newG v0_newL v0_newS c1 c2 c10 H locs ls _ _ _ _ hf; cases hf
    | succ n ih => exact B192  _ ih
  have J168 : ∀ (k48 : Int32 → Int32 → Int32 → Int32 → (Nat → Int32) → (Nat → Int32) → (Nat → Int32) → Option (Int32 × Int32 × Int32 × (Nat → Int32) × (Nat → Int32) × (Nat → Int32))) (hk48 : ∀ (y1 : Int32) (v0_newG : Int32) (v0_newL : Int32) (v0_newS : Int32) (c1 : (Nat → Int32)) (c2 : (Nat → Int32)) (c10 : (Nat → Int32)) (H : Heap) (locs : List Loc) (ls : Array Slot), va_P (dC, dI) vwCl (wX11_solve h0 h1 h2 h3 h4 h5 h6 h7 h8 h9 h10 h11 kc1 kc2 kc3 kc4 kc5 kc6 kc7 kc8 kc9 kc10 kc11 V0 v0_statements v0_newG v0_newL v0_newS c1 c2 c3 c4 c5 c6 c7 c8 c9 c10 c11) H → va_D A (wX11_solve h0 h1 h2 h3 h4 h5 h6 h7 h8 h9 h10 h11 kc1 kc2 kc3 kc4 kc5 kc6 kc7 kc8 kc9 kc10 kc11 V0 v0_statements v0_newG v0_newL v0_newS c1 c2 c3 c4 c5 c6 c7 c8 c9 c10 c11) → va_S A s.heap H locs → lv_has ls 7 [(0, .ref h0), (1, .int y1)] → k48 y1 v0_newG v0_newL v0_newS c1 c2 c10 = some o → G 0 0 H locs (F0 m 48 ls [])) (k61 : Int32 → Int32 → Int32 → Int32 → Int32 → (Nat → Int32) → (Nat → Int32) → (Nat → Int32) → Option (Int32 × Int32 × Int32 × (Nat → Int32) × (Nat → Int32) × (Nat → Int32))) (hk61 : ∀ (y1 : Int32) (y2 : Int32) (v0_newG : Int32) (v0_newL : Int32) (v0_newS : Int32) (c1 : (Nat → Int32)) (c2 : (Nat → Int32)) (c10 : (Nat → Int32)) (H : Heap) (locs : List Loc) (ls : Array Slot), va_P (dC, dI) vwCl (wX11_solve h0 h1 h2 h3 h4 h5 h6 h7 h8 h9 h10 h11 kc1 kc2 kc3 kc4 kc5 kc6 kc7 kc8 kc9 kc10 kc11 V0 v0_statements v0_newG v0_newL v0_newS c1 c2 c3 c4 c5 c6 c7 c8 c9 c10 c11) H → va_D A (wX11_solve h0 h1 h2 h3 h4 h5 h6 h7 h8 h9 h10 h11 kc1 kc2 kc3 kc4 kc5 kc6 kc7 kc8 kc9 kc10 kc11 V0 v0_statements v0_newG v0_newL v0_newS c1 c2 c3 c4 c5 c6 c7 c8 c9 c10 c11) → va_S A s.heap H locs → lv_has ls 7 [(0, .ref h0), (1, .int y1), (2, .int y2)] → k61 y1 y2 v0_newG v0_newL v0_newS c1 c2 c10 = some o → G 0 0 H locs (F0 m 61 ls [])) (k67 : Int32 → Int32 → Int32 → Int32 → Int32 → Int32 → (Nat → Int32) → (Nat → Int32) → (Nat → Int32) → Option (Int32 × Int32 × Int32 × (Nat → Int32) × (Nat → Int32) × (Nat → Int32))) (hk67 : ∀ (y1 : Int32) (y2 : Int32) (y3 : Int32) (v0_newG : Int32) (v0_newL : Int32) (v0_newS : Int32) (c1 : (Nat → Int32)) (c2 : (Nat → Int32)) (c10 : (Nat → Int32)) (H : Heap) (locs : List Loc) (ls : Array Slot), va_P (dC, dI) vwCl (wX11_solve h0 h1 h2 h3 h4 h5 h6 h7 h8 h9 h10 h11 kc1 kc2 kc3 kc4 kc5 kc6 kc7 kc8 kc9 kc10 kc11 V0 v0_statements v0_newG v0_newL v0_newS c1 c2 c3 c4 c5 c6 c7 c8 c9 c10 c11) H → va_D A (wX11_solve h0 h1 h2 h3 h4 h5 h6 h7 h8 h9 h10 h11 kc1 kc2 kc3 kc4 kc5 kc6 kc7 kc8 kc9 kc10 kc11 V0 v0_statements v0_newG v0_newL v0_newS c1 c2 c3 c4 c5 c6 c7 c8 c9 c10 c11) → va_S A s.heap H locs → lv_has ls 7 [(0, .ref h0), (1, .int y1), (2, .int y2), (3, .int y3)] → k67 y1 y2 y3 v0_newG v0_newL v0_newS c1 c2 c10 = some o → G 0 0 H locs (F0 m 67 ls [])) (k76 : Int32 → Int32 → Int32 → Int32 → Int32 → Int32 → Int32 → (Nat → Int32) → (Nat → Int32) → (Nat → Int32) → Option (Int32 × Int32 × Int32 × (Nat → Int32) × (Nat → Int32) × (Nat → Int32))) (hk76 : ∀ (y1 : Int32) (y2 : Int32) (y3 : Int32) (y4 : Int32) (v0_newG : Int32) (v0_newL : Int32) (v0_newS : Int32) (c1 : (Nat → Int32)) (c2 : (Nat → Int32)) (c10 : (Nat → Int32)) (H : Heap) (locs : List Loc) (ls : Array Slot), va_P (dC, dI) vwCl (wX11_solve h0 h1 h2 h3 h4 h5 h6 h7 h8 h9 h10 h11 kc1 kc2 kc3 kc4 kc5 kc6 kc7 kc8 kc9 kc10 kc11 V0 v0_statements v0_newG v0_newL v0_newS c1 c2 c3 c4 c5 c6 c7 c8 c9 c10 c11) H → va_D A (wX11_solve h0 h1 h2 h3 h4 h5 h6 h7 h8 h9 h10 h11 kc1 kc2 kc3 kc4 kc5 kc6 kc7 kc8 kc9 kc10 kc11 V0 v0_statements v0_newG v0_newL v0_newS c1 c2 c3 c4 c5 c6 c7 c8 c9 c10 c11) → va_S A s.heap H locs → lv_has ls 7 [(0, .ref h0), (1, .int y1), (2, .int y2), (3, .int y3), (4, .int y4)] → k76 y1 y2 y3 y4 v0_newG v0_newL v0_newS c1 c2 c10 = some o → G 0 0 H locs (F0 m 76 ls [])), ∀ (y1 : Int32) (y2 : Int32) (y3 : Int32) (y4 : Int32) (z0 : Int32) (z1 : Int32) (v0_newG : Int32) (v0_newL : Int32) (v0_newS : Int32) (c1 : (Nat → Int32)) (c2 : (Nat → Int32)) (c10 : (Nat → Int32)) (H : Heap) (locs : List Loc) (ls : Array Slot), va_P (dC, dI) vwCl (wX11_solve h0 h1 h2 h3 h4 h5 h6 h7 h8 h9 h10 h11 kc1 kc2 kc3 kc4 kc5 kc6 kc7 kc8 kc9 kc10 kc11 V0 v0_statements v0_newG v0_newL v0_newS c1 c2 c3 c4 c5 c6 c7 c8 c9 c10 c11) H → va_D A (wX11_solve h0 h1 h2 h3 h4 h5 h6 h7 h8 h9 h10 h11 kc1 kc2 kc3 kc4 kc5 kc6 kc7 kc8 kc9 kc10 kc11 V0 v0_statements v0_newG v0_newL v0_newS c1 c2 c3 c4 c5 c6 c7 c8 c9 c10 c11) → va_S A s.heap H locs → lv_has ls 7 [(0, .ref h0), (1, .int y1), (2, .int y2), (3, .int y3), (4, .int y4)] → fX11_solve_p168 v0_statements c3 c4 c5 c6 c7 c8 c9 c11 k48 k61 k67 k76 y1 y2 y3 y4 z0 z1 v0_newG v0_newL v0_newS c1 c2 c10 = some o → G 0 0 H locs (F0 m 168 ls [.int z0, .int z1, .ref h1]) := by
    intro k48 hk48 k61 hk61 k67 hk67 k76 hk76 y1 y2 y3 y4 z0 z1 v0_newG v0_newL v0_newS c1 c2 c10 H locs ls hP hD hS hl hf
    refine (hG _ _ _ _ _).mpr ?_
    unfold fX11_solve_p168 at hf
    have b23 := bd_in hf
    replace hf := bd_k hf
    obtain ⟨c23x, e23⟩ : ∃ y, y = upd c1 z1.toNatClampNeg z0 := ⟨_, rfl⟩
    replace hf := nm_at hf e23
    refine va_iast hx hb hK hP hD hS 1 0 rfl rfl b23 dX11_solve_168 (fun H locs hP hD hS => ?_)
    have hP : va_P (dC, dI) vwCl (wX11_solve h0 h1 h2 h3 h4 h5 h6 h7 h8 h9 h10 h11 kc1 kc2 kc3 kc4 kc5 kc6 kc7 kc8 kc9 kc10 kc11 V0 v0_statements v0_newG v0_newL v0_newS c23x c2 c3 c4 c5 c6 c7 c8 c9 c10 c11) H := by rw [e23]; exact hP
    have hD : va_D A (wX11_solve h0 h1 h2 h3 h4 h5 h6 h7 h8 h9 h10 h11 kc1 kc2 kc3 kc4 kc5 kc6 kc7 kc8 kc9 kc10 kc11 V0 v0_statements v0_newG v0_newL v0_newS c23x c2 c3 c4 c5 c6 c7 c8 c9 c10 c11) := by rw [e23]; exact hD
    obtain ⟨x24, e24⟩ : ∃ y : Int32, y = y4 + 1 := ⟨_, rfl⟩
    replace hf := nm_at hf e24
    refine lv_iinc (v := x24) (lv' := [(4, .int x24), (0, .ref h0), (1, .int y1), (2, .int y2), (3, .int y3)]) hx hb dX11_solve_169 hl (k := 4) rfl (by rw [e24]; rfl) (by decide) rfl (fun ls hl => ?_)
    refine lv_goto (tgt := 76) hx hb dX11_solve_172 (by decide) ?_
    exact (hG _ _ _ _ _).mp (hk76 y1 y2 y3 x24 v0_newG v0_newL v0_newS c23x c2 c10 H locs ls (hP.sub [0, 1, 2, 3, 4, 5, 6, 7, 8, 9, 10, 11] rfl) (hD.sub [0, 1, 2, 3, 4, 5, 6, 7, 8, 9, 10, 11] (by decide) rfl) hS (lv_sub hl [1, 2, 3, 4, 0] rfl) hf)
  have J137 : ∀ (k48 : Int32 → Int32 → Int32 → Int32 → (Nat → Int32) → (Nat → Int32) → (Nat → Int32) → Option (Int32 × Int32 × Int32 × (Nat → Int32) × (Nat → Int32) × (Nat → Int32))) (hk48 : ∀ (y1 : Int32) (v0_newG : Int32) (v0_newL : Int32) (v0_newS : Int32) (c1 : (Nat → Int32)) (c2 : (Nat → Int32)) (c10 : (Nat → Int32)) (H : Heap) (locs : List Loc) (ls : Array Slot), va_P (dC, dI) vwCl (wX11_solve h0 h1 h2 h3 h4 h5 h6 h7 h8 h9 h10 h11 kc1 kc2 kc3 kc4 kc5 kc6 kc7 kc8 kc9 kc10 kc11 V0 v0_statements v0_newG v0_newL v0_newS c1 c2 c3 c4 c5 c6 c7 c8 c9 c10 c11) H → va_D A (wX11_solve h0 h1 h2 h3 h4 h5 h6 h7 h8 h9 h10 h11 kc1 kc2 kc3 kc4 kc5 kc6 kc7 kc8 kc9 kc10 kc11 V0 v0_statements v0_newG v0_newL v0_newS c1 c2 c3 c4 c5 c6 c7 c8 c9 c10 c11) → va_S A s.heap H locs → lv_has ls 7 [(0, .ref h0), (1, .int y1)] → k48 y1 v0_newG v0_newL v0_newS c1 c2 c10 = some o → G 0 0 H locs (F0 m 48 ls [])) (k61 : Int32 → Int32 → Int32 → Int32 → Int32 → (Nat → Int32) → (Nat → Int32) → (Nat → Int32) → Option (Int32 × Int32 × Int32 × (Nat → Int32) × (Nat → Int32) × (Nat → Int32))) (hk61 : ∀ (y1 : Int32) (y2 : Int32) (v0_newG : Int32) (v0_newL : Int32) (v0_newS : Int32) (c1 : (Nat → Int32)) (c2 : (Nat → Int32)) (c10 : (Nat → Int32)) (H : Heap) (locs : List Loc) (ls : Array Slot), va_P (dC, dI) vwCl (wX11_solve h0 h1 h2 h3 h4 h5 h6 h7 h8 h9 h10 h11 kc1 kc2 kc3 kc4 kc5 kc6 kc7 kc8 kc9 kc10 kc11 V0 v0_statements v0_newG v0_newL v0_newS c1 c2 c3 c4 c5 c6 c7 c8 c9 c10 c11) H → va_D A (wX11_solve h0 h1 h2 h3 h4 h5 h6 h7 h8 h9 h10 h11 kc1 kc2 kc3 kc4 kc5 kc6 kc7 kc8 kc9 kc10 kc11 V0 v0_statements v0_newG v0_newL v0_newS c1 c2 c3 c4 c5 c6 c7 c8 c9 c10 c11) → va_S A s.heap H locs → lv_has ls 7 [(0, .ref h0), (1, .int y1), (2, .int y2)] → k61 y1 y2 v0_newG v0_newL v0_newS c1 c2 c10 = some o → G 0 0 H locs (F0 m 61 ls [])) (k67 : Int32 → Int32 → Int32 → Int32 → Int32 → Int32 → (Nat → Int32) → (Nat → Int32) → (Nat → Int32) → Option (Int32 × Int32 × Int32 × (Nat → Int32) × (Nat → Int32) × (Nat → Int32))) (hk67 : ∀ (y1 : Int32) (y2 : Int32) (y3 : Int32) (v0_newG : Int32) (v0_newL : Int32) (v0_newS : Int32) (c1 : (Nat → Int32)) (c2 : (Nat → Int32)) (c10 : (Nat → Int32)) (H : Heap) (locs : List Loc) (ls : Array Slot), va_P (dC, dI) vwCl (wX11_solve h0 h1 h2 h3 h4 h5 h6 h7 h8 h9 h10 h11 kc1 kc2 kc3 kc4 kc5 kc6 kc7 kc8 kc9 kc10 kc11 V0 v0_statements v0_newG v0_newL v0_newS c1 c2 c3 c4 c5 c6 c7 c8 c9 c10 c11) H → va_D A (wX11_solve h0 h1 h2 h3 h4 h5 h6 h7 h8 h9 h10 h11 kc1 kc2 kc3 kc4 kc5 kc6 kc7 kc8 kc9 kc10 kc11 V0 v0_statements v0_newG v0_newL v0_newS c1 c2 c3 c4 c5 c6 c7 c8 c9 c10 c11) → va_S A s.heap H locs → lv_has ls 7 [(0, .ref h0), (1, .int y1), (2, .int y2), (3, .int y3)] → k67 y1 y2 y3 v0_newG v0_newL v0_newS c1 c2 c10 = some o → G 0 0 H locs (F0 m 67 ls [])) (k76 : Int32 → Int32 → Int32 → Int32 → Int32 → Int32 → Int32 → (Nat → Int32) → (Nat → Int32) → (Nat → Int32) → Option (Int32 × Int32 × Int32 × (Nat → Int32) × (Nat → Int32) × (Nat → Int32))) (hk76 : ∀ (y1 : Int32) (y2 : Int32) (y3 : Int32) (y4 : Int32) (v0_newG : Int32) (v0_newL : Int32) (v0_newS : Int32) (c1 : (Nat → Int32)) (c2 : (Nat → Int32)) (c10 : (Nat → Int32)) (H : Heap) (locs : List Loc) (ls : Array Slot), va_P (dC, dI) vwCl (wX11_solve h0 h1 h2 h3 h4 h5 h6 h7 h8 h9 h10 h11 kc1 kc2 kc3 kc4 kc5 kc6 kc7 kc8 kc9 kc10 kc11 V0 v0_statements v0_newG v0_newL v0_newS c1 c2 c3 c4 c5 c6 c7 c8 c9 c10 c11) H → va_D A (wX11_solve h0 h1 h2 h3 h4 h5 h6 h7 h8 h9 h10 h11 kc1 kc2 kc3 kc4 kc5 kc6 kc7 kc8 kc9 kc10 kc11 V0 v0_statements v0_newG v0_newL v0_newS c1 c2 c3 c4 c5 c6 c7 c8 c9 c10 c11) → va_S A s.heap H locs → lv_has ls 7 [(0, .ref h0), (1, .int y1), (2, .int y2), (3, .int y3), (4, .int y4)] → k76 y1 y2 y3 y4 v0_newG v0_newL v0_newS c1 c2 c10 = some o → G 0 0 H locs (F0 m 76 ls [])), ∀ (y2 : Int32) (y3 : Int32) (y4 : Int32) (y5 : Int32) (y6 : Int32) (z0 : Int32) (v0_newG : Int32) (v0_newL : Int32) (v0_newS : Int32) (c1 : (Nat → Int32)) (c2 : (Nat → Int32)) (c10 : (Nat → Int32)) (H : Heap) (locs : List Loc) (ls : Array Slot), va_P (dC, dI) vwCl (wX11_solve h0 h1 h2 h3 h4 h5 h6 h7 h8 h9 h10 h11 kc1 kc2 kc3 kc4 kc5 kc6 kc7 kc8 kc9 kc10 kc11 V0 v0_statements v0_newG v0_newL v0_newS c1 c2 c3 c4 c5 c6 c7 c8 c9 c10 c11) H → va_D A (wX11_solve h0 h1 h2 h3 h4 h5 h6 h7 h8 h9 h10 h11 kc1 kc2 kc3 kc4 kc5 kc6 kc7 kc8 kc9 kc10 kc11 V0 v0_statements v0_newG v0_newL v0_newS c1 c2 c3 c4 c5 c6 c7 c8 c9 c10 c11) → va_S A s.heap H locs → lv_has ls 7 [(0, .ref h0), (2, .int y2), (3, .int y3), (4, .int y4), (5, .int y5), (6, .int y6)] → fX11_solve_p137 v0_statements c3 c4 c5 c6 c7 c8 c9 c11 k48 k61 k67 k76 y2 y3 y4 y5 y6 z0 v0_newG v0_newL v0_newS c1 c2 c10 = some o → G 0 0 H locs (F0 m 137 ls [.int z0]) := by
    intro k48 hk48 k61 hk61 k67 hk67 k76 hk76 y2 y3 y4 y5 y6 z0 v0_newG v0_newL v0_newS c1 c2 c10 H locs ls hP hD hS hl hf
    refine (hG _ _ _ _ _).mpr ?_
    unfold fX11_solve_p137 at hf
    refine lv_istore_n (lv' := [(1, .int z0), (0, .ref h0), (2, .int y2), (3, .int y3), (4, .int y4), (5, .int y5), (6, .int y6)]) hx hb dX11_solve_137 rfl hl (by decide) rfl (fun ls hl => ?_)
    refine lv_aload_n hx hb dX11_solve_138 rfl (lv_at hl 1 rfl) ?_
    refine va_get (D := (dC, dI)) (ci := 11) (v := .ref h1) (C := RX11) (T := TX11) (N := 71) hx hb hts inlX11 hown hK hP 0 rfl rfl 60 (by decide) w2_ (fun _ h9 => h9) rfl dX11_solve_139 ?_
    refine lv_iload hx hb dX11_solve_142 (lv_at hl 5 rfl) ?_
    refine lv_iload hx hb dX11_solve_144 (lv_at hl 6 rfl) ?_
    refine lv_aload_n hx hb dX11_solve_146 rfl (lv_at hl 1 rfl) ?_
    refine va_get (D := (dC, dI)) (ci := 11) (v := .ref h1) (C := RX11) (T := TX11) (N := 71) hx hb hts inlX11 hown hK hP 0 rfl rfl 60 (by decide) w2_ (fun _ h9 => h9) rfl dX11_solve_147 ?_
    refine lv_iload hx hb dX11_solve_150 (lv_at hl 5 rfl) ?_
    have b25 := bd_in hf
    replace hf := bd_k hf
    refine va_iald hx hb hK hP 1 0 rfl rfl b25 dX11_solve_152 ?_
    refine lv_topi (fun x26 e26 => ?_)
    replace hf := nm_at hf e26
    refine lv_icmp_ge (tgt := 161) hx hb dX11_solve_153 (by decide) (fun cq27 => ?_) (fun cq27 => ?_)
    · replace hf := if_at hf cq27
      refine lv_aload_n hx hb dX11_solve_161 rfl (lv_at hl 1 rfl) ?_
      refine va_get (D := (dC, dI)) (ci := 11) (v := .ref h1) (C := RX11) (T := TX11) (N := 71) hx hb hts inlX11 hown hK hP 0 rfl rfl 60 (by decide) w2_ (fun _ h9 => h9) rfl dX11_solve_162 ?_
      refine lv_iload hx hb dX11_solve_165 (lv_at hl 5 rfl) ?_
      have b28 := bd_in hf
      replace hf := bd_k hf
      refine va_iald hx hb hK hP 1 0 rfl rfl b28 dX11_solve_167 ?_
      refine lv_topi (fun x29 e29 => ?_)
      replace hf := nm_at hf e29
      exact (hG _ _ _ _ _).mp (J168 k48 hk48 k61 hk61 k67 hk67 k76 hk76 z0 y2 y3 y4 x29 y5 v0_newG v0_newL v0_newS c1 c2 c10 H locs ls (hP.sub [0, 1, 2, 3, 4, 5, 6, 7, 8, 9, 10, 11] rfl) (hD.sub [0, 1, 2, 3, 4, 5, 6, 7, 8, 9, 10, 11] (by decide) rfl) hS (lv_sub hl [1, 0, 2, 3, 4] rfl) hf)
    · replace hf := if_no hf cq27
      refine lv_iload hx hb dX11_solve_156 (lv_at hl 6 rfl) ?_
      refine lv_goto (tgt := 168) hx hb dX11_solve_158 (by decide) ?_
      exact (hG _ _ _ _ _).mp (J168 k48 hk48 k61 hk61 k67 hk67 k76 hk76 z0 y2 y3 y4 y6 y5 v0_newG v0_newL v0_newS c1 c2 c10 H locs ls (hP.sub [0, 1, 2, 3, 4, 5, 6, 7, 8, 9, 10, 11] rfl) (hD.sub [0, 1, 2, 3, 4, 5, 6, 7, 8, 9, 10, 11] (by decide) rfl) hS (lv_sub hl [1, 0, 2, 3, 4] rfl) hf)
  have J132 : ∀ (k48 : Int32 → Int32 → Int32 → Int32 → (Nat → Int32) → (Nat → Int32) → (Nat → Int32) → Option (Int32 × Int32 × Int32 × (Nat → Int32) × (Nat → Int32) × (Nat → Int32))) (hk48 : ∀ (y1 : Int32) (v0_newG : Int32) (v0_newL : Int32) (v0_newS : Int32) (c1 : (Nat → Int32)) (c2 : (Nat → Int32)) (c10 : (Nat → Int32)) (H : Heap) (locs : List Loc) (ls : Array Slot), va_P (dC, dI) vwCl (wX11_solve h0 h1 h2 h3 h4 h5 h6 h7 h8 h9 h10 h11 kc1 kc2 kc3 kc4 kc5 kc6 kc7 kc8 kc9 kc10 kc11 V0 v0_statements v0_newG v0_newL v0_newS c1 c2 c3 c4 c5 c6 c7 c8 c9 c10 c11) H → va_D A (wX11_solve h0 h1 h2 h3 h4 h5 h6 h7 h8 h9 h10 h11 kc1 kc2 kc3 kc4 kc5 kc6 kc7 kc8 kc9 kc10 kc11 V0 v0_statements v0_newG v0_newL v0_newS c1 c2 c3 c4 c5 c6 c7 c8 c9 c10 c11) → va_S A s.heap H locs → lv_has ls 7 [(0, .ref h0), (1, .int y1)] → k48 y1 v0_newG v0_newL v0_newS c1 c2 c10 = some o → G 0 0 H locs (F0 m 48 ls [])) (k61 : Int32 → Int32 → Int32 → Int32 → Int32 → (Nat → Int32) → (Nat → Int32) → (Nat → Int32) → Option (Int32 × Int32 × Int32 × (Nat → Int32) × (Nat → Int32) × (Nat → Int32))) (hk61 : ∀ (y1 : Int32) (y2 : Int32) (v0_newG : Int32) (v0_newL : Int32) (v0_newS : Int32) (c1 : (Nat → Int32)) (c2 : (Nat → Int32)) (c10 : (Nat → Int32)) (H : Heap) (locs : List Loc) (ls : Array Slot), va_P (dC, dI) vwCl (wX11_solve h0 h1 h2 h3 h4 h5 h6 h7 h8 h9 h10 h11 kc1 kc2 kc3 kc4 kc5 kc6 kc7 kc8 kc9 kc10 kc11 V0 v0_statements v0_newG v0_newL v0_newS c1 c2 c3 c4 c5 c6 c7 c8 c9 c10 c11) H → va_D A (wX11_solve h0 h1 h2 h3 h4 h5 h6 h7 h8 h9 h10 h11 kc1 kc2 kc3 kc4 kc5 kc6 kc7 kc8 kc9 kc10 kc11 V0 v0_statements v0_newG v0_newL v0_newS c1 c2 c3 c4 c5 c6 c7 c8 c9 c10 c11) → va_S A s.heap H locs → lv_has ls 7 [(0, .ref h0), (1, .int y1), (2, .int y2)] → k61 y1 y2 v0_newG v0_newL v0_newS c1 c2 c10 = some o → G 0 0 H locs (F0 m 61 ls [])) (k67 : Int32 → Int32 → Int32 → Int32 → Int32 → Int32 → (Nat → Int32) → (Nat → Int32) → (Nat → Int32) → Option (Int32 × Int32 × Int32 × (Nat → Int32) × (Nat → Int32) × (Nat → Int32))) (hk67 : ∀ (y1 : Int32) (y2 : Int32) (y3 : Int32) (v0_newG : Int32) (v0_newL : Int32) (v0_newS : Int32) (c1 : (Nat → Int32)) (c2 : (Nat → Int32)) (c10 : (Nat → Int32)) (H : Heap) (locs : List Loc) (ls : Array Slot), va_P (dC, dI) vwCl (wX11_solve h0 h1 h2 h3 h4 h5 h6 h7 h8 h9 h10 h11 kc1 kc2 kc3 kc4 kc5 kc6 kc7 kc8 kc9 kc10 kc11 V0 v0_statements v0_newG v0_newL v0_newS c1 c2 c3 c4 c5 c6 c7 c8 c9 c10 c11) H → va_D A (wX11_solve h0 h1 h2 h3 h4 h5 h6 h7 h8 h9 h10 h11 kc1 kc2 kc3 kc4 kc5 kc6 kc7 kc8 kc9 kc10 kc11 V0 v0_statements v0_newG v0_newL v0_newS c1 c2 c3 c4 c5 c6 c7 c8 c9 c10 c11) → va_S A s.heap H locs → lv_has ls 7 [(0, .ref h0), (1, .int y1), (2, .int y2), (3, .int y3)] → k67 y1 y2 y3 v0_newG v0_newL v0_newS c1 c2 c10 = some o → G 0 0 H locs (F0 m 67 ls [])) (k76 : Int32 → Int32 → Int32 → Int32 → Int32 → Int32 → Int32 → (Nat → Int32) → (Nat → Int32) → (Nat → Int32) → Option (Int32 × Int32 × Int32 × (Nat → Int32) × (Nat → Int32) × (Nat → Int32))) (hk76 : ∀ (y1 : Int32) (y2 : Int32) (y3 : Int32) (y4 : Int32) (v0_newG : Int32) (v0_newL : Int32) (v0_newS : Int32) (c1 : (Nat → Int32)) (c2 : (Nat → Int32)) (c10 : (Nat → Int32)) (H : Heap) (locs : List Loc) (ls : Array Slot), va_P (dC, dI) vwCl (wX11_solve h0 h1 h2 h3 h4 h5 h6 h7 h8 h9 h10 h11 kc1 kc2 kc3 kc4 kc5 kc6 kc7 kc8 kc9 kc10 kc11 V0 v0_statements v0_newG v0_newL v0_newS c1 c2 c3 c4 c5 c6 c7 c8 c9 c10 c11) H → va_D A (wX11_solve h0 h1 h2 h3 h4 h5 h6 h7 h8 h9 h10 h11 kc1 kc2 kc3 kc4 kc5 kc6 kc7 kc8 kc9 kc10 kc11 V0 v0_statements v0_newG v0_newL v0_newS c1 c2 c3 c4 c5 c6 c7 c8 c9 c10 c11) → va_S A s.heap H locs → lv_has ls 7 [(0, .ref h0), (1, .int y1), (2, .int y2), (3, .int y3), (4, .int y4)] → k76 y1 y2 y3 y4 v0_newG v0_newL v0_newS c1 c2 c10 = some o → G 0 0 H locs (F0 m 76 ls [])), ∀ (y2 : Int32) (y3 : Int32) (y4 : Int32) (y5 : Int32) (y6 : Int32) (v0_newG : Int32) (v0_newL : Int32) (v0_newS : Int32) (c1 : (Nat → Int32)) (c2 : (Nat → Int32)) (c10 : (Nat → Int32)) (H : Heap) (locs : List Loc) (ls : Array Slot), va_P (dC, dI) vwCl (wX11_solve h0 h1 h2 h3 h4 h5 h6 h7 h8 h9 h10 h11 kc1 kc2 kc3 kc4 kc5 kc6 kc7 kc8 kc9 kc10 kc11 V0 v0_statements v0_newG v0_newL v0_newS c1 c2 c3 c4 c5 c6 c7 c8 c9 c10 c11) H → va_D A (wX11_solve h0 h1 h2 h3 h4 h5 h6 h7 h8 h9 h10 h11 kc1 kc2 kc3 kc4 kc5 kc6 kc7 kc8 kc9 kc10 kc11 V0 v0_statements v0_newG v0_newL v0_newS c1 c2 c3 c4 c5 c6 c7 c8 c9 c10 c11) → va_S A s.heap H locs → lv_has ls 7 [(0, .ref h0), (2, .int y2), (3, .int y3), (4, .int y4), (5, .int y5), (6, .int y6)] → fX11_solve_p132 v0_statements c3 c4 c5 c6 c7 c8 c9 c11 k48 k61 k67 k76 y2 y3 y4 y5 y6 v0_newG v0_newL v0_newS c1 c2 c10 = some o → G 0 0 H locs (F0 m 132 ls []) := by
    intro k48 hk48 k61 hk61 k67 hk67 k76 hk76 y2 y3 y4 y5 y6 v0_newG v0_newL v0_newS c1 c2 c10 H locs ls hP hD hS hl hf
    refine (hG _ _ _ _ _).mpr ?_
    unfold fX11_solve_p132 at hf
    refine lv_iconst (v := 1) hx hb dX11_solve_132 (by decide +kernel) ?_
    refine lv_goto (tgt := 137) hx hb dX11_solve_133 (by decide) ?_
    exact (hG _ _ _ _ _).mp (J137 k48 hk48 k61 hk61 k67 hk67 k76 hk76 y2 y3 y4 y5 y6 1 v0_newG v0_newL v0_newS c1 c2 c10 H locs ls (hP.sub [0, 1, 2, 3, 4, 5, 6, 7, 8, 9, 10, 11] rfl) (hD.sub [0, 1, 2, 3, 4, 5, 6, 7, 8, 9, 10, 11] (by decide) rfl) hS (lv_sub hl [0, 1, 2, 3, 4, 5] rfl) hf)
  have B76 : ∀ (k48 : Int32 → Int32 → Int32 → Int32 → (Nat → Int32) → (Nat → Int32) → (Nat → Int32) → Option (Int32 × Int32 × Int32 × (Nat → Int32) × (Nat → Int32) × (Nat → Int32))) (hk48 : ∀ (y1 : Int32) (v0_newG : Int32) (v0_newL : Int32) (v0_newS : Int32) (c1 : (Nat → Int32)) (c2 : (Nat → Int32)) (c10 : (Nat → Int32)) (H : Heap) (locs : List Loc) (ls : Array Slot), va_P (dC, dI) vwCl (wX11_solve h0 h1 h2 h3 h4 h5 h6 h7 h8 h9 h10 h11 kc1 kc2 kc3 kc4 kc5 kc6 kc7 kc8 kc9 kc10 kc11 V0 v0_statements v0_newG v0_newL v0_newS c1 c2 c3 c4 c5 c6 c7 c8 c9 c10 c11) H → va_D A (wX11_solve h0 h1 h2 h3 h4 h5 h6 h7 h8 h9 h10 h11 kc1 kc2 kc3 kc4 kc5 kc6 kc7 kc8 kc9 kc10 kc11 V0 v0_statements v0_newG v0_newL v0_newS c1 c2 c3 c4 c5 c6 c7 c8 c9 c10 c11) → va_S A s.heap H locs → lv_has ls 7 [(0, .ref h0), (1, .int y1)] → k48 y1 v0_newG v0_newL v0_newS c1 c2 c10 = some o → G 0 0 H locs (F0 m 48 ls [])) (k61 : Int32 → Int32 → Int32 → Int32 → Int32 → (Nat → Int32) → (Nat → Int32) → (Nat → Int32) → Option (Int32 × Int32 × Int32 × (Nat → Int32) × (Nat → Int32) × (Nat → Int32))) (hk61 : ∀ (y1 : Int32) (y2 : Int32) (v0_newG : Int32) (v0_newL : Int32) (v0_newS : Int32) (c1 : (Nat → Int32)) (c2 : (Nat → Int32)) (c10 : (Nat → Int32)) (H : Heap) (locs : List Loc) (ls : Array Slot), va_P (dC, dI) vwCl (wX11_solve h0 h1 h2 h3 h4 h5 h6 h7 h8 h9 h10 h11 kc1 kc2 kc3 kc4 kc5 kc6 kc7 kc8 kc9 kc10 kc11 V0 v0_statements v0_newG v0_newL v0_newS c1 c2 c3 c4 c5 c6 c7 c8 c9 c10 c11) H → va_D A (wX11_solve h0 h1 h2 h3 h4 h5 h6 h7 h8 h9 h10 h11 kc1 kc2 kc3 kc4 kc5 kc6 kc7 kc8 kc9 kc10 kc11 V0 v0_statements v0_newG v0_newL v0_newS c1 c2 c3 c4 c5 c6 c7 c8 c9 c10 c11) → va_S A s.heap H locs → lv_has ls 7 [(0, .ref h0), (1, .int y1), (2, .int y2)] → k61 y1 y2 v0_newG v0_newL v0_newS c1 c2 c10 = some o → G 0 0 H locs (F0 m 61 ls [])) (k67 : Int32 → Int32 → Int32 → Int32 → Int32 → Int32 → (Nat → Int32) → (Nat → Int32) → (Nat → Int32) → Option (Int32 × Int32 × Int32 × (Nat → Int32) × (Nat → Int32) × (Nat → Int32))) (hk67 : ∀ (y1 : Int32) (y2 : Int32) (y3 : Int32) (v0_newG : Int32) (v0_newL : Int32) (v0_newS : Int32) (c1 : (Nat → Int32)) (c2 : (Nat → Int32)) (c10 : (Nat → Int32)) (H : Heap) (locs : List Loc) (ls : Array Slot), va_P (dC, dI) vwCl (wX11_solve h0 h1 h2 h3 h4 h5 h6 h7 h8 h9 h10 h11 kc1 kc2 kc3 kc4 kc5 kc6 kc7 kc8 kc9 kc10 kc11 V0 v0_statements v0_newG v0_newL v0_newS c1 c2 c3 c4 c5 c6 c7 c8 c9 c10 c11) H → va_D A (wX11_solve h0 h1 h2 h3 h4 h5 h6 h7 h8 h9 h10 h11 kc1 kc2 kc3 kc4 kc5 kc6 kc7 kc8 kc9 kc10 kc11 V0 v0_statements v0_newG v0_newL v0_newS c1 c2 c3 c4 c5 c6 c7 c8 c9 c10 c11) → va_S A s.heap H locs → lv_has ls 7 [(0, .ref h0), (1, .int y1), (2, .int y2), (3, .int y3)] → k67 y1 y2 y3 v0_newG v0_newL v0_newS c1 c2 c10 = some o → G 0 0 H locs (F0 m 67 ls [])) (k76 : Int32 → Int32 → Int32 → Int32 → Int32 → Int32 → Int32 → (Nat → Int32) → (Nat → Int32) → (Nat → Int32) → Option (Int32 × Int32 × Int32 × (Nat → Int32) × (Nat → Int32) × (Nat → Int32))) (hk76 : ∀ (y1 : Int32) (y2 : Int32) (y3 : Int32) (y4 : Int32) (v0_newG : Int32) (v0_newL : Int32) (v0_newS : Int32) (c1 : (Nat → Int32)) (c2 : (Nat → Int32)) (c10 : (Nat → Int32)) (H : Heap) (locs : List Loc) (ls : Array Slot), va_P (dC, dI) vwCl (wX11_solve h0 h1 h2 h3 h4 h5 h6 h7 h8 h9 h10 h11 kc1 kc2 kc3 kc4 kc5 kc6 kc7 kc8 kc9 kc10 kc11 V0 v0_statements v0_newG v0_newL v0_newS c1 c2 c3 c4 c5 c6 c7 c8 c9 c10 c11) H → va_D A (wX11_solve h0 h1 h2 h3 h4 h5 h6 h7 h8 h9 h10 h11 kc1 kc2 kc3 kc4 kc5 kc6 kc7 kc8 kc9 kc10 kc11 V0 v0_statements v0_newG v0_newL v0_newS c1 c2 c3 c4 c5 c6 c7 c8 c9 c10 c11) → va_S A s.heap H locs → lv_has ls 7 [(0, .ref h0), (1, .int y1), (2, .int y2), (3, .int y3), (4, .int y4)] → k76 y1 y2 y3 y4 v0_newG v0_newL v0_newS c1 c2 c10 = some o → G 0 0 H locs (F0 m 76 ls [])), ∀ (y1 : Int32) (y2 : Int32) (y3 : Int32) (y4 : Int32) (v0_newG : Int32) (v0_newL : Int32) (v0_newS : Int32) (c1 : (Nat → Int32)) (c2 : (Nat → Int32)) (c10 : (Nat → Int32)) (H : Heap) (locs : List Loc) (ls : Array Slot), va_P (dC, dI) vwCl (wX11_solve h0 h1 h2 h3 h4 h5 h6 h7 h8 h9 h10 h11 kc1 kc2 kc3 kc4 kc5 kc6 kc7 kc8 kc9 kc10 kc11 V0 v0_statements v0_newG v0_newL v0_newS c1 c2 c3 c4 c5 c6 c7 c8 c9 c10 c11) H → va_D A (wX11_solve h0 h1 h2 h3 h4 h5 h6 h7 h8 h9 h10 h11 kc1 kc2 kc3 kc4 kc5 kc6 kc7 kc8 kc9 kc10 kc11 V0 v0_statements v0_newG v0_newL v0_newS c1 c2 c3 c4 c5 c6 c7 c8 c9 c10 c11) → va_S A s.heap H locs → lv_has ls 7 [(0, .ref h0), (1, .int y1), (2, .int y2), (3, .int y3), (4, .int y4)] → fX11_solve_b76 v0_statements c3 c4 c5 c6 c7 c8 c9 c11 k48 k61 k67 k76 y1 y2 y3 y4 v0_newG v0_newL v0_newS c1 c2 c10 = some o → G 0 0 H locs (F0 m 76 ls []) := by
    intro k48 hk48 k61 hk61 k67 hk67 k76 hk76 y1 y2 y3 y4 v0_newG v0_newL v0_newS c1 c2 c10 H locs ls hP hD hS hl hf
    refine (hG _ _ _ _ _).mpr ?_
    unfold fX11_solve_b76 at hf
    refine lv_iload hx hb dX11_solve_76 (lv_at hl 4 rfl) ?_
    refine lv_bipush (v := 8) hx hb dX11_solve_78 (by decide +kernel) ?_
    refine lv_icmp_ge (tgt := 175) hx hb dX11_solve_80 (by decide) (fun cq30 => ?_) (fun cq30 => ?_)
    · replace hf := if_at hf cq30
      obtain ⟨x31, e31⟩ : ∃ y : Int32, y = y3 + 1 := ⟨_, rfl⟩
      replace hf := nm_at hf e31
      refine lv_iinc (v := x31) (lv' := [(3, .int x31), (0, .ref h0), (1, .int y1), (2, .int y2), (4, .int y4)]) hx hb dX11_solve_175 hl (k := 3) rfl (by rw [e31]; rfl) (by decide) rfl (fun ls hl => ?_)
      refine lv_goto (tgt := 67) hx hb dX11_solve_178 (by decide) ?_
      exact (hG _ _ _ _ _).mp (hk67 y1 y2 x31 v0_newG v0_newL v0_newS c1 c2 c10 H locs ls (hP.sub [0, 1, 2, 3, 4, 5, 6, 7, 8, 9, 10, 11] rfl) (hD.sub [0, 1, 2, 3, 4, 5, 6, 7, 8, 9, 10, 11] (by decide) rfl) hS (lv_sub hl [1, 2, 3, 0] rfl) hf)
    · replace hf := if_no hf cq30
      refine lv_bipush (v := 8) hx hb dX11_solve_83 (by decide +kernel) ?_
      refine lv_iload_n hx hb dX11_solve_85 rfl (lv_at hl 3 rfl) ?_
      refine lv_iconst (v := 2) hx hb dX11_solve_86 (by decide +kernel) ?_
      refine lv_ishr hx hb dX11_solve_87 ?_
      refine lv_topi (fun x32 e32 => ?_)
      replace hf := nm_at hf e32
      refine lv_iload_n hx hb dX11_solve_88 rfl (lv_at hl 2 rfl) ?_
      refine lv_iload_n hx hb dX11_solve_89 rfl (lv_at hl 3 rfl) ?_
      refine lv_iconst (v := 3) hx hb dX11_solve_90 (by decide +kernel) ?_
      refine lv_iand hx hb dX11_solve_91 ?_
      refine lv_topi (fun x33 e33 => ?_)
      replace hf := nm_at hf e33
      obtain ⟨o34, e34, hf⟩ := ob_some hf
      refine kSi (As := [.int x32, .int y2, .int x33]) (rest := [.int 8]) ⟨hx, hb, hml, hown, hts⟩ (mX11_at l dC dI H.size base x32 y2 x33 o34 e34) (va_cwS 3 hts (gTS q1112 q1113 q5 q1114) rfl rfl rfl (by decide +kernel) ⟨Nat.le_of_ble_eq_true rfl, Nat.le_of_ble_eq_true rfl⟩) hK hP hD hS hA hE hAB [] [0, 1, 2, 3, 4, 5, 6, 7, 8, 9, 10, 11] [] (wr := (wX11_solve h0 h1 h2 h3 h4 h5 h6 h7 h8 h9 h10 h11 kc1 kc2 kc3 kc4 kc5 kc6 kc7 kc8 kc9 kc10 kc11 V0 v0_statements v0_newG v0_newL v0_newS c1 c2 c3 c4 c5 c6 c7 c8 c9 c10 c11)) rfl rfl (by decide) (by decide) (by decide) rfl rfl hl.1 rfl (Nat.le_of_ble_eq_true rfl) dX11_solve_92 ⟨Nat.zero_le _, Nat.zero_le _⟩ (fun r34 u34 H locs hw34 hP hD hS => ?_)
      obtain ⟨hw341, hw342⟩ := hw34
      subst hw341 hw342
      have hP : va_P (dC, dI) vwCl (wX11_solve h0 h1 h2 h3 h4 h5 h6 h7 h8 h9 h10 h11 kc1 kc2 kc3 kc4 kc5 kc6 kc7 kc8 kc9 kc10 kc11 V0 v0_statements v0_newG v0_newL v0_newS c1 c2 c3 c4 c5 c6 c7 c8 c9 c10 c11) H := hP.sub [0, 1, 2, 3, 4, 5, 6, 7, 8, 9, 10, 11] rfl
      have hD : va_D A (wX11_solve h0 h1 h2 h3 h4 h5 h6 h7 h8 h9 h10 h11 kc1 kc2 kc3 kc4 kc5 kc6 kc7 kc8 kc9 kc10 kc11 V0 v0_statements v0_newG v0_newL v0_newS c1 c2 c3 c4 c5 c6 c7 c8 c9 c10 c11) := hD.sub [0, 1, 2, 3, 4, 5, 6, 7, 8, 9, 10, 11] (by decide) rfl
      refine lv_imul hx hb dX11_solve_95 ?_
      refine lv_topi (fun x35 e35 => ?_)
      replace hf := nm_at hf e35
      refine lv_iload hx hb dX11_solve_96 (lv_at hl 4 rfl) ?_
      refine lv_iadd hx hb dX11_solve_98 ?_
      refine lv_topi (fun x36 e36 => ?_)
      replace hf := nm_at hf e36
      refine lv_istore (lv' := [(5, .int x36), (0, .ref h0), (1, .int y1), (2, .int y2), (3, .int y3), (4, .int y4)]) hx hb dX11_solve_99 hl (by decide) rfl (fun ls hl => ?_)
      refine lv_aload_n hx hb dX11_solve_101 rfl (lv_at hl 1 rfl) ?_
      refine lv_iload_n hx hb dX11_solve_102 rfl (lv_at hl 4 rfl) ?_
      refine lv_iconst (v := 2) hx hb dX11_solve_103 (by decide +kernel) ?_
      refine lv_ishr hx hb dX11_solve_104 ?_
      refine lv_topi (fun x37 e37 => ?_)
      replace hf := nm_at hf e37
      refine lv_iload_n hx hb dX11_solve_105 rfl (lv_at hl 3 rfl) ?_
      refine lv_iload_n hx hb dX11_solve_106 rfl (lv_at hl 4 rfl) ?_
      refine lv_iconst (v := 3) hx hb dX11_solve_107 (by decide +kernel) ?_
      refine lv_iand hx hb dX11_solve_108 ?_
      refine lv_topi (fun x38 e38 => ?_)
      replace hf := nm_at hf e38
      refine lv_iload hx hb dX11_solve_109 (lv_at hl 5 rfl) ?_
      obtain ⟨o39, e39, hf⟩ := ob_some hf
      refine kVi (As := [.int x37, .int y2, .int x38, .int y4]) (rest := []) ⟨hx, hb, hml, hown, hts⟩ (mX11_endCost l dC dI h0 h3 h4 h1 h5 h6 h7 h8 h9 h10 h11 kc3 kc4 kc1 kc5 kc6 kc7 kc8 kc9 kc10 kc11 H.size base x37 y2 x38 y4 v0_newG v0_newL v0_newS c3 c4 c1 c5 c6 c7 c8 c9 c10 c11 (fun k => match k with | 30 => .int v0_statements | 61 => .ref h2 | k => V0 k) o39 e39) (cwV 4 hts (gTV q1115 q1116 q1117 q5 q1118) rfl rfl rfl (by decide +kernel) ⟨Nat.le_of_ble_eq_true rfl, Nat.le_of_ble_eq_true rfl⟩) hK hP hD hS hA hE hAB [0, 3, 4, 1, 5, 6, 7, 8, 9, 10, 11] [2] [2, 3, 0, 4, 5, 6, 7, 8, 9, 10] (wr := [(h2, .inl (kc2, 1280, .inl c2))]) rfl rfl (by decide) (by decide) (by decide) rfl (ci := 11) (q0 := 0) rfl rfl rfl rfl hl.1 rfl (Nat.le_of_ble_eq_true rfl) dX11_solve_111 ⟨Nat.zero_le _, Nat.zero_le _⟩ (fun r39 u39 H locs hw39 hP hD hS => ?_)
      obtain ⟨hw391, hw392⟩ := hw39
      subst hw391 hw392
      have hP : va_P (dC, dI) vwCl (wX11_solve h0 h1 h2 h3 h4 h5 h6 h7 h8 h9 h10 h11 kc1 kc2 kc3 kc4 kc5 kc6 kc7 kc8 kc9 kc10 kc11 V0 v0_statements o39.2.1 o39.2.2.1 o39.2.2.2.1 c1 c2 c3 c4 c5 c6 c7 c8 c9 o39.2.2.2.2 c11) H := hP.sub [1, 4, 0, 2, 3, 5, 6, 7, 8, 9, 10, 11] rfl
      have hD : va_D A (wX11_solve h0 h1 h2 h3 h4 h5 h6 h7 h8 h9 h10 h11 kc1 kc2 kc3 kc4 kc5 kc6 kc7 kc8 kc9 kc10 kc11 V0 v0_statements o39.2.1 o39.2.2.1 o39.2.2.2.1 c1 c2 c3 c4 c5 c6 c7 c8 c9 o39.2.2.2.2 c11) := hD.sub [1, 4, 0, 2, 3, 5, 6, 7, 8, 9, 10, 11] (by decide) rfl
      refine lv_istore (lv' := [(6, .int o39.1), (5, .int x36), (0, .ref h0), (1, .int y1), (2, .int y2), (3, .int y3), (4, .int y4)]) hx hb dX11_solve_114 hl (by decide) rfl (fun ls hl => ?_)
      refine lv_iload_n hx hb dX11_solve_116 rfl (lv_at hl 3 rfl) ?_
      refine lv_if_ne (tgt := 132) hx hb dX11_solve_117 (by decide) (fun cq40 => ?_) (fun cq40 => ?_)
      · replace hf := if_no hf cq40
        exact (hG _ _ _ _ _).mp (J132 k48 hk48 k61 hk61 k67 hk67 k76 hk76 y2 y3 y4 x36 o39.1 o39.2.1 o39.2.2.1 o39.2.2.2.1 c1 c2 o39.2.2.2.2 H locs ls (hP.sub [0, 1, 2, 3, 4, 5, 6, 7, 8, 9, 10, 11] rfl) (hD.sub [0, 1, 2, 3, 4, 5, 6, 7, 8, 9, 10, 11] (by decide) rfl) hS (lv_sub hl [2, 4, 5, 6, 1, 0] rfl) hf)
      · replace hf := if_at hf cq40
        refine lv_iload hx hb dX11_solve_120 (lv_at hl 0 rfl) ?_
        refine lv_aload_n hx hb dX11_solve_122 rfl (lv_at hl 2 rfl) ?_
        refine va_get (D := (dC, dI)) (ci := 11) (v := .ref h1) (C := RX11) (T := TX11) (N := 71) hx hb hts inlX11 hown hK hP 0 rfl rfl 60 (by decide) w2_ (fun _ h9 => h9) rfl dX11_solve_123 ?_
        refine lv_iload hx hb dX11_solve_126 (lv_at hl 1 rfl) ?_
        have b41 := bd_in hf
        replace hf := bd_k hf
        refine va_iald hx hb hK hP 1 0 rfl rfl b41 dX11_solve_128 ?_
        refine lv_topi (fun x42 e42 => ?_)
        replace hf := nm_at hf e42
        refine lv_icmp_ge (tgt := 136) hx hb dX11_solve_129 (by decide) (fun cq43 => ?_) (fun cq43 => ?_)
        · replace hf := if_at hf cq43
          refine lv_iconst (v := 0) hx hb dX11_solve_136 (by decide +kernel) ?_
          exact (hG _ _ _ _ _).mp (J137 k48 hk48 k61 hk61 k67 hk67 k76 hk76 y2 y3 y4 x36 o39.1 0 o39.2.1 o39.2.2.1 o39.2.2.2.1 c1 c2 o39.2.2.2.2 H locs ls (hP.sub [0, 1, 2, 3, 4, 5, 6, 7, 8, 9, 10, 11] rfl) (hD.sub [0, 1, 2, 3, 4, 5, 6, 7, 8, 9, 10, 11] (by decide) rfl) hS (lv_sub hl [2, 4, 5, 6, 1, 0] rfl) hf)
        · replace hf := if_no hf cq43
          exact (hG _ _ _ _ _).mp (J132 k48 hk48 k61 hk61 k67 hk67 k76 hk76 y2 y3 y4 x36 o39.1 o39.2.1 o39.2.2.1 o39.2.2.2.1 c1 c2 o39.2.2.2.2 H locs ls (hP.sub [0, 1, 2, 3, 4, 5, 6, 7, 8, 9, 10, 11] rfl) (hD.sub [0, 1, 2, 3, 4, 5, 6, 7, 8, 9, 10, 11] (by decide) rfl) hS (lv_sub hl [2, 4, 5, 6, 1, 0] rfl) hf)
  have L76 : ∀ (k48 : Int32 → Int32 → Int32 → Int32 → (Nat → Int32) → (Nat → Int32) → (Nat → Int32) → Option (Int32 × Int32 × Int32 × (Nat → Int32) × (Nat → Int32) × (Nat → Int32))) (hk48 : ∀ (y1 : Int32) (v0_newG : Int32) (v0_newL : Int32) (v0_newS : Int32) (c1 : (Nat → Int32)) (c2 : (Nat → Int32)) (c10 : (Nat → Int32)) (H : Heap) (locs : List Loc) (ls : Array Slot), va_P (dC, dI) vwCl (wX11_solve h0 h1 h2 h3 h4 h5 h6 h7 h8 h9 h10 h11 kc1 kc2 kc3 kc4 kc5 kc6 kc7 kc8 kc9 kc10 kc11 V0 v0_statements v0_newG v0_newL v0_newS c1 c2 c3 c4 c5 c6 c7 c8 c9 c10 c11) H → va_D A (wX11_solve h0 h1 h2 h3 h4 h5 h6 h7 h8 h9 h10 h11 kc1 kc2 kc3 kc4 kc5 kc6 kc7 kc8 kc9 kc10 kc11 V0 v0_statements v0_newG v0_newL v0_newS c1 c2 c3 c4 c5 c6 c7 c8 c9 c10 c11) → va_S A s.heap H locs → lv_has ls 7 [(0, .ref h0), (1, .int y1)] → k48 y1 v0_newG v0_newL v0_newS c1 c2 c10 = some o → G 0 0 H locs (F0 m 48 ls [])) (k61 : Int32 → Int32 → Int32 → Int32 → Int32 → (Nat → Int32) → (Nat → Int32) → (Nat → Int32) → Option (Int32 × Int32 × Int32 × (Nat → Int32) × (Nat → Int32) × (Nat → Int32))) (hk61 : ∀ (y1 : Int32) (y2 : Int32) (v0_newG : Int32) (v0_newL : Int32) (v0_newS : Int32) (c1 : (Nat → Int32)) (c2 : (Nat → Int32)) (c10 : (Nat → Int32)) (H : Heap) (locs : List Loc) (ls : Array Slot), va_P (dC, dI) vwCl (wX11_solve h0 h1 h2 h3 h4 h5 h6 h7 h8 h9 h10 h11 kc1 kc2 kc3 kc4 kc5 kc6 kc7 kc8 kc9 kc10 kc11 V0 v0_statements v0_newG v0_newL v0_newS c1 c2 c3 c4 c5 c6 c7 c8 c9 c10 c11) H → va_D A (wX11_solve h0 h1 h2 h3 h4 h5 h6 h7 h8 h9 h10 h11 kc1 kc2 kc3 kc4 kc5 kc6 kc7 kc8 kc9 kc10 kc11 V0 v0_statements v0_newG v0_newL v0_newS c1 c2 c3 c4 c5 c6 c7 c8 c9 c10 c11) → va_S A s.heap H locs → lv_has ls 7 [(0, .ref h0), (1, .int y1), (2, .int y2)] → k61 y1 y2 v0_newG v0_newL v0_newS c1 c2 c10 = some o → G 0 0 H locs (F0 m 61 ls [])) (k67 : Int32 → Int32 → Int32 → Int32 → Int32 → Int32 → (Nat → Int32) → (Nat → Int32) → (Nat → Int32) → Option (Int32 × Int32 × Int32 × (Nat → Int32) × (Nat → Int32) × (Nat → Int32))) (hk67 : ∀ (y1 : Int32) (y2 : Int32) (y3 : Int32) (v0_newG : Int32) (v0_newL : Int32) (v0_newS : Int32) (c1 : (Nat → Int32)) (c2 : (Nat → Int32)) (c10 : (Nat → Int32)) (H : Heap) (locs : List Loc) (ls : Array Slot), va_P (dC, dI) vwCl (wX11_solve h0 h1 h2 h3 h4 h5 h6 h7 h8 h9 h10 h11 kc1 kc2 kc3 kc4 kc5 kc6 kc7 kc8 kc9 kc10 kc11 V0 v0_statements v0_newG v0_newL v0_newS c1 c2 c3 c4 c5 c6 c7 c8 c9 c10 c11) H → va_D A (wX11_solve h0 h1 h2 h3 h4 h5 h6 h7 h8 h9 h10 h11 kc1 kc2 kc3 kc4 kc5 kc6 kc7 kc8 kc9 kc10 kc11 V0 v0_statements v0_newG v0_newL v0_newS c1 c2 c3 c4 c5 c6 c7 c8 c9 c10 c11) → va_S A s.heap H locs → lv_has ls 7 [(0, .ref h0), (1, .int y1), (2, .int y2), (3, .int y3)] → k67 y1 y2 y3 v0_newG v0_newL v0_newS c1 c2 c10 = some o → G 0 0 H locs (F0 m 67 ls [])) (n : Nat), ∀ (y1 : Int32) (y2 : Int32) (y3 : Int32) (y4 : Int32) (v0_newG : Int32) (v0_newL : Int32) (v0_newS : Int32) (c1 : (Nat → Int32)) (c2 : (Nat → Int32)) (c10 : (Nat → Int32)) (H : Heap) (locs : List Loc) (ls : Array Slot), va_P (dC, dI) vwCl (wX11_solve h0 h1 h2 h3 h4 h5 h6 h7 h8 h9 h10 h11 kc1 kc2 kc3 kc4 kc5 kc6 kc7 kc8 kc9 kc10 kc11 V0 v0_statements v0_newG v0_newL v0_newS c1 c2 c3 c4 c5 c6 c7 c8 c9 c10 c11) H → va_D A (wX11_solve h0 h1 h2 h3 h4 h5 h6 h7 h8 h9 h10 h11 kc1 kc2 kc3 kc4 kc5 kc6 kc7 kc8 kc9 kc10 kc11 V0 v0_statements v0_newG v0_newL v0_newS c1 c2 c3 c4 c5 c6 c7 c8 c9 c10 c11) → va_S A s.heap H locs → lv_has ls 7 [(0, .ref h0), (1, .int y1), (2, .int y2), (3, .int y3), (4, .int y4)] → fX11_solve_l76 v0_statements c3 c4 c5 c6 c7 c8 c9 c11 k48 k61 k67 n y1 y2 y3 y4 v0_newG v0_newL v0_newS c1 c2 c10 = some o → G 0 0 H locs (F0 m 76 ls []) := by
    intro k48 hk48 k61 hk61 k67 hk67 n
    induction n with
    | zero => intro y1 y2 y3 y4 v0_newG v0_newL v0_newS c1 c2 c10 H locs ls _ _ _ _ hf; cases hf
    | succ n ih => exact B76 k48 hk48 k61 hk61 k67 hk67 _ ih
  have B67 : ∀ (k48 : Int32 → Int32 → Int32 → Int32 → (Nat → Int32) → (Nat → Int32) → (Nat → Int32) → Option (Int32 × Int32 × Int32 × (Nat → Int32) × (Nat → Int32) × (Nat → Int32))) (hk48 : ∀ (y1 : Int32) (v0_newG : Int32) (v0_newL : Int32) (v0_newS : Int32) (c1 : (Nat → Int32)) (c2 : (Nat → Int32)) (c10 : (Nat → Int32)) (H : Heap) (locs : List Loc) (ls : Array Slot), va_P (dC, dI) vwCl (wX11_solve h0 h1 h2 h3 h4 h5 h6 h7 h8 h9 h10 h11 kc1 kc2 kc3 kc4 kc5 kc6 kc7 kc8 kc9 kc10 kc11 V0 v0_statements v0_newG v0_newL v0_newS c1 c2 c3 c4 c5 c6 c7 c8 c9 c10 c11) H → va_D A (wX11_solve h0 h1 h2 h3 h4 h5 h6 h7 h8 h9 h10 h11 kc1 kc2 kc3 kc4 kc5 kc6 kc7 kc8 kc9 kc10 kc11 V0 v0_statements v0_newG v0_newL v0_newS c1 c2 c3 c4 c5 c6 c7 c8 c9 c10 c11) → va_S A s.heap H locs → lv_has ls 7 [(0, .ref h0), (1, .int y1)] → k48 y1 v0_newG v0_newL v0_newS c1 c2 c10 = some o → G 0 0 H locs (F0 m 48 ls [])) (k61 : Int32 → Int32 → Int32 → Int32 → Int32 → (Nat → Int32) → (Nat → Int32) → (Nat → Int32) → Option (Int32 × Int32 × Int32 × (Nat → Int32) × (Nat → Int32) × (Nat → Int32))) (hk61 : ∀ (y1 : Int32) (y2 : Int32) (v0_newG : Int32) (v0_newL : Int32) (v0_newS : Int32) (c1 : (Nat → Int32)) (c2 : (Nat → Int32)) (c10 : (Nat → Int32)) (H : Heap) (locs : List Loc) (ls : Array Slot), va_P (dC, dI) vwCl (wX11_solve h0 h1 h2 h3 h4 h5 h6 h7 h8 h9 h10 h11 kc1 kc2 kc3 kc4 kc5 kc6 kc7 kc8 kc9 kc10 kc11 V0 v0_statements v0_newG v0_newL v0_newS c1 c2 c3 c4 c5 c6 c7 c8 c9 c10 c11) H → va_D A (wX11_solve h0 h1 h2 h3 h4 h5 h6 h7 h8 h9 h10 h11 kc1 kc2 kc3 kc4 kc5 kc6 kc7 kc8 kc9 kc10 kc11 V0 v0_statements v0_newG v0_newL v0_newS c1 c2 c3 c4 c5 c6 c7 c8 c9 c10 c11) → va_S A s.heap H locs → lv_has ls 7 [(0, .ref h0), (1, .int y1), (2, .int y2)] → k61 y1 y2 v0_newG v0_newL v0_newS c1 c2 c10 = some o → G 0 0 H locs (F0 m 61 ls [])) (k67 : Int32 → Int32 → Int32 → Int32 → Int32 → Int32 → (Nat → Int32) → (Nat → Int32) → (Nat → Int32) → Option (Int32 × Int32 × Int32 × (Nat → Int32) × (Nat → Int32) × (Nat → Int32))) (hk67 : ∀ (y1 : Int32) (y2 : Int32) (y3 : Int32) (v0_newG : Int32) (v0_newL : Int32) (v0_newS : Int32) (c1 : (Nat → Int32)) (c2 : (Nat → Int32)) (c10 : (Nat → Int32)) (H : Heap) (locs : List Loc) (ls : Array Slot), va_P (dC, dI) vwCl (wX11_solve h0 h1 h2 h3 h4 h5 h6 h7 h8 h9 h10 h11 kc1 kc2 kc3 kc4 kc5 kc6 kc7 kc8 kc9 kc10 kc11 V0 v0_statements v0_newG v0_newL v0_newS c1 c2 c3 c4 c5 c6 c7 c8 c9 c10 c11) H → va_D A (wX11_solve h0 h1 h2 h3 h4 h5 h6 h7 h8 h9 h10 h11 kc1 kc2 kc3 kc4 kc5 kc6 kc7 kc8 kc9 kc10 kc11 V0 v0_statements v0_newG v0_newL v0_newS c1 c2 c3 c4 c5 c6 c7 c8 c9 c10 c11) → va_S A s.heap H locs → lv_has ls 7 [(0, .ref h0), (1, .int y1), (2, .int y2), (3, .int y3)] → k67 y1 y2 y3 v0_newG v0_newL v0_newS c1 c2 c10 = some o → G 0 0 H locs (F0 m 67 ls [])), ∀ (y1 : Int32) (y2 : Int32) (y3 : Int32) (v0_newG : Int32) (v0_newL : Int32) (v0_newS : Int32) (c1 : (Nat → Int32)) (c2 : (Nat → Int32)) (c10 : (Nat → Int32)) (H : Heap) (locs : List Loc) (ls : Array Slot), va_P (dC, dI) vwCl (wX11_solve h0 h1 h2 h3 h4 h5 h6 h7 h8 h9 h10 h11 kc1 kc2 kc3 kc4 kc5 kc6 kc7 kc8 kc9 kc10 kc11 V0 v0_statements v0_newG v0_newL v0_newS c1 c2 c3 c4 c5 c6 c7 c8 c9 c10 c11) H → va_D A (wX11_solve h0 h1 h2 h3 h4 h5 h6 h7 h8 h9 h10 h11 kc1 kc2 kc3 kc4 kc5 kc6 kc7 kc8 kc9 kc10 kc11 V0 v0_statements v0_newG v0_newL v0_newS c1 c2 c3 c4 c5 c6 c7 c8 c9 c10 c11) → va_S A s.heap H locs → lv_has ls 7 [(0, .ref h0), (1, .int y1), (2, .int y2), (3, .int y3)] → fX11_solve_b67 v0_statements c3 c4 c5 c6 c7 c8 c9 c11 k48 k61 k67 y1 y2 y3 v0_newG v0_newL v0_newS c1 c2 c10 = some o → G 0 0 H locs (F0 m 67 ls []) := by
    intro k48 hk48 k61 hk61 k67 hk67 y1 y2 y3 v0_newG v0_newL v0_newS c1 c2 c10 H locs ls hP hD hS hl hf
    refine (hG _ _ _ _ _).mpr ?_
    unfold fX11_solve_b67 at hf
    refine lv_iload_n hx hb dX11_solve_67 rfl (lv_at hl 3 rfl) ?_
    refine lv_bipush (v := 32) hx hb dX11_solve_68 (by decide +kernel) ?_
    refine lv_icmp_ge (tgt := 181) hx hb dX11_solve_70 (by decide) (fun cq44 => ?_) (fun cq44 => ?_)
    · replace hf := if_at hf cq44
      obtain ⟨x45, e45⟩ : ∃ y : Int32, y = y2 + (-1) := ⟨_, rfl⟩
      replace hf := nm_at hf e45
      refine lv_iinc (v := x45) (lv' := [(2, .int x45), (0, .ref h0), (1, .int y1), (3, .int y3)]) hx hb dX11_solve_181 hl (k := 2) rfl (by rw [e45]; rfl) (by decide) rfl (fun ls hl => ?_)
      refine lv_goto (tgt := 61) hx hb dX11_solve_184 (by decide) ?_
      exact (hG _ _ _ _ _).mp (hk61 y1 x45 v0_newG v0_newL v0_newS c1 c2 c10 H locs ls (hP.sub [0, 1, 2, 3, 4, 5, 6, 7, 8, 9, 10, 11] rfl) (hD.sub [0, 1, 2, 3, 4, 5, 6, 7, 8, 9, 10, 11] (by decide) rfl) hS (lv_sub hl [1, 2, 0] rfl) hf)
    · replace hf := if_no hf cq44
      refine lv_iconst (v := 0) hx hb dX11_solve_73 (by decide +kernel) ?_
      refine lv_istore (lv' := [(4, .int 0), (0, .ref h0), (1, .int y1), (2, .int y2), (3, .int y3)]) hx hb dX11_solve_74 hl (by decide) rfl (fun ls hl => ?_)
      exact (hG _ _ _ _ _).mp (L76 k48 hk48 k61 hk61 k67 hk67 FU y1 y2 y3 0 v0_newG v0_newL v0_newS c1 c2 c10 H locs ls (hP.sub [0, 1, 2, 3, 4, 5, 6, 7, 8, 9, 10, 11] rfl) (hD.sub [0, 1, 2, 3, 4, 5, 6, 7, 8, 9, 10, 11] (by decide) rfl) hS (lv_sub hl [1, 2, 3, 4, 0] rfl) hf)
  have L67 : ∀ (k48 : Int32 → Int32 → Int32 → Int32 → (Nat → Int32) → (Nat → Int32) → (Nat → Int32) → Option (Int32 × Int32 × Int32 × (Nat → Int32) × (Nat → Int32) × (Nat → Int32))) (hk48 : ∀ (y1 : Int32) (v0_newG : Int32) (v0_newL : Int32) (v0_newS : Int32) (c1 : (Nat → Int32)) (c2 : (Nat → Int32)) (c10 : (Nat → Int32)) (H : Heap) (locs : List Loc) (ls : Array Slot), va_P (dC, dI) vwCl (wX11_solve h0 h1 h2 h3 h4 h5 h6 h7 h8 h9 h10 h11 kc1 kc2 kc3 kc4 kc5 kc6 kc7 kc8 kc9 kc10 kc11 V0 v0_statements v0_newG v0_newL v0_newS c1 c2 c3 c4 c5 c6 c7 c8 c9 c10 c11) H → va_D A (wX11_solve h0 h1 h2 h3 h4 h5 h6 h7 h8 h9 h10 h11 kc1 kc2 kc3 kc4 kc5 kc6 kc7 kc8 kc9 kc10 kc11 V0 v0_statements v0_newG v0_newL v0_newS c1 c2 c3 c4 c5 c6 c7 c8 c9 c10 c11) → va_S A s.heap H locs → lv_has ls 7 [(0, .ref h0), (1, .int y1)] → k48 y1 v0_newG v0_newL v0_newS c1 c2 c10 = some o → G 0 0 H locs (F0 m 48 ls [])) (k61 : Int32 → Int32 → Int32 → Int32 → Int32 → (Nat → Int32) → (Nat → Int32) → (Nat → Int32) → Option (Int32 × Int32 × Int32 × (Nat → Int32) × (Nat → Int32) × (Nat → Int32))) (hk61 : ∀ (y1 : Int32) (y2 : Int32) (v0_newG : Int32) (v0_newL : Int32) (v0_newS : Int32) (c1 : (Nat → Int32)) (c2 : (Nat → Int32)) (c10 : (Nat → Int32)) (H : Heap) (locs : List Loc) (ls : Array Slot), va_P (dC, dI) vwCl (wX11_solve h0 h1 h2 h3 h4 h5 h6 h7 h8 h9 h10 h11 kc1 kc2 kc3 kc4 kc5 kc6 kc7 kc8 kc9 kc10 kc11 V0 v0_statements v0_newG v0_newL v0_newS c1 c2 c3 c4 c5 c6 c7 c8 c9 c10 c11) H → va_D A (wX11_solve h0 h1 h2 h3 h4 h5 h6 h7 h8 h9 h10 h11 kc1 kc2 kc3 kc4 kc5 kc6 kc7 kc8 kc9 kc10 kc11 V0 v0_statements v0_newG v0_newL v0_newS c1 c2 c3 c4 c5 c6 c7 c8 c9 c10 c11) → va_S A s.heap H locs → lv_has ls 7 [(0, .ref h0), (1, .int y1), (2, .int y2)] → k61 y1 y2 v0_newG v0_newL v0_newS c1 c2 c10 = some o → G 0 0 H locs (F0 m 61 ls [])) (n : Nat), ∀ (y1 : Int32) (y2 : Int32) (y3 : Int32) (v0_newG : Int32) (v0_newL : Int32) (v0_newS : Int32) (c1 : (Nat → Int32)) (c2 : (Nat → Int32)) (c10 : (Nat → Int32)) (H : Heap) (locs : List Loc) (ls : Array Slot), va_P (dC, dI) vwCl (wX11_solve h0 h1 h2 h3 h4 h5 h6 h7 h8 h9 h10 h11 kc1 kc2 kc3 kc4 kc5 kc6 kc7 kc8 kc9 kc10 kc11 V0 v0_statements v0_newG v0_newL v0_newS c1 c2 c3 c4 c5 c6 c7 c8 c9 c10 c11) H → va_D A (wX11_solve h0 h1 h2 h3 h4 h5 h6 h7 h8 h9 h10 h11 kc1 kc2 kc3 kc4 kc5 kc6 kc7 kc8 kc9 kc10 kc11 V0 v0_statements v0_newG v0_newL v0_newS c1 c2 c3 c4 c5 c6 c7 c8 c9 c10 c11) → va_S A s.heap H locs → lv_has ls 7 [(0, .ref h0), (1, .int y1), (2, .int y2), (3, .int y3)] → fX11_solve_l67 v0_statements c3 c4 c5 c6 c7 c8 c9 c11 k48 k61 n y1 y2 y3 v0_newG v0_newL v0_newS c1 c2 c10 = some o → G 0 0 H locs (F0 m 67 ls []) := by
    intro k48 hk48 k61 hk61 n
    induction n with
    | zero => intro y1 y2 y3 v0_newG v0_newL v0_newS c1 c2 c10 H locs ls _ _ _ _ hf; cases hf
    | succ n ih => exact B67 k48 hk48 k61 hk61 _ ih
  have B61 : ∀ (k48 : Int32 → Int32 → Int32 → Int32 → (Nat → Int32) → (Nat → Int32) → (Nat → Int32) → Option (Int32 × Int32 × Int32 × (Nat → Int32) × (Nat → Int32) × (Nat → Int32))) (hk48 : ∀ (y1 : Int32) (v0_newG : Int32) (v0_newL : Int32) (v0_newS : Int32) (c1 : (Nat → Int32)) (c2 : (Nat → Int32)) (c10 : (Nat → Int32)) (H : Heap) (locs : List Loc) (ls : Array Slot), va_P (dC, dI) vwCl (wX11_solve h0 h1 h2 h3 h4 h5 h6 h7 h8 h9 h10 h11 kc1 kc2 kc3 kc4 kc5 kc6 kc7 kc8 kc9 kc10 kc11 V0 v0_statements v0_newG v0_newL v0_newS c1 c2 c3 c4 c5 c6 c7 c8 c9 c10 c11) H → va_D A (wX11_solve h0 h1 h2 h3 h4 h5 h6 h7 h8 h9 h10 h11 kc1 kc2 kc3 kc4 kc5 kc6 kc7 kc8 kc9 kc10 kc11 V0 v0_statements v0_newG v0_newL v0_newS c1 c2 c3 c4 c5 c6 c7 c8 c9 c10 c11) → va_S A s.heap H locs → lv_has ls 7 [(0, .ref h0), (1, .int y1)] → k48 y1 v0_newG v0_newL v0_newS c1 c2 c10 = some o → G 0 0 H locs (F0 m 48 ls [])) (k61 : Int32 → Int32 → Int32 → Int32 → Int32 → (Nat → Int32) → (Nat → Int32) → (Nat → Int32) → Option (Int32 × Int32 × Int32 × (Nat → Int32) × (Nat → Int32) × (Nat → Int32))) (hk61 : ∀ (y1 : Int32) (y2 : Int32) (v0_newG : Int32) (v0_newL : Int32) (v0_newS : Int32) (c1 : (Nat → Int32)) (c2 : (Nat → Int32)) (c10 : (Nat → Int32)) (H : Heap) (locs : List Loc) (ls : Array Slot), va_P (dC, dI) vwCl (wX11_solve h0 h1 h2 h3 h4 h5 h6 h7 h8 h9 h10 h11 kc1 kc2 kc3 kc4 kc5 kc6 kc7 kc8 kc9 kc10 kc11 V0 v0_statements v0_newG v0_newL v0_newS c1 c2 c3 c4 c5 c6 c7 c8 c9 c10 c11) H → va_D A (wX11_solve h0 h1 h2 h3 h4 h5 h6 h7 h8 h9 h10 h11 kc1 kc2 kc3 kc4 kc5 kc6 kc7 kc8 kc9 kc10 kc11 V0 v0_statements v0_newG v0_newL v0_newS c1 c2 c3 c4 c5 c6 c7 c8 c9 c10 c11) → va_S A s.heap H locs → lv_has ls 7 [(0, .ref h0), (1, .int y1), (2, .int y2)] → k61 y1 y2 v0_newG v0_newL v0_newS c1 c2 c10 = some o → G 0 0 H locs (F0 m 61 ls [])), ∀ (y1 : Int32) (y2 : Int32) (v0_newG : Int32) (v0_newL : Int32) (v0_newS : Int32) (c1 : (Nat → Int32)) (c2 : (Nat → Int32)) (c10 : (Nat → Int32)) (H : Heap) (locs : List Loc) (ls : Array Slot), va_P (dC, dI) vwCl (wX11_solve h0 h1 h2 h3 h4 h5 h6 h7 h8 h9 h10 h11 kc1 kc2 kc3 kc4 kc5 kc6 kc7 kc8 kc9 kc10 kc11 V0 v0_statements v0_newG v0_newL v0_newS c1 c2 c3 c4 c5 c6 c7 c8 c9 c10 c11) H → va_D A (wX11_solve h0 h1 h2 h3 h4 h5 h6 h7 h8 h9 h10 h11 kc1 kc2 kc3 kc4 kc5 kc6 kc7 kc8 kc9 kc10 kc11 V0 v0_statements v0_newG v0_newL v0_newS c1 c2 c3 c4 c5 c6 c7 c8 c9 c10 c11) → va_S A s.heap H locs → lv_has ls 7 [(0, .ref h0), (1, .int y1), (2, .int y2)] → fX11_solve_b61 v0_statements c3 c4 c5 c6 c7 c8 c9 c11 k48 k61 y1 y2 v0_newG v0_newL v0_newS c1 c2 c10 = some o → G 0 0 H locs (F0 m 61 ls []) := by
    intro k48 hk48 k61 hk61 y1 y2 v0_newG v0_newL v0_newS c1 c2 c10 H locs ls hP hD hS hl hf
    refine (hG _ _ _ _ _).mpr ?_
    unfold fX11_solve_b61 at hf
    refine lv_iload_n hx hb dX11_solve_61 rfl (lv_at hl 2 rfl) ?_
    refine lv_if_lt (tgt := 187) hx hb dX11_solve_62 (by decide) (fun cq46 => ?_) (fun cq46 => ?_)
    · replace hf := if_at hf cq46
      refine lv_goto (tgt := 48) hx hb dX11_solve_187 (by decide) ?_
      exact (hG _ _ _ _ _).mp (hk48 y1 v0_newG v0_newL v0_newS c1 c2 c10 H locs ls (hP.sub [0, 1, 2, 3, 4, 5, 6, 7, 8, 9, 10, 11] rfl) (hD.sub [0, 1, 2, 3, 4, 5, 6, 7, 8, 9, 10, 11] (by decide) rfl) hS (lv_sub hl [0, 1] rfl) hf)
    · replace hf := if_no hf cq46
      refine lv_iconst (v := 0) hx hb dX11_solve_65 (by decide +kernel) ?_
      refine lv_istore_n (lv' := [(3, .int 0), (0, .ref h0), (1, .int y1), (2, .int y2)]) hx hb dX11_solve_66 rfl hl (by decide) rfl (fun ls hl => ?_)
      exact (hG _ _ _ _ _).mp (L67 k48 hk48 k61 hk61 FU y1 y2 0 v0_newG v0_newL v0_newS c1 c2 c10 H locs ls (hP.sub [0, 1, 2, 3, 4, 5, 6, 7, 8, 9, 10, 11] rfl) (hD.sub [0, 1, 2, 3, 4, 5, 6, 7, 8, 9, 10, 11] (by decide) rfl) hS (lv_sub hl [1, 2, 3, 0] rfl) hf)
  have L61 : ∀ (k48 : Int32 → Int32 → Int32 → Int32 → (Nat → Int32) → (Nat → Int32) → (Nat → Int32) → Option (Int32 × Int32 × Int32 × (Nat → Int32) × (Nat → Int32) × (Nat → Int32))) (hk48 : ∀ (y1 : Int32) (v0_newG : Int32) (v0_newL : Int32) (v0_newS : Int32) (c1 : (Nat → Int32)) (c2 : (Nat → Int32)) (c10 : (Nat → Int32)) (H : Heap) (locs : List Loc) (ls : Array Slot), va_P (dC, dI) vwCl (wX11_solve h0 h1 h2 h3 h4 h5 h6 h7 h8 h9 h10 h11 kc1 kc2 kc3 kc4 kc5 kc6 kc7 kc8 kc9 kc10 kc11 V0 v0_statements v0_newG v0_newL v0_newS c1 c2 c3 c4 c5 c6 c7 c8 c9 c10 c11) H → va_D A (wX11_solve h0 h1 h2 h3 h4 h5 h6 h7 h8 h9 h10 h11 kc1 kc2 kc3 kc4 kc5 kc6 kc7 kc8 kc9 kc10 kc11 V0 v0_statements v0_newG v0_newL v0_newS c1 c2 c3 c4 c5 c6 c7 c8 c9 c10 c11) → va_S A s.heap H locs → lv_has ls 7 [(0, .ref h0), (1, .int y1)] → k48 y1 v0_newG v0_newL v0_newS c1 c2 c10 = some o → G 0 0 H locs (F0 m 48 ls [])) (n : Nat), ∀ (y1 : Int32) (y2 : Int32) (v0_newG : Int32) (v0_newL : Int32) (v0_newS : Int32) (c1 : (Nat → Int32)) (c2 : (Nat → Int32)) (c10 : (Nat → Int32)) (H : Heap) (locs : List Loc) (ls : Array Slot), va_P (dC, dI) vwCl (wX11_solve h0 h1 h2 h3 h4 h5 h6 h7 h8 h9 h10 h11 kc1 kc2 kc3 kc4 kc5 kc6 kc7 kc8 kc9 kc10 kc11 V0 v0_statements v0_newG v0_newL v0_newS c1 c2 c3 c4 c5 c6 c7 c8 c9 c10 c11) H → va_D A (wX11_solve h0 h1 h2 h3 h4 h5 h6 h7 h8 h9 h10 h11 kc1 kc2 kc3 kc4 kc5 kc6 kc7 kc8 kc9 kc10 kc11 V0 v0_statements v0_newG v0_newL v0_newS c1 c2 c3 c4 c5 c6 c7 c8 c9 c10 c11) → va_S A s.heap H locs → lv_has ls 7 [(0, .ref h0), (1, .int y1), (2, .int y2)] → fX11_solve_l61 v0_statements c3 c4 c5 c6 c7 c8 c9 c11 k48 n y1 y2 v0_newG v0_newL v0_newS c1 c2 c10 = some o → G 0 0 H locs (F0 m 61 ls []) := by
    intro k48 hk48 n
    induction n with
    | zero => intro y1 y2 v0_newG v0_newL v0_newS c1 c2 c10 H locs ls _ _ _ _ hf; cases hf
    | succ n ih => exact B61 k48 hk48 _ ih
  have B48 : ∀ (k48 : Int32 → Int32 → Int32 → Int32 → (Nat → Int32) → (Nat → Int32) → (Nat → Int32) → Option (Int32 × Int32 × Int32 × (Nat → Int32) × (Nat → Int32) × (Nat → Int32))) (hk48 : ∀ (y1 : Int32) (v0_newG : Int32) (v0_newL : Int32) (v0_newS : Int32) (c1 : (Nat → Int32)) (c2 : (Nat → Int32)) (c10 : (Nat → Int32)) (H : Heap) (locs : List Loc) (ls : Array Slot), va_P (dC, dI) vwCl (wX11_solve h0 h1 h2 h3 h4 h5 h6 h7 h8 h9 h10 h11 kc1 kc2 kc3 kc4 kc5 kc6 kc7 kc8 kc9 kc10 kc11 V0 v0_statements v0_newG v0_newL v0_newS c1 c2 c3 c4 c5 c6 c7 c8 c9 c10 c11) H → va_D A (wX11_solve h0 h1 h2 h3 h4 h5 h6 h7 h8 h9 h10 h11 kc1 kc2 kc3 kc4 kc5 kc6 kc7 kc8 kc9 kc10 kc11 V0 v0_statements v0_newG v0_newL v0_newS c1 c2 c3 c4 c5 c6 c7 c8 c9 c10 c11) → va_S A s.heap H locs → lv_has ls 7 [(0, .ref h0), (1, .int y1)] → k48 y1 v0_newG v0_newL v0_newS c1 c2 c10 = some o → G 0 0 H locs (F0 m 48 ls [])), ∀ (y1 : Int32) (v0_newG : Int32) (v0_newL : Int32) (v0_newS : Int32) (c1 : (Nat → Int32)) (c2 : (Nat → Int32)) (c10 : (Nat → Int32)) (H : Heap) (locs : List Loc) (ls : Array Slot), va_P (dC, dI) vwCl (wX11_solve h0 h1 h2 h3 h4 h5 h6 h7 h8 h9 h10 h11 kc1 kc2 kc3 kc4 kc5 kc6 kc7 kc8 kc9 kc10 kc11 V0 v0_statements v0_newG v0_newL v0_newS c1 c2 c3 c4 c5 c6 c7 c8 c9 c10 c11) H → va_D A (wX11_solve h0 h1 h2 h3 h4 h5 h6 h7 h8 h9 h10 h11 kc1 kc2 kc3 kc4 kc5 kc6 kc7 kc8 kc9 kc10 kc11 V0 v0_statements v0_newG v0_newL v0_newS c1 c2 c3 c4 c5 c6 c7 c8 c9 c10 c11) → va_S A s.heap H locs → lv_has ls 7 [(0, .ref h0), (1, .int y1)] → fX11_solve_b48 v0_statements c3 c4 c5 c6 c7 c8 c9 c11  k48 y1 v0_newG v0_newL v0_newS c1 c2 c10 = some o → G 0 0 H locs (F0 m 48 ls []) := by
    intro  k48 hk48 y1 v0_newG v0_newL v0_newS c1 c2 c10 H locs ls hP hD hS hl hf
    refine (hG _ _ _ _ _).mpr ?_
    unfold fX11_solve_b48 at hf
    refine lv_iload_n hx hb dX11_solve_48 rfl (lv_at hl 1 rfl) ?_
    refine lv_if_eq (tgt := 190) hx hb dX11_solve_49 (by decide) (fun cq47 => ?_) (fun cq47 => ?_)
    · replace hf := if_at hf cq47
      refine lv_iconst (v := 1) hx hb dX11_solve_190 (by decide +kernel) ?_
      refine lv_istore_n (lv' := [(1, .int 1), (0, .ref h0)]) hx hb dX11_solve_191 rfl hl (by decide) rfl (fun ls hl => ?_)
      exact (hG _ _ _ _ _).mp (L192 FU 1 v0_newG v0_newL v0_newS c1 c2 c10 H locs ls (hP.sub [0, 1, 2, 3, 4, 5, 6, 7, 8, 9, 10, 11] rfl) (hD.sub [0, 1, 2, 3, 4, 5, 6, 7, 8, 9, 10, 11] (by decide) rfl) hS (lv_sub hl [1, 0] rfl) hf)
    · replace hf := if_no hf cq47
      refine lv_iconst (v := 0) hx hb dX11_solve_52 (by decide +kernel) ?_
      refine lv_istore_n (lv' := [(1, .int 0), (0, .ref h0)]) hx hb dX11_solve_53 rfl hl (by decide) rfl (fun ls hl => ?_)
      refine lv_aload_n hx hb dX11_solve_54 rfl (lv_at hl 1 rfl) ?_
      refine va_get (D := (dC, dI)) (ci := 11) (v := .int v0_statements) (C := RX11) (T := TX11) (N := 71) hx hb hts inlX11 hown hK hP 0 rfl rfl 30 (by decide) w1_ (fun _ h9 => h9) rfl dX11_solve_55 ?_
      refine lv_iconst (v := 1) hx hb dX11_solve_58 (by decide +kernel) ?_
      refine lv_isub hx hb dX11_solve_59 ?_
      refine lv_topi (fun x48 e48 => ?_)
      replace hf := nm_at hf e48
      refine lv_istore_n (lv' := [(2, .int x48), (1, .int 0), (0, .ref h0)]) hx hb dX11_solve_60 rfl hl (by decide) rfl (fun ls hl => ?_)
      exact (hG _ _ _ _ _).mp (L61 k48 hk48 FU 0 x48 v0_newG v0_newL v0_newS c1 c2 c10 H locs ls (hP.sub [0, 1, 2, 3, 4, 5, 6, 7, 8, 9, 10, 11] rfl) (hD.sub [0, 1, 2, 3, 4, 5, 6, 7, 8, 9, 10, 11] (by decide) rfl) hS (lv_sub hl [2, 1, 0] rfl) hf)
  have L48 : ∀ (n : Nat), ∀ (y1 : Int32) (v0_newG : Int32) (v0_newL : Int32) (v0_newS : Int32) (c1 : (Nat → Int32)) (c2 : (Nat → Int32)) (c10 : (Nat → Int32)) (H : Heap) (locs : List Loc) (ls : Array Slot), va_P (dC, dI) vwCl (wX11_solve h0 h1 h2 h3 h4 h5 h6 h7 h8 h9 h10 h11 kc1 kc2 kc3 kc4 kc5 kc6 kc7 kc8 kc9 kc10 kc11 V0 v0_statements v0_newG v0_newL v0_newS c1 c2 c3 c4 c5 c6 c7 c8 c9 c10 c11) H → va_D A (wX11_solve h0 h1 h2 h3 h4 h5 h6 h7 h8 h9 h10 h11 kc1 kc2 kc3 kc4 kc5 kc6 kc7 kc8 kc9 kc10 kc11 V0 v0_statements v0_newG v0_newL v0_newS c1 c2 c3 c4 c5 c6 c7 c8 c9 c10 c11) → va_S A s.heap H locs → lv_has ls 7 [(0, .ref h0), (1, .int y1)] → fX11_solve_l48 v0_statements c3 c4 c5 c6 c7 c8 c9 c11  n y1 v0_newG v0_newL v0_newS c1 c2 c10 = some o → G 0 0 H locs (F0 m 48 ls []) := by
    intro  n
    induction n with
    | zero => intro y1 v0_newG v0_newL v0_newS c1 c2 c10 H locs ls _ _ _ _ hf; cases hf
    | succ n ih => exact B48  _ ih
  have B25 : ∀ (k25 : Int32 → Int32 → Int32 → Int32 → (Nat → Int32) → (Nat → Int32) → (Nat → Int32) → Option (Int32 × Int32 × Int32 × (Nat → Int32) × (Nat → Int32) × (Nat → Int32))) (hk25 : ∀ (y1 : Int32) (v0_newG : Int32) (v0_newL : Int32) (v0_newS : Int32) (c1 : (Nat → Int32)) (c2 : (Nat → Int32)) (c10 : (Nat → Int32)) (H : Heap) (locs : List Loc) (ls : Array Slot), va_P (dC, dI) vwCl (wX11_solve h0 h1 h2 h3 h4 h5 h6 h7 h8 h9 h10 h11 kc1 kc2 kc3 kc4 kc5 kc6 kc7 kc8 kc9 kc10 kc11 V0 v0_statements v0_newG v0_newL v0_newS c1 c2 c3 c4 c5 c6 c7 c8 c9 c10 c11) H → va_D A (wX11_solve h0 h1 h2 h3 h4 h5 h6 h7 h8 h9 h10 h11 kc1 kc2 kc3 kc4 kc5 kc6 kc7 kc8 kc9 kc10 kc11 V0 v0_statements v0_newG v0_newL v0_newS c1 c2 c3 c4 c5 c6 c7 c8 c9 c10 c11) → va_S A s.heap H locs → lv_has ls 7 [(0, .ref h0), (1, .int y1)] → k25 y1 v0_newG v0_newL v0_newS c1 c2 c10 = some o → G 0 0 H locs (F0 m 25 ls [])), ∀ (y1 : Int32) (v0_newG : Int32) (v0_newL : Int32) (v0_newS : Int32) (c1 : (Nat → Int32)) (c2 : (Nat → Int32)) (c10 : (Nat → Int32)) (H : Heap) (locs : List Loc) (ls : Array Slot), va_P (dC, dI) vwCl (wX11_solve h0 h1 h2 h3 h4 h5 h6 h7 h8 h9 h10 h11 kc1 kc2 kc3 kc4 kc5 kc6 kc7 kc8 kc9 kc10 kc11 V0 v0_statements v0_newG v0_newL v0_newS c1 c2 c3 c4 c5 c6 c7 c8 c9 c10 c11) H → va_D A (wX11_solve h0 h1 h2 h3 h4 h5 h6 h7 h8 h9 h10 h11 kc1 kc2 kc3 kc4 kc5 kc6 kc7 kc8 kc9 kc10 kc11 V0 v0_statements v0_newG v0_newL v0_newS c1 c2 c3 c4 c5 c6 c7 c8 c9 c10 c11) → va_S A s.heap H locs → lv_has ls 7 [(0, .ref h0), (1, .int y1)] → fX11_solve_b25 v0_statements c3 c4 c5 c6 c7 c8 c9 c11  k25 y1 v0_newG v0_newL v0_newS c1 c2 c10 = some o → G 0 0 H locs (F0 m 25 ls []) := by
    intro  k25 hk25 y1 v0_newG v0_newL v0_newS c1 c2 c10 H locs ls hP hD hS hl hf
    refine (hG _ _ _ _ _).mpr ?_
    unfold fX11_solve_b25 at hf
    refine lv_iload_n hx hb dX11_solve_25 rfl (lv_at hl 1 rfl) ?_
    refine lv_sipush (v := 1280) hx hb dX11_solve_26 (by decide +kernel) ?_
    refine lv_icmp_ge (tgt := 46) hx hb dX11_solve_29 (by decide) (fun cq49 => ?_) (fun cq49 => ?_)
    · replace hf := if_at hf cq49
      refine lv_iconst (v := 1) hx hb dX11_solve_46 (by decide +kernel) ?_
      refine lv_istore_n (lv' := [(1, .int 1), (0, .ref h0)]) hx hb dX11_solve_47 rfl hl (by decide) rfl (fun ls hl => ?_)
      exact (hG _ _ _ _ _).mp (L48 FU 1 v0_newG v0_newL v0_newS c1 c2 c10 H locs ls (hP.sub [0, 1, 2, 3, 4, 5, 6, 7, 8, 9, 10, 11] rfl) (hD.sub [0, 1, 2, 3, 4, 5, 6, 7, 8, 9, 10, 11] (by decide) rfl) hS (lv_sub hl [1, 0] rfl) hf)
    · replace hf := if_no hf cq49
      refine lv_aload_n hx hb dX11_solve_32 rfl (lv_at hl 0 rfl) ?_
      refine va_get (D := (dC, dI)) (ci := 11) (v := .ref h2) (C := RX11) (T := TX11) (N := 71) hx hb hts inlX11 hown hK hP 0 rfl rfl 61 (by decide) w0_ (fun _ h9 => h9) rfl dX11_solve_33 ?_
      refine lv_iload_n hx hb dX11_solve_36 rfl (lv_at hl 1 rfl) ?_
      refine lv_ldc (v := 2000000) hx hb hown w3_ dX11_solve_37 ?_
      have b50 := bd_in hf
      replace hf := bd_k hf
      obtain ⟨c50x, e50⟩ : ∃ y, y = upd c2 y1.toNatClampNeg 2000000 := ⟨_, rfl⟩
      replace hf := nm_at hf e50
      refine va_iast hx hb hK hP hD hS 2 1 rfl rfl b50 dX11_solve_39 (fun H locs hP hD hS => ?_)
      have hP : va_P (dC, dI) vwCl (wX11_solve h0 h1 h2 h3 h4 h5 h6 h7 h8 h9 h10 h11 kc1 kc2 kc3 kc4 kc5 kc6 kc7 kc8 kc9 kc10 kc11 V0 v0_statements v0_newG v0_newL v0_newS c1 c50x c3 c4 c5 c6 c7 c8 c9 c10 c11) H := by rw [e50]; exact hP
      have hD : va_D A (wX11_solve h0 h1 h2 h3 h4 h5 h6 h7 h8 h9 h10 h11 kc1 kc2 kc3 kc4 kc5 kc6 kc7 kc8 kc9 kc10 kc11 V0 v0_statements v0_newG v0_newL v0_newS c1 c50x c3 c4 c5 c6 c7 c8 c9 c10 c11) := by rw [e50]; exact hD
      obtain ⟨x51, e51⟩ : ∃ y : Int32, y = y1 + 1 := ⟨_, rfl⟩
      replace hf := nm_at hf e51
      refine lv_iinc (v := x51) (lv' := [(1, .int x51), (0, .ref h0)]) hx hb dX11_solve_40 hl (k := 1) rfl (by rw [e51]; rfl) (by decide) rfl (fun ls hl => ?_)
      refine lv_goto (tgt := 25) hx hb dX11_solve_43 (by decide) ?_
      exact (hG _ _ _ _ _).mp (hk25 x51 v0_newG v0_newL v0_newS c1 c50x c10 H locs ls (hP.sub [0, 1, 2, 3, 4, 5, 6, 7, 8, 9, 10, 11] rfl) (hD.sub [0, 1, 2, 3, 4, 5, 6, 7, 8, 9, 10, 11] (by decide) rfl) hS (lv_sub hl [1, 0] rfl) hf)
  have L25 : ∀ (n : Nat), ∀ (y1 : Int32) (v0_newG : Int32) (v0_newL : Int32) (v0_newS : Int32) (c1 : (Nat → Int32)) (c2 : (Nat → Int32)) (c10 : (Nat → Int32)) (H : Heap) (locs : List Loc) (ls : Array Slot), va_P (dC, dI) vwCl (wX11_solve h0 h1 h2 h3 h4 h5 h6 h7 h8 h9 h10 h11 kc1 kc2 kc3 kc4 kc5 kc6 kc7 kc8 kc9 kc10 kc11 V0 v0_statements v0_newG v0_newL v0_newS c1 c2 c3 c4 c5 c6 c7 c8 c9 c10 c11) H → va_D A (wX11_solve h0 h1 h2 h3 h4 h5 h6 h7 h8 h9 h10 h11 kc1 kc2 kc3 kc4 kc5 kc6 kc7 kc8 kc9 kc10 kc11 V0 v0_statements v0_newG v0_newL v0_newS c1 c2 c3 c4 c5 c6 c7 c8 c9 c10 c11) → va_S A s.heap H locs → lv_has ls 7 [(0, .ref h0), (1, .int y1)] → fX11_solve_l25 v0_statements c3 c4 c5 c6 c7 c8 c9 c11  n y1 v0_newG v0_newL v0_newS c1 c2 c10 = some o → G 0 0 H locs (F0 m 25 ls []) := by
    intro  n
    induction n with
    | zero => intro y1 v0_newG v0_newL v0_newS c1 c2 c10 H locs ls _ _ _ _ hf; cases hf
    | succ n ih => exact B25  _ ih
  have B2 : ∀ (k2 : Int32 → Int32 → Int32 → Int32 → (Nat → Int32) → (Nat → Int32) → (Nat → Int32) → Option (Int32 × Int32 × Int32 × (Nat → Int32) × (Nat → Int32) × (Nat → Int32))) (hk2 : ∀ (y1 : Int32) (v0_newG : Int32) (v0_newL : Int32) (v0_newS : Int32) (c1 : (Nat → Int32)) (c2 : (Nat → Int32)) (c10 : (Nat → Int32)) (H : Heap) (locs : List Loc) (ls : Array Slot), va_P (dC, dI) vwCl (wX11_solve h0 h1 h2 h3 h4 h5 h6 h7 h8 h9 h10 h11 kc1 kc2 kc3 kc4 kc5 kc6 kc7 kc8 kc9 kc10 kc11 V0 v0_statements v0_newG v0_newL v0_newS c1 c2 c3 c4 c5 c6 c7 c8 c9 c10 c11) H → va_D A (wX11_solve h0 h1 h2 h3 h4 h5 h6 h7 h8 h9 h10 h11 kc1 kc2 kc3 kc4 kc5 kc6 kc7 kc8 kc9 kc10 kc11 V0 v0_statements v0_newG v0_newL v0_newS c1 c2 c3 c4 c5 c6 c7 c8 c9 c10 c11) → va_S A s.heap H locs → lv_has ls 7 [(0, .ref h0), (1, .int y1)] → k2 y1 v0_newG v0_newL v0_newS c1 c2 c10 = some o → G 0 0 H locs (F0 m 2 ls [])), ∀ (y1 : Int32) (v0_newG : Int32) (v0_newL : Int32) (v0_newS : Int32) (c1 : (Nat → Int32)) (c2 : (Nat → Int32)) (c10 : (Nat → Int32)) (H : Heap) (locs : List Loc) (ls : Array Slot), va_P (dC, dI) vwCl (wX11_solve h0 h1 h2 h3 h4 h5 h6 h7 h8 h9 h10 h11 kc1 kc2 kc3 kc4 kc5 kc6 kc7 kc8 kc9 kc10 kc11 V0 v0_statements v0_newG v0_newL v0_newS c1 c2 c3 c4 c5 c6 c7 c8 c9 c10 c11) H → va_D A (wX11_solve h0 h1 h2 h3 h4 h5 h6 h7 h8 h9 h10 h11 kc1 kc2 kc3 kc4 kc5 kc6 kc7 kc8 kc9 kc10 kc11 V0 v0_statements v0_newG v0_newL v0_newS c1 c2 c3 c4 c5 c6 c7 c8 c9 c10 c11) → va_S A s.heap H locs → lv_has ls 7 [(0, .ref h0), (1, .int y1)] → fX11_solve_b2 v0_statements c3 c4 c5 c6 c7 c8 c9 c11  k2 y1 v0_newG v0_newL v0_newS c1 c2 c10 = some o → G 0 0 H locs (F0 m 2 ls []) := by
    intro  k2 hk2 y1 v0_newG v0_newL v0_newS c1 c2 c10 H locs ls hP hD hS hl hf
    refine (hG _ _ _ _ _).mpr ?_
    unfold fX11_solve_b2 at hf
    refine lv_iload_n hx hb dX11_solve_2 rfl (lv_at hl 1 rfl) ?_
    refine lv_sipush (v := 10240) hx hb dX11_solve_3 (by decide +kernel) ?_
    refine lv_icmp_ge (tgt := 23) hx hb dX11_solve_6 (by decide) (fun cq52 => ?_) (fun cq52 => ?_)
    · replace hf := if_at hf cq52
      refine lv_iconst (v := 0) hx hb dX11_solve_23 (by decide +kernel) ?_
      refine lv_istore_n (lv' := [(1, .int 0), (0, .ref h0)]) hx hb dX11_solve_24 rfl hl (by decide) rfl (fun ls hl => ?_)
      exact (hG _ _ _ _ _).mp (L25 FU 0 v0_newG v0_newL v0_newS c1 c2 c10 H locs ls (hP.sub [0, 1, 2, 3, 4, 5, 6, 7, 8, 9, 10, 11] rfl) (hD.sub [0, 1, 2, 3, 4, 5, 6, 7, 8, 9, 10, 11] (by decide) rfl) hS (lv_sub hl [1, 0] rfl) hf)
    · replace hf := if_no hf cq52
      refine lv_aload_n hx hb dX11_solve_9 rfl (lv_at hl 0 rfl) ?_
      refine va_get (D := (dC, dI)) (ci := 11) (v := .ref h1) (C := RX11) (T := TX11) (N := 71) hx hb hts inlX11 hown hK hP 0 rfl rfl 60 (by decide) w2_ (fun _ h9 => h9) rfl dX11_solve_10 ?_
      refine lv_iload_n hx hb dX11_solve_13 rfl (lv_at hl 1 rfl) ?_
      refine lv_ldc (v := 2000000) hx hb hown w3_ dX11_solve_14 ?_
      have b53 := bd_in hf
      replace hf := bd_k hf
      obtain ⟨c53x, e53⟩ : ∃ y, y = upd c1 y1.toNatClampNeg 2000000 := ⟨_, rfl⟩
      replace hf := nm_at hf e53
      refine va_iast hx hb hK hP hD hS 1 0 rfl rfl b53 dX11_solve_16 (fun H locs hP hD hS => ?_)
      have hP : va_P (dC, dI) vwCl (wX11_solve h0 h1 h2 h3 h4 h5 h6 h7 h8 h9 h10 h11 kc1 kc2 kc3 kc4 kc5 kc6 kc7 kc8 kc9 kc10 kc11 V0 v0_statements v0_newG v0_newL v0_newS c53x c2 c3 c4 c5 c6 c7 c8 c9 c10 c11) H := by rw [e53]; exact hP
      have hD : va_D A (wX11_solve h0 h1 h2 h3 h4 h5 h6 h7 h8 h9 h10 h11 kc1 kc2 kc3 kc4 kc5 kc6 kc7 kc8 kc9 kc10 kc11 V0 v0_statements v0_newG v0_newL v0_newS c53x c2 c3 c4 c5 c6 c7 c8 c9 c10 c11) := by rw [e53]; exact hD
      obtain ⟨x54, e54⟩ : ∃ y : Int32, y = y1 + 1 := ⟨_, rfl⟩
      replace hf := nm_at hf e54
      refine lv_iinc (v := x54) (lv' := [(1, .int x54), (0, .ref h0)]) hx hb dX11_solve_17 hl (k := 1) rfl (by rw [e54]; rfl) (by decide) rfl (fun ls hl => ?_)
      refine lv_goto (tgt := 2) hx hb dX11_solve_20 (by decide) ?_
      exact (hG _ _ _ _ _).mp (hk2 x54 v0_newG v0_newL v0_newS c53x c2 c10 H locs ls (hP.sub [0, 1, 2, 3, 4, 5, 6, 7, 8, 9, 10, 11] rfl) (hD.sub [0, 1, 2, 3, 4, 5, 6, 7, 8, 9, 10, 11] (by decide) rfl) hS (lv_sub hl [1, 0] rfl) hf)
  have L2 : ∀ (n : Nat), ∀ (y1 : Int32) (v0_newG : Int32) (v0_newL : Int32) (v0_newS : Int32) (c1 : (Nat → Int32)) (c2 : (Nat → Int32)) (c10 : (Nat → Int32)) (H : Heap) (locs : List Loc) (ls : Array Slot), va_P (dC, dI) vwCl (wX11_solve h0 h1 h2 h3 h4 h5 h6 h7 h8 h9 h10 h11 kc1 kc2 kc3 kc4 kc5 kc6 kc7 kc8 kc9 kc10 kc11 V0 v0_statements v0_newG v0_newL v0_newS c1 c2 c3 c4 c5 c6 c7 c8 c9 c10 c11) H → va_D A (wX11_solve h0 h1 h2 h3 h4 h5 h6 h7 h8 h9 h10 h11 kc1 kc2 kc3 kc4 kc5 kc6 kc7 kc8 kc9 kc10 kc11 V0 v0_statements v0_newG v0_newL v0_newS c1 c2 c3 c4 c5 c6 c7 c8 c9 c10 c11) → va_S A s.heap H locs → lv_has ls 7 [(0, .ref h0), (1, .int y1)] → fX11_solve_l2 v0_statements c3 c4 c5 c6 c7 c8 c9 c11  n y1 v0_newG v0_newL v0_newS c1 c2 c10 = some o → G 0 0 H locs (F0 m 2 ls []) := by
    intro  n
    induction n with
    | zero => intro y1 v0_newG v0_newL v0_newS c1 c2 c10 H locs ls _ _ _ _ hf; cases hf
    | succ n ih => exact B2  _ ih
  refine (hG _ _ _ _ _).mpr ?_
  obtain ⟨H, hH⟩ : ∃ H, H = s.heap := ⟨_, rfl⟩
  have hS : va_S A s.heap H [] := by rw [hH]; exact hS
  rw [← hH] at hP ⊢
  generalize ([] : List Loc) = locs at hS ⊢
  unfold fX11_solve at hf
  refine lv_iconst (v := 0) hx hb dX11_solve_0 (by decide +kernel) ?_
  refine lv_istore_n (lv' := [(1, .int 0), (0, .ref h0)]) hx hb dX11_solve_1 rfl hl (by decide) rfl (fun ls hl => ?_)
  exact (hG _ _ _ _ _).mp (L2 FU 0 v0_newG v0_newL v0_newS c1 c2 c10 H locs ls (hP.sub [0, 1, 2, 3, 4, 5, 6, 7, 8, 9, 10, 11] rfl) (hD.sub [0, 1, 2, 3, 4, 5, 6, 7, 8, 9, 10, 11] (by decide) rfl) hS (lv_sub hl [1, 0] rfl) hf)
