abbrev wX2_beginsStatement (h0 h1 : Nat) (V0 : Nat → Value) (V1 : Nat → Value) (v1_token : Int32) : va_W := [(h0, .inr (2, [.ref h1, V0 1, V0 2, V0 3, V0 4, V0 5, V0 6])), (h1, .inr (4, [.int v1_token, V1 1, V1 2, V1 3, V1 4, V1 5, V1 6, V1 7]))]
set_option maxHeartbeats 4000000 in
set_option maxRecDepth 100000 in
theorem mX2_beginsStatement (l : Launch) (dC : Nat → ClassId) (dI : Nat → Nat → Nat) (h0 h1 : Nat) (sz : Nat) (base : Nat × Nat × Nat) (v1_token : Int32) (V0 : Nat → Value) (V1 : Nat → Value) (o : Int32 × Unit) (hf : fX2_beginsStatement v1_token = some o) : Met l yX2_beginsStatement (.code yX2_beginsStatement cX2_beginsStatement 1 (some .boolean) :: wsL_law) ({ frames := 0, cells := 0, slots := 0, locals := 0 }) (cPre (dC, dI) vwCl [.ref h0] sz base (wX2_beginsStatement h0 h1 V0 V1 v1_token) []) (va_Qi (fun r u => r = o.1 ∧ u = o.2) (fun (u : Unit) t => cPost (dC, dI) vwCl (va_A (wX2_beginsStatement h0 h1 V0 V1 v1_token) sz) (wX2_beginsStatement h0 h1 V0 V1 v1_token) [] t) (va_A (wX2_beginsStatement h0 h1 V0 V1 v1_token) sz)) 0 0 (va_A (wX2_beginsStatement h0 h1 V0 V1 v1_token) sz) := by
  refine Met.ofW (cc := cX2_beginsStatement) (maxL := 1) (ret := (some .boolean)) (by decide) rfl ?_
  intro p e s m args below meth c s₁ B hml hv
  obtain ⟨rfl, hsz, hP, hK, hD0, hE⟩ := hv
  have hx := B.exec
  have hb := B.bytes
  have hr := B.returns
  have hts : ∀ w ∈ wsL_law, _ := fun w h => atoms_spec (ws := .code yX2_beginsStatement cX2_beginsStatement 1 (some .boolean) :: wsL_law) B.pre w (List.mem_cons_of_mem _ h)
  have hown : s.vm.findClass RX2 = some m.cls := findClass_of_methodNamed B.named
  have hlocks := B.notSynchronized
  have w0_ := hts _ q72
  have w1_ := hts _ q544
  subst hsz
  have hD := hD0.self (sz := s.heap.size)
  generalize hAe : va_A (wX2_beginsStatement h0 h1 V0 V1 v1_token) s.heap.size = A at hD ⊢
  have hA : ∀ q : Nat, s.heap.size ≤ q → A q := fun q h => by rw [← hAe]; exact Or.inr h
  have hAB : ∀ q : Nat, A q → base.1 ≤ q := fun q h => by rw [← hAe] at h; exact h.elim (fun ⟨k, e, hk⟩ => hD0.2 k _ hk) (fun hk => Nat.le_trans hE.1 hk)
  have hS : va_S A s.heap s.heap [] := va_S.rf
  have hl := lv_entry ([.ref h0]) (n := 1) (Nat.le_of_ble_eq_true rfl)
  rw [lg_entry_eq]
  generalize (lg_sl ([.ref h0]) ++ List.replicate (1 - (lg_sl ([.ref h0])).length) Slot.unset).toArray = ls at hl ⊢
  have hl : lv_has ls 1 [(0, .ref h0)] := hl
  have hP : va_P (dC, dI) vwCl (wX2_beginsStatement h0 h1 V0 V1 v1_token) s.heap := hP
  refine gl_intro (fun G hG => ?_)
  have J44 : ∀ (z0 : Int32) (H : Heap) (locs : List Loc) (ls : Array Slot), va_P (dC, dI) vwCl (wX2_beginsStatement h0 h1 V0 V1 v1_token) H → va_D A (wX2_beginsStatement h0 h1 V0 V1 v1_token) → va_S A s.heap H locs → lv_has ls 1 [(0, .ref h0)] → fX2_beginsStatement_p44 v1_token  z0 = some o → G 0 0 H locs (F0 m 44 ls [.int z0]) := by
    intro  z0 H locs ls hP hD hS hl hf
    refine (hG _ _ _ _ _).mpr ?_
    unfold fX2_beginsStatement_p44 at hf
    have b1 := bd_b hf
    replace hf := bd_k hf
    have hf1 := Option.some.inj hf
    subst hf1
    have hP9 := hP.sub (ws' := (wX2_beginsStatement h0 h1 V0 V1 v1_token)) [0, 1] rfl
    have hD9 := hD.sub (ws' := (wX2_beginsStatement h0 h1 V0 V1 v1_token)) [0, 1] (by decide) rfl
    exact W.zret (v := z0) (ty := .boolean) hx hb hr (bz_nar b1) (fun t ht hW => ⟨⟨z0, (), rfl, ⟨rfl, rfl⟩, by rw [ht]; exact hP9, va_K.moved hW.alike hK, hD9⟩, hS.F ht⟩) hS.2.2 dX2_beginsStatement_44
  have J39 : ∀ (H : Heap) (locs : List Loc) (ls : Array Slot), va_P (dC, dI) vwCl (wX2_beginsStatement h0 h1 V0 V1 v1_token) H → va_D A (wX2_beginsStatement h0 h1 V0 V1 v1_token) → va_S A s.heap H locs → lv_has ls 1 [(0, .ref h0)] → fX2_beginsStatement_p39 v1_token   = some o → G 0 0 H locs (F0 m 39 ls []) := by
    intro   H locs ls hP hD hS hl hf
    refine (hG _ _ _ _ _).mpr ?_
    unfold fX2_beginsStatement_p39 at hf
    refine lv_iconst (v := 1) hx hb dX2_beginsStatement_39 (by decide +kernel) ?_
    refine lv_goto (tgt := 44) hx hb dX2_beginsStatement_40 (by decide) ?_
    exact (hG _ _ _ _ _).mp (J44 1 H locs ls (hP.sub [0, 1] rfl) (hD.sub [0, 1] (by decide) rfl) hS (lv_sub hl [0] rfl) hf)
  have J43 : ∀ (H : Heap) (locs : List Loc) (ls : Array Slot), va_P (dC, dI) vwCl (wX2_beginsStatement h0 h1 V0 V1 v1_token) H → va_D A (wX2_beginsStatement h0 h1 V0 V1 v1_token) → va_S A s.heap H locs → lv_has ls 1 [(0, .ref h0)] → fX2_beginsStatement_p43 v1_token   = some o → G 0 0 H locs (F0 m 43 ls []) := by
    intro   H locs ls hP hD hS hl hf
    refine (hG _ _ _ _ _).mpr ?_
    unfold fX2_beginsStatement_p43 at hf
    refine lv_iconst (v := 0) hx hb dX2_beginsStatement_43 (by decide +kernel) ?_
    exact (hG _ _ _ _ _).mp (J44 0 H locs ls (hP.sub [0, 1] rfl) (hD.sub [0, 1] (by decide) rfl) hS (lv_sub hl [0] rfl) hf)
  refine (hG _ _ _ _ _).mpr ?_
  obtain ⟨H, hH⟩ : ∃ H, H = s.heap := ⟨_, rfl⟩
  have hS : va_S A s.heap H [] := by rw [hH]; exact hS
  rw [← hH] at hP ⊢
  generalize ([] : List Loc) = locs at hS ⊢
  unfold fX2_beginsStatement at hf
  refine lv_aload_n hx hb dX2_beginsStatement_0 rfl (lv_at hl 0 rfl) ?_
  refine va_get (D := (dC, dI)) (ci := 2) (v := .ref h1) (C := RX2) (T := TX2) (N := 7) hx hb hts inlX2 hown hK hP 0 rfl rfl 0 (by decide) w0_ (fun _ h9 => h9) rfl dX2_beginsStatement_1 ?_
  refine va_get (D := (dC, dI)) (ci := 4) (v := .int v1_token) (C := RX4) (T := TX4) (N := 8) hx hb hts inlX4 hown hK hP 1 rfl rfl 0 (by decide) w1_ (fun _ h9 => h9) rfl dX2_beginsStatement_4 ?_
  refine lv_sipush (v := 258) hx hb dX2_beginsStatement_7 (by decide +kernel) ?_
  refine lv_icmp_eq (tgt := 39) hx hb dX2_beginsStatement_10 (by decide) (fun cq2 => ?_) (fun cq2 => ?_)
  · replace hf := if_at hf cq2
    exact (hG _ _ _ _ _).mp (J39 H locs ls (hP.sub [0, 1] rfl) (hD.sub [0, 1] (by decide) rfl) hS (lv_sub hl [0] rfl) hf)
  · replace hf := if_no hf cq2
    refine lv_aload_n hx hb dX2_beginsStatement_13 rfl (lv_at hl 0 rfl) ?_
    refine va_get (D := (dC, dI)) (ci := 2) (v := .ref h1) (C := RX2) (T := TX2) (N := 7) hx hb hts inlX2 hown hK hP 0 rfl rfl 0 (by decide) w0_ (fun _ h9 => h9) rfl dX2_beginsStatement_14 ?_
    refine va_get (D := (dC, dI)) (ci := 4) (v := .int v1_token) (C := RX4) (T := TX4) (N := 8) hx hb hts inlX4 hown hK hP 1 rfl rfl 0 (by decide) w1_ (fun _ h9 => h9) rfl dX2_beginsStatement_17 ?_
    refine lv_sipush (v := 262) hx hb dX2_beginsStatement_20 (by decide +kernel) ?_
    refine lv_icmp_lt (tgt := 43) hx hb dX2_beginsStatement_23 (by decide) (fun cq3 => ?_) (fun cq3 => ?_)
    · replace hf := if_at hf cq3
      exact (hG _ _ _ _ _).mp (J43 H locs ls (hP.sub [0, 1] rfl) (hD.sub [0, 1] (by decide) rfl) hS (lv_sub hl [0] rfl) hf)
    · replace hf := if_no hf cq3
      refine lv_aload_n hx hb dX2_beginsStatement_26 rfl (lv_at hl 0 rfl) ?_
      refine va_get (D := (dC, dI)) (ci := 2) (v := .ref h1) (C := RX2) (T := TX2) (N := 7) hx hb hts inlX2 hown hK hP 0 rfl rfl 0 (by decide) w0_ (fun _ h9 => h9) rfl dX2_beginsStatement_27 ?_
      refine va_get (D := (dC, dI)) (ci := 4) (v := .int v1_token) (C := RX4) (T := TX4) (N := 8) hx hb hts inlX4 hown hK hP 1 rfl rfl 0 (by decide) w1_ (fun _ h9 => h9) rfl dX2_beginsStatement_30 ?_
      refine lv_sipush (v := 268) hx hb dX2_beginsStatement_33 (by decide +kernel) ?_
      refine lv_icmp_gt (tgt := 43) hx hb dX2_beginsStatement_36 (by decide) (fun cq4 => ?_) (fun cq4 => ?_)
      · replace hf := if_at hf cq4
        exact (hG _ _ _ _ _).mp (J43 H locs ls (hP.sub [0, 1] rfl) (hD.sub [0, 1] (by decide) rfl) hS (lv_sub hl [0] rfl) hf)
      · replace hf := if_no hf cq4
        exact (hG _ _ _ _ _).mp (J39 H locs ls (hP.sub [0, 1] rfl) (hD.sub [0, 1] (by decide) rfl) hS (lv_sub hl [0] rfl) hf)
abbrev wX2_findProcedure (h0 h1 h2 : Nat) (kc2 : ClassId) (V0 : Nat → Value) (V1 : Nat → Value) (v1_procedures : Int32) (c2 : Nat → Int64) : va_W := [(h0, .inr (2, [V0 0, .ref h1, V0 2, V0 3, .ref h2, V0 5, V0 6])), (h1, .inr (3, [V1 0, V1 1, .int v1_procedures, V1 3, V1 4, V1 5, V1 6, V1 7, V1 8, V1 9, V1 10, V1 11, V1 12, V1 13, V1 14, V1 15, V1 16, V1 17])), (h2, .inl (kc2, 6, .inr (.inl c2)))]
set_option maxHeartbeats 4000000 in
set_option maxRecDepth 100000 in
theorem mX2_findProcedure (l : Launch) (dC : Nat → ClassId) (dI : Nat → Nat → Nat) (h0 h1 h2 : Nat) (kc2 : ClassId) (sz : Nat) (base : Nat × Nat × Nat) (a0 : Int64) (v1_procedures : Int32) (c2 : Nat → Int64) (V0 : Nat → Value) (V1 : Nat → Value) (o : Int32 × Unit) (hf : fX2_findProcedure a0 v1_procedures c2 = some o) : Met l yX2_findProcedure (.code yX2_findProcedure cX2_findProcedure 4 (some .int) :: wsL_law) ({ frames := 0, cells := 0, slots := 0, locals := 0 }) (cPre (dC, dI) vwCl [.ref h0, .long a0] sz base (wX2_findProcedure h0 h1 h2 kc2 V0 V1 v1_procedures c2) [(kc2, .long)]) (va_Qi (fun r u => r = o.1 ∧ u = o.2) (fun (u : Unit) t => cPost (dC, dI) vwCl (va_A (wX2_findProcedure h0 h1 h2 kc2 V0 V1 v1_procedures c2) sz) (wX2_findProcedure h0 h1 h2 kc2 V0 V1 v1_procedures c2) [(kc2, .long)] t) (va_A (wX2_findProcedure h0 h1 h2 kc2 V0 V1 v1_procedures c2) sz)) 0 0 (va_A (wX2_findProcedure h0 h1 h2 kc2 V0 V1 v1_procedures c2) sz) := by
  refine Met.ofW (cc := cX2_findProcedure) (maxL := 4) (ret := (some .int)) (by decide) rfl ?_
  intro p e s m args below meth c s₁ B hml hv
  obtain ⟨rfl, hsz, hP, hK, hD0, hE⟩ := hv
  have hx := B.exec
  have hb := B.bytes
  have hr := B.returns
  have hts : ∀ w ∈ wsL_law, _ := fun w h => atoms_spec (ws := .code yX2_findProcedure cX2_findProcedure 4 (some .int) :: wsL_law) B.pre w (List.mem_cons_of_mem _ h)
  have hown : s.vm.findClass RX2 = some m.cls := findClass_of_methodNamed B.named
  have hlocks := B.notSynchronized
  have w0_ := hts _ q73
  have w1_ := hts _ q696
  have w2_ := hts _ q69
  subst hsz
  have hD := hD0.self (sz := s.heap.size)
  generalize hAe : va_A (wX2_findProcedure h0 h1 h2 kc2 V0 V1 v1_procedures c2) s.heap.size = A at hD ⊢
  have hA : ∀ q : Nat, s.heap.size ≤ q → A q := fun q h => by rw [← hAe]; exact Or.inr h
  have hAB : ∀ q : Nat, A q → base.1 ≤ q := fun q h => by rw [← hAe] at h; exact h.elim (fun ⟨k, e, hk⟩ => hD0.2 k _ hk) (fun hk => Nat.le_trans hE.1 hk)
  have hS : va_S A s.heap s.heap [] := va_S.rf
  have hl := lv_entry ([.ref h0, .long a0]) (n := 4) (Nat.le_of_ble_eq_true rfl)
  rw [lg_entry_eq]
  generalize (lg_sl ([.ref h0, .long a0]) ++ List.replicate (4 - (lg_sl ([.ref h0, .long a0])).length) Slot.unset).toArray = ls at hl ⊢
  have hl : lv_has ls 4 [(0, .ref h0), (1, .long a0)] := hl
  have hP : va_P (dC, dI) vwCl (wX2_findProcedure h0 h1 h2 kc2 V0 V1 v1_procedures c2) s.heap := hP
  refine gl_intro (fun G hG => ?_)
  have B2 : ∀ (k2 : Int64 → Int32 → Option (Int32 × Unit)) (hk2 : ∀ (y1 : Int64) (y3 : Int32) (H : Heap) (locs : List Loc) (ls : Array Slot), va_P (dC, dI) vwCl (wX2_findProcedure h0 h1 h2 kc2 V0 V1 v1_procedures c2) H → va_D A (wX2_findProcedure h0 h1 h2 kc2 V0 V1 v1_procedures c2) → va_S A s.heap H locs → lv_has ls 4 [(0, .ref h0), (1, .long y1), (3, .int y3)] → k2 y1 y3 = some o → G 0 0 H locs (F0 m 2 ls [])), ∀ (y1 : Int64) (y3 : Int32) (H : Heap) (locs : List Loc) (ls : Array Slot), va_P (dC, dI) vwCl (wX2_findProcedure h0 h1 h2 kc2 V0 V1 v1_procedures c2) H → va_D A (wX2_findProcedure h0 h1 h2 kc2 V0 V1 v1_procedures c2) → va_S A s.heap H locs → lv_has ls 4 [(0, .ref h0), (1, .long y1), (3, .int y3)] → fX2_findProcedure_b2 v1_procedures c2  k2 y1 y3 = some o → G 0 0 H locs (F0 m 2 ls []) := by
    intro  k2 hk2 y1 y3 H locs ls hP hD hS hl hf
    refine (hG _ _ _ _ _).mpr ?_
    unfold fX2_findProcedure_b2 at hf
    refine lv_iload_n hx hb dX2_findProcedure_2 rfl (lv_at hl 2 rfl) ?_
    refine lv_aload_n hx hb dX2_findProcedure_3 rfl (lv_at hl 0 rfl) ?_
    refine va_get (D := (dC, dI)) (ci := 2) (v := .ref h1) (C := RX2) (T := TX2) (N := 7) hx hb hts inlX2 hown hK hP 0 rfl rfl 1 (by decide) w0_ (fun _ h9 => h9) rfl dX2_findProcedure_4 ?_
    refine va_get (D := (dC, dI)) (ci := 3) (v := .int v1_procedures) (C := RX3) (T := TX3) (N := 18) hx hb hts inlX3 hown hK hP 1 rfl rfl 2 (by decide) w1_ (fun _ h9 => h9) rfl dX2_findProcedure_7 ?_
    refine lv_icmp_ge (tgt := 32) hx hb dX2_findProcedure_10 (by decide) (fun cq1 => ?_) (fun cq1 => ?_)
    · replace hf := if_at hf cq1
      refine lv_iconst (v := (-1)) hx hb dX2_findProcedure_32 (by decide +kernel) ?_
      have hf1 := Option.some.inj hf
      subst hf1
      have hP9 := hP.sub (ws' := (wX2_findProcedure h0 h1 h2 kc2 V0 V1 v1_procedures c2)) [0, 1, 2] rfl
      have hD9 := hD.sub (ws' := (wX2_findProcedure h0 h1 h2 kc2 V0 V1 v1_procedures c2)) [0, 1, 2] (by decide) rfl
      exact W.iret (v := (-1)) hx hb hr (fun t ht hW => ⟨⟨(-1), (), rfl, ⟨rfl, rfl⟩, by rw [ht]; exact hP9, va_K.moved hW.alike hK, hD9⟩, hS.F ht⟩) hS.2.2 dX2_findProcedure_33
    · replace hf := if_no hf cq1
      refine lv_aload_n hx hb dX2_findProcedure_13 rfl (lv_at hl 0 rfl) ?_
      refine va_get (D := (dC, dI)) (ci := 2) (v := .ref h2) (C := RX2) (T := TX2) (N := 7) hx hb hts inlX2 hown hK hP 0 rfl rfl 4 (by decide) w2_ (fun _ h9 => h9) rfl dX2_findProcedure_14 ?_
      refine lv_iload_n hx hb dX2_findProcedure_17 rfl (lv_at hl 2 rfl) ?_
      have b2 := bd_in hf
      replace hf := bd_k hf
      refine va_lald hx hb hK hP 2 0 rfl rfl b2 dX2_findProcedure_18 ?_
      refine lv_topl (fun x3 e3 => ?_)
      replace hf := nm_at hf e3
      refine lv_lload_n hx hb dX2_findProcedure_19 rfl (lv_at hl 1 rfl) ?_
      refine W.lcmp hx hb dX2_findProcedure_20 ?_
      refine lv_topi (fun x4 e4 => ?_)
      replace hf := nm_at hf e4
      refine lv_if_ne (tgt := 26) hx hb dX2_findProcedure_21 (by decide) (fun cq5 => ?_) (fun cq5 => ?_)
      · replace hf := if_no hf cq5
        obtain ⟨x6, e6⟩ : ∃ y : Int32, y = y3 + 1 := ⟨_, rfl⟩
        replace hf := nm_at hf e6
        refine lv_iinc (v := x6) (lv' := [(3, .int x6), (0, .ref h0), (1, .long y1)]) hx hb dX2_findProcedure_26 hl (k := 2) rfl (by rw [e6]; rfl) (by decide) rfl (fun ls hl => ?_)
        refine lv_goto (tgt := 2) hx hb dX2_findProcedure_29 (by decide) ?_
        exact (hG _ _ _ _ _).mp (hk2 y1 x6 H locs ls (hP.sub [0, 1, 2] rfl) (hD.sub [0, 1, 2] (by decide) rfl) hS (lv_sub hl [1, 2, 0] rfl) hf)
      · replace hf := if_at hf cq5
        refine lv_iload_n hx hb dX2_findProcedure_24 rfl (lv_at hl 2 rfl) ?_
        have hf1 := Option.some.inj hf
        subst hf1
        have hP9 := hP.sub (ws' := (wX2_findProcedure h0 h1 h2 kc2 V0 V1 v1_procedures c2)) [0, 1, 2] rfl
        have hD9 := hD.sub (ws' := (wX2_findProcedure h0 h1 h2 kc2 V0 V1 v1_procedures c2)) [0, 1, 2] (by decide) rfl
        exact W.iret (v := y3) hx hb hr (fun t ht hW => ⟨⟨y3, (), rfl, ⟨rfl, rfl⟩, by rw [ht]; exact hP9, va_K.moved hW.alike hK, hD9⟩, hS.F ht⟩) hS.2.2 dX2_findProcedure_25
  have L2 : ∀ (n : Nat), ∀ (y1 : Int64) (y3 : Int32) (H : Heap) (locs : List Loc) (ls : Array Slot), va_P (dC, dI) vwCl (wX2_findProcedure h0 h1 h2 kc2 V0 V1 v1_procedures c2) H → va_D A (wX2_findProcedure h0 h1 h2 kc2 V0 V1 v1_procedures c2) → va_S A s.heap H locs → lv_has ls 4 [(0, .ref h0), (1, .long y1), (3, .int y3)] → fX2_findProcedure_l2 v1_procedures c2  n y1 y3 = some o → G 0 0 H locs (F0 m 2 ls []) := by
    intro  n
    induction n with
    | zero => intro y1 y3 H locs ls _ _ _ _ hf; cases hf
    | succ n ih => exact B2  _ ih
  refine (hG _ _ _ _ _).mpr ?_
  obtain ⟨H, hH⟩ : ∃ H, H = s.heap := ⟨_, rfl⟩
  have hS : va_S A s.heap H [] := by rw [hH]; exact hS
  rw [← hH] at hP ⊢
  generalize ([] : List Loc) = locs at hS ⊢
  unfold fX2_findProcedure at hf
  refine lv_iconst (v := 0) hx hb dX2_findProcedure_0 (by decide +kernel) ?_
  refine lv_istore_n (lv' := [(3, .int 0), (0, .ref h0), (1, .long a0)]) hx hb dX2_findProcedure_1 rfl hl (by decide) rfl (fun ls hl => ?_)
  exact (hG _ _ _ _ _).mp (L2 FU a0 0 H locs ls (hP.sub [0, 1, 2] rfl) (hD.sub [0, 1, 2] (by decide) rfl) hS (lv_sub hl [1, 2, 0] rfl) hf)
abbrev wX2_findCalled (h0 h1 h2 h3 h4 h5 h6 h7 : Nat) (kc3 kc4 kc5 kc6 kc7 : ClassId) (V0 : Nat → Value) (V1 : Nat → Value) (V2 : Nat → Value) (v1_procedures : Int32) (v1_statements : Int32) (v2_token : Int32) (v2_fault : Int32) (v2_faultAt : Int32) (c3 : Nat → Int32) (c4 : Nat → Int64) (c5 : Nat → Int64) (c6 : Nat → Int32) (c7 : Nat → Int32) : va_W := [(h0, .inr (2, [.ref h2, .ref h1, V0 2, V0 3, .ref h5, .ref h4, .ref h7])), (h1, .inr (3, [V1 0, V1 1, .int v1_procedures, .int v1_statements, V1 4, .ref h3, V1 6, V1 7, V1 8, V1 9, .ref h6, V1 11, V1 12, V1 13, V1 14, V1 15, V1 16, V1 17])), (h2, .inr (4, [.int v2_token, V2 1, V2 2, .int v2_fault, .int v2_faultAt, V2 5, V2 6, V2 7])), (h3, .inl (kc3, 40, .inl c3)), (h4, .inl (kc4, 40, .inr (.inl c4))), (h5, .inl (kc5, 6, .inr (.inl c5))), (h6, .inl (kc6, 40, .inl c6)), (h7, .inl (kc7, 40, .inl c7))]
set_option maxHeartbeats 4000000 in
set_option maxRecDepth 100000 in
theorem mX2_findCalled (l : Launch) (dC : Nat → ClassId) (dI : Nat → Nat → Nat) (h0 h1 h2 h3 h4 h5 h6 h7 : Nat) (kc3 kc4 kc5 kc6 kc7 : ClassId) (sz : Nat) (base : Nat × Nat × Nat) (v1_procedures : Int32) (v1_statements : Int32) (v2_token : Int32) (v2_fault : Int32) (v2_faultAt : Int32) (c3 : Nat → Int32) (c4 : Nat → Int64) (c5 : Nat → Int64) (c6 : Nat → Int32) (c7 : Nat → Int32) (V0 : Nat → Value) (V1 : Nat → Value) (V2 : Nat → Value) (o : Int32 × Int32 × Int32 × (Nat → Int32)) (hf : fX2_findCalled v1_procedures v1_statements v2_token v2_fault v2_faultAt c3 c4 c5 c6 c7 = some o) : Met l yX2_findCalled (.code yX2_findCalled cX2_findCalled 2 none :: wsL_law) ({ frames := 1, cells := 0, slots := 0, locals := 23 }) (cPre (dC, dI) vwCl [.ref h0] sz base (wX2_findCalled h0 h1 h2 h3 h4 h5 h6 h7 kc3 kc4 kc5 kc6 kc7 V0 V1 V2 v1_procedures v1_statements v2_token v2_fault v2_faultAt c3 c4 c5 c6 c7) [(kc3, .int), (kc4, .long), (kc5, .long), (kc6, .int), (kc7, .int)]) (va_Qv (fun u => u = o) (fun (u : Int32 × Int32 × Int32 × (Nat → Int32)) t => cPost (dC, dI) vwCl (va_A (wX2_findCalled h0 h1 h2 h3 h4 h5 h6 h7 kc3 kc4 kc5 kc6 kc7 V0 V1 V2 v1_procedures v1_statements v2_token v2_fault v2_faultAt c3 c4 c5 c6 c7) sz) (wX2_findCalled h0 h1 h2 h3 h4 h5 h6 h7 kc3 kc4 kc5 kc6 kc7 V0 V1 V2 v1_procedures v1_statements u.1 u.2.1 u.2.2.1 c3 c4 c5 u.2.2.2 c7) [(kc3, .int), (kc4, .long), (kc5, .long), (kc6, .int), (kc7, .int)] t) (va_A (wX2_findCalled h0 h1 h2 h3 h4 h5 h6 h7 kc3 kc4 kc5 kc6 kc7 V0 V1 V2 v1_procedures v1_statements v2_token v2_fault v2_faultAt c3 c4 c5 c6 c7) sz)) 0 0 (va_A (wX2_findCalled h0 h1 h2 h3 h4 h5 h6 h7 kc3 kc4 kc5 kc6 kc7 V0 V1 V2 v1_procedures v1_statements v2_token v2_fault v2_faultAt c3 c4 c5 c6 c7) sz) := by
  refine Met.ofW (cc := cX2_findCalled) (maxL := 2) (ret := none) (by decide) rfl ?_
  intro p e s m args below meth c s₁ B hml hv
  obtain ⟨rfl, hsz, hP, hK, hD0, hE⟩ := hv
  have hx := B.exec
  have hb := B.bytes
  have hr := B.returns
  have hts : ∀ w ∈ wsL_law, _ := fun w h => atoms_spec (ws := .code yX2_findCalled cX2_findCalled 2 none :: wsL_law) B.pre w (List.mem_cons_of_mem _ h)
  have hown : s.vm.findClass RX2 = some m.cls := findClass_of_methodNamed B.named
  have hlocks := B.notSynchronized
  have w0_ := hts _ q73
  have w1_ := hts _ q774
  have w2_ := hts _ q72
  have w3_ := hts _ q545
  have w4_ := hts _ q722
  have w5_ := hts _ q775
  have w6_ := hts _ q70
  have w7_ := hts _ q71
  subst hsz
  have hD := hD0.self (sz := s.heap.size)
  generalize hAe : va_A (wX2_findCalled h0 h1 h2 h3 h4 h5 h6 h7 kc3 kc4 kc5 kc6 kc7 V0 V1 V2 v1_procedures v1_statements v2_token v2_fault v2_faultAt c3 c4 c5 c6 c7) s.heap.size = A at hD ⊢
  have hA : ∀ q : Nat, s.heap.size ≤ q → A q := fun q h => by rw [← hAe]; exact Or.inr h
  have hAB : ∀ q : Nat, A q → base.1 ≤ q := fun q h => by rw [← hAe] at h; exact h.elim (fun ⟨k, e, hk⟩ => hD0.2 k _ hk) (fun hk => Nat.le_trans hE.1 hk)
  have hS : va_S A s.heap s.heap [] := va_S.rf
  have hl := lv_entry ([.ref h0]) (n := 2) (Nat.le_of_ble_eq_true rfl)
  rw [lg_entry_eq]
  generalize (lg_sl ([.ref h0]) ++ List.replicate (2 - (lg_sl ([.ref h0])).length) Slot.unset).toArray = ls at hl ⊢
  have hl : lv_has ls 2 [(0, .ref h0)] := hl
  have hP : va_P (dC, dI) vwCl (wX2_findCalled h0 h1 h2 h3 h4 h5 h6 h7 kc3 kc4 kc5 kc6 kc7 V0 V1 V2 v1_procedures v1_statements v2_token v2_fault v2_faultAt c3 c4 c5 c6 c7) s.heap := hP
  refine gl_intro (fun G hG => ?_)
  have J88 : ∀ (v2_token : Int32) (v2_fault : Int32) (v2_faultAt : Int32) (c6 : (Nat → Int32)) (H : Heap) (locs : List Loc) (ls : Array Slot), va_P (dC, dI) vwCl (wX2_findCalled h0 h1 h2 h3 h4 h5 h6 h7 kc3 kc4 kc5 kc6 kc7 V0 V1 V2 v1_procedures v1_statements v2_token v2_fault v2_faultAt c3 c4 c5 c6 c7) H → va_D A (wX2_findCalled h0 h1 h2 h3 h4 h5 h6 h7 kc3 kc4 kc5 kc6 kc7 V0 V1 V2 v1_procedures v1_statements v2_token v2_fault v2_faultAt c3 c4 c5 c6 c7) → va_S A s.heap H locs → lv_has ls 2 [(0, .ref h0)] → fX2_findCalled_p88 v1_procedures v1_statements c3 c4 c5 c7  v2_token v2_fault v2_faultAt c6 = some o → G 0 0 H locs (F0 m 88 ls []) := by
    intro  v2_token v2_fault v2_faultAt c6 H locs ls hP hD hS hl hf
    refine (hG _ _ _ _ _).mpr ?_
    unfold fX2_findCalled_p88 at hf
    have hf1 := Option.some.inj hf
    subst hf1
    have hP9 := hP.sub (ws' := (wX2_findCalled h0 h1 h2 h3 h4 h5 h6 h7 kc3 kc4 kc5 kc6 kc7 V0 V1 V2 v1_procedures v1_statements v2_token v2_fault v2_faultAt c3 c4 c5 c6 c7)) [0, 1, 2, 3, 4, 5, 6, 7] rfl
    have hD9 := hD.sub (ws' := (wX2_findCalled h0 h1 h2 h3 h4 h5 h6 h7 kc3 kc4 kc5 kc6 kc7 V0 V1 V2 v1_procedures v1_statements v2_token v2_fault v2_faultAt c3 c4 c5 c6 c7)) [0, 1, 2, 3, 4, 5, 6, 7] (by decide) rfl
    exact W.vret hx hb hr (fun t ht hW => ⟨⟨(v2_token, v2_fault, v2_faultAt, c6), rfl, rfl, by rw [ht]; exact hP9, va_K.moved hW.alike hK, hD9⟩, hS.F ht⟩) hS.2.2 dX2_findCalled_88
  have J82 : ∀ (k2 : Int32 → Int32 → Int32 → Int32 → (Nat → Int32) → Option (Int32 × Int32 × Int32 × (Nat → Int32))) (hk2 : ∀ (y1 : Int32) (v2_token : Int32) (v2_fault : Int32) (v2_faultAt : Int32) (c6 : (Nat → Int32)) (H : Heap) (locs : List Loc) (ls : Array Slot), va_P (dC, dI) vwCl (wX2_findCalled h0 h1 h2 h3 h4 h5 h6 h7 kc3 kc4 kc5 kc6 kc7 V0 V1 V2 v1_procedures v1_statements v2_token v2_fault v2_faultAt c3 c4 c5 c6 c7) H → va_D A (wX2_findCalled h0 h1 h2 h3 h4 h5 h6 h7 kc3 kc4 kc5 kc6 kc7 V0 V1 V2 v1_procedures v1_statements v2_token v2_fault v2_faultAt c3 c4 c5 c6 c7) → va_S A s.heap H locs → lv_has ls 2 [(0, .ref h0), (1, .int y1)] → k2 y1 v2_token v2_fault v2_faultAt c6 = some o → G 0 0 H locs (F0 m 2 ls [])), ∀ (y1 : Int32) (v2_token : Int32) (v2_fault : Int32) (v2_faultAt : Int32) (c6 : (Nat → Int32)) (H : Heap) (locs : List Loc) (ls : Array Slot), va_P (dC, dI) vwCl (wX2_findCalled h0 h1 h2 h3 h4 h5 h6 h7 kc3 kc4 kc5 kc6 kc7 V0 V1 V2 v1_procedures v1_statements v2_token v2_fault v2_faultAt c3 c4 c5 c6 c7) H → va_D A (wX2_findCalled h0 h1 h2 h3 h4 h5 h6 h7 kc3 kc4 kc5 kc6 kc7 V0 V1 V2 v1_procedures v1_statements v2_token v2_fault v2_faultAt c3 c4 c5 c6 c7) → va_S A s.heap H locs → lv_has ls 2 [(0, .ref h0), (1, .int y1)] → fX2_findCalled_p82 v1_procedures v1_statements c3 c4 c5 c7 k2 y1 v2_token v2_fault v2_faultAt c6 = some o → G 0 0 H locs (F0 m 82 ls []) := by
    intro k2 hk2 y1 v2_token v2_fault v2_faultAt c6 H locs ls hP hD hS hl hf
    refine (hG _ _ _ _ _).mpr ?_
    unfold fX2_findCalled_p82 at hf
    obtain ⟨x1, e1⟩ : ∃ y : Int32, y = y1 + 1 := ⟨_, rfl⟩
    replace hf := nm_at hf e1
    refine lv_iinc (v := x1) (lv' := [(1, .int x1), (0, .ref h0)]) hx hb dX2_findCalled_82 hl (k := 1) rfl (by rw [e1]; rfl) (by decide) rfl (fun ls hl => ?_)
    refine lv_goto (tgt := 2) hx hb dX2_findCalled_85 (by decide) ?_
    exact (hG _ _ _ _ _).mp (hk2 x1 v2_token v2_fault v2_faultAt c6 H locs ls (hP.sub [0, 1, 2, 3, 4, 5, 6, 7] rfl) (hD.sub [0, 1, 2, 3, 4, 5, 6, 7] (by decide) rfl) hS (lv_sub hl [1, 0] rfl) hf)
  have B2 : ∀ (k2 : Int32 → Int32 → Int32 → Int32 → (Nat → Int32) → Option (Int32 × Int32 × Int32 × (Nat → Int32))) (hk2 : ∀ (y1 : Int32) (v2_token : Int32) (v2_fault : Int32) (v2_faultAt : Int32) (c6 : (Nat → Int32)) (H : Heap) (locs : List Loc) (ls : Array Slot), va_P (dC, dI) vwCl (wX2_findCalled h0 h1 h2 h3 h4 h5 h6 h7 kc3 kc4 kc5 kc6 kc7 V0 V1 V2 v1_procedures v1_statements v2_token v2_fault v2_faultAt c3 c4 c5 c6 c7) H → va_D A (wX2_findCalled h0 h1 h2 h3 h4 h5 h6 h7 kc3 kc4 kc5 kc6 kc7 V0 V1 V2 v1_procedures v1_statements v2_token v2_fault v2_faultAt c3 c4 c5 c6 c7) → va_S A s.heap H locs → lv_has ls 2 [(0, .ref h0), (1, .int y1)] → k2 y1 v2_token v2_fault v2_faultAt c6 = some o → G 0 0 H locs (F0 m 2 ls [])), ∀ (y1 : Int32) (v2_token : Int32) (v2_fault : Int32) (v2_faultAt : Int32) (c6 : (Nat → Int32)) (H : Heap) (locs : List Loc) (ls : Array Slot), va_P (dC, dI) vwCl (wX2_findCalled h0 h1 h2 h3 h4 h5 h6 h7 kc3 kc4 kc5 kc6 kc7 V0 V1 V2 v1_procedures v1_statements v2_token v2_fault v2_faultAt c3 c4 c5 c6 c7) H → va_D A (wX2_findCalled h0 h1 h2 h3 h4 h5 h6 h7 kc3 kc4 kc5 kc6 kc7 V0 V1 V2 v1_procedures v1_statements v2_token v2_fault v2_faultAt c3 c4 c5 c6 c7) → va_S A s.heap H locs → lv_has ls 2 [(0, .ref h0), (1, .int y1)] → fX2_findCalled_b2 v1_procedures v1_statements c3 c4 c5 c7  k2 y1 v2_token v2_fault v2_faultAt c6 = some o → G 0 0 H locs (F0 m 2 ls []) := by
    intro  k2 hk2 y1 v2_token v2_fault v2_faultAt c6 H locs ls hP hD hS hl hf
    refine (hG _ _ _ _ _).mpr ?_
    unfold fX2_findCalled_b2 at hf
    refine lv_iload_n hx hb dX2_findCalled_2 rfl (lv_at hl 1 rfl) ?_
    refine lv_aload_n hx hb dX2_findCalled_3 rfl (lv_at hl 0 rfl) ?_
    refine va_get (D := (dC, dI)) (ci := 2) (v := .ref h1) (C := RX2) (T := TX2) (N := 7) hx hb hts inlX2 hown hK hP 0 rfl rfl 1 (by decide) w0_ (fun _ h9 => h9) rfl dX2_findCalled_4 ?_
    refine va_get (D := (dC, dI)) (ci := 3) (v := .int v1_statements) (C := RX3) (T := TX3) (N := 18) hx hb hts inlX3 hown hK hP 1 rfl rfl 3 (by decide) w1_ (fun _ h9 => h9) rfl dX2_findCalled_7 ?_
    refine lv_icmp_ge (tgt := 88) hx hb dX2_findCalled_10 (by decide) (fun cq2 => ?_) (fun cq2 => ?_)
    · replace hf := if_at hf cq2
      exact (hG _ _ _ _ _).mp (J88 v2_token v2_fault v2_faultAt c6 H locs ls (hP.sub [0, 1, 2, 3, 4, 5, 6, 7] rfl) (hD.sub [0, 1, 2, 3, 4, 5, 6, 7] (by decide) rfl) hS (lv_sub hl [0] rfl) hf)
    · replace hf := if_no hf cq2
      refine lv_aload_n hx hb dX2_findCalled_13 rfl (lv_at hl 0 rfl) ?_
      refine va_get (D := (dC, dI)) (ci := 2) (v := .ref h2) (C := RX2) (T := TX2) (N := 7) hx hb hts inlX2 hown hK hP 0 rfl rfl 0 (by decide) w2_ (fun _ h9 => h9) rfl dX2_findCalled_14 ?_
      refine va_get (D := (dC, dI)) (ci := 4) (v := .int v2_fault) (C := RX4) (T := TX4) (N := 8) hx hb hts inlX4 hown hK hP 2 rfl rfl 3 (by decide) w3_ (fun _ h9 => h9) rfl dX2_findCalled_17 ?_
      refine lv_if_ne (tgt := 88) hx hb dX2_findCalled_20 (by decide) (fun cq3 => ?_) (fun cq3 => ?_)
      · replace hf := if_no hf cq3
        exact (hG _ _ _ _ _).mp (J88 v2_token v2_fault v2_faultAt c6 H locs ls (hP.sub [0, 1, 2, 3, 4, 5, 6, 7] rfl) (hD.sub [0, 1, 2, 3, 4, 5, 6, 7] (by decide) rfl) hS (lv_sub hl [0] rfl) hf)
      · replace hf := if_at hf cq3
        refine lv_aload_n hx hb dX2_findCalled_23 rfl (lv_at hl 0 rfl) ?_
        refine va_get (D := (dC, dI)) (ci := 2) (v := .ref h1) (C := RX2) (T := TX2) (N := 7) hx hb hts inlX2 hown hK hP 0 rfl rfl 1 (by decide) w0_ (fun _ h9 => h9) rfl dX2_findCalled_24 ?_
        refine va_get (D := (dC, dI)) (ci := 3) (v := .ref h3) (C := RX3) (T := TX3) (N := 18) hx hb hts inlX3 hown hK hP 1 rfl rfl 5 (by decide) w4_ (fun _ h9 => h9) rfl dX2_findCalled_27 ?_
        refine lv_iload_n hx hb dX2_findCalled_30 rfl (lv_at hl 1 rfl) ?_
        have b4 := bd_in hf
        replace hf := bd_k hf
        refine va_iald hx hb hK hP 3 0 rfl rfl b4 dX2_findCalled_31 ?_
        refine lv_topi (fun x5 e5 => ?_)
        replace hf := nm_at hf e5
        refine lv_iconst (v := 3) hx hb dX2_findCalled_32 (by decide +kernel) ?_
        refine lv_icmp_ne (tgt := 82) hx hb dX2_findCalled_33 (by decide) (fun cq6 => ?_) (fun cq6 => ?_)
        · replace hf := if_no hf cq6
          exact (hG _ _ _ _ _).mp (J82 k2 hk2 y1 v2_token v2_fault v2_faultAt c6 H locs ls (hP.sub [0, 1, 2, 3, 4, 5, 6, 7] rfl) (hD.sub [0, 1, 2, 3, 4, 5, 6, 7] (by decide) rfl) hS (lv_sub hl [0, 1] rfl) hf)
        · replace hf := if_at hf cq6
          refine lv_aload_n hx hb dX2_findCalled_36 rfl (lv_at hl 0 rfl) ?_
          refine va_get (D := (dC, dI)) (ci := 2) (v := .ref h1) (C := RX2) (T := TX2) (N := 7) hx hb hts inlX2 hown hK hP 0 rfl rfl 1 (by decide) w0_ (fun _ h9 => h9) rfl dX2_findCalled_37 ?_
          refine va_get (D := (dC, dI)) (ci := 3) (v := .ref h6) (C := RX3) (T := TX3) (N := 18) hx hb hts inlX3 hown hK hP 1 rfl rfl 10 (by decide) w5_ (fun _ h9 => h9) rfl dX2_findCalled_40 ?_
          refine lv_iload_n hx hb dX2_findCalled_43 rfl (lv_at hl 1 rfl) ?_
          refine lv_aload_n hx hb dX2_findCalled_44 rfl (lv_at hl 0 rfl) ?_
          refine lv_aload_n hx hb dX2_findCalled_45 rfl (lv_at hl 0 rfl) ?_
          refine va_get (D := (dC, dI)) (ci := 2) (v := .ref h4) (C := RX2) (T := TX2) (N := 7) hx hb hts inlX2 hown hK hP 0 rfl rfl 5 (by decide) w6_ (fun _ h9 => h9) rfl dX2_findCalled_46 ?_
          refine lv_iload_n hx hb dX2_findCalled_49 rfl (lv_at hl 1 rfl) ?_
          have b7 := bd_in hf
          replace hf := bd_k hf
          refine va_lald hx hb hK hP 4 1 rfl rfl b7 dX2_findCalled_50 ?_
          refine lv_topl (fun x8 e8 => ?_)
          replace hf := nm_at hf e8
          obtain ⟨o9, e9, hf⟩ := ob_some hf
          refine kVi (As := [.long x8]) (rest := [.int y1, .ref h6]) ⟨hx, hb, hml, hown, hts⟩ (mX2_findProcedure l dC dI h0 h1 h5 kc5 H.size base x8 v1_procedures c5 (fun k => match k with | 0 => .ref h2 | 5 => .ref h4 | 6 => .ref h7 | k => V0 k) (fun k => match k with | 3 => .int v1_statements | 5 => .ref h3 | 10 => .ref h6 | k => V1 k) o9 e9) (cwV 1 hts (gTV q698 q699 q700 q27 q701) rfl rfl rfl (by decide +kernel) ⟨Nat.le_of_ble_eq_true rfl, Nat.le_of_ble_eq_true rfl⟩) hK hP hD hS hA hE hAB [0, 1, 5] [2, 3, 4, 6, 7] [2] (wr := [(h2, .inr (4, [.int v2_token, V2 1, V2 2, .int v2_fault, .int v2_faultAt, V2 5, V2 6, V2 7])), (h3, .inl (kc3, 40, .inl c3)), (h4, .inl (kc4, 40, .inr (.inl c4))), (h6, .inl (kc6, 40, .inl c6)), (h7, .inl (kc7, 40, .inl c7))]) rfl rfl (by decide) (by decide) (by decide) rfl (ci := 2) (q0 := 0) rfl rfl rfl rfl hl.1 rfl (Nat.le_of_ble_eq_true rfl) dX2_findCalled_51 ⟨Nat.zero_le _, Nat.zero_le _⟩ (fun r9 u9 H locs hw9 hP hD hS => ?_)
          obtain ⟨hw91, hw92⟩ := hw9
          subst hw91 hw92
          have hP : va_P (dC, dI) vwCl (wX2_findCalled h0 h1 h2 h3 h4 h5 h6 h7 kc3 kc4 kc5 kc6 kc7 V0 V1 V2 v1_procedures v1_statements v2_token v2_fault v2_faultAt c3 c4 c5 c6 c7) H := hP.sub [5, 6, 0, 1, 2, 7, 3, 4] rfl
          have hD : va_D A (wX2_findCalled h0 h1 h2 h3 h4 h5 h6 h7 kc3 kc4 kc5 kc6 kc7 V0 V1 V2 v1_procedures v1_statements v2_token v2_fault v2_faultAt c3 c4 c5 c6 c7) := hD.sub [5, 6, 0, 1, 2, 7, 3, 4] (by decide) rfl
          have b10 := bd_in hf
          replace hf := bd_k hf
          obtain ⟨c10x, e10⟩ : ∃ y, y = upd c6 y1.toNatClampNeg o9.1 := ⟨_, rfl⟩
          replace hf := nm_at hf e10
          refine va_iast hx hb hK hP hD hS 6 3 rfl rfl b10 dX2_findCalled_54 (fun H locs hP hD hS => ?_)
          have hP : va_P (dC, dI) vwCl (wX2_findCalled h0 h1 h2 h3 h4 h5 h6 h7 kc3 kc4 kc5 kc6 kc7 V0 V1 V2 v1_procedures v1_statements v2_token v2_fault v2_faultAt c3 c4 c5 c10x c7) H := by rw [e10]; exact hP
          have hD : va_D A (wX2_findCalled h0 h1 h2 h3 h4 h5 h6 h7 kc3 kc4 kc5 kc6 kc7 V0 V1 V2 v1_procedures v1_statements v2_token v2_fault v2_faultAt c3 c4 c5 c10x c7) := by rw [e10]; exact hD
          refine lv_aload_n hx hb dX2_findCalled_55 rfl (lv_at hl 0 rfl) ?_
          refine va_get (D := (dC, dI)) (ci := 2) (v := .ref h1) (C := RX2) (T := TX2) (N := 7) hx hb hts inlX2 hown hK hP 0 rfl rfl 1 (by decide) w0_ (fun _ h9 => h9) rfl dX2_findCalled_56 ?_
          refine va_get (D := (dC, dI)) (ci := 3) (v := .ref h6) (C := RX3) (T := TX3) (N := 18) hx hb hts inlX3 hown hK hP 1 rfl rfl 10 (by decide) w5_ (fun _ h9 => h9) rfl dX2_findCalled_59 ?_
          refine lv_iload_n hx hb dX2_findCalled_62 rfl (lv_at hl 1 rfl) ?_
          have b11 := bd_in hf
          replace hf := bd_k hf
          refine va_iald hx hb hK hP 6 3 rfl rfl b11 dX2_findCalled_63 ?_
          refine lv_topi (fun x12 e12 => ?_)
          replace hf := nm_at hf e12
          refine lv_iconst (v := (-1)) hx hb dX2_findCalled_64 (by decide +kernel) ?_
          refine lv_icmp_ne (tgt := 82) hx hb dX2_findCalled_65 (by decide) (fun cq13 => ?_) (fun cq13 => ?_)
          · replace hf := if_no hf cq13
            exact (hG _ _ _ _ _).mp (J82 k2 hk2 y1 v2_token v2_fault v2_faultAt c10x H locs ls (hP.sub [0, 1, 2, 3, 4, 5, 6, 7] rfl) (hD.sub [0, 1, 2, 3, 4, 5, 6, 7] (by decide) rfl) hS (lv_sub hl [0, 1] rfl) hf)
          · replace hf := if_at hf cq13
            refine lv_aload_n hx hb dX2_findCalled_68 rfl (lv_at hl 0 rfl) ?_
            refine va_get (D := (dC, dI)) (ci := 2) (v := .ref h2) (C := RX2) (T := TX2) (N := 7) hx hb hts inlX2 hown hK hP 0 rfl rfl 0 (by decide) w2_ (fun _ h9 => h9) rfl dX2_findCalled_69 ?_
            refine lv_iconst (v := 4) hx hb dX2_findCalled_72 (by decide +kernel) ?_
            refine lv_aload_n hx hb dX2_findCalled_73 rfl (lv_at hl 0 rfl) ?_
            refine va_get (D := (dC, dI)) (ci := 2) (v := .ref h7) (C := RX2) (T := TX2) (N := 7) hx hb hts inlX2 hown hK hP 0 rfl rfl 6 (by decide) w7_ (fun _ h9 => h9) rfl dX2_findCalled_74 ?_
            refine lv_iload_n hx hb dX2_findCalled_77 rfl (lv_at hl 1 rfl) ?_
            have b14 := bd_in hf
            replace hf := bd_k hf
            refine va_iald hx hb hK hP 7 4 rfl rfl b14 dX2_findCalled_78 ?_
            refine lv_topi (fun x15 e15 => ?_)
            replace hf := nm_at hf e15
            obtain ⟨o16, e16, hf⟩ := ob_some hf
            refine kVv (As := [.int 4, .int x15]) (rest := []) ⟨hx, hb, hml, hown, hts⟩ (mX4_fail l dC dI h2 H.size base 4 x15 v2_token v2_fault v2_faultAt V2 o16 e16) (cwV 2 hts (gTV q776 q580 q581 q19 q582) rfl rfl rfl (by decide +kernel) ⟨Nat.le_of_ble_eq_true rfl, Nat.le_of_ble_eq_true rfl⟩) hK hP hD hS hA hE hAB [2] [0, 1, 3, 4, 5, 6, 7] [] (wr := [(h0, .inr (2, [.ref h2, .ref h1, V0 2, V0 3, .ref h5, .ref h4, .ref h7])), (h1, .inr (3, [V1 0, V1 1, .int v1_procedures, .int v1_statements, V1 4, .ref h3, V1 6, V1 7, V1 8, V1 9, .ref h6, V1 11, V1 12, V1 13, V1 14, V1 15, V1 16, V1 17])), (h3, .inl (kc3, 40, .inl c3)), (h4, .inl (kc4, 40, .inr (.inl c4))), (h5, .inl (kc5, 6, .inr (.inl c5))), (h6, .inl (kc6, 40, .inl c10x)), (h7, .inl (kc7, 40, .inl c7))]) rfl rfl (by decide) (by decide) (by decide) rfl (ci := 4) (q0 := 0) rfl rfl rfl rfl hl.1 rfl (Nat.le_of_ble_eq_true rfl) dX2_findCalled_79 ⟨Nat.zero_le _, Nat.zero_le _⟩ (fun u16 H locs hw16 hP hD hS => ?_)
            have hw161 : o16 = u16 := Eq.symm hw16
            subst hw161
            have hP : va_P (dC, dI) vwCl (wX2_findCalled h0 h1 h2 h3 h4 h5 h6 h7 kc3 kc4 kc5 kc6 kc7 V0 V1 V2 v1_procedures v1_statements o16.1 o16.2.1 o16.2.2 c3 c4 c5 c10x c7) H := hP.sub [0, 1, 7, 2, 3, 4, 5, 6] rfl
            have hD : va_D A (wX2_findCalled h0 h1 h2 h3 h4 h5 h6 h7 kc3 kc4 kc5 kc6 kc7 V0 V1 V2 v1_procedures v1_statements o16.1 o16.2.1 o16.2.2 c3 c4 c5 c10x c7) := hD.sub [0, 1, 7, 2, 3, 4, 5, 6] (by decide) rfl
            exact (hG _ _ _ _ _).mp (J82 k2 hk2 y1 o16.1 o16.2.1 o16.2.2 c10x H locs ls (hP.sub [0, 1, 2, 3, 4, 5, 6, 7] rfl) (hD.sub [0, 1, 2, 3, 4, 5, 6, 7] (by decide) rfl) hS (lv_sub hl [0, 1] rfl) hf)
  have L2 : ∀ (n : Nat), ∀ (y1 : Int32) (v2_token : Int32) (v2_fault : Int32) (v2_faultAt : Int32) (c6 : (Nat → Int32)) (H : Heap) (locs : List Loc) (ls : Array Slot), va_P (dC, dI) vwCl (wX2_findCalled h0 h1 h2 h3 h4 h5 h6 h7 kc3 kc4 kc5 kc6 kc7 V0 V1 V2 v1_procedures v1_statements v2_token v2_fault v2_faultAt c3 c4 c5 c6 c7) H → va_D A (wX2_findCalled h0 h1 h2 h3 h4 h5 h6 h7 kc3 kc4 kc5 kc6 kc7 V0 V1 V2 v1_procedures v1_statements v2_token v2_fault v2_faultAt c3 c4 c5 c6 c7) → va_S A s.heap H locs → lv_has ls 2 [(0, .ref h0), (1, .int y1)] → fX2_findCalled_l2 v1_procedures v1_statements c3 c4 c5 c7  n y1 v2_token v2_fault v2_faultAt c6 = some o → G 0 0 H locs (F0 m 2 ls []) := by
    intro  n
    induction n with
    | zero => intro y1 v2_token v2_fault v2_faultAt c6 H locs ls _ _ _ _ hf; cases hf
    | succ n ih => exact B2  _ ih
  refine (hG _ _ _ _ _).mpr ?_
  obtain ⟨H, hH⟩ : ∃ H, H = s.heap := ⟨_, rfl⟩
  have hS : va_S A s.heap H [] := by rw [hH]; exact hS
  rw [← hH] at hP ⊢
  generalize ([] : List Loc) = locs at hS ⊢
  unfold fX2_findCalled at hf
  refine lv_iconst (v := 0) hx hb dX2_findCalled_0 (by decide +kernel) ?_
  refine lv_istore_n (lv' := [(1, .int 0), (0, .ref h0)]) hx hb dX2_findCalled_1 rfl hl (by decide) rfl (fun ls hl => ?_)
  exact (hG _ _ _ _ _).mp (L2 FU 0 v2_token v2_fault v2_faultAt c6 H locs ls (hP.sub [0, 1, 2, 3, 4, 5, 6, 7] rfl) (hD.sub [0, 1, 2, 3, 4, 5, 6, 7] (by decide) rfl) hS (lv_sub hl [1, 0] rfl) hf)
abbrev wX2_findVariable (h0 h1 h2 : Nat) (kc2 : ClassId) (V0 : Nat → Value) (V1 : Nat → Value) (v0_locals : Int32) (v1_globals : Int32) (c2 : Nat → Int64) : va_W := [(h0, .inr (2, [V0 0, .ref h1, .ref h2, .int v0_locals, V0 4, V0 5, V0 6])), (h1, .inr (3, [V1 0, .int v1_globals, V1 2, V1 3, V1 4, V1 5, V1 6, V1 7, V1 8, V1 9, V1 10, V1 11, V1 12, V1 13, V1 14, V1 15, V1 16, V1 17])), (h2, .inl (kc2, 5, .inr (.inl c2)))]
set_option maxHeartbeats 4000000 in
set_option maxRecDepth 100000 in
theorem mX2_findVariable (l : Launch) (dC : Nat → ClassId) (dI : Nat → Nat → Nat) (h0 h1 h2 : Nat) (kc2 : ClassId) (sz : Nat) (base : Nat × Nat × Nat) (a0 : Int64) (v0_locals : Int32) (v1_globals : Int32) (c2 : Nat → Int64) (V0 : Nat → Value) (V1 : Nat → Value) (o : Int32 × Unit) (hf : fX2_findVariable a0 v0_locals v1_globals c2 = some o) : Met l yX2_findVariable (.code yX2_findVariable cX2_findVariable 4 (some .int) :: wsL_law) ({ frames := 0, cells := 0, slots := 0, locals := 0 }) (cPre (dC, dI) vwCl [.ref h0, .long a0] sz base (wX2_findVariable h0 h1 h2 kc2 V0 V1 v0_locals v1_globals c2) [(kc2, .long)]) (va_Qi (fun r u => r = o.1 ∧ u = o.2) (fun (u : Unit) t => cPost (dC, dI) vwCl (va_A (wX2_findVariable h0 h1 h2 kc2 V0 V1 v0_locals v1_globals c2) sz) (wX2_findVariable h0 h1 h2 kc2 V0 V1 v0_locals v1_globals c2) [(kc2, .long)] t) (va_A (wX2_findVariable h0 h1 h2 kc2 V0 V1 v0_locals v1_globals c2) sz)) 0 0 (va_A (wX2_findVariable h0 h1 h2 kc2 V0 V1 v0_locals v1_globals c2) sz) := by
  refine Met.ofW (cc := cX2_findVariable) (maxL := 4) (ret := (some .int)) (by decide) rfl ?_
  intro p e s m args below meth c s₁ B hml hv
  obtain ⟨rfl, hsz, hP, hK, hD0, hE⟩ := hv
  have hx := B.exec
  have hb := B.bytes
  have hr := B.returns
  have hts : ∀ w ∈ wsL_law, _ := fun w h => atoms_spec (ws := .code yX2_findVariable cX2_findVariable 4 (some .int) :: wsL_law) B.pre w (List.mem_cons_of_mem _ h)
  have hown : s.vm.findClass RX2 = some m.cls := findClass_of_methodNamed B.named
  have hlocks := B.notSynchronized
  have w0_ := hts _ q543
  have w1_ := hts _ q68
  have w2_ := hts _ q73
  have w3_ := hts _ q677
  subst hsz
  have hD := hD0.self (sz := s.heap.size)
  generalize hAe : va_A (wX2_findVariable h0 h1 h2 kc2 V0 V1 v0_locals v1_globals c2) s.heap.size = A at hD ⊢
  have hA : ∀ q : Nat, s.heap.size ≤ q → A q := fun q h => by rw [← hAe]; exact Or.inr h
  have hAB : ∀ q : Nat, A q → base.1 ≤ q := fun q h => by rw [← hAe] at h; exact h.elim (fun ⟨k, e, hk⟩ => hD0.2 k _ hk) (fun hk => Nat.le_trans hE.1 hk)
  have hS : va_S A s.heap s.heap [] := va_S.rf
  have hl := lv_entry ([.ref h0, .long a0]) (n := 4) (Nat.le_of_ble_eq_true rfl)
  rw [lg_entry_eq]
  generalize (lg_sl ([.ref h0, .long a0]) ++ List.replicate (4 - (lg_sl ([.ref h0, .long a0])).length) Slot.unset).toArray = ls at hl ⊢
  have hl : lv_has ls 4 [(0, .ref h0), (1, .long a0)] := hl
  have hP : va_P (dC, dI) vwCl (wX2_findVariable h0 h1 h2 kc2 V0 V1 v0_locals v1_globals c2) s.heap := hP
  refine gl_intro (fun G hG => ?_)
  have B34 : ∀ (k34 : Int64 → Int32 → Option (Int32 × Unit)) (hk34 : ∀ (y1 : Int64) (y3 : Int32) (H : Heap) (locs : List Loc) (ls : Array Slot), va_P (dC, dI) vwCl (wX2_findVariable h0 h1 h2 kc2 V0 V1 v0_locals v1_globals c2) H → va_D A (wX2_findVariable h0 h1 h2 kc2 V0 V1 v0_locals v1_globals c2) → va_S A s.heap H locs → lv_has ls 4 [(0, .ref h0), (1, .long y1), (3, .int y3)] → k34 y1 y3 = some o → G 0 0 H locs (F0 m 34 ls [])), ∀ (y1 : Int64) (y3 : Int32) (H : Heap) (locs : List Loc) (ls : Array Slot), va_P (dC, dI) vwCl (wX2_findVariable h0 h1 h2 kc2 V0 V1 v0_locals v1_globals c2) H → va_D A (wX2_findVariable h0 h1 h2 kc2 V0 V1 v0_locals v1_globals c2) → va_S A s.heap H locs → lv_has ls 4 [(0, .ref h0), (1, .long y1), (3, .int y3)] → fX2_findVariable_b34 v0_locals v1_globals c2  k34 y1 y3 = some o → G 0 0 H locs (F0 m 34 ls []) := by
    intro  k34 hk34 y1 y3 H locs ls hP hD hS hl hf
    refine (hG _ _ _ _ _).mpr ?_
    unfold fX2_findVariable_b34 at hf
    refine lv_iload_n hx hb dX2_findVariable_34 rfl (lv_at hl 2 rfl) ?_
    refine lv_iconst (v := 3) hx hb dX2_findVariable_35 (by decide +kernel) ?_
    refine lv_aload_n hx hb dX2_findVariable_36 rfl (lv_at hl 0 rfl) ?_
    refine va_get (D := (dC, dI)) (ci := 2) (v := .int v0_locals) (C := RX2) (T := TX2) (N := 7) hx hb hts inlX2 hown hK hP 0 rfl rfl 3 (by decide) w0_ (fun _ h9 => h9) rfl dX2_findVariable_37 ?_
    refine lv_iadd hx hb dX2_findVariable_40 ?_
    refine lv_topi (fun x1 e1 => ?_)
    replace hf := nm_at hf e1
    refine lv_icmp_ge (tgt := 63) hx hb dX2_findVariable_41 (by decide) (fun cq2 => ?_) (fun cq2 => ?_)
    · replace hf := if_at hf cq2
      refine lv_iconst (v := (-1)) hx hb dX2_findVariable_63 (by decide +kernel) ?_
      have hf1 := Option.some.inj hf
      subst hf1
      have hP9 := hP.sub (ws' := (wX2_findVariable h0 h1 h2 kc2 V0 V1 v0_locals v1_globals c2)) [0, 1, 2] rfl
      have hD9 := hD.sub (ws' := (wX2_findVariable h0 h1 h2 kc2 V0 V1 v0_locals v1_globals c2)) [0, 1, 2] (by decide) rfl
      exact W.iret (v := (-1)) hx hb hr (fun t ht hW => ⟨⟨(-1), (), rfl, ⟨rfl, rfl⟩, by rw [ht]; exact hP9, va_K.moved hW.alike hK, hD9⟩, hS.F ht⟩) hS.2.2 dX2_findVariable_64
    · replace hf := if_no hf cq2
      refine lv_aload_n hx hb dX2_findVariable_44 rfl (lv_at hl 0 rfl) ?_
      refine va_get (D := (dC, dI)) (ci := 2) (v := .ref h2) (C := RX2) (T := TX2) (N := 7) hx hb hts inlX2 hown hK hP 0 rfl rfl 2 (by decide) w1_ (fun _ h9 => h9) rfl dX2_findVariable_45 ?_
      refine lv_iload_n hx hb dX2_findVariable_48 rfl (lv_at hl 2 rfl) ?_
      have b3 := bd_in hf
      replace hf := bd_k hf
      refine va_lald hx hb hK hP 2 0 rfl rfl b3 dX2_findVariable_49 ?_
      refine lv_topl (fun x4 e4 => ?_)
      replace hf := nm_at hf e4
      refine lv_lload_n hx hb dX2_findVariable_50 rfl (lv_at hl 1 rfl) ?_
      refine W.lcmp hx hb dX2_findVariable_51 ?_
      refine lv_topi (fun x5 e5 => ?_)
      replace hf := nm_at hf e5
      refine lv_if_ne (tgt := 57) hx hb dX2_findVariable_52 (by decide) (fun cq6 => ?_) (fun cq6 => ?_)
      · replace hf := if_no hf cq6
        obtain ⟨x7, e7⟩ : ∃ y : Int32, y = y3 + 1 := ⟨_, rfl⟩
        replace hf := nm_at hf e7
        refine lv_iinc (v := x7) (lv' := [(3, .int x7), (0, .ref h0), (1, .long y1)]) hx hb dX2_findVariable_57 hl (k := 2) rfl (by rw [e7]; rfl) (by decide) rfl (fun ls hl => ?_)
        refine lv_goto (tgt := 34) hx hb dX2_findVariable_60 (by decide) ?_
        exact (hG _ _ _ _ _).mp (hk34 y1 x7 H locs ls (hP.sub [0, 1, 2] rfl) (hD.sub [0, 1, 2] (by decide) rfl) hS (lv_sub hl [1, 2, 0] rfl) hf)
      · replace hf := if_at hf cq6
        refine lv_iload_n hx hb dX2_findVariable_55 rfl (lv_at hl 2 rfl) ?_
        have hf1 := Option.some.inj hf
        subst hf1
        have hP9 := hP.sub (ws' := (wX2_findVariable h0 h1 h2 kc2 V0 V1 v0_locals v1_globals c2)) [0, 1, 2] rfl
        have hD9 := hD.sub (ws' := (wX2_findVariable h0 h1 h2 kc2 V0 V1 v0_locals v1_globals c2)) [0, 1, 2] (by decide) rfl
        exact W.iret (v := y3) hx hb hr (fun t ht hW => ⟨⟨y3, (), rfl, ⟨rfl, rfl⟩, by rw [ht]; exact hP9, va_K.moved hW.alike hK, hD9⟩, hS.F ht⟩) hS.2.2 dX2_findVariable_56
  have L34 : ∀ (n : Nat), ∀ (y1 : Int64) (y3 : Int32) (H : Heap) (locs : List Loc) (ls : Array Slot), va_P (dC, dI) vwCl (wX2_findVariable h0 h1 h2 kc2 V0 V1 v0_locals v1_globals c2) H → va_D A (wX2_findVariable h0 h1 h2 kc2 V0 V1 v0_locals v1_globals c2) → va_S A s.heap H locs → lv_has ls 4 [(0, .ref h0), (1, .long y1), (3, .int y3)] → fX2_findVariable_l34 v0_locals v1_globals c2  n y1 y3 = some o → G 0 0 H locs (F0 m 34 ls []) := by
    intro  n
    induction n with
    | zero => intro y1 y3 H locs ls _ _ _ _ hf; cases hf
    | succ n ih => exact B34  _ ih
  have B2 : ∀ (k2 : Int64 → Int32 → Option (Int32 × Unit)) (hk2 : ∀ (y1 : Int64) (y3 : Int32) (H : Heap) (locs : List Loc) (ls : Array Slot), va_P (dC, dI) vwCl (wX2_findVariable h0 h1 h2 kc2 V0 V1 v0_locals v1_globals c2) H → va_D A (wX2_findVariable h0 h1 h2 kc2 V0 V1 v0_locals v1_globals c2) → va_S A s.heap H locs → lv_has ls 4 [(0, .ref h0), (1, .long y1), (3, .int y3)] → k2 y1 y3 = some o → G 0 0 H locs (F0 m 2 ls [])), ∀ (y1 : Int64) (y3 : Int32) (H : Heap) (locs : List Loc) (ls : Array Slot), va_P (dC, dI) vwCl (wX2_findVariable h0 h1 h2 kc2 V0 V1 v0_locals v1_globals c2) H → va_D A (wX2_findVariable h0 h1 h2 kc2 V0 V1 v0_locals v1_globals c2) → va_S A s.heap H locs → lv_has ls 4 [(0, .ref h0), (1, .long y1), (3, .int y3)] → fX2_findVariable_b2 v0_locals v1_globals c2  k2 y1 y3 = some o → G 0 0 H locs (F0 m 2 ls []) := by
    intro  k2 hk2 y1 y3 H locs ls hP hD hS hl hf
    refine (hG _ _ _ _ _).mpr ?_
    unfold fX2_findVariable_b2 at hf
    refine lv_iload_n hx hb dX2_findVariable_2 rfl (lv_at hl 2 rfl) ?_
    refine lv_aload_n hx hb dX2_findVariable_3 rfl (lv_at hl 0 rfl) ?_
    refine va_get (D := (dC, dI)) (ci := 2) (v := .ref h1) (C := RX2) (T := TX2) (N := 7) hx hb hts inlX2 hown hK hP 0 rfl rfl 1 (by decide) w2_ (fun _ h9 => h9) rfl dX2_findVariable_4 ?_
    refine va_get (D := (dC, dI)) (ci := 3) (v := .int v1_globals) (C := RX3) (T := TX3) (N := 18) hx hb hts inlX3 hown hK hP 1 rfl rfl 1 (by decide) w3_ (fun _ h9 => h9) rfl dX2_findVariable_7 ?_
    refine lv_icmp_ge (tgt := 32) hx hb dX2_findVariable_10 (by decide) (fun cq8 => ?_) (fun cq8 => ?_)
    · replace hf := if_at hf cq8
      refine lv_iconst (v := 3) hx hb dX2_findVariable_32 (by decide +kernel) ?_
      refine lv_istore_n (lv' := [(3, .int 3), (0, .ref h0), (1, .long y1)]) hx hb dX2_findVariable_33 rfl hl (by decide) rfl (fun ls hl => ?_)
      exact (hG _ _ _ _ _).mp (L34 FU y1 3 H locs ls (hP.sub [0, 1, 2] rfl) (hD.sub [0, 1, 2] (by decide) rfl) hS (lv_sub hl [1, 2, 0] rfl) hf)
    · replace hf := if_no hf cq8
      refine lv_aload_n hx hb dX2_findVariable_13 rfl (lv_at hl 0 rfl) ?_
      refine va_get (D := (dC, dI)) (ci := 2) (v := .ref h2) (C := RX2) (T := TX2) (N := 7) hx hb hts inlX2 hown hK hP 0 rfl rfl 2 (by decide) w1_ (fun _ h9 => h9) rfl dX2_findVariable_14 ?_
      refine lv_iload_n hx hb dX2_findVariable_17 rfl (lv_at hl 2 rfl) ?_
      have b9 := bd_in hf
      replace hf := bd_k hf
      refine va_lald hx hb hK hP 2 0 rfl rfl b9 dX2_findVariable_18 ?_
      refine lv_topl (fun x10 e10 => ?_)
      replace hf := nm_at hf e10
      refine lv_lload_n hx hb dX2_findVariable_19 rfl (lv_at hl 1 rfl) ?_
      refine W.lcmp hx hb dX2_findVariable_20 ?_
      refine lv_topi (fun x11 e11 => ?_)
      replace hf := nm_at hf e11
      refine lv_if_ne (tgt := 26) hx hb dX2_findVariable_21 (by decide) (fun cq12 => ?_) (fun cq12 => ?_)
      · replace hf := if_no hf cq12
        obtain ⟨x13, e13⟩ : ∃ y : Int32, y = y3 + 1 := ⟨_, rfl⟩
        replace hf := nm_at hf e13
        refine lv_iinc (v := x13) (lv' := [(3, .int x13), (0, .ref h0), (1, .long y1)]) hx hb dX2_findVariable_26 hl (k := 2) rfl (by rw [e13]; rfl) (by decide) rfl (fun ls hl => ?_)
        refine lv_goto (tgt := 2) hx hb dX2_findVariable_29 (by decide) ?_
        exact (hG _ _ _ _ _).mp (hk2 y1 x13 H locs ls (hP.sub [0, 1, 2] rfl) (hD.sub [0, 1, 2] (by decide) rfl) hS (lv_sub hl [1, 2, 0] rfl) hf)
      · replace hf := if_at hf cq12
        refine lv_iload_n hx hb dX2_findVariable_24 rfl (lv_at hl 2 rfl) ?_
        have hf1 := Option.some.inj hf
        subst hf1
        have hP9 := hP.sub (ws' := (wX2_findVariable h0 h1 h2 kc2 V0 V1 v0_locals v1_globals c2)) [0, 1, 2] rfl
        have hD9 := hD.sub (ws' := (wX2_findVariable h0 h1 h2 kc2 V0 V1 v0_locals v1_globals c2)) [0, 1, 2] (by decide) rfl
        exact W.iret (v := y3) hx hb hr (fun t ht hW => ⟨⟨y3, (), rfl, ⟨rfl, rfl⟩, by rw [ht]; exact hP9, va_K.moved hW.alike hK, hD9⟩, hS.F ht⟩) hS.2.2 dX2_findVariable_25
  have L2 : ∀ (n : Nat), ∀ (y1 : Int64) (y3 : Int32) (H : Heap) (locs : List Loc) (ls : Array Slot), va_P (dC, dI) vwCl (wX2_findVariable h0 h1 h2 kc2 V0 V1 v0_locals v1_globals c2) H → va_D A (wX2_findVariable h0 h1 h2 kc2 V0 V1 v0_locals v1_globals c2) → va_S A s.heap H locs → lv_has ls 4 [(0, .ref h0), (1, .long y1), (3, .int y3)] → fX2_findVariable_l2 v0_locals v1_globals c2  n y1 y3 = some o → G 0 0 H locs (F0 m 2 ls []) := by
    intro  n
    induction n with
    | zero => intro y1 y3 H locs ls _ _ _ _ hf; cases hf
    | succ n ih => exact B2  _ ih
  refine (hG _ _ _ _ _).mpr ?_
  obtain ⟨H, hH⟩ : ∃ H, H = s.heap := ⟨_, rfl⟩
  have hS : va_S A s.heap H [] := by rw [hH]; exact hS
  rw [← hH] at hP ⊢
  generalize ([] : List Loc) = locs at hS ⊢
  unfold fX2_findVariable at hf
  refine lv_iconst (v := 0) hx hb dX2_findVariable_0 (by decide +kernel) ?_
  refine lv_istore_n (lv' := [(3, .int 0), (0, .ref h0), (1, .long a0)]) hx hb dX2_findVariable_1 rfl hl (by decide) rfl (fun ls hl => ?_)
  exact (hG _ _ _ _ _).mp (L2 FU a0 0 H locs ls (hP.sub [0, 1, 2] rfl) (hD.sub [0, 1, 2] (by decide) rfl) hS (lv_sub hl [1, 2, 0] rfl) hf)
abbrev wX2_readVariableValue (h0 h1 h2 h3 h4 : Nat) (kc3 kc4 : ClassId) (V0 : Nat → Value) (V2 : Nat → Value) (v0_locals : Int32) (v1_token : Int32) (v1_tokenAt : Int32) (v1_name : Int64) (v1_fault : Int32) (v1_faultAt : Int32) (v1_size : Int32) (v1_next : Int32) (v2_globals : Int32) (c3 : Nat → Int64) (c4 : Nat → Int32) : va_W := [(h0, .inr (2, [.ref h1, .ref h2, .ref h3, .int v0_locals, V0 4, V0 5, V0 6])), (h1, .inr (4, [.int v1_token, .int v1_tokenAt, .long v1_name, .int v1_fault, .int v1_faultAt, .ref h4, .int v1_size, .int v1_next])), (h2, .inr (3, [V2 0, .int v2_globals, V2 2, V2 3, V2 4, V2 5, V2 6, V2 7, V2 8, V2 9, V2 10, V2 11, V2 12, V2 13, V2 14, V2 15, V2 16, V2 17])), (h3, .inl (kc3, 5, .inr (.inl c3))), (h4, .inl (kc4, 600, .inl c4))]
set_option maxHeartbeats 4000000 in
set_option maxRecDepth 100000 in
theorem mX2_readVariableValue (l : Launch) (dC : Nat → ClassId) (dI : Nat → Nat → Nat) (h0 h1 h2 h3 h4 : Nat) (kc3 kc4 : ClassId) (sz : Nat) (base : Nat × Nat × Nat) (v0_locals : Int32) (v1_token : Int32) (v1_tokenAt : Int32) (v1_name : Int64) (v1_fault : Int32) (v1_faultAt : Int32) (v1_size : Int32) (v1_next : Int32) (v2_globals : Int32) (c3 : Nat → Int64) (c4 : Nat → Int32) (V0 : Nat → Value) (V2 : Nat → Value) (o : Int64 × Int32 × Int32 × Int64 × Int32 × Int32 × Int32) (hf : fX2_readVariableValue v0_locals v1_token v1_tokenAt v1_name v1_fault v1_faultAt v1_size v1_next v2_globals c3 c4 = some o) : Met l yX2_readVariableValue (.code yX2_readVariableValue cX2_readVariableValue 4 (some .long) :: wsL_law) ({ frames := 5, cells := 0, slots := 0, locals := 112 }) (cPre (dC, dI) vwCl [.ref h0] sz base (wX2_readVariableValue h0 h1 h2 h3 h4 kc3 kc4 V0 V2 v0_locals v1_token v1_tokenAt v1_name v1_fault v1_faultAt v1_size v1_next v2_globals c3 c4) [(kc3, .long), (kc4, .byte)]) (va_Ql (fun r u => r = o.1 ∧ u = o.2) (fun (u : Int32 × Int32 × Int64 × Int32 × Int32 × Int32) t => cPost (dC, dI) vwCl (va_A (wX2_readVariableValue h0 h1 h2 h3 h4 kc3 kc4 V0 V2 v0_locals v1_token v1_tokenAt v1_name v1_fault v1_faultAt v1_size v1_next v2_globals c3 c4) sz) (wX2_readVariableValue h0 h1 h2 h3 h4 kc3 kc4 V0 V2 v0_locals u.1 u.2.1 u.2.2.1 u.2.2.2.1 u.2.2.2.2.1 v1_size u.2.2.2.2.2 v2_globals c3 c4) [(kc3, .long), (kc4, .byte)] t) (va_A (wX2_readVariableValue h0 h1 h2 h3 h4 kc3 kc4 V0 V2 v0_locals v1_token v1_tokenAt v1_name v1_fault v1_faultAt v1_size v1_next v2_globals c3 c4) sz)) 0 0 (va_A (wX2_readVariableValue h0 h1 h2 h3 h4 kc3 kc4 V0 V2 v0_locals v1_token v1_tokenAt v1_name v1_fault v1_faultAt v1_size v1_next v2_globals c3 c4) sz) := by
  refine Met.ofW (cc := cX2_readVariableValue) (maxL := 4) (ret := (some .long)) (by decide) rfl ?_
  intro p e s m args below meth c s₁ B hml hv
  obtain ⟨rfl, hsz, hP, hK, hD0, hE⟩ := hv
  have hx := B.exec
  have hb := B.bytes
  have hr := B.returns
  have hts : ∀ w ∈ wsL_law, _ := fun w h => atoms_spec (ws := .code yX2_readVariableValue cX2_readVariableValue 4 (some .long) :: wsL_law) B.pre w (List.mem_cons_of_mem _ h)
  have hown : s.vm.findClass RX2 = some m.cls := findClass_of_methodNamed B.named
  have hlocks := B.notSynchronized
  have w0_ := hts _ q72
  have w1_ := hts _ q678
  obtain ⟨⟨tw, zw, uw⟩, ⟨tb, zb, ub⟩, -⟩ := id hE.2.2
  have w3_ := hts _ q739
  have w4_ := hts _ q734
  subst hsz
  have hD := hD0.self (sz := s.heap.size)
  generalize hAe : va_A (wX2_readVariableValue h0 h1 h2 h3 h4 kc3 kc4 V0 V2 v0_locals v1_token v1_tokenAt v1_name v1_fault v1_faultAt v1_size v1_next v2_globals c3 c4) s.heap.size = A at hD ⊢
  have hA : ∀ q : Nat, s.heap.size ≤ q → A q := fun q h => by rw [← hAe]; exact Or.inr h
  have hAB : ∀ q : Nat, A q → base.1 ≤ q := fun q h => by rw [← hAe] at h; exact h.elim (fun ⟨k, e, hk⟩ => hD0.2 k _ hk) (fun hk => Nat.le_trans hE.1 hk)
  have hS : va_S A s.heap s.heap [] := va_S.rf
  have hl := lv_entry ([.ref h0]) (n := 4) (Nat.le_of_ble_eq_true rfl)
  rw [lg_entry_eq]
  generalize (lg_sl ([.ref h0]) ++ List.replicate (4 - (lg_sl ([.ref h0])).length) Slot.unset).toArray = ls at hl ⊢
  have hl : lv_has ls 4 [(0, .ref h0)] := hl
  have hP : va_P (dC, dI) vwCl (wX2_readVariableValue h0 h1 h2 h3 h4 kc3 kc4 V0 V2 v0_locals v1_token v1_tokenAt v1_name v1_fault v1_faultAt v1_size v1_next v2_globals c3 c4) s.heap := hP
  obtain ⟨H, hH⟩ : ∃ H, H = s.heap := ⟨_, rfl⟩
  have hS : va_S A s.heap H [] := by rw [hH]; exact hS
  rw [← hH] at hP ⊢
  generalize ([] : List Loc) = locs at hS ⊢
  unfold fX2_readVariableValue at hf
  refine lv_aload_n hx hb dX2_readVariableValue_0 rfl (lv_at hl 0 rfl) ?_
  refine lv_aload_n hx hb dX2_readVariableValue_1 rfl (lv_at hl 0 rfl) ?_
  refine va_get (D := (dC, dI)) (ci := 2) (v := .ref h1) (C := RX2) (T := TX2) (N := 7) hx hb hts inlX2 hown hK hP 0 rfl rfl 0 (by decide) w0_ (fun _ h9 => h9) rfl dX2_readVariableValue_2 ?_
  refine va_get (D := (dC, dI)) (ci := 4) (v := .long v1_name) (C := RX4) (T := TX4) (N := 8) hx hb hts inlX4 hown hK hP 1 rfl rfl 2 (by decide) w1_ (fun _ h9 => h9) rfl dX2_readVariableValue_5 ?_
  obtain ⟨o1, e1, hf⟩ := ob_some hf
  refine kVi (As := [.long v1_name]) (rest := []) ⟨hx, hb, hml, hown, hts⟩ (mX2_findVariable l dC dI h0 h2 h3 kc3 H.size base v1_name v0_locals v2_globals c3 (fun k => match k with | 0 => .ref h1 | k => V0 k) V2 o1 e1) (cwV 1 hts (gTV q683 q684 q685 q27 q686) rfl rfl rfl (by decide +kernel) ⟨Nat.le_of_ble_eq_true rfl, Nat.le_of_ble_eq_true rfl⟩) hK hP hD hS hA hE hAB [0, 2, 3] [1, 4] [0] (wr := [(h1, .inr (4, [.int v1_token, .int v1_tokenAt, .long v1_name, .int v1_fault, .int v1_faultAt, .ref h4, .int v1_size, .int v1_next])), (h4, .inl (kc4, 600, .inl c4))]) rfl rfl (by decide) (by decide) (by decide) rfl (ci := 2) (q0 := 0) rfl rfl rfl rfl hl.1 rfl (Nat.le_of_ble_eq_true rfl) dX2_readVariableValue_8 ⟨Nat.zero_le _, Nat.zero_le _⟩ (fun r1 u1 H locs hw1 hP hD hS => ?_)
  obtain ⟨hw11, hw12⟩ := hw1
  subst hw11 hw12
  have hP : va_P (dC, dI) vwCl (wX2_readVariableValue h0 h1 h2 h3 h4 kc3 kc4 V0 V2 v0_locals v1_token v1_tokenAt v1_name v1_fault v1_faultAt v1_size v1_next v2_globals c3 c4) H := hP.sub [2, 0, 3, 4, 1] rfl
  have hD : va_D A (wX2_readVariableValue h0 h1 h2 h3 h4 kc3 kc4 V0 V2 v0_locals v1_token v1_tokenAt v1_name v1_fault v1_faultAt v1_size v1_next v2_globals c3 c4) := hD.sub [2, 0, 3, 4, 1] (by decide) rfl
  refine lv_istore_n (lv' := [(1, .int o1.1), (0, .ref h0)]) hx hb dX2_readVariableValue_11 rfl hl (by decide) rfl (fun ls hl => ?_)
  refine lv_iload_n hx hb dX2_readVariableValue_12 rfl (lv_at hl 0 rfl) ?_
  refine lv_iconst (v := (-1)) hx hb dX2_readVariableValue_13 (by decide +kernel) ?_
  refine lv_icmp_ne (tgt := 27) hx hb dX2_readVariableValue_14 (by decide) (fun cq2 => ?_) (fun cq2 => ?_)
  · replace hf := if_no hf cq2
    refine lv_aload_n hx hb dX2_readVariableValue_27 rfl (lv_at hl 1 rfl) ?_
    refine va_get (D := (dC, dI)) (ci := 2) (v := .ref h1) (C := RX2) (T := TX2) (N := 7) hx hb hts inlX2 hown hK hP 0 rfl rfl 0 (by decide) w0_ (fun _ h9 => h9) rfl dX2_readVariableValue_28 ?_
    obtain ⟨o3, e3, hf⟩ := ob_some hf
    refine kVv (As := []) (rest := []) ⟨hx, hb, hml, hown, hts⟩ (mX4_advance l dC dI h1 h4 kc4 H.size base v1_token v1_tokenAt v1_name v1_fault v1_faultAt v1_size v1_next c4 o3 e3) (cwV 0 hts (gTV q672 q562 q563 q19 q564) rfl rfl rfl (by decide +kernel) ⟨Nat.le_of_ble_eq_true rfl, Nat.le_of_ble_eq_true rfl⟩) hK hP hD hS hA hE hAB [1, 4] [0, 2, 3] [1] (wr := [(h0, .inr (2, [.ref h1, .ref h2, .ref h3, .int v0_locals, V0 4, V0 5, V0 6])), (h2, .inr (3, [V2 0, .int v2_globals, V2 2, V2 3, V2 4, V2 5, V2 6, V2 7, V2 8, V2 9, V2 10, V2 11, V2 12, V2 13, V2 14, V2 15, V2 16, V2 17])), (h3, .inl (kc3, 5, .inr (.inl c3)))]) rfl rfl (by decide) (by decide) (by decide) rfl (ci := 4) (q0 := 0) rfl rfl rfl rfl hl.1 rfl (Nat.le_of_ble_eq_true rfl) dX2_readVariableValue_31 ⟨Nat.zero_le _, Nat.zero_le _⟩ (fun u3 H locs hw3 hP hD hS => ?_)
    have hw31 : o3 = u3 := Eq.symm hw3
    subst hw31
    have hP : va_P (dC, dI) vwCl (wX2_readVariableValue h0 h1 h2 h3 h4 kc3 kc4 V0 V2 v0_locals o3.1 o3.2.1 o3.2.2.1 o3.2.2.2.1 o3.2.2.2.2.1 v1_size o3.2.2.2.2.2 v2_globals c3 c4) H := hP.sub [0, 3, 1, 2, 4] rfl
    have hD : va_D A (wX2_readVariableValue h0 h1 h2 h3 h4 kc3 kc4 V0 V2 v0_locals o3.1 o3.2.1 o3.2.2.1 o3.2.2.2.1 o3.2.2.2.2.1 v1_size o3.2.2.2.2.2 v2_globals c3 c4) := hD.sub [0, 3, 1, 2, 4] (by decide) rfl
    refine va_gets hx hb (zb.narrow hAB) hS hown w3_ (fun _ h9 => h9) dX2_readVariableValue_34 ?_
    refine lv_iload_n hx hb dX2_readVariableValue_37 rfl (lv_at hl 0 rfl) ?_
    have b4 := bd_in hf
    replace hf := bd_k hf
    refine va_ti hx hb (ub.narrow hAB) hS b4 (v := .int (xBits.getD o1.1.toNatClampNeg 0)) rfl dX2_readVariableValue_38 ?_
    refine lv_topi (fun x5 e5 => ?_)
    replace hf := nm_at hf e5
    refine lv_i2l hx hb dX2_readVariableValue_39 rfl ?_
    refine lv_topl (fun x6 e6 => ?_)
    replace hf := nm_at hf e6
    refine lv_bipush (v := 32) hx hb dX2_readVariableValue_40 (by decide +kernel) ?_
    refine lv_lshl hx hb dX2_readVariableValue_42 rfl ?_
    refine lv_topl (fun x7 e7 => ?_)
    replace hf := nm_at hf e7
    refine lv_lstore_n (lv' := [(2, .long x7), (1, .int o1.1), (0, .ref h0)]) hx hb dX2_readVariableValue_43 rfl hl (by decide) rfl (fun ls hl => ?_)
    refine lv_lload_n hx hb dX2_readVariableValue_44 rfl (lv_at hl 0 rfl) ?_
    refine lv_lload_n hx hb dX2_readVariableValue_45 rfl (lv_at hl 0 rfl) ?_
    refine lv_ldc2 (v := (-1)) hx hb hown w4_ dX2_readVariableValue_46 ?_
    refine lv_lxor hx hb dX2_readVariableValue_49 ?_
    refine lv_topl (fun x8 e8 => ?_)
    replace hf := nm_at hf e8
    refine lv_bipush (v := 32) hx hb dX2_readVariableValue_50 (by decide +kernel) ?_
    refine lv_lushr hx hb dX2_readVariableValue_52 rfl ?_
    refine lv_topl (fun x9 e9 => ?_)
    replace hf := nm_at hf e9
    refine lv_lor hx hb dX2_readVariableValue_53 ?_
    refine lv_topl (fun x10 e10 => ?_)
    replace hf := nm_at hf e10
    have hf1 := Option.some.inj hf
    subst hf1
    have hP9 := hP.sub (ws' := (wX2_readVariableValue h0 h1 h2 h3 h4 kc3 kc4 V0 V2 v0_locals o3.1 o3.2.1 o3.2.2.1 o3.2.2.2.1 o3.2.2.2.2.1 v1_size o3.2.2.2.2.2 v2_globals c3 c4)) [0, 1, 2, 3, 4] rfl
    have hD9 := hD.sub (ws' := (wX2_readVariableValue h0 h1 h2 h3 h4 kc3 kc4 V0 V2 v0_locals o3.1 o3.2.1 o3.2.2.1 o3.2.2.2.1 o3.2.2.2.2.1 v1_size o3.2.2.2.2.2 v2_globals c3 c4)) [0, 1, 2, 3, 4] (by decide) rfl
    exact W.lret (v := x10) hx hb hr (fun t ht hW => ⟨⟨x10, (o3.1, o3.2.1, o3.2.2.1, o3.2.2.2.1, o3.2.2.2.2.1, o3.2.2.2.2.2), rfl, ⟨rfl, rfl⟩, by rw [ht]; exact hP9, va_K.moved hW.alike hK, hD9⟩, hS.F ht⟩) hS.2.2 dX2_readVariableValue_54
  · replace hf := if_at hf cq2
    refine lv_aload_n hx hb dX2_readVariableValue_17 rfl (lv_at hl 1 rfl) ?_
    refine va_get (D := (dC, dI)) (ci := 2) (v := .ref h1) (C := RX2) (T := TX2) (N := 7) hx hb hts inlX2 hown hK hP 0 rfl rfl 0 (by decide) w0_ (fun _ h9 => h9) rfl dX2_readVariableValue_18 ?_
    refine lv_iconst (v := 3) hx hb dX2_readVariableValue_21 (by decide +kernel) ?_
    obtain ⟨o11, e11, hf⟩ := ob_some hf
    refine kVv (As := [.int 3]) (rest := []) ⟨hx, hb, hml, hown, hts⟩ (mX4_failHere l dC dI h1 H.size base 3 v1_token v1_tokenAt v1_fault v1_faultAt (fun k => match k with | 2 => .long v1_name | 5 => .ref h4 | 6 => .int v1_size | 7 => .int v1_next | _ => .null) o11 e11) (cwV 1 hts (gTV q679 q680 q681 q19 q682) rfl rfl rfl (by decide +kernel) ⟨Nat.le_of_ble_eq_true rfl, Nat.le_of_ble_eq_true rfl⟩) hK hP hD hS hA hE hAB [1] [0, 2, 3, 4] [] (wr := [(h0, .inr (2, [.ref h1, .ref h2, .ref h3, .int v0_locals, V0 4, V0 5, V0 6])), (h2, .inr (3, [V2 0, .int v2_globals, V2 2, V2 3, V2 4, V2 5, V2 6, V2 7, V2 8, V2 9, V2 10, V2 11, V2 12, V2 13, V2 14, V2 15, V2 16, V2 17])), (h3, .inl (kc3, 5, .inr (.inl c3))), (h4, .inl (kc4, 600, .inl c4))]) rfl rfl (by decide) (by decide) (by decide) rfl (ci := 4) (q0 := 0) rfl rfl rfl rfl hl.1 rfl (Nat.le_of_ble_eq_true rfl) dX2_readVariableValue_22 ⟨Nat.zero_le _, Nat.zero_le _⟩ (fun u11 H locs hw11 hP hD hS => ?_)
    have hw111 : o11 = u11 := Eq.symm hw11
    subst hw111
    have hP : va_P (dC, dI) vwCl (wX2_readVariableValue h0 h1 h2 h3 h4 kc3 kc4 V0 V2 v0_locals o11.1 v1_tokenAt v1_name o11.2.1 o11.2.2 v1_size v1_next v2_globals c3 c4) H := hP.sub [0, 4, 1, 2, 3] rfl
    have hD : va_D A (wX2_readVariableValue h0 h1 h2 h3 h4 kc3 kc4 V0 V2 v0_locals o11.1 v1_tokenAt v1_name o11.2.1 o11.2.2 v1_size v1_next v2_globals c3 c4) := hD.sub [0, 4, 1, 2, 3] (by decide) rfl
    refine lv_lconst (v := 0) hx hb dX2_readVariableValue_25 (by decide) ?_
    have hf1 := Option.some.inj hf
    subst hf1
    have hP9 := hP.sub (ws' := (wX2_readVariableValue h0 h1 h2 h3 h4 kc3 kc4 V0 V2 v0_locals o11.1 v1_tokenAt v1_name o11.2.1 o11.2.2 v1_size v1_next v2_globals c3 c4)) [0, 1, 2, 3, 4] rfl
    have hD9 := hD.sub (ws' := (wX2_readVariableValue h0 h1 h2 h3 h4 kc3 kc4 V0 V2 v0_locals o11.1 v1_tokenAt v1_name o11.2.1 o11.2.2 v1_size v1_next v2_globals c3 c4)) [0, 1, 2, 3, 4] (by decide) rfl
    exact W.lret (v := 0) hx hb hr (fun t ht hW => ⟨⟨0, (o11.1, v1_tokenAt, v1_name, o11.2.1, o11.2.2, v1_next), rfl, ⟨rfl, rfl⟩, by rw [ht]; exact hP9, va_K.moved hW.alike hK, hD9⟩, hS.F ht⟩) hS.2.2 dX2_readVariableValue_26
abbrev wX2_readTerm (h0 h1 h2 h3 h4 : Nat) (kc3 kc4 : ClassId) (V0 : Nat → Value) (V2 : Nat → Value) (v0_locals : Int32) (v1_token : Int32) (v1_tokenAt : Int32) (v1_name : Int64) (v1_fault : Int32) (v1_faultAt : Int32) (v1_size : Int32) (v1_next : Int32) (v2_globals : Int32) (c3 : Nat → Int64) (c4 : Nat → Int32) : va_W := [(h0, .inr (2, [.ref h1, .ref h2, .ref h3, .int v0_locals, V0 4, V0 5, V0 6])), (h1, .inr (4, [.int v1_token, .int v1_tokenAt, .long v1_name, .int v1_fault, .int v1_faultAt, .ref h4, .int v1_size, .int v1_next])), (h2, .inr (3, [V2 0, .int v2_globals, V2 2, V2 3, V2 4, V2 5, V2 6, V2 7, V2 8, V2 9, V2 10, V2 11, V2 12, V2 13, V2 14, V2 15, V2 16, V2 17])), (h3, .inl (kc3, 5, .inr (.inl c3))), (h4, .inl (kc4, 600, .inl c4))]
def KX2_readTerm (k : Int32 → Int32 → Int32 → Int32 → Int64 → Int32 → Int32 → Int32 → Int32 → Int32 → (Nat → Int64) → (Nat → Int32) → Option (Int64 × Int32 × Int32 × Int64 × Int32 × Int32 × Int32)) (F L : Nat) : Prop := ∀ (l : Launch) (dC : Nat → ClassId) (dI : Nat → Nat → Nat) (h0 h1 h2 h3 h4 : Nat) (kc3 kc4 : ClassId) (sz : Nat) (base : Nat × Nat × Nat) (a0 : Int32) (v0_locals : Int32) (v1_token : Int32) (v1_tokenAt : Int32) (v1_name : Int64) (v1_fault : Int32) (v1_faultAt : Int32) (v1_size : Int32) (v1_next : Int32) (v2_globals : Int32) (c3 : Nat → Int64) (c4 : Nat → Int32) (V0 : Nat → Value) (V2 : Nat → Value) (o : Int64 × Int32 × Int32 × Int64 × Int32 × Int32 × Int32) (hf : k a0 v0_locals v1_token v1_tokenAt v1_name v1_fault v1_faultAt v1_size v1_next v2_globals c3 c4 = some o), Met l yX2_readTerm (.code yX2_readTerm cX2_readTerm 7 (some .long) :: wsL_law) ({ frames := F, cells := 0, slots := 0, locals := L }) (cPre (dC, dI) vwCl [.ref h0, .int a0] sz base (wX2_readTerm h0 h1 h2 h3 h4 kc3 kc4 V0 V2 v0_locals v1_token v1_tokenAt v1_name v1_fault v1_faultAt v1_size v1_next v2_globals c3 c4) [(kc3, .long), (kc4, .byte)]) (va_Ql (fun r u => r = o.1 ∧ u = o.2) (fun (u : Int32 × Int32 × Int64 × Int32 × Int32 × Int32) t => cPost (dC, dI) vwCl (va_A (wX2_readTerm h0 h1 h2 h3 h4 kc3 kc4 V0 V2 v0_locals v1_token v1_tokenAt v1_name v1_fault v1_faultAt v1_size v1_next v2_globals c3 c4) sz) (wX2_readTerm h0 h1 h2 h3 h4 kc3 kc4 V0 V2 v0_locals u.1 u.2.1 u.2.2.1 u.2.2.2.1 u.2.2.2.2.1 v1_size u.2.2.2.2.2 v2_globals c3 c4) [(kc3, .long), (kc4, .byte)] t) (va_A (wX2_readTerm h0 h1 h2 h3 h4 kc3 kc4 V0 V2 v0_locals v1_token v1_tokenAt v1_name v1_fault v1_faultAt v1_size v1_next v2_globals c3 c4) sz)) 0 0 (va_A (wX2_readTerm h0 h1 h2 h3 h4 kc3 kc4 V0 V2 v0_locals v1_token v1_tokenAt v1_name v1_fault v1_faultAt v1_size v1_next v2_globals c3 c4) sz)
abbrev wX2_readExpression (h0 h1 h2 h3 h4 : Nat) (kc3 kc4 : ClassId) (V0 : Nat → Value) (V2 : Nat → Value) (v0_locals : Int32) (v1_token : Int32) (v1_tokenAt : Int32) (v1_name : Int64) (v1_fault : Int32) (v1_faultAt : Int32) (v1_size : Int32) (v1_next : Int32) (v2_globals : Int32) (c3 : Nat → Int64) (c4 : Nat → Int32) : va_W := [(h0, .inr (2, [.ref h1, .ref h2, .ref h3, .int v0_locals, V0 4, V0 5, V0 6])), (h1, .inr (4, [.int v1_token, .int v1_tokenAt, .long v1_name, .int v1_fault, .int v1_faultAt, .ref h4, .int v1_size, .int v1_next])), (h2, .inr (3, [V2 0, .int v2_globals, V2 2, V2 3, V2 4, V2 5, V2 6, V2 7, V2 8, V2 9, V2 10, V2 11, V2 12, V2 13, V2 14, V2 15, V2 16, V2 17])), (h3, .inl (kc3, 5, .inr (.inl c3))), (h4, .inl (kc4, 600, .inl c4))]
def KX2_readExpression (k : Int32 → Int32 → Int32 → Int32 → Int64 → Int32 → Int32 → Int32 → Int32 → Int32 → (Nat → Int64) → (Nat → Int32) → Option (Int64 × Int32 × Int32 × Int64 × Int32 × Int32 × Int32)) (F L : Nat) : Prop := ∀ (l : Launch) (dC : Nat → ClassId) (dI : Nat → Nat → Nat) (h0 h1 h2 h3 h4 : Nat) (kc3 kc4 : ClassId) (sz : Nat) (base : Nat × Nat × Nat) (a0 : Int32) (v0_locals : Int32) (v1_token : Int32) (v1_tokenAt : Int32) (v1_name : Int64) (v1_fault : Int32) (v1_faultAt : Int32) (v1_size : Int32) (v1_next : Int32) (v2_globals : Int32) (c3 : Nat → Int64) (c4 : Nat → Int32) (V0 : Nat → Value) (V2 : Nat → Value) (o : Int64 × Int32 × Int32 × Int64 × Int32 × Int32 × Int32) (hf : k a0 v0_locals v1_token v1_tokenAt v1_name v1_fault v1_faultAt v1_size v1_next v2_globals c3 c4 = some o), Met l yX2_readExpression (.code yX2_readExpression cX2_readExpression 7 (some .long) :: wsL_law) ({ frames := F, cells := 0, slots := 0, locals := L }) (cPre (dC, dI) vwCl [.ref h0, .int a0] sz base (wX2_readExpression h0 h1 h2 h3 h4 kc3 kc4 V0 V2 v0_locals v1_token v1_tokenAt v1_name v1_fault v1_faultAt v1_size v1_next v2_globals c3 c4) [(kc3, .long), (kc4, .byte)]) (va_Ql (fun r u => r = o.1 ∧ u = o.2) (fun (u : Int32 × Int32 × Int64 × Int32 × Int32 × Int32) t => cPost (dC, dI) vwCl (va_A (wX2_readExpression h0 h1 h2 h3 h4 kc3 kc4 V0 V2 v0_locals v1_token v1_tokenAt v1_name v1_fault v1_faultAt v1_size v1_next v2_globals c3 c4) sz) (wX2_readExpression h0 h1 h2 h3 h4 kc3 kc4 V0 V2 v0_locals u.1 u.2.1 u.2.2.1 u.2.2.2.1 u.2.2.2.2.1 v1_size u.2.2.2.2.2 v2_globals c3 c4) [(kc3, .long), (kc4, .byte)] t) (va_A (wX2_readExpression h0 h1 h2 h3 h4 kc3 kc4 V0 V2 v0_locals v1_token v1_tokenAt v1_name v1_fault v1_faultAt v1_size v1_next v2_globals c3 c4) sz)) 0 0 (va_A (wX2_readExpression h0 h1 h2 h3 h4 kc3 kc4 V0 V2 v0_locals v1_token v1_tokenAt v1_name v1_fault v1_faultAt v1_size v1_next v2_globals c3 c4) sz)
abbrev wX2_readNested (h0 h1 h2 h3 h4 : Nat) (kc2 kc4 : ClassId) (V0 : Nat → Value) (V3 : Nat → Value) (v0_locals : Int32) (v1_token : Int32) (v1_tokenAt : Int32) (v1_name : Int64) (v1_fault : Int32) (v1_faultAt : Int32) (v1_size : Int32) (v1_next : Int32) (c2 : Nat → Int32) (v3_globals : Int32) (c4 : Nat → Int64) : va_W := [(h0, .inr (2, [.ref h1, .ref h3, .ref h4, .int v0_locals, V0 4, V0 5, V0 6])), (h1, .inr (4, [.int v1_token, .int v1_tokenAt, .long v1_name, .int v1_fault, .int v1_faultAt, .ref h2, .int v1_size, .int v1_next])), (h2, .inl (kc2, 600, .inl c2)), (h3, .inr (3, [V3 0, .int v3_globals, V3 2, V3 3, V3 4, V3 5, V3 6, V3 7, V3 8, V3 9, V3 10, V3 11, V3 12, V3 13, V3 14, V3 15, V3 16, V3 17])), (h4, .inl (kc4, 5, .inr (.inl c4)))]
def KX2_readNested (k : Int32 → Int32 → Int32 → Int32 → Int64 → Int32 → Int32 → Int32 → Int32 → (Nat → Int32) → Int32 → (Nat → Int64) → Option (Int64 × Int32 × Int32 × Int64 × Int32 × Int32 × Int32)) (F L : Nat) : Prop := ∀ (l : Launch) (dC : Nat → ClassId) (dI : Nat → Nat → Nat) (h0 h1 h2 h3 h4 : Nat) (kc2 kc4 : ClassId) (sz : Nat) (base : Nat × Nat × Nat) (a0 : Int32) (v0_locals : Int32) (v1_token : Int32) (v1_tokenAt : Int32) (v1_name : Int64) (v1_fault : Int32) (v1_faultAt : Int32) (v1_size : Int32) (v1_next : Int32) (c2 : Nat → Int32) (v3_globals : Int32) (c4 : Nat → Int64) (V0 : Nat → Value) (V3 : Nat → Value) (o : Int64 × Int32 × Int32 × Int64 × Int32 × Int32 × Int32) (hf : k a0 v0_locals v1_token v1_tokenAt v1_name v1_fault v1_faultAt v1_size v1_next c2 v3_globals c4 = some o), Met l yX2_readNested (.code yX2_readNested cX2_readNested 5 (some .long) :: wsL_law) ({ frames := F, cells := 0, slots := 0, locals := L }) (cPre (dC, dI) vwCl [.ref h0, .int a0] sz base (wX2_readNested h0 h1 h2 h3 h4 kc2 kc4 V0 V3 v0_locals v1_token v1_tokenAt v1_name v1_fault v1_faultAt v1_size v1_next c2 v3_globals c4) [(kc2, .byte), (kc4, .long)]) (va_Ql (fun r u => r = o.1 ∧ u = o.2) (fun (u : Int32 × Int32 × Int64 × Int32 × Int32 × Int32) t => cPost (dC, dI) vwCl (va_A (wX2_readNested h0 h1 h2 h3 h4 kc2 kc4 V0 V3 v0_locals v1_token v1_tokenAt v1_name v1_fault v1_faultAt v1_size v1_next c2 v3_globals c4) sz) (wX2_readNested h0 h1 h2 h3 h4 kc2 kc4 V0 V3 v0_locals u.1 u.2.1 u.2.2.1 u.2.2.2.1 u.2.2.2.2.1 v1_size u.2.2.2.2.2 c2 v3_globals c4) [(kc2, .byte), (kc4, .long)] t) (va_A (wX2_readNested h0 h1 h2 h3 h4 kc2 kc4 V0 V3 v0_locals v1_token v1_tokenAt v1_name v1_fault v1_faultAt v1_size v1_next c2 v3_globals c4) sz)) 0 0 (va_A (wX2_readNested h0 h1 h2 h3 h4 kc2 kc4 V0 V3 v0_locals v1_token v1_tokenAt v1_name v1_fault v1_faultAt v1_size v1_next c2 v3_globals c4) sz)
abbrev wX2_readFactor (h0 h1 h2 h3 h4 : Nat) (kc3 kc4 : ClassId) (V0 : Nat → Value) (V2 : Nat → Value) (v0_locals : Int32) (v1_token : Int32) (v1_tokenAt : Int32) (v1_name : Int64) (v1_fault : Int32) (v1_faultAt : Int32) (v1_size : Int32) (v1_next : Int32) (v2_globals : Int32) (c3 : Nat → Int64) (c4 : Nat → Int32) : va_W := [(h0, .inr (2, [.ref h1, .ref h2, .ref h3, .int v0_locals, V0 4, V0 5, V0 6])), (h1, .inr (4, [.int v1_token, .int v1_tokenAt, .long v1_name, .int v1_fault, .int v1_faultAt, .ref h4, .int v1_size, .int v1_next])), (h2, .inr (3, [V2 0, .int v2_globals, V2 2, V2 3, V2 4, V2 5, V2 6, V2 7, V2 8, V2 9, V2 10, V2 11, V2 12, V2 13, V2 14, V2 15, V2 16, V2 17])), (h3, .inl (kc3, 5, .inr (.inl c3))), (h4, .inl (kc4, 600, .inl c4))]
def KX2_readFactor (k : Int32 → Int32 → Int32 → Int32 → Int64 → Int32 → Int32 → Int32 → Int32 → Int32 → (Nat → Int64) → (Nat → Int32) → Option (Int64 × Int32 × Int32 × Int64 × Int32 × Int32 × Int32)) (F L : Nat) : Prop := ∀ (l : Launch) (dC : Nat → ClassId) (dI : Nat → Nat → Nat) (h0 h1 h2 h3 h4 : Nat) (kc3 kc4 : ClassId) (sz : Nat) (base : Nat × Nat × Nat) (a0 : Int32) (v0_locals : Int32) (v1_token : Int32) (v1_tokenAt : Int32) (v1_name : Int64) (v1_fault : Int32) (v1_faultAt : Int32) (v1_size : Int32) (v1_next : Int32) (v2_globals : Int32) (c3 : Nat → Int64) (c4 : Nat → Int32) (V0 : Nat → Value) (V2 : Nat → Value) (o : Int64 × Int32 × Int32 × Int64 × Int32 × Int32 × Int32) (hf : k a0 v0_locals v1_token v1_tokenAt v1_name v1_fault v1_faultAt v1_size v1_next v2_globals c3 c4 = some o), Met l yX2_readFactor (.code yX2_readFactor cX2_readFactor 2 (some .long) :: wsL_law) ({ frames := F, cells := 0, slots := 0, locals := L }) (cPre (dC, dI) vwCl [.ref h0, .int a0] sz base (wX2_readFactor h0 h1 h2 h3 h4 kc3 kc4 V0 V2 v0_locals v1_token v1_tokenAt v1_name v1_fault v1_faultAt v1_size v1_next v2_globals c3 c4) [(kc3, .long), (kc4, .byte)]) (va_Ql (fun r u => r = o.1 ∧ u = o.2) (fun (u : Int32 × Int32 × Int64 × Int32 × Int32 × Int32) t => cPost (dC, dI) vwCl (va_A (wX2_readFactor h0 h1 h2 h3 h4 kc3 kc4 V0 V2 v0_locals v1_token v1_tokenAt v1_name v1_fault v1_faultAt v1_size v1_next v2_globals c3 c4) sz) (wX2_readFactor h0 h1 h2 h3 h4 kc3 kc4 V0 V2 v0_locals u.1 u.2.1 u.2.2.1 u.2.2.2.1 u.2.2.2.2.1 v1_size u.2.2.2.2.2 v2_globals c3 c4) [(kc3, .long), (kc4, .byte)] t) (va_A (wX2_readFactor h0 h1 h2 h3 h4 kc3 kc4 V0 V2 v0_locals v1_token v1_tokenAt v1_name v1_fault v1_faultAt v1_size v1_next v2_globals c3 c4) sz)) 0 0 (va_A (wX2_readFactor h0 h1 h2 h3 h4 kc3 kc4 V0 V2 v0_locals v1_token v1_tokenAt v1_name v1_fault v1_faultAt v1_size v1_next v2_globals c3 c4) sz)
set_option maxHeartbeats 4000000 in
set_option maxRecDepth 100000 in
theorem mX2_readTerm_o (kf_X2_readFactor : Int32 → Int32 → Int32 → Int32 → Int64 → Int32 → Int32 → Int32 → Int32 → Int32 → (Nat → Int64) → (Nat → Int32) → Option (Int64 × Int32 × Int32 × Int64 × Int32 × Int32 × Int32)) (F_X2_readFactor L_X2_readFactor : Nat) (hk_X2_readFactor : KX2_readFactor kf_X2_readFactor F_X2_readFactor L_X2_readFactor) : KX2_readTerm (fX2_readTerm_o kf_X2_readFactor) (max ((F_X2_readFactor) + 1) 5) (max ((L_X2_readFactor) + 21) 112) := by
  intro l dC dI h0 h1 h2 h3 h4 kc3 kc4 sz base a0 v0_locals v1_token v1_tokenAt v1_name v1_fault v1_faultAt v1_size v1_next v2_globals c3 c4 V0 V2 o hf
  refine Met.ofW (cc := cX2_readTerm) (maxL := 7) (ret := (some .long)) (by decide) rfl ?_
  intro p e s m args below meth c s₁ B hml hv
  obtain ⟨rfl, hsz, hP, hK, hD0, hE⟩ := hv
  have hx := B.exec
  have hb := B.bytes
  have hr := B.returns
  have hts : ∀ w ∈ wsL_law, _ := fun w h => atoms_spec (ws := .code yX2_readTerm cX2_readTerm 7 (some .long) :: wsL_law) B.pre w (List.mem_cons_of_mem _ h)
  have hown : s.vm.findClass RX2 = some m.cls := findClass_of_methodNamed B.named
  have hlocks := B.notSynchronized
  have w0_ := hts _ q72
  have w1_ := hts _ q544
  have w2_ := hts _ q729
  have w3_ := hts _ q728
  subst hsz
  have hD := hD0.self (sz := s.heap.size)
  generalize hAe : va_A (wX2_readTerm h0 h1 h2 h3 h4 kc3 kc4 V0 V2 v0_locals v1_token v1_tokenAt v1_name v1_fault v1_faultAt v1_size v1_next v2_globals c3 c4) s.heap.size = A at hD ⊢
  have hA : ∀ q : Nat, s.heap.size ≤ q → A q := fun q h => by rw [← hAe]; exact Or.inr h
  have hAB : ∀ q : Nat, A q → base.1 ≤ q := fun q h => by rw [← hAe] at h; exact h.elim (fun ⟨k, e, hk⟩ => hD0.2 k _ hk) (fun hk => Nat.le_trans hE.1 hk)
  have hS : va_S A s.heap s.heap [] := va_S.rf
  have hl := lv_entry ([.ref h0, .int a0]) (n := 7) (Nat.le_of_ble_eq_true rfl)
  rw [lg_entry_eq]
  generalize (lg_sl ([.ref h0, .int a0]) ++ List.replicate (7 - (lg_sl ([.ref h0, .int a0])).length) Slot.unset).toArray = ls at hl ⊢
  have hl : lv_has ls 7 [(0, .ref h0), (1, .int a0)] := hl
  have hP : va_P (dC, dI) vwCl (wX2_readTerm h0 h1 h2 h3 h4 kc3 kc4 V0 V2 v0_locals v1_token v1_tokenAt v1_name v1_fault v1_faultAt v1_size v1_next v2_globals c3 c4) s.heap := hP
  refine gl_intro (fun G hG => ?_)
  have J67 : ∀ (y2 : Int64) (v1_token : Int32) (v1_tokenAt : Int32) (v1_name : Int64) (v1_fault : Int32) (v1_faultAt : Int32) (v1_next : Int32) (H : Heap) (locs : List Loc) (ls : Array Slot), va_P (dC, dI) vwCl (wX2_readTerm h0 h1 h2 h3 h4 kc3 kc4 V0 V2 v0_locals v1_token v1_tokenAt v1_name v1_fault v1_faultAt v1_size v1_next v2_globals c3 c4) H → va_D A (wX2_readTerm h0 h1 h2 h3 h4 kc3 kc4 V0 V2 v0_locals v1_token v1_tokenAt v1_name v1_fault v1_faultAt v1_size v1_next v2_globals c3 c4) → va_S A s.heap H locs → lv_has ls 7 [(0, .ref h0), (2, .long y2)] → fX2_readTerm_o_p67 kf_X2_readFactor v0_locals v1_size v2_globals c3 c4  y2 v1_token v1_tokenAt v1_name v1_fault v1_faultAt v1_next = some o → G 0 0 H locs (F0 m 67 ls []) := by
    intro  y2 v1_token v1_tokenAt v1_name v1_fault v1_faultAt v1_next H locs ls hP hD hS hl hf
    refine (hG _ _ _ _ _).mpr ?_
    unfold fX2_readTerm_o_p67 at hf
    refine lv_lload_n hx hb dX2_readTerm_67 rfl (lv_at hl 1 rfl) ?_
    have hf1 := Option.some.inj hf
    subst hf1
    have hP9 := hP.sub (ws' := (wX2_readTerm h0 h1 h2 h3 h4 kc3 kc4 V0 V2 v0_locals v1_token v1_tokenAt v1_name v1_fault v1_faultAt v1_size v1_next v2_globals c3 c4)) [0, 1, 2, 3, 4] rfl
    have hD9 := hD.sub (ws' := (wX2_readTerm h0 h1 h2 h3 h4 kc3 kc4 V0 V2 v0_locals v1_token v1_tokenAt v1_name v1_fault v1_faultAt v1_size v1_next v2_globals c3 c4)) [0, 1, 2, 3, 4] (by decide) rfl
    exact W.lret (v := y2) hx hb hr (fun t ht hW => ⟨⟨y2, (v1_token, v1_tokenAt, v1_name, v1_fault, v1_faultAt, v1_next), rfl, ⟨rfl, rfl⟩, by rw [ht]; exact hP9, va_K.moved hW.alike hK, hD9⟩, hS.F ht⟩) hS.2.2 dX2_readTerm_68
  have B9 : ∀ (k9 : Int32 → Int64 → Int32 → Int32 → Int32 → Int64 → Int32 → Int32 → Int32 → Option (Int64 × Int32 × Int32 × Int64 × Int32 × Int32 × Int32)) (hk9 : ∀ (y1 : Int32) (y2 : Int64) (y4 : Int32) (v1_token : Int32) (v1_tokenAt : Int32) (v1_name : Int64) (v1_fault : Int32) (v1_faultAt : Int32) (v1_next : Int32) (H : Heap) (locs : List Loc) (ls : Array Slot), va_P (dC, dI) vwCl (wX2_readTerm h0 h1 h2 h3 h4 kc3 kc4 V0 V2 v0_locals v1_token v1_tokenAt v1_name v1_fault v1_faultAt v1_size v1_next v2_globals c3 c4) H → va_D A (wX2_readTerm h0 h1 h2 h3 h4 kc3 kc4 V0 V2 v0_locals v1_token v1_tokenAt v1_name v1_fault v1_faultAt v1_size v1_next v2_globals c3 c4) → va_S A s.heap H locs → lv_has ls 7 [(0, .ref h0), (1, .int y1), (2, .long y2), (4, .int y4)] → k9 y1 y2 y4 v1_token v1_tokenAt v1_name v1_fault v1_faultAt v1_next = some o → G 0 0 H locs (F0 m 9 ls [])), ∀ (y1 : Int32) (y2 : Int64) (y4 : Int32) (v1_token : Int32) (v1_tokenAt : Int32) (v1_name : Int64) (v1_fault : Int32) (v1_faultAt : Int32) (v1_next : Int32) (H : Heap) (locs : List Loc) (ls : Array Slot), va_P (dC, dI) vwCl (wX2_readTerm h0 h1 h2 h3 h4 kc3 kc4 V0 V2 v0_locals v1_token v1_tokenAt v1_name v1_fault v1_faultAt v1_size v1_next v2_globals c3 c4) H → va_D A (wX2_readTerm h0 h1 h2 h3 h4 kc3 kc4 V0 V2 v0_locals v1_token v1_tokenAt v1_name v1_fault v1_faultAt v1_size v1_next v2_globals c3 c4) → va_S A s.heap H locs → lv_has ls 7 [(0, .ref h0), (1, .int y1), (2, .long y2), (4, .int y4)] → fX2_readTerm_o_b9 kf_X2_readFactor v0_locals v1_size v2_globals c3 c4  k9 y1 y2 y4 v1_token v1_tokenAt v1_name v1_fault v1_faultAt v1_next = some o → G 0 0 H locs (F0 m 9 ls []) := by
    intro  k9 hk9 y1 y2 y4 v1_token v1_tokenAt v1_name v1_fault v1_faultAt v1_next H locs ls hP hD hS hl hf
    refine (hG _ _ _ _ _).mpr ?_
    unfold fX2_readTerm_o_b9 at hf
    refine lv_iload hx hb dX2_readTerm_9 (lv_at hl 3 rfl) ?_
    refine lv_sipush (v := 600) hx hb dX2_readTerm_11 (by decide +kernel) ?_
    refine lv_icmp_ge (tgt := 67) hx hb dX2_readTerm_14 (by decide) (fun cq1 => ?_) (fun cq1 => ?_)
    · replace hf := if_at hf cq1
      exact (hG _ _ _ _ _).mp (J67 y2 v1_token v1_tokenAt v1_name v1_fault v1_faultAt v1_next H locs ls (hP.sub [0, 1, 2, 3, 4] rfl) (hD.sub [0, 1, 2, 3, 4] (by decide) rfl) hS (lv_sub hl [0, 2] rfl) hf)
    · replace hf := if_no hf cq1
      refine lv_aload_n hx hb dX2_readTerm_17 rfl (lv_at hl 0 rfl) ?_
      refine va_get (D := (dC, dI)) (ci := 2) (v := .ref h1) (C := RX2) (T := TX2) (N := 7) hx hb hts inlX2 hown hK hP 0 rfl rfl 0 (by decide) w0_ (fun _ h9 => h9) rfl dX2_readTerm_18 ?_
      refine va_get (D := (dC, dI)) (ci := 4) (v := .int v1_token) (C := RX4) (T := TX4) (N := 8) hx hb hts inlX4 hown hK hP 1 rfl rfl 0 (by decide) w1_ (fun _ h9 => h9) rfl dX2_readTerm_21 ?_
      refine lv_bipush (v := 38) hx hb dX2_readTerm_24 (by decide +kernel) ?_
      refine lv_icmp_ne (tgt := 67) hx hb dX2_readTerm_26 (by decide) (fun cq2 => ?_) (fun cq2 => ?_)
      · replace hf := if_no hf cq2
        exact (hG _ _ _ _ _).mp (J67 y2 v1_token v1_tokenAt v1_name v1_fault v1_faultAt v1_next H locs ls (hP.sub [0, 1, 2, 3, 4] rfl) (hD.sub [0, 1, 2, 3, 4] (by decide) rfl) hS (lv_sub hl [0, 2] rfl) hf)
      · replace hf := if_at hf cq2
        refine lv_aload_n hx hb dX2_readTerm_29 rfl (lv_at hl 0 rfl) ?_
        refine va_get (D := (dC, dI)) (ci := 2) (v := .ref h1) (C := RX2) (T := TX2) (N := 7) hx hb hts inlX2 hown hK hP 0 rfl rfl 0 (by decide) w0_ (fun _ h9 => h9) rfl dX2_readTerm_30 ?_
        obtain ⟨o3, e3, hf⟩ := ob_some hf
        refine kVv (As := []) (rest := []) ⟨hx, hb, hml, hown, hts⟩ (mX4_advance l dC dI h1 h4 kc4 H.size base v1_token v1_tokenAt v1_name v1_fault v1_faultAt v1_size v1_next c4 o3 e3) (cwV 0 hts (gTV q672 q562 q563 q19 q564) rfl rfl rfl (by decide +kernel) ⟨(by show 4 + 1 ≤ max ((F_X2_readFactor) + 1) 5; omega), (by show 8 + (2 + 11) + 91 ≤ max ((L_X2_readFactor) + 21) 112; omega)⟩) hK hP hD hS hA hE hAB [1, 4] [0, 2, 3] [1] (wr := [(h0, .inr (2, [.ref h1, .ref h2, .ref h3, .int v0_locals, V0 4, V0 5, V0 6])), (h2, .inr (3, [V2 0, .int v2_globals, V2 2, V2 3, V2 4, V2 5, V2 6, V2 7, V2 8, V2 9, V2 10, V2 11, V2 12, V2 13, V2 14, V2 15, V2 16, V2 17])), (h3, .inl (kc3, 5, .inr (.inl c3)))]) rfl rfl (by decide) (by decide) (by decide) rfl (ci := 4) (q0 := 0) rfl rfl rfl rfl hl.1 rfl (Nat.le_of_ble_eq_true rfl) dX2_readTerm_33 ⟨Nat.zero_le _, Nat.zero_le _⟩ (fun u3 H locs hw3 hP hD hS => ?_)
        have hw31 : o3 = u3 := Eq.symm hw3
        subst hw31
        have hP : va_P (dC, dI) vwCl (wX2_readTerm h0 h1 h2 h3 h4 kc3 kc4 V0 V2 v0_locals o3.1 o3.2.1 o3.2.2.1 o3.2.2.2.1 o3.2.2.2.2.1 v1_size o3.2.2.2.2.2 v2_globals c3 c4) H := hP.sub [0, 3, 1, 2, 4] rfl
        have hD : va_D A (wX2_readTerm h0 h1 h2 h3 h4 kc3 kc4 V0 V2 v0_locals o3.1 o3.2.1 o3.2.2.1 o3.2.2.2.1 o3.2.2.2.2.1 v1_size o3.2.2.2.2.2 v2_globals c3 c4) := hD.sub [0, 3, 1, 2, 4] (by decide) rfl
        refine lv_aload_n hx hb dX2_readTerm_36 rfl (lv_at hl 0 rfl) ?_
        refine lv_iload_n hx hb dX2_readTerm_37 rfl (lv_at hl 1 rfl) ?_
        obtain ⟨o4, e4, hf⟩ := ob_some hf
        refine kVl (As := [.int y1]) (rest := []) ⟨hx, hb, hml, hown, hts⟩ (hk_X2_readFactor l dC dI h0 h1 h2 h3 h4 kc3 kc4 H.size base y1 v0_locals o3.1 o3.2.1 o3.2.2.1 o3.2.2.2.1 o3.2.2.2.2.1 v1_size o3.2.2.2.2.2 v2_globals c3 c4 V0 V2 o4 e4) (cwV 1 hts (gTV q744 q745 q746 q27 q733) rfl rfl rfl (by decide +kernel) ⟨(by show F_X2_readFactor + 1 ≤ max ((F_X2_readFactor) + 1) 5; omega), (by show 8 + (2 + 11) + L_X2_readFactor ≤ max ((L_X2_readFactor) + 21) 112; omega)⟩) hK hP hD hS hA hE hAB [0, 1, 2, 3, 4] [] [0, 1] (wr := []) rfl rfl (by decide) (by decide) (by decide) rfl (ci := 2) (q0 := 0) rfl rfl rfl rfl hl.1 rfl (Nat.le_of_ble_eq_true rfl) dX2_readTerm_38 ⟨Nat.zero_le _, Nat.zero_le _⟩ (fun r4 u4 H locs hw4 hP hD hS => ?_)
        obtain ⟨hw41, hw42⟩ := hw4
        subst hw41 hw42
        have hP : va_P (dC, dI) vwCl (wX2_readTerm h0 h1 h2 h3 h4 kc3 kc4 V0 V2 v0_locals o4.2.1 o4.2.2.1 o4.2.2.2.1 o4.2.2.2.2.1 o4.2.2.2.2.2.1 v1_size o4.2.2.2.2.2.2 v2_globals c3 c4) H := hP.sub [0, 1, 2, 3, 4] rfl
        have hD : va_D A (wX2_readTerm h0 h1 h2 h3 h4 kc3 kc4 V0 V2 v0_locals o4.2.1 o4.2.2.1 o4.2.2.2.1 o4.2.2.2.2.1 o4.2.2.2.2.2.1 v1_size o4.2.2.2.2.2.2 v2_globals c3 c4) := hD.sub [0, 1, 2, 3, 4] (by decide) rfl
        refine lv_lstore (lv' := [(5, .long o4.1), (0, .ref h0), (1, .int y1), (2, .long y2), (4, .int y4)]) hx hb dX2_readTerm_41 hl (by decide) rfl (fun ls hl => ?_)
        refine lv_lload_n hx hb dX2_readTerm_43 rfl (lv_at hl 3 rfl) ?_
        refine lv_lload hx hb dX2_readTerm_44 (lv_at hl 0 rfl) ?_
        refine lv_land hx hb dX2_readTerm_46 ?_
        refine lv_topl (fun x5 e5 => ?_)
        replace hf := nm_at hf e5
        refine lv_ldc2 (v := (-4294967296)) hx hb hown w2_ dX2_readTerm_47 ?_
        refine lv_land hx hb dX2_readTerm_50 ?_
        refine lv_topl (fun x6 e6 => ?_)
        replace hf := nm_at hf e6
        refine lv_lload_n hx hb dX2_readTerm_51 rfl (lv_at hl 3 rfl) ?_
        refine lv_lload hx hb dX2_readTerm_52 (lv_at hl 0 rfl) ?_
        refine lv_lor hx hb dX2_readTerm_54 ?_
        refine lv_topl (fun x7 e7 => ?_)
        replace hf := nm_at hf e7
        refine lv_ldc2 (v := 4294967295) hx hb hown w3_ dX2_readTerm_55 ?_
        refine lv_land hx hb dX2_readTerm_58 ?_
        refine lv_topl (fun x8 e8 => ?_)
        replace hf := nm_at hf e8
        refine lv_lor hx hb dX2_readTerm_59 ?_
        refine lv_topl (fun x9 e9 => ?_)
        replace hf := nm_at hf e9
        refine lv_lstore_n (lv' := [(2, .long x9), (5, .long o4.1), (0, .ref h0), (1, .int y1), (4, .int y4)]) hx hb dX2_readTerm_60 rfl hl (by decide) rfl (fun ls hl => ?_)
        obtain ⟨x10, e10⟩ : ∃ y : Int32, y = y4 + 1 := ⟨_, rfl⟩
        replace hf := nm_at hf e10
        refine lv_iinc (v := x10) (lv' := [(4, .int x10), (2, .long x9), (5, .long o4.1), (0, .ref h0), (1, .int y1)]) hx hb dX2_readTerm_61 hl (k := 4) rfl (by rw [e10]; rfl) (by decide) rfl (fun ls hl => ?_)
        refine lv_goto (tgt := 9) hx hb dX2_readTerm_64 (by decide) ?_
        exact (hG _ _ _ _ _).mp (hk9 y1 x9 x10 o4.2.1 o4.2.2.1 o4.2.2.2.1 o4.2.2.2.2.1 o4.2.2.2.2.2.1 o4.2.2.2.2.2.2 H locs ls (hP.sub [0, 1, 2, 3, 4] rfl) (hD.sub [0, 1, 2, 3, 4] (by decide) rfl) hS (lv_sub hl [3, 4, 1, 0] rfl) hf)
  have L9 : ∀ (n : Nat), ∀ (y1 : Int32) (y2 : Int64) (y4 : Int32) (v1_token : Int32) (v1_tokenAt : Int32) (v1_name : Int64) (v1_fault : Int32) (v1_faultAt : Int32) (v1_next : Int32) (H : Heap) (locs : List Loc) (ls : Array Slot), va_P (dC, dI) vwCl (wX2_readTerm h0 h1 h2 h3 h4 kc3 kc4 V0 V2 v0_locals v1_token v1_tokenAt v1_name v1_fault v1_faultAt v1_size v1_next v2_globals c3 c4) H → va_D A (wX2_readTerm h0 h1 h2 h3 h4 kc3 kc4 V0 V2 v0_locals v1_token v1_tokenAt v1_name v1_fault v1_faultAt v1_size v1_next v2_globals c3 c4) → va_S A s.heap H locs → lv_has ls 7 [(0, .ref h0), (1, .int y1), (2, .long y2), (4, .int y4)] → fX2_readTerm_o_l9 kf_X2_readFactor v0_locals v1_size v2_globals c3 c4  n y1 y2 y4 v1_token v1_tokenAt v1_name v1_fault v1_faultAt v1_next = some o → G 0 0 H locs (F0 m 9 ls []) := by
    intro  n
    induction n with
    | zero => intro y1 y2 y4 v1_token v1_tokenAt v1_name v1_fault v1_faultAt v1_next H locs ls _ _ _ _ hf; cases hf
    | succ n ih => exact B9  _ ih
  refine (hG _ _ _ _ _).mpr ?_
  obtain ⟨H, hH⟩ : ∃ H, H = s.heap := ⟨_, rfl⟩
  have hS : va_S A s.heap H [] := by rw [hH]; exact hS
  rw [← hH] at hP ⊢
  generalize ([] : List Loc) = locs at hS ⊢
  unfold fX2_readTerm_o at hf
  refine lv_aload_n hx hb dX2_readTerm_0 rfl (lv_at hl 0 rfl) ?_
  refine lv_iload_n hx hb dX2_readTerm_1 rfl (lv_at hl 1 rfl) ?_
  obtain ⟨o11, e11, hf⟩ := ob_some hf
  refine kVl (As := [.int a0]) (rest := []) ⟨hx, hb, hml, hown, hts⟩ (hk_X2_readFactor l dC dI h0 h1 h2 h3 h4 kc3 kc4 H.size base a0 v0_locals v1_token v1_tokenAt v1_name v1_fault v1_faultAt v1_size v1_next v2_globals c3 c4 V0 V2 o11 e11) (cwV 1 hts (gTV q744 q745 q746 q27 q733) rfl rfl rfl (by decide +kernel) ⟨(by show F_X2_readFactor + 1 ≤ max ((F_X2_readFactor) + 1) 5; omega), (by show 8 + (2 + 11) + L_X2_readFactor ≤ max ((L_X2_readFactor) + 21) 112; omega)⟩) hK hP hD hS hA hE hAB [0, 1, 2, 3, 4] [] [0, 1] (wr := []) rfl rfl (by decide) (by decide) (by decide) rfl (ci := 2) (q0 := 0) rfl rfl rfl rfl hl.1 rfl (Nat.le_of_ble_eq_true rfl) dX2_readTerm_2 ⟨Nat.zero_le _, Nat.zero_le _⟩ (fun r11 u11 H locs hw11 hP hD hS => ?_)
  obtain ⟨hw111, hw112⟩ := hw11
  subst hw111 hw112
  have hP : va_P (dC, dI) vwCl (wX2_readTerm h0 h1 h2 h3 h4 kc3 kc4 V0 V2 v0_locals o11.2.1 o11.2.2.1 o11.2.2.2.1 o11.2.2.2.2.1 o11.2.2.2.2.2.1 v1_size o11.2.2.2.2.2.2 v2_globals c3 c4) H := hP.sub [0, 1, 2, 3, 4] rfl
  have hD : va_D A (wX2_readTerm h0 h1 h2 h3 h4 kc3 kc4 V0 V2 v0_locals o11.2.1 o11.2.2.1 o11.2.2.2.1 o11.2.2.2.2.1 o11.2.2.2.2.2.1 v1_size o11.2.2.2.2.2.2 v2_globals c3 c4) := hD.sub [0, 1, 2, 3, 4] (by decide) rfl
  refine lv_lstore_n (lv' := [(2, .long o11.1), (0, .ref h0), (1, .int a0)]) hx hb dX2_readTerm_5 rfl hl (by decide) rfl (fun ls hl => ?_)
  refine lv_iconst (v := 0) hx hb dX2_readTerm_6 (by decide +kernel) ?_
  refine lv_istore (lv' := [(4, .int 0), (2, .long o11.1), (0, .ref h0), (1, .int a0)]) hx hb dX2_readTerm_7 hl (by decide) rfl (fun ls hl => ?_)
  exact (hG _ _ _ _ _).mp (L9 FU a0 o11.1 0 o11.2.1 o11.2.2.1 o11.2.2.2.1 o11.2.2.2.2.1 o11.2.2.2.2.2.1 o11.2.2.2.2.2.2 H locs ls (hP.sub [0, 1, 2, 3, 4] rfl) (hD.sub [0, 1, 2, 3, 4] (by decide) rfl) hS (lv_sub hl [2, 3, 1, 0] rfl) hf)
set_option maxHeartbeats 4000000 in
set_option maxRecDepth 100000 in
theorem mX2_readExpression_o (kf_X2_readTerm : Int32 → Int32 → Int32 → Int32 → Int64 → Int32 → Int32 → Int32 → Int32 → Int32 → (Nat → Int64) → (Nat → Int32) → Option (Int64 × Int32 × Int32 × Int64 × Int32 × Int32 × Int32)) (F_X2_readTerm L_X2_readTerm : Nat) (hk_X2_readTerm : KX2_readTerm kf_X2_readTerm F_X2_readTerm L_X2_readTerm) : KX2_readExpression (fX2_readExpression_o kf_X2_readTerm) (max ((F_X2_readTerm) + 1) 5) (max ((L_X2_readTerm) + 26) 112) := by
  intro l dC dI h0 h1 h2 h3 h4 kc3 kc4 sz base a0 v0_locals v1_token v1_tokenAt v1_name v1_fault v1_faultAt v1_size v1_next v2_globals c3 c4 V0 V2 o hf
  refine Met.ofW (cc := cX2_readExpression) (maxL := 7) (ret := (some .long)) (by decide) rfl ?_
  intro p e s m args below meth c s₁ B hml hv
  obtain ⟨rfl, hsz, hP, hK, hD0, hE⟩ := hv
  have hx := B.exec
  have hb := B.bytes
  have hr := B.returns
  have hts : ∀ w ∈ wsL_law, _ := fun w h => atoms_spec (ws := .code yX2_readExpression cX2_readExpression 7 (some .long) :: wsL_law) B.pre w (List.mem_cons_of_mem _ h)
  have hown : s.vm.findClass RX2 = some m.cls := findClass_of_methodNamed B.named
  have hlocks := B.notSynchronized
  have w0_ := hts _ q72
  have w1_ := hts _ q544
  have w2_ := hts _ q728
  have w3_ := hts _ q729
  subst hsz
  have hD := hD0.self (sz := s.heap.size)
  generalize hAe : va_A (wX2_readExpression h0 h1 h2 h3 h4 kc3 kc4 V0 V2 v0_locals v1_token v1_tokenAt v1_name v1_fault v1_faultAt v1_size v1_next v2_globals c3 c4) s.heap.size = A at hD ⊢
  have hA : ∀ q : Nat, s.heap.size ≤ q → A q := fun q h => by rw [← hAe]; exact Or.inr h
  have hAB : ∀ q : Nat, A q → base.1 ≤ q := fun q h => by rw [← hAe] at h; exact h.elim (fun ⟨k, e, hk⟩ => hD0.2 k _ hk) (fun hk => Nat.le_trans hE.1 hk)
  have hS : va_S A s.heap s.heap [] := va_S.rf
  have hl := lv_entry ([.ref h0, .int a0]) (n := 7) (Nat.le_of_ble_eq_true rfl)
  rw [lg_entry_eq]
  generalize (lg_sl ([.ref h0, .int a0]) ++ List.replicate (7 - (lg_sl ([.ref h0, .int a0])).length) Slot.unset).toArray = ls at hl ⊢
  have hl : lv_has ls 7 [(0, .ref h0), (1, .int a0)] := hl
  have hP : va_P (dC, dI) vwCl (wX2_readExpression h0 h1 h2 h3 h4 kc3 kc4 V0 V2 v0_locals v1_token v1_tokenAt v1_name v1_fault v1_faultAt v1_size v1_next v2_globals c3 c4) s.heap := hP
  refine gl_intro (fun G hG => ?_)
  have J67 : ∀ (y2 : Int64) (v1_token : Int32) (v1_tokenAt : Int32) (v1_name : Int64) (v1_fault : Int32) (v1_faultAt : Int32) (v1_next : Int32) (H : Heap) (locs : List Loc) (ls : Array Slot), va_P (dC, dI) vwCl (wX2_readExpression h0 h1 h2 h3 h4 kc3 kc4 V0 V2 v0_locals v1_token v1_tokenAt v1_name v1_fault v1_faultAt v1_size v1_next v2_globals c3 c4) H → va_D A (wX2_readExpression h0 h1 h2 h3 h4 kc3 kc4 V0 V2 v0_locals v1_token v1_tokenAt v1_name v1_fault v1_faultAt v1_size v1_next v2_globals c3 c4) → va_S A s.heap H locs → lv_has ls 7 [(0, .ref h0), (2, .long y2)] → fX2_readExpression_o_p67 kf_X2_readTerm v0_locals v1_size v2_globals c3 c4  y2 v1_token v1_tokenAt v1_name v1_fault v1_faultAt v1_next = some o → G 0 0 H locs (F0 m 67 ls []) := by
    intro  y2 v1_token v1_tokenAt v1_name v1_fault v1_faultAt v1_next H locs ls hP hD hS hl hf
    refine (hG _ _ _ _ _).mpr ?_
    unfold fX2_readExpression_o_p67 at hf
    refine lv_lload_n hx hb dX2_readExpression_67 rfl (lv_at hl 1 rfl) ?_
    have hf1 := Option.some.inj hf
    subst hf1
    have hP9 := hP.sub (ws' := (wX2_readExpression h0 h1 h2 h3 h4 kc3 kc4 V0 V2 v0_locals v1_token v1_tokenAt v1_name v1_fault v1_faultAt v1_size v1_next v2_globals c3 c4)) [0, 1, 2, 3, 4] rfl
    have hD9 := hD.sub (ws' := (wX2_readExpression h0 h1 h2 h3 h4 kc3 kc4 V0 V2 v0_locals v1_token v1_tokenAt v1_name v1_fault v1_faultAt v1_size v1_next v2_globals c3 c4)) [0, 1, 2, 3, 4] (by decide) rfl
    exact W.lret (v := y2) hx hb hr (fun t ht hW => ⟨⟨y2, (v1_token, v1_tokenAt, v1_name, v1_fault, v1_faultAt, v1_next), rfl, ⟨rfl, rfl⟩, by rw [ht]; exact hP9, va_K.moved hW.alike hK, hD9⟩, hS.F ht⟩) hS.2.2 dX2_readExpression_68
  have B9 : ∀ (k9 : Int32 → Int64 → Int32 → Int32 → Int32 → Int64 → Int32 → Int32 → Int32 → Option (Int64 × Int32 × Int32 × Int64 × Int32 × Int32 × Int32)) (hk9 : ∀ (y1 : Int32) (y2 : Int64) (y4 : Int32) (v1_token : Int32) (v1_tokenAt : Int32) (v1_name : Int64) (v1_fault : Int32) (v1_faultAt : Int32) (v1_next : Int32) (H : Heap) (locs : List Loc) (ls : Array Slot), va_P (dC, dI) vwCl (wX2_readExpression h0 h1 h2 h3 h4 kc3 kc4 V0 V2 v0_locals v1_token v1_tokenAt v1_name v1_fault v1_faultAt v1_size v1_next v2_globals c3 c4) H → va_D A (wX2_readExpression h0 h1 h2 h3 h4 kc3 kc4 V0 V2 v0_locals v1_token v1_tokenAt v1_name v1_fault v1_faultAt v1_size v1_next v2_globals c3 c4) → va_S A s.heap H locs → lv_has ls 7 [(0, .ref h0), (1, .int y1), (2, .long y2), (4, .int y4)] → k9 y1 y2 y4 v1_token v1_tokenAt v1_name v1_fault v1_faultAt v1_next = some o → G 0 0 H locs (F0 m 9 ls [])), ∀ (y1 : Int32) (y2 : Int64) (y4 : Int32) (v1_token : Int32) (v1_tokenAt : Int32) (v1_name : Int64) (v1_fault : Int32) (v1_faultAt : Int32) (v1_next : Int32) (H : Heap) (locs : List Loc) (ls : Array Slot), va_P (dC, dI) vwCl (wX2_readExpression h0 h1 h2 h3 h4 kc3 kc4 V0 V2 v0_locals v1_token v1_tokenAt v1_name v1_fault v1_faultAt v1_size v1_next v2_globals c3 c4) H → va_D A (wX2_readExpression h0 h1 h2 h3 h4 kc3 kc4 V0 V2 v0_locals v1_token v1_tokenAt v1_name v1_fault v1_faultAt v1_size v1_next v2_globals c3 c4) → va_S A s.heap H locs → lv_has ls 7 [(0, .ref h0), (1, .int y1), (2, .long y2), (4, .int y4)] → fX2_readExpression_o_b9 kf_X2_readTerm v0_locals v1_size v2_globals c3 c4  k9 y1 y2 y4 v1_token v1_tokenAt v1_name v1_fault v1_faultAt v1_next = some o → G 0 0 H locs (F0 m 9 ls []) := by
    intro  k9 hk9 y1 y2 y4 v1_token v1_tokenAt v1_name v1_fault v1_faultAt v1_next H locs ls hP hD hS hl hf
    refine (hG _ _ _ _ _).mpr ?_
    unfold fX2_readExpression_o_b9 at hf
    refine lv_iload hx hb dX2_readExpression_9 (lv_at hl 3 rfl) ?_
    refine lv_sipush (v := 600) hx hb dX2_readExpression_11 (by decide +kernel) ?_
    refine lv_icmp_ge (tgt := 67) hx hb dX2_readExpression_14 (by decide) (fun cq1 => ?_) (fun cq1 => ?_)
    · replace hf := if_at hf cq1
      exact (hG _ _ _ _ _).mp (J67 y2 v1_token v1_tokenAt v1_name v1_fault v1_faultAt v1_next H locs ls (hP.sub [0, 1, 2, 3, 4] rfl) (hD.sub [0, 1, 2, 3, 4] (by decide) rfl) hS (lv_sub hl [0, 2] rfl) hf)
    · replace hf := if_no hf cq1
      refine lv_aload_n hx hb dX2_readExpression_17 rfl (lv_at hl 0 rfl) ?_
      refine va_get (D := (dC, dI)) (ci := 2) (v := .ref h1) (C := RX2) (T := TX2) (N := 7) hx hb hts inlX2 hown hK hP 0 rfl rfl 0 (by decide) w0_ (fun _ h9 => h9) rfl dX2_readExpression_18 ?_
      refine va_get (D := (dC, dI)) (ci := 4) (v := .int v1_token) (C := RX4) (T := TX4) (N := 8) hx hb hts inlX4 hown hK hP 1 rfl rfl 0 (by decide) w1_ (fun _ h9 => h9) rfl dX2_readExpression_21 ?_
      refine lv_bipush (v := 124) hx hb dX2_readExpression_24 (by decide +kernel) ?_
      refine lv_icmp_ne (tgt := 67) hx hb dX2_readExpression_26 (by decide) (fun cq2 => ?_) (fun cq2 => ?_)
      · replace hf := if_no hf cq2
        exact (hG _ _ _ _ _).mp (J67 y2 v1_token v1_tokenAt v1_name v1_fault v1_faultAt v1_next H locs ls (hP.sub [0, 1, 2, 3, 4] rfl) (hD.sub [0, 1, 2, 3, 4] (by decide) rfl) hS (lv_sub hl [0, 2] rfl) hf)
      · replace hf := if_at hf cq2
        refine lv_aload_n hx hb dX2_readExpression_29 rfl (lv_at hl 0 rfl) ?_
        refine va_get (D := (dC, dI)) (ci := 2) (v := .ref h1) (C := RX2) (T := TX2) (N := 7) hx hb hts inlX2 hown hK hP 0 rfl rfl 0 (by decide) w0_ (fun _ h9 => h9) rfl dX2_readExpression_30 ?_
        obtain ⟨o3, e3, hf⟩ := ob_some hf
        refine kVv (As := []) (rest := []) ⟨hx, hb, hml, hown, hts⟩ (mX4_advance l dC dI h1 h4 kc4 H.size base v1_token v1_tokenAt v1_name v1_fault v1_faultAt v1_size v1_next c4 o3 e3) (cwV 0 hts (gTV q672 q562 q563 q19 q564) rfl rfl rfl (by decide +kernel) ⟨(by show 4 + 1 ≤ max ((F_X2_readTerm) + 1) 5; omega), (by show 8 + (2 + 11) + 91 ≤ max ((L_X2_readTerm) + 26) 112; omega)⟩) hK hP hD hS hA hE hAB [1, 4] [0, 2, 3] [1] (wr := [(h0, .inr (2, [.ref h1, .ref h2, .ref h3, .int v0_locals, V0 4, V0 5, V0 6])), (h2, .inr (3, [V2 0, .int v2_globals, V2 2, V2 3, V2 4, V2 5, V2 6, V2 7, V2 8, V2 9, V2 10, V2 11, V2 12, V2 13, V2 14, V2 15, V2 16, V2 17])), (h3, .inl (kc3, 5, .inr (.inl c3)))]) rfl rfl (by decide) (by decide) (by decide) rfl (ci := 4) (q0 := 0) rfl rfl rfl rfl hl.1 rfl (Nat.le_of_ble_eq_true rfl) dX2_readExpression_33 ⟨Nat.zero_le _, Nat.zero_le _⟩ (fun u3 H locs hw3 hP hD hS => ?_)
        have hw31 : o3 = u3 := Eq.symm hw3
        subst hw31
        have hP : va_P (dC, dI) vwCl (wX2_readExpression h0 h1 h2 h3 h4 kc3 kc4 V0 V2 v0_locals o3.1 o3.2.1 o3.2.2.1 o3.2.2.2.1 o3.2.2.2.2.1 v1_size o3.2.2.2.2.2 v2_globals c3 c4) H := hP.sub [0, 3, 1, 2, 4] rfl
        have hD : va_D A (wX2_readExpression h0 h1 h2 h3 h4 kc3 kc4 V0 V2 v0_locals o3.1 o3.2.1 o3.2.2.1 o3.2.2.2.1 o3.2.2.2.2.1 v1_size o3.2.2.2.2.2 v2_globals c3 c4) := hD.sub [0, 3, 1, 2, 4] (by decide) rfl
        refine lv_aload_n hx hb dX2_readExpression_36 rfl (lv_at hl 0 rfl) ?_
        refine lv_iload_n hx hb dX2_readExpression_37 rfl (lv_at hl 1 rfl) ?_
        obtain ⟨o4, e4, hf⟩ := ob_some hf
        refine kVl (As := [.int y1]) (rest := []) ⟨hx, hb, hml, hown, hts⟩ (hk_X2_readTerm l dC dI h0 h1 h2 h3 h4 kc3 kc4 H.size base y1 v0_locals o3.1 o3.2.1 o3.2.2.1 o3.2.2.2.1 o3.2.2.2.2.1 v1_size o3.2.2.2.2.2 v2_globals c3 c4 V0 V2 o4 e4) (cwV 1 hts (gTV q730 q731 q732 q27 q747) rfl rfl rfl (by decide +kernel) ⟨(by show F_X2_readTerm + 1 ≤ max ((F_X2_readTerm) + 1) 5; omega), (by show 8 + (7 + 11) + L_X2_readTerm ≤ max ((L_X2_readTerm) + 26) 112; omega)⟩) hK hP hD hS hA hE hAB [0, 1, 2, 3, 4] [] [0, 1] (wr := []) rfl rfl (by decide) (by decide) (by decide) rfl (ci := 2) (q0 := 0) rfl rfl rfl rfl hl.1 rfl (Nat.le_of_ble_eq_true rfl) dX2_readExpression_38 ⟨Nat.zero_le _, Nat.zero_le _⟩ (fun r4 u4 H locs hw4 hP hD hS => ?_)
        obtain ⟨hw41, hw42⟩ := hw4
        subst hw41 hw42
        have hP : va_P (dC, dI) vwCl (wX2_readExpression h0 h1 h2 h3 h4 kc3 kc4 V0 V2 v0_locals o4.2.1 o4.2.2.1 o4.2.2.2.1 o4.2.2.2.2.1 o4.2.2.2.2.2.1 v1_size o4.2.2.2.2.2.2 v2_globals c3 c4) H := hP.sub [0, 1, 2, 3, 4] rfl
        have hD : va_D A (wX2_readExpression h0 h1 h2 h3 h4 kc3 kc4 V0 V2 v0_locals o4.2.1 o4.2.2.1 o4.2.2.2.1 o4.2.2.2.2.1 o4.2.2.2.2.2.1 v1_size o4.2.2.2.2.2.2 v2_globals c3 c4) := hD.sub [0, 1, 2, 3, 4] (by decide) rfl
        refine lv_lstore (lv' := [(5, .long o4.1), (0, .ref h0), (1, .int y1), (2, .long y2), (4, .int y4)]) hx hb dX2_readExpression_41 hl (by decide) rfl (fun ls hl => ?_)
        refine lv_lload_n hx hb dX2_readExpression_43 rfl (lv_at hl 3 rfl) ?_
        refine lv_lload hx hb dX2_readExpression_44 (lv_at hl 0 rfl) ?_
        refine lv_land hx hb dX2_readExpression_46 ?_
        refine lv_topl (fun x5 e5 => ?_)
        replace hf := nm_at hf e5
        refine lv_ldc2 (v := 4294967295) hx hb hown w2_ dX2_readExpression_47 ?_
        refine lv_land hx hb dX2_readExpression_50 ?_
        refine lv_topl (fun x6 e6 => ?_)
        replace hf := nm_at hf e6
        refine lv_lload_n hx hb dX2_readExpression_51 rfl (lv_at hl 3 rfl) ?_
        refine lv_lload hx hb dX2_readExpression_52 (lv_at hl 0 rfl) ?_
        refine lv_lor hx hb dX2_readExpression_54 ?_
        refine lv_topl (fun x7 e7 => ?_)
        replace hf := nm_at hf e7
        refine lv_ldc2 (v := (-4294967296)) hx hb hown w3_ dX2_readExpression_55 ?_
        refine lv_land hx hb dX2_readExpression_58 ?_
        refine lv_topl (fun x8 e8 => ?_)
        replace hf := nm_at hf e8
        refine lv_lor hx hb dX2_readExpression_59 ?_
        refine lv_topl (fun x9 e9 => ?_)
        replace hf := nm_at hf e9
        refine lv_lstore_n (lv' := [(2, .long x9), (5, .long o4.1), (0, .ref h0), (1, .int y1), (4, .int y4)]) hx hb dX2_readExpression_60 rfl hl (by decide) rfl (fun ls hl => ?_)
        obtain ⟨x10, e10⟩ : ∃ y : Int32, y = y4 + 1 := ⟨_, rfl⟩
        replace hf := nm_at hf e10
        refine lv_iinc (v := x10) (lv' := [(4, .int x10), (2, .long x9), (5, .long o4.1), (0, .ref h0), (1, .int y1)]) hx hb dX2_readExpression_61 hl (k := 4) rfl (by rw [e10]; rfl) (by decide) rfl (fun ls hl => ?_)
        refine lv_goto (tgt := 9) hx hb dX2_readExpression_64 (by decide) ?_
        exact (hG _ _ _ _ _).mp (hk9 y1 x9 x10 o4.2.1 o4.2.2.1 o4.2.2.2.1 o4.2.2.2.2.1 o4.2.2.2.2.2.1 o4.2.2.2.2.2.2 H locs ls (hP.sub [0, 1, 2, 3, 4] rfl) (hD.sub [0, 1, 2, 3, 4] (by decide) rfl) hS (lv_sub hl [3, 4, 1, 0] rfl) hf)
  have L9 : ∀ (n : Nat), ∀ (y1 : Int32) (y2 : Int64) (y4 : Int32) (v1_token : Int32) (v1_tokenAt : Int32) (v1_name : Int64) (v1_fault : Int32) (v1_faultAt : Int32) (v1_next : Int32) (H : Heap) (locs : List Loc) (ls : Array Slot), va_P (dC, dI) vwCl (wX2_readExpression h0 h1 h2 h3 h4 kc3 kc4 V0 V2 v0_locals v1_token v1_tokenAt v1_name v1_fault v1_faultAt v1_size v1_next v2_globals c3 c4) H → va_D A (wX2_readExpression h0 h1 h2 h3 h4 kc3 kc4 V0 V2 v0_locals v1_token v1_tokenAt v1_name v1_fault v1_faultAt v1_size v1_next v2_globals c3 c4) → va_S A s.heap H locs → lv_has ls 7 [(0, .ref h0), (1, .int y1), (2, .long y2), (4, .int y4)] → fX2_readExpression_o_l9 kf_X2_readTerm v0_locals v1_size v2_globals c3 c4  n y1 y2 y4 v1_token v1_tokenAt v1_name v1_fault v1_faultAt v1_next = some o → G 0 0 H locs (F0 m 9 ls []) := by
    intro  n
    induction n with
    | zero => intro y1 y2 y4 v1_token v1_tokenAt v1_name v1_fault v1_faultAt v1_next H locs ls _ _ _ _ hf; cases hf
    | succ n ih => exact B9  _ ih
  refine (hG _ _ _ _ _).mpr ?_
  obtain ⟨H, hH⟩ : ∃ H, H = s.heap := ⟨_, rfl⟩
  have hS : va_S A s.heap H [] := by rw [hH]; exact hS
  rw [← hH] at hP ⊢
  generalize ([] : List Loc) = locs at hS ⊢
  unfold fX2_readExpression_o at hf
  refine lv_aload_n hx hb dX2_readExpression_0 rfl (lv_at hl 0 rfl) ?_
  refine lv_iload_n hx hb dX2_readExpression_1 rfl (lv_at hl 1 rfl) ?_
  obtain ⟨o11, e11, hf⟩ := ob_some hf
  refine kVl (As := [.int a0]) (rest := []) ⟨hx, hb, hml, hown, hts⟩ (hk_X2_readTerm l dC dI h0 h1 h2 h3 h4 kc3 kc4 H.size base a0 v0_locals v1_token v1_tokenAt v1_name v1_fault v1_faultAt v1_size v1_next v2_globals c3 c4 V0 V2 o11 e11) (cwV 1 hts (gTV q730 q731 q732 q27 q747) rfl rfl rfl (by decide +kernel) ⟨(by show F_X2_readTerm + 1 ≤ max ((F_X2_readTerm) + 1) 5; omega), (by show 8 + (7 + 11) + L_X2_readTerm ≤ max ((L_X2_readTerm) + 26) 112; omega)⟩) hK hP hD hS hA hE hAB [0, 1, 2, 3, 4] [] [0, 1] (wr := []) rfl rfl (by decide) (by decide) (by decide) rfl (ci := 2) (q0 := 0) rfl rfl rfl rfl hl.1 rfl (Nat.le_of_ble_eq_true rfl) dX2_readExpression_2 ⟨Nat.zero_le _, Nat.zero_le _⟩ (fun r11 u11 H locs hw11 hP hD hS => ?_)
  obtain ⟨hw111, hw112⟩ := hw11
  subst hw111 hw112
  have hP : va_P (dC, dI) vwCl (wX2_readExpression h0 h1 h2 h3 h4 kc3 kc4 V0 V2 v0_locals o11.2.1 o11.2.2.1 o11.2.2.2.1 o11.2.2.2.2.1 o11.2.2.2.2.2.1 v1_size o11.2.2.2.2.2.2 v2_globals c3 c4) H := hP.sub [0, 1, 2, 3, 4] rfl
  have hD : va_D A (wX2_readExpression h0 h1 h2 h3 h4 kc3 kc4 V0 V2 v0_locals o11.2.1 o11.2.2.1 o11.2.2.2.1 o11.2.2.2.2.1 o11.2.2.2.2.2.1 v1_size o11.2.2.2.2.2.2 v2_globals c3 c4) := hD.sub [0, 1, 2, 3, 4] (by decide) rfl
  refine lv_lstore_n (lv' := [(2, .long o11.1), (0, .ref h0), (1, .int a0)]) hx hb dX2_readExpression_5 rfl hl (by decide) rfl (fun ls hl => ?_)
  refine lv_iconst (v := 0) hx hb dX2_readExpression_6 (by decide +kernel) ?_
  refine lv_istore (lv' := [(4, .int 0), (2, .long o11.1), (0, .ref h0), (1, .int a0)]) hx hb dX2_readExpression_7 hl (by decide) rfl (fun ls hl => ?_)
  exact (hG _ _ _ _ _).mp (L9 FU a0 o11.1 0 o11.2.1 o11.2.2.1 o11.2.2.2.1 o11.2.2.2.2.1 o11.2.2.2.2.2.1 o11.2.2.2.2.2.2 H locs ls (hP.sub [0, 1, 2, 3, 4] rfl) (hD.sub [0, 1, 2, 3, 4] (by decide) rfl) hS (lv_sub hl [2, 3, 1, 0] rfl) hf)
set_option maxHeartbeats 4000000 in
set_option maxRecDepth 100000 in
theorem mX2_readNested_o (kf_X2_readExpression : Int32 → Int32 → Int32 → Int32 → Int64 → Int32 → Int32 → Int32 → Int32 → Int32 → (Nat → Int64) → (Nat → Int32) → Option (Int64 × Int32 × Int32 × Int64 × Int32 × Int32 × Int32)) (F_X2_readExpression L_X2_readExpression : Nat) (hk_X2_readExpression : KX2_readExpression kf_X2_readExpression F_X2_readExpression L_X2_readExpression) (kf_X2_readFactor : Int32 → Int32 → Int32 → Int32 → Int64 → Int32 → Int32 → Int32 → Int32 → Int32 → (Nat → Int64) → (Nat → Int32) → Option (Int64 × Int32 × Int32 × Int64 × Int32 × Int32 × Int32)) (F_X2_readFactor L_X2_readFactor : Nat) (hk_X2_readFactor : KX2_readFactor kf_X2_readFactor F_X2_readFactor L_X2_readFactor) : KX2_readNested (fX2_readNested_o kf_X2_readExpression kf_X2_readFactor) (max (max (F_X2_readExpression) (F_X2_readFactor) + 1) 6) (max (max (L_X2_readExpression) (L_X2_readFactor) + 26) 133) := by
  intro l dC dI h0 h1 h2 h3 h4 kc2 kc4 sz base a0 v0_locals v1_token v1_tokenAt v1_name v1_fault v1_faultAt v1_size v1_next c2 v3_globals c4 V0 V3 o hf
  refine Met.ofW (cc := cX2_readNested) (maxL := 5) (ret := (some .long)) (by decide) rfl ?_
  intro p e s m args below meth c s₁ B hml hv
  obtain ⟨rfl, hsz, hP, hK, hD0, hE⟩ := hv
  have hx := B.exec
  have hb := B.bytes
  have hr := B.returns
  have hts : ∀ w ∈ wsL_law, _ := fun w h => atoms_spec (ws := .code yX2_readNested cX2_readNested 5 (some .long) :: wsL_law) B.pre w (List.mem_cons_of_mem _ h)
  have hown : s.vm.findClass RX2 = some m.cls := findClass_of_methodNamed B.named
  have hlocks := B.notSynchronized
  have w0_ := hts _ q72
  have w1_ := hts _ q544
  subst hsz
  have hD := hD0.self (sz := s.heap.size)
  generalize hAe : va_A (wX2_readNested h0 h1 h2 h3 h4 kc2 kc4 V0 V3 v0_locals v1_token v1_tokenAt v1_name v1_fault v1_faultAt v1_size v1_next c2 v3_globals c4) s.heap.size = A at hD ⊢
  have hA : ∀ q : Nat, s.heap.size ≤ q → A q := fun q h => by rw [← hAe]; exact Or.inr h
  have hAB : ∀ q : Nat, A q → base.1 ≤ q := fun q h => by rw [← hAe] at h; exact h.elim (fun ⟨k, e, hk⟩ => hD0.2 k _ hk) (fun hk => Nat.le_trans hE.1 hk)
  have hS : va_S A s.heap s.heap [] := va_S.rf
  have hl := lv_entry ([.ref h0, .int a0]) (n := 5) (Nat.le_of_ble_eq_true rfl)
  rw [lg_entry_eq]
  generalize (lg_sl ([.ref h0, .int a0]) ++ List.replicate (5 - (lg_sl ([.ref h0, .int a0])).length) Slot.unset).toArray = ls at hl ⊢
  have hl : lv_has ls 5 [(0, .ref h0), (1, .int a0)] := hl
  have hP : va_P (dC, dI) vwCl (wX2_readNested h0 h1 h2 h3 h4 kc2 kc4 V0 V3 v0_locals v1_token v1_tokenAt v1_name v1_fault v1_faultAt v1_size v1_next c2 v3_globals c4) s.heap := hP
  refine gl_intro (fun G hG => ?_)
  have J33 : ∀ (y1 : Int32) (z0 : Int32) (v1_token : Int32) (v1_tokenAt : Int32) (v1_name : Int64) (v1_fault : Int32) (v1_faultAt : Int32) (v1_next : Int32) (H : Heap) (locs : List Loc) (ls : Array Slot), va_P (dC, dI) vwCl (wX2_readNested h0 h1 h2 h3 h4 kc2 kc4 V0 V3 v0_locals v1_token v1_tokenAt v1_name v1_fault v1_faultAt v1_size v1_next c2 v3_globals c4) H → va_D A (wX2_readNested h0 h1 h2 h3 h4 kc2 kc4 V0 V3 v0_locals v1_token v1_tokenAt v1_name v1_fault v1_faultAt v1_size v1_next c2 v3_globals c4) → va_S A s.heap H locs → lv_has ls 5 [(0, .ref h0), (1, .int y1)] → fX2_readNested_o_p33 kf_X2_readExpression kf_X2_readFactor v0_locals v1_size c2 v3_globals c4  y1 z0 v1_token v1_tokenAt v1_name v1_fault v1_faultAt v1_next = some o → G 0 0 H locs (F0 m 33 ls [.int z0]) := by
    intro  y1 z0 v1_token v1_tokenAt v1_name v1_fault v1_faultAt v1_next H locs ls hP hD hS hl hf
    refine (hG _ _ _ _ _).mpr ?_
    unfold fX2_readNested_o_p33 at hf
    refine lv_istore_n (lv' := [(2, .int z0), (0, .ref h0), (1, .int y1)]) hx hb dX2_readNested_33 rfl hl (by decide) rfl (fun ls hl => ?_)
    refine lv_aload_n hx hb dX2_readNested_34 rfl (lv_at hl 1 rfl) ?_
    refine va_get (D := (dC, dI)) (ci := 2) (v := .ref h1) (C := RX2) (T := TX2) (N := 7) hx hb hts inlX2 hown hK hP 0 rfl rfl 0 (by decide) w0_ (fun _ h9 => h9) rfl dX2_readNested_35 ?_
    obtain ⟨o1, e1, hf⟩ := ob_some hf
    refine kVv (As := []) (rest := []) ⟨hx, hb, hml, hown, hts⟩ (mX4_advance l dC dI h1 h2 kc2 H.size base v1_token v1_tokenAt v1_name v1_fault v1_faultAt v1_size v1_next c2 o1 e1) (cwV 0 hts (gTV q672 q562 q563 q19 q564) rfl rfl rfl (by decide +kernel) ⟨(by show 4 + 1 ≤ max (max (F_X2_readExpression) (F_X2_readFactor) + 1) 6; omega), (by show 8 + (2 + 11) + 91 ≤ max (max (L_X2_readExpression) (L_X2_readFactor) + 26) 133; omega)⟩) hK hP hD hS hA hE hAB [1, 2] [0, 3, 4] [0] (wr := [(h0, .inr (2, [.ref h1, .ref h3, .ref h4, .int v0_locals, V0 4, V0 5, V0 6])), (h3, .inr (3, [V3 0, .int v3_globals, V3 2, V3 3, V3 4, V3 5, V3 6, V3 7, V3 8, V3 9, V3 10, V3 11, V3 12, V3 13, V3 14, V3 15, V3 16, V3 17])), (h4, .inl (kc4, 5, .inr (.inl c4)))]) rfl rfl (by decide) (by decide) (by decide) rfl (ci := 4) (q0 := 0) rfl rfl rfl rfl hl.1 rfl (Nat.le_of_ble_eq_true rfl) dX2_readNested_38 ⟨Nat.zero_le _, Nat.zero_le _⟩ (fun u1 H locs hw1 hP hD hS => ?_)
    have hw11 : o1 = u1 := Eq.symm hw1
    subst hw11
    have hP : va_P (dC, dI) vwCl (wX2_readNested h0 h1 h2 h3 h4 kc2 kc4 V0 V3 v0_locals o1.1 o1.2.1 o1.2.2.1 o1.2.2.2.1 o1.2.2.2.2.1 v1_size o1.2.2.2.2.2 c2 v3_globals c4) H := hP.sub [0, 3, 4, 1, 2] rfl
    have hD : va_D A (wX2_readNested h0 h1 h2 h3 h4 kc2 kc4 V0 V3 v0_locals o1.1 o1.2.1 o1.2.2.1 o1.2.2.2.1 o1.2.2.2.2.1 v1_size o1.2.2.2.2.2 c2 v3_globals c4) := hD.sub [0, 3, 4, 1, 2] (by decide) rfl
    refine lv_iload_n hx hb dX2_readNested_41 rfl (lv_at hl 0 rfl) ?_
    refine lv_if_eq (tgt := 63) hx hb dX2_readNested_42 (by decide) (fun cq2 => ?_) (fun cq2 => ?_)
    · replace hf := if_at hf cq2
      refine lv_aload_n hx hb dX2_readNested_63 rfl (lv_at hl 1 rfl) ?_
      refine lv_iload_n hx hb dX2_readNested_64 rfl (lv_at hl 2 rfl) ?_
      refine lv_iconst (v := 1) hx hb dX2_readNested_65 (by decide +kernel) ?_
      refine lv_iadd hx hb dX2_readNested_66 ?_
      refine lv_topi (fun x3 e3 => ?_)
      replace hf := nm_at hf e3
      obtain ⟨o4, e4, hf⟩ := ob_some hf
      refine kVl (As := [.int x3]) (rest := []) ⟨hx, hb, hml, hown, hts⟩ (hk_X2_readExpression l dC dI h0 h1 h3 h4 h2 kc4 kc2 H.size base x3 v0_locals o1.1 o1.2.1 o1.2.2.1 o1.2.2.2.1 o1.2.2.2.2.1 v1_size o1.2.2.2.2.2 v3_globals c4 c2 V0 V3 o4 e4) (cwV 1 hts (gTV q724 q725 q726 q27 q727) rfl rfl rfl (by decide +kernel) ⟨(by show F_X2_readExpression + 1 ≤ max (max (F_X2_readExpression) (F_X2_readFactor) + 1) 6; omega), (by show 8 + (7 + 11) + L_X2_readExpression ≤ max (max (L_X2_readExpression) (L_X2_readFactor) + 26) 133; omega)⟩) hK hP hD hS hA hE hAB [0, 1, 3, 4, 2] [] [1, 0] (wr := []) rfl rfl (by decide) (by decide) (by decide) rfl (ci := 2) (q0 := 0) rfl rfl rfl rfl hl.1 rfl (Nat.le_of_ble_eq_true rfl) dX2_readNested_67 ⟨Nat.zero_le _, Nat.zero_le _⟩ (fun r4 u4 H locs hw4 hP hD hS => ?_)
      obtain ⟨hw41, hw42⟩ := hw4
      subst hw41 hw42
      have hP : va_P (dC, dI) vwCl (wX2_readNested h0 h1 h2 h3 h4 kc2 kc4 V0 V3 v0_locals o4.2.1 o4.2.2.1 o4.2.2.2.1 o4.2.2.2.2.1 o4.2.2.2.2.2.1 v1_size o4.2.2.2.2.2.2 c2 v3_globals c4) H := hP.sub [0, 1, 4, 2, 3] rfl
      have hD : va_D A (wX2_readNested h0 h1 h2 h3 h4 kc2 kc4 V0 V3 v0_locals o4.2.1 o4.2.2.1 o4.2.2.2.1 o4.2.2.2.2.1 o4.2.2.2.2.2.1 v1_size o4.2.2.2.2.2.2 c2 v3_globals c4) := hD.sub [0, 1, 4, 2, 3] (by decide) rfl
      refine lv_lstore_n (lv' := [(3, .long o4.1), (2, .int z0), (0, .ref h0), (1, .int y1)]) hx hb dX2_readNested_70 rfl hl (by decide) rfl (fun ls hl => ?_)
      refine lv_aload_n hx hb dX2_readNested_71 rfl (lv_at hl 2 rfl) ?_
      refine va_get (D := (dC, dI)) (ci := 2) (v := .ref h1) (C := RX2) (T := TX2) (N := 7) hx hb hts inlX2 hown hK hP 0 rfl rfl 0 (by decide) w0_ (fun _ h9 => h9) rfl dX2_readNested_72 ?_
      refine lv_bipush (v := 41) hx hb dX2_readNested_75 (by decide +kernel) ?_
      obtain ⟨o5, e5, hf⟩ := ob_some hf
      refine kVi (As := [.int 41]) (rest := []) ⟨hx, hb, hml, hown, hts⟩ (mX4_skipToken l dC dI h1 h2 kc2 H.size base 41 o4.2.1 o4.2.2.1 o4.2.2.2.1 o4.2.2.2.2.1 o4.2.2.2.2.2.1 v1_size o4.2.2.2.2.2.2 c2 o5 e5) (cwV 1 hts (gTV q687 q688 q689 q19 q690) rfl rfl rfl (by decide +kernel) ⟨(by show 5 + 1 ≤ max (max (F_X2_readExpression) (F_X2_readFactor) + 1) 6; omega), (by show 8 + (2 + 11) + 112 ≤ max (max (L_X2_readExpression) (L_X2_readFactor) + 26) 133; omega)⟩) hK hP hD hS hA hE hAB [1, 2] [0, 3, 4] [0] (wr := [(h0, .inr (2, [.ref h1, .ref h3, .ref h4, .int v0_locals, V0 4, V0 5, V0 6])), (h3, .inr (3, [V3 0, .int v3_globals, V3 2, V3 3, V3 4, V3 5, V3 6, V3 7, V3 8, V3 9, V3 10, V3 11, V3 12, V3 13, V3 14, V3 15, V3 16, V3 17])), (h4, .inl (kc4, 5, .inr (.inl c4)))]) rfl rfl (by decide) (by decide) (by decide) rfl (ci := 4) (q0 := 0) rfl rfl rfl rfl hl.1 rfl (Nat.le_of_ble_eq_true rfl) dX2_readNested_77 ⟨Nat.zero_le _, Nat.zero_le _⟩ (fun r5 u5 H locs hw5 hP hD hS => ?_)
      obtain ⟨hw51, hw52⟩ := hw5
      subst hw51 hw52
      have hP : va_P (dC, dI) vwCl (wX2_readNested h0 h1 h2 h3 h4 kc2 kc4 V0 V3 v0_locals o5.2.1 o5.2.2.1 o5.2.2.2.1 o5.2.2.2.2.1 o5.2.2.2.2.2.1 v1_size o5.2.2.2.2.2.2 c2 v3_globals c4) H := hP.sub [0, 3, 4, 1, 2] rfl
      have hD : va_D A (wX2_readNested h0 h1 h2 h3 h4 kc2 kc4 V0 V3 v0_locals o5.2.1 o5.2.2.1 o5.2.2.2.1 o5.2.2.2.2.1 o5.2.2.2.2.2.1 v1_size o5.2.2.2.2.2.2 c2 v3_globals c4) := hD.sub [0, 3, 4, 1, 2] (by decide) rfl
      refine lv_pop hx hb dX2_readNested_80 rfl ?_
      refine lv_lload_n hx hb dX2_readNested_81 rfl (lv_at hl 0 rfl) ?_
      have hf1 := Option.some.inj hf
      subst hf1
      have hP9 := hP.sub (ws' := (wX2_readNested h0 h1 h2 h3 h4 kc2 kc4 V0 V3 v0_locals o5.2.1 o5.2.2.1 o5.2.2.2.1 o5.2.2.2.2.1 o5.2.2.2.2.2.1 v1_size o5.2.2.2.2.2.2 c2 v3_globals c4)) [0, 1, 2, 3, 4] rfl
      have hD9 := hD.sub (ws' := (wX2_readNested h0 h1 h2 h3 h4 kc2 kc4 V0 V3 v0_locals o5.2.1 o5.2.2.1 o5.2.2.2.1 o5.2.2.2.2.1 o5.2.2.2.2.2.1 v1_size o5.2.2.2.2.2.2 c2 v3_globals c4)) [0, 1, 2, 3, 4] (by decide) rfl
      exact W.lret (v := o4.1) hx hb hr (fun t ht hW => ⟨⟨o4.1, (o5.2.1, o5.2.2.1, o5.2.2.2.1, o5.2.2.2.2.1, o5.2.2.2.2.2.1, o5.2.2.2.2.2.2), rfl, ⟨rfl, rfl⟩, by rw [ht]; exact hP9, va_K.moved hW.alike hK, hD9⟩, hS.F ht⟩) hS.2.2 dX2_readNested_82
    · replace hf := if_no hf cq2
      refine lv_aload_n hx hb dX2_readNested_45 rfl (lv_at hl 1 rfl) ?_
      refine lv_iload_n hx hb dX2_readNested_46 rfl (lv_at hl 2 rfl) ?_
      refine lv_iconst (v := 1) hx hb dX2_readNested_47 (by decide +kernel) ?_
      refine lv_iadd hx hb dX2_readNested_48 ?_
      refine lv_topi (fun x6 e6 => ?_)
      replace hf := nm_at hf e6
      obtain ⟨o7, e7, hf⟩ := ob_some hf
      refine kVl (As := [.int x6]) (rest := []) ⟨hx, hb, hml, hown, hts⟩ (hk_X2_readFactor l dC dI h0 h1 h3 h4 h2 kc4 kc2 H.size base x6 v0_locals o1.1 o1.2.1 o1.2.2.1 o1.2.2.2.1 o1.2.2.2.2.1 v1_size o1.2.2.2.2.2 v3_globals c4 c2 V0 V3 o7 e7) (cwV 1 hts (gTV q744 q745 q746 q27 q733) rfl rfl rfl (by decide +kernel) ⟨(by show F_X2_readFactor + 1 ≤ max (max (F_X2_readExpression) (F_X2_readFactor) + 1) 6; omega), (by show 8 + (2 + 11) + L_X2_readFactor ≤ max (max (L_X2_readExpression) (L_X2_readFactor) + 26) 133; omega)⟩) hK hP hD hS hA hE hAB [0, 1, 3, 4, 2] [] [1, 0] (wr := []) rfl rfl (by decide) (by decide) (by decide) rfl (ci := 2) (q0 := 0) rfl rfl rfl rfl hl.1 rfl (Nat.le_of_ble_eq_true rfl) dX2_readNested_49 ⟨Nat.zero_le _, Nat.zero_le _⟩ (fun r7 u7 H locs hw7 hP hD hS => ?_)
      obtain ⟨hw71, hw72⟩ := hw7
      subst hw71 hw72
      have hP : va_P (dC, dI) vwCl (wX2_readNested h0 h1 h2 h3 h4 kc2 kc4 V0 V3 v0_locals o7.2.1 o7.2.2.1 o7.2.2.2.1 o7.2.2.2.2.1 o7.2.2.2.2.2.1 v1_size o7.2.2.2.2.2.2 c2 v3_globals c4) H := hP.sub [0, 1, 4, 2, 3] rfl
      have hD : va_D A (wX2_readNested h0 h1 h2 h3 h4 kc2 kc4 V0 V3 v0_locals o7.2.1 o7.2.2.1 o7.2.2.2.1 o7.2.2.2.2.1 o7.2.2.2.2.2.1 v1_size o7.2.2.2.2.2.2 c2 v3_globals c4) := hD.sub [0, 1, 4, 2, 3] (by decide) rfl
      refine lv_lstore_n (lv' := [(3, .long o7.1), (2, .int z0), (0, .ref h0), (1, .int y1)]) hx hb dX2_readNested_52 rfl hl (by decide) rfl (fun ls hl => ?_)
      refine lv_lload_n hx hb dX2_readNested_53 rfl (lv_at hl 0 rfl) ?_
      refine lv_bipush (v := 32) hx hb dX2_readNested_54 (by decide +kernel) ?_
      refine lv_lshl hx hb dX2_readNested_56 rfl ?_
      refine lv_topl (fun x8 e8 => ?_)
      replace hf := nm_at hf e8
      refine lv_lload_n hx hb dX2_readNested_57 rfl (lv_at hl 0 rfl) ?_
      refine lv_bipush (v := 32) hx hb dX2_readNested_58 (by decide +kernel) ?_
      refine lv_lushr hx hb dX2_readNested_60 rfl ?_
      refine lv_topl (fun x9 e9 => ?_)
      replace hf := nm_at hf e9
      refine lv_lor hx hb dX2_readNested_61 ?_
      refine lv_topl (fun x10 e10 => ?_)
      replace hf := nm_at hf e10
      have hf1 := Option.some.inj hf
      subst hf1
      have hP9 := hP.sub (ws' := (wX2_readNested h0 h1 h2 h3 h4 kc2 kc4 V0 V3 v0_locals o7.2.1 o7.2.2.1 o7.2.2.2.1 o7.2.2.2.2.1 o7.2.2.2.2.2.1 v1_size o7.2.2.2.2.2.2 c2 v3_globals c4)) [0, 1, 2, 3, 4] rfl
      have hD9 := hD.sub (ws' := (wX2_readNested h0 h1 h2 h3 h4 kc2 kc4 V0 V3 v0_locals o7.2.1 o7.2.2.1 o7.2.2.2.1 o7.2.2.2.2.1 o7.2.2.2.2.2.1 v1_size o7.2.2.2.2.2.2 c2 v3_globals c4)) [0, 1, 2, 3, 4] (by decide) rfl
      exact W.lret (v := x10) hx hb hr (fun t ht hW => ⟨⟨x10, (o7.2.1, o7.2.2.1, o7.2.2.2.1, o7.2.2.2.2.1, o7.2.2.2.2.2.1, o7.2.2.2.2.2.2), rfl, ⟨rfl, rfl⟩, by rw [ht]; exact hP9, va_K.moved hW.alike hK, hD9⟩, hS.F ht⟩) hS.2.2 dX2_readNested_62
  refine (hG _ _ _ _ _).mpr ?_
  obtain ⟨H, hH⟩ : ∃ H, H = s.heap := ⟨_, rfl⟩
  have hS : va_S A s.heap H [] := by rw [hH]; exact hS
  rw [← hH] at hP ⊢
  generalize ([] : List Loc) = locs at hS ⊢
  unfold fX2_readNested_o at hf
  refine lv_iload_n hx hb dX2_readNested_0 rfl (lv_at hl 1 rfl) ?_
  refine lv_bipush (v := 10) hx hb dX2_readNested_1 (by decide +kernel) ?_
  refine lv_icmp_lt (tgt := 16) hx hb dX2_readNested_3 (by decide) (fun cq11 => ?_) (fun cq11 => ?_)
  · replace hf := if_at hf cq11
    refine lv_aload_n hx hb dX2_readNested_16 rfl (lv_at hl 0 rfl) ?_
    refine va_get (D := (dC, dI)) (ci := 2) (v := .ref h1) (C := RX2) (T := TX2) (N := 7) hx hb hts inlX2 hown hK hP 0 rfl rfl 0 (by decide) w0_ (fun _ h9 => h9) rfl dX2_readNested_17 ?_
    refine va_get (D := (dC, dI)) (ci := 4) (v := .int v1_token) (C := RX4) (T := TX4) (N := 8) hx hb hts inlX4 hown hK hP 1 rfl rfl 0 (by decide) w1_ (fun _ h9 => h9) rfl dX2_readNested_20 ?_
    refine lv_bipush (v := 33) hx hb dX2_readNested_23 (by decide +kernel) ?_
    refine lv_icmp_ne (tgt := 32) hx hb dX2_readNested_25 (by decide) (fun cq12 => ?_) (fun cq12 => ?_)
    · replace hf := if_no hf cq12
      refine lv_iconst (v := 0) hx hb dX2_readNested_32 (by decide +kernel) ?_
      exact (hG _ _ _ _ _).mp (J33 a0 0 v1_token v1_tokenAt v1_name v1_fault v1_faultAt v1_next H locs ls (hP.sub [0, 1, 2, 3, 4] rfl) (hD.sub [0, 1, 2, 3, 4] (by decide) rfl) hS (lv_sub hl [0, 1] rfl) hf)
    · replace hf := if_at hf cq12
      refine lv_iconst (v := 1) hx hb dX2_readNested_28 (by decide +kernel) ?_
      refine lv_goto (tgt := 33) hx hb dX2_readNested_29 (by decide) ?_
      exact (hG _ _ _ _ _).mp (J33 a0 1 v1_token v1_tokenAt v1_name v1_fault v1_faultAt v1_next H locs ls (hP.sub [0, 1, 2, 3, 4] rfl) (hD.sub [0, 1, 2, 3, 4] (by decide) rfl) hS (lv_sub hl [0, 1] rfl) hf)
  · replace hf := if_no hf cq11
    refine lv_aload_n hx hb dX2_readNested_6 rfl (lv_at hl 0 rfl) ?_
    refine va_get (D := (dC, dI)) (ci := 2) (v := .ref h1) (C := RX2) (T := TX2) (N := 7) hx hb hts inlX2 hown hK hP 0 rfl rfl 0 (by decide) w0_ (fun _ h9 => h9) rfl dX2_readNested_7 ?_
    refine lv_iconst (v := 3) hx hb dX2_readNested_10 (by decide +kernel) ?_
    obtain ⟨o13, e13, hf⟩ := ob_some hf
    refine kVv (As := [.int 3]) (rest := []) ⟨hx, hb, hml, hown, hts⟩ (mX4_failHere l dC dI h1 H.size base 3 v1_token v1_tokenAt v1_fault v1_faultAt (fun k => match k with | 2 => .long v1_name | 5 => .ref h2 | 6 => .int v1_size | 7 => .int v1_next | _ => .null) o13 e13) (cwV 1 hts (gTV q679 q680 q681 q19 q682) rfl rfl rfl (by decide +kernel) ⟨(by show 1 + 1 ≤ max (max (F_X2_readExpression) (F_X2_readFactor) + 1) 6; omega), (by show 8 + (2 + 11) + 22 ≤ max (max (L_X2_readExpression) (L_X2_readFactor) + 26) 133; omega)⟩) hK hP hD hS hA hE hAB [1] [0, 2, 3, 4] [] (wr := [(h0, .inr (2, [.ref h1, .ref h3, .ref h4, .int v0_locals, V0 4, V0 5, V0 6])), (h2, .inl (kc2, 600, .inl c2)), (h3, .inr (3, [V3 0, .int v3_globals, V3 2, V3 3, V3 4, V3 5, V3 6, V3 7, V3 8, V3 9, V3 10, V3 11, V3 12, V3 13, V3 14, V3 15, V3 16, V3 17])), (h4, .inl (kc4, 5, .inr (.inl c4)))]) rfl rfl (by decide) (by decide) (by decide) rfl (ci := 4) (q0 := 0) rfl rfl rfl rfl hl.1 rfl (Nat.le_of_ble_eq_true rfl) dX2_readNested_11 ⟨Nat.zero_le _, Nat.zero_le _⟩ (fun u13 H locs hw13 hP hD hS => ?_)
    have hw131 : o13 = u13 := Eq.symm hw13
    subst hw131
    have hP : va_P (dC, dI) vwCl (wX2_readNested h0 h1 h2 h3 h4 kc2 kc4 V0 V3 v0_locals o13.1 v1_tokenAt v1_name o13.2.1 o13.2.2 v1_size v1_next c2 v3_globals c4) H := hP.sub [0, 4, 1, 2, 3] rfl
    have hD : va_D A (wX2_readNested h0 h1 h2 h3 h4 kc2 kc4 V0 V3 v0_locals o13.1 v1_tokenAt v1_name o13.2.1 o13.2.2 v1_size v1_next c2 v3_globals c4) := hD.sub [0, 4, 1, 2, 3] (by decide) rfl
    refine lv_lconst (v := 0) hx hb dX2_readNested_14 (by decide) ?_
    have hf1 := Option.some.inj hf
    subst hf1
    have hP9 := hP.sub (ws' := (wX2_readNested h0 h1 h2 h3 h4 kc2 kc4 V0 V3 v0_locals o13.1 v1_tokenAt v1_name o13.2.1 o13.2.2 v1_size v1_next c2 v3_globals c4)) [0, 1, 2, 3, 4] rfl
    have hD9 := hD.sub (ws' := (wX2_readNested h0 h1 h2 h3 h4 kc2 kc4 V0 V3 v0_locals o13.1 v1_tokenAt v1_name o13.2.1 o13.2.2 v1_size v1_next c2 v3_globals c4)) [0, 1, 2, 3, 4] (by decide) rfl
    exact W.lret (v := 0) hx hb hr (fun t ht hW => ⟨⟨0, (o13.1, v1_tokenAt, v1_name, o13.2.1, o13.2.2, v1_next), rfl, ⟨rfl, rfl⟩, by rw [ht]; exact hP9, va_K.moved hW.alike hK, hD9⟩, hS.F ht⟩) hS.2.2 dX2_readNested_15
set_option maxHeartbeats 4000000 in
set_option maxRecDepth 100000 in
theorem mX2_readFactor_o (kf_X2_readNested : Int32 → Int32 → Int32 → Int32 → Int64 → Int32 → Int32 → Int32 → Int32 → (Nat → Int32) → Int32 → (Nat → Int64) → Option (Int64 × Int32 × Int32 × Int64 × Int32 × Int32 × Int32)) (F_X2_readNested L_X2_readNested : Nat) (hk_X2_readNested : KX2_readNested kf_X2_readNested F_X2_readNested L_X2_readNested) : KX2_readFactor (fX2_readFactor_o kf_X2_readNested) (max ((F_X2_readNested) + 1) 6) (max ((L_X2_readNested) + 24) 135) := by
  intro l dC dI h0 h1 h2 h3 h4 kc3 kc4 sz base a0 v0_locals v1_token v1_tokenAt v1_name v1_fault v1_faultAt v1_size v1_next v2_globals c3 c4 V0 V2 o hf
  refine Met.ofW (cc := cX2_readFactor) (maxL := 2) (ret := (some .long)) (by decide) rfl ?_
  intro p e s m args below meth c s₁ B hml hv
  obtain ⟨rfl, hsz, hP, hK, hD0, hE⟩ := hv
  have hx := B.exec
  have hb := B.bytes
  have hr := B.returns
  have hts : ∀ w ∈ wsL_law, _ := fun w h => atoms_spec (ws := .code yX2_readFactor cX2_readFactor 2 (some .long) :: wsL_law) B.pre w (List.mem_cons_of_mem _ h)
  have hown : s.vm.findClass RX2 = some m.cls := findClass_of_methodNamed B.named
  have hlocks := B.notSynchronized
  have w0_ := hts _ q72
  have w1_ := hts _ q544
  have w2_ := hts _ q734
  have w3_ := hts _ q728
  have w4_ := hts _ q729
  subst hsz
  have hD := hD0.self (sz := s.heap.size)
  generalize hAe : va_A (wX2_readFactor h0 h1 h2 h3 h4 kc3 kc4 V0 V2 v0_locals v1_token v1_tokenAt v1_name v1_fault v1_faultAt v1_size v1_next v2_globals c3 c4) s.heap.size = A at hD ⊢
  have hA : ∀ q : Nat, s.heap.size ≤ q → A q := fun q h => by rw [← hAe]; exact Or.inr h
  have hAB : ∀ q : Nat, A q → base.1 ≤ q := fun q h => by rw [← hAe] at h; exact h.elim (fun ⟨k, e, hk⟩ => hD0.2 k _ hk) (fun hk => Nat.le_trans hE.1 hk)
  have hS : va_S A s.heap s.heap [] := va_S.rf
  have hl := lv_entry ([.ref h0, .int a0]) (n := 2) (Nat.le_of_ble_eq_true rfl)
  rw [lg_entry_eq]
  generalize (lg_sl ([.ref h0, .int a0]) ++ List.replicate (2 - (lg_sl ([.ref h0, .int a0])).length) Slot.unset).toArray = ls at hl ⊢
  have hl : lv_has ls 2 [(0, .ref h0), (1, .int a0)] := hl
  have hP : va_P (dC, dI) vwCl (wX2_readFactor h0 h1 h2 h3 h4 kc3 kc4 V0 V2 v0_locals v1_token v1_tokenAt v1_name v1_fault v1_faultAt v1_size v1_next v2_globals c3 c4) s.heap := hP
  refine gl_intro (fun G hG => ?_)
  have J102 : ∀ (y1 : Int32) (v1_token : Int32) (v1_tokenAt : Int32) (v1_name : Int64) (v1_fault : Int32) (v1_faultAt : Int32) (v1_next : Int32) (H : Heap) (locs : List Loc) (ls : Array Slot), va_P (dC, dI) vwCl (wX2_readFactor h0 h1 h2 h3 h4 kc3 kc4 V0 V2 v0_locals v1_token v1_tokenAt v1_name v1_fault v1_faultAt v1_size v1_next v2_globals c3 c4) H → va_D A (wX2_readFactor h0 h1 h2 h3 h4 kc3 kc4 V0 V2 v0_locals v1_token v1_tokenAt v1_name v1_fault v1_faultAt v1_size v1_next v2_globals c3 c4) → va_S A s.heap H locs → lv_has ls 2 [(0, .ref h0), (1, .int y1)] → fX2_readFactor_o_p102 kf_X2_readNested v0_locals v1_size v2_globals c3 c4  y1 v1_token v1_tokenAt v1_name v1_fault v1_faultAt v1_next = some o → G 0 0 H locs (F0 m 102 ls []) := by
    intro  y1 v1_token v1_tokenAt v1_name v1_fault v1_faultAt v1_next H locs ls hP hD hS hl hf
    refine (hG _ _ _ _ _).mpr ?_
    unfold fX2_readFactor_o_p102 at hf
    refine lv_aload_n hx hb dX2_readFactor_102 rfl (lv_at hl 0 rfl) ?_
    refine lv_iload_n hx hb dX2_readFactor_103 rfl (lv_at hl 1 rfl) ?_
    obtain ⟨o1, e1, hf⟩ := ob_some hf
    refine kVl (As := [.int y1]) (rest := []) ⟨hx, hb, hml, hown, hts⟩ (hk_X2_readNested l dC dI h0 h1 h4 h2 h3 kc4 kc3 H.size base y1 v0_locals v1_token v1_tokenAt v1_name v1_fault v1_faultAt v1_size v1_next c4 v2_globals c3 V0 V2 o1 e1) (cwV 1 hts (gTV q740 q741 q742 q27 q743) rfl rfl rfl (by decide +kernel) ⟨(by show F_X2_readNested + 1 ≤ max ((F_X2_readNested) + 1) 6; omega), (by show 8 + (5 + 11) + L_X2_readNested ≤ max ((L_X2_readNested) + 24) 135; omega)⟩) hK hP hD hS hA hE hAB [0, 1, 4, 2, 3] [] [1, 0] (wr := []) rfl rfl (by decide) (by decide) (by decide) rfl (ci := 2) (q0 := 0) rfl rfl rfl rfl hl.1 rfl (Nat.le_of_ble_eq_true rfl) dX2_readFactor_104 ⟨Nat.zero_le _, Nat.zero_le _⟩ (fun r1 u1 H locs hw1 hP hD hS => ?_)
    obtain ⟨hw11, hw12⟩ := hw1
    subst hw11 hw12
    have hP : va_P (dC, dI) vwCl (wX2_readFactor h0 h1 h2 h3 h4 kc3 kc4 V0 V2 v0_locals o1.2.1 o1.2.2.1 o1.2.2.2.1 o1.2.2.2.2.1 o1.2.2.2.2.2.1 v1_size o1.2.2.2.2.2.2 v2_globals c3 c4) H := hP.sub [0, 1, 3, 4, 2] rfl
    have hD : va_D A (wX2_readFactor h0 h1 h2 h3 h4 kc3 kc4 V0 V2 v0_locals o1.2.1 o1.2.2.1 o1.2.2.2.1 o1.2.2.2.2.1 o1.2.2.2.2.2.1 v1_size o1.2.2.2.2.2.2 v2_globals c3 c4) := hD.sub [0, 1, 3, 4, 2] (by decide) rfl
    have hf1 := Option.some.inj hf
    subst hf1
    have hP9 := hP.sub (ws' := (wX2_readFactor h0 h1 h2 h3 h4 kc3 kc4 V0 V2 v0_locals o1.2.1 o1.2.2.1 o1.2.2.2.1 o1.2.2.2.2.1 o1.2.2.2.2.2.1 v1_size o1.2.2.2.2.2.2 v2_globals c3 c4)) [0, 1, 2, 3, 4] rfl
    have hD9 := hD.sub (ws' := (wX2_readFactor h0 h1 h2 h3 h4 kc3 kc4 V0 V2 v0_locals o1.2.1 o1.2.2.1 o1.2.2.2.1 o1.2.2.2.2.1 o1.2.2.2.2.2.1 v1_size o1.2.2.2.2.2.2 v2_globals c3 c4)) [0, 1, 2, 3, 4] (by decide) rfl
    exact W.lret (v := o1.1) hx hb hr (fun t ht hW => ⟨⟨o1.1, (o1.2.1, o1.2.2.1, o1.2.2.2.1, o1.2.2.2.2.1, o1.2.2.2.2.2.1, o1.2.2.2.2.2.2), rfl, ⟨rfl, rfl⟩, by rw [ht]; exact hP9, va_K.moved hW.alike hK, hD9⟩, hS.F ht⟩) hS.2.2 dX2_readFactor_107
  refine (hG _ _ _ _ _).mpr ?_
  obtain ⟨H, hH⟩ : ∃ H, H = s.heap := ⟨_, rfl⟩
  have hS : va_S A s.heap H [] := by rw [hH]; exact hS
  rw [← hH] at hP ⊢
  generalize ([] : List Loc) = locs at hS ⊢
  unfold fX2_readFactor_o at hf
  refine lv_aload_n hx hb dX2_readFactor_0 rfl (lv_at hl 0 rfl) ?_
  refine va_get (D := (dC, dI)) (ci := 2) (v := .ref h1) (C := RX2) (T := TX2) (N := 7) hx hb hts inlX2 hown hK hP 0 rfl rfl 0 (by decide) w0_ (fun _ h9 => h9) rfl dX2_readFactor_1 ?_
  refine va_get (D := (dC, dI)) (ci := 4) (v := .int v1_token) (C := RX4) (T := TX4) (N := 8) hx hb hts inlX4 hown hK hP 1 rfl rfl 0 (by decide) w1_ (fun _ h9 => h9) rfl dX2_readFactor_4 ?_
  by_cases cq2 : v1_token = 33
  · replace hf := if_at hf cq2
    refine lv_lookup (off := 95) (tgt := 102) hx hb dX2_readFactor_7 (by decide) (by rw [cq2]; rfl) (by decide) ?_
    exact (hG _ _ _ _ _).mp (J102 a0 v1_token v1_tokenAt v1_name v1_fault v1_faultAt v1_next H locs ls (hP.sub [0, 1, 2, 3, 4] rfl) (hD.sub [0, 1, 2, 3, 4] (by decide) rfl) hS (lv_sub hl [0, 1] rfl) hf)
  · replace hf := if_no hf cq2
    by_cases cq3 : v1_token = 40
    · replace hf := if_at hf cq3
      refine lv_lookup (off := 95) (tgt := 102) hx hb dX2_readFactor_7 (by decide) (by rw [cq3]; rfl) (by decide) ?_
      exact (hG _ _ _ _ _).mp (J102 a0 v1_token v1_tokenAt v1_name v1_fault v1_faultAt v1_next H locs ls (hP.sub [0, 1, 2, 3, 4] rfl) (hD.sub [0, 1, 2, 3, 4] (by decide) rfl) hS (lv_sub hl [0, 1] rfl) hf)
    · replace hf := if_no hf cq3
      by_cases cq4 : v1_token = 42
      · replace hf := if_at hf cq4
        refine lv_lookup (off := 79) (tgt := 86) hx hb dX2_readFactor_7 (by decide) (by rw [cq4]; rfl) (by decide) ?_
        refine lv_aload_n hx hb dX2_readFactor_86 rfl (lv_at hl 0 rfl) ?_
        refine va_get (D := (dC, dI)) (ci := 2) (v := .ref h1) (C := RX2) (T := TX2) (N := 7) hx hb hts inlX2 hown hK hP 0 rfl rfl 0 (by decide) w0_ (fun _ h9 => h9) rfl dX2_readFactor_87 ?_
        obtain ⟨o5, e5, hf⟩ := ob_some hf
        refine kVv (As := []) (rest := []) ⟨hx, hb, hml, hown, hts⟩ (mX4_advance l dC dI h1 h4 kc4 H.size base v1_token v1_tokenAt v1_name v1_fault v1_faultAt v1_size v1_next c4 o5 e5) (cwV 0 hts (gTV q672 q562 q563 q19 q564) rfl rfl rfl (by decide +kernel) ⟨(by show 4 + 1 ≤ max ((F_X2_readNested) + 1) 6; omega), (by show 8 + (2 + 11) + 91 ≤ max ((L_X2_readNested) + 24) 135; omega)⟩) hK hP hD hS hA hE hAB [1, 4] [0, 2, 3] [1] (wr := [(h0, .inr (2, [.ref h1, .ref h2, .ref h3, .int v0_locals, V0 4, V0 5, V0 6])), (h2, .inr (3, [V2 0, .int v2_globals, V2 2, V2 3, V2 4, V2 5, V2 6, V2 7, V2 8, V2 9, V2 10, V2 11, V2 12, V2 13, V2 14, V2 15, V2 16, V2 17])), (h3, .inl (kc3, 5, .inr (.inl c3)))]) rfl rfl (by decide) (by decide) (by decide) rfl (ci := 4) (q0 := 0) rfl rfl rfl rfl hl.1 rfl (Nat.le_of_ble_eq_true rfl) dX2_readFactor_90 ⟨Nat.zero_le _, Nat.zero_le _⟩ (fun u5 H locs hw5 hP hD hS => ?_)
        have hw51 : o5 = u5 := Eq.symm hw5
        subst hw51
        have hP : va_P (dC, dI) vwCl (wX2_readFactor h0 h1 h2 h3 h4 kc3 kc4 V0 V2 v0_locals o5.1 o5.2.1 o5.2.2.1 o5.2.2.2.1 o5.2.2.2.2.1 v1_size o5.2.2.2.2.2 v2_globals c3 c4) H := hP.sub [0, 3, 1, 2, 4] rfl
        have hD : va_D A (wX2_readFactor h0 h1 h2 h3 h4 kc3 kc4 V0 V2 v0_locals o5.1 o5.2.1 o5.2.2.1 o5.2.2.2.1 o5.2.2.2.2.1 v1_size o5.2.2.2.2.2 v2_globals c3 c4) := hD.sub [0, 3, 1, 2, 4] (by decide) rfl
        refine lv_ldc2 (v := (-1)) hx hb hown w2_ dX2_readFactor_93 ?_
        have hf1 := Option.some.inj hf
        subst hf1
        have hP9 := hP.sub (ws' := (wX2_readFactor h0 h1 h2 h3 h4 kc3 kc4 V0 V2 v0_locals o5.1 o5.2.1 o5.2.2.1 o5.2.2.2.1 o5.2.2.2.2.1 v1_size o5.2.2.2.2.2 v2_globals c3 c4)) [0, 1, 2, 3, 4] rfl
        have hD9 := hD.sub (ws' := (wX2_readFactor h0 h1 h2 h3 h4 kc3 kc4 V0 V2 v0_locals o5.1 o5.2.1 o5.2.2.1 o5.2.2.2.1 o5.2.2.2.2.1 v1_size o5.2.2.2.2.2 v2_globals c3 c4)) [0, 1, 2, 3, 4] (by decide) rfl
        exact W.lret (v := (-1)) hx hb hr (fun t ht hW => ⟨⟨(-1), (o5.1, o5.2.1, o5.2.2.1, o5.2.2.2.1, o5.2.2.2.2.1, o5.2.2.2.2.2), rfl, ⟨rfl, rfl⟩, by rw [ht]; exact hP9, va_K.moved hW.alike hK, hD9⟩, hS.F ht⟩) hS.2.2 dX2_readFactor_96
      · replace hf := if_no hf cq4
        by_cases cq6 : v1_token = 48
        · replace hf := if_at hf cq6
          refine lv_lookup (off := 57) (tgt := 64) hx hb dX2_readFactor_7 (by decide) (by rw [cq6]; rfl) (by decide) ?_
          refine lv_aload_n hx hb dX2_readFactor_64 rfl (lv_at hl 0 rfl) ?_
          refine va_get (D := (dC, dI)) (ci := 2) (v := .ref h1) (C := RX2) (T := TX2) (N := 7) hx hb hts inlX2 hown hK hP 0 rfl rfl 0 (by decide) w0_ (fun _ h9 => h9) rfl dX2_readFactor_65 ?_
          obtain ⟨o7, e7, hf⟩ := ob_some hf
          refine kVv (As := []) (rest := []) ⟨hx, hb, hml, hown, hts⟩ (mX4_advance l dC dI h1 h4 kc4 H.size base v1_token v1_tokenAt v1_name v1_fault v1_faultAt v1_size v1_next c4 o7 e7) (cwV 0 hts (gTV q672 q562 q563 q19 q564) rfl rfl rfl (by decide +kernel) ⟨(by show 4 + 1 ≤ max ((F_X2_readNested) + 1) 6; omega), (by show 8 + (2 + 11) + 91 ≤ max ((L_X2_readNested) + 24) 135; omega)⟩) hK hP hD hS hA hE hAB [1, 4] [0, 2, 3] [1] (wr := [(h0, .inr (2, [.ref h1, .ref h2, .ref h3, .int v0_locals, V0 4, V0 5, V0 6])), (h2, .inr (3, [V2 0, .int v2_globals, V2 2, V2 3, V2 4, V2 5, V2 6, V2 7, V2 8, V2 9, V2 10, V2 11, V2 12, V2 13, V2 14, V2 15, V2 16, V2 17])), (h3, .inl (kc3, 5, .inr (.inl c3)))]) rfl rfl (by decide) (by decide) (by decide) rfl (ci := 4) (q0 := 0) rfl rfl rfl rfl hl.1 rfl (Nat.le_of_ble_eq_true rfl) dX2_readFactor_68 ⟨Nat.zero_le _, Nat.zero_le _⟩ (fun u7 H locs hw7 hP hD hS => ?_)
          have hw71 : o7 = u7 := Eq.symm hw7
          subst hw71
          have hP : va_P (dC, dI) vwCl (wX2_readFactor h0 h1 h2 h3 h4 kc3 kc4 V0 V2 v0_locals o7.1 o7.2.1 o7.2.2.1 o7.2.2.2.1 o7.2.2.2.2.1 v1_size o7.2.2.2.2.2 v2_globals c3 c4) H := hP.sub [0, 3, 1, 2, 4] rfl
          have hD : va_D A (wX2_readFactor h0 h1 h2 h3 h4 kc3 kc4 V0 V2 v0_locals o7.1 o7.2.1 o7.2.2.1 o7.2.2.2.1 o7.2.2.2.2.1 v1_size o7.2.2.2.2.2 v2_globals c3 c4) := hD.sub [0, 3, 1, 2, 4] (by decide) rfl
          refine lv_ldc2 (v := 4294967295) hx hb hown w3_ dX2_readFactor_71 ?_
          have hf1 := Option.some.inj hf
          subst hf1
          have hP9 := hP.sub (ws' := (wX2_readFactor h0 h1 h2 h3 h4 kc3 kc4 V0 V2 v0_locals o7.1 o7.2.1 o7.2.2.1 o7.2.2.2.1 o7.2.2.2.2.1 v1_size o7.2.2.2.2.2 v2_globals c3 c4)) [0, 1, 2, 3, 4] rfl
          have hD9 := hD.sub (ws' := (wX2_readFactor h0 h1 h2 h3 h4 kc3 kc4 V0 V2 v0_locals o7.1 o7.2.1 o7.2.2.1 o7.2.2.2.1 o7.2.2.2.2.1 v1_size o7.2.2.2.2.2 v2_globals c3 c4)) [0, 1, 2, 3, 4] (by decide) rfl
          exact W.lret (v := 4294967295) hx hb hr (fun t ht hW => ⟨⟨4294967295, (o7.1, o7.2.1, o7.2.2.1, o7.2.2.2.1, o7.2.2.2.2.1, o7.2.2.2.2.2), rfl, ⟨rfl, rfl⟩, by rw [ht]; exact hP9, va_K.moved hW.alike hK, hD9⟩, hS.F ht⟩) hS.2.2 dX2_readFactor_74
        · replace hf := if_no hf cq6
          by_cases cq8 : v1_token = 49
          · replace hf := if_at hf cq8
            refine lv_lookup (off := 68) (tgt := 75) hx hb dX2_readFactor_7 (by decide) (by rw [cq8]; rfl) (by decide) ?_
            refine lv_aload_n hx hb dX2_readFactor_75 rfl (lv_at hl 0 rfl) ?_
            refine va_get (D := (dC, dI)) (ci := 2) (v := .ref h1) (C := RX2) (T := TX2) (N := 7) hx hb hts inlX2 hown hK hP 0 rfl rfl 0 (by decide) w0_ (fun _ h9 => h9) rfl dX2_readFactor_76 ?_
            obtain ⟨o9, e9, hf⟩ := ob_some hf
            refine kVv (As := []) (rest := []) ⟨hx, hb, hml, hown, hts⟩ (mX4_advance l dC dI h1 h4 kc4 H.size base v1_token v1_tokenAt v1_name v1_fault v1_faultAt v1_size v1_next c4 o9 e9) (cwV 0 hts (gTV q672 q562 q563 q19 q564) rfl rfl rfl (by decide +kernel) ⟨(by show 4 + 1 ≤ max ((F_X2_readNested) + 1) 6; omega), (by show 8 + (2 + 11) + 91 ≤ max ((L_X2_readNested) + 24) 135; omega)⟩) hK hP hD hS hA hE hAB [1, 4] [0, 2, 3] [1] (wr := [(h0, .inr (2, [.ref h1, .ref h2, .ref h3, .int v0_locals, V0 4, V0 5, V0 6])), (h2, .inr (3, [V2 0, .int v2_globals, V2 2, V2 3, V2 4, V2 5, V2 6, V2 7, V2 8, V2 9, V2 10, V2 11, V2 12, V2 13, V2 14, V2 15, V2 16, V2 17])), (h3, .inl (kc3, 5, .inr (.inl c3)))]) rfl rfl (by decide) (by decide) (by decide) rfl (ci := 4) (q0 := 0) rfl rfl rfl rfl hl.1 rfl (Nat.le_of_ble_eq_true rfl) dX2_readFactor_79 ⟨Nat.zero_le _, Nat.zero_le _⟩ (fun u9 H locs hw9 hP hD hS => ?_)
            have hw91 : o9 = u9 := Eq.symm hw9
            subst hw91
            have hP : va_P (dC, dI) vwCl (wX2_readFactor h0 h1 h2 h3 h4 kc3 kc4 V0 V2 v0_locals o9.1 o9.2.1 o9.2.2.1 o9.2.2.2.1 o9.2.2.2.2.1 v1_size o9.2.2.2.2.2 v2_globals c3 c4) H := hP.sub [0, 3, 1, 2, 4] rfl
            have hD : va_D A (wX2_readFactor h0 h1 h2 h3 h4 kc3 kc4 V0 V2 v0_locals o9.1 o9.2.1 o9.2.2.1 o9.2.2.2.1 o9.2.2.2.2.1 v1_size o9.2.2.2.2.2 v2_globals c3 c4) := hD.sub [0, 3, 1, 2, 4] (by decide) rfl
            refine lv_ldc2 (v := (-4294967296)) hx hb hown w4_ dX2_readFactor_82 ?_
            have hf1 := Option.some.inj hf
            subst hf1
            have hP9 := hP.sub (ws' := (wX2_readFactor h0 h1 h2 h3 h4 kc3 kc4 V0 V2 v0_locals o9.1 o9.2.1 o9.2.2.1 o9.2.2.2.1 o9.2.2.2.2.1 v1_size o9.2.2.2.2.2 v2_globals c3 c4)) [0, 1, 2, 3, 4] rfl
            have hD9 := hD.sub (ws' := (wX2_readFactor h0 h1 h2 h3 h4 kc3 kc4 V0 V2 v0_locals o9.1 o9.2.1 o9.2.2.1 o9.2.2.2.1 o9.2.2.2.2.1 v1_size o9.2.2.2.2.2 v2_globals c3 c4)) [0, 1, 2, 3, 4] (by decide) rfl
            exact W.lret (v := (-4294967296)) hx hb hr (fun t ht hW => ⟨⟨(-4294967296), (o9.1, o9.2.1, o9.2.2.1, o9.2.2.2.1, o9.2.2.2.2.1, o9.2.2.2.2.2), rfl, ⟨rfl, rfl⟩, by rw [ht]; exact hP9, va_K.moved hW.alike hK, hD9⟩, hS.F ht⟩) hS.2.2 dX2_readFactor_85
          · replace hf := if_no hf cq8
            by_cases cq10 : v1_token = 258
            · replace hf := if_at hf cq10
              refine lv_lookup (off := 90) (tgt := 97) hx hb dX2_readFactor_7 (by decide) (by rw [cq10]; rfl) (by decide) ?_
              refine lv_aload_n hx hb dX2_readFactor_97 rfl (lv_at hl 0 rfl) ?_
              obtain ⟨o11, e11, hf⟩ := ob_some hf
              refine kVl (As := []) (rest := []) ⟨hx, hb, hml, hown, hts⟩ (mX2_readVariableValue l dC dI h0 h1 h2 h3 h4 kc3 kc4 H.size base v0_locals v1_token v1_tokenAt v1_name v1_fault v1_faultAt v1_size v1_next v2_globals c3 c4 V0 V2 o11 e11) (cwV 0 hts (gTV q735 q736 q737 q27 q738) rfl rfl rfl (by decide +kernel) ⟨(by show 5 + 1 ≤ max ((F_X2_readNested) + 1) 6; omega), (by show 8 + (4 + 11) + 112 ≤ max ((L_X2_readNested) + 24) 135; omega)⟩) hK hP hD hS hA hE hAB [0, 1, 2, 3, 4] [] [0, 1] (wr := []) rfl rfl (by decide) (by decide) (by decide) rfl (ci := 2) (q0 := 0) rfl rfl rfl rfl hl.1 rfl (Nat.le_of_ble_eq_true rfl) dX2_readFactor_98 ⟨Nat.zero_le _, Nat.zero_le _⟩ (fun r11 u11 H locs hw11 hP hD hS => ?_)
              obtain ⟨hw111, hw112⟩ := hw11
              subst hw111 hw112
              have hP : va_P (dC, dI) vwCl (wX2_readFactor h0 h1 h2 h3 h4 kc3 kc4 V0 V2 v0_locals o11.2.1 o11.2.2.1 o11.2.2.2.1 o11.2.2.2.2.1 o11.2.2.2.2.2.1 v1_size o11.2.2.2.2.2.2 v2_globals c3 c4) H := hP.sub [0, 1, 2, 3, 4] rfl
              have hD : va_D A (wX2_readFactor h0 h1 h2 h3 h4 kc3 kc4 V0 V2 v0_locals o11.2.1 o11.2.2.1 o11.2.2.2.1 o11.2.2.2.2.1 o11.2.2.2.2.2.1 v1_size o11.2.2.2.2.2.2 v2_globals c3 c4) := hD.sub [0, 1, 2, 3, 4] (by decide) rfl
              have hf1 := Option.some.inj hf
              subst hf1
              have hP9 := hP.sub (ws' := (wX2_readFactor h0 h1 h2 h3 h4 kc3 kc4 V0 V2 v0_locals o11.2.1 o11.2.2.1 o11.2.2.2.1 o11.2.2.2.2.1 o11.2.2.2.2.2.1 v1_size o11.2.2.2.2.2.2 v2_globals c3 c4)) [0, 1, 2, 3, 4] rfl
              have hD9 := hD.sub (ws' := (wX2_readFactor h0 h1 h2 h3 h4 kc3 kc4 V0 V2 v0_locals o11.2.1 o11.2.2.1 o11.2.2.2.1 o11.2.2.2.2.1 o11.2.2.2.2.2.1 v1_size o11.2.2.2.2.2.2 v2_globals c3 c4)) [0, 1, 2, 3, 4] (by decide) rfl
              exact W.lret (v := o11.1) hx hb hr (fun t ht hW => ⟨⟨o11.1, (o11.2.1, o11.2.2.1, o11.2.2.2.1, o11.2.2.2.2.1, o11.2.2.2.2.2.1, o11.2.2.2.2.2.2), rfl, ⟨rfl, rfl⟩, by rw [ht]; exact hP9, va_K.moved hW.alike hK, hD9⟩, hS.F ht⟩) hS.2.2 dX2_readFactor_101
            · replace hf := if_no hf cq10
              refine lv_lookup (off := 101) (tgt := 108) hx hb dX2_readFactor_7 (by decide) (by show Op.lookupswitch.offset [(33, 95), (40, 95), (42, 79), (48, 57), (49, 68), (258, 90)] _ _ = _; rw [lv_osw cq2 (show (33 : Int32).toInt = 33 from rfl), lv_osw cq3 (show (40 : Int32).toInt = 40 from rfl), lv_osw cq4 (show (42 : Int32).toInt = 42 from rfl), lv_osw cq6 (show (48 : Int32).toInt = 48 from rfl), lv_osw cq8 (show (49 : Int32).toInt = 49 from rfl), lv_osw cq10 (show (258 : Int32).toInt = 258 from rfl)]; rfl) (by decide) ?_
              refine lv_aload_n hx hb dX2_readFactor_108 rfl (lv_at hl 0 rfl) ?_
              refine va_get (D := (dC, dI)) (ci := 2) (v := .ref h1) (C := RX2) (T := TX2) (N := 7) hx hb hts inlX2 hown hK hP 0 rfl rfl 0 (by decide) w0_ (fun _ h9 => h9) rfl dX2_readFactor_109 ?_
              refine lv_iconst (v := 2) hx hb dX2_readFactor_112 (by decide +kernel) ?_
              obtain ⟨o12, e12, hf⟩ := ob_some hf
              refine kVv (As := [.int 2]) (rest := []) ⟨hx, hb, hml, hown, hts⟩ (mX4_failHere l dC dI h1 H.size base 2 v1_token v1_tokenAt v1_fault v1_faultAt (fun k => match k with | 2 => .long v1_name | 5 => .ref h4 | 6 => .int v1_size | 7 => .int v1_next | _ => .null) o12 e12) (cwV 1 hts (gTV q679 q680 q681 q19 q682) rfl rfl rfl (by decide +kernel) ⟨(by show 1 + 1 ≤ max ((F_X2_readNested) + 1) 6; omega), (by show 8 + (2 + 11) + 22 ≤ max ((L_X2_readNested) + 24) 135; omega)⟩) hK hP hD hS hA hE hAB [1] [0, 2, 3, 4] [] (wr := [(h0, .inr (2, [.ref h1, .ref h2, .ref h3, .int v0_locals, V0 4, V0 5, V0 6])), (h2, .inr (3, [V2 0, .int v2_globals, V2 2, V2 3, V2 4, V2 5, V2 6, V2 7, V2 8, V2 9, V2 10, V2 11, V2 12, V2 13, V2 14, V2 15, V2 16, V2 17])), (h3, .inl (kc3, 5, .inr (.inl c3))), (h4, .inl (kc4, 600, .inl c4))]) rfl rfl (by decide) (by decide) (by decide) rfl (ci := 4) (q0 := 0) rfl rfl rfl rfl hl.1 rfl (Nat.le_of_ble_eq_true rfl) dX2_readFactor_113 ⟨Nat.zero_le _, Nat.zero_le _⟩ (fun u12 H locs hw12 hP hD hS => ?_)
              have hw121 : o12 = u12 := Eq.symm hw12
              subst hw121
              have hP : va_P (dC, dI) vwCl (wX2_readFactor h0 h1 h2 h3 h4 kc3 kc4 V0 V2 v0_locals o12.1 v1_tokenAt v1_name o12.2.1 o12.2.2 v1_size v1_next v2_globals c3 c4) H := hP.sub [0, 4, 1, 2, 3] rfl
              have hD : va_D A (wX2_readFactor h0 h1 h2 h3 h4 kc3 kc4 V0 V2 v0_locals o12.1 v1_tokenAt v1_name o12.2.1 o12.2.2 v1_size v1_next v2_globals c3 c4) := hD.sub [0, 4, 1, 2, 3] (by decide) rfl
              refine lv_lconst (v := 0) hx hb dX2_readFactor_116 (by decide) ?_
              have hf1 := Option.some.inj hf
              subst hf1
              have hP9 := hP.sub (ws' := (wX2_readFactor h0 h1 h2 h3 h4 kc3 kc4 V0 V2 v0_locals o12.1 v1_tokenAt v1_name o12.2.1 o12.2.2 v1_size v1_next v2_globals c3 c4)) [0, 1, 2, 3, 4] rfl
              have hD9 := hD.sub (ws' := (wX2_readFactor h0 h1 h2 h3 h4 kc3 kc4 V0 V2 v0_locals o12.1 v1_tokenAt v1_name o12.2.1 o12.2.2 v1_size v1_next v2_globals c3 c4)) [0, 1, 2, 3, 4] (by decide) rfl
              exact W.lret (v := 0) hx hb hr (fun t ht hW => ⟨⟨0, (o12.1, v1_tokenAt, v1_name, o12.2.1, o12.2.2, v1_next), rfl, ⟨rfl, rfl⟩, by rw [ht]; exact hP9, va_K.moved hW.alike hK, hD9⟩, hS.F ht⟩) hS.2.2 dX2_readFactor_117
def rAF : Nat → Nat
  | 0 => 0
  | n + 1 => max ((max (max (max ((max ((rAF n) + 1) 5) + 1) 5) (rAF n) + 1) 6) + 1) 6
def rAL : Nat → Nat
  | 0 => 0
  | n + 1 => max ((max (max (max ((max ((rAL n) + 21) 112) + 26) 112) (rAL n) + 26) 133) + 24) 135
theorem rAF_s (n : Nat) : rAF (n + 1) = max ((max (max (max ((max ((rAF n) + 1) 5) + 1) 5) (rAF n) + 1) 6) + 1) 6 := rfl
theorem rAL_s (n : Nat) : rAL (n + 1) = max ((max (max (max ((max ((rAL n) + 21) 112) + 26) 112) (rAL n) + 26) 133) + 24) 135 := rfl
set_option maxRecDepth 100000 in
theorem mX2_readFactor_n (n : Nat) : KX2_readFactor (fX2_readFactor_n n) (rAF n) (rAL n) := by
  induction n with
  | zero => intro l dC dI h0 h1 h2 h3 h4 kc3 kc4 sz base a0 v0_locals v1_token v1_tokenAt v1_name v1_fault v1_faultAt v1_size v1_next v2_globals c3 c4 V0 V2 o hf; cases hf
  | succ n ih => rw [fX2_readFactor_n_s, rAF_s, rAL_s]; exact mX2_readFactor_o _ _ _ (mX2_readNested_o _ _ _ (mX2_readExpression_o _ _ _ (mX2_readTerm_o _ _ _ ih)) _ _ _ ih)
theorem rA_1 : max ((max ((rAF 12) + 1) 5) + 1) 5 = 54 := by decide +kernel
theorem rA_2 : max ((max ((rAL 12) + 21) 112) + 26) 112 = 1302 := by decide +kernel
set_option maxRecDepth 100000 in
theorem mX2_readExpression (l : Launch) (dC : Nat → ClassId) (dI : Nat → Nat → Nat) (h0 h1 h2 h3 h4 : Nat) (kc3 kc4 : ClassId) (sz : Nat) (base : Nat × Nat × Nat) (a0 : Int32) (v0_locals : Int32) (v1_token : Int32) (v1_tokenAt : Int32) (v1_name : Int64) (v1_fault : Int32) (v1_faultAt : Int32) (v1_size : Int32) (v1_next : Int32) (v2_globals : Int32) (c3 : Nat → Int64) (c4 : Nat → Int32) (V0 : Nat → Value) (V2 : Nat → Value) (o : Int64 × Int32 × Int32 × Int64 × Int32 × Int32 × Int32) (hf : fX2_readExpression a0 v0_locals v1_token v1_tokenAt v1_name v1_fault v1_faultAt v1_size v1_next v2_globals c3 c4 = some o) : Met l yX2_readExpression (.code yX2_readExpression cX2_readExpression 7 (some .long) :: wsL_law) ({ frames := 54, cells := 0, slots := 0, locals := 1302 }) (cPre (dC, dI) vwCl [.ref h0, .int a0] sz base (wX2_readExpression h0 h1 h2 h3 h4 kc3 kc4 V0 V2 v0_locals v1_token v1_tokenAt v1_name v1_fault v1_faultAt v1_size v1_next v2_globals c3 c4) [(kc3, .long), (kc4, .byte)]) (va_Ql (fun r u => r = o.1 ∧ u = o.2) (fun (u : Int32 × Int32 × Int64 × Int32 × Int32 × Int32) t => cPost (dC, dI) vwCl (va_A (wX2_readExpression h0 h1 h2 h3 h4 kc3 kc4 V0 V2 v0_locals v1_token v1_tokenAt v1_name v1_fault v1_faultAt v1_size v1_next v2_globals c3 c4) sz) (wX2_readExpression h0 h1 h2 h3 h4 kc3 kc4 V0 V2 v0_locals u.1 u.2.1 u.2.2.1 u.2.2.2.1 u.2.2.2.2.1 v1_size u.2.2.2.2.2 v2_globals c3 c4) [(kc3, .long), (kc4, .byte)] t) (va_A (wX2_readExpression h0 h1 h2 h3 h4 kc3 kc4 V0 V2 v0_locals v1_token v1_tokenAt v1_name v1_fault v1_faultAt v1_size v1_next v2_globals c3 c4) sz)) 0 0 (va_A (wX2_readExpression h0 h1 h2 h3 h4 kc3 kc4 V0 V2 v0_locals v1_token v1_tokenAt v1_name v1_fault v1_faultAt v1_size v1_next v2_globals c3 c4) sz) := by
  have h := mX2_readExpression_o _ _ _ (mX2_readTerm_o _ _ _ (mX2_readFactor_n 12))
  simp only [rA_1, rA_2] at h
  exact h l dC dI h0 h1 h2 h3 h4 kc3 kc4 sz base a0 v0_locals v1_token v1_tokenAt v1_name v1_fault v1_faultAt v1_size v1_next v2_globals c3 c4 V0 V2 o hf
abbrev wX2_readAssignment (h0 h1 h2 h3 h4 h5 h6 : Nat) (kc3 kc4 kc5 kc6 : ClassId) (V0 : Nat → Value) (V2 : Nat → Value) (v0_locals : Int32) (v1_token : Int32) (v1_tokenAt : Int32) (v1_name : Int64) (v1_fault : Int32) (v1_faultAt : Int32) (v1_size : Int32) (v1_next : Int32) (v2_globals : Int32) (c3 : Nat → Int64) (c4 : Nat → Int32) (c5 : Nat → Int32) (c6 : Nat → Int64) : va_W := [(h0, .inr (2, [.ref h1, .ref h2, .ref h3, .int v0_locals, V0 4, V0 5, V0 6])), (h1, .inr (4, [.int v1_token, .int v1_tokenAt, .long v1_name, .int v1_fault, .int v1_faultAt, .ref h5, .int v1_size, .int v1_next])), (h2, .inr (3, [V2 0, .int v2_globals, V2 2, V2 3, V2 4, V2 5, V2 6, V2 7, .ref h6, .ref h4, V2 10, V2 11, V2 12, V2 13, V2 14, V2 15, V2 16, V2 17])), (h3, .inl (kc3, 5, .inr (.inl c3))), (h4, .inl (kc4, 40, .inl c4)), (h5, .inl (kc5, 600, .inl c5)), (h6, .inl (kc6, 40, .inr (.inl c6)))]
set_option maxHeartbeats 4000000 in
set_option maxRecDepth 100000 in
theorem mX2_readAssignment (l : Launch) (dC : Nat → ClassId) (dI : Nat → Nat → Nat) (h0 h1 h2 h3 h4 h5 h6 : Nat) (kc3 kc4 kc5 kc6 : ClassId) (sz : Nat) (base : Nat × Nat × Nat) (a0 : Int32) (v0_locals : Int32) (v1_token : Int32) (v1_tokenAt : Int32) (v1_name : Int64) (v1_fault : Int32) (v1_faultAt : Int32) (v1_size : Int32) (v1_next : Int32) (v2_globals : Int32) (c3 : Nat → Int64) (c4 : Nat → Int32) (c5 : Nat → Int32) (c6 : Nat → Int64) (V0 : Nat → Value) (V2 : Nat → Value) (o : Int32 × Int32 × Int64 × Int32 × Int32 × Int32 × (Nat → Int32) × (Nat → Int64)) (hf : fX2_readAssignment a0 v0_locals v1_token v1_tokenAt v1_name v1_fault v1_faultAt v1_size v1_next v2_globals c3 c4 c5 c6 = some o) : Met l yX2_readAssignment (.code yX2_readAssignment cX2_readAssignment 3 none :: wsL_law) ({ frames := 55, cells := 0, slots := 0, locals := 1328 }) (cPre (dC, dI) vwCl [.ref h0, .int a0] sz base (wX2_readAssignment h0 h1 h2 h3 h4 h5 h6 kc3 kc4 kc5 kc6 V0 V2 v0_locals v1_token v1_tokenAt v1_name v1_fault v1_faultAt v1_size v1_next v2_globals c3 c4 c5 c6) [(kc3, .long), (kc4, .int), (kc5, .byte), (kc6, .long)]) (va_Qv (fun u => u = o) (fun (u : Int32 × Int32 × Int64 × Int32 × Int32 × Int32 × (Nat → Int32) × (Nat → Int64)) t => cPost (dC, dI) vwCl (va_A (wX2_readAssignment h0 h1 h2 h3 h4 h5 h6 kc3 kc4 kc5 kc6 V0 V2 v0_locals v1_token v1_tokenAt v1_name v1_fault v1_faultAt v1_size v1_next v2_globals c3 c4 c5 c6) sz) (wX2_readAssignment h0 h1 h2 h3 h4 h5 h6 kc3 kc4 kc5 kc6 V0 V2 v0_locals u.1 u.2.1 u.2.2.1 u.2.2.2.1 u.2.2.2.2.1 v1_size u.2.2.2.2.2.1 v2_globals c3 u.2.2.2.2.2.2.1 c5 u.2.2.2.2.2.2.2) [(kc3, .long), (kc4, .int), (kc5, .byte), (kc6, .long)] t) (va_A (wX2_readAssignment h0 h1 h2 h3 h4 h5 h6 kc3 kc4 kc5 kc6 V0 V2 v0_locals v1_token v1_tokenAt v1_name v1_fault v1_faultAt v1_size v1_next v2_globals c3 c4 c5 c6) sz)) 0 0 (va_A (wX2_readAssignment h0 h1 h2 h3 h4 h5 h6 kc3 kc4 kc5 kc6 V0 V2 v0_locals v1_token v1_tokenAt v1_name v1_fault v1_faultAt v1_size v1_next v2_globals c3 c4 c5 c6) sz) := by
  refine Met.ofW (cc := cX2_readAssignment) (maxL := 3) (ret := none) (by decide) rfl ?_
  intro p e s m args below meth c s₁ B hml hv
  obtain ⟨rfl, hsz, hP, hK, hD0, hE⟩ := hv
  have hx := B.exec
  have hb := B.bytes
  have hr := B.returns
  have hts : ∀ w ∈ wsL_law, _ := fun w h => atoms_spec (ws := .code yX2_readAssignment cX2_readAssignment 3 none :: wsL_law) B.pre w (List.mem_cons_of_mem _ h)
  have hown : s.vm.findClass RX2 = some m.cls := findClass_of_methodNamed B.named
  have hlocks := B.notSynchronized
  have w0_ := hts _ q72
  have w1_ := hts _ q678
  have w2_ := hts _ q73
  have w3_ := hts _ q765
  have w4_ := hts _ q720
  subst hsz
  have hD := hD0.self (sz := s.heap.size)
  generalize hAe : va_A (wX2_readAssignment h0 h1 h2 h3 h4 h5 h6 kc3 kc4 kc5 kc6 V0 V2 v0_locals v1_token v1_tokenAt v1_name v1_fault v1_faultAt v1_size v1_next v2_globals c3 c4 c5 c6) s.heap.size = A at hD ⊢
  have hA : ∀ q : Nat, s.heap.size ≤ q → A q := fun q h => by rw [← hAe]; exact Or.inr h
  have hAB : ∀ q : Nat, A q → base.1 ≤ q := fun q h => by rw [← hAe] at h; exact h.elim (fun ⟨k, e, hk⟩ => hD0.2 k _ hk) (fun hk => Nat.le_trans hE.1 hk)
  have hS : va_S A s.heap s.heap [] := va_S.rf
  have hl := lv_entry ([.ref h0, .int a0]) (n := 3) (Nat.le_of_ble_eq_true rfl)
  rw [lg_entry_eq]
  generalize (lg_sl ([.ref h0, .int a0]) ++ List.replicate (3 - (lg_sl ([.ref h0, .int a0])).length) Slot.unset).toArray = ls at hl ⊢
  have hl : lv_has ls 3 [(0, .ref h0), (1, .int a0)] := hl
  have hP : va_P (dC, dI) vwCl (wX2_readAssignment h0 h1 h2 h3 h4 h5 h6 kc3 kc4 kc5 kc6 V0 V2 v0_locals v1_token v1_tokenAt v1_name v1_fault v1_faultAt v1_size v1_next v2_globals c3 c4 c5 c6) s.heap := hP
  refine gl_intro (fun G hG => ?_)
  have J69 : ∀ (v1_token : Int32) (v1_tokenAt : Int32) (v1_name : Int64) (v1_fault : Int32) (v1_faultAt : Int32) (v1_next : Int32) (c4 : (Nat → Int32)) (c6 : (Nat → Int64)) (H : Heap) (locs : List Loc) (ls : Array Slot), va_P (dC, dI) vwCl (wX2_readAssignment h0 h1 h2 h3 h4 h5 h6 kc3 kc4 kc5 kc6 V0 V2 v0_locals v1_token v1_tokenAt v1_name v1_fault v1_faultAt v1_size v1_next v2_globals c3 c4 c5 c6) H → va_D A (wX2_readAssignment h0 h1 h2 h3 h4 h5 h6 kc3 kc4 kc5 kc6 V0 V2 v0_locals v1_token v1_tokenAt v1_name v1_fault v1_faultAt v1_size v1_next v2_globals c3 c4 c5 c6) → va_S A s.heap H locs → lv_has ls 3 [(0, .ref h0)] → fX2_readAssignment_p69 v0_locals v1_size v2_globals c3 c5  v1_token v1_tokenAt v1_name v1_fault v1_faultAt v1_next c4 c6 = some o → G 0 0 H locs (F0 m 69 ls []) := by
    intro  v1_token v1_tokenAt v1_name v1_fault v1_faultAt v1_next c4 c6 H locs ls hP hD hS hl hf
    refine (hG _ _ _ _ _).mpr ?_
    unfold fX2_readAssignment_p69 at hf
    have hf1 := Option.some.inj hf
    subst hf1
    have hP9 := hP.sub (ws' := (wX2_readAssignment h0 h1 h2 h3 h4 h5 h6 kc3 kc4 kc5 kc6 V0 V2 v0_locals v1_token v1_tokenAt v1_name v1_fault v1_faultAt v1_size v1_next v2_globals c3 c4 c5 c6)) [0, 1, 2, 3, 4, 5, 6] rfl
    have hD9 := hD.sub (ws' := (wX2_readAssignment h0 h1 h2 h3 h4 h5 h6 kc3 kc4 kc5 kc6 V0 V2 v0_locals v1_token v1_tokenAt v1_name v1_fault v1_faultAt v1_size v1_next v2_globals c3 c4 c5 c6)) [0, 1, 2, 3, 4, 5, 6] (by decide) rfl
    exact W.vret hx hb hr (fun t ht hW => ⟨⟨(v1_token, v1_tokenAt, v1_name, v1_fault, v1_faultAt, v1_next, c4, c6), rfl, rfl, by rw [ht]; exact hP9, va_K.moved hW.alike hK, hD9⟩, hS.F ht⟩) hS.2.2 dX2_readAssignment_69
  refine (hG _ _ _ _ _).mpr ?_
  obtain ⟨H, hH⟩ : ∃ H, H = s.heap := ⟨_, rfl⟩
  have hS : va_S A s.heap H [] := by rw [hH]; exact hS
  rw [← hH] at hP ⊢
  generalize ([] : List Loc) = locs at hS ⊢
  unfold fX2_readAssignment at hf
  refine lv_aload_n hx hb dX2_readAssignment_0 rfl (lv_at hl 0 rfl) ?_
  refine lv_aload_n hx hb dX2_readAssignment_1 rfl (lv_at hl 0 rfl) ?_
  refine va_get (D := (dC, dI)) (ci := 2) (v := .ref h1) (C := RX2) (T := TX2) (N := 7) hx hb hts inlX2 hown hK hP 0 rfl rfl 0 (by decide) w0_ (fun _ h9 => h9) rfl dX2_readAssignment_2 ?_
  refine va_get (D := (dC, dI)) (ci := 4) (v := .long v1_name) (C := RX4) (T := TX4) (N := 8) hx hb hts inlX4 hown hK hP 1 rfl rfl 2 (by decide) w1_ (fun _ h9 => h9) rfl dX2_readAssignment_5 ?_
  obtain ⟨o1, e1, hf⟩ := ob_some hf
  refine kVi (As := [.long v1_name]) (rest := []) ⟨hx, hb, hml, hown, hts⟩ (mX2_findVariable l dC dI h0 h2 h3 kc3 H.size base v1_name v0_locals v2_globals c3 (fun k => match k with | 0 => .ref h1 | k => V0 k) (fun k => match k with | 8 => .ref h6 | 9 => .ref h4 | k => V2 k) o1 e1) (cwV 1 hts (gTV q683 q684 q685 q27 q686) rfl rfl rfl (by decide +kernel) ⟨Nat.le_of_ble_eq_true rfl, Nat.le_of_ble_eq_true rfl⟩) hK hP hD hS hA hE hAB [0, 2, 3] [1, 4, 5, 6] [0] (wr := [(h1, .inr (4, [.int v1_token, .int v1_tokenAt, .long v1_name, .int v1_fault, .int v1_faultAt, .ref h5, .int v1_size, .int v1_next])), (h4, .inl (kc4, 40, .inl c4)), (h5, .inl (kc5, 600, .inl c5)), (h6, .inl (kc6, 40, .inr (.inl c6)))]) rfl rfl (by decide) (by decide) (by decide) rfl (ci := 2) (q0 := 0) rfl rfl rfl rfl hl.1 rfl (Nat.le_of_ble_eq_true rfl) dX2_readAssignment_8 ⟨Nat.zero_le _, Nat.zero_le _⟩ (fun r1 u1 H locs hw1 hP hD hS => ?_)
  obtain ⟨hw11, hw12⟩ := hw1
  subst hw11 hw12
  have hP : va_P (dC, dI) vwCl (wX2_readAssignment h0 h1 h2 h3 h4 h5 h6 kc3 kc4 kc5 kc6 V0 V2 v0_locals v1_token v1_tokenAt v1_name v1_fault v1_faultAt v1_size v1_next v2_globals c3 c4 c5 c6) H := hP.sub [4, 0, 5, 6, 1, 2, 3] rfl
  have hD : va_D A (wX2_readAssignment h0 h1 h2 h3 h4 h5 h6 kc3 kc4 kc5 kc6 V0 V2 v0_locals v1_token v1_tokenAt v1_name v1_fault v1_faultAt v1_size v1_next v2_globals c3 c4 c5 c6) := hD.sub [4, 0, 5, 6, 1, 2, 3] (by decide) rfl
  refine lv_istore_n (lv' := [(2, .int o1.1), (0, .ref h0), (1, .int a0)]) hx hb dX2_readAssignment_11 rfl hl (by decide) rfl (fun ls hl => ?_)
  refine lv_iload_n hx hb dX2_readAssignment_12 rfl (lv_at hl 0 rfl) ?_
  refine lv_iconst (v := (-1)) hx hb dX2_readAssignment_13 (by decide +kernel) ?_
  refine lv_icmp_ne (tgt := 26) hx hb dX2_readAssignment_14 (by decide) (fun cq2 => ?_) (fun cq2 => ?_)
  · replace hf := if_no hf cq2
    refine lv_aload_n hx hb dX2_readAssignment_26 rfl (lv_at hl 1 rfl) ?_
    refine va_get (D := (dC, dI)) (ci := 2) (v := .ref h2) (C := RX2) (T := TX2) (N := 7) hx hb hts inlX2 hown hK hP 0 rfl rfl 1 (by decide) w2_ (fun _ h9 => h9) rfl dX2_readAssignment_27 ?_
    refine va_get (D := (dC, dI)) (ci := 3) (v := .ref h4) (C := RX3) (T := TX3) (N := 18) hx hb hts inlX3 hown hK hP 2 rfl rfl 9 (by decide) w3_ (fun _ h9 => h9) rfl dX2_readAssignment_30 ?_
    refine lv_iload_n hx hb dX2_readAssignment_33 rfl (lv_at hl 2 rfl) ?_
    refine lv_iload_n hx hb dX2_readAssignment_34 rfl (lv_at hl 0 rfl) ?_
    have b3 := bd_in hf
    replace hf := bd_k hf
    obtain ⟨c3x, e3⟩ : ∃ y, y = upd c4 a0.toNatClampNeg o1.1 := ⟨_, rfl⟩
    replace hf := nm_at hf e3
    refine va_iast hx hb hK hP hD hS 4 1 rfl rfl b3 dX2_readAssignment_35 (fun H locs hP hD hS => ?_)
    have hP : va_P (dC, dI) vwCl (wX2_readAssignment h0 h1 h2 h3 h4 h5 h6 kc3 kc4 kc5 kc6 V0 V2 v0_locals v1_token v1_tokenAt v1_name v1_fault v1_faultAt v1_size v1_next v2_globals c3 c3x c5 c6) H := by rw [e3]; exact hP
    have hD : va_D A (wX2_readAssignment h0 h1 h2 h3 h4 h5 h6 kc3 kc4 kc5 kc6 V0 V2 v0_locals v1_token v1_tokenAt v1_name v1_fault v1_faultAt v1_size v1_next v2_globals c3 c3x c5 c6) := by rw [e3]; exact hD
    refine lv_aload_n hx hb dX2_readAssignment_36 rfl (lv_at hl 1 rfl) ?_
    refine va_get (D := (dC, dI)) (ci := 2) (v := .ref h1) (C := RX2) (T := TX2) (N := 7) hx hb hts inlX2 hown hK hP 0 rfl rfl 0 (by decide) w0_ (fun _ h9 => h9) rfl dX2_readAssignment_37 ?_
    obtain ⟨o4, e4, hf⟩ := ob_some hf
    refine kVv (As := []) (rest := []) ⟨hx, hb, hml, hown, hts⟩ (mX4_advance l dC dI h1 h5 kc5 H.size base v1_token v1_tokenAt v1_name v1_fault v1_faultAt v1_size v1_next c5 o4 e4) (cwV 0 hts (gTV q672 q562 q563 q19 q564) rfl rfl rfl (by decide +kernel) ⟨Nat.le_of_ble_eq_true rfl, Nat.le_of_ble_eq_true rfl⟩) hK hP hD hS hA hE hAB [1, 5] [0, 2, 3, 4, 6] [2] (wr := [(h0, .inr (2, [.ref h1, .ref h2, .ref h3, .int v0_locals, V0 4, V0 5, V0 6])), (h2, .inr (3, [V2 0, .int v2_globals, V2 2, V2 3, V2 4, V2 5, V2 6, V2 7, .ref h6, .ref h4, V2 10, V2 11, V2 12, V2 13, V2 14, V2 15, V2 16, V2 17])), (h3, .inl (kc3, 5, .inr (.inl c3))), (h4, .inl (kc4, 40, .inl c3x)), (h6, .inl (kc6, 40, .inr (.inl c6)))]) rfl rfl (by decide) (by decide) (by decide) rfl (ci := 4) (q0 := 0) rfl rfl rfl rfl hl.1 rfl (Nat.le_of_ble_eq_true rfl) dX2_readAssignment_40 ⟨Nat.zero_le _, Nat.zero_le _⟩ (fun u4 H locs hw4 hP hD hS => ?_)
    have hw41 : o4 = u4 := Eq.symm hw4
    subst hw41
    have hP : va_P (dC, dI) vwCl (wX2_readAssignment h0 h1 h2 h3 h4 h5 h6 kc3 kc4 kc5 kc6 V0 V2 v0_locals o4.1 o4.2.1 o4.2.2.1 o4.2.2.2.1 o4.2.2.2.2.1 v1_size o4.2.2.2.2.2 v2_globals c3 c3x c5 c6) H := hP.sub [0, 5, 1, 2, 3, 6, 4] rfl
    have hD : va_D A (wX2_readAssignment h0 h1 h2 h3 h4 h5 h6 kc3 kc4 kc5 kc6 V0 V2 v0_locals o4.1 o4.2.1 o4.2.2.1 o4.2.2.2.1 o4.2.2.2.2.1 v1_size o4.2.2.2.2.2 v2_globals c3 c3x c5 c6) := hD.sub [0, 5, 1, 2, 3, 6, 4] (by decide) rfl
    refine lv_aload_n hx hb dX2_readAssignment_43 rfl (lv_at hl 1 rfl) ?_
    refine va_get (D := (dC, dI)) (ci := 2) (v := .ref h1) (C := RX2) (T := TX2) (N := 7) hx hb hts inlX2 hown hK hP 0 rfl rfl 0 (by decide) w0_ (fun _ h9 => h9) rfl dX2_readAssignment_44 ?_
    refine lv_bipush (v := 61) hx hb dX2_readAssignment_47 (by decide +kernel) ?_
    obtain ⟨o5, e5, hf⟩ := ob_some hf
    refine kVi (As := [.int 61]) (rest := []) ⟨hx, hb, hml, hown, hts⟩ (mX4_skipToken l dC dI h1 h5 kc5 H.size base 61 o4.1 o4.2.1 o4.2.2.1 o4.2.2.2.1 o4.2.2.2.2.1 v1_size o4.2.2.2.2.2 c5 o5 e5) (cwV 1 hts (gTV q687 q688 q689 q19 q690) rfl rfl rfl (by decide +kernel) ⟨Nat.le_of_ble_eq_true rfl, Nat.le_of_ble_eq_true rfl⟩) hK hP hD hS hA hE hAB [1, 5] [0, 2, 3, 4, 6] [2] (wr := [(h0, .inr (2, [.ref h1, .ref h2, .ref h3, .int v0_locals, V0 4, V0 5, V0 6])), (h2, .inr (3, [V2 0, .int v2_globals, V2 2, V2 3, V2 4, V2 5, V2 6, V2 7, .ref h6, .ref h4, V2 10, V2 11, V2 12, V2 13, V2 14, V2 15, V2 16, V2 17])), (h3, .inl (kc3, 5, .inr (.inl c3))), (h4, .inl (kc4, 40, .inl c3x)), (h6, .inl (kc6, 40, .inr (.inl c6)))]) rfl rfl (by decide) (by decide) (by decide) rfl (ci := 4) (q0 := 0) rfl rfl rfl rfl hl.1 rfl (Nat.le_of_ble_eq_true rfl) dX2_readAssignment_49 ⟨Nat.zero_le _, Nat.zero_le _⟩ (fun r5 u5 H locs hw5 hP hD hS => ?_)
    obtain ⟨hw51, hw52⟩ := hw5
    subst hw51 hw52
    have hP : va_P (dC, dI) vwCl (wX2_readAssignment h0 h1 h2 h3 h4 h5 h6 kc3 kc4 kc5 kc6 V0 V2 v0_locals o5.2.1 o5.2.2.1 o5.2.2.2.1 o5.2.2.2.2.1 o5.2.2.2.2.2.1 v1_size o5.2.2.2.2.2.2 v2_globals c3 c3x c5 c6) H := hP.sub [0, 5, 1, 2, 3, 6, 4] rfl
    have hD : va_D A (wX2_readAssignment h0 h1 h2 h3 h4 h5 h6 kc3 kc4 kc5 kc6 V0 V2 v0_locals o5.2.1 o5.2.2.1 o5.2.2.2.1 o5.2.2.2.2.1 o5.2.2.2.2.2.1 v1_size o5.2.2.2.2.2.2 v2_globals c3 c3x c5 c6) := hD.sub [0, 5, 1, 2, 3, 6, 4] (by decide) rfl
    refine lv_if_eq (tgt := 69) hx hb dX2_readAssignment_52 (by decide) (fun cq6 => ?_) (fun cq6 => ?_)
    · replace hf := if_at hf cq6
      exact (hG _ _ _ _ _).mp (J69 o5.2.1 o5.2.2.1 o5.2.2.2.1 o5.2.2.2.2.1 o5.2.2.2.2.2.1 o5.2.2.2.2.2.2 c3x c6 H locs ls (hP.sub [0, 1, 2, 3, 4, 5, 6] rfl) (hD.sub [0, 1, 2, 3, 4, 5, 6] (by decide) rfl) hS (lv_sub hl [1] rfl) hf)
    · replace hf := if_no hf cq6
      refine lv_aload_n hx hb dX2_readAssignment_55 rfl (lv_at hl 1 rfl) ?_
      refine va_get (D := (dC, dI)) (ci := 2) (v := .ref h2) (C := RX2) (T := TX2) (N := 7) hx hb hts inlX2 hown hK hP 0 rfl rfl 1 (by decide) w2_ (fun _ h9 => h9) rfl dX2_readAssignment_56 ?_
      refine va_get (D := (dC, dI)) (ci := 3) (v := .ref h6) (C := RX3) (T := TX3) (N := 18) hx hb hts inlX3 hown hK hP 2 rfl rfl 8 (by decide) w4_ (fun _ h9 => h9) rfl dX2_readAssignment_59 ?_
      refine lv_iload_n hx hb dX2_readAssignment_62 rfl (lv_at hl 2 rfl) ?_
      refine lv_aload_n hx hb dX2_readAssignment_63 rfl (lv_at hl 1 rfl) ?_
      refine lv_iconst (v := 0) hx hb dX2_readAssignment_64 (by decide +kernel) ?_
      obtain ⟨o7, e7, hf⟩ := ob_some hf
      refine kVl (As := [.int 0]) (rest := [.int a0, .ref h6]) ⟨hx, hb, hml, hown, hts⟩ (mX2_readExpression l dC dI h0 h1 h2 h3 h5 kc3 kc5 H.size base 0 v0_locals o5.2.1 o5.2.2.1 o5.2.2.2.1 o5.2.2.2.2.1 o5.2.2.2.2.2.1 v1_size o5.2.2.2.2.2.2 v2_globals c3 c5 V0 (fun k => match k with | 8 => .ref h6 | 9 => .ref h4 | k => V2 k) o7 e7) (cwV 1 hts (gTV q724 q725 q726 q27 q727) rfl rfl rfl (by decide +kernel) ⟨Nat.le_of_ble_eq_true rfl, Nat.le_of_ble_eq_true rfl⟩) hK hP hD hS hA hE hAB [0, 1, 2, 3, 5] [4, 6] [0, 2] (wr := [(h4, .inl (kc4, 40, .inl c3x)), (h6, .inl (kc6, 40, .inr (.inl c6)))]) rfl rfl (by decide) (by decide) (by decide) rfl (ci := 2) (q0 := 0) rfl rfl rfl rfl hl.1 rfl (Nat.le_of_ble_eq_true rfl) dX2_readAssignment_65 ⟨Nat.zero_le _, Nat.zero_le _⟩ (fun r7 u7 H locs hw7 hP hD hS => ?_)
      obtain ⟨hw71, hw72⟩ := hw7
      subst hw71 hw72
      have hP : va_P (dC, dI) vwCl (wX2_readAssignment h0 h1 h2 h3 h4 h5 h6 kc3 kc4 kc5 kc6 V0 V2 v0_locals o7.2.1 o7.2.2.1 o7.2.2.2.1 o7.2.2.2.2.1 o7.2.2.2.2.2.1 v1_size o7.2.2.2.2.2.2 v2_globals c3 c3x c5 c6) H := hP.sub [2, 3, 4, 5, 0, 6, 1] rfl
      have hD : va_D A (wX2_readAssignment h0 h1 h2 h3 h4 h5 h6 kc3 kc4 kc5 kc6 V0 V2 v0_locals o7.2.1 o7.2.2.1 o7.2.2.2.1 o7.2.2.2.2.1 o7.2.2.2.2.2.1 v1_size o7.2.2.2.2.2.2 v2_globals c3 c3x c5 c6) := hD.sub [2, 3, 4, 5, 0, 6, 1] (by decide) rfl
      have b8 := bd_in hf
      replace hf := bd_k hf
      obtain ⟨c8x, e8⟩ : ∃ y, y = vp_updL c6 a0.toNatClampNeg o7.1 := ⟨_, rfl⟩
      replace hf := nm_at hf e8
      refine va_last hx hb hK hP hD hS 6 3 rfl rfl b8 dX2_readAssignment_68 (fun H locs hP hD hS => ?_)
      have hP : va_P (dC, dI) vwCl (wX2_readAssignment h0 h1 h2 h3 h4 h5 h6 kc3 kc4 kc5 kc6 V0 V2 v0_locals o7.2.1 o7.2.2.1 o7.2.2.2.1 o7.2.2.2.2.1 o7.2.2.2.2.2.1 v1_size o7.2.2.2.2.2.2 v2_globals c3 c3x c5 c8x) H := by rw [e8]; exact hP
      have hD : va_D A (wX2_readAssignment h0 h1 h2 h3 h4 h5 h6 kc3 kc4 kc5 kc6 V0 V2 v0_locals o7.2.1 o7.2.2.1 o7.2.2.2.1 o7.2.2.2.2.1 o7.2.2.2.2.2.1 v1_size o7.2.2.2.2.2.2 v2_globals c3 c3x c5 c8x) := by rw [e8]; exact hD
      exact (hG _ _ _ _ _).mp (J69 o7.2.1 o7.2.2.1 o7.2.2.2.1 o7.2.2.2.2.1 o7.2.2.2.2.2.1 o7.2.2.2.2.2.2 c3x c8x H locs ls (hP.sub [0, 1, 2, 3, 4, 5, 6] rfl) (hD.sub [0, 1, 2, 3, 4, 5, 6] (by decide) rfl) hS (lv_sub hl [1] rfl) hf)
  · replace hf := if_at hf cq2
    refine lv_aload_n hx hb dX2_readAssignment_17 rfl (lv_at hl 1 rfl) ?_
    refine va_get (D := (dC, dI)) (ci := 2) (v := .ref h1) (C := RX2) (T := TX2) (N := 7) hx hb hts inlX2 hown hK hP 0 rfl rfl 0 (by decide) w0_ (fun _ h9 => h9) rfl dX2_readAssignment_18 ?_
    refine lv_iconst (v := 3) hx hb dX2_readAssignment_21 (by decide +kernel) ?_
    obtain ⟨o9, e9, hf⟩ := ob_some hf
    refine kVv (As := [.int 3]) (rest := []) ⟨hx, hb, hml, hown, hts⟩ (mX4_failHere l dC dI h1 H.size base 3 v1_token v1_tokenAt v1_fault v1_faultAt (fun k => match k with | 2 => .long v1_name | 5 => .ref h5 | 6 => .int v1_size | 7 => .int v1_next | _ => .null) o9 e9) (cwV 1 hts (gTV q679 q680 q681 q19 q682) rfl rfl rfl (by decide +kernel) ⟨Nat.le_of_ble_eq_true rfl, Nat.le_of_ble_eq_true rfl⟩) hK hP hD hS hA hE hAB [1] [0, 2, 3, 4, 5, 6] [] (wr := [(h0, .inr (2, [.ref h1, .ref h2, .ref h3, .int v0_locals, V0 4, V0 5, V0 6])), (h2, .inr (3, [V2 0, .int v2_globals, V2 2, V2 3, V2 4, V2 5, V2 6, V2 7, .ref h6, .ref h4, V2 10, V2 11, V2 12, V2 13, V2 14, V2 15, V2 16, V2 17])), (h3, .inl (kc3, 5, .inr (.inl c3))), (h4, .inl (kc4, 40, .inl c4)), (h5, .inl (kc5, 600, .inl c5)), (h6, .inl (kc6, 40, .inr (.inl c6)))]) rfl rfl (by decide) (by decide) (by decide) rfl (ci := 4) (q0 := 0) rfl rfl rfl rfl hl.1 rfl (Nat.le_of_ble_eq_true rfl) dX2_readAssignment_22 ⟨Nat.zero_le _, Nat.zero_le _⟩ (fun u9 H locs hw9 hP hD hS => ?_)
    have hw91 : o9 = u9 := Eq.symm hw9
    subst hw91
    have hP : va_P (dC, dI) vwCl (wX2_readAssignment h0 h1 h2 h3 h4 h5 h6 kc3 kc4 kc5 kc6 V0 V2 v0_locals o9.1 v1_tokenAt v1_name o9.2.1 o9.2.2 v1_size v1_next v2_globals c3 c4 c5 c6) H := hP.sub [0, 6, 1, 2, 3, 4, 5] rfl
    have hD : va_D A (wX2_readAssignment h0 h1 h2 h3 h4 h5 h6 kc3 kc4 kc5 kc6 V0 V2 v0_locals o9.1 v1_tokenAt v1_name o9.2.1 o9.2.2 v1_size v1_next v2_globals c3 c4 c5 c6) := hD.sub [0, 6, 1, 2, 3, 4, 5] (by decide) rfl
    have hf1 := Option.some.inj hf
    subst hf1
    have hP9 := hP.sub (ws' := (wX2_readAssignment h0 h1 h2 h3 h4 h5 h6 kc3 kc4 kc5 kc6 V0 V2 v0_locals o9.1 v1_tokenAt v1_name o9.2.1 o9.2.2 v1_size v1_next v2_globals c3 c4 c5 c6)) [0, 1, 2, 3, 4, 5, 6] rfl
    have hD9 := hD.sub (ws' := (wX2_readAssignment h0 h1 h2 h3 h4 h5 h6 kc3 kc4 kc5 kc6 V0 V2 v0_locals o9.1 v1_tokenAt v1_name o9.2.1 o9.2.2 v1_size v1_next v2_globals c3 c4 c5 c6)) [0, 1, 2, 3, 4, 5, 6] (by decide) rfl
    exact W.vret hx hb hr (fun t ht hW => ⟨⟨(o9.1, v1_tokenAt, v1_name, o9.2.1, o9.2.2, v1_next, c4, c6), rfl, rfl, by rw [ht]; exact hP9, va_K.moved hW.alike hK, hD9⟩, hS.F ht⟩) hS.2.2 dX2_readAssignment_25
abbrev wX2_readOpenBrace (h0 h1 h2 : Nat) (kc2 : ClassId) (V0 : Nat → Value) (v1_token : Int32) (v1_tokenAt : Int32) (v1_name : Int64) (v1_fault : Int32) (v1_faultAt : Int32) (v1_size : Int32) (v1_next : Int32) (c2 : Nat → Int32) : va_W := [(h0, .inr (2, [.ref h1, V0 1, V0 2, V0 3, V0 4, V0 5, V0 6])), (h1, .inr (4, [.int v1_token, .int v1_tokenAt, .long v1_name, .int v1_fault, .int v1_faultAt, .ref h2, .int v1_size, .int v1_next])), (h2, .inl (kc2, 600, .inl c2))]
set_option maxHeartbeats 4000000 in
set_option maxRecDepth 100000 in
theorem mX2_readOpenBrace (l : Launch) (dC : Nat → ClassId) (dI : Nat → Nat → Nat) (h0 h1 h2 : Nat) (kc2 : ClassId) (sz : Nat) (base : Nat × Nat × Nat) (a0 : Int32) (v1_token : Int32) (v1_tokenAt : Int32) (v1_name : Int64) (v1_fault : Int32) (v1_faultAt : Int32) (v1_size : Int32) (v1_next : Int32) (c2 : Nat → Int32) (V0 : Nat → Value) (o : Int32 × Int32 × Int64 × Int32 × Int32 × Int32) (hf : fX2_readOpenBrace a0 v1_token v1_tokenAt v1_name v1_fault v1_faultAt v1_size v1_next c2 = some o) : Met l yX2_readOpenBrace (.code yX2_readOpenBrace cX2_readOpenBrace 2 none :: wsL_law) ({ frames := 6, cells := 0, slots := 0, locals := 133 }) (cPre (dC, dI) vwCl [.ref h0, .int a0] sz base (wX2_readOpenBrace h0 h1 h2 kc2 V0 v1_token v1_tokenAt v1_name v1_fault v1_faultAt v1_size v1_next c2) [(kc2, .byte)]) (va_Qv (fun u => u = o) (fun (u : Int32 × Int32 × Int64 × Int32 × Int32 × Int32) t => cPost (dC, dI) vwCl (va_A (wX2_readOpenBrace h0 h1 h2 kc2 V0 v1_token v1_tokenAt v1_name v1_fault v1_faultAt v1_size v1_next c2) sz) (wX2_readOpenBrace h0 h1 h2 kc2 V0 u.1 u.2.1 u.2.2.1 u.2.2.2.1 u.2.2.2.2.1 v1_size u.2.2.2.2.2 c2) [(kc2, .byte)] t) (va_A (wX2_readOpenBrace h0 h1 h2 kc2 V0 v1_token v1_tokenAt v1_name v1_fault v1_faultAt v1_size v1_next c2) sz)) 0 0 (va_A (wX2_readOpenBrace h0 h1 h2 kc2 V0 v1_token v1_tokenAt v1_name v1_fault v1_faultAt v1_size v1_next c2) sz) := by
  refine Met.ofW (cc := cX2_readOpenBrace) (maxL := 2) (ret := none) (by decide) rfl ?_
  intro p e s m args below meth c s₁ B hml hv
  obtain ⟨rfl, hsz, hP, hK, hD0, hE⟩ := hv
  have hx := B.exec
  have hb := B.bytes
  have hr := B.returns
  have hts : ∀ w ∈ wsL_law, _ := fun w h => atoms_spec (ws := .code yX2_readOpenBrace cX2_readOpenBrace 2 none :: wsL_law) B.pre w (List.mem_cons_of_mem _ h)
  have hown : s.vm.findClass RX2 = some m.cls := findClass_of_methodNamed B.named
  have hlocks := B.notSynchronized
  have w0_ := hts _ q72
  have w1_ := hts _ q544
  subst hsz
  have hD := hD0.self (sz := s.heap.size)
  generalize hAe : va_A (wX2_readOpenBrace h0 h1 h2 kc2 V0 v1_token v1_tokenAt v1_name v1_fault v1_faultAt v1_size v1_next c2) s.heap.size = A at hD ⊢
  have hA : ∀ q : Nat, s.heap.size ≤ q → A q := fun q h => by rw [← hAe]; exact Or.inr h
  have hAB : ∀ q : Nat, A q → base.1 ≤ q := fun q h => by rw [← hAe] at h; exact h.elim (fun ⟨k, e, hk⟩ => hD0.2 k _ hk) (fun hk => Nat.le_trans hE.1 hk)
  have hS : va_S A s.heap s.heap [] := va_S.rf
  have hl := lv_entry ([.ref h0, .int a0]) (n := 2) (Nat.le_of_ble_eq_true rfl)
  rw [lg_entry_eq]
  generalize (lg_sl ([.ref h0, .int a0]) ++ List.replicate (2 - (lg_sl ([.ref h0, .int a0])).length) Slot.unset).toArray = ls at hl ⊢
  have hl : lv_has ls 2 [(0, .ref h0), (1, .int a0)] := hl
  have hP : va_P (dC, dI) vwCl (wX2_readOpenBrace h0 h1 h2 kc2 V0 v1_token v1_tokenAt v1_name v1_fault v1_faultAt v1_size v1_next c2) s.heap := hP
  refine gl_intro (fun G hG => ?_)
  have J27 : ∀ (v1_token : Int32) (v1_tokenAt : Int32) (v1_name : Int64) (v1_fault : Int32) (v1_faultAt : Int32) (v1_next : Int32) (H : Heap) (locs : List Loc) (ls : Array Slot), va_P (dC, dI) vwCl (wX2_readOpenBrace h0 h1 h2 kc2 V0 v1_token v1_tokenAt v1_name v1_fault v1_faultAt v1_size v1_next c2) H → va_D A (wX2_readOpenBrace h0 h1 h2 kc2 V0 v1_token v1_tokenAt v1_name v1_fault v1_faultAt v1_size v1_next c2) → va_S A s.heap H locs → lv_has ls 2 [(0, .ref h0)] → fX2_readOpenBrace_p27 v1_size c2  v1_token v1_tokenAt v1_name v1_fault v1_faultAt v1_next = some o → G 0 0 H locs (F0 m 27 ls []) := by
    intro  v1_token v1_tokenAt v1_name v1_fault v1_faultAt v1_next H locs ls hP hD hS hl hf
    refine (hG _ _ _ _ _).mpr ?_
    unfold fX2_readOpenBrace_p27 at hf
    refine lv_aload_n hx hb dX2_readOpenBrace_27 rfl (lv_at hl 0 rfl) ?_
    refine va_get (D := (dC, dI)) (ci := 2) (v := .ref h1) (C := RX2) (T := TX2) (N := 7) hx hb hts inlX2 hown hK hP 0 rfl rfl 0 (by decide) w0_ (fun _ h9 => h9) rfl dX2_readOpenBrace_28 ?_
    refine lv_bipush (v := 123) hx hb dX2_readOpenBrace_31 (by decide +kernel) ?_
    obtain ⟨o1, e1, hf⟩ := ob_some hf
    refine kVi (As := [.int 123]) (rest := []) ⟨hx, hb, hml, hown, hts⟩ (mX4_skipToken l dC dI h1 h2 kc2 H.size base 123 v1_token v1_tokenAt v1_name v1_fault v1_faultAt v1_size v1_next c2 o1 e1) (cwV 1 hts (gTV q687 q688 q689 q19 q690) rfl rfl rfl (by decide +kernel) ⟨Nat.le_of_ble_eq_true rfl, Nat.le_of_ble_eq_true rfl⟩) hK hP hD hS hA hE hAB [1, 2] [0] [0] (wr := [(h0, .inr (2, [.ref h1, V0 1, V0 2, V0 3, V0 4, V0 5, V0 6]))]) rfl rfl (by decide) (by decide) (by decide) rfl (ci := 4) (q0 := 0) rfl rfl rfl rfl hl.1 rfl (Nat.le_of_ble_eq_true rfl) dX2_readOpenBrace_33 ⟨Nat.zero_le _, Nat.zero_le _⟩ (fun r1 u1 H locs hw1 hP hD hS => ?_)
    obtain ⟨hw11, hw12⟩ := hw1
    subst hw11 hw12
    have hP : va_P (dC, dI) vwCl (wX2_readOpenBrace h0 h1 h2 kc2 V0 o1.2.1 o1.2.2.1 o1.2.2.2.1 o1.2.2.2.2.1 o1.2.2.2.2.2.1 v1_size o1.2.2.2.2.2.2 c2) H := hP.sub [0, 1, 2] rfl
    have hD : va_D A (wX2_readOpenBrace h0 h1 h2 kc2 V0 o1.2.1 o1.2.2.1 o1.2.2.2.1 o1.2.2.2.2.1 o1.2.2.2.2.2.1 v1_size o1.2.2.2.2.2.2 c2) := hD.sub [0, 1, 2] (by decide) rfl
    refine lv_pop hx hb dX2_readOpenBrace_36 rfl ?_
    have hf1 := Option.some.inj hf
    subst hf1
    have hP9 := hP.sub (ws' := (wX2_readOpenBrace h0 h1 h2 kc2 V0 o1.2.1 o1.2.2.1 o1.2.2.2.1 o1.2.2.2.2.1 o1.2.2.2.2.2.1 v1_size o1.2.2.2.2.2.2 c2)) [0, 1, 2] rfl
    have hD9 := hD.sub (ws' := (wX2_readOpenBrace h0 h1 h2 kc2 V0 o1.2.1 o1.2.2.1 o1.2.2.2.1 o1.2.2.2.2.1 o1.2.2.2.2.2.1 v1_size o1.2.2.2.2.2.2 c2)) [0, 1, 2] (by decide) rfl
    exact W.vret hx hb hr (fun t ht hW => ⟨⟨(o1.2.1, o1.2.2.1, o1.2.2.2.1, o1.2.2.2.2.1, o1.2.2.2.2.2.1, o1.2.2.2.2.2.2), rfl, rfl, by rw [ht]; exact hP9, va_K.moved hW.alike hK, hD9⟩, hS.F ht⟩) hS.2.2 dX2_readOpenBrace_37
  refine (hG _ _ _ _ _).mpr ?_
  obtain ⟨H, hH⟩ : ∃ H, H = s.heap := ⟨_, rfl⟩
  have hS : va_S A s.heap H [] := by rw [hH]; exact hS
  rw [← hH] at hP ⊢
  generalize ([] : List Loc) = locs at hS ⊢
  unfold fX2_readOpenBrace at hf
  refine lv_aload_n hx hb dX2_readOpenBrace_0 rfl (lv_at hl 0 rfl) ?_
  refine va_get (D := (dC, dI)) (ci := 2) (v := .ref h1) (C := RX2) (T := TX2) (N := 7) hx hb hts inlX2 hown hK hP 0 rfl rfl 0 (by decide) w0_ (fun _ h9 => h9) rfl dX2_readOpenBrace_1 ?_
  refine va_get (D := (dC, dI)) (ci := 4) (v := .int v1_token) (C := RX4) (T := TX4) (N := 8) hx hb hts inlX4 hown hK hP 1 rfl rfl 0 (by decide) w1_ (fun _ h9 => h9) rfl dX2_readOpenBrace_4 ?_
  refine lv_bipush (v := 123) hx hb dX2_readOpenBrace_7 (by decide +kernel) ?_
  refine lv_icmp_ne (tgt := 27) hx hb dX2_readOpenBrace_9 (by decide) (fun cq2 => ?_) (fun cq2 => ?_)
  · replace hf := if_no hf cq2
    exact (hG _ _ _ _ _).mp (J27 v1_token v1_tokenAt v1_name v1_fault v1_faultAt v1_next H locs ls (hP.sub [0, 1, 2] rfl) (hD.sub [0, 1, 2] (by decide) rfl) hS (lv_sub hl [0] rfl) hf)
  · replace hf := if_at hf cq2
    refine lv_iload_n hx hb dX2_readOpenBrace_12 rfl (lv_at hl 1 rfl) ?_
    refine lv_bipush (v := 10) hx hb dX2_readOpenBrace_13 (by decide +kernel) ?_
    refine lv_icmp_lt (tgt := 27) hx hb dX2_readOpenBrace_15 (by decide) (fun cq3 => ?_) (fun cq3 => ?_)
    · replace hf := if_at hf cq3
      exact (hG _ _ _ _ _).mp (J27 v1_token v1_tokenAt v1_name v1_fault v1_faultAt v1_next H locs ls (hP.sub [0, 1, 2] rfl) (hD.sub [0, 1, 2] (by decide) rfl) hS (lv_sub hl [0] rfl) hf)
    · replace hf := if_no hf cq3
      refine lv_aload_n hx hb dX2_readOpenBrace_18 rfl (lv_at hl 0 rfl) ?_
      refine va_get (D := (dC, dI)) (ci := 2) (v := .ref h1) (C := RX2) (T := TX2) (N := 7) hx hb hts inlX2 hown hK hP 0 rfl rfl 0 (by decide) w0_ (fun _ h9 => h9) rfl dX2_readOpenBrace_19 ?_
      refine lv_iconst (v := 3) hx hb dX2_readOpenBrace_22 (by decide +kernel) ?_
      obtain ⟨o4, e4, hf⟩ := ob_some hf
      refine kVv (As := [.int 3]) (rest := []) ⟨hx, hb, hml, hown, hts⟩ (mX4_failHere l dC dI h1 H.size base 3 v1_token v1_tokenAt v1_fault v1_faultAt (fun k => match k with | 2 => .long v1_name | 5 => .ref h2 | 6 => .int v1_size | 7 => .int v1_next | _ => .null) o4 e4) (cwV 1 hts (gTV q679 q680 q681 q19 q682) rfl rfl rfl (by decide +kernel) ⟨Nat.le_of_ble_eq_true rfl, Nat.le_of_ble_eq_true rfl⟩) hK hP hD hS hA hE hAB [1] [0, 2] [] (wr := [(h0, .inr (2, [.ref h1, V0 1, V0 2, V0 3, V0 4, V0 5, V0 6])), (h2, .inl (kc2, 600, .inl c2))]) rfl rfl (by decide) (by decide) (by decide) rfl (ci := 4) (q0 := 0) rfl rfl rfl rfl hl.1 rfl (Nat.le_of_ble_eq_true rfl) dX2_readOpenBrace_23 ⟨Nat.zero_le _, Nat.zero_le _⟩ (fun u4 H locs hw4 hP hD hS => ?_)
      have hw41 : o4 = u4 := Eq.symm hw4
      subst hw41
      have hP : va_P (dC, dI) vwCl (wX2_readOpenBrace h0 h1 h2 kc2 V0 o4.1 v1_tokenAt v1_name o4.2.1 o4.2.2 v1_size v1_next c2) H := hP.sub [0, 2, 1] rfl
      have hD : va_D A (wX2_readOpenBrace h0 h1 h2 kc2 V0 o4.1 v1_tokenAt v1_name o4.2.1 o4.2.2 v1_size v1_next c2) := hD.sub [0, 2, 1] (by decide) rfl
      have hf1 := Option.some.inj hf
      subst hf1
      have hP9 := hP.sub (ws' := (wX2_readOpenBrace h0 h1 h2 kc2 V0 o4.1 v1_tokenAt v1_name o4.2.1 o4.2.2 v1_size v1_next c2)) [0, 1, 2] rfl
      have hD9 := hD.sub (ws' := (wX2_readOpenBrace h0 h1 h2 kc2 V0 o4.1 v1_tokenAt v1_name o4.2.1 o4.2.2 v1_size v1_next c2)) [0, 1, 2] (by decide) rfl
      exact W.vret hx hb hr (fun t ht hW => ⟨⟨(o4.1, v1_tokenAt, v1_name, o4.2.1, o4.2.2, v1_next), rfl, rfl, by rw [ht]; exact hP9, va_K.moved hW.alike hK, hD9⟩, hS.F ht⟩) hS.2.2 dX2_readOpenBrace_26
abbrev wX2_readCalled (h0 h1 h2 h3 h4 : Nat) (kc2 kc3 kc4 : ClassId) (V0 : Nat → Value) (v1_token : Int32) (v1_tokenAt : Int32) (v1_name : Int64) (v1_fault : Int32) (v1_faultAt : Int32) (v1_size : Int32) (v1_next : Int32) (c2 : Nat → Int64) (c3 : Nat → Int32) (c4 : Nat → Int32) : va_W := [(h0, .inr (2, [.ref h1, V0 1, V0 2, V0 3, V0 4, .ref h2, .ref h3])), (h1, .inr (4, [.int v1_token, .int v1_tokenAt, .long v1_name, .int v1_fault, .int v1_faultAt, .ref h4, .int v1_size, .int v1_next])), (h2, .inl (kc2, 40, .inr (.inl c2))), (h3, .inl (kc3, 40, .inl c3)), (h4, .inl (kc4, 600, .inl c4))]
set_option maxHeartbeats 4000000 in
set_option maxRecDepth 100000 in
theorem mX2_readCalled (l : Launch) (dC : Nat → ClassId) (dI : Nat → Nat → Nat) (h0 h1 h2 h3 h4 : Nat) (kc2 kc3 kc4 : ClassId) (sz : Nat) (base : Nat × Nat × Nat) (a0 : Int32) (v1_token : Int32) (v1_tokenAt : Int32) (v1_name : Int64) (v1_fault : Int32) (v1_faultAt : Int32) (v1_size : Int32) (v1_next : Int32) (c2 : Nat → Int64) (c3 : Nat → Int32) (c4 : Nat → Int32) (V0 : Nat → Value) (o : Int32 × Int32 × Int64 × Int32 × Int32 × Int32 × (Nat → Int64) × (Nat → Int32)) (hf : fX2_readCalled a0 v1_token v1_tokenAt v1_name v1_fault v1_faultAt v1_size v1_next c2 c3 c4 = some o) : Met l yX2_readCalled (.code yX2_readCalled cX2_readCalled 2 none :: wsL_law) ({ frames := 6, cells := 0, slots := 0, locals := 133 }) (cPre (dC, dI) vwCl [.ref h0, .int a0] sz base (wX2_readCalled h0 h1 h2 h3 h4 kc2 kc3 kc4 V0 v1_token v1_tokenAt v1_name v1_fault v1_faultAt v1_size v1_next c2 c3 c4) [(kc2, .long), (kc3, .int), (kc4, .byte)]) (va_Qv (fun u => u = o) (fun (u : Int32 × Int32 × Int64 × Int32 × Int32 × Int32 × (Nat → Int64) × (Nat → Int32)) t => cPost (dC, dI) vwCl (va_A (wX2_readCalled h0 h1 h2 h3 h4 kc2 kc3 kc4 V0 v1_token v1_tokenAt v1_name v1_fault v1_faultAt v1_size v1_next c2 c3 c4) sz) (wX2_readCalled h0 h1 h2 h3 h4 kc2 kc3 kc4 V0 u.1 u.2.1 u.2.2.1 u.2.2.2.1 u.2.2.2.2.1 v1_size u.2.2.2.2.2.1 u.2.2.2.2.2.2.1 u.2.2.2.2.2.2.2 c4) [(kc2, .long), (kc3, .int), (kc4, .byte)] t) (va_A (wX2_readCalled h0 h1 h2 h3 h4 kc2 kc3 kc4 V0 v1_token v1_tokenAt v1_name v1_fault v1_faultAt v1_size v1_next c2 c3 c4) sz)) 0 0 (va_A (wX2_readCalled h0 h1 h2 h3 h4 kc2 kc3 kc4 V0 v1_token v1_tokenAt v1_name v1_fault v1_faultAt v1_size v1_next c2 c3 c4) sz) := by
  refine Met.ofW (cc := cX2_readCalled) (maxL := 2) (ret := none) (by decide) rfl ?_
  intro p e s m args below meth c s₁ B hml hv
  obtain ⟨rfl, hsz, hP, hK, hD0, hE⟩ := hv
  have hx := B.exec
  have hb := B.bytes
  have hr := B.returns
  have hts : ∀ w ∈ wsL_law, _ := fun w h => atoms_spec (ws := .code yX2_readCalled cX2_readCalled 2 none :: wsL_law) B.pre w (List.mem_cons_of_mem _ h)
  have hown : s.vm.findClass RX2 = some m.cls := findClass_of_methodNamed B.named
  have hlocks := B.notSynchronized
  have w0_ := hts _ q70
  have w1_ := hts _ q72
  have w2_ := hts _ q678
  have w3_ := hts _ q71
  have w4_ := hts _ q752
  subst hsz
  have hD := hD0.self (sz := s.heap.size)
  generalize hAe : va_A (wX2_readCalled h0 h1 h2 h3 h4 kc2 kc3 kc4 V0 v1_token v1_tokenAt v1_name v1_fault v1_faultAt v1_size v1_next c2 c3 c4) s.heap.size = A at hD ⊢
  have hA : ∀ q : Nat, s.heap.size ≤ q → A q := fun q h => by rw [← hAe]; exact Or.inr h
  have hAB : ∀ q : Nat, A q → base.1 ≤ q := fun q h => by rw [← hAe] at h; exact h.elim (fun ⟨k, e, hk⟩ => hD0.2 k _ hk) (fun hk => Nat.le_trans hE.1 hk)
  have hS : va_S A s.heap s.heap [] := va_S.rf
  have hl := lv_entry ([.ref h0, .int a0]) (n := 2) (Nat.le_of_ble_eq_true rfl)
  rw [lg_entry_eq]
  generalize (lg_sl ([.ref h0, .int a0]) ++ List.replicate (2 - (lg_sl ([.ref h0, .int a0])).length) Slot.unset).toArray = ls at hl ⊢
  have hl : lv_has ls 2 [(0, .ref h0), (1, .int a0)] := hl
  have hP : va_P (dC, dI) vwCl (wX2_readCalled h0 h1 h2 h3 h4 kc2 kc3 kc4 V0 v1_token v1_tokenAt v1_name v1_fault v1_faultAt v1_size v1_next c2 c3 c4) s.heap := hP
  obtain ⟨H, hH⟩ : ∃ H, H = s.heap := ⟨_, rfl⟩
  have hS : va_S A s.heap H [] := by rw [hH]; exact hS
  rw [← hH] at hP ⊢
  generalize ([] : List Loc) = locs at hS ⊢
  unfold fX2_readCalled at hf
  refine lv_aload_n hx hb dX2_readCalled_0 rfl (lv_at hl 0 rfl) ?_
  refine va_get (D := (dC, dI)) (ci := 2) (v := .ref h2) (C := RX2) (T := TX2) (N := 7) hx hb hts inlX2 hown hK hP 0 rfl rfl 5 (by decide) w0_ (fun _ h9 => h9) rfl dX2_readCalled_1 ?_
  refine lv_iload_n hx hb dX2_readCalled_4 rfl (lv_at hl 1 rfl) ?_
  refine lv_aload_n hx hb dX2_readCalled_5 rfl (lv_at hl 0 rfl) ?_
  refine va_get (D := (dC, dI)) (ci := 2) (v := .ref h1) (C := RX2) (T := TX2) (N := 7) hx hb hts inlX2 hown hK hP 0 rfl rfl 0 (by decide) w1_ (fun _ h9 => h9) rfl dX2_readCalled_6 ?_
  refine va_get (D := (dC, dI)) (ci := 4) (v := .long v1_name) (C := RX4) (T := TX4) (N := 8) hx hb hts inlX4 hown hK hP 1 rfl rfl 2 (by decide) w2_ (fun _ h9 => h9) rfl dX2_readCalled_9 ?_
  have b1 := bd_in hf
  replace hf := bd_k hf
  obtain ⟨c1x, e1⟩ : ∃ y, y = vp_updL c2 a0.toNatClampNeg v1_name := ⟨_, rfl⟩
  replace hf := nm_at hf e1
  refine va_last hx hb hK hP hD hS 2 0 rfl rfl b1 dX2_readCalled_12 (fun H locs hP hD hS => ?_)
  have hP : va_P (dC, dI) vwCl (wX2_readCalled h0 h1 h2 h3 h4 kc2 kc3 kc4 V0 v1_token v1_tokenAt v1_name v1_fault v1_faultAt v1_size v1_next c1x c3 c4) H := by rw [e1]; exact hP
  have hD : va_D A (wX2_readCalled h0 h1 h2 h3 h4 kc2 kc3 kc4 V0 v1_token v1_tokenAt v1_name v1_fault v1_faultAt v1_size v1_next c1x c3 c4) := by rw [e1]; exact hD
  refine lv_aload_n hx hb dX2_readCalled_13 rfl (lv_at hl 0 rfl) ?_
  refine va_get (D := (dC, dI)) (ci := 2) (v := .ref h3) (C := RX2) (T := TX2) (N := 7) hx hb hts inlX2 hown hK hP 0 rfl rfl 6 (by decide) w3_ (fun _ h9 => h9) rfl dX2_readCalled_14 ?_
  refine lv_iload_n hx hb dX2_readCalled_17 rfl (lv_at hl 1 rfl) ?_
  refine lv_aload_n hx hb dX2_readCalled_18 rfl (lv_at hl 0 rfl) ?_
  refine va_get (D := (dC, dI)) (ci := 2) (v := .ref h1) (C := RX2) (T := TX2) (N := 7) hx hb hts inlX2 hown hK hP 0 rfl rfl 0 (by decide) w1_ (fun _ h9 => h9) rfl dX2_readCalled_19 ?_
  refine va_get (D := (dC, dI)) (ci := 4) (v := .int v1_tokenAt) (C := RX4) (T := TX4) (N := 8) hx hb hts inlX4 hown hK hP 1 rfl rfl 1 (by decide) w4_ (fun _ h9 => h9) rfl dX2_readCalled_22 ?_
  have b2 := bd_in hf
  replace hf := bd_k hf
  obtain ⟨c2x, e2⟩ : ∃ y, y = upd c3 a0.toNatClampNeg v1_tokenAt := ⟨_, rfl⟩
  replace hf := nm_at hf e2
  refine va_iast hx hb hK hP hD hS 3 1 rfl rfl b2 dX2_readCalled_25 (fun H locs hP hD hS => ?_)
  have hP : va_P (dC, dI) vwCl (wX2_readCalled h0 h1 h2 h3 h4 kc2 kc3 kc4 V0 v1_token v1_tokenAt v1_name v1_fault v1_faultAt v1_size v1_next c1x c2x c4) H := by rw [e2]; exact hP
  have hD : va_D A (wX2_readCalled h0 h1 h2 h3 h4 kc2 kc3 kc4 V0 v1_token v1_tokenAt v1_name v1_fault v1_faultAt v1_size v1_next c1x c2x c4) := by rw [e2]; exact hD
  refine lv_aload_n hx hb dX2_readCalled_26 rfl (lv_at hl 0 rfl) ?_
  refine va_get (D := (dC, dI)) (ci := 2) (v := .ref h1) (C := RX2) (T := TX2) (N := 7) hx hb hts inlX2 hown hK hP 0 rfl rfl 0 (by decide) w1_ (fun _ h9 => h9) rfl dX2_readCalled_27 ?_
  refine lv_sipush (v := 258) hx hb dX2_readCalled_30 (by decide +kernel) ?_
  obtain ⟨o3, e3, hf⟩ := ob_some hf
  refine kVi (As := [.int 258]) (rest := []) ⟨hx, hb, hml, hown, hts⟩ (mX4_skipToken l dC dI h1 h4 kc4 H.size base 258 v1_token v1_tokenAt v1_name v1_fault v1_faultAt v1_size v1_next c4 o3 e3) (cwV 1 hts (gTV q687 q688 q689 q19 q690) rfl rfl rfl (by decide +kernel) ⟨Nat.le_of_ble_eq_true rfl, Nat.le_of_ble_eq_true rfl⟩) hK hP hD hS hA hE hAB [1, 4] [0, 2, 3] [2] (wr := [(h0, .inr (2, [.ref h1, V0 1, V0 2, V0 3, V0 4, .ref h2, .ref h3])), (h2, .inl (kc2, 40, .inr (.inl c1x))), (h3, .inl (kc3, 40, .inl c2x))]) rfl rfl (by decide) (by decide) (by decide) rfl (ci := 4) (q0 := 0) rfl rfl rfl rfl hl.1 rfl (Nat.le_of_ble_eq_true rfl) dX2_readCalled_33 ⟨Nat.zero_le _, Nat.zero_le _⟩ (fun r3 u3 H locs hw3 hP hD hS => ?_)
  obtain ⟨hw31, hw32⟩ := hw3
  subst hw31 hw32
  have hP : va_P (dC, dI) vwCl (wX2_readCalled h0 h1 h2 h3 h4 kc2 kc3 kc4 V0 o3.2.1 o3.2.2.1 o3.2.2.2.1 o3.2.2.2.2.1 o3.2.2.2.2.2.1 v1_size o3.2.2.2.2.2.2 c1x c2x c4) H := hP.sub [0, 3, 1, 2, 4] rfl
  have hD : va_D A (wX2_readCalled h0 h1 h2 h3 h4 kc2 kc3 kc4 V0 o3.2.1 o3.2.2.1 o3.2.2.2.1 o3.2.2.2.2.1 o3.2.2.2.2.2.1 v1_size o3.2.2.2.2.2.2 c1x c2x c4) := hD.sub [0, 3, 1, 2, 4] (by decide) rfl
  refine lv_pop hx hb dX2_readCalled_36 rfl ?_
  have hf1 := Option.some.inj hf
  subst hf1
  have hP9 := hP.sub (ws' := (wX2_readCalled h0 h1 h2 h3 h4 kc2 kc3 kc4 V0 o3.2.1 o3.2.2.1 o3.2.2.2.1 o3.2.2.2.2.1 o3.2.2.2.2.2.1 v1_size o3.2.2.2.2.2.2 c1x c2x c4)) [0, 1, 2, 3, 4] rfl
  have hD9 := hD.sub (ws' := (wX2_readCalled h0 h1 h2 h3 h4 kc2 kc3 kc4 V0 o3.2.1 o3.2.2.1 o3.2.2.2.1 o3.2.2.2.2.1 o3.2.2.2.2.2.1 v1_size o3.2.2.2.2.2.2 c1x c2x c4)) [0, 1, 2, 3, 4] (by decide) rfl
  exact W.vret hx hb hr (fun t ht hW => ⟨⟨(o3.2.1, o3.2.2.1, o3.2.2.2.1, o3.2.2.2.2.1, o3.2.2.2.2.2.1, o3.2.2.2.2.2.2, c1x, c2x), rfl, rfl, by rw [ht]; exact hP9, va_K.moved hW.alike hK, hD9⟩, hS.F ht⟩) hS.2.2 dX2_readCalled_37
abbrev wX2_readBlock (h0 h1 h2 h3 h4 h5 h6 h7 h8 h9 h10 h11 h12 h13 h14 h15 h16 : Nat) (kc2 kc4 kc5 kc6 kc7 kc8 kc9 kc10 kc11 kc12 kc13 kc14 kc15 kc16 : ClassId) (V0 : Nat → Value) (V3 : Nat → Value) (v0_locals : Int32) (v1_token : Int32) (v1_tokenAt : Int32) (v1_name : Int64) (v1_fault : Int32) (v1_faultAt : Int32) (v1_size : Int32) (v1_next : Int32) (c2 : Nat → Int32) (v3_globals : Int32) (v3_procedures : Int32) (v3_statements : Int32) (c4 : Nat → Int32) (c5 : Nat → Int32) (c6 : Nat → Int32) (c7 : Nat → Int64) (c8 : Nat → Int32) (c9 : Nat → Int32) (c10 : Nat → Int32) (c11 : Nat → Int32) (c12 : Nat → Int32) (c13 : Nat → Int32) (c14 : Nat → Int64) (c15 : Nat → Int64) (c16 : Nat → Int32) : va_W := [(h0, .inr (2, [.ref h1, .ref h3, .ref h14, .int v0_locals, V0 4, .ref h15, .ref h16])), (h1, .inr (4, [.int v1_token, .int v1_tokenAt, .long v1_name, .int v1_fault, .int v1_faultAt, .ref h2, .int v1_size, .int v1_next])), (h2, .inl (kc2, 600, .inl c2)), (h3, .inr (3, [V3 0, .int v3_globals, .int v3_procedures, .int v3_statements, V3 4, .ref h4, .ref h5, .ref h6, .ref h7, .ref h8, .ref h9, V3 11, V3 12, .ref h10, .ref h11, .ref h12, .ref h13, V3 17])), (h4, .inl (kc4, 40, .inl c4)), (h5, .inl (kc5, 40, .inl c5)), (h6, .inl (kc6, 40, .inl c6)), (h7, .inl (kc7, 40, .inr (.inl c7))), (h8, .inl (kc8, 40, .inl c8)), (h9, .inl (kc9, 40, .inl c9)), (h10, .inl (kc10, 40, .inl c10)), (h11, .inl (kc11, 40, .inl c11)), (h12, .inl (kc12, 40, .inl c12)), (h13, .inl (kc13, 40, .inl c13)), (h14, .inl (kc14, 5, .inr (.inl c14))), (h15, .inl (kc15, 40, .inr (.inl c15))), (h16, .inl (kc16, 40, .inl c16))]
def KX2_readBlock (k : Int32 → Int32 → Int32 → Int32 → Int32 → Int64 → Int32 → Int32 → Int32 → Int32 → (Nat → Int32) → Int32 → Int32 → Int32 → (Nat → Int32) → (Nat → Int32) → (Nat → Int32) → (Nat → Int64) → (Nat → Int32) → (Nat → Int32) → (Nat → Int32) → (Nat → Int32) → (Nat → Int32) → (Nat → Int32) → (Nat → Int64) → (Nat → Int64) → (Nat → Int32) → Option (Int32 × Int32 × Int32 × Int64 × Int32 × Int32 × Int32 × Int32 × (Nat → Int32) × (Nat → Int32) × (Nat → Int32) × (Nat → Int64) × (Nat → Int32) × (Nat → Int32) × (Nat → Int32) × (Nat → Int32) × (Nat → Int32) × (Nat → Int32) × (Nat → Int64) × (Nat → Int32))) (F L : Nat) : Prop := ∀ (l : Launch) (dC : Nat → ClassId) (dI : Nat → Nat → Nat) (h0 h1 h2 h3 h4 h5 h6 h7 h8 h9 h10 h11 h12 h13 h14 h15 h16 : Nat) (kc2 kc4 kc5 kc6 kc7 kc8 kc9 kc10 kc11 kc12 kc13 kc14 kc15 kc16 : ClassId) (sz : Nat) (base : Nat × Nat × Nat) (a0 : Int32) (a1 : Int32) (v0_locals : Int32) (v1_token : Int32) (v1_tokenAt : Int32) (v1_name : Int64) (v1_fault : Int32) (v1_faultAt : Int32) (v1_size : Int32) (v1_next : Int32) (c2 : Nat → Int32) (v3_globals : Int32) (v3_procedures : Int32) (v3_statements : Int32) (c4 : Nat → Int32) (c5 : Nat → Int32) (c6 : Nat → Int32) (c7 : Nat → Int64) (c8 : Nat → Int32) (c9 : Nat → Int32) (c10 : Nat → Int32) (c11 : Nat → Int32) (c12 : Nat → Int32) (c13 : Nat → Int32) (c14 : Nat → Int64) (c15 : Nat → Int64) (c16 : Nat → Int32) (V0 : Nat → Value) (V3 : Nat → Value) (o : Int32 × Int32 × Int32 × Int64 × Int32 × Int32 × Int32 × Int32 × (Nat → Int32) × (Nat → Int32) × (Nat → Int32) × (Nat → Int64) × (Nat → Int32) × (Nat → Int32) × (Nat → Int32) × (Nat → Int32) × (Nat → Int32) × (Nat → Int32) × (Nat → Int64) × (Nat → Int32)) (hf : k a0 a1 v0_locals v1_token v1_tokenAt v1_name v1_fault v1_faultAt v1_size v1_next c2 v3_globals v3_procedures v3_statements c4 c5 c6 c7 c8 c9 c10 c11 c12 c13 c14 c15 c16 = some o), Met l yX2_readBlock (.code yX2_readBlock cX2_readBlock 4 (some .int) :: wsL_law) ({ frames := F, cells := 0, slots := 0, locals := L }) (cPre (dC, dI) vwCl [.ref h0, .int a0, .int a1] sz base (wX2_readBlock h0 h1 h2 h3 h4 h5 h6 h7 h8 h9 h10 h11 h12 h13 h14 h15 h16 kc2 kc4 kc5 kc6 kc7 kc8 kc9 kc10 kc11 kc12 kc13 kc14 kc15 kc16 V0 V3 v0_locals v1_token v1_tokenAt v1_name v1_fault v1_faultAt v1_size v1_next c2 v3_globals v3_procedures v3_statements c4 c5 c6 c7 c8 c9 c10 c11 c12 c13 c14 c15 c16) [(kc2, .byte), (kc4, .int), (kc5, .int), (kc6, .int), (kc7, .long), (kc8, .int), (kc9, .int), (kc10, .int), (kc11, .int), (kc12, .int), (kc13, .int), (kc14, .long), (kc15, .long), (kc16, .int)]) (va_Qi (fun r u => r = o.1 ∧ u = o.2) (fun (u : Int32 × Int32 × Int64 × Int32 × Int32 × Int32 × Int32 × (Nat → Int32) × (Nat → Int32) × (Nat → Int32) × (Nat → Int64) × (Nat → Int32) × (Nat → Int32) × (Nat → Int32) × (Nat → Int32) × (Nat → Int32) × (Nat → Int32) × (Nat → Int64) × (Nat → Int32)) t => cPost (dC, dI) vwCl (va_A (wX2_readBlock h0 h1 h2 h3 h4 h5 h6 h7 h8 h9 h10 h11 h12 h13 h14 h15 h16 kc2 kc4 kc5 kc6 kc7 kc8 kc9 kc10 kc11 kc12 kc13 kc14 kc15 kc16 V0 V3 v0_locals v1_token v1_tokenAt v1_name v1_fault v1_faultAt v1_size v1_next c2 v3_globals v3_procedures v3_statements c4 c5 c6 c7 c8 c9 c10 c11 c12 c13 c14 c15 c16) sz) (wX2_readBlock h0 h1 h2 h3 h4 h5 h6 h7 h8 h9 h10 h11 h12 h13 h14 h15 h16 kc2 kc4 kc5 kc6 kc7 kc8 kc9 kc10 kc11 kc12 kc13 kc14 kc15 kc16 V0 V3 v0_locals u.1 u.2.1 u.2.2.1 u.2.2.2.1 u.2.2.2.2.1 v1_size u.2.2.2.2.2.1 c2 v3_globals v3_procedures u.2.2.2.2.2.2.1 u.2.2.2.2.2.2.2.1 u.2.2.2.2.2.2.2.2.1 u.2.2.2.2.2.2.2.2.2.1 u.2.2.2.2.2.2.2.2.2.2.1 u.2.2.2.2.2.2.2.2.2.2.2.1 u.2.2.2.2.2.2.2.2.2.2.2.2.1 u.2.2.2.2.2.2.2.2.2.2.2.2.2.1 u.2.2.2.2.2.2.2.2.2.2.2.2.2.2.1 u.2.2.2.2.2.2.2.2.2.2.2.2.2.2.2.1 u.2.2.2.2.2.2.2.2.2.2.2.2.2.2.2.2.1 c14 u.2.2.2.2.2.2.2.2.2.2.2.2.2.2.2.2.2.1 u.2.2.2.2.2.2.2.2.2.2.2.2.2.2.2.2.2.2) [(kc2, .byte), (kc4, .int), (kc5, .int), (kc6, .int), (kc7, .long), (kc8, .int), (kc9, .int), (kc10, .int), (kc11, .int), (kc12, .int), (kc13, .int), (kc14, .long), (kc15, .long), (kc16, .int)] t) (va_A (wX2_readBlock h0 h1 h2 h3 h4 h5 h6 h7 h8 h9 h10 h11 h12 h13 h14 h15 h16 kc2 kc4 kc5 kc6 kc7 kc8 kc9 kc10 kc11 kc12 kc13 kc14 kc15 kc16 V0 V3 v0_locals v1_token v1_tokenAt v1_name v1_fault v1_faultAt v1_size v1_next c2 v3_globals v3_procedures v3_statements c4 c5 c6 c7 c8 c9 c10 c11 c12 c13 c14 c15 c16) sz)) 0 0 (va_A (wX2_readBlock h0 h1 h2 h3 h4 h5 h6 h7 h8 h9 h10 h11 h12 h13 h14 h15 h16 kc2 kc4 kc5 kc6 kc7 kc8 kc9 kc10 kc11 kc12 kc13 kc14 kc15 kc16 V0 V3 v0_locals v1_token v1_tokenAt v1_name v1_fault v1_faultAt v1_size v1_next c2 v3_globals v3_procedures v3_statements c4 c5 c6 c7 c8 c9 c10 c11 c12 c13 c14 c15 c16) sz)
abbrev wX2_readBranch (h0 h1 h2 h3 h4 h5 h6 h7 h8 h9 h10 h11 h12 h13 h14 h15 h16 : Nat) (kc2 kc4 kc5 kc6 kc7 kc8 kc9 kc10 kc11 kc12 kc13 kc14 kc15 kc16 : ClassId) (V0 : Nat → Value) (V3 : Nat → Value) (v0_locals : Int32) (v1_token : Int32) (v1_tokenAt : Int32) (v1_name : Int64) (v1_fault : Int32) (v1_faultAt : Int32) (v1_size : Int32) (v1_next : Int32) (c2 : Nat → Int32) (v3_globals : Int32) (v3_procedures : Int32) (v3_statements : Int32) (c4 : Nat → Int64) (c5 : Nat → Int64) (c6 : Nat → Int32) (c7 : Nat → Int32) (c8 : Nat → Int32) (c9 : Nat → Int32) (c10 : Nat → Int32) (c11 : Nat → Int32) (c12 : Nat → Int32) (c13 : Nat → Int32) (c14 : Nat → Int32) (c15 : Nat → Int64) (c16 : Nat → Int32) : va_W := [(h0, .inr (2, [.ref h1, .ref h3, .ref h4, .int v0_locals, V0 4, .ref h15, .ref h16])), (h1, .inr (4, [.int v1_token, .int v1_tokenAt, .long v1_name, .int v1_fault, .int v1_faultAt, .ref h2, .int v1_size, .int v1_next])), (h2, .inl (kc2, 600, .inl c2)), (h3, .inr (3, [V3 0, .int v3_globals, .int v3_procedures, .int v3_statements, V3 4, .ref h6, .ref h7, .ref h8, .ref h5, .ref h9, .ref h10, V3 11, V3 12, .ref h11, .ref h12, .ref h13, .ref h14, V3 17])), (h4, .inl (kc4, 5, .inr (.inl c4))), (h5, .inl (kc5, 40, .inr (.inl c5))), (h6, .inl (kc6, 40, .inl c6)), (h7, .inl (kc7, 40, .inl c7)), (h8, .inl (kc8, 40, .inl c8)), (h9, .inl (kc9, 40, .inl c9)), (h10, .inl (kc10, 40, .inl c10)), (h11, .inl (kc11, 40, .inl c11)), (h12, .inl (kc12, 40, .inl c12)), (h13, .inl (kc13, 40, .inl c13)), (h14, .inl (kc14, 40, .inl c14)), (h15, .inl (kc15, 40, .inr (.inl c15))), (h16, .inl (kc16, 40, .inl c16))]
def KX2_readBranch (k : Int32 → Int32 → Int32 → Int32 → Int32 → Int64 → Int32 → Int32 → Int32 → Int32 → (Nat → Int32) → Int32 → Int32 → Int32 → (Nat → Int64) → (Nat → Int64) → (Nat → Int32) → (Nat → Int32) → (Nat → Int32) → (Nat → Int32) → (Nat → Int32) → (Nat → Int32) → (Nat → Int32) → (Nat → Int32) → (Nat → Int32) → (Nat → Int64) → (Nat → Int32) → Option (Int32 × Int32 × Int64 × Int32 × Int32 × Int32 × Int32 × (Nat → Int64) × (Nat → Int32) × (Nat → Int32) × (Nat → Int32) × (Nat → Int32) × (Nat → Int32) × (Nat → Int32) × (Nat → Int32) × (Nat → Int32) × (Nat → Int32) × (Nat → Int64) × (Nat → Int32))) (F L : Nat) : Prop := ∀ (l : Launch) (dC : Nat → ClassId) (dI : Nat → Nat → Nat) (h0 h1 h2 h3 h4 h5 h6 h7 h8 h9 h10 h11 h12 h13 h14 h15 h16 : Nat) (kc2 kc4 kc5 kc6 kc7 kc8 kc9 kc10 kc11 kc12 kc13 kc14 kc15 kc16 : ClassId) (sz : Nat) (base : Nat × Nat × Nat) (a0 : Int32) (a1 : Int32) (v0_locals : Int32) (v1_token : Int32) (v1_tokenAt : Int32) (v1_name : Int64) (v1_fault : Int32) (v1_faultAt : Int32) (v1_size : Int32) (v1_next : Int32) (c2 : Nat → Int32) (v3_globals : Int32) (v3_procedures : Int32) (v3_statements : Int32) (c4 : Nat → Int64) (c5 : Nat → Int64) (c6 : Nat → Int32) (c7 : Nat → Int32) (c8 : Nat → Int32) (c9 : Nat → Int32) (c10 : Nat → Int32) (c11 : Nat → Int32) (c12 : Nat → Int32) (c13 : Nat → Int32) (c14 : Nat → Int32) (c15 : Nat → Int64) (c16 : Nat → Int32) (V0 : Nat → Value) (V3 : Nat → Value) (o : Int32 × Int32 × Int64 × Int32 × Int32 × Int32 × Int32 × (Nat → Int64) × (Nat → Int32) × (Nat → Int32) × (Nat → Int32) × (Nat → Int32) × (Nat → Int32) × (Nat → Int32) × (Nat → Int32) × (Nat → Int32) × (Nat → Int32) × (Nat → Int64) × (Nat → Int32)) (hf : k a0 a1 v0_locals v1_token v1_tokenAt v1_name v1_fault v1_faultAt v1_size v1_next c2 v3_globals v3_procedures v3_statements c4 c5 c6 c7 c8 c9 c10 c11 c12 c13 c14 c15 c16 = some o), Met l yX2_readBranch (.code yX2_readBranch cX2_readBranch 3 none :: wsL_law) ({ frames := F, cells := 0, slots := 0, locals := L }) (cPre (dC, dI) vwCl [.ref h0, .int a0, .int a1] sz base (wX2_readBranch h0 h1 h2 h3 h4 h5 h6 h7 h8 h9 h10 h11 h12 h13 h14 h15 h16 kc2 kc4 kc5 kc6 kc7 kc8 kc9 kc10 kc11 kc12 kc13 kc14 kc15 kc16 V0 V3 v0_locals v1_token v1_tokenAt v1_name v1_fault v1_faultAt v1_size v1_next c2 v3_globals v3_procedures v3_statements c4 c5 c6 c7 c8 c9 c10 c11 c12 c13 c14 c15 c16) [(kc2, .byte), (kc4, .long), (kc5, .long), (kc6, .int), (kc7, .int), (kc8, .int), (kc9, .int), (kc10, .int), (kc11, .int), (kc12, .int), (kc13, .int), (kc14, .int), (kc15, .long), (kc16, .int)]) (va_Qv (fun u => u = o) (fun (u : Int32 × Int32 × Int64 × Int32 × Int32 × Int32 × Int32 × (Nat → Int64) × (Nat → Int32) × (Nat → Int32) × (Nat → Int32) × (Nat → Int32) × (Nat → Int32) × (Nat → Int32) × (Nat → Int32) × (Nat → Int32) × (Nat → Int32) × (Nat → Int64) × (Nat → Int32)) t => cPost (dC, dI) vwCl (va_A (wX2_readBranch h0 h1 h2 h3 h4 h5 h6 h7 h8 h9 h10 h11 h12 h13 h14 h15 h16 kc2 kc4 kc5 kc6 kc7 kc8 kc9 kc10 kc11 kc12 kc13 kc14 kc15 kc16 V0 V3 v0_locals v1_token v1_tokenAt v1_name v1_fault v1_faultAt v1_size v1_next c2 v3_globals v3_procedures v3_statements c4 c5 c6 c7 c8 c9 c10 c11 c12 c13 c14 c15 c16) sz) (wX2_readBranch h0 h1 h2 h3 h4 h5 h6 h7 h8 h9 h10 h11 h12 h13 h14 h15 h16 kc2 kc4 kc5 kc6 kc7 kc8 kc9 kc10 kc11 kc12 kc13 kc14 kc15 kc16 V0 V3 v0_locals u.1 u.2.1 u.2.2.1 u.2.2.2.1 u.2.2.2.2.1 v1_size u.2.2.2.2.2.1 c2 v3_globals v3_procedures u.2.2.2.2.2.2.1 c4 u.2.2.2.2.2.2.2.1 u.2.2.2.2.2.2.2.2.1 u.2.2.2.2.2.2.2.2.2.1 u.2.2.2.2.2.2.2.2.2.2.1 u.2.2.2.2.2.2.2.2.2.2.2.1 u.2.2.2.2.2.2.2.2.2.2.2.2.1 u.2.2.2.2.2.2.2.2.2.2.2.2.2.1 u.2.2.2.2.2.2.2.2.2.2.2.2.2.2.1 u.2.2.2.2.2.2.2.2.2.2.2.2.2.2.2.1 u.2.2.2.2.2.2.2.2.2.2.2.2.2.2.2.2.1 u.2.2.2.2.2.2.2.2.2.2.2.2.2.2.2.2.2.1 u.2.2.2.2.2.2.2.2.2.2.2.2.2.2.2.2.2.2) [(kc2, .byte), (kc4, .long), (kc5, .long), (kc6, .int), (kc7, .int), (kc8, .int), (kc9, .int), (kc10, .int), (kc11, .int), (kc12, .int), (kc13, .int), (kc14, .int), (kc15, .long), (kc16, .int)] t) (va_A (wX2_readBranch h0 h1 h2 h3 h4 h5 h6 h7 h8 h9 h10 h11 h12 h13 h14 h15 h16 kc2 kc4 kc5 kc6 kc7 kc8 kc9 kc10 kc11 kc12 kc13 kc14 kc15 kc16 V0 V3 v0_locals v1_token v1_tokenAt v1_name v1_fault v1_faultAt v1_size v1_next c2 v3_globals v3_procedures v3_statements c4 c5 c6 c7 c8 c9 c10 c11 c12 c13 c14 c15 c16) sz)) 0 0 (va_A (wX2_readBranch h0 h1 h2 h3 h4 h5 h6 h7 h8 h9 h10 h11 h12 h13 h14 h15 h16 kc2 kc4 kc5 kc6 kc7 kc8 kc9 kc10 kc11 kc12 kc13 kc14 kc15 kc16 V0 V3 v0_locals v1_token v1_tokenAt v1_name v1_fault v1_faultAt v1_size v1_next c2 v3_globals v3_procedures v3_statements c4 c5 c6 c7 c8 c9 c10 c11 c12 c13 c14 c15 c16) sz)
abbrev wX2_readStatement (h0 h1 h2 h3 h4 h5 h6 h7 h8 h9 h10 h11 h12 h13 h14 h15 h16 : Nat) (kc3 kc4 kc5 kc6 kc7 kc8 kc9 kc10 kc11 kc12 kc13 kc14 kc15 kc16 : ClassId) (V0 : Nat → Value) (V2 : Nat → Value) (v0_locals : Int32) (v1_token : Int32) (v1_tokenAt : Int32) (v1_name : Int64) (v1_fault : Int32) (v1_faultAt : Int32) (v1_size : Int32) (v1_next : Int32) (v2_globals : Int32) (v2_procedures : Int32) (v2_statements : Int32) (c3 : Nat → Int32) (c4 : Nat → Int32) (c5 : Nat → Int32) (c6 : Nat → Int64) (c7 : Nat → Int32) (c8 : Nat → Int32) (c9 : Nat → Int32) (c10 : Nat → Int32) (c11 : Nat → Int32) (c12 : Nat → Int32) (c13 : Nat → Int32) (c14 : Nat → Int64) (c15 : Nat → Int64) (c16 : Nat → Int32) : va_W := [(h0, .inr (2, [.ref h1, .ref h2, .ref h14, .int v0_locals, V0 4, .ref h15, .ref h16])), (h1, .inr (4, [.int v1_token, .int v1_tokenAt, .long v1_name, .int v1_fault, .int v1_faultAt, .ref h13, .int v1_size, .int v1_next])), (h2, .inr (3, [V2 0, .int v2_globals, .int v2_procedures, .int v2_statements, V2 4, .ref h3, .ref h4, .ref h5, .ref h6, .ref h7, .ref h8, V2 11, V2 12, .ref h9, .ref h10, .ref h11, .ref h12, V2 17])), (h3, .inl (kc3, 40, .inl c3)), (h4, .inl (kc4, 40, .inl c4)), (h5, .inl (kc5, 40, .inl c5)), (h6, .inl (kc6, 40, .inr (.inl c6))), (h7, .inl (kc7, 40, .inl c7)), (h8, .inl (kc8, 40, .inl c8)), (h9, .inl (kc9, 40, .inl c9)), (h10, .inl (kc10, 40, .inl c10)), (h11, .inl (kc11, 40, .inl c11)), (h12, .inl (kc12, 40, .inl c12)), (h13, .inl (kc13, 600, .inl c13)), (h14, .inl (kc14, 5, .inr (.inl c14))), (h15, .inl (kc15, 40, .inr (.inl c15))), (h16, .inl (kc16, 40, .inl c16))]
def KX2_readStatement (k : Int32 → Int32 → Int32 → Int32 → Int32 → Int64 → Int32 → Int32 → Int32 → Int32 → Int32 → Int32 → Int32 → (Nat → Int32) → (Nat → Int32) → (Nat → Int32) → (Nat → Int64) → (Nat → Int32) → (Nat → Int32) → (Nat → Int32) → (Nat → Int32) → (Nat → Int32) → (Nat → Int32) → (Nat → Int32) → (Nat → Int64) → (Nat → Int64) → (Nat → Int32) → Option (Int32 × Int32 × Int32 × Int64 × Int32 × Int32 × Int32 × Int32 × (Nat → Int32) × (Nat → Int32) × (Nat → Int32) × (Nat → Int64) × (Nat → Int32) × (Nat → Int32) × (Nat → Int32) × (Nat → Int32) × (Nat → Int32) × (Nat → Int32) × (Nat → Int64) × (Nat → Int32))) (F L : Nat) : Prop := ∀ (l : Launch) (dC : Nat → ClassId) (dI : Nat → Nat → Nat) (h0 h1 h2 h3 h4 h5 h6 h7 h8 h9 h10 h11 h12 h13 h14 h15 h16 : Nat) (kc3 kc4 kc5 kc6 kc7 kc8 kc9 kc10 kc11 kc12 kc13 kc14 kc15 kc16 : ClassId) (sz : Nat) (base : Nat × Nat × Nat) (a0 : Int32) (a1 : Int32) (v0_locals : Int32) (v1_token : Int32) (v1_tokenAt : Int32) (v1_name : Int64) (v1_fault : Int32) (v1_faultAt : Int32) (v1_size : Int32) (v1_next : Int32) (v2_globals : Int32) (v2_procedures : Int32) (v2_statements : Int32) (c3 : Nat → Int32) (c4 : Nat → Int32) (c5 : Nat → Int32) (c6 : Nat → Int64) (c7 : Nat → Int32) (c8 : Nat → Int32) (c9 : Nat → Int32) (c10 : Nat → Int32) (c11 : Nat → Int32) (c12 : Nat → Int32) (c13 : Nat → Int32) (c14 : Nat → Int64) (c15 : Nat → Int64) (c16 : Nat → Int32) (V0 : Nat → Value) (V2 : Nat → Value) (o : Int32 × Int32 × Int32 × Int64 × Int32 × Int32 × Int32 × Int32 × (Nat → Int32) × (Nat → Int32) × (Nat → Int32) × (Nat → Int64) × (Nat → Int32) × (Nat → Int32) × (Nat → Int32) × (Nat → Int32) × (Nat → Int32) × (Nat → Int32) × (Nat → Int64) × (Nat → Int32)) (hf : k a0 a1 v0_locals v1_token v1_tokenAt v1_name v1_fault v1_faultAt v1_size v1_next v2_globals v2_procedures v2_statements c3 c4 c5 c6 c7 c8 c9 c10 c11 c12 c13 c14 c15 c16 = some o), Met l yX2_readStatement (.code yX2_readStatement cX2_readStatement 5 (some .int) :: wsL_law) ({ frames := F, cells := 0, slots := 0, locals := L }) (cPre (dC, dI) vwCl [.ref h0, .int a0, .int a1] sz base (wX2_readStatement h0 h1 h2 h3 h4 h5 h6 h7 h8 h9 h10 h11 h12 h13 h14 h15 h16 kc3 kc4 kc5 kc6 kc7 kc8 kc9 kc10 kc11 kc12 kc13 kc14 kc15 kc16 V0 V2 v0_locals v1_token v1_tokenAt v1_name v1_fault v1_faultAt v1_size v1_next v2_globals v2_procedures v2_statements c3 c4 c5 c6 c7 c8 c9 c10 c11 c12 c13 c14 c15 c16) [(kc3, .int), (kc4, .int), (kc5, .int), (kc6, .long), (kc7, .int), (kc8, .int), (kc9, .int), (kc10, .int), (kc11, .int), (kc12, .int), (kc13, .byte), (kc14, .long), (kc15, .long), (kc16, .int)]) (va_Qi (fun r u => r = o.1 ∧ u = o.2) (fun (u : Int32 × Int32 × Int64 × Int32 × Int32 × Int32 × Int32 × (Nat → Int32) × (Nat → Int32) × (Nat → Int32) × (Nat → Int64) × (Nat → Int32) × (Nat → Int32) × (Nat → Int32) × (Nat → Int32) × (Nat → Int32) × (Nat → Int32) × (Nat → Int64) × (Nat → Int32)) t => cPost (dC, dI) vwCl (va_A (wX2_readStatement h0 h1 h2 h3 h4 h5 h6 h7 h8 h9 h10 h11 h12 h13 h14 h15 h16 kc3 kc4 kc5 kc6 kc7 kc8 kc9 kc10 kc11 kc12 kc13 kc14 kc15 kc16 V0 V2 v0_locals v1_token v1_tokenAt v1_name v1_fault v1_faultAt v1_size v1_next v2_globals v2_procedures v2_statements c3 c4 c5 c6 c7 c8 c9 c10 c11 c12 c13 c14 c15 c16) sz) (wX2_readStatement h0 h1 h2 h3 h4 h5 h6 h7 h8 h9 h10 h11 h12 h13 h14 h15 h16 kc3 kc4 kc5 kc6 kc7 kc8 kc9 kc10 kc11 kc12 kc13 kc14 kc15 kc16 V0 V2 v0_locals u.1 u.2.1 u.2.2.1 u.2.2.2.1 u.2.2.2.2.1 v1_size u.2.2.2.2.2.1 v2_globals v2_procedures u.2.2.2.2.2.2.1 u.2.2.2.2.2.2.2.1 u.2.2.2.2.2.2.2.2.1 u.2.2.2.2.2.2.2.2.2.1 u.2.2.2.2.2.2.2.2.2.2.1 u.2.2.2.2.2.2.2.2.2.2.2.1 u.2.2.2.2.2.2.2.2.2.2.2.2.1 u.2.2.2.2.2.2.2.2.2.2.2.2.2.1 u.2.2.2.2.2.2.2.2.2.2.2.2.2.2.1 u.2.2.2.2.2.2.2.2.2.2.2.2.2.2.2.1 u.2.2.2.2.2.2.2.2.2.2.2.2.2.2.2.2.1 c13 c14 u.2.2.2.2.2.2.2.2.2.2.2.2.2.2.2.2.2.1 u.2.2.2.2.2.2.2.2.2.2.2.2.2.2.2.2.2.2) [(kc3, .int), (kc4, .int), (kc5, .int), (kc6, .long), (kc7, .int), (kc8, .int), (kc9, .int), (kc10, .int), (kc11, .int), (kc12, .int), (kc13, .byte), (kc14, .long), (kc15, .long), (kc16, .int)] t) (va_A (wX2_readStatement h0 h1 h2 h3 h4 h5 h6 h7 h8 h9 h10 h11 h12 h13 h14 h15 h16 kc3 kc4 kc5 kc6 kc7 kc8 kc9 kc10 kc11 kc12 kc13 kc14 kc15 kc16 V0 V2 v0_locals v1_token v1_tokenAt v1_name v1_fault v1_faultAt v1_size v1_next v2_globals v2_procedures v2_statements c3 c4 c5 c6 c7 c8 c9 c10 c11 c12 c13 c14 c15 c16) sz)) 0 0 (va_A (wX2_readStatement h0 h1 h2 h3 h4 h5 h6 h7 h8 h9 h10 h11 h12 h13 h14 h15 h16 kc3 kc4 kc5 kc6 kc7 kc8 kc9 kc10 kc11 kc12 kc13 kc14 kc15 kc16 V0 V2 v0_locals v1_token v1_tokenAt v1_name v1_fault v1_faultAt v1_size v1_next v2_globals v2_procedures v2_statements c3 c4 c5 c6 c7 c8 c9 c10 c11 c12 c13 c14 c15 c16) sz)
abbrev wX2_readStatements (h0 h1 h2 h3 h4 h5 h6 h7 h8 h9 h10 h11 h12 h13 h14 h15 h16 : Nat) (kc3 kc4 kc5 kc6 kc7 kc8 kc9 kc10 kc11 kc12 kc13 kc14 kc15 kc16 : ClassId) (V0 : Nat → Value) (V2 : Nat → Value) (v0_locals : Int32) (v1_token : Int32) (v1_tokenAt : Int32) (v1_name : Int64) (v1_fault : Int32) (v1_faultAt : Int32) (v1_size : Int32) (v1_next : Int32) (v2_globals : Int32) (v2_procedures : Int32) (v2_statements : Int32) (c3 : Nat → Int32) (c4 : Nat → Int32) (c5 : Nat → Int32) (c6 : Nat → Int64) (c7 : Nat → Int32) (c8 : Nat → Int32) (c9 : Nat → Int32) (c10 : Nat → Int32) (c11 : Nat → Int32) (c12 : Nat → Int32) (c13 : Nat → Int32) (c14 : Nat → Int64) (c15 : Nat → Int64) (c16 : Nat → Int32) : va_W := [(h0, .inr (2, [.ref h1, .ref h2, .ref h14, .int v0_locals, V0 4, .ref h15, .ref h16])), (h1, .inr (4, [.int v1_token, .int v1_tokenAt, .long v1_name, .int v1_fault, .int v1_faultAt, .ref h13, .int v1_size, .int v1_next])), (h2, .inr (3, [V2 0, .int v2_globals, .int v2_procedures, .int v2_statements, V2 4, .ref h3, .ref h4, .ref h5, .ref h6, .ref h7, .ref h8, V2 11, V2 12, .ref h9, .ref h10, .ref h11, .ref h12, V2 17])), (h3, .inl (kc3, 40, .inl c3)), (h4, .inl (kc4, 40, .inl c4)), (h5, .inl (kc5, 40, .inl c5)), (h6, .inl (kc6, 40, .inr (.inl c6))), (h7, .inl (kc7, 40, .inl c7)), (h8, .inl (kc8, 40, .inl c8)), (h9, .inl (kc9, 40, .inl c9)), (h10, .inl (kc10, 40, .inl c10)), (h11, .inl (kc11, 40, .inl c11)), (h12, .inl (kc12, 40, .inl c12)), (h13, .inl (kc13, 600, .inl c13)), (h14, .inl (kc14, 5, .inr (.inl c14))), (h15, .inl (kc15, 40, .inr (.inl c15))), (h16, .inl (kc16, 40, .inl c16))]
def KX2_readStatements (k : Int32 → Int32 → Int32 → Int32 → Int32 → Int64 → Int32 → Int32 → Int32 → Int32 → Int32 → Int32 → Int32 → (Nat → Int32) → (Nat → Int32) → (Nat → Int32) → (Nat → Int64) → (Nat → Int32) → (Nat → Int32) → (Nat → Int32) → (Nat → Int32) → (Nat → Int32) → (Nat → Int32) → (Nat → Int32) → (Nat → Int64) → (Nat → Int64) → (Nat → Int32) → Option (Int32 × Int32 × Int32 × Int64 × Int32 × Int32 × Int32 × Int32 × (Nat → Int32) × (Nat → Int32) × (Nat → Int32) × (Nat → Int64) × (Nat → Int32) × (Nat → Int32) × (Nat → Int32) × (Nat → Int32) × (Nat → Int32) × (Nat → Int32) × (Nat → Int64) × (Nat → Int32))) (F L : Nat) : Prop := ∀ (l : Launch) (dC : Nat → ClassId) (dI : Nat → Nat → Nat) (h0 h1 h2 h3 h4 h5 h6 h7 h8 h9 h10 h11 h12 h13 h14 h15 h16 : Nat) (kc3 kc4 kc5 kc6 kc7 kc8 kc9 kc10 kc11 kc12 kc13 kc14 kc15 kc16 : ClassId) (sz : Nat) (base : Nat × Nat × Nat) (a0 : Int32) (a1 : Int32) (v0_locals : Int32) (v1_token : Int32) (v1_tokenAt : Int32) (v1_name : Int64) (v1_fault : Int32) (v1_faultAt : Int32) (v1_size : Int32) (v1_next : Int32) (v2_globals : Int32) (v2_procedures : Int32) (v2_statements : Int32) (c3 : Nat → Int32) (c4 : Nat → Int32) (c5 : Nat → Int32) (c6 : Nat → Int64) (c7 : Nat → Int32) (c8 : Nat → Int32) (c9 : Nat → Int32) (c10 : Nat → Int32) (c11 : Nat → Int32) (c12 : Nat → Int32) (c13 : Nat → Int32) (c14 : Nat → Int64) (c15 : Nat → Int64) (c16 : Nat → Int32) (V0 : Nat → Value) (V2 : Nat → Value) (o : Int32 × Int32 × Int32 × Int64 × Int32 × Int32 × Int32 × Int32 × (Nat → Int32) × (Nat → Int32) × (Nat → Int32) × (Nat → Int64) × (Nat → Int32) × (Nat → Int32) × (Nat → Int32) × (Nat → Int32) × (Nat → Int32) × (Nat → Int32) × (Nat → Int64) × (Nat → Int32)) (hf : k a0 a1 v0_locals v1_token v1_tokenAt v1_name v1_fault v1_faultAt v1_size v1_next v2_globals v2_procedures v2_statements c3 c4 c5 c6 c7 c8 c9 c10 c11 c12 c13 c14 c15 c16 = some o), Met l yX2_readStatements (.code yX2_readStatements cX2_readStatements 7 (some .int) :: wsL_law) ({ frames := F, cells := 0, slots := 0, locals := L }) (cPre (dC, dI) vwCl [.ref h0, .int a0, .int a1] sz base (wX2_readStatements h0 h1 h2 h3 h4 h5 h6 h7 h8 h9 h10 h11 h12 h13 h14 h15 h16 kc3 kc4 kc5 kc6 kc7 kc8 kc9 kc10 kc11 kc12 kc13 kc14 kc15 kc16 V0 V2 v0_locals v1_token v1_tokenAt v1_name v1_fault v1_faultAt v1_size v1_next v2_globals v2_procedures v2_statements c3 c4 c5 c6 c7 c8 c9 c10 c11 c12 c13 c14 c15 c16) [(kc3, .int), (kc4, .int), (kc5, .int), (kc6, .long), (kc7, .int), (kc8, .int), (kc9, .int), (kc10, .int), (kc11, .int), (kc12, .int), (kc13, .byte), (kc14, .long), (kc15, .long), (kc16, .int)]) (va_Qi (fun r u => r = o.1 ∧ u = o.2) (fun (u : Int32 × Int32 × Int64 × Int32 × Int32 × Int32 × Int32 × (Nat → Int32) × (Nat → Int32) × (Nat → Int32) × (Nat → Int64) × (Nat → Int32) × (Nat → Int32) × (Nat → Int32) × (Nat → Int32) × (Nat → Int32) × (Nat → Int32) × (Nat → Int64) × (Nat → Int32)) t => cPost (dC, dI) vwCl (va_A (wX2_readStatements h0 h1 h2 h3 h4 h5 h6 h7 h8 h9 h10 h11 h12 h13 h14 h15 h16 kc3 kc4 kc5 kc6 kc7 kc8 kc9 kc10 kc11 kc12 kc13 kc14 kc15 kc16 V0 V2 v0_locals v1_token v1_tokenAt v1_name v1_fault v1_faultAt v1_size v1_next v2_globals v2_procedures v2_statements c3 c4 c5 c6 c7 c8 c9 c10 c11 c12 c13 c14 c15 c16) sz) (wX2_readStatements h0 h1 h2 h3 h4 h5 h6 h7 h8 h9 h10 h11 h12 h13 h14 h15 h16 kc3 kc4 kc5 kc6 kc7 kc8 kc9 kc10 kc11 kc12 kc13 kc14 kc15 kc16 V0 V2 v0_locals u.1 u.2.1 u.2.2.1 u.2.2.2.1 u.2.2.2.2.1 v1_size u.2.2.2.2.2.1 v2_globals v2_procedures u.2.2.2.2.2.2.1 u.2.2.2.2.2.2.2.1 u.2.2.2.2.2.2.2.2.1 u.2.2.2.2.2.2.2.2.2.1 u.2.2.2.2.2.2.2.2.2.2.1 u.2.2.2.2.2.2.2.2.2.2.2.1 u.2.2.2.2.2.2.2.2.2.2.2.2.1 u.2.2.2.2.2.2.2.2.2.2.2.2.2.1 u.2.2.2.2.2.2.2.2.2.2.2.2.2.2.1 u.2.2.2.2.2.2.2.2.2.2.2.2.2.2.2.1 u.2.2.2.2.2.2.2.2.2.2.2.2.2.2.2.2.1 c13 c14 u.2.2.2.2.2.2.2.2.2.2.2.2.2.2.2.2.2.1 u.2.2.2.2.2.2.2.2.2.2.2.2.2.2.2.2.2.2) [(kc3, .int), (kc4, .int), (kc5, .int), (kc6, .long), (kc7, .int), (kc8, .int), (kc9, .int), (kc10, .int), (kc11, .int), (kc12, .int), (kc13, .byte), (kc14, .long), (kc15, .long), (kc16, .int)] t) (va_A (wX2_readStatements h0 h1 h2 h3 h4 h5 h6 h7 h8 h9 h10 h11 h12 h13 h14 h15 h16 kc3 kc4 kc5 kc6 kc7 kc8 kc9 kc10 kc11 kc12 kc13 kc14 kc15 kc16 V0 V2 v0_locals v1_token v1_tokenAt v1_name v1_fault v1_faultAt v1_size v1_next v2_globals v2_procedures v2_statements c3 c4 c5 c6 c7 c8 c9 c10 c11 c12 c13 c14 c15 c16) sz)) 0 0 (va_A (wX2_readStatements h0 h1 h2 h3 h4 h5 h6 h7 h8 h9 h10 h11 h12 h13 h14 h15 h16 kc3 kc4 kc5 kc6 kc7 kc8 kc9 kc10 kc11 kc12 kc13 kc14 kc15 kc16 V0 V2 v0_locals v1_token v1_tokenAt v1_name v1_fault v1_faultAt v1_size v1_next v2_globals v2_procedures v2_statements c3 c4 c5 c6 c7 c8 c9 c10 c11 c12 c13 c14 c15 c16) sz)
set_option maxHeartbeats 4000000 in
set_option maxRecDepth 100000 in
theorem mX2_readBlock_o (kf_X2_readStatements : Int32 → Int32 → Int32 → Int32 → Int32 → Int64 → Int32 → Int32 → Int32 → Int32 → Int32 → Int32 → Int32 → (Nat → Int32) → (Nat → Int32) → (Nat → Int32) → (Nat → Int64) → (Nat → Int32) → (Nat → Int32) → (Nat → Int32) → (Nat → Int32) → (Nat → Int32) → (Nat → Int32) → (Nat → Int32) → (Nat → Int64) → (Nat → Int64) → (Nat → Int32) → Option (Int32 × Int32 × Int32 × Int64 × Int32 × Int32 × Int32 × Int32 × (Nat → Int32) × (Nat → Int32) × (Nat → Int32) × (Nat → Int64) × (Nat → Int32) × (Nat → Int32) × (Nat → Int32) × (Nat → Int32) × (Nat → Int32) × (Nat → Int32) × (Nat → Int64) × (Nat → Int32))) (F_X2_readStatements L_X2_readStatements : Nat) (hk_X2_readStatements : KX2_readStatements kf_X2_readStatements F_X2_readStatements L_X2_readStatements) : KX2_readBlock (fX2_readBlock_o kf_X2_readStatements) (max ((F_X2_readStatements) + 1) 7) (max ((L_X2_readStatements) + 26) 154) := by
  intro l dC dI h0 h1 h2 h3 h4 h5 h6 h7 h8 h9 h10 h11 h12 h13 h14 h15 h16 kc2 kc4 kc5 kc6 kc7 kc8 kc9 kc10 kc11 kc12 kc13 kc14 kc15 kc16 sz base a0 a1 v0_locals v1_token v1_tokenAt v1_name v1_fault v1_faultAt v1_size v1_next c2 v3_globals v3_procedures v3_statements c4 c5 c6 c7 c8 c9 c10 c11 c12 c13 c14 c15 c16 V0 V3 o hf
  refine Met.ofW (cc := cX2_readBlock) (maxL := 4) (ret := (some .int)) (by decide) rfl ?_
  intro p e s m args below meth c s₁ B hml hv
  obtain ⟨rfl, hsz, hP, hK, hD0, hE⟩ := hv
  have hx := B.exec
  have hb := B.bytes
  have hr := B.returns
  have hts : ∀ w ∈ wsL_law, _ := fun w h => atoms_spec (ws := .code yX2_readBlock cX2_readBlock 4 (some .int) :: wsL_law) B.pre w (List.mem_cons_of_mem _ h)
  have hown : s.vm.findClass RX2 = some m.cls := findClass_of_methodNamed B.named
  have hlocks := B.notSynchronized
  have w0_ := hts _ q72
  subst hsz
  have hD := hD0.self (sz := s.heap.size)
  generalize hAe : va_A (wX2_readBlock h0 h1 h2 h3 h4 h5 h6 h7 h8 h9 h10 h11 h12 h13 h14 h15 h16 kc2 kc4 kc5 kc6 kc7 kc8 kc9 kc10 kc11 kc12 kc13 kc14 kc15 kc16 V0 V3 v0_locals v1_token v1_tokenAt v1_name v1_fault v1_faultAt v1_size v1_next c2 v3_globals v3_procedures v3_statements c4 c5 c6 c7 c8 c9 c10 c11 c12 c13 c14 c15 c16) s.heap.size = A at hD ⊢
  have hA : ∀ q : Nat, s.heap.size ≤ q → A q := fun q h => by rw [← hAe]; exact Or.inr h
  have hAB : ∀ q : Nat, A q → base.1 ≤ q := fun q h => by rw [← hAe] at h; exact h.elim (fun ⟨k, e, hk⟩ => hD0.2 k _ hk) (fun hk => Nat.le_trans hE.1 hk)
  have hS : va_S A s.heap s.heap [] := va_S.rf
  have hl := lv_entry ([.ref h0, .int a0, .int a1]) (n := 4) (Nat.le_of_ble_eq_true rfl)
  rw [lg_entry_eq]
  generalize (lg_sl ([.ref h0, .int a0, .int a1]) ++ List.replicate (4 - (lg_sl ([.ref h0, .int a0, .int a1])).length) Slot.unset).toArray = ls at hl ⊢
  have hl : lv_has ls 4 [(0, .ref h0), (1, .int a0), (2, .int a1)] := hl
  have hP : va_P (dC, dI) vwCl (wX2_readBlock h0 h1 h2 h3 h4 h5 h6 h7 h8 h9 h10 h11 h12 h13 h14 h15 h16 kc2 kc4 kc5 kc6 kc7 kc8 kc9 kc10 kc11 kc12 kc13 kc14 kc15 kc16 V0 V3 v0_locals v1_token v1_tokenAt v1_name v1_fault v1_faultAt v1_size v1_next c2 v3_globals v3_procedures v3_statements c4 c5 c6 c7 c8 c9 c10 c11 c12 c13 c14 c15 c16) s.heap := hP
  obtain ⟨H, hH⟩ : ∃ H, H = s.heap := ⟨_, rfl⟩
  have hS : va_S A s.heap H [] := by rw [hH]; exact hS
  rw [← hH] at hP ⊢
  generalize ([] : List Loc) = locs at hS ⊢
  unfold fX2_readBlock_o at hf
  refine lv_aload_n hx hb dX2_readBlock_0 rfl (lv_at hl 0 rfl) ?_
  refine lv_iload_n hx hb dX2_readBlock_1 rfl (lv_at hl 2 rfl) ?_
  obtain ⟨o1, e1, hf⟩ := ob_some hf
  refine kVv (As := [.int a1]) (rest := []) ⟨hx, hb, hml, hown, hts⟩ (mX2_readOpenBrace l dC dI h0 h1 h2 kc2 H.size base a1 v1_token v1_tokenAt v1_name v1_fault v1_faultAt v1_size v1_next c2 (fun k => match k with | 1 => .ref h3 | 2 => .ref h14 | 3 => .int v0_locals | 5 => .ref h15 | 6 => .ref h16 | k => V0 k) o1 e1) (cwV 1 hts (gTV q702 q703 q704 q27 q705) rfl rfl rfl (by decide +kernel) ⟨(by show 6 + 1 ≤ max ((F_X2_readStatements) + 1) 7; omega), (by show 8 + (2 + 11) + 133 ≤ max ((L_X2_readStatements) + 26) 154; omega)⟩) hK hP hD hS hA hE hAB [0, 1, 2] [3, 4, 5, 6, 7, 8, 9, 10, 11, 12, 13, 14, 15, 16] [0] (wr := [(h3, .inr (3, [V3 0, .int v3_globals, .int v3_procedures, .int v3_statements, V3 4, .ref h4, .ref h5, .ref h6, .ref h7, .ref h8, .ref h9, V3 11, V3 12, .ref h10, .ref h11, .ref h12, .ref h13, V3 17])), (h4, .inl (kc4, 40, .inl c4)), (h5, .inl (kc5, 40, .inl c5)), (h6, .inl (kc6, 40, .inl c6)), (h7, .inl (kc7, 40, .inr (.inl c7))), (h8, .inl (kc8, 40, .inl c8)), (h9, .inl (kc9, 40, .inl c9)), (h10, .inl (kc10, 40, .inl c10)), (h11, .inl (kc11, 40, .inl c11)), (h12, .inl (kc12, 40, .inl c12)), (h13, .inl (kc13, 40, .inl c13)), (h14, .inl (kc14, 5, .inr (.inl c14))), (h15, .inl (kc15, 40, .inr (.inl c15))), (h16, .inl (kc16, 40, .inl c16))]) rfl rfl (by decide) (by decide) (by decide) rfl (ci := 2) (q0 := 0) rfl rfl rfl rfl hl.1 rfl (Nat.le_of_ble_eq_true rfl) dX2_readBlock_2 ⟨Nat.zero_le _, Nat.zero_le _⟩ (fun u1 H locs hw1 hP hD hS => ?_)
  have hw11 : o1 = u1 := Eq.symm hw1
  subst hw11
  have hP : va_P (dC, dI) vwCl (wX2_readBlock h0 h1 h2 h3 h4 h5 h6 h7 h8 h9 h10 h11 h12 h13 h14 h15 h16 kc2 kc4 kc5 kc6 kc7 kc8 kc9 kc10 kc11 kc12 kc13 kc14 kc15 kc16 V0 V3 v0_locals o1.1 o1.2.1 o1.2.2.1 o1.2.2.2.1 o1.2.2.2.2.1 v1_size o1.2.2.2.2.2 c2 v3_globals v3_procedures v3_statements c4 c5 c6 c7 c8 c9 c10 c11 c12 c13 c14 c15 c16) H := hP.sub [14, 15, 16, 0, 1, 2, 3, 4, 5, 6, 7, 8, 9, 10, 11, 12, 13] rfl
  have hD : va_D A (wX2_readBlock h0 h1 h2 h3 h4 h5 h6 h7 h8 h9 h10 h11 h12 h13 h14 h15 h16 kc2 kc4 kc5 kc6 kc7 kc8 kc9 kc10 kc11 kc12 kc13 kc14 kc15 kc16 V0 V3 v0_locals o1.1 o1.2.1 o1.2.2.1 o1.2.2.2.1 o1.2.2.2.2.1 v1_size o1.2.2.2.2.2 c2 v3_globals v3_procedures v3_statements c4 c5 c6 c7 c8 c9 c10 c11 c12 c13 c14 c15 c16) := hD.sub [14, 15, 16, 0, 1, 2, 3, 4, 5, 6, 7, 8, 9, 10, 11, 12, 13] (by decide) rfl
  refine lv_iload_n hx hb dX2_readBlock_5 rfl (lv_at hl 2 rfl) ?_
  refine lv_bipush (v := 10) hx hb dX2_readBlock_6 (by decide +kernel) ?_
  refine lv_icmp_lt (tgt := 13) hx hb dX2_readBlock_8 (by decide) (fun cq2 => ?_) (fun cq2 => ?_)
  · replace hf := if_at hf cq2
    refine lv_aload_n hx hb dX2_readBlock_13 rfl (lv_at hl 0 rfl) ?_
    refine lv_iload_n hx hb dX2_readBlock_14 rfl (lv_at hl 1 rfl) ?_
    refine lv_iload_n hx hb dX2_readBlock_15 rfl (lv_at hl 2 rfl) ?_
    refine lv_iconst (v := 1) hx hb dX2_readBlock_16 (by decide +kernel) ?_
    refine lv_iadd hx hb dX2_readBlock_17 ?_
    refine lv_topi (fun x3 e3 => ?_)
    replace hf := nm_at hf e3
    obtain ⟨o4, e4, hf⟩ := ob_some hf
    refine kVi (As := [.int a0, .int x3]) (rest := []) ⟨hx, hb, hml, hown, hts⟩ (hk_X2_readStatements l dC dI h0 h1 h3 h4 h5 h6 h7 h8 h9 h10 h11 h12 h13 h2 h14 h15 h16 kc4 kc5 kc6 kc7 kc8 kc9 kc10 kc11 kc12 kc13 kc2 kc14 kc15 kc16 H.size base a0 x3 v0_locals o1.1 o1.2.1 o1.2.2.1 o1.2.2.2.1 o1.2.2.2.2.1 v1_size o1.2.2.2.2.2 v3_globals v3_procedures v3_statements c4 c5 c6 c7 c8 c9 c10 c11 c12 c13 c2 c14 c15 c16 V0 V3 o4 e4) (cwV 2 hts (gTV q706 q707 q708 q27 q709) rfl rfl rfl (by decide +kernel) ⟨(by show F_X2_readStatements + 1 ≤ max ((F_X2_readStatements) + 1) 7; omega), (by show 8 + (7 + 11) + L_X2_readStatements ≤ max ((L_X2_readStatements) + 26) 154; omega)⟩) hK hP hD hS hA hE hAB [0, 1, 3, 4, 5, 6, 7, 8, 9, 10, 11, 12, 13, 2, 14, 15, 16] [] [1, 2, 3, 4, 5, 6, 7, 8, 9, 10, 0, 11, 12, 13] (wr := []) rfl rfl (by decide) (by decide) (by decide) rfl (ci := 2) (q0 := 0) rfl rfl rfl rfl hl.1 rfl (Nat.le_of_ble_eq_true rfl) dX2_readBlock_18 ⟨Nat.zero_le _, Nat.zero_le _⟩ (fun r4 u4 H locs hw4 hP hD hS => ?_)
    obtain ⟨hw41, hw42⟩ := hw4
    subst hw41 hw42
    have hP : va_P (dC, dI) vwCl (wX2_readBlock h0 h1 h2 h3 h4 h5 h6 h7 h8 h9 h10 h11 h12 h13 h14 h15 h16 kc2 kc4 kc5 kc6 kc7 kc8 kc9 kc10 kc11 kc12 kc13 kc14 kc15 kc16 V0 V3 v0_locals o4.2.1 o4.2.2.1 o4.2.2.2.1 o4.2.2.2.2.1 o4.2.2.2.2.2.1 v1_size o4.2.2.2.2.2.2.1 c2 v3_globals v3_procedures o4.2.2.2.2.2.2.2.1 o4.2.2.2.2.2.2.2.2.1 o4.2.2.2.2.2.2.2.2.2.1 o4.2.2.2.2.2.2.2.2.2.2.1 o4.2.2.2.2.2.2.2.2.2.2.2.1 o4.2.2.2.2.2.2.2.2.2.2.2.2.1 o4.2.2.2.2.2.2.2.2.2.2.2.2.2.1 o4.2.2.2.2.2.2.2.2.2.2.2.2.2.2.1 o4.2.2.2.2.2.2.2.2.2.2.2.2.2.2.2.1 o4.2.2.2.2.2.2.2.2.2.2.2.2.2.2.2.2.1 o4.2.2.2.2.2.2.2.2.2.2.2.2.2.2.2.2.2.1 c14 o4.2.2.2.2.2.2.2.2.2.2.2.2.2.2.2.2.2.2.1 o4.2.2.2.2.2.2.2.2.2.2.2.2.2.2.2.2.2.2.2) H := hP.sub [0, 1, 13, 2, 3, 4, 5, 6, 7, 8, 9, 10, 11, 12, 14, 15, 16] rfl
    have hD : va_D A (wX2_readBlock h0 h1 h2 h3 h4 h5 h6 h7 h8 h9 h10 h11 h12 h13 h14 h15 h16 kc2 kc4 kc5 kc6 kc7 kc8 kc9 kc10 kc11 kc12 kc13 kc14 kc15 kc16 V0 V3 v0_locals o4.2.1 o4.2.2.1 o4.2.2.2.1 o4.2.2.2.2.1 o4.2.2.2.2.2.1 v1_size o4.2.2.2.2.2.2.1 c2 v3_globals v3_procedures o4.2.2.2.2.2.2.2.1 o4.2.2.2.2.2.2.2.2.1 o4.2.2.2.2.2.2.2.2.2.1 o4.2.2.2.2.2.2.2.2.2.2.1 o4.2.2.2.2.2.2.2.2.2.2.2.1 o4.2.2.2.2.2.2.2.2.2.2.2.2.1 o4.2.2.2.2.2.2.2.2.2.2.2.2.2.1 o4.2.2.2.2.2.2.2.2.2.2.2.2.2.2.1 o4.2.2.2.2.2.2.2.2.2.2.2.2.2.2.2.1 o4.2.2.2.2.2.2.2.2.2.2.2.2.2.2.2.2.1 o4.2.2.2.2.2.2.2.2.2.2.2.2.2.2.2.2.2.1 c14 o4.2.2.2.2.2.2.2.2.2.2.2.2.2.2.2.2.2.2.1 o4.2.2.2.2.2.2.2.2.2.2.2.2.2.2.2.2.2.2.2) := hD.sub [0, 1, 13, 2, 3, 4, 5, 6, 7, 8, 9, 10, 11, 12, 14, 15, 16] (by decide) rfl
    refine lv_istore_n (lv' := [(3, .int o4.1), (0, .ref h0), (1, .int a0), (2, .int a1)]) hx hb dX2_readBlock_21 rfl hl (by decide) rfl (fun ls hl => ?_)
    refine lv_aload_n hx hb dX2_readBlock_22 rfl (lv_at hl 1 rfl) ?_
    refine va_get (D := (dC, dI)) (ci := 2) (v := .ref h1) (C := RX2) (T := TX2) (N := 7) hx hb hts inlX2 hown hK hP 0 rfl rfl 0 (by decide) w0_ (fun _ h9 => h9) rfl dX2_readBlock_23 ?_
    refine lv_bipush (v := 125) hx hb dX2_readBlock_26 (by decide +kernel) ?_
    obtain ⟨o5, e5, hf⟩ := ob_some hf
    refine kVi (As := [.int 125]) (rest := []) ⟨hx, hb, hml, hown, hts⟩ (mX4_skipToken l dC dI h1 h2 kc2 H.size base 125 o4.2.1 o4.2.2.1 o4.2.2.2.1 o4.2.2.2.2.1 o4.2.2.2.2.2.1 v1_size o4.2.2.2.2.2.2.1 c2 o5 e5) (cwV 1 hts (gTV q687 q688 q689 q19 q690) rfl rfl rfl (by decide +kernel) ⟨(by show 5 + 1 ≤ max ((F_X2_readStatements) + 1) 7; omega), (by show 8 + (2 + 11) + 112 ≤ max ((L_X2_readStatements) + 26) 154; omega)⟩) hK hP hD hS hA hE hAB [1, 2] [0, 3, 4, 5, 6, 7, 8, 9, 10, 11, 12, 13, 14, 15, 16] [0] (wr := [(h0, .inr (2, [.ref h1, .ref h3, .ref h14, .int v0_locals, V0 4, .ref h15, .ref h16])), (h3, .inr (3, [V3 0, .int v3_globals, .int v3_procedures, .int o4.2.2.2.2.2.2.2.1, V3 4, .ref h4, .ref h5, .ref h6, .ref h7, .ref h8, .ref h9, V3 11, V3 12, .ref h10, .ref h11, .ref h12, .ref h13, V3 17])), (h4, .inl (kc4, 40, .inl o4.2.2.2.2.2.2.2.2.1)), (h5, .inl (kc5, 40, .inl o4.2.2.2.2.2.2.2.2.2.1)), (h6, .inl (kc6, 40, .inl o4.2.2.2.2.2.2.2.2.2.2.1)), (h7, .inl (kc7, 40, .inr (.inl o4.2.2.2.2.2.2.2.2.2.2.2.1))), (h8, .inl (kc8, 40, .inl o4.2.2.2.2.2.2.2.2.2.2.2.2.1)), (h9, .inl (kc9, 40, .inl o4.2.2.2.2.2.2.2.2.2.2.2.2.2.1)), (h10, .inl (kc10, 40, .inl o4.2.2.2.2.2.2.2.2.2.2.2.2.2.2.1)), (h11, .inl (kc11, 40, .inl o4.2.2.2.2.2.2.2.2.2.2.2.2.2.2.2.1)), (h12, .inl (kc12, 40, .inl o4.2.2.2.2.2.2.2.2.2.2.2.2.2.2.2.2.1)), (h13, .inl (kc13, 40, .inl o4.2.2.2.2.2.2.2.2.2.2.2.2.2.2.2.2.2.1)), (h14, .inl (kc14, 5, .inr (.inl c14))), (h15, .inl (kc15, 40, .inr (.inl o4.2.2.2.2.2.2.2.2.2.2.2.2.2.2.2.2.2.2.1))), (h16, .inl (kc16, 40, .inl o4.2.2.2.2.2.2.2.2.2.2.2.2.2.2.2.2.2.2.2))]) rfl rfl (by decide) (by decide) (by decide) rfl (ci := 4) (q0 := 0) rfl rfl rfl rfl hl.1 rfl (Nat.le_of_ble_eq_true rfl) dX2_readBlock_28 ⟨Nat.zero_le _, Nat.zero_le _⟩ (fun r5 u5 H locs hw5 hP hD hS => ?_)
    obtain ⟨hw51, hw52⟩ := hw5
    subst hw51 hw52
    have hP : va_P (dC, dI) vwCl (wX2_readBlock h0 h1 h2 h3 h4 h5 h6 h7 h8 h9 h10 h11 h12 h13 h14 h15 h16 kc2 kc4 kc5 kc6 kc7 kc8 kc9 kc10 kc11 kc12 kc13 kc14 kc15 kc16 V0 V3 v0_locals o5.2.1 o5.2.2.1 o5.2.2.2.1 o5.2.2.2.2.1 o5.2.2.2.2.2.1 v1_size o5.2.2.2.2.2.2 c2 v3_globals v3_procedures o4.2.2.2.2.2.2.2.1 o4.2.2.2.2.2.2.2.2.1 o4.2.2.2.2.2.2.2.2.2.1 o4.2.2.2.2.2.2.2.2.2.2.1 o4.2.2.2.2.2.2.2.2.2.2.2.1 o4.2.2.2.2.2.2.2.2.2.2.2.2.1 o4.2.2.2.2.2.2.2.2.2.2.2.2.2.1 o4.2.2.2.2.2.2.2.2.2.2.2.2.2.2.1 o4.2.2.2.2.2.2.2.2.2.2.2.2.2.2.2.1 o4.2.2.2.2.2.2.2.2.2.2.2.2.2.2.2.2.1 o4.2.2.2.2.2.2.2.2.2.2.2.2.2.2.2.2.2.1 c14 o4.2.2.2.2.2.2.2.2.2.2.2.2.2.2.2.2.2.2.1 o4.2.2.2.2.2.2.2.2.2.2.2.2.2.2.2.2.2.2.2) H := hP.sub [0, 15, 16, 1, 2, 3, 4, 5, 6, 7, 8, 9, 10, 11, 12, 13, 14] rfl
    have hD : va_D A (wX2_readBlock h0 h1 h2 h3 h4 h5 h6 h7 h8 h9 h10 h11 h12 h13 h14 h15 h16 kc2 kc4 kc5 kc6 kc7 kc8 kc9 kc10 kc11 kc12 kc13 kc14 kc15 kc16 V0 V3 v0_locals o5.2.1 o5.2.2.1 o5.2.2.2.1 o5.2.2.2.2.1 o5.2.2.2.2.2.1 v1_size o5.2.2.2.2.2.2 c2 v3_globals v3_procedures o4.2.2.2.2.2.2.2.1 o4.2.2.2.2.2.2.2.2.1 o4.2.2.2.2.2.2.2.2.2.1 o4.2.2.2.2.2.2.2.2.2.2.1 o4.2.2.2.2.2.2.2.2.2.2.2.1 o4.2.2.2.2.2.2.2.2.2.2.2.2.1 o4.2.2.2.2.2.2.2.2.2.2.2.2.2.1 o4.2.2.2.2.2.2.2.2.2.2.2.2.2.2.1 o4.2.2.2.2.2.2.2.2.2.2.2.2.2.2.2.1 o4.2.2.2.2.2.2.2.2.2.2.2.2.2.2.2.2.1 o4.2.2.2.2.2.2.2.2.2.2.2.2.2.2.2.2.2.1 c14 o4.2.2.2.2.2.2.2.2.2.2.2.2.2.2.2.2.2.2.1 o4.2.2.2.2.2.2.2.2.2.2.2.2.2.2.2.2.2.2.2) := hD.sub [0, 15, 16, 1, 2, 3, 4, 5, 6, 7, 8, 9, 10, 11, 12, 13, 14] (by decide) rfl
    refine lv_pop hx hb dX2_readBlock_31 rfl ?_
    refine lv_iload_n hx hb dX2_readBlock_32 rfl (lv_at hl 0 rfl) ?_
    have hf1 := Option.some.inj hf
    subst hf1
    have hP9 := hP.sub (ws' := (wX2_readBlock h0 h1 h2 h3 h4 h5 h6 h7 h8 h9 h10 h11 h12 h13 h14 h15 h16 kc2 kc4 kc5 kc6 kc7 kc8 kc9 kc10 kc11 kc12 kc13 kc14 kc15 kc16 V0 V3 v0_locals o5.2.1 o5.2.2.1 o5.2.2.2.1 o5.2.2.2.2.1 o5.2.2.2.2.2.1 v1_size o5.2.2.2.2.2.2 c2 v3_globals v3_procedures o4.2.2.2.2.2.2.2.1 o4.2.2.2.2.2.2.2.2.1 o4.2.2.2.2.2.2.2.2.2.1 o4.2.2.2.2.2.2.2.2.2.2.1 o4.2.2.2.2.2.2.2.2.2.2.2.1 o4.2.2.2.2.2.2.2.2.2.2.2.2.1 o4.2.2.2.2.2.2.2.2.2.2.2.2.2.1 o4.2.2.2.2.2.2.2.2.2.2.2.2.2.2.1 o4.2.2.2.2.2.2.2.2.2.2.2.2.2.2.2.1 o4.2.2.2.2.2.2.2.2.2.2.2.2.2.2.2.2.1 o4.2.2.2.2.2.2.2.2.2.2.2.2.2.2.2.2.2.1 c14 o4.2.2.2.2.2.2.2.2.2.2.2.2.2.2.2.2.2.2.1 o4.2.2.2.2.2.2.2.2.2.2.2.2.2.2.2.2.2.2.2)) [0, 1, 2, 3, 4, 5, 6, 7, 8, 9, 10, 11, 12, 13, 14, 15, 16] rfl
    have hD9 := hD.sub (ws' := (wX2_readBlock h0 h1 h2 h3 h4 h5 h6 h7 h8 h9 h10 h11 h12 h13 h14 h15 h16 kc2 kc4 kc5 kc6 kc7 kc8 kc9 kc10 kc11 kc12 kc13 kc14 kc15 kc16 V0 V3 v0_locals o5.2.1 o5.2.2.1 o5.2.2.2.1 o5.2.2.2.2.1 o5.2.2.2.2.2.1 v1_size o5.2.2.2.2.2.2 c2 v3_globals v3_procedures o4.2.2.2.2.2.2.2.1 o4.2.2.2.2.2.2.2.2.1 o4.2.2.2.2.2.2.2.2.2.1 o4.2.2.2.2.2.2.2.2.2.2.1 o4.2.2.2.2.2.2.2.2.2.2.2.1 o4.2.2.2.2.2.2.2.2.2.2.2.2.1 o4.2.2.2.2.2.2.2.2.2.2.2.2.2.1 o4.2.2.2.2.2.2.2.2.2.2.2.2.2.2.1 o4.2.2.2.2.2.2.2.2.2.2.2.2.2.2.2.1 o4.2.2.2.2.2.2.2.2.2.2.2.2.2.2.2.2.1 o4.2.2.2.2.2.2.2.2.2.2.2.2.2.2.2.2.2.1 c14 o4.2.2.2.2.2.2.2.2.2.2.2.2.2.2.2.2.2.2.1 o4.2.2.2.2.2.2.2.2.2.2.2.2.2.2.2.2.2.2.2)) [0, 1, 2, 3, 4, 5, 6, 7, 8, 9, 10, 11, 12, 13, 14, 15, 16] (by decide) rfl
    exact W.iret (v := o4.1) hx hb hr (fun t ht hW => ⟨⟨o4.1, (o5.2.1, o5.2.2.1, o5.2.2.2.1, o5.2.2.2.2.1, o5.2.2.2.2.2.1, o5.2.2.2.2.2.2, o4.2.2.2.2.2.2.2.1, o4.2.2.2.2.2.2.2.2.1, o4.2.2.2.2.2.2.2.2.2.1, o4.2.2.2.2.2.2.2.2.2.2.1, o4.2.2.2.2.2.2.2.2.2.2.2.1, o4.2.2.2.2.2.2.2.2.2.2.2.2.1, o4.2.2.2.2.2.2.2.2.2.2.2.2.2.1, o4.2.2.2.2.2.2.2.2.2.2.2.2.2.2.1, o4.2.2.2.2.2.2.2.2.2.2.2.2.2.2.2.1, o4.2.2.2.2.2.2.2.2.2.2.2.2.2.2.2.2.1, o4.2.2.2.2.2.2.2.2.2.2.2.2.2.2.2.2.2.1, o4.2.2.2.2.2.2.2.2.2.2.2.2.2.2.2.2.2.2.1, o4.2.2.2.2.2.2.2.2.2.2.2.2.2.2.2.2.2.2.2), rfl, ⟨rfl, rfl⟩, by rw [ht]; exact hP9, va_K.moved hW.alike hK, hD9⟩, hS.F ht⟩) hS.2.2 dX2_readBlock_33
  · replace hf := if_no hf cq2
    refine lv_iconst (v := (-1)) hx hb dX2_readBlock_11 (by decide +kernel) ?_
    have hf1 := Option.some.inj hf
    subst hf1
    have hP9 := hP.sub (ws' := (wX2_readBlock h0 h1 h2 h3 h4 h5 h6 h7 h8 h9 h10 h11 h12 h13 h14 h15 h16 kc2 kc4 kc5 kc6 kc7 kc8 kc9 kc10 kc11 kc12 kc13 kc14 kc15 kc16 V0 V3 v0_locals o1.1 o1.2.1 o1.2.2.1 o1.2.2.2.1 o1.2.2.2.2.1 v1_size o1.2.2.2.2.2 c2 v3_globals v3_procedures v3_statements c4 c5 c6 c7 c8 c9 c10 c11 c12 c13 c14 c15 c16)) [0, 1, 2, 3, 4, 5, 6, 7, 8, 9, 10, 11, 12, 13, 14, 15, 16] rfl
    have hD9 := hD.sub (ws' := (wX2_readBlock h0 h1 h2 h3 h4 h5 h6 h7 h8 h9 h10 h11 h12 h13 h14 h15 h16 kc2 kc4 kc5 kc6 kc7 kc8 kc9 kc10 kc11 kc12 kc13 kc14 kc15 kc16 V0 V3 v0_locals o1.1 o1.2.1 o1.2.2.1 o1.2.2.2.1 o1.2.2.2.2.1 v1_size o1.2.2.2.2.2 c2 v3_globals v3_procedures v3_statements c4 c5 c6 c7 c8 c9 c10 c11 c12 c13 c14 c15 c16)) [0, 1, 2, 3, 4, 5, 6, 7, 8, 9, 10, 11, 12, 13, 14, 15, 16] (by decide) rfl
    exact W.iret (v := (-1)) hx hb hr (fun t ht hW => ⟨⟨(-1), (o1.1, o1.2.1, o1.2.2.1, o1.2.2.2.1, o1.2.2.2.2.1, o1.2.2.2.2.2, v3_statements, c4, c5, c6, c7, c8, c9, c10, c11, c12, c13, c15, c16), rfl, ⟨rfl, rfl⟩, by rw [ht]; exact hP9, va_K.moved hW.alike hK, hD9⟩, hS.F ht⟩) hS.2.2 dX2_readBlock_12
set_option maxHeartbeats 4000000 in
set_option maxRecDepth 100000 in
theorem mX2_readBranch_o (kf_X2_readBlock : Int32 → Int32 → Int32 → Int32 → Int32 → Int64 → Int32 → Int32 → Int32 → Int32 → (Nat → Int32) → Int32 → Int32 → Int32 → (Nat → Int32) → (Nat → Int32) → (Nat → Int32) → (Nat → Int64) → (Nat → Int32) → (Nat → Int32) → (Nat → Int32) → (Nat → Int32) → (Nat → Int32) → (Nat → Int32) → (Nat → Int64) → (Nat → Int64) → (Nat → Int32) → Option (Int32 × Int32 × Int32 × Int64 × Int32 × Int32 × Int32 × Int32 × (Nat → Int32) × (Nat → Int32) × (Nat → Int32) × (Nat → Int64) × (Nat → Int32) × (Nat → Int32) × (Nat → Int32) × (Nat → Int32) × (Nat → Int32) × (Nat → Int32) × (Nat → Int64) × (Nat → Int32))) (F_X2_readBlock L_X2_readBlock : Nat) (hk_X2_readBlock : KX2_readBlock kf_X2_readBlock F_X2_readBlock L_X2_readBlock) : KX2_readBranch (fX2_readBranch_o kf_X2_readBlock) (max ((F_X2_readBlock) + 1) 55) (max ((L_X2_readBlock) + 23) 1328) := by
  intro l dC dI h0 h1 h2 h3 h4 h5 h6 h7 h8 h9 h10 h11 h12 h13 h14 h15 h16 kc2 kc4 kc5 kc6 kc7 kc8 kc9 kc10 kc11 kc12 kc13 kc14 kc15 kc16 sz base a0 a1 v0_locals v1_token v1_tokenAt v1_name v1_fault v1_faultAt v1_size v1_next c2 v3_globals v3_procedures v3_statements c4 c5 c6 c7 c8 c9 c10 c11 c12 c13 c14 c15 c16 V0 V3 o hf
  refine Met.ofW (cc := cX2_readBranch) (maxL := 3) (ret := none) (by decide) rfl ?_
  intro p e s m args below meth c s₁ B hml hv
  obtain ⟨rfl, hsz, hP, hK, hD0, hE⟩ := hv
  have hx := B.exec
  have hb := B.bytes
  have hr := B.returns
  have hts : ∀ w ∈ wsL_law, _ := fun w h => atoms_spec (ws := .code yX2_readBranch cX2_readBranch 3 none :: wsL_law) B.pre w (List.mem_cons_of_mem _ h)
  have hown : s.vm.findClass RX2 = some m.cls := findClass_of_methodNamed B.named
  have hlocks := B.notSynchronized
  have w0_ := hts _ q72
  have w1_ := hts _ q73
  have w2_ := hts _ q720
  have w3_ := hts _ q721
  have w4_ := hts _ q722
  have w5_ := hts _ q544
  have w6_ := hts _ q723
  subst hsz
  have hD := hD0.self (sz := s.heap.size)
  generalize hAe : va_A (wX2_readBranch h0 h1 h2 h3 h4 h5 h6 h7 h8 h9 h10 h11 h12 h13 h14 h15 h16 kc2 kc4 kc5 kc6 kc7 kc8 kc9 kc10 kc11 kc12 kc13 kc14 kc15 kc16 V0 V3 v0_locals v1_token v1_tokenAt v1_name v1_fault v1_faultAt v1_size v1_next c2 v3_globals v3_procedures v3_statements c4 c5 c6 c7 c8 c9 c10 c11 c12 c13 c14 c15 c16) s.heap.size = A at hD ⊢
  have hA : ∀ q : Nat, s.heap.size ≤ q → A q := fun q h => by rw [← hAe]; exact Or.inr h
  have hAB : ∀ q : Nat, A q → base.1 ≤ q := fun q h => by rw [← hAe] at h; exact h.elim (fun ⟨k, e, hk⟩ => hD0.2 k _ hk) (fun hk => Nat.le_trans hE.1 hk)
  have hS : va_S A s.heap s.heap [] := va_S.rf
  have hl := lv_entry ([.ref h0, .int a0, .int a1]) (n := 3) (Nat.le_of_ble_eq_true rfl)
  rw [lg_entry_eq]
  generalize (lg_sl ([.ref h0, .int a0, .int a1]) ++ List.replicate (3 - (lg_sl ([.ref h0, .int a0, .int a1])).length) Slot.unset).toArray = ls at hl ⊢
  have hl : lv_has ls 3 [(0, .ref h0), (1, .int a0), (2, .int a1)] := hl
  have hP : va_P (dC, dI) vwCl (wX2_readBranch h0 h1 h2 h3 h4 h5 h6 h7 h8 h9 h10 h11 h12 h13 h14 h15 h16 kc2 kc4 kc5 kc6 kc7 kc8 kc9 kc10 kc11 kc12 kc13 kc14 kc15 kc16 V0 V3 v0_locals v1_token v1_tokenAt v1_name v1_fault v1_faultAt v1_size v1_next c2 v3_globals v3_procedures v3_statements c4 c5 c6 c7 c8 c9 c10 c11 c12 c13 c14 c15 c16) s.heap := hP
  refine gl_intro (fun G hG => ?_)
  have J84 : ∀ (v1_token : Int32) (v1_tokenAt : Int32) (v1_name : Int64) (v1_fault : Int32) (v1_faultAt : Int32) (v1_next : Int32) (v3_statements : Int32) (c5 : (Nat → Int64)) (c6 : (Nat → Int32)) (c7 : (Nat → Int32)) (c8 : (Nat → Int32)) (c9 : (Nat → Int32)) (c10 : (Nat → Int32)) (c11 : (Nat → Int32)) (c12 : (Nat → Int32)) (c13 : (Nat → Int32)) (c14 : (Nat → Int32)) (c15 : (Nat → Int64)) (c16 : (Nat → Int32)) (H : Heap) (locs : List Loc) (ls : Array Slot), va_P (dC, dI) vwCl (wX2_readBranch h0 h1 h2 h3 h4 h5 h6 h7 h8 h9 h10 h11 h12 h13 h14 h15 h16 kc2 kc4 kc5 kc6 kc7 kc8 kc9 kc10 kc11 kc12 kc13 kc14 kc15 kc16 V0 V3 v0_locals v1_token v1_tokenAt v1_name v1_fault v1_faultAt v1_size v1_next c2 v3_globals v3_procedures v3_statements c4 c5 c6 c7 c8 c9 c10 c11 c12 c13 c14 c15 c16) H → va_D A (wX2_readBranch h0 h1 h2 h3 h4 h5 h6 h7 h8 h9 h10 h11 h12 h13 h14 h15 h16 kc2 kc4 kc5 kc6 kc7 kc8 kc9 kc10 kc11 kc12 kc13 kc14 kc15 kc16 V0 V3 v0_locals v1_token v1_tokenAt v1_name v1_fault v1_faultAt v1_size v1_next c2 v3_globals v3_procedures v3_statements c4 c5 c6 c7 c8 c9 c10 c11 c12 c13 c14 c15 c16) → va_S A s.heap H locs → lv_has ls 3 [(0, .ref h0)] → fX2_readBranch_o_p84 kf_X2_readBlock v0_locals v1_size c2 v3_globals v3_procedures c4  v1_token v1_tokenAt v1_name v1_fault v1_faultAt v1_next v3_statements c5 c6 c7 c8 c9 c10 c11 c12 c13 c14 c15 c16 = some o → G 0 0 H locs (F0 m 84 ls []) := by
    intro  v1_token v1_tokenAt v1_name v1_fault v1_faultAt v1_next v3_statements c5 c6 c7 c8 c9 c10 c11 c12 c13 c14 c15 c16 H locs ls hP hD hS hl hf
    refine (hG _ _ _ _ _).mpr ?_
    unfold fX2_readBranch_o_p84 at hf
    have hf1 := Option.some.inj hf
    subst hf1
    have hP9 := hP.sub (ws' := (wX2_readBranch h0 h1 h2 h3 h4 h5 h6 h7 h8 h9 h10 h11 h12 h13 h14 h15 h16 kc2 kc4 kc5 kc6 kc7 kc8 kc9 kc10 kc11 kc12 kc13 kc14 kc15 kc16 V0 V3 v0_locals v1_token v1_tokenAt v1_name v1_fault v1_faultAt v1_size v1_next c2 v3_globals v3_procedures v3_statements c4 c5 c6 c7 c8 c9 c10 c11 c12 c13 c14 c15 c16)) [0, 1, 2, 3, 4, 5, 6, 7, 8, 9, 10, 11, 12, 13, 14, 15, 16] rfl
    have hD9 := hD.sub (ws' := (wX2_readBranch h0 h1 h2 h3 h4 h5 h6 h7 h8 h9 h10 h11 h12 h13 h14 h15 h16 kc2 kc4 kc5 kc6 kc7 kc8 kc9 kc10 kc11 kc12 kc13 kc14 kc15 kc16 V0 V3 v0_locals v1_token v1_tokenAt v1_name v1_fault v1_faultAt v1_size v1_next c2 v3_globals v3_procedures v3_statements c4 c5 c6 c7 c8 c9 c10 c11 c12 c13 c14 c15 c16)) [0, 1, 2, 3, 4, 5, 6, 7, 8, 9, 10, 11, 12, 13, 14, 15, 16] (by decide) rfl
    exact W.vret hx hb hr (fun t ht hW => ⟨⟨(v1_token, v1_tokenAt, v1_name, v1_fault, v1_faultAt, v1_next, v3_statements, c5, c6, c7, c8, c9, c10, c11, c12, c13, c14, c15, c16), rfl, rfl, by rw [ht]; exact hP9, va_K.moved hW.alike hK, hD9⟩, hS.F ht⟩) hS.2.2 dX2_readBranch_84
  refine (hG _ _ _ _ _).mpr ?_
  obtain ⟨H, hH⟩ : ∃ H, H = s.heap := ⟨_, rfl⟩
  have hS : va_S A s.heap H [] := by rw [hH]; exact hS
  rw [← hH] at hP ⊢
  generalize ([] : List Loc) = locs at hS ⊢
  unfold fX2_readBranch_o at hf
  refine lv_aload_n hx hb dX2_readBranch_0 rfl (lv_at hl 0 rfl) ?_
  refine va_get (D := (dC, dI)) (ci := 2) (v := .ref h1) (C := RX2) (T := TX2) (N := 7) hx hb hts inlX2 hown hK hP 0 rfl rfl 0 (by decide) w0_ (fun _ h9 => h9) rfl dX2_readBranch_1 ?_
  obtain ⟨o1, e1, hf⟩ := ob_some hf
  refine kVv (As := []) (rest := []) ⟨hx, hb, hml, hown, hts⟩ (mX4_advance l dC dI h1 h2 kc2 H.size base v1_token v1_tokenAt v1_name v1_fault v1_faultAt v1_size v1_next c2 o1 e1) (cwV 0 hts (gTV q672 q562 q563 q19 q564) rfl rfl rfl (by decide +kernel) ⟨(by show 4 + 1 ≤ max ((F_X2_readBlock) + 1) 55; omega), (by show 8 + (2 + 11) + 91 ≤ max ((L_X2_readBlock) + 23) 1328; omega)⟩) hK hP hD hS hA hE hAB [1, 2] [0, 3, 4, 5, 6, 7, 8, 9, 10, 11, 12, 13, 14, 15, 16] [0] (wr := [(h0, .inr (2, [.ref h1, .ref h3, .ref h4, .int v0_locals, V0 4, .ref h15, .ref h16])), (h3, .inr (3, [V3 0, .int v3_globals, .int v3_procedures, .int v3_statements, V3 4, .ref h6, .ref h7, .ref h8, .ref h5, .ref h9, .ref h10, V3 11, V3 12, .ref h11, .ref h12, .ref h13, .ref h14, V3 17])), (h4, .inl (kc4, 5, .inr (.inl c4))), (h5, .inl (kc5, 40, .inr (.inl c5))), (h6, .inl (kc6, 40, .inl c6)), (h7, .inl (kc7, 40, .inl c7)), (h8, .inl (kc8, 40, .inl c8)), (h9, .inl (kc9, 40, .inl c9)), (h10, .inl (kc10, 40, .inl c10)), (h11, .inl (kc11, 40, .inl c11)), (h12, .inl (kc12, 40, .inl c12)), (h13, .inl (kc13, 40, .inl c13)), (h14, .inl (kc14, 40, .inl c14)), (h15, .inl (kc15, 40, .inr (.inl c15))), (h16, .inl (kc16, 40, .inl c16))]) rfl rfl (by decide) (by decide) (by decide) rfl (ci := 4) (q0 := 0) rfl rfl rfl rfl hl.1 rfl (Nat.le_of_ble_eq_true rfl) dX2_readBranch_4 ⟨Nat.zero_le _, Nat.zero_le _⟩ (fun u1 H locs hw1 hP hD hS => ?_)
  have hw11 : o1 = u1 := Eq.symm hw1
  subst hw11
  have hP : va_P (dC, dI) vwCl (wX2_readBranch h0 h1 h2 h3 h4 h5 h6 h7 h8 h9 h10 h11 h12 h13 h14 h15 h16 kc2 kc4 kc5 kc6 kc7 kc8 kc9 kc10 kc11 kc12 kc13 kc14 kc15 kc16 V0 V3 v0_locals o1.1 o1.2.1 o1.2.2.1 o1.2.2.2.1 o1.2.2.2.2.1 v1_size o1.2.2.2.2.2 c2 v3_globals v3_procedures v3_statements c4 c5 c6 c7 c8 c9 c10 c11 c12 c13 c14 c15 c16) H := hP.sub [0, 15, 16, 1, 2, 3, 4, 5, 6, 7, 8, 9, 10, 11, 12, 13, 14] rfl
  have hD : va_D A (wX2_readBranch h0 h1 h2 h3 h4 h5 h6 h7 h8 h9 h10 h11 h12 h13 h14 h15 h16 kc2 kc4 kc5 kc6 kc7 kc8 kc9 kc10 kc11 kc12 kc13 kc14 kc15 kc16 V0 V3 v0_locals o1.1 o1.2.1 o1.2.2.1 o1.2.2.2.1 o1.2.2.2.2.1 v1_size o1.2.2.2.2.2 c2 v3_globals v3_procedures v3_statements c4 c5 c6 c7 c8 c9 c10 c11 c12 c13 c14 c15 c16) := hD.sub [0, 15, 16, 1, 2, 3, 4, 5, 6, 7, 8, 9, 10, 11, 12, 13, 14] (by decide) rfl
  refine lv_aload_n hx hb dX2_readBranch_7 rfl (lv_at hl 0 rfl) ?_
  refine va_get (D := (dC, dI)) (ci := 2) (v := .ref h3) (C := RX2) (T := TX2) (N := 7) hx hb hts inlX2 hown hK hP 0 rfl rfl 1 (by decide) w1_ (fun _ h9 => h9) rfl dX2_readBranch_8 ?_
  refine va_get (D := (dC, dI)) (ci := 3) (v := .ref h5) (C := RX3) (T := TX3) (N := 18) hx hb hts inlX3 hown hK hP 3 rfl rfl 8 (by decide) w2_ (fun _ h9 => h9) rfl dX2_readBranch_11 ?_
  refine lv_iload_n hx hb dX2_readBranch_14 rfl (lv_at hl 1 rfl) ?_
  refine lv_aload_n hx hb dX2_readBranch_15 rfl (lv_at hl 0 rfl) ?_
  refine lv_iconst (v := 0) hx hb dX2_readBranch_16 (by decide +kernel) ?_
  obtain ⟨o2, e2, hf⟩ := ob_some hf
  refine kVl (As := [.int 0]) (rest := [.int a0, .ref h5]) ⟨hx, hb, hml, hown, hts⟩ (mX2_readExpression l dC dI h0 h1 h3 h4 h2 kc4 kc2 H.size base 0 v0_locals o1.1 o1.2.1 o1.2.2.1 o1.2.2.2.1 o1.2.2.2.2.1 v1_size o1.2.2.2.2.2 v3_globals c4 c2 (fun k => match k with | 5 => .ref h15 | 6 => .ref h16 | k => V0 k) (fun k => match k with | 2 => .int v3_procedures | 3 => .int v3_statements | 5 => .ref h6 | 6 => .ref h7 | 7 => .ref h8 | 8 => .ref h5 | 9 => .ref h9 | 10 => .ref h10 | 13 => .ref h11 | 14 => .ref h12 | 15 => .ref h13 | 16 => .ref h14 | k => V3 k) o2 e2) (cwV 1 hts (gTV q724 q725 q726 q27 q727) rfl rfl rfl (by decide +kernel) ⟨(by show 54 + 1 ≤ max ((F_X2_readBlock) + 1) 55; omega), (by show 8 + (7 + 11) + 1302 ≤ max ((L_X2_readBlock) + 23) 1328; omega)⟩) hK hP hD hS hA hE hAB [0, 1, 3, 4, 2] [5, 6, 7, 8, 9, 10, 11, 12, 13, 14, 15, 16] [1, 0] (wr := [(h5, .inl (kc5, 40, .inr (.inl c5))), (h6, .inl (kc6, 40, .inl c6)), (h7, .inl (kc7, 40, .inl c7)), (h8, .inl (kc8, 40, .inl c8)), (h9, .inl (kc9, 40, .inl c9)), (h10, .inl (kc10, 40, .inl c10)), (h11, .inl (kc11, 40, .inl c11)), (h12, .inl (kc12, 40, .inl c12)), (h13, .inl (kc13, 40, .inl c13)), (h14, .inl (kc14, 40, .inl c14)), (h15, .inl (kc15, 40, .inr (.inl c15))), (h16, .inl (kc16, 40, .inl c16))]) rfl rfl (by decide) (by decide) (by decide) rfl (ci := 2) (q0 := 0) rfl rfl rfl rfl hl.1 rfl (Nat.le_of_ble_eq_true rfl) dX2_readBranch_17 ⟨Nat.zero_le _, Nat.zero_le _⟩ (fun r2 u2 H locs hw2 hP hD hS => ?_)
  obtain ⟨hw21, hw22⟩ := hw2
  subst hw21 hw22
  have hP : va_P (dC, dI) vwCl (wX2_readBranch h0 h1 h2 h3 h4 h5 h6 h7 h8 h9 h10 h11 h12 h13 h14 h15 h16 kc2 kc4 kc5 kc6 kc7 kc8 kc9 kc10 kc11 kc12 kc13 kc14 kc15 kc16 V0 V3 v0_locals o2.2.1 o2.2.2.1 o2.2.2.2.1 o2.2.2.2.2.1 o2.2.2.2.2.2.1 v1_size o2.2.2.2.2.2.2 c2 v3_globals v3_procedures v3_statements c4 c5 c6 c7 c8 c9 c10 c11 c12 c13 c14 c15 c16) H := hP.sub [12, 13, 16, 14, 15, 0, 1, 2, 3, 4, 5, 6, 7, 8, 9, 10, 11] rfl
  have hD : va_D A (wX2_readBranch h0 h1 h2 h3 h4 h5 h6 h7 h8 h9 h10 h11 h12 h13 h14 h15 h16 kc2 kc4 kc5 kc6 kc7 kc8 kc9 kc10 kc11 kc12 kc13 kc14 kc15 kc16 V0 V3 v0_locals o2.2.1 o2.2.2.1 o2.2.2.2.1 o2.2.2.2.2.1 o2.2.2.2.2.2.1 v1_size o2.2.2.2.2.2.2 c2 v3_globals v3_procedures v3_statements c4 c5 c6 c7 c8 c9 c10 c11 c12 c13 c14 c15 c16) := hD.sub [12, 13, 16, 14, 15, 0, 1, 2, 3, 4, 5, 6, 7, 8, 9, 10, 11] (by decide) rfl
  have b3 := bd_in hf
  replace hf := bd_k hf
  obtain ⟨c3x, e3⟩ : ∃ y, y = vp_updL c5 a0.toNatClampNeg o2.1 := ⟨_, rfl⟩
  replace hf := nm_at hf e3
  refine va_last hx hb hK hP hD hS 5 2 rfl rfl b3 dX2_readBranch_20 (fun H locs hP hD hS => ?_)
  have hP : va_P (dC, dI) vwCl (wX2_readBranch h0 h1 h2 h3 h4 h5 h6 h7 h8 h9 h10 h11 h12 h13 h14 h15 h16 kc2 kc4 kc5 kc6 kc7 kc8 kc9 kc10 kc11 kc12 kc13 kc14 kc15 kc16 V0 V3 v0_locals o2.2.1 o2.2.2.1 o2.2.2.2.1 o2.2.2.2.2.1 o2.2.2.2.2.2.1 v1_size o2.2.2.2.2.2.2 c2 v3_globals v3_procedures v3_statements c4 c3x c6 c7 c8 c9 c10 c11 c12 c13 c14 c15 c16) H := by rw [e3]; exact hP
  have hD : va_D A (wX2_readBranch h0 h1 h2 h3 h4 h5 h6 h7 h8 h9 h10 h11 h12 h13 h14 h15 h16 kc2 kc4 kc5 kc6 kc7 kc8 kc9 kc10 kc11 kc12 kc13 kc14 kc15 kc16 V0 V3 v0_locals o2.2.1 o2.2.2.1 o2.2.2.2.1 o2.2.2.2.2.1 o2.2.2.2.2.2.1 v1_size o2.2.2.2.2.2.2 c2 v3_globals v3_procedures v3_statements c4 c3x c6 c7 c8 c9 c10 c11 c12 c13 c14 c15 c16) := by rw [e3]; exact hD
  refine lv_aload_n hx hb dX2_readBranch_21 rfl (lv_at hl 0 rfl) ?_
  refine va_get (D := (dC, dI)) (ci := 2) (v := .ref h3) (C := RX2) (T := TX2) (N := 7) hx hb hts inlX2 hown hK hP 0 rfl rfl 1 (by decide) w1_ (fun _ h9 => h9) rfl dX2_readBranch_22 ?_
  refine va_get (D := (dC, dI)) (ci := 3) (v := .ref h13) (C := RX3) (T := TX3) (N := 18) hx hb hts inlX3 hown hK hP 3 rfl rfl 15 (by decide) w3_ (fun _ h9 => h9) rfl dX2_readBranch_25 ?_
  refine lv_iload_n hx hb dX2_readBranch_28 rfl (lv_at hl 1 rfl) ?_
  refine lv_aload_n hx hb dX2_readBranch_29 rfl (lv_at hl 0 rfl) ?_
  refine lv_iload_n hx hb dX2_readBranch_30 rfl (lv_at hl 1 rfl) ?_
  refine lv_iload_n hx hb dX2_readBranch_31 rfl (lv_at hl 2 rfl) ?_
  obtain ⟨o4, e4, hf⟩ := ob_some hf
  refine kVi (As := [.int a0, .int a1]) (rest := [.int a0, .ref h13]) ⟨hx, hb, hml, hown, hts⟩ (hk_X2_readBlock l dC dI h0 h1 h2 h3 h6 h7 h8 h5 h9 h10 h11 h12 h13 h14 h4 h15 h16 kc2 kc6 kc7 kc8 kc5 kc9 kc10 kc11 kc12 kc13 kc14 kc4 kc15 kc16 H.size base a0 a1 v0_locals o2.2.1 o2.2.2.1 o2.2.2.2.1 o2.2.2.2.2.1 o2.2.2.2.2.2.1 v1_size o2.2.2.2.2.2.2 c2 v3_globals v3_procedures v3_statements c6 c7 c8 c3x c9 c10 c11 c12 c13 c14 c4 c15 c16 V0 V3 o4 e4) (cwV 2 hts (gTV q748 q749 q750 q27 q718) rfl rfl rfl (by decide +kernel) ⟨(by show F_X2_readBlock + 1 ≤ max ((F_X2_readBlock) + 1) 55; omega), (by show 8 + (4 + 11) + L_X2_readBlock ≤ max ((L_X2_readBlock) + 23) 1328; omega)⟩) hK hP hD hS hA hE hAB [0, 1, 2, 3, 6, 7, 8, 5, 9, 10, 11, 12, 13, 14, 4, 15, 16] [] [0, 3, 4, 5, 2, 6, 7, 8, 9, 10, 11, 1, 12, 13] (wr := []) rfl rfl (by decide) (by decide) (by decide) rfl (ci := 2) (q0 := 0) rfl rfl rfl rfl hl.1 rfl (Nat.le_of_ble_eq_true rfl) dX2_readBranch_32 ⟨Nat.zero_le _, Nat.zero_le _⟩ (fun r4 u4 H locs hw4 hP hD hS => ?_)
  obtain ⟨hw41, hw42⟩ := hw4
  subst hw41 hw42
  have hP : va_P (dC, dI) vwCl (wX2_readBranch h0 h1 h2 h3 h4 h5 h6 h7 h8 h9 h10 h11 h12 h13 h14 h15 h16 kc2 kc4 kc5 kc6 kc7 kc8 kc9 kc10 kc11 kc12 kc13 kc14 kc15 kc16 V0 V3 v0_locals o4.2.1 o4.2.2.1 o4.2.2.2.1 o4.2.2.2.2.1 o4.2.2.2.2.2.1 v1_size o4.2.2.2.2.2.2.1 c2 v3_globals v3_procedures o4.2.2.2.2.2.2.2.1 c4 o4.2.2.2.2.2.2.2.2.2.2.2.1 o4.2.2.2.2.2.2.2.2.1 o4.2.2.2.2.2.2.2.2.2.1 o4.2.2.2.2.2.2.2.2.2.2.1 o4.2.2.2.2.2.2.2.2.2.2.2.2.1 o4.2.2.2.2.2.2.2.2.2.2.2.2.2.1 o4.2.2.2.2.2.2.2.2.2.2.2.2.2.2.1 o4.2.2.2.2.2.2.2.2.2.2.2.2.2.2.2.1 o4.2.2.2.2.2.2.2.2.2.2.2.2.2.2.2.2.1 o4.2.2.2.2.2.2.2.2.2.2.2.2.2.2.2.2.2.1 o4.2.2.2.2.2.2.2.2.2.2.2.2.2.2.2.2.2.2.1 o4.2.2.2.2.2.2.2.2.2.2.2.2.2.2.2.2.2.2.2) H := hP.sub [0, 1, 2, 3, 14, 7, 4, 5, 6, 8, 9, 10, 11, 12, 13, 15, 16] rfl
  have hD : va_D A (wX2_readBranch h0 h1 h2 h3 h4 h5 h6 h7 h8 h9 h10 h11 h12 h13 h14 h15 h16 kc2 kc4 kc5 kc6 kc7 kc8 kc9 kc10 kc11 kc12 kc13 kc14 kc15 kc16 V0 V3 v0_locals o4.2.1 o4.2.2.1 o4.2.2.2.1 o4.2.2.2.2.1 o4.2.2.2.2.2.1 v1_size o4.2.2.2.2.2.2.1 c2 v3_globals v3_procedures o4.2.2.2.2.2.2.2.1 c4 o4.2.2.2.2.2.2.2.2.2.2.2.1 o4.2.2.2.2.2.2.2.2.1 o4.2.2.2.2.2.2.2.2.2.1 o4.2.2.2.2.2.2.2.2.2.2.1 o4.2.2.2.2.2.2.2.2.2.2.2.2.1 o4.2.2.2.2.2.2.2.2.2.2.2.2.2.1 o4.2.2.2.2.2.2.2.2.2.2.2.2.2.2.1 o4.2.2.2.2.2.2.2.2.2.2.2.2.2.2.2.1 o4.2.2.2.2.2.2.2.2.2.2.2.2.2.2.2.2.1 o4.2.2.2.2.2.2.2.2.2.2.2.2.2.2.2.2.2.1 o4.2.2.2.2.2.2.2.2.2.2.2.2.2.2.2.2.2.2.1 o4.2.2.2.2.2.2.2.2.2.2.2.2.2.2.2.2.2.2.2) := hD.sub [0, 1, 2, 3, 14, 7, 4, 5, 6, 8, 9, 10, 11, 12, 13, 15, 16] (by decide) rfl
  have b5 := bd_in hf
  replace hf := bd_k hf
  obtain ⟨c5x, e5⟩ : ∃ y, y = upd o4.2.2.2.2.2.2.2.2.2.2.2.2.2.2.2.2.1 a0.toNatClampNeg o4.1 := ⟨_, rfl⟩
  replace hf := nm_at hf e5
  refine va_iast hx hb hK hP hD hS 13 10 rfl rfl b5 dX2_readBranch_35 (fun H locs hP hD hS => ?_)
  have hP : va_P (dC, dI) vwCl (wX2_readBranch h0 h1 h2 h3 h4 h5 h6 h7 h8 h9 h10 h11 h12 h13 h14 h15 h16 kc2 kc4 kc5 kc6 kc7 kc8 kc9 kc10 kc11 kc12 kc13 kc14 kc15 kc16 V0 V3 v0_locals o4.2.1 o4.2.2.1 o4.2.2.2.1 o4.2.2.2.2.1 o4.2.2.2.2.2.1 v1_size o4.2.2.2.2.2.2.1 c2 v3_globals v3_procedures o4.2.2.2.2.2.2.2.1 c4 o4.2.2.2.2.2.2.2.2.2.2.2.1 o4.2.2.2.2.2.2.2.2.1 o4.2.2.2.2.2.2.2.2.2.1 o4.2.2.2.2.2.2.2.2.2.2.1 o4.2.2.2.2.2.2.2.2.2.2.2.2.1 o4.2.2.2.2.2.2.2.2.2.2.2.2.2.1 o4.2.2.2.2.2.2.2.2.2.2.2.2.2.2.1 o4.2.2.2.2.2.2.2.2.2.2.2.2.2.2.2.1 c5x o4.2.2.2.2.2.2.2.2.2.2.2.2.2.2.2.2.2.1 o4.2.2.2.2.2.2.2.2.2.2.2.2.2.2.2.2.2.2.1 o4.2.2.2.2.2.2.2.2.2.2.2.2.2.2.2.2.2.2.2) H := by rw [e5]; exact hP
  have hD : va_D A (wX2_readBranch h0 h1 h2 h3 h4 h5 h6 h7 h8 h9 h10 h11 h12 h13 h14 h15 h16 kc2 kc4 kc5 kc6 kc7 kc8 kc9 kc10 kc11 kc12 kc13 kc14 kc15 kc16 V0 V3 v0_locals o4.2.1 o4.2.2.1 o4.2.2.2.1 o4.2.2.2.2.1 o4.2.2.2.2.2.1 v1_size o4.2.2.2.2.2.2.1 c2 v3_globals v3_procedures o4.2.2.2.2.2.2.2.1 c4 o4.2.2.2.2.2.2.2.2.2.2.2.1 o4.2.2.2.2.2.2.2.2.1 o4.2.2.2.2.2.2.2.2.2.1 o4.2.2.2.2.2.2.2.2.2.2.1 o4.2.2.2.2.2.2.2.2.2.2.2.2.1 o4.2.2.2.2.2.2.2.2.2.2.2.2.2.1 o4.2.2.2.2.2.2.2.2.2.2.2.2.2.2.1 o4.2.2.2.2.2.2.2.2.2.2.2.2.2.2.2.1 c5x o4.2.2.2.2.2.2.2.2.2.2.2.2.2.2.2.2.2.1 o4.2.2.2.2.2.2.2.2.2.2.2.2.2.2.2.2.2.2.1 o4.2.2.2.2.2.2.2.2.2.2.2.2.2.2.2.2.2.2.2) := by rw [e5]; exact hD
  refine lv_aload_n hx hb dX2_readBranch_36 rfl (lv_at hl 0 rfl) ?_
  refine va_get (D := (dC, dI)) (ci := 2) (v := .ref h3) (C := RX2) (T := TX2) (N := 7) hx hb hts inlX2 hown hK hP 0 rfl rfl 1 (by decide) w1_ (fun _ h9 => h9) rfl dX2_readBranch_37 ?_
  refine va_get (D := (dC, dI)) (ci := 3) (v := .ref h6) (C := RX3) (T := TX3) (N := 18) hx hb hts inlX3 hown hK hP 3 rfl rfl 5 (by decide) w4_ (fun _ h9 => h9) rfl dX2_readBranch_40 ?_
  refine lv_iload_n hx hb dX2_readBranch_43 rfl (lv_at hl 1 rfl) ?_
  have b6 := bd_in hf
  replace hf := bd_k hf
  refine va_iald hx hb hK hP 6 3 rfl rfl b6 dX2_readBranch_44 ?_
  refine lv_topi (fun x7 e7 => ?_)
  replace hf := nm_at hf e7
  refine lv_iconst (v := 1) hx hb dX2_readBranch_45 (by decide +kernel) ?_
  refine lv_icmp_ne (tgt := 84) hx hb dX2_readBranch_46 (by decide) (fun cq8 => ?_) (fun cq8 => ?_)
  · replace hf := if_no hf cq8
    exact (hG _ _ _ _ _).mp (J84 o4.2.1 o4.2.2.1 o4.2.2.2.1 o4.2.2.2.2.1 o4.2.2.2.2.2.1 o4.2.2.2.2.2.2.1 o4.2.2.2.2.2.2.2.1 o4.2.2.2.2.2.2.2.2.2.2.2.1 o4.2.2.2.2.2.2.2.2.1 o4.2.2.2.2.2.2.2.2.2.1 o4.2.2.2.2.2.2.2.2.2.2.1 o4.2.2.2.2.2.2.2.2.2.2.2.2.1 o4.2.2.2.2.2.2.2.2.2.2.2.2.2.1 o4.2.2.2.2.2.2.2.2.2.2.2.2.2.2.1 o4.2.2.2.2.2.2.2.2.2.2.2.2.2.2.2.1 c5x o4.2.2.2.2.2.2.2.2.2.2.2.2.2.2.2.2.2.1 o4.2.2.2.2.2.2.2.2.2.2.2.2.2.2.2.2.2.2.1 o4.2.2.2.2.2.2.2.2.2.2.2.2.2.2.2.2.2.2.2 H locs ls (hP.sub [0, 1, 2, 3, 4, 5, 6, 7, 8, 9, 10, 11, 12, 13, 14, 15, 16] rfl) (hD.sub [0, 1, 2, 3, 4, 5, 6, 7, 8, 9, 10, 11, 12, 13, 14, 15, 16] (by decide) rfl) hS (lv_sub hl [0] rfl) hf)
  · replace hf := if_at hf cq8
    refine lv_aload_n hx hb dX2_readBranch_49 rfl (lv_at hl 0 rfl) ?_
    refine va_get (D := (dC, dI)) (ci := 2) (v := .ref h1) (C := RX2) (T := TX2) (N := 7) hx hb hts inlX2 hown hK hP 0 rfl rfl 0 (by decide) w0_ (fun _ h9 => h9) rfl dX2_readBranch_50 ?_
    refine va_get (D := (dC, dI)) (ci := 4) (v := .int o4.2.1) (C := RX4) (T := TX4) (N := 8) hx hb hts inlX4 hown hK hP 1 rfl rfl 0 (by decide) w5_ (fun _ h9 => h9) rfl dX2_readBranch_53 ?_
    refine lv_sipush (v := 261) hx hb dX2_readBranch_56 (by decide +kernel) ?_
    refine lv_icmp_ne (tgt := 84) hx hb dX2_readBranch_59 (by decide) (fun cq9 => ?_) (fun cq9 => ?_)
    · replace hf := if_no hf cq9
      exact (hG _ _ _ _ _).mp (J84 o4.2.1 o4.2.2.1 o4.2.2.2.1 o4.2.2.2.2.1 o4.2.2.2.2.2.1 o4.2.2.2.2.2.2.1 o4.2.2.2.2.2.2.2.1 o4.2.2.2.2.2.2.2.2.2.2.2.1 o4.2.2.2.2.2.2.2.2.1 o4.2.2.2.2.2.2.2.2.2.1 o4.2.2.2.2.2.2.2.2.2.2.1 o4.2.2.2.2.2.2.2.2.2.2.2.2.1 o4.2.2.2.2.2.2.2.2.2.2.2.2.2.1 o4.2.2.2.2.2.2.2.2.2.2.2.2.2.2.1 o4.2.2.2.2.2.2.2.2.2.2.2.2.2.2.2.1 c5x o4.2.2.2.2.2.2.2.2.2.2.2.2.2.2.2.2.2.1 o4.2.2.2.2.2.2.2.2.2.2.2.2.2.2.2.2.2.2.1 o4.2.2.2.2.2.2.2.2.2.2.2.2.2.2.2.2.2.2.2 H locs ls (hP.sub [0, 1, 2, 3, 4, 5, 6, 7, 8, 9, 10, 11, 12, 13, 14, 15, 16] rfl) (hD.sub [0, 1, 2, 3, 4, 5, 6, 7, 8, 9, 10, 11, 12, 13, 14, 15, 16] (by decide) rfl) hS (lv_sub hl [0] rfl) hf)
    · replace hf := if_at hf cq9
      refine lv_aload_n hx hb dX2_readBranch_62 rfl (lv_at hl 0 rfl) ?_
      refine va_get (D := (dC, dI)) (ci := 2) (v := .ref h1) (C := RX2) (T := TX2) (N := 7) hx hb hts inlX2 hown hK hP 0 rfl rfl 0 (by decide) w0_ (fun _ h9 => h9) rfl dX2_readBranch_63 ?_
      obtain ⟨o10, e10, hf⟩ := ob_some hf
      refine kVv (As := []) (rest := []) ⟨hx, hb, hml, hown, hts⟩ (mX4_advance l dC dI h1 h2 kc2 H.size base o4.2.1 o4.2.2.1 o4.2.2.2.1 o4.2.2.2.2.1 o4.2.2.2.2.2.1 v1_size o4.2.2.2.2.2.2.1 c2 o10 e10) (cwV 0 hts (gTV q672 q562 q563 q19 q564) rfl rfl rfl (by decide +kernel) ⟨(by show 4 + 1 ≤ max ((F_X2_readBlock) + 1) 55; omega), (by show 8 + (2 + 11) + 91 ≤ max ((L_X2_readBlock) + 23) 1328; omega)⟩) hK hP hD hS hA hE hAB [1, 2] [0, 3, 4, 5, 6, 7, 8, 9, 10, 11, 12, 13, 14, 15, 16] [0] (wr := [(h0, .inr (2, [.ref h1, .ref h3, .ref h4, .int v0_locals, V0 4, .ref h15, .ref h16])), (h3, .inr (3, [V3 0, .int v3_globals, .int v3_procedures, .int o4.2.2.2.2.2.2.2.1, V3 4, .ref h6, .ref h7, .ref h8, .ref h5, .ref h9, .ref h10, V3 11, V3 12, .ref h11, .ref h12, .ref h13, .ref h14, V3 17])), (h4, .inl (kc4, 5, .inr (.inl c4))), (h5, .inl (kc5, 40, .inr (.inl o4.2.2.2.2.2.2.2.2.2.2.2.1))), (h6, .inl (kc6, 40, .inl o4.2.2.2.2.2.2.2.2.1)), (h7, .inl (kc7, 40, .inl o4.2.2.2.2.2.2.2.2.2.1)), (h8, .inl (kc8, 40, .inl o4.2.2.2.2.2.2.2.2.2.2.1)), (h9, .inl (kc9, 40, .inl o4.2.2.2.2.2.2.2.2.2.2.2.2.1)), (h10, .inl (kc10, 40, .inl o4.2.2.2.2.2.2.2.2.2.2.2.2.2.1)), (h11, .inl (kc11, 40, .inl o4.2.2.2.2.2.2.2.2.2.2.2.2.2.2.1)), (h12, .inl (kc12, 40, .inl o4.2.2.2.2.2.2.2.2.2.2.2.2.2.2.2.1)), (h13, .inl (kc13, 40, .inl c5x)), (h14, .inl (kc14, 40, .inl o4.2.2.2.2.2.2.2.2.2.2.2.2.2.2.2.2.2.1)), (h15, .inl (kc15, 40, .inr (.inl o4.2.2.2.2.2.2.2.2.2.2.2.2.2.2.2.2.2.2.1))), (h16, .inl (kc16, 40, .inl o4.2.2.2.2.2.2.2.2.2.2.2.2.2.2.2.2.2.2.2))]) rfl rfl (by decide) (by decide) (by decide) rfl (ci := 4) (q0 := 0) rfl rfl rfl rfl hl.1 rfl (Nat.le_of_ble_eq_true rfl) dX2_readBranch_66 ⟨Nat.zero_le _, Nat.zero_le _⟩ (fun u10 H locs hw10 hP hD hS => ?_)
      have hw101 : o10 = u10 := Eq.symm hw10
      subst hw101
      have hP : va_P (dC, dI) vwCl (wX2_readBranch h0 h1 h2 h3 h4 h5 h6 h7 h8 h9 h10 h11 h12 h13 h14 h15 h16 kc2 kc4 kc5 kc6 kc7 kc8 kc9 kc10 kc11 kc12 kc13 kc14 kc15 kc16 V0 V3 v0_locals o10.1 o10.2.1 o10.2.2.1 o10.2.2.2.1 o10.2.2.2.2.1 v1_size o10.2.2.2.2.2 c2 v3_globals v3_procedures o4.2.2.2.2.2.2.2.1 c4 o4.2.2.2.2.2.2.2.2.2.2.2.1 o4.2.2.2.2.2.2.2.2.1 o4.2.2.2.2.2.2.2.2.2.1 o4.2.2.2.2.2.2.2.2.2.2.1 o4.2.2.2.2.2.2.2.2.2.2.2.2.1 o4.2.2.2.2.2.2.2.2.2.2.2.2.2.1 o4.2.2.2.2.2.2.2.2.2.2.2.2.2.2.1 o4.2.2.2.2.2.2.2.2.2.2.2.2.2.2.2.1 c5x o4.2.2.2.2.2.2.2.2.2.2.2.2.2.2.2.2.2.1 o4.2.2.2.2.2.2.2.2.2.2.2.2.2.2.2.2.2.2.1 o4.2.2.2.2.2.2.2.2.2.2.2.2.2.2.2.2.2.2.2) H := hP.sub [0, 15, 16, 1, 2, 3, 4, 5, 6, 7, 8, 9, 10, 11, 12, 13, 14] rfl
      have hD : va_D A (wX2_readBranch h0 h1 h2 h3 h4 h5 h6 h7 h8 h9 h10 h11 h12 h13 h14 h15 h16 kc2 kc4 kc5 kc6 kc7 kc8 kc9 kc10 kc11 kc12 kc13 kc14 kc15 kc16 V0 V3 v0_locals o10.1 o10.2.1 o10.2.2.1 o10.2.2.2.1 o10.2.2.2.2.1 v1_size o10.2.2.2.2.2 c2 v3_globals v3_procedures o4.2.2.2.2.2.2.2.1 c4 o4.2.2.2.2.2.2.2.2.2.2.2.1 o4.2.2.2.2.2.2.2.2.1 o4.2.2.2.2.2.2.2.2.2.1 o4.2.2.2.2.2.2.2.2.2.2.1 o4.2.2.2.2.2.2.2.2.2.2.2.2.1 o4.2.2.2.2.2.2.2.2.2.2.2.2.2.1 o4.2.2.2.2.2.2.2.2.2.2.2.2.2.2.1 o4.2.2.2.2.2.2.2.2.2.2.2.2.2.2.2.1 c5x o4.2.2.2.2.2.2.2.2.2.2.2.2.2.2.2.2.2.1 o4.2.2.2.2.2.2.2.2.2.2.2.2.2.2.2.2.2.2.1 o4.2.2.2.2.2.2.2.2.2.2.2.2.2.2.2.2.2.2.2) := hD.sub [0, 15, 16, 1, 2, 3, 4, 5, 6, 7, 8, 9, 10, 11, 12, 13, 14] (by decide) rfl
      refine lv_aload_n hx hb dX2_readBranch_69 rfl (lv_at hl 0 rfl) ?_
      refine va_get (D := (dC, dI)) (ci := 2) (v := .ref h3) (C := RX2) (T := TX2) (N := 7) hx hb hts inlX2 hown hK hP 0 rfl rfl 1 (by decide) w1_ (fun _ h9 => h9) rfl dX2_readBranch_70 ?_
      refine va_get (D := (dC, dI)) (ci := 3) (v := .ref h14) (C := RX3) (T := TX3) (N := 18) hx hb hts inlX3 hown hK hP 3 rfl rfl 16 (by decide) w6_ (fun _ h9 => h9) rfl dX2_readBranch_73 ?_
      refine lv_iload_n hx hb dX2_readBranch_76 rfl (lv_at hl 1 rfl) ?_
      refine lv_aload_n hx hb dX2_readBranch_77 rfl (lv_at hl 0 rfl) ?_
      refine lv_iload_n hx hb dX2_readBranch_78 rfl (lv_at hl 1 rfl) ?_
      refine lv_iload_n hx hb dX2_readBranch_79 rfl (lv_at hl 2 rfl) ?_
      obtain ⟨o11, e11, hf⟩ := ob_some hf
      refine kVi (As := [.int a0, .int a1]) (rest := [.int a0, .ref h14]) ⟨hx, hb, hml, hown, hts⟩ (hk_X2_readBlock l dC dI h0 h1 h2 h3 h6 h7 h8 h5 h9 h10 h11 h12 h13 h14 h4 h15 h16 kc2 kc6 kc7 kc8 kc5 kc9 kc10 kc11 kc12 kc13 kc14 kc4 kc15 kc16 H.size base a0 a1 v0_locals o10.1 o10.2.1 o10.2.2.1 o10.2.2.2.1 o10.2.2.2.2.1 v1_size o10.2.2.2.2.2 c2 v3_globals v3_procedures o4.2.2.2.2.2.2.2.1 o4.2.2.2.2.2.2.2.2.1 o4.2.2.2.2.2.2.2.2.2.1 o4.2.2.2.2.2.2.2.2.2.2.1 o4.2.2.2.2.2.2.2.2.2.2.2.1 o4.2.2.2.2.2.2.2.2.2.2.2.2.1 o4.2.2.2.2.2.2.2.2.2.2.2.2.2.1 o4.2.2.2.2.2.2.2.2.2.2.2.2.2.2.1 o4.2.2.2.2.2.2.2.2.2.2.2.2.2.2.2.1 c5x o4.2.2.2.2.2.2.2.2.2.2.2.2.2.2.2.2.2.1 c4 o4.2.2.2.2.2.2.2.2.2.2.2.2.2.2.2.2.2.2.1 o4.2.2.2.2.2.2.2.2.2.2.2.2.2.2.2.2.2.2.2 V0 V3 o11 e11) (cwV 2 hts (gTV q748 q749 q750 q27 q718) rfl rfl rfl (by decide +kernel) ⟨(by show F_X2_readBlock + 1 ≤ max ((F_X2_readBlock) + 1) 55; omega), (by show 8 + (4 + 11) + L_X2_readBlock ≤ max ((L_X2_readBlock) + 23) 1328; omega)⟩) hK hP hD hS hA hE hAB [0, 1, 2, 3, 6, 7, 8, 5, 9, 10, 11, 12, 13, 14, 4, 15, 16] [] [0, 3, 4, 5, 2, 6, 7, 8, 9, 10, 11, 1, 12, 13] (wr := []) rfl rfl (by decide) (by decide) (by decide) rfl (ci := 2) (q0 := 0) rfl rfl rfl rfl hl.1 rfl (Nat.le_of_ble_eq_true rfl) dX2_readBranch_80 ⟨Nat.zero_le _, Nat.zero_le _⟩ (fun r11 u11 H locs hw11 hP hD hS => ?_)
      obtain ⟨hw111, hw112⟩ := hw11
      subst hw111 hw112
      have hP : va_P (dC, dI) vwCl (wX2_readBranch h0 h1 h2 h3 h4 h5 h6 h7 h8 h9 h10 h11 h12 h13 h14 h15 h16 kc2 kc4 kc5 kc6 kc7 kc8 kc9 kc10 kc11 kc12 kc13 kc14 kc15 kc16 V0 V3 v0_locals o11.2.1 o11.2.2.1 o11.2.2.2.1 o11.2.2.2.2.1 o11.2.2.2.2.2.1 v1_size o11.2.2.2.2.2.2.1 c2 v3_globals v3_procedures o11.2.2.2.2.2.2.2.1 c4 o11.2.2.2.2.2.2.2.2.2.2.2.1 o11.2.2.2.2.2.2.2.2.1 o11.2.2.2.2.2.2.2.2.2.1 o11.2.2.2.2.2.2.2.2.2.2.1 o11.2.2.2.2.2.2.2.2.2.2.2.2.1 o11.2.2.2.2.2.2.2.2.2.2.2.2.2.1 o11.2.2.2.2.2.2.2.2.2.2.2.2.2.2.1 o11.2.2.2.2.2.2.2.2.2.2.2.2.2.2.2.1 o11.2.2.2.2.2.2.2.2.2.2.2.2.2.2.2.2.1 o11.2.2.2.2.2.2.2.2.2.2.2.2.2.2.2.2.2.1 o11.2.2.2.2.2.2.2.2.2.2.2.2.2.2.2.2.2.2.1 o11.2.2.2.2.2.2.2.2.2.2.2.2.2.2.2.2.2.2.2) H := hP.sub [0, 1, 2, 3, 14, 7, 4, 5, 6, 8, 9, 10, 11, 12, 13, 15, 16] rfl
      have hD : va_D A (wX2_readBranch h0 h1 h2 h3 h4 h5 h6 h7 h8 h9 h10 h11 h12 h13 h14 h15 h16 kc2 kc4 kc5 kc6 kc7 kc8 kc9 kc10 kc11 kc12 kc13 kc14 kc15 kc16 V0 V3 v0_locals o11.2.1 o11.2.2.1 o11.2.2.2.1 o11.2.2.2.2.1 o11.2.2.2.2.2.1 v1_size o11.2.2.2.2.2.2.1 c2 v3_globals v3_procedures o11.2.2.2.2.2.2.2.1 c4 o11.2.2.2.2.2.2.2.2.2.2.2.1 o11.2.2.2.2.2.2.2.2.1 o11.2.2.2.2.2.2.2.2.2.1 o11.2.2.2.2.2.2.2.2.2.2.1 o11.2.2.2.2.2.2.2.2.2.2.2.2.1 o11.2.2.2.2.2.2.2.2.2.2.2.2.2.1 o11.2.2.2.2.2.2.2.2.2.2.2.2.2.2.1 o11.2.2.2.2.2.2.2.2.2.2.2.2.2.2.2.1 o11.2.2.2.2.2.2.2.2.2.2.2.2.2.2.2.2.1 o11.2.2.2.2.2.2.2.2.2.2.2.2.2.2.2.2.2.1 o11.2.2.2.2.2.2.2.2.2.2.2.2.2.2.2.2.2.2.1 o11.2.2.2.2.2.2.2.2.2.2.2.2.2.2.2.2.2.2.2) := hD.sub [0, 1, 2, 3, 14, 7, 4, 5, 6, 8, 9, 10, 11, 12, 13, 15, 16] (by decide) rfl
      have b12 := bd_in hf
      replace hf := bd_k hf
      obtain ⟨c12x, e12⟩ : ∃ y, y = upd o11.2.2.2.2.2.2.2.2.2.2.2.2.2.2.2.2.2.1 a0.toNatClampNeg o11.1 := ⟨_, rfl⟩
      replace hf := nm_at hf e12
      refine va_iast hx hb hK hP hD hS 14 11 rfl rfl b12 dX2_readBranch_83 (fun H locs hP hD hS => ?_)
      have hP : va_P (dC, dI) vwCl (wX2_readBranch h0 h1 h2 h3 h4 h5 h6 h7 h8 h9 h10 h11 h12 h13 h14 h15 h16 kc2 kc4 kc5 kc6 kc7 kc8 kc9 kc10 kc11 kc12 kc13 kc14 kc15 kc16 V0 V3 v0_locals o11.2.1 o11.2.2.1 o11.2.2.2.1 o11.2.2.2.2.1 o11.2.2.2.2.2.1 v1_size o11.2.2.2.2.2.2.1 c2 v3_globals v3_procedures o11.2.2.2.2.2.2.2.1 c4 o11.2.2.2.2.2.2.2.2.2.2.2.1 o11.2.2.2.2.2.2.2.2.1 o11.2.2.2.2.2.2.2.2.2.1 o11.2.2.2.2.2.2.2.2.2.2.1 o11.2.2.2.2.2.2.2.2.2.2.2.2.1 o11.2.2.2.2.2.2.2.2.2.2.2.2.2.1 o11.2.2.2.2.2.2.2.2.2.2.2.2.2.2.1 o11.2.2.2.2.2.2.2.2.2.2.2.2.2.2.2.1 o11.2.2.2.2.2.2.2.2.2.2.2.2.2.2.2.2.1 c12x o11.2.2.2.2.2.2.2.2.2.2.2.2.2.2.2.2.2.2.1 o11.2.2.2.2.2.2.2.2.2.2.2.2.2.2.2.2.2.2.2) H := by rw [e12]; exact hP
      have hD : va_D A (wX2_readBranch h0 h1 h2 h3 h4 h5 h6 h7 h8 h9 h10 h11 h12 h13 h14 h15 h16 kc2 kc4 kc5 kc6 kc7 kc8 kc9 kc10 kc11 kc12 kc13 kc14 kc15 kc16 V0 V3 v0_locals o11.2.1 o11.2.2.1 o11.2.2.2.1 o11.2.2.2.2.1 o11.2.2.2.2.2.1 v1_size o11.2.2.2.2.2.2.1 c2 v3_globals v3_procedures o11.2.2.2.2.2.2.2.1 c4 o11.2.2.2.2.2.2.2.2.2.2.2.1 o11.2.2.2.2.2.2.2.2.1 o11.2.2.2.2.2.2.2.2.2.1 o11.2.2.2.2.2.2.2.2.2.2.1 o11.2.2.2.2.2.2.2.2.2.2.2.2.1 o11.2.2.2.2.2.2.2.2.2.2.2.2.2.1 o11.2.2.2.2.2.2.2.2.2.2.2.2.2.2.1 o11.2.2.2.2.2.2.2.2.2.2.2.2.2.2.2.1 o11.2.2.2.2.2.2.2.2.2.2.2.2.2.2.2.2.1 c12x o11.2.2.2.2.2.2.2.2.2.2.2.2.2.2.2.2.2.2.1 o11.2.2.2.2.2.2.2.2.2.2.2.2.2.2.2.2.2.2.2) := by rw [e12]; exact hD
      exact (hG _ _ _ _ _).mp (J84 o11.2.1 o11.2.2.1 o11.2.2.2.1 o11.2.2.2.2.1 o11.2.2.2.2.2.1 o11.2.2.2.2.2.2.1 o11.2.2.2.2.2.2.2.1 o11.2.2.2.2.2.2.2.2.2.2.2.1 o11.2.2.2.2.2.2.2.2.1 o11.2.2.2.2.2.2.2.2.2.1 o11.2.2.2.2.2.2.2.2.2.2.1 o11.2.2.2.2.2.2.2.2.2.2.2.2.1 o11.2.2.2.2.2.2.2.2.2.2.2.2.2.1 o11.2.2.2.2.2.2.2.2.2.2.2.2.2.2.1 o11.2.2.2.2.2.2.2.2.2.2.2.2.2.2.2.1 o11.2.2.2.2.2.2.2.2.2.2.2.2.2.2.2.2.1 c12x o11.2.2.2.2.2.2.2.2.2.2.2.2.2.2.2.2.2.2.1 o11.2.2.2.2.2.2.2.2.2.2.2.2.2.2.2.2.2.2.2 H locs ls (hP.sub [0, 1, 2, 3, 4, 5, 6, 7, 8, 9, 10, 11, 12, 13, 14, 15, 16] rfl) (hD.sub [0, 1, 2, 3, 4, 5, 6, 7, 8, 9, 10, 11, 12, 13, 14, 15, 16] (by decide) rfl) hS (lv_sub hl [0] rfl) hf)
set_option maxHeartbeats 4000000 in
set_option maxRecDepth 100000 in
theorem mX2_readStatement_o (kf_X2_readBranch : Int32 → Int32 → Int32 → Int32 → Int32 → Int64 → Int32 → Int32 → Int32 → Int32 → (Nat → Int32) → Int32 → Int32 → Int32 → (Nat → Int64) → (Nat → Int64) → (Nat → Int32) → (Nat → Int32) → (Nat → Int32) → (Nat → Int32) → (Nat → Int32) → (Nat → Int32) → (Nat → Int32) → (Nat → Int32) → (Nat → Int32) → (Nat → Int64) → (Nat → Int32) → Option (Int32 × Int32 × Int64 × Int32 × Int32 × Int32 × Int32 × (Nat → Int64) × (Nat → Int32) × (Nat → Int32) × (Nat → Int32) × (Nat → Int32) × (Nat → Int32) × (Nat → Int32) × (Nat → Int32) × (Nat → Int32) × (Nat → Int32) × (Nat → Int64) × (Nat → Int32))) (F_X2_readBranch L_X2_readBranch : Nat) (hk_X2_readBranch : KX2_readBranch kf_X2_readBranch F_X2_readBranch L_X2_readBranch) : KX2_readStatement (fX2_readStatement_o kf_X2_readBranch) (max ((F_X2_readBranch) + 1) 56) (max ((L_X2_readBranch) + 22) 1350) := by
  intro l dC dI h0 h1 h2 h3 h4 h5 h6 h7 h8 h9 h10 h11 h12 h13 h14 h15 h16 kc3 kc4 kc5 kc6 kc7 kc8 kc9 kc10 kc11 kc12 kc13 kc14 kc15 kc16 sz base a0 a1 v0_locals v1_token v1_tokenAt v1_name v1_fault v1_faultAt v1_size v1_next v2_globals v2_procedures v2_statements c3 c4 c5 c6 c7 c8 c9 c10 c11 c12 c13 c14 c15 c16 V0 V2 o hf
  refine Met.ofW (cc := cX2_readStatement) (maxL := 5) (ret := (some .int)) (by decide) rfl ?_
  intro p e s m args below meth c s₁ B hml hv
  obtain ⟨rfl, hsz, hP, hK, hD0, hE⟩ := hv
  have hx := B.exec
  have hb := B.bytes
  have hr := B.returns
  have hts : ∀ w ∈ wsL_law, _ := fun w h => atoms_spec (ws := .code yX2_readStatement cX2_readStatement 5 (some .int) :: wsL_law) B.pre w (List.mem_cons_of_mem _ h)
  have hown : s.vm.findClass RX2 = some m.cls := findClass_of_methodNamed B.named
  have hlocks := B.notSynchronized
  have w0_ := hts _ q72
  have w1_ := hts _ q73
  have w2_ := hts _ q720
  have w3_ := hts _ q752
  have w4_ := hts _ q544
  subst hsz
  have hD := hD0.self (sz := s.heap.size)
  generalize hAe : va_A (wX2_readStatement h0 h1 h2 h3 h4 h5 h6 h7 h8 h9 h10 h11 h12 h13 h14 h15 h16 kc3 kc4 kc5 kc6 kc7 kc8 kc9 kc10 kc11 kc12 kc13 kc14 kc15 kc16 V0 V2 v0_locals v1_token v1_tokenAt v1_name v1_fault v1_faultAt v1_size v1_next v2_globals v2_procedures v2_statements c3 c4 c5 c6 c7 c8 c9 c10 c11 c12 c13 c14 c15 c16) s.heap.size = A at hD ⊢
  have hA : ∀ q : Nat, s.heap.size ≤ q → A q := fun q h => by rw [← hAe]; exact Or.inr h
  have hAB : ∀ q : Nat, A q → base.1 ≤ q := fun q h => by rw [← hAe] at h; exact h.elim (fun ⟨k, e, hk⟩ => hD0.2 k _ hk) (fun hk => Nat.le_trans hE.1 hk)
  have hS : va_S A s.heap s.heap [] := va_S.rf
  have hl := lv_entry ([.ref h0, .int a0, .int a1]) (n := 5) (Nat.le_of_ble_eq_true rfl)
  rw [lg_entry_eq]
  generalize (lg_sl ([.ref h0, .int a0, .int a1]) ++ List.replicate (5 - (lg_sl ([.ref h0, .int a0, .int a1])).length) Slot.unset).toArray = ls at hl ⊢
  have hl : lv_has ls 5 [(0, .ref h0), (1, .int a0), (2, .int a1)] := hl
  have hP : va_P (dC, dI) vwCl (wX2_readStatement h0 h1 h2 h3 h4 h5 h6 h7 h8 h9 h10 h11 h12 h13 h14 h15 h16 kc3 kc4 kc5 kc6 kc7 kc8 kc9 kc10 kc11 kc12 kc13 kc14 kc15 kc16 V0 V2 v0_locals v1_token v1_tokenAt v1_name v1_fault v1_faultAt v1_size v1_next v2_globals v2_procedures v2_statements c3 c4 c5 c6 c7 c8 c9 c10 c11 c12 c13 c14 c15 c16) s.heap := hP
  refine gl_intro (fun G hG => ?_)
  have J75 : ∀ (y2 : Int32) (y4 : Int32) (v1_token : Int32) (v1_tokenAt : Int32) (v1_name : Int64) (v1_fault : Int32) (v1_faultAt : Int32) (v1_next : Int32) (v2_statements : Int32) (c3 : (Nat → Int32)) (c4 : (Nat → Int32)) (c5 : (Nat → Int32)) (c6 : (Nat → Int64)) (c7 : (Nat → Int32)) (c8 : (Nat → Int32)) (c9 : (Nat → Int32)) (c10 : (Nat → Int32)) (c11 : (Nat → Int32)) (c12 : (Nat → Int32)) (c15 : (Nat → Int64)) (c16 : (Nat → Int32)) (H : Heap) (locs : List Loc) (ls : Array Slot), va_P (dC, dI) vwCl (wX2_readStatement h0 h1 h2 h3 h4 h5 h6 h7 h8 h9 h10 h11 h12 h13 h14 h15 h16 kc3 kc4 kc5 kc6 kc7 kc8 kc9 kc10 kc11 kc12 kc13 kc14 kc15 kc16 V0 V2 v0_locals v1_token v1_tokenAt v1_name v1_fault v1_faultAt v1_size v1_next v2_globals v2_procedures v2_statements c3 c4 c5 c6 c7 c8 c9 c10 c11 c12 c13 c14 c15 c16) H → va_D A (wX2_readStatement h0 h1 h2 h3 h4 h5 h6 h7 h8 h9 h10 h11 h12 h13 h14 h15 h16 kc3 kc4 kc5 kc6 kc7 kc8 kc9 kc10 kc11 kc12 kc13 kc14 kc15 kc16 V0 V2 v0_locals v1_token v1_tokenAt v1_name v1_fault v1_faultAt v1_size v1_next v2_globals v2_procedures v2_statements c3 c4 c5 c6 c7 c8 c9 c10 c11 c12 c13 c14 c15 c16) → va_S A s.heap H locs → lv_has ls 5 [(0, .ref h0), (2, .int y2), (4, .int y4)] → fX2_readStatement_o_p75 kf_X2_readBranch v0_locals v1_size v2_globals v2_procedures c13 c14  y2 y4 v1_token v1_tokenAt v1_name v1_fault v1_faultAt v1_next v2_statements c3 c4 c5 c6 c7 c8 c9 c10 c11 c12 c15 c16 = some o → G 0 0 H locs (F0 m 75 ls []) := by
    intro  y2 y4 v1_token v1_tokenAt v1_name v1_fault v1_faultAt v1_next v2_statements c3 c4 c5 c6 c7 c8 c9 c10 c11 c12 c15 c16 H locs ls hP hD hS hl hf
    refine (hG _ _ _ _ _).mpr ?_
    unfold fX2_readStatement_o_p75 at hf
    refine lv_aload_n hx hb dX2_readStatement_75 rfl (lv_at hl 0 rfl) ?_
    refine lv_iload hx hb dX2_readStatement_76 (lv_at hl 2 rfl) ?_
    refine lv_iload_n hx hb dX2_readStatement_78 rfl (lv_at hl 1 rfl) ?_
    obtain ⟨o1, e1, hf⟩ := ob_some hf
    refine kVv (As := [.int y4, .int y2]) (rest := []) ⟨hx, hb, hml, hown, hts⟩ (hk_X2_readBranch l dC dI h0 h1 h13 h2 h14 h6 h3 h4 h5 h7 h8 h9 h10 h11 h12 h15 h16 kc13 kc14 kc6 kc3 kc4 kc5 kc7 kc8 kc9 kc10 kc11 kc12 kc15 kc16 H.size base y4 y2 v0_locals v1_token v1_tokenAt v1_name v1_fault v1_faultAt v1_size v1_next c13 v2_globals v2_procedures v2_statements c14 c6 c3 c4 c5 c7 c8 c9 c10 c11 c12 c15 c16 V0 V2 o1 e1) (cwV 2 hts (gTV q758 q759 q760 q27 q719) rfl rfl rfl (by decide +kernel) ⟨(by show F_X2_readBranch + 1 ≤ max ((F_X2_readBranch) + 1) 56; omega), (by show 8 + (3 + 11) + L_X2_readBranch ≤ max ((L_X2_readBranch) + 22) 1350; omega)⟩) hK hP hD hS hA hE hAB [0, 1, 13, 2, 14, 6, 3, 4, 5, 7, 8, 9, 10, 11, 12, 15, 16] [] [10, 11, 3, 0, 1, 2, 4, 5, 6, 7, 8, 9, 12, 13] (wr := []) rfl rfl (by decide) (by decide) (by decide) rfl (ci := 2) (q0 := 0) rfl rfl rfl rfl hl.1 rfl (Nat.le_of_ble_eq_true rfl) dX2_readStatement_79 ⟨Nat.zero_le _, Nat.zero_le _⟩ (fun u1 H locs hw1 hP hD hS => ?_)
    have hw11 : o1 = u1 := Eq.symm hw1
    subst hw11
    have hP : va_P (dC, dI) vwCl (wX2_readStatement h0 h1 h2 h3 h4 h5 h6 h7 h8 h9 h10 h11 h12 h13 h14 h15 h16 kc3 kc4 kc5 kc6 kc7 kc8 kc9 kc10 kc11 kc12 kc13 kc14 kc15 kc16 V0 V2 v0_locals o1.1 o1.2.1 o1.2.2.1 o1.2.2.2.1 o1.2.2.2.2.1 v1_size o1.2.2.2.2.2.1 v2_globals v2_procedures o1.2.2.2.2.2.2.1 o1.2.2.2.2.2.2.2.2.1 o1.2.2.2.2.2.2.2.2.2.1 o1.2.2.2.2.2.2.2.2.2.2.1 o1.2.2.2.2.2.2.2.1 o1.2.2.2.2.2.2.2.2.2.2.2.1 o1.2.2.2.2.2.2.2.2.2.2.2.2.1 o1.2.2.2.2.2.2.2.2.2.2.2.2.2.1 o1.2.2.2.2.2.2.2.2.2.2.2.2.2.2.1 o1.2.2.2.2.2.2.2.2.2.2.2.2.2.2.2.1 o1.2.2.2.2.2.2.2.2.2.2.2.2.2.2.2.2.1 c13 c14 o1.2.2.2.2.2.2.2.2.2.2.2.2.2.2.2.2.2.1 o1.2.2.2.2.2.2.2.2.2.2.2.2.2.2.2.2.2.2) H := hP.sub [0, 1, 3, 6, 7, 8, 5, 9, 10, 11, 12, 13, 14, 2, 4, 15, 16] rfl
    have hD : va_D A (wX2_readStatement h0 h1 h2 h3 h4 h5 h6 h7 h8 h9 h10 h11 h12 h13 h14 h15 h16 kc3 kc4 kc5 kc6 kc7 kc8 kc9 kc10 kc11 kc12 kc13 kc14 kc15 kc16 V0 V2 v0_locals o1.1 o1.2.1 o1.2.2.1 o1.2.2.2.1 o1.2.2.2.2.1 v1_size o1.2.2.2.2.2.1 v2_globals v2_procedures o1.2.2.2.2.2.2.1 o1.2.2.2.2.2.2.2.2.1 o1.2.2.2.2.2.2.2.2.2.1 o1.2.2.2.2.2.2.2.2.2.2.1 o1.2.2.2.2.2.2.2.1 o1.2.2.2.2.2.2.2.2.2.2.2.1 o1.2.2.2.2.2.2.2.2.2.2.2.2.1 o1.2.2.2.2.2.2.2.2.2.2.2.2.2.1 o1.2.2.2.2.2.2.2.2.2.2.2.2.2.2.1 o1.2.2.2.2.2.2.2.2.2.2.2.2.2.2.2.1 o1.2.2.2.2.2.2.2.2.2.2.2.2.2.2.2.2.1 c13 c14 o1.2.2.2.2.2.2.2.2.2.2.2.2.2.2.2.2.2.1 o1.2.2.2.2.2.2.2.2.2.2.2.2.2.2.2.2.2.2) := hD.sub [0, 1, 3, 6, 7, 8, 5, 9, 10, 11, 12, 13, 14, 2, 4, 15, 16] (by decide) rfl
    refine lv_iload hx hb dX2_readStatement_82 (lv_at hl 2 rfl) ?_
    have hf1 := Option.some.inj hf
    subst hf1
    have hP9 := hP.sub (ws' := (wX2_readStatement h0 h1 h2 h3 h4 h5 h6 h7 h8 h9 h10 h11 h12 h13 h14 h15 h16 kc3 kc4 kc5 kc6 kc7 kc8 kc9 kc10 kc11 kc12 kc13 kc14 kc15 kc16 V0 V2 v0_locals o1.1 o1.2.1 o1.2.2.1 o1.2.2.2.1 o1.2.2.2.2.1 v1_size o1.2.2.2.2.2.1 v2_globals v2_procedures o1.2.2.2.2.2.2.1 o1.2.2.2.2.2.2.2.2.1 o1.2.2.2.2.2.2.2.2.2.1 o1.2.2.2.2.2.2.2.2.2.2.1 o1.2.2.2.2.2.2.2.1 o1.2.2.2.2.2.2.2.2.2.2.2.1 o1.2.2.2.2.2.2.2.2.2.2.2.2.1 o1.2.2.2.2.2.2.2.2.2.2.2.2.2.1 o1.2.2.2.2.2.2.2.2.2.2.2.2.2.2.1 o1.2.2.2.2.2.2.2.2.2.2.2.2.2.2.2.1 o1.2.2.2.2.2.2.2.2.2.2.2.2.2.2.2.2.1 c13 c14 o1.2.2.2.2.2.2.2.2.2.2.2.2.2.2.2.2.2.1 o1.2.2.2.2.2.2.2.2.2.2.2.2.2.2.2.2.2.2)) [0, 1, 2, 3, 4, 5, 6, 7, 8, 9, 10, 11, 12, 13, 14, 15, 16] rfl
    have hD9 := hD.sub (ws' := (wX2_readStatement h0 h1 h2 h3 h4 h5 h6 h7 h8 h9 h10 h11 h12 h13 h14 h15 h16 kc3 kc4 kc5 kc6 kc7 kc8 kc9 kc10 kc11 kc12 kc13 kc14 kc15 kc16 V0 V2 v0_locals o1.1 o1.2.1 o1.2.2.1 o1.2.2.2.1 o1.2.2.2.2.1 v1_size o1.2.2.2.2.2.1 v2_globals v2_procedures o1.2.2.2.2.2.2.1 o1.2.2.2.2.2.2.2.2.1 o1.2.2.2.2.2.2.2.2.2.1 o1.2.2.2.2.2.2.2.2.2.2.1 o1.2.2.2.2.2.2.2.1 o1.2.2.2.2.2.2.2.2.2.2.2.1 o1.2.2.2.2.2.2.2.2.2.2.2.2.1 o1.2.2.2.2.2.2.2.2.2.2.2.2.2.1 o1.2.2.2.2.2.2.2.2.2.2.2.2.2.2.1 o1.2.2.2.2.2.2.2.2.2.2.2.2.2.2.2.1 o1.2.2.2.2.2.2.2.2.2.2.2.2.2.2.2.2.1 c13 c14 o1.2.2.2.2.2.2.2.2.2.2.2.2.2.2.2.2.2.1 o1.2.2.2.2.2.2.2.2.2.2.2.2.2.2.2.2.2.2)) [0, 1, 2, 3, 4, 5, 6, 7, 8, 9, 10, 11, 12, 13, 14, 15, 16] (by decide) rfl
    exact W.iret (v := y4) hx hb hr (fun t ht hW => ⟨⟨y4, (o1.1, o1.2.1, o1.2.2.1, o1.2.2.2.1, o1.2.2.2.2.1, o1.2.2.2.2.2.1, o1.2.2.2.2.2.2.1, o1.2.2.2.2.2.2.2.2.1, o1.2.2.2.2.2.2.2.2.2.1, o1.2.2.2.2.2.2.2.2.2.2.1, o1.2.2.2.2.2.2.2.1, o1.2.2.2.2.2.2.2.2.2.2.2.1, o1.2.2.2.2.2.2.2.2.2.2.2.2.1, o1.2.2.2.2.2.2.2.2.2.2.2.2.2.1, o1.2.2.2.2.2.2.2.2.2.2.2.2.2.2.1, o1.2.2.2.2.2.2.2.2.2.2.2.2.2.2.2.1, o1.2.2.2.2.2.2.2.2.2.2.2.2.2.2.2.2.1, o1.2.2.2.2.2.2.2.2.2.2.2.2.2.2.2.2.2.1, o1.2.2.2.2.2.2.2.2.2.2.2.2.2.2.2.2.2.2), rfl, ⟨rfl, rfl⟩, by rw [ht]; exact hP9, va_K.moved hW.alike hK, hD9⟩, hS.F ht⟩) hS.2.2 dX2_readStatement_84
  have J144 : ∀ (y4 : Int32) (v1_token : Int32) (v1_tokenAt : Int32) (v1_name : Int64) (v1_fault : Int32) (v1_faultAt : Int32) (v1_next : Int32) (v2_statements : Int32) (c3 : (Nat → Int32)) (c4 : (Nat → Int32)) (c5 : (Nat → Int32)) (c6 : (Nat → Int64)) (c7 : (Nat → Int32)) (c8 : (Nat → Int32)) (c9 : (Nat → Int32)) (c10 : (Nat → Int32)) (c11 : (Nat → Int32)) (c12 : (Nat → Int32)) (c15 : (Nat → Int64)) (c16 : (Nat → Int32)) (H : Heap) (locs : List Loc) (ls : Array Slot), va_P (dC, dI) vwCl (wX2_readStatement h0 h1 h2 h3 h4 h5 h6 h7 h8 h9 h10 h11 h12 h13 h14 h15 h16 kc3 kc4 kc5 kc6 kc7 kc8 kc9 kc10 kc11 kc12 kc13 kc14 kc15 kc16 V0 V2 v0_locals v1_token v1_tokenAt v1_name v1_fault v1_faultAt v1_size v1_next v2_globals v2_procedures v2_statements c3 c4 c5 c6 c7 c8 c9 c10 c11 c12 c13 c14 c15 c16) H → va_D A (wX2_readStatement h0 h1 h2 h3 h4 h5 h6 h7 h8 h9 h10 h11 h12 h13 h14 h15 h16 kc3 kc4 kc5 kc6 kc7 kc8 kc9 kc10 kc11 kc12 kc13 kc14 kc15 kc16 V0 V2 v0_locals v1_token v1_tokenAt v1_name v1_fault v1_faultAt v1_size v1_next v2_globals v2_procedures v2_statements c3 c4 c5 c6 c7 c8 c9 c10 c11 c12 c13 c14 c15 c16) → va_S A s.heap H locs → lv_has ls 5 [(0, .ref h0), (4, .int y4)] → fX2_readStatement_o_p144 kf_X2_readBranch v0_locals v1_size v2_globals v2_procedures c13 c14  y4 v1_token v1_tokenAt v1_name v1_fault v1_faultAt v1_next v2_statements c3 c4 c5 c6 c7 c8 c9 c10 c11 c12 c15 c16 = some o → G 0 0 H locs (F0 m 144 ls []) := by
    intro  y4 v1_token v1_tokenAt v1_name v1_fault v1_faultAt v1_next v2_statements c3 c4 c5 c6 c7 c8 c9 c10 c11 c12 c15 c16 H locs ls hP hD hS hl hf
    refine (hG _ _ _ _ _).mpr ?_
    unfold fX2_readStatement_o_p144 at hf
    refine lv_aload_n hx hb dX2_readStatement_144 rfl (lv_at hl 0 rfl) ?_
    refine va_get (D := (dC, dI)) (ci := 2) (v := .ref h1) (C := RX2) (T := TX2) (N := 7) hx hb hts inlX2 hown hK hP 0 rfl rfl 0 (by decide) w0_ (fun _ h9 => h9) rfl dX2_readStatement_145 ?_
    refine lv_bipush (v := 59) hx hb dX2_readStatement_148 (by decide +kernel) ?_
    obtain ⟨o2, e2, hf⟩ := ob_some hf
    refine kVi (As := [.int 59]) (rest := []) ⟨hx, hb, hml, hown, hts⟩ (mX4_skipToken l dC dI h1 h13 kc13 H.size base 59 v1_token v1_tokenAt v1_name v1_fault v1_faultAt v1_size v1_next c13 o2 e2) (cwV 1 hts (gTV q687 q688 q689 q19 q690) rfl rfl rfl (by decide +kernel) ⟨(by show 5 + 1 ≤ max ((F_X2_readBranch) + 1) 56; omega), (by show 8 + (2 + 11) + 112 ≤ max ((L_X2_readBranch) + 22) 1350; omega)⟩) hK hP hD hS hA hE hAB [1, 13] [0, 2, 3, 4, 5, 6, 7, 8, 9, 10, 11, 12, 14, 15, 16] [10] (wr := [(h0, .inr (2, [.ref h1, .ref h2, .ref h14, .int v0_locals, V0 4, .ref h15, .ref h16])), (h2, .inr (3, [V2 0, .int v2_globals, .int v2_procedures, .int v2_statements, V2 4, .ref h3, .ref h4, .ref h5, .ref h6, .ref h7, .ref h8, V2 11, V2 12, .ref h9, .ref h10, .ref h11, .ref h12, V2 17])), (h3, .inl (kc3, 40, .inl c3)), (h4, .inl (kc4, 40, .inl c4)), (h5, .inl (kc5, 40, .inl c5)), (h6, .inl (kc6, 40, .inr (.inl c6))), (h7, .inl (kc7, 40, .inl c7)), (h8, .inl (kc8, 40, .inl c8)), (h9, .inl (kc9, 40, .inl c9)), (h10, .inl (kc10, 40, .inl c10)), (h11, .inl (kc11, 40, .inl c11)), (h12, .inl (kc12, 40, .inl c12)), (h14, .inl (kc14, 5, .inr (.inl c14))), (h15, .inl (kc15, 40, .inr (.inl c15))), (h16, .inl (kc16, 40, .inl c16))]) rfl rfl (by decide) (by decide) (by decide) rfl (ci := 4) (q0 := 0) rfl rfl rfl rfl hl.1 rfl (Nat.le_of_ble_eq_true rfl) dX2_readStatement_150 ⟨Nat.zero_le _, Nat.zero_le _⟩ (fun r2 u2 H locs hw2 hP hD hS => ?_)
    obtain ⟨hw21, hw22⟩ := hw2
    subst hw21 hw22
    have hP : va_P (dC, dI) vwCl (wX2_readStatement h0 h1 h2 h3 h4 h5 h6 h7 h8 h9 h10 h11 h12 h13 h14 h15 h16 kc3 kc4 kc5 kc6 kc7 kc8 kc9 kc10 kc11 kc12 kc13 kc14 kc15 kc16 V0 V2 v0_locals o2.2.1 o2.2.2.1 o2.2.2.2.1 o2.2.2.2.2.1 o2.2.2.2.2.2.1 v1_size o2.2.2.2.2.2.2 v2_globals v2_procedures v2_statements c3 c4 c5 c6 c7 c8 c9 c10 c11 c12 c13 c14 c15 c16) H := hP.sub [0, 15, 1, 2, 3, 4, 5, 6, 7, 8, 9, 10, 11, 16, 12, 13, 14] rfl
    have hD : va_D A (wX2_readStatement h0 h1 h2 h3 h4 h5 h6 h7 h8 h9 h10 h11 h12 h13 h14 h15 h16 kc3 kc4 kc5 kc6 kc7 kc8 kc9 kc10 kc11 kc12 kc13 kc14 kc15 kc16 V0 V2 v0_locals o2.2.1 o2.2.2.1 o2.2.2.2.1 o2.2.2.2.2.1 o2.2.2.2.2.2.1 v1_size o2.2.2.2.2.2.2 v2_globals v2_procedures v2_statements c3 c4 c5 c6 c7 c8 c9 c10 c11 c12 c13 c14 c15 c16) := hD.sub [0, 15, 1, 2, 3, 4, 5, 6, 7, 8, 9, 10, 11, 16, 12, 13, 14] (by decide) rfl
    refine lv_pop hx hb dX2_readStatement_153 rfl ?_
    refine lv_iload hx hb dX2_readStatement_154 (lv_at hl 1 rfl) ?_
    have hf1 := Option.some.inj hf
    subst hf1
    have hP9 := hP.sub (ws' := (wX2_readStatement h0 h1 h2 h3 h4 h5 h6 h7 h8 h9 h10 h11 h12 h13 h14 h15 h16 kc3 kc4 kc5 kc6 kc7 kc8 kc9 kc10 kc11 kc12 kc13 kc14 kc15 kc16 V0 V2 v0_locals o2.2.1 o2.2.2.1 o2.2.2.2.1 o2.2.2.2.2.1 o2.2.2.2.2.2.1 v1_size o2.2.2.2.2.2.2 v2_globals v2_procedures v2_statements c3 c4 c5 c6 c7 c8 c9 c10 c11 c12 c13 c14 c15 c16)) [0, 1, 2, 3, 4, 5, 6, 7, 8, 9, 10, 11, 12, 13, 14, 15, 16] rfl
    have hD9 := hD.sub (ws' := (wX2_readStatement h0 h1 h2 h3 h4 h5 h6 h7 h8 h9 h10 h11 h12 h13 h14 h15 h16 kc3 kc4 kc5 kc6 kc7 kc8 kc9 kc10 kc11 kc12 kc13 kc14 kc15 kc16 V0 V2 v0_locals o2.2.1 o2.2.2.1 o2.2.2.2.1 o2.2.2.2.2.1 o2.2.2.2.2.2.1 v1_size o2.2.2.2.2.2.2 v2_globals v2_procedures v2_statements c3 c4 c5 c6 c7 c8 c9 c10 c11 c12 c13 c14 c15 c16)) [0, 1, 2, 3, 4, 5, 6, 7, 8, 9, 10, 11, 12, 13, 14, 15, 16] (by decide) rfl
    exact W.iret (v := y4) hx hb hr (fun t ht hW => ⟨⟨y4, (o2.2.1, o2.2.2.1, o2.2.2.2.1, o2.2.2.2.2.1, o2.2.2.2.2.2.1, o2.2.2.2.2.2.2, v2_statements, c3, c4, c5, c6, c7, c8, c9, c10, c11, c12, c15, c16), rfl, ⟨rfl, rfl⟩, by rw [ht]; exact hP9, va_K.moved hW.alike hK, hD9⟩, hS.F ht⟩) hS.2.2 dX2_readStatement_156
  have J129 : ∀ (y4 : Int32) (v1_token : Int32) (v1_tokenAt : Int32) (v1_name : Int64) (v1_fault : Int32) (v1_faultAt : Int32) (v1_next : Int32) (v2_statements : Int32) (c3 : (Nat → Int32)) (c4 : (Nat → Int32)) (c5 : (Nat → Int32)) (c6 : (Nat → Int64)) (c7 : (Nat → Int32)) (c8 : (Nat → Int32)) (c9 : (Nat → Int32)) (c10 : (Nat → Int32)) (c11 : (Nat → Int32)) (c12 : (Nat → Int32)) (c15 : (Nat → Int64)) (c16 : (Nat → Int32)) (H : Heap) (locs : List Loc) (ls : Array Slot), va_P (dC, dI) vwCl (wX2_readStatement h0 h1 h2 h3 h4 h5 h6 h7 h8 h9 h10 h11 h12 h13 h14 h15 h16 kc3 kc4 kc5 kc6 kc7 kc8 kc9 kc10 kc11 kc12 kc13 kc14 kc15 kc16 V0 V2 v0_locals v1_token v1_tokenAt v1_name v1_fault v1_faultAt v1_size v1_next v2_globals v2_procedures v2_statements c3 c4 c5 c6 c7 c8 c9 c10 c11 c12 c13 c14 c15 c16) H → va_D A (wX2_readStatement h0 h1 h2 h3 h4 h5 h6 h7 h8 h9 h10 h11 h12 h13 h14 h15 h16 kc3 kc4 kc5 kc6 kc7 kc8 kc9 kc10 kc11 kc12 kc13 kc14 kc15 kc16 V0 V2 v0_locals v1_token v1_tokenAt v1_name v1_fault v1_faultAt v1_size v1_next v2_globals v2_procedures v2_statements c3 c4 c5 c6 c7 c8 c9 c10 c11 c12 c13 c14 c15 c16) → va_S A s.heap H locs → lv_has ls 5 [(0, .ref h0), (4, .int y4)] → fX2_readStatement_o_p129 kf_X2_readBranch v0_locals v1_size v2_globals v2_procedures c13 c14  y4 v1_token v1_tokenAt v1_name v1_fault v1_faultAt v1_next v2_statements c3 c4 c5 c6 c7 c8 c9 c10 c11 c12 c15 c16 = some o → G 0 0 H locs (F0 m 129 ls []) := by
    intro  y4 v1_token v1_tokenAt v1_name v1_fault v1_faultAt v1_next v2_statements c3 c4 c5 c6 c7 c8 c9 c10 c11 c12 c15 c16 H locs ls hP hD hS hl hf
    refine (hG _ _ _ _ _).mpr ?_
    unfold fX2_readStatement_o_p129 at hf
    refine lv_aload_n hx hb dX2_readStatement_129 rfl (lv_at hl 0 rfl) ?_
    refine va_get (D := (dC, dI)) (ci := 2) (v := .ref h2) (C := RX2) (T := TX2) (N := 7) hx hb hts inlX2 hown hK hP 0 rfl rfl 1 (by decide) w1_ (fun _ h9 => h9) rfl dX2_readStatement_130 ?_
    refine va_get (D := (dC, dI)) (ci := 3) (v := .ref h6) (C := RX3) (T := TX3) (N := 18) hx hb hts inlX3 hown hK hP 2 rfl rfl 8 (by decide) w2_ (fun _ h9 => h9) rfl dX2_readStatement_133 ?_
    refine lv_iload hx hb dX2_readStatement_136 (lv_at hl 1 rfl) ?_
    refine lv_aload_n hx hb dX2_readStatement_138 rfl (lv_at hl 0 rfl) ?_
    refine lv_iconst (v := 0) hx hb dX2_readStatement_139 (by decide +kernel) ?_
    obtain ⟨o3, e3, hf⟩ := ob_some hf
    refine kVl (As := [.int 0]) (rest := [.int y4, .ref h6]) ⟨hx, hb, hml, hown, hts⟩ (mX2_readExpression l dC dI h0 h1 h2 h14 h13 kc14 kc13 H.size base 0 v0_locals v1_token v1_tokenAt v1_name v1_fault v1_faultAt v1_size v1_next v2_globals c14 c13 (fun k => match k with | 5 => .ref h15 | 6 => .ref h16 | k => V0 k) (fun k => match k with | 2 => .int v2_procedures | 3 => .int v2_statements | 5 => .ref h3 | 6 => .ref h4 | 7 => .ref h5 | 8 => .ref h6 | 9 => .ref h7 | 10 => .ref h8 | 13 => .ref h9 | 14 => .ref h10 | 15 => .ref h11 | 16 => .ref h12 | k => V2 k) o3 e3) (cwV 1 hts (gTV q724 q725 q726 q27 q727) rfl rfl rfl (by decide +kernel) ⟨(by show 54 + 1 ≤ max ((F_X2_readBranch) + 1) 56; omega), (by show 8 + (7 + 11) + 1302 ≤ max ((L_X2_readBranch) + 22) 1350; omega)⟩) hK hP hD hS hA hE hAB [0, 1, 2, 14, 13] [3, 4, 5, 6, 7, 8, 9, 10, 11, 12, 15, 16] [11, 10] (wr := [(h3, .inl (kc3, 40, .inl c3)), (h4, .inl (kc4, 40, .inl c4)), (h5, .inl (kc5, 40, .inl c5)), (h6, .inl (kc6, 40, .inr (.inl c6))), (h7, .inl (kc7, 40, .inl c7)), (h8, .inl (kc8, 40, .inl c8)), (h9, .inl (kc9, 40, .inl c9)), (h10, .inl (kc10, 40, .inl c10)), (h11, .inl (kc11, 40, .inl c11)), (h12, .inl (kc12, 40, .inl c12)), (h15, .inl (kc15, 40, .inr (.inl c15))), (h16, .inl (kc16, 40, .inl c16))]) rfl rfl (by decide) (by decide) (by decide) rfl (ci := 2) (q0 := 0) rfl rfl rfl rfl hl.1 rfl (Nat.le_of_ble_eq_true rfl) dX2_readStatement_140 ⟨Nat.zero_le _, Nat.zero_le _⟩ (fun r3 u3 H locs hw3 hP hD hS => ?_)
    obtain ⟨hw31, hw32⟩ := hw3
    subst hw31 hw32
    have hP : va_P (dC, dI) vwCl (wX2_readStatement h0 h1 h2 h3 h4 h5 h6 h7 h8 h9 h10 h11 h12 h13 h14 h15 h16 kc3 kc4 kc5 kc6 kc7 kc8 kc9 kc10 kc11 kc12 kc13 kc14 kc15 kc16 V0 V2 v0_locals o3.2.1 o3.2.2.1 o3.2.2.2.1 o3.2.2.2.2.1 o3.2.2.2.2.2.1 v1_size o3.2.2.2.2.2.2 v2_globals v2_procedures v2_statements c3 c4 c5 c6 c7 c8 c9 c10 c11 c12 c13 c14 c15 c16) H := hP.sub [12, 13, 14, 0, 1, 2, 3, 4, 5, 6, 7, 8, 9, 16, 15, 10, 11] rfl
    have hD : va_D A (wX2_readStatement h0 h1 h2 h3 h4 h5 h6 h7 h8 h9 h10 h11 h12 h13 h14 h15 h16 kc3 kc4 kc5 kc6 kc7 kc8 kc9 kc10 kc11 kc12 kc13 kc14 kc15 kc16 V0 V2 v0_locals o3.2.1 o3.2.2.1 o3.2.2.2.1 o3.2.2.2.2.1 o3.2.2.2.2.2.1 v1_size o3.2.2.2.2.2.2 v2_globals v2_procedures v2_statements c3 c4 c5 c6 c7 c8 c9 c10 c11 c12 c13 c14 c15 c16) := hD.sub [12, 13, 14, 0, 1, 2, 3, 4, 5, 6, 7, 8, 9, 16, 15, 10, 11] (by decide) rfl
    have b4 := bd_in hf
    replace hf := bd_k hf
    obtain ⟨c4x, e4⟩ : ∃ y, y = vp_updL c6 y4.toNatClampNeg o3.1 := ⟨_, rfl⟩
    replace hf := nm_at hf e4
    refine va_last hx hb hK hP hD hS 6 3 rfl rfl b4 dX2_readStatement_143 (fun H locs hP hD hS => ?_)
    have hP : va_P (dC, dI) vwCl (wX2_readStatement h0 h1 h2 h3 h4 h5 h6 h7 h8 h9 h10 h11 h12 h13 h14 h15 h16 kc3 kc4 kc5 kc6 kc7 kc8 kc9 kc10 kc11 kc12 kc13 kc14 kc15 kc16 V0 V2 v0_locals o3.2.1 o3.2.2.1 o3.2.2.2.1 o3.2.2.2.2.1 o3.2.2.2.2.2.1 v1_size o3.2.2.2.2.2.2 v2_globals v2_procedures v2_statements c3 c4 c5 c4x c7 c8 c9 c10 c11 c12 c13 c14 c15 c16) H := by rw [e4]; exact hP
    have hD : va_D A (wX2_readStatement h0 h1 h2 h3 h4 h5 h6 h7 h8 h9 h10 h11 h12 h13 h14 h15 h16 kc3 kc4 kc5 kc6 kc7 kc8 kc9 kc10 kc11 kc12 kc13 kc14 kc15 kc16 V0 V2 v0_locals o3.2.1 o3.2.2.1 o3.2.2.2.1 o3.2.2.2.2.1 o3.2.2.2.2.2.1 v1_size o3.2.2.2.2.2.2 v2_globals v2_procedures v2_statements c3 c4 c5 c4x c7 c8 c9 c10 c11 c12 c13 c14 c15 c16) := by rw [e4]; exact hD
    exact (hG _ _ _ _ _).mp (J144 y4 o3.2.1 o3.2.2.1 o3.2.2.2.1 o3.2.2.2.2.1 o3.2.2.2.2.2.1 o3.2.2.2.2.2.2 v2_statements c3 c4 c5 c4x c7 c8 c9 c10 c11 c12 c15 c16 H locs ls (hP.sub [0, 1, 2, 3, 4, 5, 6, 7, 8, 9, 10, 11, 12, 13, 14, 15, 16] rfl) (hD.sub [0, 1, 2, 3, 4, 5, 6, 7, 8, 9, 10, 11, 12, 13, 14, 15, 16] (by decide) rfl) hS (lv_sub hl [0, 1] rfl) hf)
  have J30 : ∀ (y1 : Int32) (y2 : Int32) (z0 : Int32) (v1_token : Int32) (v1_tokenAt : Int32) (v1_name : Int64) (v1_fault : Int32) (v1_faultAt : Int32) (v1_next : Int32) (v2_statements : Int32) (c3 : (Nat → Int32)) (c4 : (Nat → Int32)) (c5 : (Nat → Int32)) (c6 : (Nat → Int64)) (c7 : (Nat → Int32)) (c8 : (Nat → Int32)) (c9 : (Nat → Int32)) (c10 : (Nat → Int32)) (c11 : (Nat → Int32)) (c12 : (Nat → Int32)) (c15 : (Nat → Int64)) (c16 : (Nat → Int32)) (H : Heap) (locs : List Loc) (ls : Array Slot), va_P (dC, dI) vwCl (wX2_readStatement h0 h1 h2 h3 h4 h5 h6 h7 h8 h9 h10 h11 h12 h13 h14 h15 h16 kc3 kc4 kc5 kc6 kc7 kc8 kc9 kc10 kc11 kc12 kc13 kc14 kc15 kc16 V0 V2 v0_locals v1_token v1_tokenAt v1_name v1_fault v1_faultAt v1_size v1_next v2_globals v2_procedures v2_statements c3 c4 c5 c6 c7 c8 c9 c10 c11 c12 c13 c14 c15 c16) H → va_D A (wX2_readStatement h0 h1 h2 h3 h4 h5 h6 h7 h8 h9 h10 h11 h12 h13 h14 h15 h16 kc3 kc4 kc5 kc6 kc7 kc8 kc9 kc10 kc11 kc12 kc13 kc14 kc15 kc16 V0 V2 v0_locals v1_token v1_tokenAt v1_name v1_fault v1_faultAt v1_size v1_next v2_globals v2_procedures v2_statements c3 c4 c5 c6 c7 c8 c9 c10 c11 c12 c13 c14 c15 c16) → va_S A s.heap H locs → lv_has ls 5 [(0, .ref h0), (1, .int y1), (2, .int y2)] → fX2_readStatement_o_p30 kf_X2_readBranch v0_locals v1_size v2_globals v2_procedures c13 c14  y1 y2 z0 v1_token v1_tokenAt v1_name v1_fault v1_faultAt v1_next v2_statements c3 c4 c5 c6 c7 c8 c9 c10 c11 c12 c15 c16 = some o → G 0 0 H locs (F0 m 30 ls [.int z0]) := by
    intro  y1 y2 z0 v1_token v1_tokenAt v1_name v1_fault v1_faultAt v1_next v2_statements c3 c4 c5 c6 c7 c8 c9 c10 c11 c12 c15 c16 H locs ls hP hD hS hl hf
    refine (hG _ _ _ _ _).mpr ?_
    unfold fX2_readStatement_o_p30 at hf
    refine lv_istore_n (lv' := [(3, .int z0), (0, .ref h0), (1, .int y1), (2, .int y2)]) hx hb dX2_readStatement_30 rfl hl (by decide) rfl (fun ls hl => ?_)
    refine lv_aload_n hx hb dX2_readStatement_31 rfl (lv_at hl 1 rfl) ?_
    refine va_get (D := (dC, dI)) (ci := 2) (v := .ref h2) (C := RX2) (T := TX2) (N := 7) hx hb hts inlX2 hown hK hP 0 rfl rfl 1 (by decide) w1_ (fun _ h9 => h9) rfl dX2_readStatement_32 ?_
    refine lv_iload_n hx hb dX2_readStatement_35 rfl (lv_at hl 0 rfl) ?_
    refine lv_aload_n hx hb dX2_readStatement_36 rfl (lv_at hl 1 rfl) ?_
    refine va_get (D := (dC, dI)) (ci := 2) (v := .ref h1) (C := RX2) (T := TX2) (N := 7) hx hb hts inlX2 hown hK hP 0 rfl rfl 0 (by decide) w0_ (fun _ h9 => h9) rfl dX2_readStatement_37 ?_
    refine va_get (D := (dC, dI)) (ci := 4) (v := .int v1_tokenAt) (C := RX4) (T := TX4) (N := 8) hx hb hts inlX4 hown hK hP 1 rfl rfl 1 (by decide) w3_ (fun _ h9 => h9) rfl dX2_readStatement_40 ?_
    refine lv_iload_n hx hb dX2_readStatement_43 rfl (lv_at hl 2 rfl) ?_
    obtain ⟨o5, e5, hf⟩ := ob_some hf
    refine kVi (As := [.int z0, .int v1_tokenAt, .int y1]) (rest := []) ⟨hx, hb, hml, hown, hts⟩ (mX3_addStatement l dC dI h2 h3 h4 h5 h6 h7 h8 h9 h10 h11 h12 kc3 kc4 kc5 kc6 kc7 kc8 kc9 kc10 kc11 kc12 H.size base z0 v1_tokenAt y1 v2_procedures v2_statements c3 c4 c5 c6 c7 c8 c9 c10 c11 c12 (fun k => match k with | 1 => .int v2_globals | k => V2 k) o5 e5) (cwV 3 hts (gTV q753 q754 q755 q23 q756) rfl rfl rfl (by decide +kernel) ⟨(by show 0 + 1 ≤ max ((F_X2_readBranch) + 1) 56; omega), (by show 8 + (5 + 11) + 0 ≤ max ((L_X2_readBranch) + 22) 1350; omega)⟩) hK hP hD hS hA hE hAB [2, 3, 4, 5, 6, 7, 8, 9, 10, 11, 12] [0, 1, 13, 14, 15, 16] [0, 1, 2, 3, 4, 5, 6, 7, 8, 9] (wr := [(h0, .inr (2, [.ref h1, .ref h2, .ref h14, .int v0_locals, V0 4, .ref h15, .ref h16])), (h1, .inr (4, [.int v1_token, .int v1_tokenAt, .long v1_name, .int v1_fault, .int v1_faultAt, .ref h13, .int v1_size, .int v1_next])), (h13, .inl (kc13, 600, .inl c13)), (h14, .inl (kc14, 5, .inr (.inl c14))), (h15, .inl (kc15, 40, .inr (.inl c15))), (h16, .inl (kc16, 40, .inl c16))]) rfl rfl (by decide) (by decide) (by decide) rfl (ci := 3) (q0 := 0) rfl rfl rfl rfl hl.1 rfl (Nat.le_of_ble_eq_true rfl) dX2_readStatement_44 ⟨Nat.zero_le _, Nat.zero_le _⟩ (fun r5 u5 H locs hw5 hP hD hS => ?_)
    obtain ⟨hw51, hw52⟩ := hw5
    subst hw51 hw52
    have hP : va_P (dC, dI) vwCl (wX2_readStatement h0 h1 h2 h3 h4 h5 h6 h7 h8 h9 h10 h11 h12 h13 h14 h15 h16 kc3 kc4 kc5 kc6 kc7 kc8 kc9 kc10 kc11 kc12 kc13 kc14 kc15 kc16 V0 V2 v0_locals v1_token v1_tokenAt v1_name v1_fault v1_faultAt v1_size v1_next v2_globals v2_procedures o5.2.1 o5.2.2.1 o5.2.2.2.1 o5.2.2.2.2.1 o5.2.2.2.2.2.1 o5.2.2.2.2.2.2.1 o5.2.2.2.2.2.2.2.1 o5.2.2.2.2.2.2.2.2.1 o5.2.2.2.2.2.2.2.2.2.1 o5.2.2.2.2.2.2.2.2.2.2.1 o5.2.2.2.2.2.2.2.2.2.2.2 c13 c14 c15 c16) H := hP.sub [0, 1, 6, 7, 8, 9, 10, 11, 12, 13, 14, 15, 16, 2, 3, 4, 5] rfl
    have hD : va_D A (wX2_readStatement h0 h1 h2 h3 h4 h5 h6 h7 h8 h9 h10 h11 h12 h13 h14 h15 h16 kc3 kc4 kc5 kc6 kc7 kc8 kc9 kc10 kc11 kc12 kc13 kc14 kc15 kc16 V0 V2 v0_locals v1_token v1_tokenAt v1_name v1_fault v1_faultAt v1_size v1_next v2_globals v2_procedures o5.2.1 o5.2.2.1 o5.2.2.2.1 o5.2.2.2.2.1 o5.2.2.2.2.2.1 o5.2.2.2.2.2.2.1 o5.2.2.2.2.2.2.2.1 o5.2.2.2.2.2.2.2.2.1 o5.2.2.2.2.2.2.2.2.2.1 o5.2.2.2.2.2.2.2.2.2.2.1 o5.2.2.2.2.2.2.2.2.2.2.2 c13 c14 c15 c16) := hD.sub [0, 1, 6, 7, 8, 9, 10, 11, 12, 13, 14, 15, 16, 2, 3, 4, 5] (by decide) rfl
    refine lv_istore (lv' := [(4, .int o5.1), (3, .int z0), (0, .ref h0), (1, .int y1), (2, .int y2)]) hx hb dX2_readStatement_47 hl (by decide) rfl (fun ls hl => ?_)
    refine lv_iload hx hb dX2_readStatement_49 (lv_at hl 0 rfl) ?_
    refine lv_iconst (v := (-1)) hx hb dX2_readStatement_51 (by decide +kernel) ?_
    refine lv_icmp_ne (tgt := 65) hx hb dX2_readStatement_52 (by decide) (fun cq6 => ?_) (fun cq6 => ?_)
    · replace hf := if_no hf cq6
      refine lv_iload_n hx hb dX2_readStatement_65 rfl (lv_at hl 1 rfl) ?_
      refine lv_iconst (v := 1) hx hb dX2_readStatement_66 (by decide +kernel) ?_
      refine lv_icmp_eq (tgt := 75) hx hb dX2_readStatement_67 (by decide) (fun cq7 => ?_) (fun cq7 => ?_)
      · replace hf := if_at hf cq7
        exact (hG _ _ _ _ _).mp (J75 y2 o5.1 v1_token v1_tokenAt v1_name v1_fault v1_faultAt v1_next o5.2.1 o5.2.2.1 o5.2.2.2.1 o5.2.2.2.2.1 o5.2.2.2.2.2.1 o5.2.2.2.2.2.2.1 o5.2.2.2.2.2.2.2.1 o5.2.2.2.2.2.2.2.2.1 o5.2.2.2.2.2.2.2.2.2.1 o5.2.2.2.2.2.2.2.2.2.2.1 o5.2.2.2.2.2.2.2.2.2.2.2 c15 c16 H locs ls (hP.sub [0, 1, 2, 3, 4, 5, 6, 7, 8, 9, 10, 11, 12, 13, 14, 15, 16] rfl) (hD.sub [0, 1, 2, 3, 4, 5, 6, 7, 8, 9, 10, 11, 12, 13, 14, 15, 16] (by decide) rfl) hS (lv_sub hl [2, 4, 0] rfl) hf)
      · replace hf := if_no hf cq7
        refine lv_iload_n hx hb dX2_readStatement_70 rfl (lv_at hl 1 rfl) ?_
        refine lv_iconst (v := 2) hx hb dX2_readStatement_71 (by decide +kernel) ?_
        refine lv_icmp_ne (tgt := 85) hx hb dX2_readStatement_72 (by decide) (fun cq8 => ?_) (fun cq8 => ?_)
        · replace hf := if_no hf cq8
          refine lv_iload_n hx hb dX2_readStatement_85 rfl (lv_at hl 1 rfl) ?_
          refine lv_if_ne (tgt := 98) hx hb dX2_readStatement_86 (by decide) (fun cq9 => ?_) (fun cq9 => ?_)
          · replace hf := if_no hf cq9
            refine lv_aload_n hx hb dX2_readStatement_98 rfl (lv_at hl 2 rfl) ?_
            refine va_get (D := (dC, dI)) (ci := 2) (v := .ref h1) (C := RX2) (T := TX2) (N := 7) hx hb hts inlX2 hown hK hP 0 rfl rfl 0 (by decide) w0_ (fun _ h9 => h9) rfl dX2_readStatement_99 ?_
            obtain ⟨o10, e10, hf⟩ := ob_some hf
            refine kVv (As := []) (rest := []) ⟨hx, hb, hml, hown, hts⟩ (mX4_advance l dC dI h1 h13 kc13 H.size base v1_token v1_tokenAt v1_name v1_fault v1_faultAt v1_size v1_next c13 o10 e10) (cwV 0 hts (gTV q672 q562 q563 q19 q564) rfl rfl rfl (by decide +kernel) ⟨(by show 4 + 1 ≤ max ((F_X2_readBranch) + 1) 56; omega), (by show 8 + (2 + 11) + 91 ≤ max ((L_X2_readBranch) + 22) 1350; omega)⟩) hK hP hD hS hA hE hAB [1, 13] [0, 2, 3, 4, 5, 6, 7, 8, 9, 10, 11, 12, 14, 15, 16] [10] (wr := [(h0, .inr (2, [.ref h1, .ref h2, .ref h14, .int v0_locals, V0 4, .ref h15, .ref h16])), (h2, .inr (3, [V2 0, .int v2_globals, .int v2_procedures, .int o5.2.1, V2 4, .ref h3, .ref h4, .ref h5, .ref h6, .ref h7, .ref h8, V2 11, V2 12, .ref h9, .ref h10, .ref h11, .ref h12, V2 17])), (h3, .inl (kc3, 40, .inl o5.2.2.1)), (h4, .inl (kc4, 40, .inl o5.2.2.2.1)), (h5, .inl (kc5, 40, .inl o5.2.2.2.2.1)), (h6, .inl (kc6, 40, .inr (.inl o5.2.2.2.2.2.1))), (h7, .inl (kc7, 40, .inl o5.2.2.2.2.2.2.1)), (h8, .inl (kc8, 40, .inl o5.2.2.2.2.2.2.2.1)), (h9, .inl (kc9, 40, .inl o5.2.2.2.2.2.2.2.2.1)), (h10, .inl (kc10, 40, .inl o5.2.2.2.2.2.2.2.2.2.1)), (h11, .inl (kc11, 40, .inl o5.2.2.2.2.2.2.2.2.2.2.1)), (h12, .inl (kc12, 40, .inl o5.2.2.2.2.2.2.2.2.2.2.2)), (h14, .inl (kc14, 5, .inr (.inl c14))), (h15, .inl (kc15, 40, .inr (.inl c15))), (h16, .inl (kc16, 40, .inl c16))]) rfl rfl (by decide) (by decide) (by decide) rfl (ci := 4) (q0 := 0) rfl rfl rfl rfl hl.1 rfl (Nat.le_of_ble_eq_true rfl) dX2_readStatement_102 ⟨Nat.zero_le _, Nat.zero_le _⟩ (fun u10 H locs hw10 hP hD hS => ?_)
            have hw101 : o10 = u10 := Eq.symm hw10
            subst hw101
            have hP : va_P (dC, dI) vwCl (wX2_readStatement h0 h1 h2 h3 h4 h5 h6 h7 h8 h9 h10 h11 h12 h13 h14 h15 h16 kc3 kc4 kc5 kc6 kc7 kc8 kc9 kc10 kc11 kc12 kc13 kc14 kc15 kc16 V0 V2 v0_locals o10.1 o10.2.1 o10.2.2.1 o10.2.2.2.1 o10.2.2.2.2.1 v1_size o10.2.2.2.2.2 v2_globals v2_procedures o5.2.1 o5.2.2.1 o5.2.2.2.1 o5.2.2.2.2.1 o5.2.2.2.2.2.1 o5.2.2.2.2.2.2.1 o5.2.2.2.2.2.2.2.1 o5.2.2.2.2.2.2.2.2.1 o5.2.2.2.2.2.2.2.2.2.1 o5.2.2.2.2.2.2.2.2.2.2.1 o5.2.2.2.2.2.2.2.2.2.2.2 c13 c14 c15 c16) H := hP.sub [0, 15, 1, 2, 3, 4, 5, 6, 7, 8, 9, 10, 11, 16, 12, 13, 14] rfl
            have hD : va_D A (wX2_readStatement h0 h1 h2 h3 h4 h5 h6 h7 h8 h9 h10 h11 h12 h13 h14 h15 h16 kc3 kc4 kc5 kc6 kc7 kc8 kc9 kc10 kc11 kc12 kc13 kc14 kc15 kc16 V0 V2 v0_locals o10.1 o10.2.1 o10.2.2.1 o10.2.2.2.1 o10.2.2.2.2.1 v1_size o10.2.2.2.2.2 v2_globals v2_procedures o5.2.1 o5.2.2.1 o5.2.2.2.1 o5.2.2.2.2.1 o5.2.2.2.2.2.1 o5.2.2.2.2.2.2.1 o5.2.2.2.2.2.2.2.1 o5.2.2.2.2.2.2.2.2.1 o5.2.2.2.2.2.2.2.2.2.1 o5.2.2.2.2.2.2.2.2.2.2.1 o5.2.2.2.2.2.2.2.2.2.2.2 c13 c14 c15 c16) := hD.sub [0, 15, 1, 2, 3, 4, 5, 6, 7, 8, 9, 10, 11, 16, 12, 13, 14] (by decide) rfl
            refine lv_iload_n hx hb dX2_readStatement_105 rfl (lv_at hl 1 rfl) ?_
            refine lv_iconst (v := 3) hx hb dX2_readStatement_106 (by decide +kernel) ?_
            refine lv_icmp_ne (tgt := 119) hx hb dX2_readStatement_107 (by decide) (fun cq11 => ?_) (fun cq11 => ?_)
            · replace hf := if_no hf cq11
              refine lv_iload_n hx hb dX2_readStatement_119 rfl (lv_at hl 1 rfl) ?_
              refine lv_iconst (v := 4) hx hb dX2_readStatement_120 (by decide +kernel) ?_
              refine lv_icmp_eq (tgt := 129) hx hb dX2_readStatement_121 (by decide) (fun cq12 => ?_) (fun cq12 => ?_)
              · replace hf := if_at hf cq12
                exact (hG _ _ _ _ _).mp (J129 o5.1 o10.1 o10.2.1 o10.2.2.1 o10.2.2.2.1 o10.2.2.2.2.1 o10.2.2.2.2.2 o5.2.1 o5.2.2.1 o5.2.2.2.1 o5.2.2.2.2.1 o5.2.2.2.2.2.1 o5.2.2.2.2.2.2.1 o5.2.2.2.2.2.2.2.1 o5.2.2.2.2.2.2.2.2.1 o5.2.2.2.2.2.2.2.2.2.1 o5.2.2.2.2.2.2.2.2.2.2.1 o5.2.2.2.2.2.2.2.2.2.2.2 c15 c16 H locs ls (hP.sub [0, 1, 2, 3, 4, 5, 6, 7, 8, 9, 10, 11, 12, 13, 14, 15, 16] rfl) (hD.sub [0, 1, 2, 3, 4, 5, 6, 7, 8, 9, 10, 11, 12, 13, 14, 15, 16] (by decide) rfl) hS (lv_sub hl [2, 0] rfl) hf)
              · replace hf := if_no hf cq12
                refine lv_iload_n hx hb dX2_readStatement_124 rfl (lv_at hl 1 rfl) ?_
                refine lv_iconst (v := 5) hx hb dX2_readStatement_125 (by decide +kernel) ?_
                refine lv_icmp_ne (tgt := 144) hx hb dX2_readStatement_126 (by decide) (fun cq13 => ?_) (fun cq13 => ?_)
                · replace hf := if_no hf cq13
                  exact (hG _ _ _ _ _).mp (J144 o5.1 o10.1 o10.2.1 o10.2.2.1 o10.2.2.2.1 o10.2.2.2.2.1 o10.2.2.2.2.2 o5.2.1 o5.2.2.1 o5.2.2.2.1 o5.2.2.2.2.1 o5.2.2.2.2.2.1 o5.2.2.2.2.2.2.1 o5.2.2.2.2.2.2.2.1 o5.2.2.2.2.2.2.2.2.1 o5.2.2.2.2.2.2.2.2.2.1 o5.2.2.2.2.2.2.2.2.2.2.1 o5.2.2.2.2.2.2.2.2.2.2.2 c15 c16 H locs ls (hP.sub [0, 1, 2, 3, 4, 5, 6, 7, 8, 9, 10, 11, 12, 13, 14, 15, 16] rfl) (hD.sub [0, 1, 2, 3, 4, 5, 6, 7, 8, 9, 10, 11, 12, 13, 14, 15, 16] (by decide) rfl) hS (lv_sub hl [2, 0] rfl) hf)
                · replace hf := if_at hf cq13
                  exact (hG _ _ _ _ _).mp (J129 o5.1 o10.1 o10.2.1 o10.2.2.1 o10.2.2.2.1 o10.2.2.2.2.1 o10.2.2.2.2.2 o5.2.1 o5.2.2.1 o5.2.2.2.1 o5.2.2.2.2.1 o5.2.2.2.2.2.1 o5.2.2.2.2.2.2.1 o5.2.2.2.2.2.2.2.1 o5.2.2.2.2.2.2.2.2.1 o5.2.2.2.2.2.2.2.2.2.1 o5.2.2.2.2.2.2.2.2.2.2.1 o5.2.2.2.2.2.2.2.2.2.2.2 c15 c16 H locs ls (hP.sub [0, 1, 2, 3, 4, 5, 6, 7, 8, 9, 10, 11, 12, 13, 14, 15, 16] rfl) (hD.sub [0, 1, 2, 3, 4, 5, 6, 7, 8, 9, 10, 11, 12, 13, 14, 15, 16] (by decide) rfl) hS (lv_sub hl [2, 0] rfl) hf)
            · replace hf := if_at hf cq11
              refine lv_aload_n hx hb dX2_readStatement_110 rfl (lv_at hl 2 rfl) ?_
              refine lv_iload hx hb dX2_readStatement_111 (lv_at hl 0 rfl) ?_
              obtain ⟨o14, e14, hf⟩ := ob_some hf
              refine kVv (As := [.int o5.1]) (rest := []) ⟨hx, hb, hml, hown, hts⟩ (mX2_readCalled l dC dI h0 h1 h15 h16 h13 kc15 kc16 kc13 H.size base o5.1 o10.1 o10.2.1 o10.2.2.1 o10.2.2.2.1 o10.2.2.2.2.1 v1_size o10.2.2.2.2.2 c15 c16 c13 (fun k => match k with | 1 => .ref h2 | 2 => .ref h14 | 3 => .int v0_locals | k => V0 k) o14 e14) (cwV 1 hts (gTV q766 q767 q768 q27 q769) rfl rfl rfl (by decide +kernel) ⟨(by show 6 + 1 ≤ max ((F_X2_readBranch) + 1) 56; omega), (by show 8 + (2 + 11) + 133 ≤ max ((L_X2_readBranch) + 22) 1350; omega)⟩) hK hP hD hS hA hE hAB [0, 1, 15, 16, 13] [2, 3, 4, 5, 6, 7, 8, 9, 10, 11, 12, 14] [12, 13, 10] (wr := [(h2, .inr (3, [V2 0, .int v2_globals, .int v2_procedures, .int o5.2.1, V2 4, .ref h3, .ref h4, .ref h5, .ref h6, .ref h7, .ref h8, V2 11, V2 12, .ref h9, .ref h10, .ref h11, .ref h12, V2 17])), (h3, .inl (kc3, 40, .inl o5.2.2.1)), (h4, .inl (kc4, 40, .inl o5.2.2.2.1)), (h5, .inl (kc5, 40, .inl o5.2.2.2.2.1)), (h6, .inl (kc6, 40, .inr (.inl o5.2.2.2.2.2.1))), (h7, .inl (kc7, 40, .inl o5.2.2.2.2.2.2.1)), (h8, .inl (kc8, 40, .inl o5.2.2.2.2.2.2.2.1)), (h9, .inl (kc9, 40, .inl o5.2.2.2.2.2.2.2.2.1)), (h10, .inl (kc10, 40, .inl o5.2.2.2.2.2.2.2.2.2.1)), (h11, .inl (kc11, 40, .inl o5.2.2.2.2.2.2.2.2.2.2.1)), (h12, .inl (kc12, 40, .inl o5.2.2.2.2.2.2.2.2.2.2.2)), (h14, .inl (kc14, 5, .inr (.inl c14)))]) rfl rfl (by decide) (by decide) (by decide) rfl (ci := 2) (q0 := 0) rfl rfl rfl rfl hl.1 rfl (Nat.le_of_ble_eq_true rfl) dX2_readStatement_113 ⟨Nat.zero_le _, Nat.zero_le _⟩ (fun u14 H locs hw14 hP hD hS => ?_)
              have hw141 : o14 = u14 := Eq.symm hw14
              subst hw141
              have hP : va_P (dC, dI) vwCl (wX2_readStatement h0 h1 h2 h3 h4 h5 h6 h7 h8 h9 h10 h11 h12 h13 h14 h15 h16 kc3 kc4 kc5 kc6 kc7 kc8 kc9 kc10 kc11 kc12 kc13 kc14 kc15 kc16 V0 V2 v0_locals o14.1 o14.2.1 o14.2.2.1 o14.2.2.2.1 o14.2.2.2.2.1 v1_size o14.2.2.2.2.2.1 v2_globals v2_procedures o5.2.1 o5.2.2.1 o5.2.2.2.1 o5.2.2.2.2.1 o5.2.2.2.2.2.1 o5.2.2.2.2.2.2.1 o5.2.2.2.2.2.2.2.1 o5.2.2.2.2.2.2.2.2.1 o5.2.2.2.2.2.2.2.2.2.1 o5.2.2.2.2.2.2.2.2.2.2.1 o5.2.2.2.2.2.2.2.2.2.2.2 c13 c14 o14.2.2.2.2.2.2.1 o14.2.2.2.2.2.2.2) H := hP.sub [12, 13, 0, 1, 2, 3, 4, 5, 6, 7, 8, 9, 10, 16, 11, 14, 15] rfl
              have hD : va_D A (wX2_readStatement h0 h1 h2 h3 h4 h5 h6 h7 h8 h9 h10 h11 h12 h13 h14 h15 h16 kc3 kc4 kc5 kc6 kc7 kc8 kc9 kc10 kc11 kc12 kc13 kc14 kc15 kc16 V0 V2 v0_locals o14.1 o14.2.1 o14.2.2.1 o14.2.2.2.1 o14.2.2.2.2.1 v1_size o14.2.2.2.2.2.1 v2_globals v2_procedures o5.2.1 o5.2.2.1 o5.2.2.2.1 o5.2.2.2.2.1 o5.2.2.2.2.2.1 o5.2.2.2.2.2.2.1 o5.2.2.2.2.2.2.2.1 o5.2.2.2.2.2.2.2.2.1 o5.2.2.2.2.2.2.2.2.2.1 o5.2.2.2.2.2.2.2.2.2.2.1 o5.2.2.2.2.2.2.2.2.2.2.2 c13 c14 o14.2.2.2.2.2.2.1 o14.2.2.2.2.2.2.2) := hD.sub [12, 13, 0, 1, 2, 3, 4, 5, 6, 7, 8, 9, 10, 16, 11, 14, 15] (by decide) rfl
              refine lv_goto (tgt := 144) hx hb dX2_readStatement_116 (by decide) ?_
              exact (hG _ _ _ _ _).mp (J144 o5.1 o14.1 o14.2.1 o14.2.2.1 o14.2.2.2.1 o14.2.2.2.2.1 o14.2.2.2.2.2.1 o5.2.1 o5.2.2.1 o5.2.2.2.1 o5.2.2.2.2.1 o5.2.2.2.2.2.1 o5.2.2.2.2.2.2.1 o5.2.2.2.2.2.2.2.1 o5.2.2.2.2.2.2.2.2.1 o5.2.2.2.2.2.2.2.2.2.1 o5.2.2.2.2.2.2.2.2.2.2.1 o5.2.2.2.2.2.2.2.2.2.2.2 o14.2.2.2.2.2.2.1 o14.2.2.2.2.2.2.2 H locs ls (hP.sub [0, 1, 2, 3, 4, 5, 6, 7, 8, 9, 10, 11, 12, 13, 14, 15, 16] rfl) (hD.sub [0, 1, 2, 3, 4, 5, 6, 7, 8, 9, 10, 11, 12, 13, 14, 15, 16] (by decide) rfl) hS (lv_sub hl [2, 0] rfl) hf)
          · replace hf := if_at hf cq9
            refine lv_aload_n hx hb dX2_readStatement_89 rfl (lv_at hl 2 rfl) ?_
            refine lv_iload hx hb dX2_readStatement_90 (lv_at hl 0 rfl) ?_
            obtain ⟨o15, e15, hf⟩ := ob_some hf
            refine kVv (As := [.int o5.1]) (rest := []) ⟨hx, hb, hml, hown, hts⟩ (mX2_readAssignment l dC dI h0 h1 h2 h14 h7 h13 h6 kc14 kc7 kc13 kc6 H.size base o5.1 v0_locals v1_token v1_tokenAt v1_name v1_fault v1_faultAt v1_size v1_next v2_globals c14 o5.2.2.2.2.2.2.1 c13 o5.2.2.2.2.2.1 (fun k => match k with | 5 => .ref h15 | 6 => .ref h16 | k => V0 k) (fun k => match k with | 2 => .int v2_procedures | 3 => .int o5.2.1 | 5 => .ref h3 | 6 => .ref h4 | 7 => .ref h5 | 10 => .ref h8 | 13 => .ref h9 | 14 => .ref h10 | 15 => .ref h11 | 16 => .ref h12 | k => V2 k) o15 e15) (cwV 1 hts (gTV q761 q762 q763 q27 q764) rfl rfl rfl (by decide +kernel) ⟨(by show 55 + 1 ≤ max ((F_X2_readBranch) + 1) 56; omega), (by show 8 + (3 + 11) + 1328 ≤ max ((L_X2_readBranch) + 22) 1350; omega)⟩) hK hP hD hS hA hE hAB [0, 1, 2, 14, 7, 13, 6] [3, 4, 5, 8, 9, 10, 11, 12, 15, 16] [11, 4, 10, 3] (wr := [(h3, .inl (kc3, 40, .inl o5.2.2.1)), (h4, .inl (kc4, 40, .inl o5.2.2.2.1)), (h5, .inl (kc5, 40, .inl o5.2.2.2.2.1)), (h8, .inl (kc8, 40, .inl o5.2.2.2.2.2.2.2.1)), (h9, .inl (kc9, 40, .inl o5.2.2.2.2.2.2.2.2.1)), (h10, .inl (kc10, 40, .inl o5.2.2.2.2.2.2.2.2.2.1)), (h11, .inl (kc11, 40, .inl o5.2.2.2.2.2.2.2.2.2.2.1)), (h12, .inl (kc12, 40, .inl o5.2.2.2.2.2.2.2.2.2.2.2)), (h15, .inl (kc15, 40, .inr (.inl c15))), (h16, .inl (kc16, 40, .inl c16))]) rfl rfl (by decide) (by decide) (by decide) rfl (ci := 2) (q0 := 0) rfl rfl rfl rfl hl.1 rfl (Nat.le_of_ble_eq_true rfl) dX2_readStatement_92 ⟨Nat.zero_le _, Nat.zero_le _⟩ (fun u15 H locs hw15 hP hD hS => ?_)
            have hw151 : o15 = u15 := Eq.symm hw15
            subst hw151
            have hP : va_P (dC, dI) vwCl (wX2_readStatement h0 h1 h2 h3 h4 h5 h6 h7 h8 h9 h10 h11 h12 h13 h14 h15 h16 kc3 kc4 kc5 kc6 kc7 kc8 kc9 kc10 kc11 kc12 kc13 kc14 kc15 kc16 V0 V2 v0_locals o15.1 o15.2.1 o15.2.2.1 o15.2.2.2.1 o15.2.2.2.2.1 v1_size o15.2.2.2.2.2.1 v2_globals v2_procedures o5.2.1 o5.2.2.1 o5.2.2.2.1 o5.2.2.2.2.1 o15.2.2.2.2.2.2.2 o15.2.2.2.2.2.2.1 o5.2.2.2.2.2.2.2.1 o5.2.2.2.2.2.2.2.2.1 o5.2.2.2.2.2.2.2.2.2.1 o5.2.2.2.2.2.2.2.2.2.2.1 o5.2.2.2.2.2.2.2.2.2.2.2 c13 c14 c15 c16) H := hP.sub [10, 11, 12, 0, 1, 2, 16, 14, 3, 4, 5, 6, 7, 15, 13, 8, 9] rfl
            have hD : va_D A (wX2_readStatement h0 h1 h2 h3 h4 h5 h6 h7 h8 h9 h10 h11 h12 h13 h14 h15 h16 kc3 kc4 kc5 kc6 kc7 kc8 kc9 kc10 kc11 kc12 kc13 kc14 kc15 kc16 V0 V2 v0_locals o15.1 o15.2.1 o15.2.2.1 o15.2.2.2.1 o15.2.2.2.2.1 v1_size o15.2.2.2.2.2.1 v2_globals v2_procedures o5.2.1 o5.2.2.1 o5.2.2.2.1 o5.2.2.2.2.1 o15.2.2.2.2.2.2.2 o15.2.2.2.2.2.2.1 o5.2.2.2.2.2.2.2.1 o5.2.2.2.2.2.2.2.2.1 o5.2.2.2.2.2.2.2.2.2.1 o5.2.2.2.2.2.2.2.2.2.2.1 o5.2.2.2.2.2.2.2.2.2.2.2 c13 c14 c15 c16) := hD.sub [10, 11, 12, 0, 1, 2, 16, 14, 3, 4, 5, 6, 7, 15, 13, 8, 9] (by decide) rfl
            refine lv_goto (tgt := 144) hx hb dX2_readStatement_95 (by decide) ?_
            exact (hG _ _ _ _ _).mp (J144 o5.1 o15.1 o15.2.1 o15.2.2.1 o15.2.2.2.1 o15.2.2.2.2.1 o15.2.2.2.2.2.1 o5.2.1 o5.2.2.1 o5.2.2.2.1 o5.2.2.2.2.1 o15.2.2.2.2.2.2.2 o15.2.2.2.2.2.2.1 o5.2.2.2.2.2.2.2.1 o5.2.2.2.2.2.2.2.2.1 o5.2.2.2.2.2.2.2.2.2.1 o5.2.2.2.2.2.2.2.2.2.2.1 o5.2.2.2.2.2.2.2.2.2.2.2 c15 c16 H locs ls (hP.sub [0, 1, 2, 3, 4, 5, 6, 7, 8, 9, 10, 11, 12, 13, 14, 15, 16] rfl) (hD.sub [0, 1, 2, 3, 4, 5, 6, 7, 8, 9, 10, 11, 12, 13, 14, 15, 16] (by decide) rfl) hS (lv_sub hl [2, 0] rfl) hf)
        · replace hf := if_at hf cq8
          exact (hG _ _ _ _ _).mp (J75 y2 o5.1 v1_token v1_tokenAt v1_name v1_fault v1_faultAt v1_next o5.2.1 o5.2.2.1 o5.2.2.2.1 o5.2.2.2.2.1 o5.2.2.2.2.2.1 o5.2.2.2.2.2.2.1 o5.2.2.2.2.2.2.2.1 o5.2.2.2.2.2.2.2.2.1 o5.2.2.2.2.2.2.2.2.2.1 o5.2.2.2.2.2.2.2.2.2.2.1 o5.2.2.2.2.2.2.2.2.2.2.2 c15 c16 H locs ls (hP.sub [0, 1, 2, 3, 4, 5, 6, 7, 8, 9, 10, 11, 12, 13, 14, 15, 16] rfl) (hD.sub [0, 1, 2, 3, 4, 5, 6, 7, 8, 9, 10, 11, 12, 13, 14, 15, 16] (by decide) rfl) hS (lv_sub hl [2, 4, 0] rfl) hf)
    · replace hf := if_at hf cq6
      refine lv_aload_n hx hb dX2_readStatement_55 rfl (lv_at hl 2 rfl) ?_
      refine va_get (D := (dC, dI)) (ci := 2) (v := .ref h1) (C := RX2) (T := TX2) (N := 7) hx hb hts inlX2 hown hK hP 0 rfl rfl 0 (by decide) w0_ (fun _ h9 => h9) rfl dX2_readStatement_56 ?_
      refine lv_iconst (v := 3) hx hb dX2_readStatement_59 (by decide +kernel) ?_
      obtain ⟨o16, e16, hf⟩ := ob_some hf
      refine kVv (As := [.int 3]) (rest := []) ⟨hx, hb, hml, hown, hts⟩ (mX4_failHere l dC dI h1 H.size base 3 v1_token v1_tokenAt v1_fault v1_faultAt (fun k => match k with | 2 => .long v1_name | 5 => .ref h13 | 6 => .int v1_size | 7 => .int v1_next | _ => .null) o16 e16) (cwV 1 hts (gTV q679 q680 q681 q19 q682) rfl rfl rfl (by decide +kernel) ⟨(by show 1 + 1 ≤ max ((F_X2_readBranch) + 1) 56; omega), (by show 8 + (2 + 11) + 22 ≤ max ((L_X2_readBranch) + 22) 1350; omega)⟩) hK hP hD hS hA hE hAB [1] [0, 2, 3, 4, 5, 6, 7, 8, 9, 10, 11, 12, 13, 14, 15, 16] [] (wr := [(h0, .inr (2, [.ref h1, .ref h2, .ref h14, .int v0_locals, V0 4, .ref h15, .ref h16])), (h2, .inr (3, [V2 0, .int v2_globals, .int v2_procedures, .int o5.2.1, V2 4, .ref h3, .ref h4, .ref h5, .ref h6, .ref h7, .ref h8, V2 11, V2 12, .ref h9, .ref h10, .ref h11, .ref h12, V2 17])), (h3, .inl (kc3, 40, .inl o5.2.2.1)), (h4, .inl (kc4, 40, .inl o5.2.2.2.1)), (h5, .inl (kc5, 40, .inl o5.2.2.2.2.1)), (h6, .inl (kc6, 40, .inr (.inl o5.2.2.2.2.2.1))), (h7, .inl (kc7, 40, .inl o5.2.2.2.2.2.2.1)), (h8, .inl (kc8, 40, .inl o5.2.2.2.2.2.2.2.1)), (h9, .inl (kc9, 40, .inl o5.2.2.2.2.2.2.2.2.1)), (h10, .inl (kc10, 40, .inl o5.2.2.2.2.2.2.2.2.2.1)), (h11, .inl (kc11, 40, .inl o5.2.2.2.2.2.2.2.2.2.2.1)), (h12, .inl (kc12, 40, .inl o5.2.2.2.2.2.2.2.2.2.2.2)), (h13, .inl (kc13, 600, .inl c13)), (h14, .inl (kc14, 5, .inr (.inl c14))), (h15, .inl (kc15, 40, .inr (.inl c15))), (h16, .inl (kc16, 40, .inl c16))]) rfl rfl (by decide) (by decide) (by decide) rfl (ci := 4) (q0 := 0) rfl rfl rfl rfl hl.1 rfl (Nat.le_of_ble_eq_true rfl) dX2_readStatement_60 ⟨Nat.zero_le _, Nat.zero_le _⟩ (fun u16 H locs hw16 hP hD hS => ?_)
      have hw161 : o16 = u16 := Eq.symm hw16
      subst hw161
      have hP : va_P (dC, dI) vwCl (wX2_readStatement h0 h1 h2 h3 h4 h5 h6 h7 h8 h9 h10 h11 h12 h13 h14 h15 h16 kc3 kc4 kc5 kc6 kc7 kc8 kc9 kc10 kc11 kc12 kc13 kc14 kc15 kc16 V0 V2 v0_locals o16.1 v1_tokenAt v1_name o16.2.1 o16.2.2 v1_size v1_next v2_globals v2_procedures o5.2.1 o5.2.2.1 o5.2.2.2.1 o5.2.2.2.2.1 o5.2.2.2.2.2.1 o5.2.2.2.2.2.2.1 o5.2.2.2.2.2.2.2.1 o5.2.2.2.2.2.2.2.2.1 o5.2.2.2.2.2.2.2.2.2.1 o5.2.2.2.2.2.2.2.2.2.2.1 o5.2.2.2.2.2.2.2.2.2.2.2 c13 c14 c15 c16) H := hP.sub [0, 16, 1, 2, 3, 4, 5, 6, 7, 8, 9, 10, 11, 12, 13, 14, 15] rfl
      have hD : va_D A (wX2_readStatement h0 h1 h2 h3 h4 h5 h6 h7 h8 h9 h10 h11 h12 h13 h14 h15 h16 kc3 kc4 kc5 kc6 kc7 kc8 kc9 kc10 kc11 kc12 kc13 kc14 kc15 kc16 V0 V2 v0_locals o16.1 v1_tokenAt v1_name o16.2.1 o16.2.2 v1_size v1_next v2_globals v2_procedures o5.2.1 o5.2.2.1 o5.2.2.2.1 o5.2.2.2.2.1 o5.2.2.2.2.2.1 o5.2.2.2.2.2.2.1 o5.2.2.2.2.2.2.2.1 o5.2.2.2.2.2.2.2.2.1 o5.2.2.2.2.2.2.2.2.2.1 o5.2.2.2.2.2.2.2.2.2.2.1 o5.2.2.2.2.2.2.2.2.2.2.2 c13 c14 c15 c16) := hD.sub [0, 16, 1, 2, 3, 4, 5, 6, 7, 8, 9, 10, 11, 12, 13, 14, 15] (by decide) rfl
      refine lv_iconst (v := (-1)) hx hb dX2_readStatement_63 (by decide +kernel) ?_
      have hf1 := Option.some.inj hf
      subst hf1
      have hP9 := hP.sub (ws' := (wX2_readStatement h0 h1 h2 h3 h4 h5 h6 h7 h8 h9 h10 h11 h12 h13 h14 h15 h16 kc3 kc4 kc5 kc6 kc7 kc8 kc9 kc10 kc11 kc12 kc13 kc14 kc15 kc16 V0 V2 v0_locals o16.1 v1_tokenAt v1_name o16.2.1 o16.2.2 v1_size v1_next v2_globals v2_procedures o5.2.1 o5.2.2.1 o5.2.2.2.1 o5.2.2.2.2.1 o5.2.2.2.2.2.1 o5.2.2.2.2.2.2.1 o5.2.2.2.2.2.2.2.1 o5.2.2.2.2.2.2.2.2.1 o5.2.2.2.2.2.2.2.2.2.1 o5.2.2.2.2.2.2.2.2.2.2.1 o5.2.2.2.2.2.2.2.2.2.2.2 c13 c14 c15 c16)) [0, 1, 2, 3, 4, 5, 6, 7, 8, 9, 10, 11, 12, 13, 14, 15, 16] rfl
      have hD9 := hD.sub (ws' := (wX2_readStatement h0 h1 h2 h3 h4 h5 h6 h7 h8 h9 h10 h11 h12 h13 h14 h15 h16 kc3 kc4 kc5 kc6 kc7 kc8 kc9 kc10 kc11 kc12 kc13 kc14 kc15 kc16 V0 V2 v0_locals o16.1 v1_tokenAt v1_name o16.2.1 o16.2.2 v1_size v1_next v2_globals v2_procedures o5.2.1 o5.2.2.1 o5.2.2.2.1 o5.2.2.2.2.1 o5.2.2.2.2.2.1 o5.2.2.2.2.2.2.1 o5.2.2.2.2.2.2.2.1 o5.2.2.2.2.2.2.2.2.1 o5.2.2.2.2.2.2.2.2.2.1 o5.2.2.2.2.2.2.2.2.2.2.1 o5.2.2.2.2.2.2.2.2.2.2.2 c13 c14 c15 c16)) [0, 1, 2, 3, 4, 5, 6, 7, 8, 9, 10, 11, 12, 13, 14, 15, 16] (by decide) rfl
      exact W.iret (v := (-1)) hx hb hr (fun t ht hW => ⟨⟨(-1), (o16.1, v1_tokenAt, v1_name, o16.2.1, o16.2.2, v1_next, o5.2.1, o5.2.2.1, o5.2.2.2.1, o5.2.2.2.2.1, o5.2.2.2.2.2.1, o5.2.2.2.2.2.2.1, o5.2.2.2.2.2.2.2.1, o5.2.2.2.2.2.2.2.2.1, o5.2.2.2.2.2.2.2.2.2.1, o5.2.2.2.2.2.2.2.2.2.2.1, o5.2.2.2.2.2.2.2.2.2.2.2, c15, c16), rfl, ⟨rfl, rfl⟩, by rw [ht]; exact hP9, va_K.moved hW.alike hK, hD9⟩, hS.F ht⟩) hS.2.2 dX2_readStatement_64
  refine (hG _ _ _ _ _).mpr ?_
  obtain ⟨H, hH⟩ : ∃ H, H = s.heap := ⟨_, rfl⟩
  have hS : va_S A s.heap H [] := by rw [hH]; exact hS
  rw [← hH] at hP ⊢
  generalize ([] : List Loc) = locs at hS ⊢
  unfold fX2_readStatement_o at hf
  refine lv_aload_n hx hb dX2_readStatement_0 rfl (lv_at hl 0 rfl) ?_
  refine va_get (D := (dC, dI)) (ci := 2) (v := .ref h1) (C := RX2) (T := TX2) (N := 7) hx hb hts inlX2 hown hK hP 0 rfl rfl 0 (by decide) w0_ (fun _ h9 => h9) rfl dX2_readStatement_1 ?_
  refine va_get (D := (dC, dI)) (ci := 4) (v := .int v1_token) (C := RX4) (T := TX4) (N := 8) hx hb hts inlX4 hown hK hP 1 rfl rfl 0 (by decide) w4_ (fun _ h9 => h9) rfl dX2_readStatement_4 ?_
  refine lv_sipush (v := 258) hx hb dX2_readStatement_7 (by decide +kernel) ?_
  refine lv_icmp_ne (tgt := 17) hx hb dX2_readStatement_10 (by decide) (fun cq17 => ?_) (fun cq17 => ?_)
  · replace hf := if_no hf cq17
    refine lv_iconst (v := 1) hx hb dX2_readStatement_17 (by decide +kernel) ?_
    refine lv_aload_n hx hb dX2_readStatement_18 rfl (lv_at hl 0 rfl) ?_
    refine va_get (D := (dC, dI)) (ci := 2) (v := .ref h1) (C := RX2) (T := TX2) (N := 7) hx hb hts inlX2 hown hK hP 0 rfl rfl 0 (by decide) w0_ (fun _ h9 => h9) rfl dX2_readStatement_19 ?_
    refine va_get (D := (dC, dI)) (ci := 4) (v := .int v1_token) (C := RX4) (T := TX4) (N := 8) hx hb hts inlX4 hown hK hP 1 rfl rfl 0 (by decide) w4_ (fun _ h9 => h9) rfl dX2_readStatement_22 ?_
    refine lv_iadd hx hb dX2_readStatement_25 ?_
    refine lv_topi (fun x18 e18 => ?_)
    replace hf := nm_at hf e18
    refine lv_sipush (v := 262) hx hb dX2_readStatement_26 (by decide +kernel) ?_
    refine lv_isub hx hb dX2_readStatement_29 ?_
    refine lv_topi (fun x19 e19 => ?_)
    replace hf := nm_at hf e19
    exact (hG _ _ _ _ _).mp (J30 a0 a1 x19 v1_token v1_tokenAt v1_name v1_fault v1_faultAt v1_next v2_statements c3 c4 c5 c6 c7 c8 c9 c10 c11 c12 c15 c16 H locs ls (hP.sub [0, 1, 2, 3, 4, 5, 6, 7, 8, 9, 10, 11, 12, 13, 14, 15, 16] rfl) (hD.sub [0, 1, 2, 3, 4, 5, 6, 7, 8, 9, 10, 11, 12, 13, 14, 15, 16] (by decide) rfl) hS (lv_sub hl [0, 1, 2] rfl) hf)
  · replace hf := if_at hf cq17
    refine lv_iconst (v := 0) hx hb dX2_readStatement_13 (by decide +kernel) ?_
    refine lv_goto (tgt := 30) hx hb dX2_readStatement_14 (by decide) ?_
    exact (hG _ _ _ _ _).mp (J30 a0 a1 0 v1_token v1_tokenAt v1_name v1_fault v1_faultAt v1_next v2_statements c3 c4 c5 c6 c7 c8 c9 c10 c11 c12 c15 c16 H locs ls (hP.sub [0, 1, 2, 3, 4, 5, 6, 7, 8, 9, 10, 11, 12, 13, 14, 15, 16] rfl) (hD.sub [0, 1, 2, 3, 4, 5, 6, 7, 8, 9, 10, 11, 12, 13, 14, 15, 16] (by decide) rfl) hS (lv_sub hl [0, 1, 2] rfl) hf)
set_option maxHeartbeats 4000000 in
set_option maxRecDepth 100000 in
theorem mX2_readStatements_o (kf_X2_readStatement : Int32 → Int32 → Int32 → Int32 → Int32 → Int64 → Int32 → Int32 → Int32 → Int32 → Int32 → Int32 → Int32 → (Nat → Int32) → (Nat → Int32) → (Nat → Int32) → (Nat → Int64) → (Nat → Int32) → (Nat → Int32) → (Nat → Int32) → (Nat → Int32) → (Nat → Int32) → (Nat → Int32) → (Nat → Int32) → (Nat → Int64) → (Nat → Int64) → (Nat → Int32) → Option (Int32 × Int32 × Int32 × Int64 × Int32 × Int32 × Int32 × Int32 × (Nat → Int32) × (Nat → Int32) × (Nat → Int32) × (Nat → Int64) × (Nat → Int32) × (Nat → Int32) × (Nat → Int32) × (Nat → Int32) × (Nat → Int32) × (Nat → Int32) × (Nat → Int64) × (Nat → Int32))) (F_X2_readStatement L_X2_readStatement : Nat) (hk_X2_readStatement : KX2_readStatement kf_X2_readStatement F_X2_readStatement L_X2_readStatement) : KX2_readStatements (fX2_readStatements_o kf_X2_readStatement) (max ((F_X2_readStatement) + 1) 1) (max ((L_X2_readStatement) + 24) 24) := by
  intro l dC dI h0 h1 h2 h3 h4 h5 h6 h7 h8 h9 h10 h11 h12 h13 h14 h15 h16 kc3 kc4 kc5 kc6 kc7 kc8 kc9 kc10 kc11 kc12 kc13 kc14 kc15 kc16 sz base a0 a1 v0_locals v1_token v1_tokenAt v1_name v1_fault v1_faultAt v1_size v1_next v2_globals v2_procedures v2_statements c3 c4 c5 c6 c7 c8 c9 c10 c11 c12 c13 c14 c15 c16 V0 V2 o hf
  refine Met.ofW (cc := cX2_readStatements) (maxL := 7) (ret := (some .int)) (by decide) rfl ?_
  intro p e s m args below meth c s₁ B hml hv
  obtain ⟨rfl, hsz, hP, hK, hD0, hE⟩ := hv
  have hx := B.exec
  have hb := B.bytes
  have hr := B.returns
  have hts : ∀ w ∈ wsL_law, _ := fun w h => atoms_spec (ws := .code yX2_readStatements cX2_readStatements 7 (some .int) :: wsL_law) B.pre w (List.mem_cons_of_mem _ h)
  have hown : s.vm.findClass RX2 = some m.cls := findClass_of_methodNamed B.named
  have hlocks := B.notSynchronized
  have w0_ := hts _ q73
  have w1_ := hts _ q710
  subst hsz
  have hD := hD0.self (sz := s.heap.size)
  generalize hAe : va_A (wX2_readStatements h0 h1 h2 h3 h4 h5 h6 h7 h8 h9 h10 h11 h12 h13 h14 h15 h16 kc3 kc4 kc5 kc6 kc7 kc8 kc9 kc10 kc11 kc12 kc13 kc14 kc15 kc16 V0 V2 v0_locals v1_token v1_tokenAt v1_name v1_fault v1_faultAt v1_size v1_next v2_globals v2_procedures v2_statements c3 c4 c5 c6 c7 c8 c9 c10 c11 c12 c13 c14 c15 c16) s.heap.size = A at hD ⊢
  have hA : ∀ q : Nat, s.heap.size ≤ q → A q := fun q h => by rw [← hAe]; exact Or.inr h
  have hAB : ∀ q : Nat, A q → base.1 ≤ q := fun q h => by rw [← hAe] at h; exact h.elim (fun ⟨k, e, hk⟩ => hD0.2 k _ hk) (fun hk => Nat.le_trans hE.1 hk)
  have hS : va_S A s.heap s.heap [] := va_S.rf
  have hl := lv_entry ([.ref h0, .int a0, .int a1]) (n := 7) (Nat.le_of_ble_eq_true rfl)
  rw [lg_entry_eq]
  generalize (lg_sl ([.ref h0, .int a0, .int a1]) ++ List.replicate (7 - (lg_sl ([.ref h0, .int a0, .int a1])).length) Slot.unset).toArray = ls at hl ⊢
  have hl : lv_has ls 7 [(0, .ref h0), (1, .int a0), (2, .int a1)] := hl
  have hP : va_P (dC, dI) vwCl (wX2_readStatements h0 h1 h2 h3 h4 h5 h6 h7 h8 h9 h10 h11 h12 h13 h14 h15 h16 kc3 kc4 kc5 kc6 kc7 kc8 kc9 kc10 kc11 kc12 kc13 kc14 kc15 kc16 V0 V2 v0_locals v1_token v1_tokenAt v1_name v1_fault v1_faultAt v1_size v1_next v2_globals v2_procedures v2_statements c3 c4 c5 c6 c7 c8 c9 c10 c11 c12 c13 c14 c15 c16) s.heap := hP
  refine gl_intro (fun G hG => ?_)
  have J72 : ∀ (y3 : Int32) (v1_token : Int32) (v1_tokenAt : Int32) (v1_name : Int64) (v1_fault : Int32) (v1_faultAt : Int32) (v1_next : Int32) (v2_statements : Int32) (c3 : (Nat → Int32)) (c4 : (Nat → Int32)) (c5 : (Nat → Int32)) (c6 : (Nat → Int64)) (c7 : (Nat → Int32)) (c8 : (Nat → Int32)) (c9 : (Nat → Int32)) (c10 : (Nat → Int32)) (c11 : (Nat → Int32)) (c12 : (Nat → Int32)) (c15 : (Nat → Int64)) (c16 : (Nat → Int32)) (H : Heap) (locs : List Loc) (ls : Array Slot), va_P (dC, dI) vwCl (wX2_readStatements h0 h1 h2 h3 h4 h5 h6 h7 h8 h9 h10 h11 h12 h13 h14 h15 h16 kc3 kc4 kc5 kc6 kc7 kc8 kc9 kc10 kc11 kc12 kc13 kc14 kc15 kc16 V0 V2 v0_locals v1_token v1_tokenAt v1_name v1_fault v1_faultAt v1_size v1_next v2_globals v2_procedures v2_statements c3 c4 c5 c6 c7 c8 c9 c10 c11 c12 c13 c14 c15 c16) H → va_D A (wX2_readStatements h0 h1 h2 h3 h4 h5 h6 h7 h8 h9 h10 h11 h12 h13 h14 h15 h16 kc3 kc4 kc5 kc6 kc7 kc8 kc9 kc10 kc11 kc12 kc13 kc14 kc15 kc16 V0 V2 v0_locals v1_token v1_tokenAt v1_name v1_fault v1_faultAt v1_size v1_next v2_globals v2_procedures v2_statements c3 c4 c5 c6 c7 c8 c9 c10 c11 c12 c13 c14 c15 c16) → va_S A s.heap H locs → lv_has ls 7 [(0, .ref h0), (3, .int y3)] → fX2_readStatements_o_p72 kf_X2_readStatement v0_locals v1_size v2_globals v2_procedures c13 c14  y3 v1_token v1_tokenAt v1_name v1_fault v1_faultAt v1_next v2_statements c3 c4 c5 c6 c7 c8 c9 c10 c11 c12 c15 c16 = some o → G 0 0 H locs (F0 m 72 ls []) := by
    intro  y3 v1_token v1_tokenAt v1_name v1_fault v1_faultAt v1_next v2_statements c3 c4 c5 c6 c7 c8 c9 c10 c11 c12 c15 c16 H locs ls hP hD hS hl hf
    refine (hG _ _ _ _ _).mpr ?_
    unfold fX2_readStatements_o_p72 at hf
    refine lv_iload_n hx hb dX2_readStatements_72 rfl (lv_at hl 1 rfl) ?_
    have hf1 := Option.some.inj hf
    subst hf1
    have hP9 := hP.sub (ws' := (wX2_readStatements h0 h1 h2 h3 h4 h5 h6 h7 h8 h9 h10 h11 h12 h13 h14 h15 h16 kc3 kc4 kc5 kc6 kc7 kc8 kc9 kc10 kc11 kc12 kc13 kc14 kc15 kc16 V0 V2 v0_locals v1_token v1_tokenAt v1_name v1_fault v1_faultAt v1_size v1_next v2_globals v2_procedures v2_statements c3 c4 c5 c6 c7 c8 c9 c10 c11 c12 c13 c14 c15 c16)) [0, 1, 2, 3, 4, 5, 6, 7, 8, 9, 10, 11, 12, 13, 14, 15, 16] rfl
    have hD9 := hD.sub (ws' := (wX2_readStatements h0 h1 h2 h3 h4 h5 h6 h7 h8 h9 h10 h11 h12 h13 h14 h15 h16 kc3 kc4 kc5 kc6 kc7 kc8 kc9 kc10 kc11 kc12 kc13 kc14 kc15 kc16 V0 V2 v0_locals v1_token v1_tokenAt v1_name v1_fault v1_faultAt v1_size v1_next v2_globals v2_procedures v2_statements c3 c4 c5 c6 c7 c8 c9 c10 c11 c12 c13 c14 c15 c16)) [0, 1, 2, 3, 4, 5, 6, 7, 8, 9, 10, 11, 12, 13, 14, 15, 16] (by decide) rfl
    exact W.iret (v := y3) hx hb hr (fun t ht hW => ⟨⟨y3, (v1_token, v1_tokenAt, v1_name, v1_fault, v1_faultAt, v1_next, v2_statements, c3, c4, c5, c6, c7, c8, c9, c10, c11, c12, c15, c16), rfl, ⟨rfl, rfl⟩, by rw [ht]; exact hP9, va_K.moved hW.alike hK, hD9⟩, hS.F ht⟩) hS.2.2 dX2_readStatements_73
  have J62 : ∀ (k8 : Int32 → Int32 → Int32 → Int32 → Int32 → Int32 → Int32 → Int64 → Int32 → Int32 → Int32 → Int32 → (Nat → Int32) → (Nat → Int32) → (Nat → Int32) → (Nat → Int64) → (Nat → Int32) → (Nat → Int32) → (Nat → Int32) → (Nat → Int32) → (Nat → Int32) → (Nat → Int32) → (Nat → Int64) → (Nat → Int32) → Option (Int32 × Int32 × Int32 × Int64 × Int32 × Int32 × Int32 × Int32 × (Nat → Int32) × (Nat → Int32) × (Nat → Int32) × (Nat → Int64) × (Nat → Int32) × (Nat → Int32) × (Nat → Int32) × (Nat → Int32) × (Nat → Int32) × (Nat → Int32) × (Nat → Int64) × (Nat → Int32))) (hk8 : ∀ (y1 : Int32) (y2 : Int32) (y3 : Int32) (y4 : Int32) (y5 : Int32) (v1_token : Int32) (v1_tokenAt : Int32) (v1_name : Int64) (v1_fault : Int32) (v1_faultAt : Int32) (v1_next : Int32) (v2_statements : Int32) (c3 : (Nat → Int32)) (c4 : (Nat → Int32)) (c5 : (Nat → Int32)) (c6 : (Nat → Int64)) (c7 : (Nat → Int32)) (c8 : (Nat → Int32)) (c9 : (Nat → Int32)) (c10 : (Nat → Int32)) (c11 : (Nat → Int32)) (c12 : (Nat → Int32)) (c15 : (Nat → Int64)) (c16 : (Nat → Int32)) (H : Heap) (locs : List Loc) (ls : Array Slot), va_P (dC, dI) vwCl (wX2_readStatements h0 h1 h2 h3 h4 h5 h6 h7 h8 h9 h10 h11 h12 h13 h14 h15 h16 kc3 kc4 kc5 kc6 kc7 kc8 kc9 kc10 kc11 kc12 kc13 kc14 kc15 kc16 V0 V2 v0_locals v1_token v1_tokenAt v1_name v1_fault v1_faultAt v1_size v1_next v2_globals v2_procedures v2_statements c3 c4 c5 c6 c7 c8 c9 c10 c11 c12 c13 c14 c15 c16) H → va_D A (wX2_readStatements h0 h1 h2 h3 h4 h5 h6 h7 h8 h9 h10 h11 h12 h13 h14 h15 h16 kc3 kc4 kc5 kc6 kc7 kc8 kc9 kc10 kc11 kc12 kc13 kc14 kc15 kc16 V0 V2 v0_locals v1_token v1_tokenAt v1_name v1_fault v1_faultAt v1_size v1_next v2_globals v2_procedures v2_statements c3 c4 c5 c6 c7 c8 c9 c10 c11 c12 c13 c14 c15 c16) → va_S A s.heap H locs → lv_has ls 7 [(0, .ref h0), (1, .int y1), (2, .int y2), (3, .int y3), (4, .int y4), (5, .int y5)] → k8 y1 y2 y3 y4 y5 v1_token v1_tokenAt v1_name v1_fault v1_faultAt v1_next v2_statements c3 c4 c5 c6 c7 c8 c9 c10 c11 c12 c15 c16 = some o → G 0 0 H locs (F0 m 8 ls [])), ∀ (y1 : Int32) (y2 : Int32) (y3 : Int32) (y5 : Int32) (y6 : Int32) (v1_token : Int32) (v1_tokenAt : Int32) (v1_name : Int64) (v1_fault : Int32) (v1_faultAt : Int32) (v1_next : Int32) (v2_statements : Int32) (c3 : (Nat → Int32)) (c4 : (Nat → Int32)) (c5 : (Nat → Int32)) (c6 : (Nat → Int64)) (c7 : (Nat → Int32)) (c8 : (Nat → Int32)) (c9 : (Nat → Int32)) (c10 : (Nat → Int32)) (c11 : (Nat → Int32)) (c12 : (Nat → Int32)) (c15 : (Nat → Int64)) (c16 : (Nat → Int32)) (H : Heap) (locs : List Loc) (ls : Array Slot), va_P (dC, dI) vwCl (wX2_readStatements h0 h1 h2 h3 h4 h5 h6 h7 h8 h9 h10 h11 h12 h13 h14 h15 h16 kc3 kc4 kc5 kc6 kc7 kc8 kc9 kc10 kc11 kc12 kc13 kc14 kc15 kc16 V0 V2 v0_locals v1_token v1_tokenAt v1_name v1_fault v1_faultAt v1_size v1_next v2_globals v2_procedures v2_statements c3 c4 c5 c6 c7 c8 c9 c10 c11 c12 c13 c14 c15 c16) H → va_D A (wX2_readStatements h0 h1 h2 h3 h4 h5 h6 h7 h8 h9 h10 h11 h12 h13 h14 h15 h16 kc3 kc4 kc5 kc6 kc7 kc8 kc9 kc10 kc11 kc12 kc13 kc14 kc15 kc16 V0 V2 v0_locals v1_token v1_tokenAt v1_name v1_fault v1_faultAt v1_size v1_next v2_globals v2_procedures v2_statements c3 c4 c5 c6 c7 c8 c9 c10 c11 c12 c13 c14 c15 c16) → va_S A s.heap H locs → lv_has ls 7 [(0, .ref h0), (1, .int y1), (2, .int y2), (3, .int y3), (5, .int y5), (6, .int y6)] → fX2_readStatements_o_p62 kf_X2_readStatement v0_locals v1_size v2_globals v2_procedures c13 c14 k8 y1 y2 y3 y5 y6 v1_token v1_tokenAt v1_name v1_fault v1_faultAt v1_next v2_statements c3 c4 c5 c6 c7 c8 c9 c10 c11 c12 c15 c16 = some o → G 0 0 H locs (F0 m 62 ls []) := by
    intro k8 hk8 y1 y2 y3 y5 y6 v1_token v1_tokenAt v1_name v1_fault v1_faultAt v1_next v2_statements c3 c4 c5 c6 c7 c8 c9 c10 c11 c12 c15 c16 H locs ls hP hD hS hl hf
    refine (hG _ _ _ _ _).mpr ?_
    unfold fX2_readStatements_o_p62 at hf
    refine lv_iload hx hb dX2_readStatements_62 (lv_at hl 5 rfl) ?_
    refine lv_istore (lv' := [(4, .int y6), (0, .ref h0), (1, .int y1), (2, .int y2), (3, .int y3), (5, .int y5), (6, .int y6)]) hx hb dX2_readStatements_64 hl (by decide) rfl (fun ls hl => ?_)
    obtain ⟨x1, e1⟩ : ∃ y : Int32, y = y5 + 1 := ⟨_, rfl⟩
    replace hf := nm_at hf e1
    refine lv_iinc (v := x1) (lv' := [(5, .int x1), (4, .int y6), (0, .ref h0), (1, .int y1), (2, .int y2), (3, .int y3), (6, .int y6)]) hx hb dX2_readStatements_66 hl (k := 5) rfl (by rw [e1]; rfl) (by decide) rfl (fun ls hl => ?_)
    refine lv_goto (tgt := 8) hx hb dX2_readStatements_69 (by decide) ?_
    exact (hG _ _ _ _ _).mp (hk8 y1 y2 y3 y6 x1 v1_token v1_tokenAt v1_name v1_fault v1_faultAt v1_next v2_statements c3 c4 c5 c6 c7 c8 c9 c10 c11 c12 c15 c16 H locs ls (hP.sub [0, 1, 2, 3, 4, 5, 6, 7, 8, 9, 10, 11, 12, 13, 14, 15, 16] rfl) (hD.sub [0, 1, 2, 3, 4, 5, 6, 7, 8, 9, 10, 11, 12, 13, 14, 15, 16] (by decide) rfl) hS (lv_sub hl [2, 3, 4, 5, 1, 0] rfl) hf)
  have B8 : ∀ (k8 : Int32 → Int32 → Int32 → Int32 → Int32 → Int32 → Int32 → Int64 → Int32 → Int32 → Int32 → Int32 → (Nat → Int32) → (Nat → Int32) → (Nat → Int32) → (Nat → Int64) → (Nat → Int32) → (Nat → Int32) → (Nat → Int32) → (Nat → Int32) → (Nat → Int32) → (Nat → Int32) → (Nat → Int64) → (Nat → Int32) → Option (Int32 × Int32 × Int32 × Int64 × Int32 × Int32 × Int32 × Int32 × (Nat → Int32) × (Nat → Int32) × (Nat → Int32) × (Nat → Int64) × (Nat → Int32) × (Nat → Int32) × (Nat → Int32) × (Nat → Int32) × (Nat → Int32) × (Nat → Int32) × (Nat → Int64) × (Nat → Int32))) (hk8 : ∀ (y1 : Int32) (y2 : Int32) (y3 : Int32) (y4 : Int32) (y5 : Int32) (v1_token : Int32) (v1_tokenAt : Int32) (v1_name : Int64) (v1_fault : Int32) (v1_faultAt : Int32) (v1_next : Int32) (v2_statements : Int32) (c3 : (Nat → Int32)) (c4 : (Nat → Int32)) (c5 : (Nat → Int32)) (c6 : (Nat → Int64)) (c7 : (Nat → Int32)) (c8 : (Nat → Int32)) (c9 : (Nat → Int32)) (c10 : (Nat → Int32)) (c11 : (Nat → Int32)) (c12 : (Nat → Int32)) (c15 : (Nat → Int64)) (c16 : (Nat → Int32)) (H : Heap) (locs : List Loc) (ls : Array Slot), va_P (dC, dI) vwCl (wX2_readStatements h0 h1 h2 h3 h4 h5 h6 h7 h8 h9 h10 h11 h12 h13 h14 h15 h16 kc3 kc4 kc5 kc6 kc7 kc8 kc9 kc10 kc11 kc12 kc13 kc14 kc15 kc16 V0 V2 v0_locals v1_token v1_tokenAt v1_name v1_fault v1_faultAt v1_size v1_next v2_globals v2_procedures v2_statements c3 c4 c5 c6 c7 c8 c9 c10 c11 c12 c13 c14 c15 c16) H → va_D A (wX2_readStatements h0 h1 h2 h3 h4 h5 h6 h7 h8 h9 h10 h11 h12 h13 h14 h15 h16 kc3 kc4 kc5 kc6 kc7 kc8 kc9 kc10 kc11 kc12 kc13 kc14 kc15 kc16 V0 V2 v0_locals v1_token v1_tokenAt v1_name v1_fault v1_faultAt v1_size v1_next v2_globals v2_procedures v2_statements c3 c4 c5 c6 c7 c8 c9 c10 c11 c12 c13 c14 c15 c16) → va_S A s.heap H locs → lv_has ls 7 [(0, .ref h0), (1, .int y1), (2, .int y2), (3, .int y3), (4, .int y4), (5, .int y5)] → k8 y1 y2 y3 y4 y5 v1_token v1_tokenAt v1_name v1_fault v1_faultAt v1_next v2_statements c3 c4 c5 c6 c7 c8 c9 c10 c11 c12 c15 c16 = some o → G 0 0 H locs (F0 m 8 ls [])), ∀ (y1 : Int32) (y2 : Int32) (y3 : Int32) (y4 : Int32) (y5 : Int32) (v1_token : Int32) (v1_tokenAt : Int32) (v1_name : Int64) (v1_fault : Int32) (v1_faultAt : Int32) (v1_next : Int32) (v2_statements : Int32) (c3 : (Nat → Int32)) (c4 : (Nat → Int32)) (c5 : (Nat → Int32)) (c6 : (Nat → Int64)) (c7 : (Nat → Int32)) (c8 : (Nat → Int32)) (c9 : (Nat → Int32)) (c10 : (Nat → Int32)) (c11 : (Nat → Int32)) (c12 : (Nat → Int32)) (c15 : (Nat → Int64)) (c16 : (Nat → Int32)) (H : Heap) (locs : List Loc) (ls : Array Slot), va_P (dC, dI) vwCl (wX2_readStatements h0 h1 h2 h3 h4 h5 h6 h7 h8 h9 h10 h11 h12 h13 h14 h15 h16 kc3 kc4 kc5 kc6 kc7 kc8 kc9 kc10 kc11 kc12 kc13 kc14 kc15 kc16 V0 V2 v0_locals v1_token v1_tokenAt v1_name v1_fault v1_faultAt v1_size v1_next v2_globals v2_procedures v2_statements c3 c4 c5 c6 c7 c8 c9 c10 c11 c12 c13 c14 c15 c16) H → va_D A (wX2_readStatements h0 h1 h2 h3 h4 h5 h6 h7 h8 h9 h10 h11 h12 h13 h14 h15 h16 kc3 kc4 kc5 kc6 kc7 kc8 kc9 kc10 kc11 kc12 kc13 kc14 kc15 kc16 V0 V2 v0_locals v1_token v1_tokenAt v1_name v1_fault v1_faultAt v1_size v1_next v2_globals v2_procedures v2_statements c3 c4 c5 c6 c7 c8 c9 c10 c11 c12 c13 c14 c15 c16) → va_S A s.heap H locs → lv_has ls 7 [(0, .ref h0), (1, .int y1), (2, .int y2), (3, .int y3), (4, .int y4), (5, .int y5)] → fX2_readStatements_o_b8 kf_X2_readStatement v0_locals v1_size v2_globals v2_procedures c13 c14  k8 y1 y2 y3 y4 y5 v1_token v1_tokenAt v1_name v1_fault v1_faultAt v1_next v2_statements c3 c4 c5 c6 c7 c8 c9 c10 c11 c12 c15 c16 = some o → G 0 0 H locs (F0 m 8 ls []) := by
    intro  k8 hk8 y1 y2 y3 y4 y5 v1_token v1_tokenAt v1_name v1_fault v1_faultAt v1_next v2_statements c3 c4 c5 c6 c7 c8 c9 c10 c11 c12 c15 c16 H locs ls hP hD hS hl hf
    refine (hG _ _ _ _ _).mpr ?_
    unfold fX2_readStatements_o_b8 at hf
    refine lv_iload hx hb dX2_readStatements_8 (lv_at hl 5 rfl) ?_
    refine lv_bipush (v := 40) hx hb dX2_readStatements_10 (by decide +kernel) ?_
    refine lv_icmp_gt (tgt := 72) hx hb dX2_readStatements_12 (by decide) (fun cq2 => ?_) (fun cq2 => ?_)
    · replace hf := if_at hf cq2
      exact (hG _ _ _ _ _).mp (J72 y3 v1_token v1_tokenAt v1_name v1_fault v1_faultAt v1_next v2_statements c3 c4 c5 c6 c7 c8 c9 c10 c11 c12 c15 c16 H locs ls (hP.sub [0, 1, 2, 3, 4, 5, 6, 7, 8, 9, 10, 11, 12, 13, 14, 15, 16] rfl) (hD.sub [0, 1, 2, 3, 4, 5, 6, 7, 8, 9, 10, 11, 12, 13, 14, 15, 16] (by decide) rfl) hS (lv_sub hl [0, 3] rfl) hf)
    · replace hf := if_no hf cq2
      refine lv_aload_n hx hb dX2_readStatements_15 rfl (lv_at hl 0 rfl) ?_
      obtain ⟨o3, e3, hf⟩ := ob_some hf
      refine kVi (As := []) (rest := []) ⟨hx, hb, hml, hown, hts⟩ (mX2_beginsStatement l dC dI h0 h1 H.size base v1_token (fun k => match k with | 1 => .ref h2 | 2 => .ref h14 | 3 => .int v0_locals | 5 => .ref h15 | 6 => .ref h16 | k => V0 k) (fun k => match k with | 1 => .int v1_tokenAt | 2 => .long v1_name | 3 => .int v1_fault | 4 => .int v1_faultAt | 5 => .ref h13 | 6 => .int v1_size | 7 => .int v1_next | _ => .null) o3 e3) (cwV 0 hts (gTV q711 q712 q713 q27 q714) rfl rfl rfl (by decide +kernel) ⟨(by show 0 + 1 ≤ max ((F_X2_readStatement) + 1) 1; omega), (by show 8 + (1 + 11) + 0 ≤ max ((L_X2_readStatement) + 24) 24; omega)⟩) hK hP hD hS hA hE hAB [0, 1] [2, 3, 4, 5, 6, 7, 8, 9, 10, 11, 12, 13, 14, 15, 16] [] (wr := [(h2, .inr (3, [V2 0, .int v2_globals, .int v2_procedures, .int v2_statements, V2 4, .ref h3, .ref h4, .ref h5, .ref h6, .ref h7, .ref h8, V2 11, V2 12, .ref h9, .ref h10, .ref h11, .ref h12, V2 17])), (h3, .inl (kc3, 40, .inl c3)), (h4, .inl (kc4, 40, .inl c4)), (h5, .inl (kc5, 40, .inl c5)), (h6, .inl (kc6, 40, .inr (.inl c6))), (h7, .inl (kc7, 40, .inl c7)), (h8, .inl (kc8, 40, .inl c8)), (h9, .inl (kc9, 40, .inl c9)), (h10, .inl (kc10, 40, .inl c10)), (h11, .inl (kc11, 40, .inl c11)), (h12, .inl (kc12, 40, .inl c12)), (h13, .inl (kc13, 600, .inl c13)), (h14, .inl (kc14, 5, .inr (.inl c14))), (h15, .inl (kc15, 40, .inr (.inl c15))), (h16, .inl (kc16, 40, .inl c16))]) rfl rfl (by decide) (by decide) (by decide) rfl (ci := 2) (q0 := 0) rfl rfl rfl rfl hl.1 rfl (Nat.le_of_ble_eq_true rfl) dX2_readStatements_16 ⟨Nat.zero_le _, Nat.zero_le _⟩ (fun r3 u3 H locs hw3 hP hD hS => ?_)
      obtain ⟨hw31, hw32⟩ := hw3
      subst hw31 hw32
      have hP : va_P (dC, dI) vwCl (wX2_readStatements h0 h1 h2 h3 h4 h5 h6 h7 h8 h9 h10 h11 h12 h13 h14 h15 h16 kc3 kc4 kc5 kc6 kc7 kc8 kc9 kc10 kc11 kc12 kc13 kc14 kc15 kc16 V0 V2 v0_locals v1_token v1_tokenAt v1_name v1_fault v1_faultAt v1_size v1_next v2_globals v2_procedures v2_statements c3 c4 c5 c6 c7 c8 c9 c10 c11 c12 c13 c14 c15 c16) H := hP.sub [15, 16, 0, 1, 2, 3, 4, 5, 6, 7, 8, 9, 10, 11, 12, 13, 14] rfl
      have hD : va_D A (wX2_readStatements h0 h1 h2 h3 h4 h5 h6 h7 h8 h9 h10 h11 h12 h13 h14 h15 h16 kc3 kc4 kc5 kc6 kc7 kc8 kc9 kc10 kc11 kc12 kc13 kc14 kc15 kc16 V0 V2 v0_locals v1_token v1_tokenAt v1_name v1_fault v1_faultAt v1_size v1_next v2_globals v2_procedures v2_statements c3 c4 c5 c6 c7 c8 c9 c10 c11 c12 c13 c14 c15 c16) := hD.sub [15, 16, 0, 1, 2, 3, 4, 5, 6, 7, 8, 9, 10, 11, 12, 13, 14] (by decide) rfl
      refine lv_if_eq (tgt := 72) hx hb dX2_readStatements_19 (by decide) (fun cq4 => ?_) (fun cq4 => ?_)
      · replace hf := if_at hf cq4
        exact (hG _ _ _ _ _).mp (J72 y3 v1_token v1_tokenAt v1_name v1_fault v1_faultAt v1_next v2_statements c3 c4 c5 c6 c7 c8 c9 c10 c11 c12 c15 c16 H locs ls (hP.sub [0, 1, 2, 3, 4, 5, 6, 7, 8, 9, 10, 11, 12, 13, 14, 15, 16] rfl) (hD.sub [0, 1, 2, 3, 4, 5, 6, 7, 8, 9, 10, 11, 12, 13, 14, 15, 16] (by decide) rfl) hS (lv_sub hl [0, 3] rfl) hf)
      · replace hf := if_no hf cq4
        refine lv_aload_n hx hb dX2_readStatements_22 rfl (lv_at hl 0 rfl) ?_
        refine lv_iload_n hx hb dX2_readStatements_23 rfl (lv_at hl 1 rfl) ?_
        refine lv_iload_n hx hb dX2_readStatements_24 rfl (lv_at hl 2 rfl) ?_
        obtain ⟨o5, e5, hf⟩ := ob_some hf
        refine kVi (As := [.int y1, .int y2]) (rest := []) ⟨hx, hb, hml, hown, hts⟩ (hk_X2_readStatement l dC dI h0 h1 h2 h3 h4 h5 h6 h7 h8 h9 h10 h11 h12 h13 h14 h15 h16 kc3 kc4 kc5 kc6 kc7 kc8 kc9 kc10 kc11 kc12 kc13 kc14 kc15 kc16 H.size base y1 y2 v0_locals v1_token v1_tokenAt v1_name v1_fault v1_faultAt v1_size v1_next v2_globals v2_procedures v2_statements c3 c4 c5 c6 c7 c8 c9 c10 c11 c12 c13 c14 c15 c16 V0 V2 o5 e5) (cwV 2 hts (gTV q715 q716 q717 q27 q751) rfl rfl rfl (by decide +kernel) ⟨(by show F_X2_readStatement + 1 ≤ max ((F_X2_readStatement) + 1) 1; omega), (by show 8 + (5 + 11) + L_X2_readStatement ≤ max ((L_X2_readStatement) + 24) 24; omega)⟩) hK hP hD hS hA hE hAB [0, 1, 2, 3, 4, 5, 6, 7, 8, 9, 10, 11, 12, 13, 14, 15, 16] [] [0, 1, 2, 3, 4, 5, 6, 7, 8, 9, 10, 11, 12, 13] (wr := []) rfl rfl (by decide) (by decide) (by decide) rfl (ci := 2) (q0 := 0) rfl rfl rfl rfl hl.1 rfl (Nat.le_of_ble_eq_true rfl) dX2_readStatements_25 ⟨Nat.zero_le _, Nat.zero_le _⟩ (fun r5 u5 H locs hw5 hP hD hS => ?_)
        obtain ⟨hw51, hw52⟩ := hw5
        subst hw51 hw52
        have hP : va_P (dC, dI) vwCl (wX2_readStatements h0 h1 h2 h3 h4 h5 h6 h7 h8 h9 h10 h11 h12 h13 h14 h15 h16 kc3 kc4 kc5 kc6 kc7 kc8 kc9 kc10 kc11 kc12 kc13 kc14 kc15 kc16 V0 V2 v0_locals o5.2.1 o5.2.2.1 o5.2.2.2.1 o5.2.2.2.2.1 o5.2.2.2.2.2.1 v1_size o5.2.2.2.2.2.2.1 v2_globals v2_procedures o5.2.2.2.2.2.2.2.1 o5.2.2.2.2.2.2.2.2.1 o5.2.2.2.2.2.2.2.2.2.1 o5.2.2.2.2.2.2.2.2.2.2.1 o5.2.2.2.2.2.2.2.2.2.2.2.1 o5.2.2.2.2.2.2.2.2.2.2.2.2.1 o5.2.2.2.2.2.2.2.2.2.2.2.2.2.1 o5.2.2.2.2.2.2.2.2.2.2.2.2.2.2.1 o5.2.2.2.2.2.2.2.2.2.2.2.2.2.2.2.1 o5.2.2.2.2.2.2.2.2.2.2.2.2.2.2.2.2.1 o5.2.2.2.2.2.2.2.2.2.2.2.2.2.2.2.2.2.1 c13 c14 o5.2.2.2.2.2.2.2.2.2.2.2.2.2.2.2.2.2.2.1 o5.2.2.2.2.2.2.2.2.2.2.2.2.2.2.2.2.2.2.2) H := hP.sub [0, 1, 2, 3, 4, 5, 6, 7, 8, 9, 10, 11, 12, 13, 14, 15, 16] rfl
        have hD : va_D A (wX2_readStatements h0 h1 h2 h3 h4 h5 h6 h7 h8 h9 h10 h11 h12 h13 h14 h15 h16 kc3 kc4 kc5 kc6 kc7 kc8 kc9 kc10 kc11 kc12 kc13 kc14 kc15 kc16 V0 V2 v0_locals o5.2.1 o5.2.2.1 o5.2.2.2.1 o5.2.2.2.2.1 o5.2.2.2.2.2.1 v1_size o5.2.2.2.2.2.2.1 v2_globals v2_procedures o5.2.2.2.2.2.2.2.1 o5.2.2.2.2.2.2.2.2.1 o5.2.2.2.2.2.2.2.2.2.1 o5.2.2.2.2.2.2.2.2.2.2.1 o5.2.2.2.2.2.2.2.2.2.2.2.1 o5.2.2.2.2.2.2.2.2.2.2.2.2.1 o5.2.2.2.2.2.2.2.2.2.2.2.2.2.1 o5.2.2.2.2.2.2.2.2.2.2.2.2.2.2.1 o5.2.2.2.2.2.2.2.2.2.2.2.2.2.2.2.1 o5.2.2.2.2.2.2.2.2.2.2.2.2.2.2.2.2.1 o5.2.2.2.2.2.2.2.2.2.2.2.2.2.2.2.2.2.1 c13 c14 o5.2.2.2.2.2.2.2.2.2.2.2.2.2.2.2.2.2.2.1 o5.2.2.2.2.2.2.2.2.2.2.2.2.2.2.2.2.2.2.2) := hD.sub [0, 1, 2, 3, 4, 5, 6, 7, 8, 9, 10, 11, 12, 13, 14, 15, 16] (by decide) rfl
        refine lv_istore (lv' := [(6, .int o5.1), (0, .ref h0), (1, .int y1), (2, .int y2), (3, .int y3), (4, .int y4), (5, .int y5)]) hx hb dX2_readStatements_28 hl (by decide) rfl (fun ls hl => ?_)
        refine lv_iload hx hb dX2_readStatements_30 (lv_at hl 0 rfl) ?_
        refine lv_iconst (v := (-1)) hx hb dX2_readStatements_32 (by decide +kernel) ?_
        refine lv_icmp_ne (tgt := 38) hx hb dX2_readStatements_33 (by decide) (fun cq6 => ?_) (fun cq6 => ?_)
        · replace hf := if_no hf cq6
          refine lv_iload hx hb dX2_readStatements_38 (lv_at hl 5 rfl) ?_
          refine lv_iconst (v := (-1)) hx hb dX2_readStatements_40 (by decide +kernel) ?_
          refine lv_icmp_ne (tgt := 50) hx hb dX2_readStatements_41 (by decide) (fun cq7 => ?_) (fun cq7 => ?_)
          · replace hf := if_no hf cq7
            refine lv_aload_n hx hb dX2_readStatements_50 rfl (lv_at hl 1 rfl) ?_
            refine va_get (D := (dC, dI)) (ci := 2) (v := .ref h2) (C := RX2) (T := TX2) (N := 7) hx hb hts inlX2 hown hK hP 0 rfl rfl 1 (by decide) w0_ (fun _ h9 => h9) rfl dX2_readStatements_51 ?_
            refine va_get (D := (dC, dI)) (ci := 3) (v := .ref h10) (C := RX3) (T := TX3) (N := 18) hx hb hts inlX3 hown hK hP 2 rfl rfl 14 (by decide) w1_ (fun _ h9 => h9) rfl dX2_readStatements_54 ?_
            refine lv_iload hx hb dX2_readStatements_57 (lv_at hl 5 rfl) ?_
            refine lv_iload hx hb dX2_readStatements_59 (lv_at hl 0 rfl) ?_
            have b8 := bd_in hf
            replace hf := bd_k hf
            obtain ⟨c8x, e8⟩ : ∃ y, y = upd o5.2.2.2.2.2.2.2.2.2.2.2.2.2.2.2.1 y4.toNatClampNeg o5.1 := ⟨_, rfl⟩
            replace hf := nm_at hf e8
            refine va_iast hx hb hK hP hD hS 10 7 rfl rfl b8 dX2_readStatements_61 (fun H locs hP hD hS => ?_)
            have hP : va_P (dC, dI) vwCl (wX2_readStatements h0 h1 h2 h3 h4 h5 h6 h7 h8 h9 h10 h11 h12 h13 h14 h15 h16 kc3 kc4 kc5 kc6 kc7 kc8 kc9 kc10 kc11 kc12 kc13 kc14 kc15 kc16 V0 V2 v0_locals o5.2.1 o5.2.2.1 o5.2.2.2.1 o5.2.2.2.2.1 o5.2.2.2.2.2.1 v1_size o5.2.2.2.2.2.2.1 v2_globals v2_procedures o5.2.2.2.2.2.2.2.1 o5.2.2.2.2.2.2.2.2.1 o5.2.2.2.2.2.2.2.2.2.1 o5.2.2.2.2.2.2.2.2.2.2.1 o5.2.2.2.2.2.2.2.2.2.2.2.1 o5.2.2.2.2.2.2.2.2.2.2.2.2.1 o5.2.2.2.2.2.2.2.2.2.2.2.2.2.1 o5.2.2.2.2.2.2.2.2.2.2.2.2.2.2.1 c8x o5.2.2.2.2.2.2.2.2.2.2.2.2.2.2.2.2.1 o5.2.2.2.2.2.2.2.2.2.2.2.2.2.2.2.2.2.1 c13 c14 o5.2.2.2.2.2.2.2.2.2.2.2.2.2.2.2.2.2.2.1 o5.2.2.2.2.2.2.2.2.2.2.2.2.2.2.2.2.2.2.2) H := by rw [e8]; exact hP
            have hD : va_D A (wX2_readStatements h0 h1 h2 h3 h4 h5 h6 h7 h8 h9 h10 h11 h12 h13 h14 h15 h16 kc3 kc4 kc5 kc6 kc7 kc8 kc9 kc10 kc11 kc12 kc13 kc14 kc15 kc16 V0 V2 v0_locals o5.2.1 o5.2.2.1 o5.2.2.2.1 o5.2.2.2.2.1 o5.2.2.2.2.2.1 v1_size o5.2.2.2.2.2.2.1 v2_globals v2_procedures o5.2.2.2.2.2.2.2.1 o5.2.2.2.2.2.2.2.2.1 o5.2.2.2.2.2.2.2.2.2.1 o5.2.2.2.2.2.2.2.2.2.2.1 o5.2.2.2.2.2.2.2.2.2.2.2.1 o5.2.2.2.2.2.2.2.2.2.2.2.2.1 o5.2.2.2.2.2.2.2.2.2.2.2.2.2.1 o5.2.2.2.2.2.2.2.2.2.2.2.2.2.2.1 c8x o5.2.2.2.2.2.2.2.2.2.2.2.2.2.2.2.2.1 o5.2.2.2.2.2.2.2.2.2.2.2.2.2.2.2.2.2.1 c13 c14 o5.2.2.2.2.2.2.2.2.2.2.2.2.2.2.2.2.2.2.1 o5.2.2.2.2.2.2.2.2.2.2.2.2.2.2.2.2.2.2.2) := by rw [e8]; exact hD
            exact (hG _ _ _ _ _).mp (J62 k8 hk8 y1 y2 y3 y5 o5.1 o5.2.1 o5.2.2.1 o5.2.2.2.1 o5.2.2.2.2.1 o5.2.2.2.2.2.1 o5.2.2.2.2.2.2.1 o5.2.2.2.2.2.2.2.1 o5.2.2.2.2.2.2.2.2.1 o5.2.2.2.2.2.2.2.2.2.1 o5.2.2.2.2.2.2.2.2.2.2.1 o5.2.2.2.2.2.2.2.2.2.2.2.1 o5.2.2.2.2.2.2.2.2.2.2.2.2.1 o5.2.2.2.2.2.2.2.2.2.2.2.2.2.1 o5.2.2.2.2.2.2.2.2.2.2.2.2.2.2.1 c8x o5.2.2.2.2.2.2.2.2.2.2.2.2.2.2.2.2.1 o5.2.2.2.2.2.2.2.2.2.2.2.2.2.2.2.2.2.1 o5.2.2.2.2.2.2.2.2.2.2.2.2.2.2.2.2.2.2.1 o5.2.2.2.2.2.2.2.2.2.2.2.2.2.2.2.2.2.2.2 H locs ls (hP.sub [0, 1, 2, 3, 4, 5, 6, 7, 8, 9, 10, 11, 12, 13, 14, 15, 16] rfl) (hD.sub [0, 1, 2, 3, 4, 5, 6, 7, 8, 9, 10, 11, 12, 13, 14, 15, 16] (by decide) rfl) hS (lv_sub hl [1, 2, 3, 4, 6, 0] rfl) hf)
          · replace hf := if_at hf cq7
            refine lv_iload hx hb dX2_readStatements_44 (lv_at hl 0 rfl) ?_
            refine lv_istore_n (lv' := [(3, .int o5.1), (6, .int o5.1), (0, .ref h0), (1, .int y1), (2, .int y2), (4, .int y4), (5, .int y5)]) hx hb dX2_readStatements_46 rfl hl (by decide) rfl (fun ls hl => ?_)
            refine lv_goto (tgt := 62) hx hb dX2_readStatements_47 (by decide) ?_
            exact (hG _ _ _ _ _).mp (J62 k8 hk8 y1 y2 o5.1 y5 o5.1 o5.2.1 o5.2.2.1 o5.2.2.2.1 o5.2.2.2.2.1 o5.2.2.2.2.2.1 o5.2.2.2.2.2.2.1 o5.2.2.2.2.2.2.2.1 o5.2.2.2.2.2.2.2.2.1 o5.2.2.2.2.2.2.2.2.2.1 o5.2.2.2.2.2.2.2.2.2.2.1 o5.2.2.2.2.2.2.2.2.2.2.2.1 o5.2.2.2.2.2.2.2.2.2.2.2.2.1 o5.2.2.2.2.2.2.2.2.2.2.2.2.2.1 o5.2.2.2.2.2.2.2.2.2.2.2.2.2.2.1 o5.2.2.2.2.2.2.2.2.2.2.2.2.2.2.2.1 o5.2.2.2.2.2.2.2.2.2.2.2.2.2.2.2.2.1 o5.2.2.2.2.2.2.2.2.2.2.2.2.2.2.2.2.2.1 o5.2.2.2.2.2.2.2.2.2.2.2.2.2.2.2.2.2.2.1 o5.2.2.2.2.2.2.2.2.2.2.2.2.2.2.2.2.2.2.2 H locs ls (hP.sub [0, 1, 2, 3, 4, 5, 6, 7, 8, 9, 10, 11, 12, 13, 14, 15, 16] rfl) (hD.sub [0, 1, 2, 3, 4, 5, 6, 7, 8, 9, 10, 11, 12, 13, 14, 15, 16] (by decide) rfl) hS (lv_sub hl [2, 3, 4, 0, 6, 1] rfl) hf)
        · replace hf := if_at hf cq6
          refine lv_iload_n hx hb dX2_readStatements_36 rfl (lv_at hl 4 rfl) ?_
          have hf1 := Option.some.inj hf
          subst hf1
          have hP9 := hP.sub (ws' := (wX2_readStatements h0 h1 h2 h3 h4 h5 h6 h7 h8 h9 h10 h11 h12 h13 h14 h15 h16 kc3 kc4 kc5 kc6 kc7 kc8 kc9 kc10 kc11 kc12 kc13 kc14 kc15 kc16 V0 V2 v0_locals o5.2.1 o5.2.2.1 o5.2.2.2.1 o5.2.2.2.2.1 o5.2.2.2.2.2.1 v1_size o5.2.2.2.2.2.2.1 v2_globals v2_procedures o5.2.2.2.2.2.2.2.1 o5.2.2.2.2.2.2.2.2.1 o5.2.2.2.2.2.2.2.2.2.1 o5.2.2.2.2.2.2.2.2.2.2.1 o5.2.2.2.2.2.2.2.2.2.2.2.1 o5.2.2.2.2.2.2.2.2.2.2.2.2.1 o5.2.2.2.2.2.2.2.2.2.2.2.2.2.1 o5.2.2.2.2.2.2.2.2.2.2.2.2.2.2.1 o5.2.2.2.2.2.2.2.2.2.2.2.2.2.2.2.1 o5.2.2.2.2.2.2.2.2.2.2.2.2.2.2.2.2.1 o5.2.2.2.2.2.2.2.2.2.2.2.2.2.2.2.2.2.1 c13 c14 o5.2.2.2.2.2.2.2.2.2.2.2.2.2.2.2.2.2.2.1 o5.2.2.2.2.2.2.2.2.2.2.2.2.2.2.2.2.2.2.2)) [0, 1, 2, 3, 4, 5, 6, 7, 8, 9, 10, 11, 12, 13, 14, 15, 16] rfl
          have hD9 := hD.sub (ws' := (wX2_readStatements h0 h1 h2 h3 h4 h5 h6 h7 h8 h9 h10 h11 h12 h13 h14 h15 h16 kc3 kc4 kc5 kc6 kc7 kc8 kc9 kc10 kc11 kc12 kc13 kc14 kc15 kc16 V0 V2 v0_locals o5.2.1 o5.2.2.1 o5.2.2.2.1 o5.2.2.2.2.1 o5.2.2.2.2.2.1 v1_size o5.2.2.2.2.2.2.1 v2_globals v2_procedures o5.2.2.2.2.2.2.2.1 o5.2.2.2.2.2.2.2.2.1 o5.2.2.2.2.2.2.2.2.2.1 o5.2.2.2.2.2.2.2.2.2.2.1 o5.2.2.2.2.2.2.2.2.2.2.2.1 o5.2.2.2.2.2.2.2.2.2.2.2.2.1 o5.2.2.2.2.2.2.2.2.2.2.2.2.2.1 o5.2.2.2.2.2.2.2.2.2.2.2.2.2.2.1 o5.2.2.2.2.2.2.2.2.2.2.2.2.2.2.2.1 o5.2.2.2.2.2.2.2.2.2.2.2.2.2.2.2.2.1 o5.2.2.2.2.2.2.2.2.2.2.2.2.2.2.2.2.2.1 c13 c14 o5.2.2.2.2.2.2.2.2.2.2.2.2.2.2.2.2.2.2.1 o5.2.2.2.2.2.2.2.2.2.2.2.2.2.2.2.2.2.2.2)) [0, 1, 2, 3, 4, 5, 6, 7, 8, 9, 10, 11, 12, 13, 14, 15, 16] (by decide) rfl
          exact W.iret (v := y3) hx hb hr (fun t ht hW => ⟨⟨y3, (o5.2.1, o5.2.2.1, o5.2.2.2.1, o5.2.2.2.2.1, o5.2.2.2.2.2.1, o5.2.2.2.2.2.2.1, o5.2.2.2.2.2.2.2.1, o5.2.2.2.2.2.2.2.2.1, o5.2.2.2.2.2.2.2.2.2.1, o5.2.2.2.2.2.2.2.2.2.2.1, o5.2.2.2.2.2.2.2.2.2.2.2.1, o5.2.2.2.2.2.2.2.2.2.2.2.2.1, o5.2.2.2.2.2.2.2.2.2.2.2.2.2.1, o5.2.2.2.2.2.2.2.2.2.2.2.2.2.2.1, o5.2.2.2.2.2.2.2.2.2.2.2.2.2.2.2.1, o5.2.2.2.2.2.2.2.2.2.2.2.2.2.2.2.2.1, o5.2.2.2.2.2.2.2.2.2.2.2.2.2.2.2.2.2.1, o5.2.2.2.2.2.2.2.2.2.2.2.2.2.2.2.2.2.2.1, o5.2.2.2.2.2.2.2.2.2.2.2.2.2.2.2.2.2.2.2), rfl, ⟨rfl, rfl⟩, by rw [ht]; exact hP9, va_K.moved hW.alike hK, hD9⟩, hS.F ht⟩) hS.2.2 dX2_readStatements_37
  have L8 : ∀ (n : Nat), ∀ (y1 : Int32) (y2 : Int32) (y3 : Int32) (y4 : Int32) (y5 : Int32) (v1_token : Int32) (v1_tokenAt : Int32) (v1_name : Int64) (v1_fault : Int32) (v1_faultAt : Int32) (v1_next : Int32) (v2_statements : Int32) (c3 : (Nat → Int32)) (c4 : (Nat → Int32)) (c5 : (Nat → Int32)) (c6 : (Nat → Int64)) (c7 : (Nat → Int32)) (c8 : (Nat → Int32)) (c9 : (Nat → Int32)) (c10 : (Nat → Int32)) (c11 : (Nat → Int32)) (c12 : (Nat → Int32)) (c15 : (Nat → Int64)) (c16 : (Nat → Int32)) (H : Heap) (locs : List Loc) (ls : Array Slot), va_P (dC, dI) vwCl (wX2_readStatements h0 h1 h2 h3 h4 h5 h6 h7 h8 h9 h10 h11 h12 h13 h14 h15 h16 kc3 kc4 kc5 kc6 kc7 kc8 kc9 kc10 kc11 kc12 kc13 kc14 kc15 kc16 V0 V2 v0_locals v1_token v1_tokenAt v1_name v1_fault v1_faultAt v1_size v1_next v2_globals v2_procedures v2_statements c3 c4 c5 c6 c7 c8 c9 c10 c11 c12 c13 c14 c15 c16) H → va_D A (wX2_readStatements h0 h1 h2 h3 h4 h5 h6 h7 h8 h9 h10 h11 h12 h13 h14 h15 h16 kc3 kc4 kc5 kc6 kc7 kc8 kc9 kc10 kc11 kc12 kc13 kc14 kc15 kc16 V0 V2 v0_locals v1_token v1_tokenAt v1_name v1_fault v1_faultAt v1_size v1_next v2_globals v2_procedures v2_statements c3 c4 c5 c6 c7 c8 c9 c10 c11 c12 c13 c14 c15 c16) → va_S A s.heap H locs → lv_has ls 7 [(0, .ref h0), (1, .int y1), (2, .int y2), (3, .int y3), (4, .int y4), (5, .int y5)] → fX2_readStatements_o_l8 kf_X2_readStatement v0_locals v1_size v2_globals v2_procedures c13 c14  n y1 y2 y3 y4 y5 v1_token v1_tokenAt v1_name v1_fault v1_faultAt v1_next v2_statements c3 c4 c5 c6 c7 c8 c9 c10 c11 c12 c15 c16 = some o → G 0 0 H locs (F0 m 8 ls []) := by
    intro  n
    induction n with
    | zero => intro y1 y2 y3 y4 y5 v1_token v1_tokenAt v1_name v1_fault v1_faultAt v1_next v2_statements c3 c4 c5 c6 c7 c8 c9 c10 c11 c12 c15 c16 H locs ls _ _ _ _ hf; cases hf
    | succ n ih => exact B8  _ ih
  refine (hG _ _ _ _ _).mpr ?_
  obtain ⟨H, hH⟩ : ∃ H, H = s.heap := ⟨_, rfl⟩
  have hS : va_S A s.heap H [] := by rw [hH]; exact hS
  rw [← hH] at hP ⊢
  generalize ([] : List Loc) = locs at hS ⊢
  unfold fX2_readStatements_o at hf
  refine lv_iconst (v := (-1)) hx hb dX2_readStatements_0 (by decide +kernel) ?_
  refine lv_istore_n (lv' := [(3, .int (-1)), (0, .ref h0), (1, .int a0), (2, .int a1)]) hx hb dX2_readStatements_1 rfl hl (by decide) rfl (fun ls hl => ?_)
  refine lv_iconst (v := (-1)) hx hb dX2_readStatements_2 (by decide +kernel) ?_
  refine lv_istore (lv' := [(4, .int (-1)), (3, .int (-1)), (0, .ref h0), (1, .int a0), (2, .int a1)]) hx hb dX2_readStatements_3 hl (by decide) rfl (fun ls hl => ?_)
  refine lv_iconst (v := 0) hx hb dX2_readStatements_5 (by decide +kernel) ?_
  refine lv_istore (lv' := [(5, .int 0), (4, .int (-1)), (3, .int (-1)), (0, .ref h0), (1, .int a0), (2, .int a1)]) hx hb dX2_readStatements_6 hl (by decide) rfl (fun ls hl => ?_)
  exact (hG _ _ _ _ _).mp (L8 FU a0 a1 (-1) (-1) 0 v1_token v1_tokenAt v1_name v1_fault v1_faultAt v1_next v2_statements c3 c4 c5 c6 c7 c8 c9 c10 c11 c12 c15 c16 H locs ls (hP.sub [0, 1, 2, 3, 4, 5, 6, 7, 8, 9, 10, 11, 12, 13, 14, 15, 16] rfl) (hD.sub [0, 1, 2, 3, 4, 5, 6, 7, 8, 9, 10, 11, 12, 13, 14, 15, 16] (by decide) rfl) hS (lv_sub hl [3, 4, 5, 2, 1, 0] rfl) hf)
def rBF : Nat → Nat
  | 0 => 0
  | n + 1 => max ((max ((max ((max ((rBF n) + 1) 7) + 1) 55) + 1) 56) + 1) 1
def rBL : Nat → Nat
  | 0 => 0
  | n + 1 => max ((max ((max ((max ((rBL n) + 26) 154) + 23) 1328) + 22) 1350) + 24) 24
theorem rBF_s (n : Nat) : rBF (n + 1) = max ((max ((max ((max ((rBF n) + 1) 7) + 1) 55) + 1) 56) + 1) 1 := rfl
theorem rBL_s (n : Nat) : rBL (n + 1) = max ((max ((max ((max ((rBL n) + 26) 154) + 23) 1328) + 22) 1350) + 24) 24 := rfl
set_option maxRecDepth 100000 in
theorem mX2_readStatements_n (n : Nat) : KX2_readStatements (fX2_readStatements_n n) (rBF n) (rBL n) := by
  induction n with
  | zero => intro l dC dI h0 h1 h2 h3 h4 h5 h6 h7 h8 h9 h10 h11 h12 h13 h14 h15 h16 kc3 kc4 kc5 kc6 kc7 kc8 kc9 kc10 kc11 kc12 kc13 kc14 kc15 kc16 sz base a0 a1 v0_locals v1_token v1_tokenAt v1_name v1_fault v1_faultAt v1_size v1_next v2_globals v2_procedures v2_statements c3 c4 c5 c6 c7 c8 c9 c10 c11 c12 c13 c14 c15 c16 V0 V2 o hf; cases hf
  | succ n ih => rw [fX2_readStatements_n_s, rBF_s, rBL_s]; exact mX2_readStatements_o _ _ _ (mX2_readStatement_o _ _ _ (mX2_readBranch_o _ _ _ (mX2_readBlock_o _ _ _ ih)))
theorem rB_1 : rBF 12 = 101 := by decide +kernel
theorem rB_2 : rBL 12 = 2419 := by decide +kernel
set_option maxRecDepth 100000 in
theorem mX2_readStatements (l : Launch) (dC : Nat → ClassId) (dI : Nat → Nat → Nat) (h0 h1 h2 h3 h4 h5 h6 h7 h8 h9 h10 h11 h12 h13 h14 h15 h16 : Nat) (kc3 kc4 kc5 kc6 kc7 kc8 kc9 kc10 kc11 kc12 kc13 kc14 kc15 kc16 : ClassId) (sz : Nat) (base : Nat × Nat × Nat) (a0 : Int32) (a1 : Int32) (v0_locals : Int32) (v1_token : Int32) (v1_tokenAt : Int32) (v1_name : Int64) (v1_fault : Int32) (v1_faultAt : Int32) (v1_size : Int32) (v1_next : Int32) (v2_globals : Int32) (v2_procedures : Int32) (v2_statements : Int32) (c3 : Nat → Int32) (c4 : Nat → Int32) (c5 : Nat → Int32) (c6 : Nat → Int64) (c7 : Nat → Int32) (c8 : Nat → Int32) (c9 : Nat → Int32) (c10 : Nat → Int32) (c11 : Nat → Int32) (c12 : Nat → Int32) (c13 : Nat → Int32) (c14 : Nat → Int64) (c15 : Nat → Int64) (c16 : Nat → Int32) (V0 : Nat → Value) (V2 : Nat → Value) (o : Int32 × Int32 × Int32 × Int64 × Int32 × Int32 × Int32 × Int32 × (Nat → Int32) × (Nat → Int32) × (Nat → Int32) × (Nat → Int64) × (Nat → Int32) × (Nat → Int32) × (Nat → Int32) × (Nat → Int32) × (Nat → Int32) × (Nat → Int32) × (Nat → Int64) × (Nat → Int32)) (hf : fX2_readStatements a0 a1 v0_locals v1_token v1_tokenAt v1_name v1_fault v1_faultAt v1_size v1_next v2_globals v2_procedures v2_statements c3 c4 c5 c6 c7 c8 c9 c10 c11 c12 c13 c14 c15 c16 = some o) : Met l yX2_readStatements (.code yX2_readStatements cX2_readStatements 7 (some .int) :: wsL_law) ({ frames := 101, cells := 0, slots := 0, locals := 2419 }) (cPre (dC, dI) vwCl [.ref h0, .int a0, .int a1] sz base (wX2_readStatements h0 h1 h2 h3 h4 h5 h6 h7 h8 h9 h10 h11 h12 h13 h14 h15 h16 kc3 kc4 kc5 kc6 kc7 kc8 kc9 kc10 kc11 kc12 kc13 kc14 kc15 kc16 V0 V2 v0_locals v1_token v1_tokenAt v1_name v1_fault v1_faultAt v1_size v1_next v2_globals v2_procedures v2_statements c3 c4 c5 c6 c7 c8 c9 c10 c11 c12 c13 c14 c15 c16) [(kc3, .int), (kc4, .int), (kc5, .int), (kc6, .long), (kc7, .int), (kc8, .int), (kc9, .int), (kc10, .int), (kc11, .int), (kc12, .int), (kc13, .byte), (kc14, .long), (kc15, .long), (kc16, .int)]) (va_Qi (fun r u => r = o.1 ∧ u = o.2) (fun (u : Int32 × Int32 × Int64 × Int32 × Int32 × Int32 × Int32 × (Nat → Int32) × (Nat → Int32) × (Nat → Int32) × (Nat → Int64) × (Nat → Int32) × (Nat → Int32) × (Nat → Int32) × (Nat → Int32) × (Nat → Int32) × (Nat → Int32) × (Nat → Int64) × (Nat → Int32)) t => cPost (dC, dI) vwCl (va_A (wX2_readStatements h0 h1 h2 h3 h4 h5 h6 h7 h8 h9 h10 h11 h12 h13 h14 h15 h16 kc3 kc4 kc5 kc6 kc7 kc8 kc9 kc10 kc11 kc12 kc13 kc14 kc15 kc16 V0 V2 v0_locals v1_token v1_tokenAt v1_name v1_fault v1_faultAt v1_size v1_next v2_globals v2_procedures v2_statements c3 c4 c5 c6 c7 c8 c9 c10 c11 c12 c13 c14 c15 c16) sz) (wX2_readStatements h0 h1 h2 h3 h4 h5 h6 h7 h8 h9 h10 h11 h12 h13 h14 h15 h16 kc3 kc4 kc5 kc6 kc7 kc8 kc9 kc10 kc11 kc12 kc13 kc14 kc15 kc16 V0 V2 v0_locals u.1 u.2.1 u.2.2.1 u.2.2.2.1 u.2.2.2.2.1 v1_size u.2.2.2.2.2.1 v2_globals v2_procedures u.2.2.2.2.2.2.1 u.2.2.2.2.2.2.2.1 u.2.2.2.2.2.2.2.2.1 u.2.2.2.2.2.2.2.2.2.1 u.2.2.2.2.2.2.2.2.2.2.1 u.2.2.2.2.2.2.2.2.2.2.2.1 u.2.2.2.2.2.2.2.2.2.2.2.2.1 u.2.2.2.2.2.2.2.2.2.2.2.2.2.1 u.2.2.2.2.2.2.2.2.2.2.2.2.2.2.1 u.2.2.2.2.2.2.2.2.2.2.2.2.2.2.2.1 u.2.2.2.2.2.2.2.2.2.2.2.2.2.2.2.2.1 c13 c14 u.2.2.2.2.2.2.2.2.2.2.2.2.2.2.2.2.2.1 u.2.2.2.2.2.2.2.2.2.2.2.2.2.2.2.2.2.2) [(kc3, .int), (kc4, .int), (kc5, .int), (kc6, .long), (kc7, .int), (kc8, .int), (kc9, .int), (kc10, .int), (kc11, .int), (kc12, .int), (kc13, .byte), (kc14, .long), (kc15, .long), (kc16, .int)] t) (va_A (wX2_readStatements h0 h1 h2 h3 h4 h5 h6 h7 h8 h9 h10 h11 h12 h13 h14 h15 h16 kc3 kc4 kc5 kc6 kc7 kc8 kc9 kc10 kc11 kc12 kc13 kc14 kc15 kc16 V0 V2 v0_locals v1_token v1_tokenAt v1_name v1_fault v1_faultAt v1_size v1_next v2_globals v2_procedures v2_statements c3 c4 c5 c6 c7 c8 c9 c10 c11 c12 c13 c14 c15 c16) sz)) 0 0 (va_A (wX2_readStatements h0 h1 h2 h3 h4 h5 h6 h7 h8 h9 h10 h11 h12 h13 h14 h15 h16 kc3 kc4 kc5 kc6 kc7 kc8 kc9 kc10 kc11 kc12 kc13 kc14 kc15 kc16 V0 V2 v0_locals v1_token v1_tokenAt v1_name v1_fault v1_faultAt v1_size v1_next v2_globals v2_procedures v2_statements c3 c4 c5 c6 c7 c8 c9 c10 c11 c12 c13 c14 c15 c16) sz) := by
  have h := mX2_readStatements_n 12
  simp only [rB_1, rB_2] at h
  exact h l dC dI h0 h1 h2 h3 h4 h5 h6 h7 h8 h9 h10 h11 h12 h13 h14 h15 h16 kc3 kc4 kc5 kc6 kc7 kc8 kc9 kc10 kc11 kc12 kc13 kc14 kc15 kc16 sz base a0 a1 v0_locals v1_token v1_tokenAt v1_name v1_fault v1_faultAt v1_size v1_next v2_globals v2_procedures v2_statements c3 c4 c5 c6 c7 c8 c9 c10 c11 c12 c13 c14 c15 c16 V0 V2 o hf
abbrev wX2_readVariable (h0 h1 h2 h3 h4 : Nat) (kc3 kc4 : ClassId) (V0 : Nat → Value) (V2 : Nat → Value) (v0_locals : Int32) (v1_token : Int32) (v1_tokenAt : Int32) (v1_name : Int64) (v1_fault : Int32) (v1_faultAt : Int32) (v1_size : Int32) (v1_next : Int32) (v2_globals : Int32) (c3 : Nat → Int64) (c4 : Nat → Int32) : va_W := [(h0, .inr (2, [.ref h1, .ref h2, .ref h3, .int v0_locals, V0 4, V0 5, V0 6])), (h1, .inr (4, [.int v1_token, .int v1_tokenAt, .long v1_name, .int v1_fault, .int v1_faultAt, .ref h4, .int v1_size, .int v1_next])), (h2, .inr (3, [V2 0, .int v2_globals, V2 2, V2 3, V2 4, V2 5, V2 6, V2 7, V2 8, V2 9, V2 10, V2 11, V2 12, V2 13, V2 14, V2 15, V2 16, V2 17])), (h3, .inl (kc3, 5, .inr (.inl c3))), (h4, .inl (kc4, 600, .inl c4))]
set_option maxHeartbeats 4000000 in
set_option maxRecDepth 100000 in
theorem mX2_readVariable (l : Launch) (dC : Nat → ClassId) (dI : Nat → Nat → Nat) (h0 h1 h2 h3 h4 : Nat) (kc3 kc4 : ClassId) (sz : Nat) (base : Nat × Nat × Nat) (a0 : Int32) (v0_locals : Int32) (v1_token : Int32) (v1_tokenAt : Int32) (v1_name : Int64) (v1_fault : Int32) (v1_faultAt : Int32) (v1_size : Int32) (v1_next : Int32) (v2_globals : Int32) (c3 : Nat → Int64) (c4 : Nat → Int32) (V0 : Nat → Value) (V2 : Nat → Value) (o : Int32 × Int32 × Int32 × Int64 × Int32 × Int32 × Int32 × Int32 × (Nat → Int64)) (hf : fX2_readVariable a0 v0_locals v1_token v1_tokenAt v1_name v1_fault v1_faultAt v1_size v1_next v2_globals c3 c4 = some o) : Met l yX2_readVariable (.code yX2_readVariable cX2_readVariable 3 none :: wsL_law) ({ frames := 5, cells := 0, slots := 0, locals := 112 }) (cPre (dC, dI) vwCl [.ref h0, .int a0] sz base (wX2_readVariable h0 h1 h2 h3 h4 kc3 kc4 V0 V2 v0_locals v1_token v1_tokenAt v1_name v1_fault v1_faultAt v1_size v1_next v2_globals c3 c4) [(kc3, .long), (kc4, .byte)]) (va_Qv (fun u => u = o) (fun (u : Int32 × Int32 × Int32 × Int64 × Int32 × Int32 × Int32 × Int32 × (Nat → Int64)) t => cPost (dC, dI) vwCl (va_A (wX2_readVariable h0 h1 h2 h3 h4 kc3 kc4 V0 V2 v0_locals v1_token v1_tokenAt v1_name v1_fault v1_faultAt v1_size v1_next v2_globals c3 c4) sz) (wX2_readVariable h0 h1 h2 h3 h4 kc3 kc4 V0 V2 u.1 u.2.1 u.2.2.1 u.2.2.2.1 u.2.2.2.2.1 u.2.2.2.2.2.1 v1_size u.2.2.2.2.2.2.1 u.2.2.2.2.2.2.2.1 u.2.2.2.2.2.2.2.2 c4) [(kc3, .long), (kc4, .byte)] t) (va_A (wX2_readVariable h0 h1 h2 h3 h4 kc3 kc4 V0 V2 v0_locals v1_token v1_tokenAt v1_name v1_fault v1_faultAt v1_size v1_next v2_globals c3 c4) sz)) 0 0 (va_A (wX2_readVariable h0 h1 h2 h3 h4 kc3 kc4 V0 V2 v0_locals v1_token v1_tokenAt v1_name v1_fault v1_faultAt v1_size v1_next v2_globals c3 c4) sz) := by
  refine Met.ofW (cc := cX2_readVariable) (maxL := 3) (ret := none) (by decide) rfl ?_
  intro p e s m args below meth c s₁ B hml hv
  obtain ⟨rfl, hsz, hP, hK, hD0, hE⟩ := hv
  have hx := B.exec
  have hb := B.bytes
  have hr := B.returns
  have hts : ∀ w ∈ wsL_law, _ := fun w h => atoms_spec (ws := .code yX2_readVariable cX2_readVariable 3 none :: wsL_law) B.pre w (List.mem_cons_of_mem _ h)
  have hown : s.vm.findClass RX2 = some m.cls := findClass_of_methodNamed B.named
  have hlocks := B.notSynchronized
  have w0_ := hts _ q72
  have w1_ := hts _ q678
  have w2_ := hts _ q68
  have w3_ := hts _ q73
  have w4_ := hts _ q677
  have w5_ := hts _ q543
  have w6_ := hts _ q544
  subst hsz
  have hD := hD0.self (sz := s.heap.size)
  generalize hAe : va_A (wX2_readVariable h0 h1 h2 h3 h4 kc3 kc4 V0 V2 v0_locals v1_token v1_tokenAt v1_name v1_fault v1_faultAt v1_size v1_next v2_globals c3 c4) s.heap.size = A at hD ⊢
  have hA : ∀ q : Nat, s.heap.size ≤ q → A q := fun q h => by rw [← hAe]; exact Or.inr h
  have hAB : ∀ q : Nat, A q → base.1 ≤ q := fun q h => by rw [← hAe] at h; exact h.elim (fun ⟨k, e, hk⟩ => hD0.2 k _ hk) (fun hk => Nat.le_trans hE.1 hk)
  have hS : va_S A s.heap s.heap [] := va_S.rf
  have hl := lv_entry ([.ref h0, .int a0]) (n := 3) (Nat.le_of_ble_eq_true rfl)
  rw [lg_entry_eq]
  generalize (lg_sl ([.ref h0, .int a0]) ++ List.replicate (3 - (lg_sl ([.ref h0, .int a0])).length) Slot.unset).toArray = ls at hl ⊢
  have hl : lv_has ls 3 [(0, .ref h0), (1, .int a0)] := hl
  have hP : va_P (dC, dI) vwCl (wX2_readVariable h0 h1 h2 h3 h4 kc3 kc4 V0 V2 v0_locals v1_token v1_tokenAt v1_name v1_fault v1_faultAt v1_size v1_next v2_globals c3 c4) s.heap := hP
  refine gl_intro (fun G hG => ?_)
  have J78 : ∀ (v0_locals : Int32) (v1_token : Int32) (v1_tokenAt : Int32) (v1_name : Int64) (v1_fault : Int32) (v1_faultAt : Int32) (v1_next : Int32) (v2_globals : Int32) (c3 : (Nat → Int64)) (H : Heap) (locs : List Loc) (ls : Array Slot), va_P (dC, dI) vwCl (wX2_readVariable h0 h1 h2 h3 h4 kc3 kc4 V0 V2 v0_locals v1_token v1_tokenAt v1_name v1_fault v1_faultAt v1_size v1_next v2_globals c3 c4) H → va_D A (wX2_readVariable h0 h1 h2 h3 h4 kc3 kc4 V0 V2 v0_locals v1_token v1_tokenAt v1_name v1_fault v1_faultAt v1_size v1_next v2_globals c3 c4) → va_S A s.heap H locs → lv_has ls 3 [(0, .ref h0)] → fX2_readVariable_p78 v1_size c4  v0_locals v1_token v1_tokenAt v1_name v1_fault v1_faultAt v1_next v2_globals c3 = some o → G 0 0 H locs (F0 m 78 ls []) := by
    intro  v0_locals v1_token v1_tokenAt v1_name v1_fault v1_faultAt v1_next v2_globals c3 H locs ls hP hD hS hl hf
    refine (hG _ _ _ _ _).mpr ?_
    unfold fX2_readVariable_p78 at hf
    refine lv_aload_n hx hb dX2_readVariable_78 rfl (lv_at hl 0 rfl) ?_
    refine va_get (D := (dC, dI)) (ci := 2) (v := .ref h1) (C := RX2) (T := TX2) (N := 7) hx hb hts inlX2 hown hK hP 0 rfl rfl 0 (by decide) w0_ (fun _ h9 => h9) rfl dX2_readVariable_79 ?_
    refine lv_iconst (v := 3) hx hb dX2_readVariable_82 (by decide +kernel) ?_
    obtain ⟨o1, e1, hf⟩ := ob_some hf
    refine kVv (As := [.int 3]) (rest := []) ⟨hx, hb, hml, hown, hts⟩ (mX4_failHere l dC dI h1 H.size base 3 v1_token v1_tokenAt v1_fault v1_faultAt (fun k => match k with | 2 => .long v1_name | 5 => .ref h4 | 6 => .int v1_size | 7 => .int v1_next | _ => .null) o1 e1) (cwV 1 hts (gTV q679 q680 q681 q19 q682) rfl rfl rfl (by decide +kernel) ⟨Nat.le_of_ble_eq_true rfl, Nat.le_of_ble_eq_true rfl⟩) hK hP hD hS hA hE hAB [1] [0, 2, 3, 4] [] (wr := [(h0, .inr (2, [.ref h1, .ref h2, .ref h3, .int v0_locals, V0 4, V0 5, V0 6])), (h2, .inr (3, [V2 0, .int v2_globals, V2 2, V2 3, V2 4, V2 5, V2 6, V2 7, V2 8, V2 9, V2 10, V2 11, V2 12, V2 13, V2 14, V2 15, V2 16, V2 17])), (h3, .inl (kc3, 5, .inr (.inl c3))), (h4, .inl (kc4, 600, .inl c4))]) rfl rfl (by decide) (by decide) (by decide) rfl (ci := 4) (q0 := 0) rfl rfl rfl rfl hl.1 rfl (Nat.le_of_ble_eq_true rfl) dX2_readVariable_83 ⟨Nat.zero_le _, Nat.zero_le _⟩ (fun u1 H locs hw1 hP hD hS => ?_)
    have hw11 : o1 = u1 := Eq.symm hw1
    subst hw11
    have hP : va_P (dC, dI) vwCl (wX2_readVariable h0 h1 h2 h3 h4 kc3 kc4 V0 V2 v0_locals o1.1 v1_tokenAt v1_name o1.2.1 o1.2.2 v1_size v1_next v2_globals c3 c4) H := hP.sub [0, 4, 1, 2, 3] rfl
    have hD : va_D A (wX2_readVariable h0 h1 h2 h3 h4 kc3 kc4 V0 V2 v0_locals o1.1 v1_tokenAt v1_name o1.2.1 o1.2.2 v1_size v1_next v2_globals c3 c4) := hD.sub [0, 4, 1, 2, 3] (by decide) rfl
    have hf1 := Option.some.inj hf
    subst hf1
    have hP9 := hP.sub (ws' := (wX2_readVariable h0 h1 h2 h3 h4 kc3 kc4 V0 V2 v0_locals o1.1 v1_tokenAt v1_name o1.2.1 o1.2.2 v1_size v1_next v2_globals c3 c4)) [0, 1, 2, 3, 4] rfl
    have hD9 := hD.sub (ws' := (wX2_readVariable h0 h1 h2 h3 h4 kc3 kc4 V0 V2 v0_locals o1.1 v1_tokenAt v1_name o1.2.1 o1.2.2 v1_size v1_next v2_globals c3 c4)) [0, 1, 2, 3, 4] (by decide) rfl
    exact W.vret hx hb hr (fun t ht hW => ⟨⟨(v0_locals, o1.1, v1_tokenAt, v1_name, o1.2.1, o1.2.2, v1_next, v2_globals, c3), rfl, rfl, by rw [ht]; exact hP9, va_K.moved hW.alike hK, hD9⟩, hS.F ht⟩) hS.2.2 dX2_readVariable_86
  have J154 : ∀ (v0_locals : Int32) (v1_token : Int32) (v1_tokenAt : Int32) (v1_name : Int64) (v1_fault : Int32) (v1_faultAt : Int32) (v1_next : Int32) (v2_globals : Int32) (c3 : (Nat → Int64)) (H : Heap) (locs : List Loc) (ls : Array Slot), va_P (dC, dI) vwCl (wX2_readVariable h0 h1 h2 h3 h4 kc3 kc4 V0 V2 v0_locals v1_token v1_tokenAt v1_name v1_fault v1_faultAt v1_size v1_next v2_globals c3 c4) H → va_D A (wX2_readVariable h0 h1 h2 h3 h4 kc3 kc4 V0 V2 v0_locals v1_token v1_tokenAt v1_name v1_fault v1_faultAt v1_size v1_next v2_globals c3 c4) → va_S A s.heap H locs → lv_has ls 3 [(0, .ref h0)] → fX2_readVariable_p154 v1_size c4  v0_locals v1_token v1_tokenAt v1_name v1_fault v1_faultAt v1_next v2_globals c3 = some o → G 0 0 H locs (F0 m 154 ls []) := by
    intro  v0_locals v1_token v1_tokenAt v1_name v1_fault v1_faultAt v1_next v2_globals c3 H locs ls hP hD hS hl hf
    refine (hG _ _ _ _ _).mpr ?_
    unfold fX2_readVariable_p154 at hf
    refine lv_aload_n hx hb dX2_readVariable_154 rfl (lv_at hl 0 rfl) ?_
    refine va_get (D := (dC, dI)) (ci := 2) (v := .ref h1) (C := RX2) (T := TX2) (N := 7) hx hb hts inlX2 hown hK hP 0 rfl rfl 0 (by decide) w0_ (fun _ h9 => h9) rfl dX2_readVariable_155 ?_
    obtain ⟨o2, e2, hf⟩ := ob_some hf
    refine kVv (As := []) (rest := []) ⟨hx, hb, hml, hown, hts⟩ (mX4_advance l dC dI h1 h4 kc4 H.size base v1_token v1_tokenAt v1_name v1_fault v1_faultAt v1_size v1_next c4 o2 e2) (cwV 0 hts (gTV q672 q562 q563 q19 q564) rfl rfl rfl (by decide +kernel) ⟨Nat.le_of_ble_eq_true rfl, Nat.le_of_ble_eq_true rfl⟩) hK hP hD hS hA hE hAB [1, 4] [0, 2, 3] [1] (wr := [(h0, .inr (2, [.ref h1, .ref h2, .ref h3, .int v0_locals, V0 4, V0 5, V0 6])), (h2, .inr (3, [V2 0, .int v2_globals, V2 2, V2 3, V2 4, V2 5, V2 6, V2 7, V2 8, V2 9, V2 10, V2 11, V2 12, V2 13, V2 14, V2 15, V2 16, V2 17])), (h3, .inl (kc3, 5, .inr (.inl c3)))]) rfl rfl (by decide) (by decide) (by decide) rfl (ci := 4) (q0 := 0) rfl rfl rfl rfl hl.1 rfl (Nat.le_of_ble_eq_true rfl) dX2_readVariable_158 ⟨Nat.zero_le _, Nat.zero_le _⟩ (fun u2 H locs hw2 hP hD hS => ?_)
    have hw21 : o2 = u2 := Eq.symm hw2
    subst hw21
    have hP : va_P (dC, dI) vwCl (wX2_readVariable h0 h1 h2 h3 h4 kc3 kc4 V0 V2 v0_locals o2.1 o2.2.1 o2.2.2.1 o2.2.2.2.1 o2.2.2.2.2.1 v1_size o2.2.2.2.2.2 v2_globals c3 c4) H := hP.sub [0, 3, 1, 2, 4] rfl
    have hD : va_D A (wX2_readVariable h0 h1 h2 h3 h4 kc3 kc4 V0 V2 v0_locals o2.1 o2.2.1 o2.2.2.1 o2.2.2.2.1 o2.2.2.2.2.1 v1_size o2.2.2.2.2.2 v2_globals c3 c4) := hD.sub [0, 3, 1, 2, 4] (by decide) rfl
    have hf1 := Option.some.inj hf
    subst hf1
    have hP9 := hP.sub (ws' := (wX2_readVariable h0 h1 h2 h3 h4 kc3 kc4 V0 V2 v0_locals o2.1 o2.2.1 o2.2.2.1 o2.2.2.2.1 o2.2.2.2.2.1 v1_size o2.2.2.2.2.2 v2_globals c3 c4)) [0, 1, 2, 3, 4] rfl
    have hD9 := hD.sub (ws' := (wX2_readVariable h0 h1 h2 h3 h4 kc3 kc4 V0 V2 v0_locals o2.1 o2.2.1 o2.2.2.1 o2.2.2.2.1 o2.2.2.2.2.1 v1_size o2.2.2.2.2.2 v2_globals c3 c4)) [0, 1, 2, 3, 4] (by decide) rfl
    exact W.vret hx hb hr (fun t ht hW => ⟨⟨(v0_locals, o2.1, o2.2.1, o2.2.2.1, o2.2.2.2.1, o2.2.2.2.2.1, o2.2.2.2.2.2, v2_globals, c3), rfl, rfl, by rw [ht]; exact hP9, va_K.moved hW.alike hK, hD9⟩, hS.F ht⟩) hS.2.2 dX2_readVariable_161
  have J58 : ∀ (y1 : Int32) (z0 : Int32) (v0_locals : Int32) (v1_token : Int32) (v1_tokenAt : Int32) (v1_name : Int64) (v1_fault : Int32) (v1_faultAt : Int32) (v1_next : Int32) (v2_globals : Int32) (c3 : (Nat → Int64)) (H : Heap) (locs : List Loc) (ls : Array Slot), va_P (dC, dI) vwCl (wX2_readVariable h0 h1 h2 h3 h4 kc3 kc4 V0 V2 v0_locals v1_token v1_tokenAt v1_name v1_fault v1_faultAt v1_size v1_next v2_globals c3 c4) H → va_D A (wX2_readVariable h0 h1 h2 h3 h4 kc3 kc4 V0 V2 v0_locals v1_token v1_tokenAt v1_name v1_fault v1_faultAt v1_size v1_next v2_globals c3 c4) → va_S A s.heap H locs → lv_has ls 3 [(0, .ref h0), (1, .int y1)] → fX2_readVariable_p58 v1_size c4  y1 z0 v0_locals v1_token v1_tokenAt v1_name v1_fault v1_faultAt v1_next v2_globals c3 = some o → G 0 0 H locs (F0 m 58 ls [.int z0]) := by
    intro  y1 z0 v0_locals v1_token v1_tokenAt v1_name v1_fault v1_faultAt v1_next v2_globals c3 H locs ls hP hD hS hl hf
    refine (hG _ _ _ _ _).mpr ?_
    unfold fX2_readVariable_p58 at hf
    refine lv_istore_n (lv' := [(2, .int z0), (0, .ref h0), (1, .int y1)]) hx hb dX2_readVariable_58 rfl hl (by decide) rfl (fun ls hl => ?_)
    refine lv_iload_n hx hb dX2_readVariable_59 rfl (lv_at hl 0 rfl) ?_
    refine lv_if_ne (tgt := 78) hx hb dX2_readVariable_60 (by decide) (fun cq3 => ?_) (fun cq3 => ?_)
    · replace hf := if_no hf cq3
      exact (hG _ _ _ _ _).mp (J78 v0_locals v1_token v1_tokenAt v1_name v1_fault v1_faultAt v1_next v2_globals c3 H locs ls (hP.sub [0, 1, 2, 3, 4] rfl) (hD.sub [0, 1, 2, 3, 4] (by decide) rfl) hS (lv_sub hl [1] rfl) hf)
    · replace hf := if_at hf cq3
      refine lv_aload_n hx hb dX2_readVariable_63 rfl (lv_at hl 1 rfl) ?_
      refine lv_aload_n hx hb dX2_readVariable_64 rfl (lv_at hl 1 rfl) ?_
      refine va_get (D := (dC, dI)) (ci := 2) (v := .ref h1) (C := RX2) (T := TX2) (N := 7) hx hb hts inlX2 hown hK hP 0 rfl rfl 0 (by decide) w0_ (fun _ h9 => h9) rfl dX2_readVariable_65 ?_
      refine va_get (D := (dC, dI)) (ci := 4) (v := .long v1_name) (C := RX4) (T := TX4) (N := 8) hx hb hts inlX4 hown hK hP 1 rfl rfl 2 (by decide) w1_ (fun _ h9 => h9) rfl dX2_readVariable_68 ?_
      obtain ⟨o4, e4, hf⟩ := ob_some hf
      refine kVi (As := [.long v1_name]) (rest := []) ⟨hx, hb, hml, hown, hts⟩ (mX2_findVariable l dC dI h0 h2 h3 kc3 H.size base v1_name v0_locals v2_globals c3 (fun k => match k with | 0 => .ref h1 | k => V0 k) V2 o4 e4) (cwV 1 hts (gTV q683 q684 q685 q27 q686) rfl rfl rfl (by decide +kernel) ⟨Nat.le_of_ble_eq_true rfl, Nat.le_of_ble_eq_true rfl⟩) hK hP hD hS hA hE hAB [0, 2, 3] [1, 4] [0] (wr := [(h1, .inr (4, [.int v1_token, .int v1_tokenAt, .long v1_name, .int v1_fault, .int v1_faultAt, .ref h4, .int v1_size, .int v1_next])), (h4, .inl (kc4, 600, .inl c4))]) rfl rfl (by decide) (by decide) (by decide) rfl (ci := 2) (q0 := 0) rfl rfl rfl rfl hl.1 rfl (Nat.le_of_ble_eq_true rfl) dX2_readVariable_71 ⟨Nat.zero_le _, Nat.zero_le _⟩ (fun r4 u4 H locs hw4 hP hD hS => ?_)
      obtain ⟨hw41, hw42⟩ := hw4
      subst hw41 hw42
      have hP : va_P (dC, dI) vwCl (wX2_readVariable h0 h1 h2 h3 h4 kc3 kc4 V0 V2 v0_locals v1_token v1_tokenAt v1_name v1_fault v1_faultAt v1_size v1_next v2_globals c3 c4) H := hP.sub [2, 0, 3, 4, 1] rfl
      have hD : va_D A (wX2_readVariable h0 h1 h2 h3 h4 kc3 kc4 V0 V2 v0_locals v1_token v1_tokenAt v1_name v1_fault v1_faultAt v1_size v1_next v2_globals c3 c4) := hD.sub [2, 0, 3, 4, 1] (by decide) rfl
      refine lv_iconst (v := (-1)) hx hb dX2_readVariable_74 (by decide +kernel) ?_
      refine lv_icmp_eq (tgt := 87) hx hb dX2_readVariable_75 (by decide) (fun cq5 => ?_) (fun cq5 => ?_)
      · replace hf := if_at hf cq5
        refine lv_iload_n hx hb dX2_readVariable_87 rfl (lv_at hl 2 rfl) ?_
        refine lv_if_eq (tgt := 122) hx hb dX2_readVariable_88 (by decide) (fun cq6 => ?_) (fun cq6 => ?_)
        · replace hf := if_at hf cq6
          refine lv_aload_n hx hb dX2_readVariable_122 rfl (lv_at hl 1 rfl) ?_
          refine va_get (D := (dC, dI)) (ci := 2) (v := .ref h3) (C := RX2) (T := TX2) (N := 7) hx hb hts inlX2 hown hK hP 0 rfl rfl 2 (by decide) w2_ (fun _ h9 => h9) rfl dX2_readVariable_123 ?_
          refine lv_aload_n hx hb dX2_readVariable_126 rfl (lv_at hl 1 rfl) ?_
          refine va_get (D := (dC, dI)) (ci := 2) (v := .ref h2) (C := RX2) (T := TX2) (N := 7) hx hb hts inlX2 hown hK hP 0 rfl rfl 1 (by decide) w3_ (fun _ h9 => h9) rfl dX2_readVariable_127 ?_
          refine va_get (D := (dC, dI)) (ci := 3) (v := .int v2_globals) (C := RX3) (T := TX3) (N := 18) hx hb hts inlX3 hown hK hP 2 rfl rfl 1 (by decide) w4_ (fun _ h9 => h9) rfl dX2_readVariable_130 ?_
          refine lv_aload_n hx hb dX2_readVariable_133 rfl (lv_at hl 1 rfl) ?_
          refine va_get (D := (dC, dI)) (ci := 2) (v := .ref h1) (C := RX2) (T := TX2) (N := 7) hx hb hts inlX2 hown hK hP 0 rfl rfl 0 (by decide) w0_ (fun _ h9 => h9) rfl dX2_readVariable_134 ?_
          refine va_get (D := (dC, dI)) (ci := 4) (v := .long v1_name) (C := RX4) (T := TX4) (N := 8) hx hb hts inlX4 hown hK hP 1 rfl rfl 2 (by decide) w1_ (fun _ h9 => h9) rfl dX2_readVariable_137 ?_
          have b7 := bd_in hf
          replace hf := bd_k hf
          obtain ⟨c7x, e7⟩ : ∃ y, y = vp_updL c3 v2_globals.toNatClampNeg v1_name := ⟨_, rfl⟩
          replace hf := nm_at hf e7
          refine va_last hx hb hK hP hD hS 3 0 rfl rfl b7 dX2_readVariable_140 (fun H locs hP hD hS => ?_)
          have hP : va_P (dC, dI) vwCl (wX2_readVariable h0 h1 h2 h3 h4 kc3 kc4 V0 V2 v0_locals v1_token v1_tokenAt v1_name v1_fault v1_faultAt v1_size v1_next v2_globals c7x c4) H := by rw [e7]; exact hP
          have hD : va_D A (wX2_readVariable h0 h1 h2 h3 h4 kc3 kc4 V0 V2 v0_locals v1_token v1_tokenAt v1_name v1_fault v1_faultAt v1_size v1_next v2_globals c7x c4) := by rw [e7]; exact hD
          refine lv_aload_n hx hb dX2_readVariable_141 rfl (lv_at hl 1 rfl) ?_
          refine va_get (D := (dC, dI)) (ci := 2) (v := .ref h2) (C := RX2) (T := TX2) (N := 7) hx hb hts inlX2 hown hK hP 0 rfl rfl 1 (by decide) w3_ (fun _ h9 => h9) rfl dX2_readVariable_142 ?_
          refine lv_dup hx hb dX2_readVariable_145 rfl ?_
          refine va_get (D := (dC, dI)) (ci := 3) (v := .int v2_globals) (C := RX3) (T := TX3) (N := 18) hx hb hts inlX3 hown hK hP 2 rfl rfl 1 (by decide) w4_ (fun _ h9 => h9) rfl dX2_readVariable_146 ?_
          refine lv_iconst (v := 1) hx hb dX2_readVariable_149 (by decide +kernel) ?_
          refine lv_iadd hx hb dX2_readVariable_150 ?_
          refine lv_topi (fun x8 e8 => ?_)
          replace hf := nm_at hf e8
          refine va_put (D := (dC, dI)) (ci := 3) (v := .int x8) (ty := .int) (C := RX3) (T := TX3) (N := 18) hx hb hts inlX3 tyX3 tyX3_ok nmX3 hown hK hP hD hS 2 rfl rfl 1 (by decide) w4_ (fun _ h9 => h9) rfl (by decide +kernel) rfl rfl (Nat.le_of_ble_eq_true rfl) dX2_readVariable_151 (fun H locs hP hD hS => ?_)
          have hP : va_P (dC, dI) vwCl (wX2_readVariable h0 h1 h2 h3 h4 kc3 kc4 V0 V2 v0_locals v1_token v1_tokenAt v1_name v1_fault v1_faultAt v1_size v1_next x8 c7x c4) H := hP
          have hD : va_D A (wX2_readVariable h0 h1 h2 h3 h4 kc3 kc4 V0 V2 v0_locals v1_token v1_tokenAt v1_name v1_fault v1_faultAt v1_size v1_next x8 c7x c4) := hD
          exact (hG _ _ _ _ _).mp (J154 v0_locals v1_token v1_tokenAt v1_name v1_fault v1_faultAt v1_next x8 c7x H locs ls (hP.sub [0, 1, 2, 3, 4] rfl) (hD.sub [0, 1, 2, 3, 4] (by decide) rfl) hS (lv_sub hl [1] rfl) hf)
        · replace hf := if_no hf cq6
          refine lv_aload_n hx hb dX2_readVariable_91 rfl (lv_at hl 1 rfl) ?_
          refine va_get (D := (dC, dI)) (ci := 2) (v := .ref h3) (C := RX2) (T := TX2) (N := 7) hx hb hts inlX2 hown hK hP 0 rfl rfl 2 (by decide) w2_ (fun _ h9 => h9) rfl dX2_readVariable_92 ?_
          refine lv_iconst (v := 3) hx hb dX2_readVariable_95 (by decide +kernel) ?_
          refine lv_aload_n hx hb dX2_readVariable_96 rfl (lv_at hl 1 rfl) ?_
          refine va_get (D := (dC, dI)) (ci := 2) (v := .int v0_locals) (C := RX2) (T := TX2) (N := 7) hx hb hts inlX2 hown hK hP 0 rfl rfl 3 (by decide) w5_ (fun _ h9 => h9) rfl dX2_readVariable_97 ?_
          refine lv_iadd hx hb dX2_readVariable_100 ?_
          refine lv_topi (fun x9 e9 => ?_)
          replace hf := nm_at hf e9
          refine lv_aload_n hx hb dX2_readVariable_101 rfl (lv_at hl 1 rfl) ?_
          refine va_get (D := (dC, dI)) (ci := 2) (v := .ref h1) (C := RX2) (T := TX2) (N := 7) hx hb hts inlX2 hown hK hP 0 rfl rfl 0 (by decide) w0_ (fun _ h9 => h9) rfl dX2_readVariable_102 ?_
          refine va_get (D := (dC, dI)) (ci := 4) (v := .long v1_name) (C := RX4) (T := TX4) (N := 8) hx hb hts inlX4 hown hK hP 1 rfl rfl 2 (by decide) w1_ (fun _ h9 => h9) rfl dX2_readVariable_105 ?_
          have b10 := bd_in hf
          replace hf := bd_k hf
          obtain ⟨c10x, e10⟩ : ∃ y, y = vp_updL c3 x9.toNatClampNeg v1_name := ⟨_, rfl⟩
          replace hf := nm_at hf e10
          refine va_last hx hb hK hP hD hS 3 0 rfl rfl b10 dX2_readVariable_108 (fun H locs hP hD hS => ?_)
          have hP : va_P (dC, dI) vwCl (wX2_readVariable h0 h1 h2 h3 h4 kc3 kc4 V0 V2 v0_locals v1_token v1_tokenAt v1_name v1_fault v1_faultAt v1_size v1_next v2_globals c10x c4) H := by rw [e10]; exact hP
          have hD : va_D A (wX2_readVariable h0 h1 h2 h3 h4 kc3 kc4 V0 V2 v0_locals v1_token v1_tokenAt v1_name v1_fault v1_faultAt v1_size v1_next v2_globals c10x c4) := by rw [e10]; exact hD
          refine lv_aload_n hx hb dX2_readVariable_109 rfl (lv_at hl 1 rfl) ?_
          refine lv_dup hx hb dX2_readVariable_110 rfl ?_
          refine va_get (D := (dC, dI)) (ci := 2) (v := .int v0_locals) (C := RX2) (T := TX2) (N := 7) hx hb hts inlX2 hown hK hP 0 rfl rfl 3 (by decide) w5_ (fun _ h9 => h9) rfl dX2_readVariable_111 ?_
          refine lv_iconst (v := 1) hx hb dX2_readVariable_114 (by decide +kernel) ?_
          refine lv_iadd hx hb dX2_readVariable_115 ?_
          refine lv_topi (fun x11 e11 => ?_)
          replace hf := nm_at hf e11
          refine va_put (D := (dC, dI)) (ci := 2) (v := .int x11) (ty := .int) (C := RX2) (T := TX2) (N := 7) hx hb hts inlX2 tyX2 tyX2_ok nmX2 hown hK hP hD hS 0 rfl rfl 3 (by decide) w5_ (fun _ h9 => h9) rfl (by decide +kernel) rfl rfl (Nat.le_of_ble_eq_true rfl) dX2_readVariable_116 (fun H locs hP hD hS => ?_)
          have hP : va_P (dC, dI) vwCl (wX2_readVariable h0 h1 h2 h3 h4 kc3 kc4 V0 V2 x11 v1_token v1_tokenAt v1_name v1_fault v1_faultAt v1_size v1_next v2_globals c10x c4) H := hP
          have hD : va_D A (wX2_readVariable h0 h1 h2 h3 h4 kc3 kc4 V0 V2 x11 v1_token v1_tokenAt v1_name v1_fault v1_faultAt v1_size v1_next v2_globals c10x c4) := hD
          refine lv_goto (tgt := 154) hx hb dX2_readVariable_119 (by decide) ?_
          exact (hG _ _ _ _ _).mp (J154 x11 v1_token v1_tokenAt v1_name v1_fault v1_faultAt v1_next v2_globals c10x H locs ls (hP.sub [0, 1, 2, 3, 4] rfl) (hD.sub [0, 1, 2, 3, 4] (by decide) rfl) hS (lv_sub hl [1] rfl) hf)
      · replace hf := if_no hf cq5
        exact (hG _ _ _ _ _).mp (J78 v0_locals v1_token v1_tokenAt v1_name v1_fault v1_faultAt v1_next v2_globals c3 H locs ls (hP.sub [0, 1, 2, 3, 4] rfl) (hD.sub [0, 1, 2, 3, 4] (by decide) rfl) hS (lv_sub hl [1] rfl) hf)
  refine (hG _ _ _ _ _).mpr ?_
  obtain ⟨H, hH⟩ : ∃ H, H = s.heap := ⟨_, rfl⟩
  have hS : va_S A s.heap H [] := by rw [hH]; exact hS
  rw [← hH] at hP ⊢
  generalize ([] : List Loc) = locs at hS ⊢
  unfold fX2_readVariable at hf
  refine lv_aload_n hx hb dX2_readVariable_0 rfl (lv_at hl 0 rfl) ?_
  refine va_get (D := (dC, dI)) (ci := 2) (v := .ref h1) (C := RX2) (T := TX2) (N := 7) hx hb hts inlX2 hown hK hP 0 rfl rfl 0 (by decide) w0_ (fun _ h9 => h9) rfl dX2_readVariable_1 ?_
  refine va_get (D := (dC, dI)) (ci := 4) (v := .int v1_token) (C := RX4) (T := TX4) (N := 8) hx hb hts inlX4 hown hK hP 1 rfl rfl 0 (by decide) w6_ (fun _ h9 => h9) rfl dX2_readVariable_4 ?_
  refine lv_sipush (v := 258) hx hb dX2_readVariable_7 (by decide +kernel) ?_
  refine lv_icmp_eq (tgt := 22) hx hb dX2_readVariable_10 (by decide) (fun cq12 => ?_) (fun cq12 => ?_)
  · replace hf := if_at hf cq12
    refine lv_iload_n hx hb dX2_readVariable_22 rfl (lv_at hl 1 rfl) ?_
    refine lv_if_eq (tgt := 42) hx hb dX2_readVariable_23 (by decide) (fun cq13 => ?_) (fun cq13 => ?_)
    · replace hf := if_at hf cq13
      refine lv_aload_n hx hb dX2_readVariable_42 rfl (lv_at hl 0 rfl) ?_
      refine va_get (D := (dC, dI)) (ci := 2) (v := .ref h2) (C := RX2) (T := TX2) (N := 7) hx hb hts inlX2 hown hK hP 0 rfl rfl 1 (by decide) w3_ (fun _ h9 => h9) rfl dX2_readVariable_43 ?_
      refine va_get (D := (dC, dI)) (ci := 3) (v := .int v2_globals) (C := RX3) (T := TX3) (N := 18) hx hb hts inlX3 hown hK hP 2 rfl rfl 1 (by decide) w4_ (fun _ h9 => h9) rfl dX2_readVariable_46 ?_
      refine lv_iconst (v := 3) hx hb dX2_readVariable_49 (by decide +kernel) ?_
      refine lv_icmp_lt (tgt := 57) hx hb dX2_readVariable_50 (by decide) (fun cq14 => ?_) (fun cq14 => ?_)
      · replace hf := if_at hf cq14
        refine lv_iconst (v := 0) hx hb dX2_readVariable_57 (by decide +kernel) ?_
        exact (hG _ _ _ _ _).mp (J58 a0 0 v0_locals v1_token v1_tokenAt v1_name v1_fault v1_faultAt v1_next v2_globals c3 H locs ls (hP.sub [0, 1, 2, 3, 4] rfl) (hD.sub [0, 1, 2, 3, 4] (by decide) rfl) hS (lv_sub hl [0, 1] rfl) hf)
      · replace hf := if_no hf cq14
        refine lv_iconst (v := 1) hx hb dX2_readVariable_53 (by decide +kernel) ?_
        refine lv_goto (tgt := 58) hx hb dX2_readVariable_54 (by decide) ?_
        exact (hG _ _ _ _ _).mp (J58 a0 1 v0_locals v1_token v1_tokenAt v1_name v1_fault v1_faultAt v1_next v2_globals c3 H locs ls (hP.sub [0, 1, 2, 3, 4] rfl) (hD.sub [0, 1, 2, 3, 4] (by decide) rfl) hS (lv_sub hl [0, 1] rfl) hf)
    · replace hf := if_no hf cq13
      refine lv_aload_n hx hb dX2_readVariable_26 rfl (lv_at hl 0 rfl) ?_
      refine va_get (D := (dC, dI)) (ci := 2) (v := .int v0_locals) (C := RX2) (T := TX2) (N := 7) hx hb hts inlX2 hown hK hP 0 rfl rfl 3 (by decide) w5_ (fun _ h9 => h9) rfl dX2_readVariable_27 ?_
      refine lv_iconst (v := 2) hx hb dX2_readVariable_30 (by decide +kernel) ?_
      refine lv_icmp_lt (tgt := 38) hx hb dX2_readVariable_31 (by decide) (fun cq15 => ?_) (fun cq15 => ?_)
      · replace hf := if_at hf cq15
        refine lv_iconst (v := 0) hx hb dX2_readVariable_38 (by decide +kernel) ?_
        refine lv_goto (tgt := 58) hx hb dX2_readVariable_39 (by decide) ?_
        exact (hG _ _ _ _ _).mp (J58 a0 0 v0_locals v1_token v1_tokenAt v1_name v1_fault v1_faultAt v1_next v2_globals c3 H locs ls (hP.sub [0, 1, 2, 3, 4] rfl) (hD.sub [0, 1, 2, 3, 4] (by decide) rfl) hS (lv_sub hl [0, 1] rfl) hf)
      · replace hf := if_no hf cq15
        refine lv_iconst (v := 1) hx hb dX2_readVariable_34 (by decide +kernel) ?_
        refine lv_goto (tgt := 58) hx hb dX2_readVariable_35 (by decide) ?_
        exact (hG _ _ _ _ _).mp (J58 a0 1 v0_locals v1_token v1_tokenAt v1_name v1_fault v1_faultAt v1_next v2_globals c3 H locs ls (hP.sub [0, 1, 2, 3, 4] rfl) (hD.sub [0, 1, 2, 3, 4] (by decide) rfl) hS (lv_sub hl [0, 1] rfl) hf)
  · replace hf := if_no hf cq12
    refine lv_aload_n hx hb dX2_readVariable_13 rfl (lv_at hl 0 rfl) ?_
    refine va_get (D := (dC, dI)) (ci := 2) (v := .ref h1) (C := RX2) (T := TX2) (N := 7) hx hb hts inlX2 hown hK hP 0 rfl rfl 0 (by decide) w0_ (fun _ h9 => h9) rfl dX2_readVariable_14 ?_
    refine lv_iconst (v := 2) hx hb dX2_readVariable_17 (by decide +kernel) ?_
    obtain ⟨o16, e16, hf⟩ := ob_some hf
    refine kVv (As := [.int 2]) (rest := []) ⟨hx, hb, hml, hown, hts⟩ (mX4_failHere l dC dI h1 H.size base 2 v1_token v1_tokenAt v1_fault v1_faultAt (fun k => match k with | 2 => .long v1_name | 5 => .ref h4 | 6 => .int v1_size | 7 => .int v1_next | _ => .null) o16 e16) (cwV 1 hts (gTV q679 q680 q681 q19 q682) rfl rfl rfl (by decide +kernel) ⟨Nat.le_of_ble_eq_true rfl, Nat.le_of_ble_eq_true rfl⟩) hK hP hD hS hA hE hAB [1] [0, 2, 3, 4] [] (wr := [(h0, .inr (2, [.ref h1, .ref h2, .ref h3, .int v0_locals, V0 4, V0 5, V0 6])), (h2, .inr (3, [V2 0, .int v2_globals, V2 2, V2 3, V2 4, V2 5, V2 6, V2 7, V2 8, V2 9, V2 10, V2 11, V2 12, V2 13, V2 14, V2 15, V2 16, V2 17])), (h3, .inl (kc3, 5, .inr (.inl c3))), (h4, .inl (kc4, 600, .inl c4))]) rfl rfl (by decide) (by decide) (by decide) rfl (ci := 4) (q0 := 0) rfl rfl rfl rfl hl.1 rfl (Nat.le_of_ble_eq_true rfl) dX2_readVariable_18 ⟨Nat.zero_le _, Nat.zero_le _⟩ (fun u16 H locs hw16 hP hD hS => ?_)
    have hw161 : o16 = u16 := Eq.symm hw16
    subst hw161
    have hP : va_P (dC, dI) vwCl (wX2_readVariable h0 h1 h2 h3 h4 kc3 kc4 V0 V2 v0_locals o16.1 v1_tokenAt v1_name o16.2.1 o16.2.2 v1_size v1_next v2_globals c3 c4) H := hP.sub [0, 4, 1, 2, 3] rfl
    have hD : va_D A (wX2_readVariable h0 h1 h2 h3 h4 kc3 kc4 V0 V2 v0_locals o16.1 v1_tokenAt v1_name o16.2.1 o16.2.2 v1_size v1_next v2_globals c3 c4) := hD.sub [0, 4, 1, 2, 3] (by decide) rfl
    have hf1 := Option.some.inj hf
    subst hf1
    have hP9 := hP.sub (ws' := (wX2_readVariable h0 h1 h2 h3 h4 kc3 kc4 V0 V2 v0_locals o16.1 v1_tokenAt v1_name o16.2.1 o16.2.2 v1_size v1_next v2_globals c3 c4)) [0, 1, 2, 3, 4] rfl
    have hD9 := hD.sub (ws' := (wX2_readVariable h0 h1 h2 h3 h4 kc3 kc4 V0 V2 v0_locals o16.1 v1_tokenAt v1_name o16.2.1 o16.2.2 v1_size v1_next v2_globals c3 c4)) [0, 1, 2, 3, 4] (by decide) rfl
    exact W.vret hx hb hr (fun t ht hW => ⟨⟨(v0_locals, o16.1, v1_tokenAt, v1_name, o16.2.1, o16.2.2, v1_next, v2_globals, c3), rfl, rfl, by rw [ht]; exact hP9, va_K.moved hW.alike hK, hD9⟩, hS.F ht⟩) hS.2.2 dX2_readVariable_21
abbrev wX2_readVariables (h0 h1 h2 h3 h4 : Nat) (kc2 kc4 : ClassId) (V0 : Nat → Value) (V3 : Nat → Value) (v0_locals : Int32) (v1_token : Int32) (v1_tokenAt : Int32) (v1_name : Int64) (v1_fault : Int32) (v1_faultAt : Int32) (v1_size : Int32) (v1_next : Int32) (c2 : Nat → Int32) (v3_globals : Int32) (c4 : Nat → Int64) : va_W := [(h0, .inr (2, [.ref h1, .ref h3, .ref h4, .int v0_locals, V0 4, V0 5, V0 6])), (h1, .inr (4, [.int v1_token, .int v1_tokenAt, .long v1_name, .int v1_fault, .int v1_faultAt, .ref h2, .int v1_size, .int v1_next])), (h2, .inl (kc2, 600, .inl c2)), (h3, .inr (3, [V3 0, .int v3_globals, V3 2, V3 3, V3 4, V3 5, V3 6, V3 7, V3 8, V3 9, V3 10, V3 11, V3 12, V3 13, V3 14, V3 15, V3 16, V3 17])), (h4, .inl (kc4, 5, .inr (.inl c4)))]
set_option maxHeartbeats 4000000 in
set_option maxRecDepth 100000 in
theorem mX2_readVariables (l : Launch) (dC : Nat → ClassId) (dI : Nat → Nat → Nat) (h0 h1 h2 h3 h4 : Nat) (kc2 kc4 : ClassId) (sz : Nat) (base : Nat × Nat × Nat) (a0 : Int32) (v0_locals : Int32) (v1_token : Int32) (v1_tokenAt : Int32) (v1_name : Int64) (v1_fault : Int32) (v1_faultAt : Int32) (v1_size : Int32) (v1_next : Int32) (c2 : Nat → Int32) (v3_globals : Int32) (c4 : Nat → Int64) (V0 : Nat → Value) (V3 : Nat → Value) (o : Int32 × Int32 × Int32 × Int64 × Int32 × Int32 × Int32 × Int32 × (Nat → Int64)) (hf : fX2_readVariables a0 v0_locals v1_token v1_tokenAt v1_name v1_fault v1_faultAt v1_size v1_next c2 v3_globals c4 = some o) : Met l yX2_readVariables (.code yX2_readVariables cX2_readVariables 3 none :: wsL_law) ({ frames := 6, cells := 0, slots := 0, locals := 134 }) (cPre (dC, dI) vwCl [.ref h0, .int a0] sz base (wX2_readVariables h0 h1 h2 h3 h4 kc2 kc4 V0 V3 v0_locals v1_token v1_tokenAt v1_name v1_fault v1_faultAt v1_size v1_next c2 v3_globals c4) [(kc2, .byte), (kc4, .long)]) (va_Qv (fun u => u = o) (fun (u : Int32 × Int32 × Int32 × Int64 × Int32 × Int32 × Int32 × Int32 × (Nat → Int64)) t => cPost (dC, dI) vwCl (va_A (wX2_readVariables h0 h1 h2 h3 h4 kc2 kc4 V0 V3 v0_locals v1_token v1_tokenAt v1_name v1_fault v1_faultAt v1_size v1_next c2 v3_globals c4) sz) (wX2_readVariables h0 h1 h2 h3 h4 kc2 kc4 V0 V3 u.1 u.2.1 u.2.2.1 u.2.2.2.1 u.2.2.2.2.1 u.2.2.2.2.2.1 v1_size u.2.2.2.2.2.2.1 c2 u.2.2.2.2.2.2.2.1 u.2.2.2.2.2.2.2.2) [(kc2, .byte), (kc4, .long)] t) (va_A (wX2_readVariables h0 h1 h2 h3 h4 kc2 kc4 V0 V3 v0_locals v1_token v1_tokenAt v1_name v1_fault v1_faultAt v1_size v1_next c2 v3_globals c4) sz)) 0 0 (va_A (wX2_readVariables h0 h1 h2 h3 h4 kc2 kc4 V0 V3 v0_locals v1_token v1_tokenAt v1_name v1_fault v1_faultAt v1_size v1_next c2 v3_globals c4) sz) := by
  refine Met.ofW (cc := cX2_readVariables) (maxL := 3) (ret := none) (by decide) rfl ?_
  intro p e s m args below meth c s₁ B hml hv
  obtain ⟨rfl, hsz, hP, hK, hD0, hE⟩ := hv
  have hx := B.exec
  have hb := B.bytes
  have hr := B.returns
  have hts : ∀ w ∈ wsL_law, _ := fun w h => atoms_spec (ws := .code yX2_readVariables cX2_readVariables 3 none :: wsL_law) B.pre w (List.mem_cons_of_mem _ h)
  have hown : s.vm.findClass RX2 = some m.cls := findClass_of_methodNamed B.named
  have hlocks := B.notSynchronized
  have w0_ := hts _ q72
  have w1_ := hts _ q544
  subst hsz
  have hD := hD0.self (sz := s.heap.size)
  generalize hAe : va_A (wX2_readVariables h0 h1 h2 h3 h4 kc2 kc4 V0 V3 v0_locals v1_token v1_tokenAt v1_name v1_fault v1_faultAt v1_size v1_next c2 v3_globals c4) s.heap.size = A at hD ⊢
  have hA : ∀ q : Nat, s.heap.size ≤ q → A q := fun q h => by rw [← hAe]; exact Or.inr h
  have hAB : ∀ q : Nat, A q → base.1 ≤ q := fun q h => by rw [← hAe] at h; exact h.elim (fun ⟨k, e, hk⟩ => hD0.2 k _ hk) (fun hk => Nat.le_trans hE.1 hk)
  have hS : va_S A s.heap s.heap [] := va_S.rf
  have hl := lv_entry ([.ref h0, .int a0]) (n := 3) (Nat.le_of_ble_eq_true rfl)
  rw [lg_entry_eq]
  generalize (lg_sl ([.ref h0, .int a0]) ++ List.replicate (3 - (lg_sl ([.ref h0, .int a0])).length) Slot.unset).toArray = ls at hl ⊢
  have hl : lv_has ls 3 [(0, .ref h0), (1, .int a0)] := hl
  have hP : va_P (dC, dI) vwCl (wX2_readVariables h0 h1 h2 h3 h4 kc2 kc4 V0 V3 v0_locals v1_token v1_tokenAt v1_name v1_fault v1_faultAt v1_size v1_next c2 v3_globals c4) s.heap := hP
  refine gl_intro (fun G hG => ?_)
  have J49 : ∀ (v0_locals : Int32) (v1_token : Int32) (v1_tokenAt : Int32) (v1_name : Int64) (v1_fault : Int32) (v1_faultAt : Int32) (v1_next : Int32) (v3_globals : Int32) (c4 : (Nat → Int64)) (H : Heap) (locs : List Loc) (ls : Array Slot), va_P (dC, dI) vwCl (wX2_readVariables h0 h1 h2 h3 h4 kc2 kc4 V0 V3 v0_locals v1_token v1_tokenAt v1_name v1_fault v1_faultAt v1_size v1_next c2 v3_globals c4) H → va_D A (wX2_readVariables h0 h1 h2 h3 h4 kc2 kc4 V0 V3 v0_locals v1_token v1_tokenAt v1_name v1_fault v1_faultAt v1_size v1_next c2 v3_globals c4) → va_S A s.heap H locs → lv_has ls 3 [(0, .ref h0)] → fX2_readVariables_p49 v1_size c2  v0_locals v1_token v1_tokenAt v1_name v1_fault v1_faultAt v1_next v3_globals c4 = some o → G 0 0 H locs (F0 m 49 ls []) := by
    intro  v0_locals v1_token v1_tokenAt v1_name v1_fault v1_faultAt v1_next v3_globals c4 H locs ls hP hD hS hl hf
    refine (hG _ _ _ _ _).mpr ?_
    unfold fX2_readVariables_p49 at hf
    refine lv_aload_n hx hb dX2_readVariables_49 rfl (lv_at hl 0 rfl) ?_
    refine va_get (D := (dC, dI)) (ci := 2) (v := .ref h1) (C := RX2) (T := TX2) (N := 7) hx hb hts inlX2 hown hK hP 0 rfl rfl 0 (by decide) w0_ (fun _ h9 => h9) rfl dX2_readVariables_50 ?_
    refine lv_bipush (v := 59) hx hb dX2_readVariables_53 (by decide +kernel) ?_
    obtain ⟨o1, e1, hf⟩ := ob_some hf
    refine kVi (As := [.int 59]) (rest := []) ⟨hx, hb, hml, hown, hts⟩ (mX4_skipToken l dC dI h1 h2 kc2 H.size base 59 v1_token v1_tokenAt v1_name v1_fault v1_faultAt v1_size v1_next c2 o1 e1) (cwV 1 hts (gTV q687 q688 q689 q19 q690) rfl rfl rfl (by decide +kernel) ⟨Nat.le_of_ble_eq_true rfl, Nat.le_of_ble_eq_true rfl⟩) hK hP hD hS hA hE hAB [1, 2] [0, 3, 4] [0] (wr := [(h0, .inr (2, [.ref h1, .ref h3, .ref h4, .int v0_locals, V0 4, V0 5, V0 6])), (h3, .inr (3, [V3 0, .int v3_globals, V3 2, V3 3, V3 4, V3 5, V3 6, V3 7, V3 8, V3 9, V3 10, V3 11, V3 12, V3 13, V3 14, V3 15, V3 16, V3 17])), (h4, .inl (kc4, 5, .inr (.inl c4)))]) rfl rfl (by decide) (by decide) (by decide) rfl (ci := 4) (q0 := 0) rfl rfl rfl rfl hl.1 rfl (Nat.le_of_ble_eq_true rfl) dX2_readVariables_55 ⟨Nat.zero_le _, Nat.zero_le _⟩ (fun r1 u1 H locs hw1 hP hD hS => ?_)
    obtain ⟨hw11, hw12⟩ := hw1
    subst hw11 hw12
    have hP : va_P (dC, dI) vwCl (wX2_readVariables h0 h1 h2 h3 h4 kc2 kc4 V0 V3 v0_locals o1.2.1 o1.2.2.1 o1.2.2.2.1 o1.2.2.2.2.1 o1.2.2.2.2.2.1 v1_size o1.2.2.2.2.2.2 c2 v3_globals c4) H := hP.sub [0, 3, 4, 1, 2] rfl
    have hD : va_D A (wX2_readVariables h0 h1 h2 h3 h4 kc2 kc4 V0 V3 v0_locals o1.2.1 o1.2.2.1 o1.2.2.2.1 o1.2.2.2.2.1 o1.2.2.2.2.2.1 v1_size o1.2.2.2.2.2.2 c2 v3_globals c4) := hD.sub [0, 3, 4, 1, 2] (by decide) rfl
    refine lv_pop hx hb dX2_readVariables_58 rfl ?_
    have hf1 := Option.some.inj hf
    subst hf1
    have hP9 := hP.sub (ws' := (wX2_readVariables h0 h1 h2 h3 h4 kc2 kc4 V0 V3 v0_locals o1.2.1 o1.2.2.1 o1.2.2.2.1 o1.2.2.2.2.1 o1.2.2.2.2.2.1 v1_size o1.2.2.2.2.2.2 c2 v3_globals c4)) [0, 1, 2, 3, 4] rfl
    have hD9 := hD.sub (ws' := (wX2_readVariables h0 h1 h2 h3 h4 kc2 kc4 V0 V3 v0_locals o1.2.1 o1.2.2.1 o1.2.2.2.1 o1.2.2.2.2.1 o1.2.2.2.2.2.1 v1_size o1.2.2.2.2.2.2 c2 v3_globals c4)) [0, 1, 2, 3, 4] (by decide) rfl
    exact W.vret hx hb hr (fun t ht hW => ⟨⟨(v0_locals, o1.2.1, o1.2.2.1, o1.2.2.2.1, o1.2.2.2.2.1, o1.2.2.2.2.2.1, o1.2.2.2.2.2.2, v3_globals, c4), rfl, rfl, by rw [ht]; exact hP9, va_K.moved hW.alike hK, hD9⟩, hS.F ht⟩) hS.2.2 dX2_readVariables_59
  have B14 : ∀ (k14 : Int32 → Int32 → Int32 → Int32 → Int32 → Int64 → Int32 → Int32 → Int32 → Int32 → (Nat → Int64) → Option (Int32 × Int32 × Int32 × Int64 × Int32 × Int32 × Int32 × Int32 × (Nat → Int64))) (hk14 : ∀ (y1 : Int32) (y2 : Int32) (v0_locals : Int32) (v1_token : Int32) (v1_tokenAt : Int32) (v1_name : Int64) (v1_fault : Int32) (v1_faultAt : Int32) (v1_next : Int32) (v3_globals : Int32) (c4 : (Nat → Int64)) (H : Heap) (locs : List Loc) (ls : Array Slot), va_P (dC, dI) vwCl (wX2_readVariables h0 h1 h2 h3 h4 kc2 kc4 V0 V3 v0_locals v1_token v1_tokenAt v1_name v1_fault v1_faultAt v1_size v1_next c2 v3_globals c4) H → va_D A (wX2_readVariables h0 h1 h2 h3 h4 kc2 kc4 V0 V3 v0_locals v1_token v1_tokenAt v1_name v1_fault v1_faultAt v1_size v1_next c2 v3_globals c4) → va_S A s.heap H locs → lv_has ls 3 [(0, .ref h0), (1, .int y1), (2, .int y2)] → k14 y1 y2 v0_locals v1_token v1_tokenAt v1_name v1_fault v1_faultAt v1_next v3_globals c4 = some o → G 0 0 H locs (F0 m 14 ls [])), ∀ (y1 : Int32) (y2 : Int32) (v0_locals : Int32) (v1_token : Int32) (v1_tokenAt : Int32) (v1_name : Int64) (v1_fault : Int32) (v1_faultAt : Int32) (v1_next : Int32) (v3_globals : Int32) (c4 : (Nat → Int64)) (H : Heap) (locs : List Loc) (ls : Array Slot), va_P (dC, dI) vwCl (wX2_readVariables h0 h1 h2 h3 h4 kc2 kc4 V0 V3 v0_locals v1_token v1_tokenAt v1_name v1_fault v1_faultAt v1_size v1_next c2 v3_globals c4) H → va_D A (wX2_readVariables h0 h1 h2 h3 h4 kc2 kc4 V0 V3 v0_locals v1_token v1_tokenAt v1_name v1_fault v1_faultAt v1_size v1_next c2 v3_globals c4) → va_S A s.heap H locs → lv_has ls 3 [(0, .ref h0), (1, .int y1), (2, .int y2)] → fX2_readVariables_b14 v1_size c2  k14 y1 y2 v0_locals v1_token v1_tokenAt v1_name v1_fault v1_faultAt v1_next v3_globals c4 = some o → G 0 0 H locs (F0 m 14 ls []) := by
    intro  k14 hk14 y1 y2 v0_locals v1_token v1_tokenAt v1_name v1_fault v1_faultAt v1_next v3_globals c4 H locs ls hP hD hS hl hf
    refine (hG _ _ _ _ _).mpr ?_
    unfold fX2_readVariables_b14 at hf
    refine lv_iload_n hx hb dX2_readVariables_14 rfl (lv_at hl 2 rfl) ?_
    refine lv_iconst (v := 3) hx hb dX2_readVariables_15 (by decide +kernel) ?_
    refine lv_icmp_ge (tgt := 49) hx hb dX2_readVariables_16 (by decide) (fun cq2 => ?_) (fun cq2 => ?_)
    · replace hf := if_at hf cq2
      exact (hG _ _ _ _ _).mp (J49 v0_locals v1_token v1_tokenAt v1_name v1_fault v1_faultAt v1_next v3_globals c4 H locs ls (hP.sub [0, 1, 2, 3, 4] rfl) (hD.sub [0, 1, 2, 3, 4] (by decide) rfl) hS (lv_sub hl [0] rfl) hf)
    · replace hf := if_no hf cq2
      refine lv_aload_n hx hb dX2_readVariables_19 rfl (lv_at hl 0 rfl) ?_
      refine va_get (D := (dC, dI)) (ci := 2) (v := .ref h1) (C := RX2) (T := TX2) (N := 7) hx hb hts inlX2 hown hK hP 0 rfl rfl 0 (by decide) w0_ (fun _ h9 => h9) rfl dX2_readVariables_20 ?_
      refine va_get (D := (dC, dI)) (ci := 4) (v := .int v1_token) (C := RX4) (T := TX4) (N := 8) hx hb hts inlX4 hown hK hP 1 rfl rfl 0 (by decide) w1_ (fun _ h9 => h9) rfl dX2_readVariables_23 ?_
      refine lv_bipush (v := 44) hx hb dX2_readVariables_26 (by decide +kernel) ?_
      refine lv_icmp_ne (tgt := 49) hx hb dX2_readVariables_28 (by decide) (fun cq3 => ?_) (fun cq3 => ?_)
      · replace hf := if_no hf cq3
        exact (hG _ _ _ _ _).mp (J49 v0_locals v1_token v1_tokenAt v1_name v1_fault v1_faultAt v1_next v3_globals c4 H locs ls (hP.sub [0, 1, 2, 3, 4] rfl) (hD.sub [0, 1, 2, 3, 4] (by decide) rfl) hS (lv_sub hl [0] rfl) hf)
      · replace hf := if_at hf cq3
        refine lv_aload_n hx hb dX2_readVariables_31 rfl (lv_at hl 0 rfl) ?_
        refine va_get (D := (dC, dI)) (ci := 2) (v := .ref h1) (C := RX2) (T := TX2) (N := 7) hx hb hts inlX2 hown hK hP 0 rfl rfl 0 (by decide) w0_ (fun _ h9 => h9) rfl dX2_readVariables_32 ?_
        obtain ⟨o4, e4, hf⟩ := ob_some hf
        refine kVv (As := []) (rest := []) ⟨hx, hb, hml, hown, hts⟩ (mX4_advance l dC dI h1 h2 kc2 H.size base v1_token v1_tokenAt v1_name v1_fault v1_faultAt v1_size v1_next c2 o4 e4) (cwV 0 hts (gTV q672 q562 q563 q19 q564) rfl rfl rfl (by decide +kernel) ⟨Nat.le_of_ble_eq_true rfl, Nat.le_of_ble_eq_true rfl⟩) hK hP hD hS hA hE hAB [1, 2] [0, 3, 4] [0] (wr := [(h0, .inr (2, [.ref h1, .ref h3, .ref h4, .int v0_locals, V0 4, V0 5, V0 6])), (h3, .inr (3, [V3 0, .int v3_globals, V3 2, V3 3, V3 4, V3 5, V3 6, V3 7, V3 8, V3 9, V3 10, V3 11, V3 12, V3 13, V3 14, V3 15, V3 16, V3 17])), (h4, .inl (kc4, 5, .inr (.inl c4)))]) rfl rfl (by decide) (by decide) (by decide) rfl (ci := 4) (q0 := 0) rfl rfl rfl rfl hl.1 rfl (Nat.le_of_ble_eq_true rfl) dX2_readVariables_35 ⟨Nat.zero_le _, Nat.zero_le _⟩ (fun u4 H locs hw4 hP hD hS => ?_)
        have hw41 : o4 = u4 := Eq.symm hw4
        subst hw41
        have hP : va_P (dC, dI) vwCl (wX2_readVariables h0 h1 h2 h3 h4 kc2 kc4 V0 V3 v0_locals o4.1 o4.2.1 o4.2.2.1 o4.2.2.2.1 o4.2.2.2.2.1 v1_size o4.2.2.2.2.2 c2 v3_globals c4) H := hP.sub [0, 3, 4, 1, 2] rfl
        have hD : va_D A (wX2_readVariables h0 h1 h2 h3 h4 kc2 kc4 V0 V3 v0_locals o4.1 o4.2.1 o4.2.2.1 o4.2.2.2.1 o4.2.2.2.2.1 v1_size o4.2.2.2.2.2 c2 v3_globals c4) := hD.sub [0, 3, 4, 1, 2] (by decide) rfl
        refine lv_aload_n hx hb dX2_readVariables_38 rfl (lv_at hl 0 rfl) ?_
        refine lv_iload_n hx hb dX2_readVariables_39 rfl (lv_at hl 1 rfl) ?_
        obtain ⟨o5, e5, hf⟩ := ob_some hf
        refine kVv (As := [.int y1]) (rest := []) ⟨hx, hb, hml, hown, hts⟩ (mX2_readVariable l dC dI h0 h1 h3 h4 h2 kc4 kc2 H.size base y1 v0_locals o4.1 o4.2.1 o4.2.2.1 o4.2.2.2.1 o4.2.2.2.2.1 v1_size o4.2.2.2.2.2 v3_globals c4 c2 V0 V3 o5 e5) (cwV 1 hts (gTV q673 q674 q675 q27 q676) rfl rfl rfl (by decide +kernel) ⟨Nat.le_of_ble_eq_true rfl, Nat.le_of_ble_eq_true rfl⟩) hK hP hD hS hA hE hAB [0, 1, 3, 4, 2] [] [1, 0] (wr := []) rfl rfl (by decide) (by decide) (by decide) rfl (ci := 2) (q0 := 0) rfl rfl rfl rfl hl.1 rfl (Nat.le_of_ble_eq_true rfl) dX2_readVariables_40 ⟨Nat.zero_le _, Nat.zero_le _⟩ (fun u5 H locs hw5 hP hD hS => ?_)
        have hw51 : o5 = u5 := Eq.symm hw5
        subst hw51
        have hP : va_P (dC, dI) vwCl (wX2_readVariables h0 h1 h2 h3 h4 kc2 kc4 V0 V3 o5.1 o5.2.1 o5.2.2.1 o5.2.2.2.1 o5.2.2.2.2.1 o5.2.2.2.2.2.1 v1_size o5.2.2.2.2.2.2.1 c2 o5.2.2.2.2.2.2.2.1 o5.2.2.2.2.2.2.2.2) H := hP.sub [0, 1, 4, 2, 3] rfl
        have hD : va_D A (wX2_readVariables h0 h1 h2 h3 h4 kc2 kc4 V0 V3 o5.1 o5.2.1 o5.2.2.1 o5.2.2.2.1 o5.2.2.2.2.1 o5.2.2.2.2.2.1 v1_size o5.2.2.2.2.2.2.1 c2 o5.2.2.2.2.2.2.2.1 o5.2.2.2.2.2.2.2.2) := hD.sub [0, 1, 4, 2, 3] (by decide) rfl
        obtain ⟨x6, e6⟩ : ∃ y : Int32, y = y2 + 1 := ⟨_, rfl⟩
        replace hf := nm_at hf e6
        refine lv_iinc (v := x6) (lv' := [(2, .int x6), (0, .ref h0), (1, .int y1)]) hx hb dX2_readVariables_43 hl (k := 2) rfl (by rw [e6]; rfl) (by decide) rfl (fun ls hl => ?_)
        refine lv_goto (tgt := 14) hx hb dX2_readVariables_46 (by decide) ?_
        exact (hG _ _ _ _ _).mp (hk14 y1 x6 o5.1 o5.2.1 o5.2.2.1 o5.2.2.2.1 o5.2.2.2.2.1 o5.2.2.2.2.2.1 o5.2.2.2.2.2.2.1 o5.2.2.2.2.2.2.2.1 o5.2.2.2.2.2.2.2.2 H locs ls (hP.sub [0, 1, 2, 3, 4] rfl) (hD.sub [0, 1, 2, 3, 4] (by decide) rfl) hS (lv_sub hl [1, 2, 0] rfl) hf)
  have L14 : ∀ (n : Nat), ∀ (y1 : Int32) (y2 : Int32) (v0_locals : Int32) (v1_token : Int32) (v1_tokenAt : Int32) (v1_name : Int64) (v1_fault : Int32) (v1_faultAt : Int32) (v1_next : Int32) (v3_globals : Int32) (c4 : (Nat → Int64)) (H : Heap) (locs : List Loc) (ls : Array Slot), va_P (dC, dI) vwCl (wX2_readVariables h0 h1 h2 h3 h4 kc2 kc4 V0 V3 v0_locals v1_token v1_tokenAt v1_name v1_fault v1_faultAt v1_size v1_next c2 v3_globals c4) H → va_D A (wX2_readVariables h0 h1 h2 h3 h4 kc2 kc4 V0 V3 v0_locals v1_token v1_tokenAt v1_name v1_fault v1_faultAt v1_size v1_next c2 v3_globals c4) → va_S A s.heap H locs → lv_has ls 3 [(0, .ref h0), (1, .int y1), (2, .int y2)] → fX2_readVariables_l14 v1_size c2  n y1 y2 v0_locals v1_token v1_tokenAt v1_name v1_fault v1_faultAt v1_next v3_globals c4 = some o → G 0 0 H locs (F0 m 14 ls []) := by
    intro  n
    induction n with
    | zero => intro y1 y2 v0_locals v1_token v1_tokenAt v1_name v1_fault v1_faultAt v1_next v3_globals c4 H locs ls _ _ _ _ hf; cases hf
    | succ n ih => exact B14  _ ih
  refine (hG _ _ _ _ _).mpr ?_
  obtain ⟨H, hH⟩ : ∃ H, H = s.heap := ⟨_, rfl⟩
  have hS : va_S A s.heap H [] := by rw [hH]; exact hS
  rw [← hH] at hP ⊢
  generalize ([] : List Loc) = locs at hS ⊢
  unfold fX2_readVariables at hf
  refine lv_aload_n hx hb dX2_readVariables_0 rfl (lv_at hl 0 rfl) ?_
  refine va_get (D := (dC, dI)) (ci := 2) (v := .ref h1) (C := RX2) (T := TX2) (N := 7) hx hb hts inlX2 hown hK hP 0 rfl rfl 0 (by decide) w0_ (fun _ h9 => h9) rfl dX2_readVariables_1 ?_
  obtain ⟨o7, e7, hf⟩ := ob_some hf
  refine kVv (As := []) (rest := []) ⟨hx, hb, hml, hown, hts⟩ (mX4_advance l dC dI h1 h2 kc2 H.size base v1_token v1_tokenAt v1_name v1_fault v1_faultAt v1_size v1_next c2 o7 e7) (cwV 0 hts (gTV q672 q562 q563 q19 q564) rfl rfl rfl (by decide +kernel) ⟨Nat.le_of_ble_eq_true rfl, Nat.le_of_ble_eq_true rfl⟩) hK hP hD hS hA hE hAB [1, 2] [0, 3, 4] [0] (wr := [(h0, .inr (2, [.ref h1, .ref h3, .ref h4, .int v0_locals, V0 4, V0 5, V0 6])), (h3, .inr (3, [V3 0, .int v3_globals, V3 2, V3 3, V3 4, V3 5, V3 6, V3 7, V3 8, V3 9, V3 10, V3 11, V3 12, V3 13, V3 14, V3 15, V3 16, V3 17])), (h4, .inl (kc4, 5, .inr (.inl c4)))]) rfl rfl (by decide) (by decide) (by decide) rfl (ci := 4) (q0 := 0) rfl rfl rfl rfl hl.1 rfl (Nat.le_of_ble_eq_true rfl) dX2_readVariables_4 ⟨Nat.zero_le _, Nat.zero_le _⟩ (fun u7 H locs hw7 hP hD hS => ?_)
  have hw71 : o7 = u7 := Eq.symm hw7
  subst hw71
  have hP : va_P (dC, dI) vwCl (wX2_readVariables h0 h1 h2 h3 h4 kc2 kc4 V0 V3 v0_locals o7.1 o7.2.1 o7.2.2.1 o7.2.2.2.1 o7.2.2.2.2.1 v1_size o7.2.2.2.2.2 c2 v3_globals c4) H := hP.sub [0, 3, 4, 1, 2] rfl
  have hD : va_D A (wX2_readVariables h0 h1 h2 h3 h4 kc2 kc4 V0 V3 v0_locals o7.1 o7.2.1 o7.2.2.1 o7.2.2.2.1 o7.2.2.2.2.1 v1_size o7.2.2.2.2.2 c2 v3_globals c4) := hD.sub [0, 3, 4, 1, 2] (by decide) rfl
  refine lv_aload_n hx hb dX2_readVariables_7 rfl (lv_at hl 0 rfl) ?_
  refine lv_iload_n hx hb dX2_readVariables_8 rfl (lv_at hl 1 rfl) ?_
  obtain ⟨o8, e8, hf⟩ := ob_some hf
  refine kVv (As := [.int a0]) (rest := []) ⟨hx, hb, hml, hown, hts⟩ (mX2_readVariable l dC dI h0 h1 h3 h4 h2 kc4 kc2 H.size base a0 v0_locals o7.1 o7.2.1 o7.2.2.1 o7.2.2.2.1 o7.2.2.2.2.1 v1_size o7.2.2.2.2.2 v3_globals c4 c2 V0 V3 o8 e8) (cwV 1 hts (gTV q673 q674 q675 q27 q676) rfl rfl rfl (by decide +kernel) ⟨Nat.le_of_ble_eq_true rfl, Nat.le_of_ble_eq_true rfl⟩) hK hP hD hS hA hE hAB [0, 1, 3, 4, 2] [] [1, 0] (wr := []) rfl rfl (by decide) (by decide) (by decide) rfl (ci := 2) (q0 := 0) rfl rfl rfl rfl hl.1 rfl (Nat.le_of_ble_eq_true rfl) dX2_readVariables_9 ⟨Nat.zero_le _, Nat.zero_le _⟩ (fun u8 H locs hw8 hP hD hS => ?_)
  have hw81 : o8 = u8 := Eq.symm hw8
  subst hw81
  have hP : va_P (dC, dI) vwCl (wX2_readVariables h0 h1 h2 h3 h4 kc2 kc4 V0 V3 o8.1 o8.2.1 o8.2.2.1 o8.2.2.2.1 o8.2.2.2.2.1 o8.2.2.2.2.2.1 v1_size o8.2.2.2.2.2.2.1 c2 o8.2.2.2.2.2.2.2.1 o8.2.2.2.2.2.2.2.2) H := hP.sub [0, 1, 4, 2, 3] rfl
  have hD : va_D A (wX2_readVariables h0 h1 h2 h3 h4 kc2 kc4 V0 V3 o8.1 o8.2.1 o8.2.2.1 o8.2.2.2.1 o8.2.2.2.2.1 o8.2.2.2.2.2.1 v1_size o8.2.2.2.2.2.2.1 c2 o8.2.2.2.2.2.2.2.1 o8.2.2.2.2.2.2.2.2) := hD.sub [0, 1, 4, 2, 3] (by decide) rfl
  refine lv_iconst (v := 0) hx hb dX2_readVariables_12 (by decide +kernel) ?_
  refine lv_istore_n (lv' := [(2, .int 0), (0, .ref h0), (1, .int a0)]) hx hb dX2_readVariables_13 rfl hl (by decide) rfl (fun ls hl => ?_)
  exact (hG _ _ _ _ _).mp (L14 FU a0 0 o8.1 o8.2.1 o8.2.2.1 o8.2.2.2.1 o8.2.2.2.2.1 o8.2.2.2.2.2.1 o8.2.2.2.2.2.2.1 o8.2.2.2.2.2.2.2.1 o8.2.2.2.2.2.2.2.2 H locs ls (hP.sub [0, 1, 2, 3, 4] rfl) (hD.sub [0, 1, 2, 3, 4] (by decide) rfl) hS (lv_sub hl [1, 2, 0] rfl) hf)
abbrev wX2_readProcedure (h0 h1 h2 h3 h4 h5 h6 h7 h8 h9 h10 h11 h12 h13 h14 h15 h16 h17 h18 : Nat) (kc2 kc4 kc5 kc6 kc7 kc8 kc9 kc10 kc11 kc12 kc13 kc14 kc15 kc16 kc17 kc18 : ClassId) (V3 : Nat → Value) (v0_locals : Int32) (v1_token : Int32) (v1_tokenAt : Int32) (v1_name : Int64) (v1_fault : Int32) (v1_faultAt : Int32) (v1_size : Int32) (v1_next : Int32) (c2 : Nat → Int32) (v3_globals : Int32) (v3_procedures : Int32) (v3_statements : Int32) (c4 : Nat → Int64) (c5 : Nat → Int64) (c6 : Nat → Int32) (c7 : Nat → Int32) (c8 : Nat → Int32) (c9 : Nat → Int64) (c10 : Nat → Int32) (c11 : Nat → Int32) (c12 : Nat → Int32) (c13 : Nat → Int32) (c14 : Nat → Int32) (c15 : Nat → Int32) (c16 : Nat → Int64) (c17 : Nat → Int32) (c18 : Nat → Int32) : va_W := [(h0, .inr (2, [.ref h1, .ref h3, .ref h5, .int v0_locals, .ref h4, .ref h16, .ref h17])), (h1, .inr (4, [.int v1_token, .int v1_tokenAt, .long v1_name, .int v1_fault, .int v1_faultAt, .ref h2, .int v1_size, .int v1_next])), (h2, .inl (kc2, 600, .inl c2)), (h3, .inr (3, [V3 0, .int v3_globals, .int v3_procedures, .int v3_statements, .ref h18, .ref h6, .ref h7, .ref h8, .ref h9, .ref h10, .ref h11, V3 11, V3 12, .ref h12, .ref h13, .ref h14, .ref h15, V3 17])), (h4, .inl (kc4, 6, .inr (.inl c4))), (h5, .inl (kc5, 5, .inr (.inl c5))), (h6, .inl (kc6, 40, .inl c6)), (h7, .inl (kc7, 40, .inl c7)), (h8, .inl (kc8, 40, .inl c8)), (h9, .inl (kc9, 40, .inr (.inl c9))), (h10, .inl (kc10, 40, .inl c10)), (h11, .inl (kc11, 40, .inl c11)), (h12, .inl (kc12, 40, .inl c12)), (h13, .inl (kc13, 40, .inl c13)), (h14, .inl (kc14, 40, .inl c14)), (h15, .inl (kc15, 40, .inl c15)), (h16, .inl (kc16, 40, .inr (.inl c16))), (h17, .inl (kc17, 40, .inl c17)), (h18, .inl (kc18, 6, .inl c18))]
set_option maxHeartbeats 4000000 in
set_option maxRecDepth 100000 in
theorem mX2_readProcedure (l : Launch) (dC : Nat → ClassId) (dI : Nat → Nat → Nat) (h0 h1 h2 h3 h4 h5 h6 h7 h8 h9 h10 h11 h12 h13 h14 h15 h16 h17 h18 : Nat) (kc2 kc4 kc5 kc6 kc7 kc8 kc9 kc10 kc11 kc12 kc13 kc14 kc15 kc16 kc17 kc18 : ClassId) (sz : Nat) (base : Nat × Nat × Nat) (v0_locals : Int32) (v1_token : Int32) (v1_tokenAt : Int32) (v1_name : Int64) (v1_fault : Int32) (v1_faultAt : Int32) (v1_size : Int32) (v1_next : Int32) (c2 : Nat → Int32) (v3_globals : Int32) (v3_procedures : Int32) (v3_statements : Int32) (c4 : Nat → Int64) (c5 : Nat → Int64) (c6 : Nat → Int32) (c7 : Nat → Int32) (c8 : Nat → Int32) (c9 : Nat → Int64) (c10 : Nat → Int32) (c11 : Nat → Int32) (c12 : Nat → Int32) (c13 : Nat → Int32) (c14 : Nat → Int32) (c15 : Nat → Int32) (c16 : Nat → Int64) (c17 : Nat → Int32) (c18 : Nat → Int32) (V3 : Nat → Value) (o : Int32 × Int32 × Int32 × Int64 × Int32 × Int32 × Int32 × Int32 × Int32 × Int32 × (Nat → Int64) × (Nat → Int64) × (Nat → Int32) × (Nat → Int32) × (Nat → Int32) × (Nat → Int64) × (Nat → Int32) × (Nat → Int32) × (Nat → Int32) × (Nat → Int32) × (Nat → Int32) × (Nat → Int32) × (Nat → Int64) × (Nat → Int32) × (Nat → Int32)) (hf : fX2_readProcedure v0_locals v1_token v1_tokenAt v1_name v1_fault v1_faultAt v1_size v1_next c2 v3_globals v3_procedures v3_statements c4 c5 c6 c7 c8 c9 c10 c11 c12 c13 c14 c15 c16 c17 c18 = some o) : Met l yX2_readProcedure (.code yX2_readProcedure cX2_readProcedure 3 none :: wsL_law) ({ frames := 102, cells := 0, slots := 0, locals := 2445 }) (cPre (dC, dI) vwCl [.ref h0] sz base (wX2_readProcedure h0 h1 h2 h3 h4 h5 h6 h7 h8 h9 h10 h11 h12 h13 h14 h15 h16 h17 h18 kc2 kc4 kc5 kc6 kc7 kc8 kc9 kc10 kc11 kc12 kc13 kc14 kc15 kc16 kc17 kc18 V3 v0_locals v1_token v1_tokenAt v1_name v1_fault v1_faultAt v1_size v1_next c2 v3_globals v3_procedures v3_statements c4 c5 c6 c7 c8 c9 c10 c11 c12 c13 c14 c15 c16 c17 c18) [(kc2, .byte), (kc4, .long), (kc5, .long), (kc6, .int), (kc7, .int), (kc8, .int), (kc9, .long), (kc10, .int), (kc11, .int), (kc12, .int), (kc13, .int), (kc14, .int), (kc15, .int), (kc16, .long), (kc17, .int), (kc18, .int)]) (va_Qv (fun u => u = o) (fun (u : Int32 × Int32 × Int32 × Int64 × Int32 × Int32 × Int32 × Int32 × Int32 × Int32 × (Nat → Int64) × (Nat → Int64) × (Nat → Int32) × (Nat → Int32) × (Nat → Int32) × (Nat → Int64) × (Nat → Int32) × (Nat → Int32) × (Nat → Int32) × (Nat → Int32) × (Nat → Int32) × (Nat → Int32) × (Nat → Int64) × (Nat → Int32) × (Nat → Int32)) t => cPost (dC, dI) vwCl (va_A (wX2_readProcedure h0 h1 h2 h3 h4 h5 h6 h7 h8 h9 h10 h11 h12 h13 h14 h15 h16 h17 h18 kc2 kc4 kc5 kc6 kc7 kc8 kc9 kc10 kc11 kc12 kc13 kc14 kc15 kc16 kc17 kc18 V3 v0_locals v1_token v1_tokenAt v1_name v1_fault v1_faultAt v1_size v1_next c2 v3_globals v3_procedures v3_statements c4 c5 c6 c7 c8 c9 c10 c11 c12 c13 c14 c15 c16 c17 c18) sz) (wX2_readProcedure h0 h1 h2 h3 h4 h5 h6 h7 h8 h9 h10 h11 h12 h13 h14 h15 h16 h17 h18 kc2 kc4 kc5 kc6 kc7 kc8 kc9 kc10 kc11 kc12 kc13 kc14 kc15 kc16 kc17 kc18 V3 u.1 u.2.1 u.2.2.1 u.2.2.2.1 u.2.2.2.2.1 u.2.2.2.2.2.1 v1_size u.2.2.2.2.2.2.1 c2 u.2.2.2.2.2.2.2.1 u.2.2.2.2.2.2.2.2.1 u.2.2.2.2.2.2.2.2.2.1 u.2.2.2.2.2.2.2.2.2.2.1 u.2.2.2.2.2.2.2.2.2.2.2.1 u.2.2.2.2.2.2.2.2.2.2.2.2.1 u.2.2.2.2.2.2.2.2.2.2.2.2.2.1 u.2.2.2.2.2.2.2.2.2.2.2.2.2.2.1 u.2.2.2.2.2.2.2.2.2.2.2.2.2.2.2.1 u.2.2.2.2.2.2.2.2.2.2.2.2.2.2.2.2.1 u.2.2.2.2.2.2.2.2.2.2.2.2.2.2.2.2.2.1 u.2.2.2.2.2.2.2.2.2.2.2.2.2.2.2.2.2.2.1 u.2.2.2.2.2.2.2.2.2.2.2.2.2.2.2.2.2.2.2.1 u.2.2.2.2.2.2.2.2.2.2.2.2.2.2.2.2.2.2.2.2.1 u.2.2.2.2.2.2.2.2.2.2.2.2.2.2.2.2.2.2.2.2.2.1 u.2.2.2.2.2.2.2.2.2.2.2.2.2.2.2.2.2.2.2.2.2.2.1 u.2.2.2.2.2.2.2.2.2.2.2.2.2.2.2.2.2.2.2.2.2.2.2.1 u.2.2.2.2.2.2.2.2.2.2.2.2.2.2.2.2.2.2.2.2.2.2.2.2) [(kc2, .byte), (kc4, .long), (kc5, .long), (kc6, .int), (kc7, .int), (kc8, .int), (kc9, .long), (kc10, .int), (kc11, .int), (kc12, .int), (kc13, .int), (kc14, .int), (kc15, .int), (kc16, .long), (kc17, .int), (kc18, .int)] t) (va_A (wX2_readProcedure h0 h1 h2 h3 h4 h5 h6 h7 h8 h9 h10 h11 h12 h13 h14 h15 h16 h17 h18 kc2 kc4 kc5 kc6 kc7 kc8 kc9 kc10 kc11 kc12 kc13 kc14 kc15 kc16 kc17 kc18 V3 v0_locals v1_token v1_tokenAt v1_name v1_fault v1_faultAt v1_size v1_next c2 v3_globals v3_procedures v3_statements c4 c5 c6 c7 c8 c9 c10 c11 c12 c13 c14 c15 c16 c17 c18) sz)) 0 0 (va_A (wX2_readProcedure h0 h1 h2 h3 h4 h5 h6 h7 h8 h9 h10 h11 h12 h13 h14 h15 h16 h17 h18 kc2 kc4 kc5 kc6 kc7 kc8 kc9 kc10 kc11 kc12 kc13 kc14 kc15 kc16 kc17 kc18 V3 v0_locals v1_token v1_tokenAt v1_name v1_fault v1_faultAt v1_size v1_next c2 v3_globals v3_procedures v3_statements c4 c5 c6 c7 c8 c9 c10 c11 c12 c13 c14 c15 c16 c17 c18) sz) := by
  refine Met.ofW (cc := cX2_readProcedure) (maxL := 3) (ret := none) (by decide) rfl ?_
  intro p e s m args below meth c s₁ B hml hv
  obtain ⟨rfl, hsz, hP, hK, hD0, hE⟩ := hv
  have hx := B.exec
  have hb := B.bytes
  have hr := B.returns
  have hts : ∀ w ∈ wsL_law, _ := fun w h => atoms_spec (ws := .code yX2_readProcedure cX2_readProcedure 3 none :: wsL_law) B.pre w (List.mem_cons_of_mem _ h)
  have hown : s.vm.findClass RX2 = some m.cls := findClass_of_methodNamed B.named
  have hlocks := B.notSynchronized
  have w0_ := hts _ q72
  have w1_ := hts _ q73
  have w2_ := hts _ q697
  have w3_ := hts _ q544
  have w4_ := hts _ q696
  have w5_ := hts _ q678
  have w6_ := hts _ q69
  have w7_ := hts _ q543
  subst hsz
  have hD := hD0.self (sz := s.heap.size)
  generalize hAe : va_A (wX2_readProcedure h0 h1 h2 h3 h4 h5 h6 h7 h8 h9 h10 h11 h12 h13 h14 h15 h16 h17 h18 kc2 kc4 kc5 kc6 kc7 kc8 kc9 kc10 kc11 kc12 kc13 kc14 kc15 kc16 kc17 kc18 V3 v0_locals v1_token v1_tokenAt v1_name v1_fault v1_faultAt v1_size v1_next c2 v3_globals v3_procedures v3_statements c4 c5 c6 c7 c8 c9 c10 c11 c12 c13 c14 c15 c16 c17 c18) s.heap.size = A at hD ⊢
  have hA : ∀ q : Nat, s.heap.size ≤ q → A q := fun q h => by rw [← hAe]; exact Or.inr h
  have hAB : ∀ q : Nat, A q → base.1 ≤ q := fun q h => by rw [← hAe] at h; exact h.elim (fun ⟨k, e, hk⟩ => hD0.2 k _ hk) (fun hk => Nat.le_trans hE.1 hk)
  have hS : va_S A s.heap s.heap [] := va_S.rf
  have hl := lv_entry ([.ref h0]) (n := 3) (Nat.le_of_ble_eq_true rfl)
  rw [lg_entry_eq]
  generalize (lg_sl ([.ref h0]) ++ List.replicate (3 - (lg_sl ([.ref h0])).length) Slot.unset).toArray = ls at hl ⊢
  have hl : lv_has ls 3 [(0, .ref h0)] := hl
  have hP : va_P (dC, dI) vwCl (wX2_readProcedure h0 h1 h2 h3 h4 h5 h6 h7 h8 h9 h10 h11 h12 h13 h14 h15 h16 h17 h18 kc2 kc4 kc5 kc6 kc7 kc8 kc9 kc10 kc11 kc12 kc13 kc14 kc15 kc16 kc17 kc18 V3 v0_locals v1_token v1_tokenAt v1_name v1_fault v1_faultAt v1_size v1_next c2 v3_globals v3_procedures v3_statements c4 c5 c6 c7 c8 c9 c10 c11 c12 c13 c14 c15 c16 c17 c18) s.heap := hP
  refine gl_intro (fun G hG => ?_)
  have J65 : ∀ (v0_locals : Int32) (v1_token : Int32) (v1_tokenAt : Int32) (v1_name : Int64) (v1_fault : Int32) (v1_faultAt : Int32) (v1_next : Int32) (v3_globals : Int32) (v3_procedures : Int32) (v3_statements : Int32) (c4 : (Nat → Int64)) (c5 : (Nat → Int64)) (c6 : (Nat → Int32)) (c7 : (Nat → Int32)) (c8 : (Nat → Int32)) (c9 : (Nat → Int64)) (c10 : (Nat → Int32)) (c11 : (Nat → Int32)) (c12 : (Nat → Int32)) (c13 : (Nat → Int32)) (c14 : (Nat → Int32)) (c15 : (Nat → Int32)) (c16 : (Nat → Int64)) (c17 : (Nat → Int32)) (c18 : (Nat → Int32)) (H : Heap) (locs : List Loc) (ls : Array Slot), va_P (dC, dI) vwCl (wX2_readProcedure h0 h1 h2 h3 h4 h5 h6 h7 h8 h9 h10 h11 h12 h13 h14 h15 h16 h17 h18 kc2 kc4 kc5 kc6 kc7 kc8 kc9 kc10 kc11 kc12 kc13 kc14 kc15 kc16 kc17 kc18 V3 v0_locals v1_token v1_tokenAt v1_name v1_fault v1_faultAt v1_size v1_next c2 v3_globals v3_procedures v3_statements c4 c5 c6 c7 c8 c9 c10 c11 c12 c13 c14 c15 c16 c17 c18) H → va_D A (wX2_readProcedure h0 h1 h2 h3 h4 h5 h6 h7 h8 h9 h10 h11 h12 h13 h14 h15 h16 h17 h18 kc2 kc4 kc5 kc6 kc7 kc8 kc9 kc10 kc11 kc12 kc13 kc14 kc15 kc16 kc17 kc18 V3 v0_locals v1_token v1_tokenAt v1_name v1_fault v1_faultAt v1_size v1_next c2 v3_globals v3_procedures v3_statements c4 c5 c6 c7 c8 c9 c10 c11 c12 c13 c14 c15 c16 c17 c18) → va_S A s.heap H locs → lv_has ls 3 [(0, .ref h0)] → fX2_readProcedure_p65 v1_size c2  v0_locals v1_token v1_tokenAt v1_name v1_fault v1_faultAt v1_next v3_globals v3_procedures v3_statements c4 c5 c6 c7 c8 c9 c10 c11 c12 c13 c14 c15 c16 c17 c18 = some o → G 0 0 H locs (F0 m 65 ls []) := by
    intro  v0_locals v1_token v1_tokenAt v1_name v1_fault v1_faultAt v1_next v3_globals v3_procedures v3_statements c4 c5 c6 c7 c8 c9 c10 c11 c12 c13 c14 c15 c16 c17 c18 H locs ls hP hD hS hl hf
    refine (hG _ _ _ _ _).mpr ?_
    unfold fX2_readProcedure_p65 at hf
    refine lv_aload_n hx hb dX2_readProcedure_65 rfl (lv_at hl 0 rfl) ?_
    refine va_get (D := (dC, dI)) (ci := 2) (v := .ref h1) (C := RX2) (T := TX2) (N := 7) hx hb hts inlX2 hown hK hP 0 rfl rfl 0 (by decide) w0_ (fun _ h9 => h9) rfl dX2_readProcedure_66 ?_
    refine lv_iconst (v := 3) hx hb dX2_readProcedure_69 (by decide +kernel) ?_
    obtain ⟨o1, e1, hf⟩ := ob_some hf
    refine kVv (As := [.int 3]) (rest := []) ⟨hx, hb, hml, hown, hts⟩ (mX4_failHere l dC dI h1 H.size base 3 v1_token v1_tokenAt v1_fault v1_faultAt (fun k => match k with | 2 => .long v1_name | 5 => .ref h2 | 6 => .int v1_size | 7 => .int v1_next | _ => .null) o1 e1) (cwV 1 hts (gTV q679 q680 q681 q19 q682) rfl rfl rfl (by decide +kernel) ⟨Nat.le_of_ble_eq_true rfl, Nat.le_of_ble_eq_true rfl⟩) hK hP hD hS hA hE hAB [1] [0, 2, 3, 4, 5, 6, 7, 8, 9, 10, 11, 12, 13, 14, 15, 16, 17, 18] [] (wr := [(h0, .inr (2, [.ref h1, .ref h3, .ref h5, .int v0_locals, .ref h4, .ref h16, .ref h17])), (h2, .inl (kc2, 600, .inl c2)), (h3, .inr (3, [V3 0, .int v3_globals, .int v3_procedures, .int v3_statements, .ref h18, .ref h6, .ref h7, .ref h8, .ref h9, .ref h10, .ref h11, V3 11, V3 12, .ref h12, .ref h13, .ref h14, .ref h15, V3 17])), (h4, .inl (kc4, 6, .inr (.inl c4))), (h5, .inl (kc5, 5, .inr (.inl c5))), (h6, .inl (kc6, 40, .inl c6)), (h7, .inl (kc7, 40, .inl c7)), (h8, .inl (kc8, 40, .inl c8)), (h9, .inl (kc9, 40, .inr (.inl c9))), (h10, .inl (kc10, 40, .inl c10)), (h11, .inl (kc11, 40, .inl c11)), (h12, .inl (kc12, 40, .inl c12)), (h13, .inl (kc13, 40, .inl c13)), (h14, .inl (kc14, 40, .inl c14)), (h15, .inl (kc15, 40, .inl c15)), (h16, .inl (kc16, 40, .inr (.inl c16))), (h17, .inl (kc17, 40, .inl c17)), (h18, .inl (kc18, 6, .inl c18))]) rfl rfl (by decide) (by decide) (by decide) rfl (ci := 4) (q0 := 0) rfl rfl rfl rfl hl.1 rfl (Nat.le_of_ble_eq_true rfl) dX2_readProcedure_70 ⟨Nat.zero_le _, Nat.zero_le _⟩ (fun u1 H locs hw1 hP hD hS => ?_)
    have hw11 : o1 = u1 := Eq.symm hw1
    subst hw11
    have hP : va_P (dC, dI) vwCl (wX2_readProcedure h0 h1 h2 h3 h4 h5 h6 h7 h8 h9 h10 h11 h12 h13 h14 h15 h16 h17 h18 kc2 kc4 kc5 kc6 kc7 kc8 kc9 kc10 kc11 kc12 kc13 kc14 kc15 kc16 kc17 kc18 V3 v0_locals o1.1 v1_tokenAt v1_name o1.2.1 o1.2.2 v1_size v1_next c2 v3_globals v3_procedures v3_statements c4 c5 c6 c7 c8 c9 c10 c11 c12 c13 c14 c15 c16 c17 c18) H := hP.sub [0, 18, 1, 2, 3, 4, 5, 6, 7, 8, 9, 10, 11, 12, 13, 14, 15, 16, 17] rfl
    have hD : va_D A (wX2_readProcedure h0 h1 h2 h3 h4 h5 h6 h7 h8 h9 h10 h11 h12 h13 h14 h15 h16 h17 h18 kc2 kc4 kc5 kc6 kc7 kc8 kc9 kc10 kc11 kc12 kc13 kc14 kc15 kc16 kc17 kc18 V3 v0_locals o1.1 v1_tokenAt v1_name o1.2.1 o1.2.2 v1_size v1_next c2 v3_globals v3_procedures v3_statements c4 c5 c6 c7 c8 c9 c10 c11 c12 c13 c14 c15 c16 c17 c18) := hD.sub [0, 18, 1, 2, 3, 4, 5, 6, 7, 8, 9, 10, 11, 12, 13, 14, 15, 16, 17] (by decide) rfl
    have hf1 := Option.some.inj hf
    subst hf1
    have hP9 := hP.sub (ws' := (wX2_readProcedure h0 h1 h2 h3 h4 h5 h6 h7 h8 h9 h10 h11 h12 h13 h14 h15 h16 h17 h18 kc2 kc4 kc5 kc6 kc7 kc8 kc9 kc10 kc11 kc12 kc13 kc14 kc15 kc16 kc17 kc18 V3 v0_locals o1.1 v1_tokenAt v1_name o1.2.1 o1.2.2 v1_size v1_next c2 v3_globals v3_procedures v3_statements c4 c5 c6 c7 c8 c9 c10 c11 c12 c13 c14 c15 c16 c17 c18)) [0, 1, 2, 3, 4, 5, 6, 7, 8, 9, 10, 11, 12, 13, 14, 15, 16, 17, 18] rfl
    have hD9 := hD.sub (ws' := (wX2_readProcedure h0 h1 h2 h3 h4 h5 h6 h7 h8 h9 h10 h11 h12 h13 h14 h15 h16 h17 h18 kc2 kc4 kc5 kc6 kc7 kc8 kc9 kc10 kc11 kc12 kc13 kc14 kc15 kc16 kc17 kc18 V3 v0_locals o1.1 v1_tokenAt v1_name o1.2.1 o1.2.2 v1_size v1_next c2 v3_globals v3_procedures v3_statements c4 c5 c6 c7 c8 c9 c10 c11 c12 c13 c14 c15 c16 c17 c18)) [0, 1, 2, 3, 4, 5, 6, 7, 8, 9, 10, 11, 12, 13, 14, 15, 16, 17, 18] (by decide) rfl
    exact W.vret hx hb hr (fun t ht hW => ⟨⟨(v0_locals, o1.1, v1_tokenAt, v1_name, o1.2.1, o1.2.2, v1_next, v3_globals, v3_procedures, v3_statements, c4, c5, c6, c7, c8, c9, c10, c11, c12, c13, c14, c15, c16, c17, c18), rfl, rfl, by rw [ht]; exact hP9, va_K.moved hW.alike hK, hD9⟩, hS.F ht⟩) hS.2.2 dX2_readProcedure_73
  have J160 : ∀ (z0 : Int32) (z1 : Int32) (v0_locals : Int32) (v1_token : Int32) (v1_tokenAt : Int32) (v1_name : Int64) (v1_fault : Int32) (v1_faultAt : Int32) (v1_next : Int32) (v3_globals : Int32) (v3_procedures : Int32) (v3_statements : Int32) (c4 : (Nat → Int64)) (c5 : (Nat → Int64)) (c6 : (Nat → Int32)) (c7 : (Nat → Int32)) (c8 : (Nat → Int32)) (c9 : (Nat → Int64)) (c10 : (Nat → Int32)) (c11 : (Nat → Int32)) (c12 : (Nat → Int32)) (c13 : (Nat → Int32)) (c14 : (Nat → Int32)) (c15 : (Nat → Int32)) (c16 : (Nat → Int64)) (c17 : (Nat → Int32)) (c18 : (Nat → Int32)) (H : Heap) (locs : List Loc) (ls : Array Slot), va_P (dC, dI) vwCl (wX2_readProcedure h0 h1 h2 h3 h4 h5 h6 h7 h8 h9 h10 h11 h12 h13 h14 h15 h16 h17 h18 kc2 kc4 kc5 kc6 kc7 kc8 kc9 kc10 kc11 kc12 kc13 kc14 kc15 kc16 kc17 kc18 V3 v0_locals v1_token v1_tokenAt v1_name v1_fault v1_faultAt v1_size v1_next c2 v3_globals v3_procedures v3_statements c4 c5 c6 c7 c8 c9 c10 c11 c12 c13 c14 c15 c16 c17 c18) H → va_D A (wX2_readProcedure h0 h1 h2 h3 h4 h5 h6 h7 h8 h9 h10 h11 h12 h13 h14 h15 h16 h17 h18 kc2 kc4 kc5 kc6 kc7 kc8 kc9 kc10 kc11 kc12 kc13 kc14 kc15 kc16 kc17 kc18 V3 v0_locals v1_token v1_tokenAt v1_name v1_fault v1_faultAt v1_size v1_next c2 v3_globals v3_procedures v3_statements c4 c5 c6 c7 c8 c9 c10 c11 c12 c13 c14 c15 c16 c17 c18) → va_S A s.heap H locs → lv_has ls 3 [(0, .ref h0)] → fX2_readProcedure_p160 v1_size c2  z0 z1 v0_locals v1_token v1_tokenAt v1_name v1_fault v1_faultAt v1_next v3_globals v3_procedures v3_statements c4 c5 c6 c7 c8 c9 c10 c11 c12 c13 c14 c15 c16 c17 c18 = some o → G 0 0 H locs (F0 m 160 ls [.int z0, .int z1, .ref h18]) := by
    intro  z0 z1 v0_locals v1_token v1_tokenAt v1_name v1_fault v1_faultAt v1_next v3_globals v3_procedures v3_statements c4 c5 c6 c7 c8 c9 c10 c11 c12 c13 c14 c15 c16 c17 c18 H locs ls hP hD hS hl hf
    refine (hG _ _ _ _ _).mpr ?_
    unfold fX2_readProcedure_p160 at hf
    have b2 := bd_in hf
    replace hf := bd_k hf
    obtain ⟨c2x, e2⟩ : ∃ y, y = upd c18 z1.toNatClampNeg z0 := ⟨_, rfl⟩
    replace hf := nm_at hf e2
    refine va_iast hx hb hK hP hD hS 18 15 rfl rfl b2 dX2_readProcedure_160 (fun H locs hP hD hS => ?_)
    have hP : va_P (dC, dI) vwCl (wX2_readProcedure h0 h1 h2 h3 h4 h5 h6 h7 h8 h9 h10 h11 h12 h13 h14 h15 h16 h17 h18 kc2 kc4 kc5 kc6 kc7 kc8 kc9 kc10 kc11 kc12 kc13 kc14 kc15 kc16 kc17 kc18 V3 v0_locals v1_token v1_tokenAt v1_name v1_fault v1_faultAt v1_size v1_next c2 v3_globals v3_procedures v3_statements c4 c5 c6 c7 c8 c9 c10 c11 c12 c13 c14 c15 c16 c17 c2x) H := by rw [e2]; exact hP
    have hD : va_D A (wX2_readProcedure h0 h1 h2 h3 h4 h5 h6 h7 h8 h9 h10 h11 h12 h13 h14 h15 h16 h17 h18 kc2 kc4 kc5 kc6 kc7 kc8 kc9 kc10 kc11 kc12 kc13 kc14 kc15 kc16 kc17 kc18 V3 v0_locals v1_token v1_tokenAt v1_name v1_fault v1_faultAt v1_size v1_next c2 v3_globals v3_procedures v3_statements c4 c5 c6 c7 c8 c9 c10 c11 c12 c13 c14 c15 c16 c17 c2x) := by rw [e2]; exact hD
    refine lv_aload_n hx hb dX2_readProcedure_161 rfl (lv_at hl 0 rfl) ?_
    refine va_get (D := (dC, dI)) (ci := 2) (v := .ref h1) (C := RX2) (T := TX2) (N := 7) hx hb hts inlX2 hown hK hP 0 rfl rfl 0 (by decide) w0_ (fun _ h9 => h9) rfl dX2_readProcedure_162 ?_
    refine lv_bipush (v := 125) hx hb dX2_readProcedure_165 (by decide +kernel) ?_
    obtain ⟨o3, e3, hf⟩ := ob_some hf
    refine kVi (As := [.int 125]) (rest := []) ⟨hx, hb, hml, hown, hts⟩ (mX4_skipToken l dC dI h1 h2 kc2 H.size base 125 v1_token v1_tokenAt v1_name v1_fault v1_faultAt v1_size v1_next c2 o3 e3) (cwV 1 hts (gTV q687 q688 q689 q19 q690) rfl rfl rfl (by decide +kernel) ⟨Nat.le_of_ble_eq_true rfl, Nat.le_of_ble_eq_true rfl⟩) hK hP hD hS hA hE hAB [1, 2] [0, 3, 4, 5, 6, 7, 8, 9, 10, 11, 12, 13, 14, 15, 16, 17, 18] [0] (wr := [(h0, .inr (2, [.ref h1, .ref h3, .ref h5, .int v0_locals, .ref h4, .ref h16, .ref h17])), (h3, .inr (3, [V3 0, .int v3_globals, .int v3_procedures, .int v3_statements, .ref h18, .ref h6, .ref h7, .ref h8, .ref h9, .ref h10, .ref h11, V3 11, V3 12, .ref h12, .ref h13, .ref h14, .ref h15, V3 17])), (h4, .inl (kc4, 6, .inr (.inl c4))), (h5, .inl (kc5, 5, .inr (.inl c5))), (h6, .inl (kc6, 40, .inl c6)), (h7, .inl (kc7, 40, .inl c7)), (h8, .inl (kc8, 40, .inl c8)), (h9, .inl (kc9, 40, .inr (.inl c9))), (h10, .inl (kc10, 40, .inl c10)), (h11, .inl (kc11, 40, .inl c11)), (h12, .inl (kc12, 40, .inl c12)), (h13, .inl (kc13, 40, .inl c13)), (h14, .inl (kc14, 40, .inl c14)), (h15, .inl (kc15, 40, .inl c15)), (h16, .inl (kc16, 40, .inr (.inl c16))), (h17, .inl (kc17, 40, .inl c17)), (h18, .inl (kc18, 6, .inl c2x))]) rfl rfl (by decide) (by decide) (by decide) rfl (ci := 4) (q0 := 0) rfl rfl rfl rfl hl.1 rfl (Nat.le_of_ble_eq_true rfl) dX2_readProcedure_167 ⟨Nat.zero_le _, Nat.zero_le _⟩ (fun r3 u3 H locs hw3 hP hD hS => ?_)
    obtain ⟨hw31, hw32⟩ := hw3
    subst hw31 hw32
    have hP : va_P (dC, dI) vwCl (wX2_readProcedure h0 h1 h2 h3 h4 h5 h6 h7 h8 h9 h10 h11 h12 h13 h14 h15 h16 h17 h18 kc2 kc4 kc5 kc6 kc7 kc8 kc9 kc10 kc11 kc12 kc13 kc14 kc15 kc16 kc17 kc18 V3 v0_locals o3.2.1 o3.2.2.1 o3.2.2.2.1 o3.2.2.2.2.1 o3.2.2.2.2.2.1 v1_size o3.2.2.2.2.2.2 c2 v3_globals v3_procedures v3_statements c4 c5 c6 c7 c8 c9 c10 c11 c12 c13 c14 c15 c16 c17 c2x) H := hP.sub [0, 17, 18, 1, 2, 3, 4, 5, 6, 7, 8, 9, 10, 11, 12, 13, 14, 15, 16] rfl
    have hD : va_D A (wX2_readProcedure h0 h1 h2 h3 h4 h5 h6 h7 h8 h9 h10 h11 h12 h13 h14 h15 h16 h17 h18 kc2 kc4 kc5 kc6 kc7 kc8 kc9 kc10 kc11 kc12 kc13 kc14 kc15 kc16 kc17 kc18 V3 v0_locals o3.2.1 o3.2.2.1 o3.2.2.2.1 o3.2.2.2.2.1 o3.2.2.2.2.2.1 v1_size o3.2.2.2.2.2.2 c2 v3_globals v3_procedures v3_statements c4 c5 c6 c7 c8 c9 c10 c11 c12 c13 c14 c15 c16 c17 c2x) := hD.sub [0, 17, 18, 1, 2, 3, 4, 5, 6, 7, 8, 9, 10, 11, 12, 13, 14, 15, 16] (by decide) rfl
    refine lv_pop hx hb dX2_readProcedure_170 rfl ?_
    have hf1 := Option.some.inj hf
    subst hf1
    have hP9 := hP.sub (ws' := (wX2_readProcedure h0 h1 h2 h3 h4 h5 h6 h7 h8 h9 h10 h11 h12 h13 h14 h15 h16 h17 h18 kc2 kc4 kc5 kc6 kc7 kc8 kc9 kc10 kc11 kc12 kc13 kc14 kc15 kc16 kc17 kc18 V3 v0_locals o3.2.1 o3.2.2.1 o3.2.2.2.1 o3.2.2.2.2.1 o3.2.2.2.2.2.1 v1_size o3.2.2.2.2.2.2 c2 v3_globals v3_procedures v3_statements c4 c5 c6 c7 c8 c9 c10 c11 c12 c13 c14 c15 c16 c17 c2x)) [0, 1, 2, 3, 4, 5, 6, 7, 8, 9, 10, 11, 12, 13, 14, 15, 16, 17, 18] rfl
    have hD9 := hD.sub (ws' := (wX2_readProcedure h0 h1 h2 h3 h4 h5 h6 h7 h8 h9 h10 h11 h12 h13 h14 h15 h16 h17 h18 kc2 kc4 kc5 kc6 kc7 kc8 kc9 kc10 kc11 kc12 kc13 kc14 kc15 kc16 kc17 kc18 V3 v0_locals o3.2.1 o3.2.2.1 o3.2.2.2.1 o3.2.2.2.2.1 o3.2.2.2.2.2.1 v1_size o3.2.2.2.2.2.2 c2 v3_globals v3_procedures v3_statements c4 c5 c6 c7 c8 c9 c10 c11 c12 c13 c14 c15 c16 c17 c2x)) [0, 1, 2, 3, 4, 5, 6, 7, 8, 9, 10, 11, 12, 13, 14, 15, 16, 17, 18] (by decide) rfl
    exact W.vret hx hb hr (fun t ht hW => ⟨⟨(v0_locals, o3.2.1, o3.2.2.1, o3.2.2.2.1, o3.2.2.2.2.1, o3.2.2.2.2.2.1, o3.2.2.2.2.2.2, v3_globals, v3_procedures, v3_statements, c4, c5, c6, c7, c8, c9, c10, c11, c12, c13, c14, c15, c16, c17, c2x), rfl, rfl, by rw [ht]; exact hP9, va_K.moved hW.alike hK, hD9⟩, hS.F ht⟩) hS.2.2 dX2_readProcedure_171
  have J135 : ∀ (y1 : Int32) (v0_locals : Int32) (v1_token : Int32) (v1_tokenAt : Int32) (v1_name : Int64) (v1_fault : Int32) (v1_faultAt : Int32) (v1_next : Int32) (v3_globals : Int32) (v3_procedures : Int32) (v3_statements : Int32) (c4 : (Nat → Int64)) (c5 : (Nat → Int64)) (c6 : (Nat → Int32)) (c7 : (Nat → Int32)) (c8 : (Nat → Int32)) (c9 : (Nat → Int64)) (c10 : (Nat → Int32)) (c11 : (Nat → Int32)) (c12 : (Nat → Int32)) (c13 : (Nat → Int32)) (c14 : (Nat → Int32)) (c15 : (Nat → Int32)) (c16 : (Nat → Int64)) (c17 : (Nat → Int32)) (c18 : (Nat → Int32)) (H : Heap) (locs : List Loc) (ls : Array Slot), va_P (dC, dI) vwCl (wX2_readProcedure h0 h1 h2 h3 h4 h5 h6 h7 h8 h9 h10 h11 h12 h13 h14 h15 h16 h17 h18 kc2 kc4 kc5 kc6 kc7 kc8 kc9 kc10 kc11 kc12 kc13 kc14 kc15 kc16 kc17 kc18 V3 v0_locals v1_token v1_tokenAt v1_name v1_fault v1_faultAt v1_size v1_next c2 v3_globals v3_procedures v3_statements c4 c5 c6 c7 c8 c9 c10 c11 c12 c13 c14 c15 c16 c17 c18) H → va_D A (wX2_readProcedure h0 h1 h2 h3 h4 h5 h6 h7 h8 h9 h10 h11 h12 h13 h14 h15 h16 h17 h18 kc2 kc4 kc5 kc6 kc7 kc8 kc9 kc10 kc11 kc12 kc13 kc14 kc15 kc16 kc17 kc18 V3 v0_locals v1_token v1_tokenAt v1_name v1_fault v1_faultAt v1_size v1_next c2 v3_globals v3_procedures v3_statements c4 c5 c6 c7 c8 c9 c10 c11 c12 c13 c14 c15 c16 c17 c18) → va_S A s.heap H locs → lv_has ls 3 [(0, .ref h0), (1, .int y1)] → fX2_readProcedure_p135 v1_size c2  y1 v0_locals v1_token v1_tokenAt v1_name v1_fault v1_faultAt v1_next v3_globals v3_procedures v3_statements c4 c5 c6 c7 c8 c9 c10 c11 c12 c13 c14 c15 c16 c17 c18 = some o → G 0 0 H locs (F0 m 135 ls []) := by
    intro  y1 v0_locals v1_token v1_tokenAt v1_name v1_fault v1_faultAt v1_next v3_globals v3_procedures v3_statements c4 c5 c6 c7 c8 c9 c10 c11 c12 c13 c14 c15 c16 c17 c18 H locs ls hP hD hS hl hf
    refine (hG _ _ _ _ _).mpr ?_
    unfold fX2_readProcedure_p135 at hf
    refine lv_aload_n hx hb dX2_readProcedure_135 rfl (lv_at hl 0 rfl) ?_
    refine lv_iconst (v := (-1)) hx hb dX2_readProcedure_136 (by decide +kernel) ?_
    refine lv_iconst (v := 1) hx hb dX2_readProcedure_137 (by decide +kernel) ?_
    obtain ⟨o4, e4, hf⟩ := ob_some hf
    refine kVi (As := [.int (-1), .int 1]) (rest := []) ⟨hx, hb, hml, hown, hts⟩ (mX2_readStatements l dC dI h0 h1 h3 h6 h7 h8 h9 h10 h11 h12 h13 h14 h15 h2 h5 h16 h17 kc6 kc7 kc8 kc9 kc10 kc11 kc12 kc13 kc14 kc15 kc2 kc5 kc16 kc17 H.size base (-1) 1 v0_locals v1_token v1_tokenAt v1_name v1_fault v1_faultAt v1_size v1_next v3_globals v3_procedures v3_statements c6 c7 c8 c9 c10 c11 c12 c13 c14 c15 c2 c5 c16 c17 (fun k => match k with | 4 => .ref h4 | _ => .null) (fun k => match k with | 4 => .ref h18 | k => V3 k) o4 e4) (cwV 2 hts (gTV q706 q707 q708 q27 q709) rfl rfl rfl (by decide +kernel) ⟨Nat.le_of_ble_eq_true rfl, Nat.le_of_ble_eq_true rfl⟩) hK hP hD hS hA hE hAB [0, 1, 3, 6, 7, 8, 9, 10, 11, 12, 13, 14, 15, 2, 5, 16, 17] [4, 18] [3, 4, 5, 6, 7, 8, 9, 10, 11, 12, 0, 2, 13, 14] (wr := [(h4, .inl (kc4, 6, .inr (.inl c4))), (h18, .inl (kc18, 6, .inl c18))]) rfl rfl (by decide) (by decide) (by decide) rfl (ci := 2) (q0 := 0) rfl rfl rfl rfl hl.1 rfl (Nat.le_of_ble_eq_true rfl) dX2_readProcedure_138 ⟨Nat.zero_le _, Nat.zero_le _⟩ (fun r4 u4 H locs hw4 hP hD hS => ?_)
    obtain ⟨hw41, hw42⟩ := hw4
    subst hw41 hw42
    have hP : va_P (dC, dI) vwCl (wX2_readProcedure h0 h1 h2 h3 h4 h5 h6 h7 h8 h9 h10 h11 h12 h13 h14 h15 h16 h17 h18 kc2 kc4 kc5 kc6 kc7 kc8 kc9 kc10 kc11 kc12 kc13 kc14 kc15 kc16 kc17 kc18 V3 v0_locals o4.2.1 o4.2.2.1 o4.2.2.2.1 o4.2.2.2.2.1 o4.2.2.2.2.2.1 v1_size o4.2.2.2.2.2.2.1 c2 v3_globals v3_procedures o4.2.2.2.2.2.2.2.1 c4 c5 o4.2.2.2.2.2.2.2.2.1 o4.2.2.2.2.2.2.2.2.2.1 o4.2.2.2.2.2.2.2.2.2.2.1 o4.2.2.2.2.2.2.2.2.2.2.2.1 o4.2.2.2.2.2.2.2.2.2.2.2.2.1 o4.2.2.2.2.2.2.2.2.2.2.2.2.2.1 o4.2.2.2.2.2.2.2.2.2.2.2.2.2.2.1 o4.2.2.2.2.2.2.2.2.2.2.2.2.2.2.2.1 o4.2.2.2.2.2.2.2.2.2.2.2.2.2.2.2.2.1 o4.2.2.2.2.2.2.2.2.2.2.2.2.2.2.2.2.2.1 o4.2.2.2.2.2.2.2.2.2.2.2.2.2.2.2.2.2.2.1 o4.2.2.2.2.2.2.2.2.2.2.2.2.2.2.2.2.2.2.2 c18) H := hP.sub [2, 3, 15, 4, 0, 16, 5, 6, 7, 8, 9, 10, 11, 12, 13, 14, 17, 18, 1] rfl
    have hD : va_D A (wX2_readProcedure h0 h1 h2 h3 h4 h5 h6 h7 h8 h9 h10 h11 h12 h13 h14 h15 h16 h17 h18 kc2 kc4 kc5 kc6 kc7 kc8 kc9 kc10 kc11 kc12 kc13 kc14 kc15 kc16 kc17 kc18 V3 v0_locals o4.2.1 o4.2.2.1 o4.2.2.2.1 o4.2.2.2.2.1 o4.2.2.2.2.2.1 v1_size o4.2.2.2.2.2.2.1 c2 v3_globals v3_procedures o4.2.2.2.2.2.2.2.1 c4 c5 o4.2.2.2.2.2.2.2.2.1 o4.2.2.2.2.2.2.2.2.2.1 o4.2.2.2.2.2.2.2.2.2.2.1 o4.2.2.2.2.2.2.2.2.2.2.2.1 o4.2.2.2.2.2.2.2.2.2.2.2.2.1 o4.2.2.2.2.2.2.2.2.2.2.2.2.2.1 o4.2.2.2.2.2.2.2.2.2.2.2.2.2.2.1 o4.2.2.2.2.2.2.2.2.2.2.2.2.2.2.2.1 o4.2.2.2.2.2.2.2.2.2.2.2.2.2.2.2.2.1 o4.2.2.2.2.2.2.2.2.2.2.2.2.2.2.2.2.2.1 o4.2.2.2.2.2.2.2.2.2.2.2.2.2.2.2.2.2.2.1 o4.2.2.2.2.2.2.2.2.2.2.2.2.2.2.2.2.2.2.2 c18) := hD.sub [2, 3, 15, 4, 0, 16, 5, 6, 7, 8, 9, 10, 11, 12, 13, 14, 17, 18, 1] (by decide) rfl
    refine lv_istore_n (lv' := [(2, .int o4.1), (0, .ref h0), (1, .int y1)]) hx hb dX2_readProcedure_141 rfl hl (by decide) rfl (fun ls hl => ?_)
    refine lv_aload_n hx hb dX2_readProcedure_142 rfl (lv_at hl 1 rfl) ?_
    refine va_get (D := (dC, dI)) (ci := 2) (v := .ref h3) (C := RX2) (T := TX2) (N := 7) hx hb hts inlX2 hown hK hP 0 rfl rfl 1 (by decide) w1_ (fun _ h9 => h9) rfl dX2_readProcedure_143 ?_
    refine va_get (D := (dC, dI)) (ci := 3) (v := .ref h18) (C := RX3) (T := TX3) (N := 18) hx hb hts inlX3 hown hK hP 3 rfl rfl 4 (by decide) w2_ (fun _ h9 => h9) rfl dX2_readProcedure_146 ?_
    refine lv_iload_n hx hb dX2_readProcedure_149 rfl (lv_at hl 2 rfl) ?_
    refine lv_iload_n hx hb dX2_readProcedure_150 rfl (lv_at hl 0 rfl) ?_
    refine lv_iconst (v := (-1)) hx hb dX2_readProcedure_151 (by decide +kernel) ?_
    refine lv_icmp_ne (tgt := 159) hx hb dX2_readProcedure_152 (by decide) (fun cq5 => ?_) (fun cq5 => ?_)
    · replace hf := if_no hf cq5
      refine lv_iload_n hx hb dX2_readProcedure_159 rfl (lv_at hl 0 rfl) ?_
      exact (hG _ _ _ _ _).mp (J160 o4.1 y1 v0_locals o4.2.1 o4.2.2.1 o4.2.2.2.1 o4.2.2.2.2.1 o4.2.2.2.2.2.1 o4.2.2.2.2.2.2.1 v3_globals v3_procedures o4.2.2.2.2.2.2.2.1 c4 c5 o4.2.2.2.2.2.2.2.2.1 o4.2.2.2.2.2.2.2.2.2.1 o4.2.2.2.2.2.2.2.2.2.2.1 o4.2.2.2.2.2.2.2.2.2.2.2.1 o4.2.2.2.2.2.2.2.2.2.2.2.2.1 o4.2.2.2.2.2.2.2.2.2.2.2.2.2.1 o4.2.2.2.2.2.2.2.2.2.2.2.2.2.2.1 o4.2.2.2.2.2.2.2.2.2.2.2.2.2.2.2.1 o4.2.2.2.2.2.2.2.2.2.2.2.2.2.2.2.2.1 o4.2.2.2.2.2.2.2.2.2.2.2.2.2.2.2.2.2.1 o4.2.2.2.2.2.2.2.2.2.2.2.2.2.2.2.2.2.2.1 o4.2.2.2.2.2.2.2.2.2.2.2.2.2.2.2.2.2.2.2 c18 H locs ls (hP.sub [0, 1, 2, 3, 4, 5, 6, 7, 8, 9, 10, 11, 12, 13, 14, 15, 16, 17, 18] rfl) (hD.sub [0, 1, 2, 3, 4, 5, 6, 7, 8, 9, 10, 11, 12, 13, 14, 15, 16, 17, 18] (by decide) rfl) hS (lv_sub hl [1] rfl) hf)
    · replace hf := if_at hf cq5
      refine lv_iconst (v := (-1)) hx hb dX2_readProcedure_155 (by decide +kernel) ?_
      refine lv_goto (tgt := 160) hx hb dX2_readProcedure_156 (by decide) ?_
      exact (hG _ _ _ _ _).mp (J160 (-1) y1 v0_locals o4.2.1 o4.2.2.1 o4.2.2.2.1 o4.2.2.2.2.1 o4.2.2.2.2.2.1 o4.2.2.2.2.2.2.1 v3_globals v3_procedures o4.2.2.2.2.2.2.2.1 c4 c5 o4.2.2.2.2.2.2.2.2.1 o4.2.2.2.2.2.2.2.2.2.1 o4.2.2.2.2.2.2.2.2.2.2.1 o4.2.2.2.2.2.2.2.2.2.2.2.1 o4.2.2.2.2.2.2.2.2.2.2.2.2.1 o4.2.2.2.2.2.2.2.2.2.2.2.2.2.1 o4.2.2.2.2.2.2.2.2.2.2.2.2.2.2.1 o4.2.2.2.2.2.2.2.2.2.2.2.2.2.2.2.1 o4.2.2.2.2.2.2.2.2.2.2.2.2.2.2.2.2.1 o4.2.2.2.2.2.2.2.2.2.2.2.2.2.2.2.2.2.1 o4.2.2.2.2.2.2.2.2.2.2.2.2.2.2.2.2.2.2.1 o4.2.2.2.2.2.2.2.2.2.2.2.2.2.2.2.2.2.2.2 c18 H locs ls (hP.sub [0, 1, 2, 3, 4, 5, 6, 7, 8, 9, 10, 11, 12, 13, 14, 15, 16, 17, 18] rfl) (hD.sub [0, 1, 2, 3, 4, 5, 6, 7, 8, 9, 10, 11, 12, 13, 14, 15, 16, 17, 18] (by decide) rfl) hS (lv_sub hl [1] rfl) hf)
  refine (hG _ _ _ _ _).mpr ?_
  obtain ⟨H, hH⟩ : ∃ H, H = s.heap := ⟨_, rfl⟩
  have hS : va_S A s.heap H [] := by rw [hH]; exact hS
  rw [← hH] at hP ⊢
  generalize ([] : List Loc) = locs at hS ⊢
  unfold fX2_readProcedure at hf
  refine lv_aload_n hx hb dX2_readProcedure_0 rfl (lv_at hl 0 rfl) ?_
  refine va_get (D := (dC, dI)) (ci := 2) (v := .ref h1) (C := RX2) (T := TX2) (N := 7) hx hb hts inlX2 hown hK hP 0 rfl rfl 0 (by decide) w0_ (fun _ h9 => h9) rfl dX2_readProcedure_1 ?_
  refine lv_sipush (v := 260) hx hb dX2_readProcedure_4 (by decide +kernel) ?_
  obtain ⟨o6, e6, hf⟩ := ob_some hf
  refine kVi (As := [.int 260]) (rest := []) ⟨hx, hb, hml, hown, hts⟩ (mX4_skipToken l dC dI h1 h2 kc2 H.size base 260 v1_token v1_tokenAt v1_name v1_fault v1_faultAt v1_size v1_next c2 o6 e6) (cwV 1 hts (gTV q687 q688 q689 q19 q690) rfl rfl rfl (by decide +kernel) ⟨Nat.le_of_ble_eq_true rfl, Nat.le_of_ble_eq_true rfl⟩) hK hP hD hS hA hE hAB [1, 2] [0, 3, 4, 5, 6, 7, 8, 9, 10, 11, 12, 13, 14, 15, 16, 17, 18] [0] (wr := [(h0, .inr (2, [.ref h1, .ref h3, .ref h5, .int v0_locals, .ref h4, .ref h16, .ref h17])), (h3, .inr (3, [V3 0, .int v3_globals, .int v3_procedures, .int v3_statements, .ref h18, .ref h6, .ref h7, .ref h8, .ref h9, .ref h10, .ref h11, V3 11, V3 12, .ref h12, .ref h13, .ref h14, .ref h15, V3 17])), (h4, .inl (kc4, 6, .inr (.inl c4))), (h5, .inl (kc5, 5, .inr (.inl c5))), (h6, .inl (kc6, 40, .inl c6)), (h7, .inl (kc7, 40, .inl c7)), (h8, .inl (kc8, 40, .inl c8)), (h9, .inl (kc9, 40, .inr (.inl c9))), (h10, .inl (kc10, 40, .inl c10)), (h11, .inl (kc11, 40, .inl c11)), (h12, .inl (kc12, 40, .inl c12)), (h13, .inl (kc13, 40, .inl c13)), (h14, .inl (kc14, 40, .inl c14)), (h15, .inl (kc15, 40, .inl c15)), (h16, .inl (kc16, 40, .inr (.inl c16))), (h17, .inl (kc17, 40, .inl c17)), (h18, .inl (kc18, 6, .inl c18))]) rfl rfl (by decide) (by decide) (by decide) rfl (ci := 4) (q0 := 0) rfl rfl rfl rfl hl.1 rfl (Nat.le_of_ble_eq_true rfl) dX2_readProcedure_7 ⟨Nat.zero_le _, Nat.zero_le _⟩ (fun r6 u6 H locs hw6 hP hD hS => ?_)
  obtain ⟨hw61, hw62⟩ := hw6
  subst hw61 hw62
  have hP : va_P (dC, dI) vwCl (wX2_readProcedure h0 h1 h2 h3 h4 h5 h6 h7 h8 h9 h10 h11 h12 h13 h14 h15 h16 h17 h18 kc2 kc4 kc5 kc6 kc7 kc8 kc9 kc10 kc11 kc12 kc13 kc14 kc15 kc16 kc17 kc18 V3 v0_locals o6.2.1 o6.2.2.1 o6.2.2.2.1 o6.2.2.2.2.1 o6.2.2.2.2.2.1 v1_size o6.2.2.2.2.2.2 c2 v3_globals v3_procedures v3_statements c4 c5 c6 c7 c8 c9 c10 c11 c12 c13 c14 c15 c16 c17 c18) H := hP.sub [0, 17, 18, 1, 2, 3, 4, 5, 6, 7, 8, 9, 10, 11, 12, 13, 14, 15, 16] rfl
  have hD : va_D A (wX2_readProcedure h0 h1 h2 h3 h4 h5 h6 h7 h8 h9 h10 h11 h12 h13 h14 h15 h16 h17 h18 kc2 kc4 kc5 kc6 kc7 kc8 kc9 kc10 kc11 kc12 kc13 kc14 kc15 kc16 kc17 kc18 V3 v0_locals o6.2.1 o6.2.2.1 o6.2.2.2.1 o6.2.2.2.2.1 o6.2.2.2.2.2.1 v1_size o6.2.2.2.2.2.2 c2 v3_globals v3_procedures v3_statements c4 c5 c6 c7 c8 c9 c10 c11 c12 c13 c14 c15 c16 c17 c18) := hD.sub [0, 17, 18, 1, 2, 3, 4, 5, 6, 7, 8, 9, 10, 11, 12, 13, 14, 15, 16] (by decide) rfl
  refine lv_if_ne (tgt := 14) hx hb dX2_readProcedure_10 (by decide) (fun cq7 => ?_) (fun cq7 => ?_)
  · replace hf := if_no hf cq7
    refine lv_aload_n hx hb dX2_readProcedure_14 rfl (lv_at hl 0 rfl) ?_
    refine va_get (D := (dC, dI)) (ci := 2) (v := .ref h1) (C := RX2) (T := TX2) (N := 7) hx hb hts inlX2 hown hK hP 0 rfl rfl 0 (by decide) w0_ (fun _ h9 => h9) rfl dX2_readProcedure_15 ?_
    refine va_get (D := (dC, dI)) (ci := 4) (v := .int o6.2.1) (C := RX4) (T := TX4) (N := 8) hx hb hts inlX4 hown hK hP 1 rfl rfl 0 (by decide) w3_ (fun _ h9 => h9) rfl dX2_readProcedure_18 ?_
    refine lv_sipush (v := 258) hx hb dX2_readProcedure_21 (by decide +kernel) ?_
    refine lv_icmp_eq (tgt := 36) hx hb dX2_readProcedure_24 (by decide) (fun cq8 => ?_) (fun cq8 => ?_)
    · replace hf := if_at hf cq8
      refine lv_aload_n hx hb dX2_readProcedure_36 rfl (lv_at hl 0 rfl) ?_
      refine va_get (D := (dC, dI)) (ci := 2) (v := .ref h3) (C := RX2) (T := TX2) (N := 7) hx hb hts inlX2 hown hK hP 0 rfl rfl 1 (by decide) w1_ (fun _ h9 => h9) rfl dX2_readProcedure_37 ?_
      refine va_get (D := (dC, dI)) (ci := 3) (v := .int v3_procedures) (C := RX3) (T := TX3) (N := 18) hx hb hts inlX3 hown hK hP 3 rfl rfl 2 (by decide) w4_ (fun _ h9 => h9) rfl dX2_readProcedure_40 ?_
      refine lv_istore_n (lv' := [(1, .int v3_procedures), (0, .ref h0)]) hx hb dX2_readProcedure_43 rfl hl (by decide) rfl (fun ls hl => ?_)
      refine lv_iload_n hx hb dX2_readProcedure_44 rfl (lv_at hl 0 rfl) ?_
      refine lv_bipush (v := 6) hx hb dX2_readProcedure_45 (by decide +kernel) ?_
      refine lv_icmp_ge (tgt := 65) hx hb dX2_readProcedure_47 (by decide) (fun cq9 => ?_) (fun cq9 => ?_)
      · replace hf := if_at hf cq9
        exact (hG _ _ _ _ _).mp (J65 v0_locals o6.2.1 o6.2.2.1 o6.2.2.2.1 o6.2.2.2.2.1 o6.2.2.2.2.2.1 o6.2.2.2.2.2.2 v3_globals v3_procedures v3_statements c4 c5 c6 c7 c8 c9 c10 c11 c12 c13 c14 c15 c16 c17 c18 H locs ls (hP.sub [0, 1, 2, 3, 4, 5, 6, 7, 8, 9, 10, 11, 12, 13, 14, 15, 16, 17, 18] rfl) (hD.sub [0, 1, 2, 3, 4, 5, 6, 7, 8, 9, 10, 11, 12, 13, 14, 15, 16, 17, 18] (by decide) rfl) hS (lv_sub hl [1] rfl) hf)
      · replace hf := if_no hf cq9
        refine lv_aload_n hx hb dX2_readProcedure_50 rfl (lv_at hl 1 rfl) ?_
        refine lv_aload_n hx hb dX2_readProcedure_51 rfl (lv_at hl 1 rfl) ?_
        refine va_get (D := (dC, dI)) (ci := 2) (v := .ref h1) (C := RX2) (T := TX2) (N := 7) hx hb hts inlX2 hown hK hP 0 rfl rfl 0 (by decide) w0_ (fun _ h9 => h9) rfl dX2_readProcedure_52 ?_
        refine va_get (D := (dC, dI)) (ci := 4) (v := .long o6.2.2.2.1) (C := RX4) (T := TX4) (N := 8) hx hb hts inlX4 hown hK hP 1 rfl rfl 2 (by decide) w5_ (fun _ h9 => h9) rfl dX2_readProcedure_55 ?_
        obtain ⟨o10, e10, hf⟩ := ob_some hf
        refine kVi (As := [.long o6.2.2.2.1]) (rest := []) ⟨hx, hb, hml, hown, hts⟩ (mX2_findProcedure l dC dI h0 h3 h4 kc4 H.size base o6.2.2.2.1 v3_procedures c4 (fun k => match k with | 0 => .ref h1 | 2 => .ref h5 | 3 => .int v0_locals | 5 => .ref h16 | 6 => .ref h17 | _ => .null) (fun k => match k with | 1 => .int v3_globals | 3 => .int v3_statements | 4 => .ref h18 | 5 => .ref h6 | 6 => .ref h7 | 7 => .ref h8 | 8 => .ref h9 | 9 => .ref h10 | 10 => .ref h11 | 13 => .ref h12 | 14 => .ref h13 | 15 => .ref h14 | 16 => .ref h15 | k => V3 k) o10 e10) (cwV 1 hts (gTV q698 q699 q700 q27 q701) rfl rfl rfl (by decide +kernel) ⟨Nat.le_of_ble_eq_true rfl, Nat.le_of_ble_eq_true rfl⟩) hK hP hD hS hA hE hAB [0, 3, 4] [1, 2, 5, 6, 7, 8, 9, 10, 11, 12, 13, 14, 15, 16, 17, 18] [1] (wr := [(h1, .inr (4, [.int o6.2.1, .int o6.2.2.1, .long o6.2.2.2.1, .int o6.2.2.2.2.1, .int o6.2.2.2.2.2.1, .ref h2, .int v1_size, .int o6.2.2.2.2.2.2])), (h2, .inl (kc2, 600, .inl c2)), (h5, .inl (kc5, 5, .inr (.inl c5))), (h6, .inl (kc6, 40, .inl c6)), (h7, .inl (kc7, 40, .inl c7)), (h8, .inl (kc8, 40, .inl c8)), (h9, .inl (kc9, 40, .inr (.inl c9))), (h10, .inl (kc10, 40, .inl c10)), (h11, .inl (kc11, 40, .inl c11)), (h12, .inl (kc12, 40, .inl c12)), (h13, .inl (kc13, 40, .inl c13)), (h14, .inl (kc14, 40, .inl c14)), (h15, .inl (kc15, 40, .inl c15)), (h16, .inl (kc16, 40, .inr (.inl c16))), (h17, .inl (kc17, 40, .inl c17)), (h18, .inl (kc18, 6, .inl c18))]) rfl rfl (by decide) (by decide) (by decide) rfl (ci := 2) (q0 := 0) rfl rfl rfl rfl hl.1 rfl (Nat.le_of_ble_eq_true rfl) dX2_readProcedure_58 ⟨Nat.zero_le _, Nat.zero_le _⟩ (fun r10 u10 H locs hw10 hP hD hS => ?_)
        obtain ⟨hw101, hw102⟩ := hw10
        subst hw101 hw102
        have hP : va_P (dC, dI) vwCl (wX2_readProcedure h0 h1 h2 h3 h4 h5 h6 h7 h8 h9 h10 h11 h12 h13 h14 h15 h16 h17 h18 kc2 kc4 kc5 kc6 kc7 kc8 kc9 kc10 kc11 kc12 kc13 kc14 kc15 kc16 kc17 kc18 V3 v0_locals o6.2.1 o6.2.2.1 o6.2.2.2.1 o6.2.2.2.2.1 o6.2.2.2.2.2.1 v1_size o6.2.2.2.2.2.2 c2 v3_globals v3_procedures v3_statements c4 c5 c6 c7 c8 c9 c10 c11 c12 c13 c14 c15 c16 c17 c18) H := hP.sub [16, 0, 1, 17, 18, 2, 3, 4, 5, 6, 7, 8, 9, 10, 11, 12, 13, 14, 15] rfl
        have hD : va_D A (wX2_readProcedure h0 h1 h2 h3 h4 h5 h6 h7 h8 h9 h10 h11 h12 h13 h14 h15 h16 h17 h18 kc2 kc4 kc5 kc6 kc7 kc8 kc9 kc10 kc11 kc12 kc13 kc14 kc15 kc16 kc17 kc18 V3 v0_locals o6.2.1 o6.2.2.1 o6.2.2.2.1 o6.2.2.2.2.1 o6.2.2.2.2.2.1 v1_size o6.2.2.2.2.2.2 c2 v3_globals v3_procedures v3_statements c4 c5 c6 c7 c8 c9 c10 c11 c12 c13 c14 c15 c16 c17 c18) := hD.sub [16, 0, 1, 17, 18, 2, 3, 4, 5, 6, 7, 8, 9, 10, 11, 12, 13, 14, 15] (by decide) rfl
        refine lv_iconst (v := (-1)) hx hb dX2_readProcedure_61 (by decide +kernel) ?_
        refine lv_icmp_eq (tgt := 74) hx hb dX2_readProcedure_62 (by decide) (fun cq11 => ?_) (fun cq11 => ?_)
        · replace hf := if_at hf cq11
          refine lv_aload_n hx hb dX2_readProcedure_74 rfl (lv_at hl 1 rfl) ?_
          refine va_get (D := (dC, dI)) (ci := 2) (v := .ref h4) (C := RX2) (T := TX2) (N := 7) hx hb hts inlX2 hown hK hP 0 rfl rfl 4 (by decide) w6_ (fun _ h9 => h9) rfl dX2_readProcedure_75 ?_
          refine lv_iload_n hx hb dX2_readProcedure_78 rfl (lv_at hl 0 rfl) ?_
          refine lv_aload_n hx hb dX2_readProcedure_79 rfl (lv_at hl 1 rfl) ?_
          refine va_get (D := (dC, dI)) (ci := 2) (v := .ref h1) (C := RX2) (T := TX2) (N := 7) hx hb hts inlX2 hown hK hP 0 rfl rfl 0 (by decide) w0_ (fun _ h9 => h9) rfl dX2_readProcedure_80 ?_
          refine va_get (D := (dC, dI)) (ci := 4) (v := .long o6.2.2.2.1) (C := RX4) (T := TX4) (N := 8) hx hb hts inlX4 hown hK hP 1 rfl rfl 2 (by decide) w5_ (fun _ h9 => h9) rfl dX2_readProcedure_83 ?_
          have b12 := bd_in hf
          replace hf := bd_k hf
          obtain ⟨c12x, e12⟩ : ∃ y, y = vp_updL c4 v3_procedures.toNatClampNeg o6.2.2.2.1 := ⟨_, rfl⟩
          replace hf := nm_at hf e12
          refine va_last hx hb hK hP hD hS 4 1 rfl rfl b12 dX2_readProcedure_86 (fun H locs hP hD hS => ?_)
          have hP : va_P (dC, dI) vwCl (wX2_readProcedure h0 h1 h2 h3 h4 h5 h6 h7 h8 h9 h10 h11 h12 h13 h14 h15 h16 h17 h18 kc2 kc4 kc5 kc6 kc7 kc8 kc9 kc10 kc11 kc12 kc13 kc14 kc15 kc16 kc17 kc18 V3 v0_locals o6.2.1 o6.2.2.1 o6.2.2.2.1 o6.2.2.2.2.1 o6.2.2.2.2.2.1 v1_size o6.2.2.2.2.2.2 c2 v3_globals v3_procedures v3_statements c12x c5 c6 c7 c8 c9 c10 c11 c12 c13 c14 c15 c16 c17 c18) H := by rw [e12]; exact hP
          have hD : va_D A (wX2_readProcedure h0 h1 h2 h3 h4 h5 h6 h7 h8 h9 h10 h11 h12 h13 h14 h15 h16 h17 h18 kc2 kc4 kc5 kc6 kc7 kc8 kc9 kc10 kc11 kc12 kc13 kc14 kc15 kc16 kc17 kc18 V3 v0_locals o6.2.1 o6.2.2.1 o6.2.2.2.1 o6.2.2.2.2.1 o6.2.2.2.2.2.1 v1_size o6.2.2.2.2.2.2 c2 v3_globals v3_procedures v3_statements c12x c5 c6 c7 c8 c9 c10 c11 c12 c13 c14 c15 c16 c17 c18) := by rw [e12]; exact hD
          refine lv_aload_n hx hb dX2_readProcedure_87 rfl (lv_at hl 1 rfl) ?_
          refine va_get (D := (dC, dI)) (ci := 2) (v := .ref h3) (C := RX2) (T := TX2) (N := 7) hx hb hts inlX2 hown hK hP 0 rfl rfl 1 (by decide) w1_ (fun _ h9 => h9) rfl dX2_readProcedure_88 ?_
          refine lv_dup hx hb dX2_readProcedure_91 rfl ?_
          refine va_get (D := (dC, dI)) (ci := 3) (v := .int v3_procedures) (C := RX3) (T := TX3) (N := 18) hx hb hts inlX3 hown hK hP 3 rfl rfl 2 (by decide) w4_ (fun _ h9 => h9) rfl dX2_readProcedure_92 ?_
          refine lv_iconst (v := 1) hx hb dX2_readProcedure_95 (by decide +kernel) ?_
          refine lv_iadd hx hb dX2_readProcedure_96 ?_
          refine lv_topi (fun x13 e13 => ?_)
          replace hf := nm_at hf e13
          refine va_put (D := (dC, dI)) (ci := 3) (v := .int x13) (ty := .int) (C := RX3) (T := TX3) (N := 18) hx hb hts inlX3 tyX3 tyX3_ok nmX3 hown hK hP hD hS 3 rfl rfl 2 (by decide) w4_ (fun _ h9 => h9) rfl (by decide +kernel) rfl rfl (Nat.le_of_ble_eq_true rfl) dX2_readProcedure_97 (fun H locs hP hD hS => ?_)
          have hP : va_P (dC, dI) vwCl (wX2_readProcedure h0 h1 h2 h3 h4 h5 h6 h7 h8 h9 h10 h11 h12 h13 h14 h15 h16 h17 h18 kc2 kc4 kc5 kc6 kc7 kc8 kc9 kc10 kc11 kc12 kc13 kc14 kc15 kc16 kc17 kc18 V3 v0_locals o6.2.1 o6.2.2.1 o6.2.2.2.1 o6.2.2.2.2.1 o6.2.2.2.2.2.1 v1_size o6.2.2.2.2.2.2 c2 v3_globals x13 v3_statements c12x c5 c6 c7 c8 c9 c10 c11 c12 c13 c14 c15 c16 c17 c18) H := hP
          have hD : va_D A (wX2_readProcedure h0 h1 h2 h3 h4 h5 h6 h7 h8 h9 h10 h11 h12 h13 h14 h15 h16 h17 h18 kc2 kc4 kc5 kc6 kc7 kc8 kc9 kc10 kc11 kc12 kc13 kc14 kc15 kc16 kc17 kc18 V3 v0_locals o6.2.1 o6.2.2.1 o6.2.2.2.1 o6.2.2.2.2.1 o6.2.2.2.2.2.1 v1_size o6.2.2.2.2.2.2 c2 v3_globals x13 v3_statements c12x c5 c6 c7 c8 c9 c10 c11 c12 c13 c14 c15 c16 c17 c18) := hD
          refine lv_aload_n hx hb dX2_readProcedure_100 rfl (lv_at hl 1 rfl) ?_
          refine lv_iconst (v := 0) hx hb dX2_readProcedure_101 (by decide +kernel) ?_
          refine va_put (D := (dC, dI)) (ci := 2) (v := .int 0) (ty := .int) (C := RX2) (T := TX2) (N := 7) hx hb hts inlX2 tyX2 tyX2_ok nmX2 hown hK hP hD hS 0 rfl rfl 3 (by decide) w7_ (fun _ h9 => h9) rfl (by decide +kernel) rfl rfl (Nat.le_of_ble_eq_true rfl) dX2_readProcedure_102 (fun H locs hP hD hS => ?_)
          have hP : va_P (dC, dI) vwCl (wX2_readProcedure h0 h1 h2 h3 h4 h5 h6 h7 h8 h9 h10 h11 h12 h13 h14 h15 h16 h17 h18 kc2 kc4 kc5 kc6 kc7 kc8 kc9 kc10 kc11 kc12 kc13 kc14 kc15 kc16 kc17 kc18 V3 0 o6.2.1 o6.2.2.1 o6.2.2.2.1 o6.2.2.2.2.1 o6.2.2.2.2.2.1 v1_size o6.2.2.2.2.2.2 c2 v3_globals x13 v3_statements c12x c5 c6 c7 c8 c9 c10 c11 c12 c13 c14 c15 c16 c17 c18) H := hP
          have hD : va_D A (wX2_readProcedure h0 h1 h2 h3 h4 h5 h6 h7 h8 h9 h10 h11 h12 h13 h14 h15 h16 h17 h18 kc2 kc4 kc5 kc6 kc7 kc8 kc9 kc10 kc11 kc12 kc13 kc14 kc15 kc16 kc17 kc18 V3 0 o6.2.1 o6.2.2.1 o6.2.2.2.1 o6.2.2.2.2.1 o6.2.2.2.2.2.1 v1_size o6.2.2.2.2.2.2 c2 v3_globals x13 v3_statements c12x c5 c6 c7 c8 c9 c10 c11 c12 c13 c14 c15 c16 c17 c18) := hD
          refine lv_aload_n hx hb dX2_readProcedure_105 rfl (lv_at hl 1 rfl) ?_
          refine va_get (D := (dC, dI)) (ci := 2) (v := .ref h1) (C := RX2) (T := TX2) (N := 7) hx hb hts inlX2 hown hK hP 0 rfl rfl 0 (by decide) w0_ (fun _ h9 => h9) rfl dX2_readProcedure_106 ?_
          obtain ⟨o14, e14, hf⟩ := ob_some hf
          refine kVv (As := []) (rest := []) ⟨hx, hb, hml, hown, hts⟩ (mX4_advance l dC dI h1 h2 kc2 H.size base o6.2.1 o6.2.2.1 o6.2.2.2.1 o6.2.2.2.2.1 o6.2.2.2.2.2.1 v1_size o6.2.2.2.2.2.2 c2 o14 e14) (cwV 0 hts (gTV q672 q562 q563 q19 q564) rfl rfl rfl (by decide +kernel) ⟨Nat.le_of_ble_eq_true rfl, Nat.le_of_ble_eq_true rfl⟩) hK hP hD hS hA hE hAB [1, 2] [0, 3, 4, 5, 6, 7, 8, 9, 10, 11, 12, 13, 14, 15, 16, 17, 18] [0] (wr := [(h0, .inr (2, [.ref h1, .ref h3, .ref h5, .int 0, .ref h4, .ref h16, .ref h17])), (h3, .inr (3, [V3 0, .int v3_globals, .int x13, .int v3_statements, .ref h18, .ref h6, .ref h7, .ref h8, .ref h9, .ref h10, .ref h11, V3 11, V3 12, .ref h12, .ref h13, .ref h14, .ref h15, V3 17])), (h4, .inl (kc4, 6, .inr (.inl c12x))), (h5, .inl (kc5, 5, .inr (.inl c5))), (h6, .inl (kc6, 40, .inl c6)), (h7, .inl (kc7, 40, .inl c7)), (h8, .inl (kc8, 40, .inl c8)), (h9, .inl (kc9, 40, .inr (.inl c9))), (h10, .inl (kc10, 40, .inl c10)), (h11, .inl (kc11, 40, .inl c11)), (h12, .inl (kc12, 40, .inl c12)), (h13, .inl (kc13, 40, .inl c13)), (h14, .inl (kc14, 40, .inl c14)), (h15, .inl (kc15, 40, .inl c15)), (h16, .inl (kc16, 40, .inr (.inl c16))), (h17, .inl (kc17, 40, .inl c17)), (h18, .inl (kc18, 6, .inl c18))]) rfl rfl (by decide) (by decide) (by decide) rfl (ci := 4) (q0 := 0) rfl rfl rfl rfl hl.1 rfl (Nat.le_of_ble_eq_true rfl) dX2_readProcedure_109 ⟨Nat.zero_le _, Nat.zero_le _⟩ (fun u14 H locs hw14 hP hD hS => ?_)
          have hw141 : o14 = u14 := Eq.symm hw14
          subst hw141
          have hP : va_P (dC, dI) vwCl (wX2_readProcedure h0 h1 h2 h3 h4 h5 h6 h7 h8 h9 h10 h11 h12 h13 h14 h15 h16 h17 h18 kc2 kc4 kc5 kc6 kc7 kc8 kc9 kc10 kc11 kc12 kc13 kc14 kc15 kc16 kc17 kc18 V3 0 o14.1 o14.2.1 o14.2.2.1 o14.2.2.2.1 o14.2.2.2.2.1 v1_size o14.2.2.2.2.2 c2 v3_globals x13 v3_statements c12x c5 c6 c7 c8 c9 c10 c11 c12 c13 c14 c15 c16 c17 c18) H := hP.sub [0, 17, 18, 1, 2, 3, 4, 5, 6, 7, 8, 9, 10, 11, 12, 13, 14, 15, 16] rfl
          have hD : va_D A (wX2_readProcedure h0 h1 h2 h3 h4 h5 h6 h7 h8 h9 h10 h11 h12 h13 h14 h15 h16 h17 h18 kc2 kc4 kc5 kc6 kc7 kc8 kc9 kc10 kc11 kc12 kc13 kc14 kc15 kc16 kc17 kc18 V3 0 o14.1 o14.2.1 o14.2.2.1 o14.2.2.2.1 o14.2.2.2.2.1 v1_size o14.2.2.2.2.2 c2 v3_globals x13 v3_statements c12x c5 c6 c7 c8 c9 c10 c11 c12 c13 c14 c15 c16 c17 c18) := hD.sub [0, 17, 18, 1, 2, 3, 4, 5, 6, 7, 8, 9, 10, 11, 12, 13, 14, 15, 16] (by decide) rfl
          refine lv_aload_n hx hb dX2_readProcedure_112 rfl (lv_at hl 1 rfl) ?_
          refine lv_iconst (v := 0) hx hb dX2_readProcedure_113 (by decide +kernel) ?_
          obtain ⟨o15, e15, hf⟩ := ob_some hf
          refine kVv (As := [.int 0]) (rest := []) ⟨hx, hb, hml, hown, hts⟩ (mX2_readOpenBrace l dC dI h0 h1 h2 kc2 H.size base 0 o14.1 o14.2.1 o14.2.2.1 o14.2.2.2.1 o14.2.2.2.2.1 v1_size o14.2.2.2.2.2 c2 (fun k => match k with | 1 => .ref h3 | 2 => .ref h5 | 3 => .int 0 | 4 => .ref h4 | 5 => .ref h16 | 6 => .ref h17 | _ => .null) o15 e15) (cwV 1 hts (gTV q702 q703 q704 q27 q705) rfl rfl rfl (by decide +kernel) ⟨Nat.le_of_ble_eq_true rfl, Nat.le_of_ble_eq_true rfl⟩) hK hP hD hS hA hE hAB [0, 1, 2] [3, 4, 5, 6, 7, 8, 9, 10, 11, 12, 13, 14, 15, 16, 17, 18] [0] (wr := [(h3, .inr (3, [V3 0, .int v3_globals, .int x13, .int v3_statements, .ref h18, .ref h6, .ref h7, .ref h8, .ref h9, .ref h10, .ref h11, V3 11, V3 12, .ref h12, .ref h13, .ref h14, .ref h15, V3 17])), (h4, .inl (kc4, 6, .inr (.inl c12x))), (h5, .inl (kc5, 5, .inr (.inl c5))), (h6, .inl (kc6, 40, .inl c6)), (h7, .inl (kc7, 40, .inl c7)), (h8, .inl (kc8, 40, .inl c8)), (h9, .inl (kc9, 40, .inr (.inl c9))), (h10, .inl (kc10, 40, .inl c10)), (h11, .inl (kc11, 40, .inl c11)), (h12, .inl (kc12, 40, .inl c12)), (h13, .inl (kc13, 40, .inl c13)), (h14, .inl (kc14, 40, .inl c14)), (h15, .inl (kc15, 40, .inl c15)), (h16, .inl (kc16, 40, .inr (.inl c16))), (h17, .inl (kc17, 40, .inl c17)), (h18, .inl (kc18, 6, .inl c18))]) rfl rfl (by decide) (by decide) (by decide) rfl (ci := 2) (q0 := 0) rfl rfl rfl rfl hl.1 rfl (Nat.le_of_ble_eq_true rfl) dX2_readProcedure_114 ⟨Nat.zero_le _, Nat.zero_le _⟩ (fun u15 H locs hw15 hP hD hS => ?_)
          have hw151 : o15 = u15 := Eq.symm hw15
          subst hw151
          have hP : va_P (dC, dI) vwCl (wX2_readProcedure h0 h1 h2 h3 h4 h5 h6 h7 h8 h9 h10 h11 h12 h13 h14 h15 h16 h17 h18 kc2 kc4 kc5 kc6 kc7 kc8 kc9 kc10 kc11 kc12 kc13 kc14 kc15 kc16 kc17 kc18 V3 0 o15.1 o15.2.1 o15.2.2.1 o15.2.2.2.1 o15.2.2.2.2.1 v1_size o15.2.2.2.2.2 c2 v3_globals x13 v3_statements c12x c5 c6 c7 c8 c9 c10 c11 c12 c13 c14 c15 c16 c17 c18) H := hP.sub [16, 17, 18, 0, 1, 2, 3, 4, 5, 6, 7, 8, 9, 10, 11, 12, 13, 14, 15] rfl
          have hD : va_D A (wX2_readProcedure h0 h1 h2 h3 h4 h5 h6 h7 h8 h9 h10 h11 h12 h13 h14 h15 h16 h17 h18 kc2 kc4 kc5 kc6 kc7 kc8 kc9 kc10 kc11 kc12 kc13 kc14 kc15 kc16 kc17 kc18 V3 0 o15.1 o15.2.1 o15.2.2.1 o15.2.2.2.1 o15.2.2.2.2.1 v1_size o15.2.2.2.2.2 c2 v3_globals x13 v3_statements c12x c5 c6 c7 c8 c9 c10 c11 c12 c13 c14 c15 c16 c17 c18) := hD.sub [16, 17, 18, 0, 1, 2, 3, 4, 5, 6, 7, 8, 9, 10, 11, 12, 13, 14, 15] (by decide) rfl
          refine lv_aload_n hx hb dX2_readProcedure_117 rfl (lv_at hl 1 rfl) ?_
          refine va_get (D := (dC, dI)) (ci := 2) (v := .ref h1) (C := RX2) (T := TX2) (N := 7) hx hb hts inlX2 hown hK hP 0 rfl rfl 0 (by decide) w0_ (fun _ h9 => h9) rfl dX2_readProcedure_118 ?_
          refine va_get (D := (dC, dI)) (ci := 4) (v := .int o15.1) (C := RX4) (T := TX4) (N := 8) hx hb hts inlX4 hown hK hP 1 rfl rfl 0 (by decide) w3_ (fun _ h9 => h9) rfl dX2_readProcedure_121 ?_
          refine lv_sipush (v := 259) hx hb dX2_readProcedure_124 (by decide +kernel) ?_
          refine lv_icmp_ne (tgt := 135) hx hb dX2_readProcedure_127 (by decide) (fun cq16 => ?_) (fun cq16 => ?_)
          · replace hf := if_no hf cq16
            exact (hG _ _ _ _ _).mp (J135 v3_procedures 0 o15.1 o15.2.1 o15.2.2.1 o15.2.2.2.1 o15.2.2.2.2.1 o15.2.2.2.2.2 v3_globals x13 v3_statements c12x c5 c6 c7 c8 c9 c10 c11 c12 c13 c14 c15 c16 c17 c18 H locs ls (hP.sub [0, 1, 2, 3, 4, 5, 6, 7, 8, 9, 10, 11, 12, 13, 14, 15, 16, 17, 18] rfl) (hD.sub [0, 1, 2, 3, 4, 5, 6, 7, 8, 9, 10, 11, 12, 13, 14, 15, 16, 17, 18] (by decide) rfl) hS (lv_sub hl [1, 0] rfl) hf)
          · replace hf := if_at hf cq16
            refine lv_aload_n hx hb dX2_readProcedure_130 rfl (lv_at hl 1 rfl) ?_
            refine lv_iconst (v := 1) hx hb dX2_readProcedure_131 (by decide +kernel) ?_
            obtain ⟨o17, e17, hf⟩ := ob_some hf
            refine kVv (As := [.int 1]) (rest := []) ⟨hx, hb, hml, hown, hts⟩ (mX2_readVariables l dC dI h0 h1 h2 h3 h5 kc2 kc5 H.size base 1 0 o15.1 o15.2.1 o15.2.2.1 o15.2.2.2.1 o15.2.2.2.2.1 v1_size o15.2.2.2.2.2 c2 v3_globals c5 (fun k => match k with | 4 => .ref h4 | 5 => .ref h16 | 6 => .ref h17 | _ => .null) (fun k => match k with | 2 => .int x13 | 3 => .int v3_statements | 4 => .ref h18 | 5 => .ref h6 | 6 => .ref h7 | 7 => .ref h8 | 8 => .ref h9 | 9 => .ref h10 | 10 => .ref h11 | 13 => .ref h12 | 14 => .ref h13 | 15 => .ref h14 | 16 => .ref h15 | k => V3 k) o17 e17) (cwV 1 hts (gTV q668 q669 q670 q27 q671) rfl rfl rfl (by decide +kernel) ⟨Nat.le_of_ble_eq_true rfl, Nat.le_of_ble_eq_true rfl⟩) hK hP hD hS hA hE hAB [0, 1, 2, 3, 5] [4, 6, 7, 8, 9, 10, 11, 12, 13, 14, 15, 16, 17, 18] [0, 2] (wr := [(h4, .inl (kc4, 6, .inr (.inl c12x))), (h6, .inl (kc6, 40, .inl c6)), (h7, .inl (kc7, 40, .inl c7)), (h8, .inl (kc8, 40, .inl c8)), (h9, .inl (kc9, 40, .inr (.inl c9))), (h10, .inl (kc10, 40, .inl c10)), (h11, .inl (kc11, 40, .inl c11)), (h12, .inl (kc12, 40, .inl c12)), (h13, .inl (kc13, 40, .inl c13)), (h14, .inl (kc14, 40, .inl c14)), (h15, .inl (kc15, 40, .inl c15)), (h16, .inl (kc16, 40, .inr (.inl c16))), (h17, .inl (kc17, 40, .inl c17)), (h18, .inl (kc18, 6, .inl c18))]) rfl rfl (by decide) (by decide) (by decide) rfl (ci := 2) (q0 := 0) rfl rfl rfl rfl hl.1 rfl (Nat.le_of_ble_eq_true rfl) dX2_readProcedure_132 ⟨Nat.zero_le _, Nat.zero_le _⟩ (fun u17 H locs hw17 hP hD hS => ?_)
            have hw171 : o17 = u17 := Eq.symm hw17
            subst hw171
            have hP : va_P (dC, dI) vwCl (wX2_readProcedure h0 h1 h2 h3 h4 h5 h6 h7 h8 h9 h10 h11 h12 h13 h14 h15 h16 h17 h18 kc2 kc4 kc5 kc6 kc7 kc8 kc9 kc10 kc11 kc12 kc13 kc14 kc15 kc16 kc17 kc18 V3 o17.1 o17.2.1 o17.2.2.1 o17.2.2.2.1 o17.2.2.2.2.1 o17.2.2.2.2.2.1 v1_size o17.2.2.2.2.2.2.1 c2 o17.2.2.2.2.2.2.2.1 x13 v3_statements c12x o17.2.2.2.2.2.2.2.2 c6 c7 c8 c9 c10 c11 c12 c13 c14 c15 c16 c17 c18) H := hP.sub [14, 15, 16, 17, 0, 18, 1, 2, 3, 4, 5, 6, 7, 8, 9, 10, 11, 12, 13] rfl
            have hD : va_D A (wX2_readProcedure h0 h1 h2 h3 h4 h5 h6 h7 h8 h9 h10 h11 h12 h13 h14 h15 h16 h17 h18 kc2 kc4 kc5 kc6 kc7 kc8 kc9 kc10 kc11 kc12 kc13 kc14 kc15 kc16 kc17 kc18 V3 o17.1 o17.2.1 o17.2.2.1 o17.2.2.2.1 o17.2.2.2.2.1 o17.2.2.2.2.2.1 v1_size o17.2.2.2.2.2.2.1 c2 o17.2.2.2.2.2.2.2.1 x13 v3_statements c12x o17.2.2.2.2.2.2.2.2 c6 c7 c8 c9 c10 c11 c12 c13 c14 c15 c16 c17 c18) := hD.sub [14, 15, 16, 17, 0, 18, 1, 2, 3, 4, 5, 6, 7, 8, 9, 10, 11, 12, 13] (by decide) rfl
            exact (hG _ _ _ _ _).mp (J135 v3_procedures o17.1 o17.2.1 o17.2.2.1 o17.2.2.2.1 o17.2.2.2.2.1 o17.2.2.2.2.2.1 o17.2.2.2.2.2.2.1 o17.2.2.2.2.2.2.2.1 x13 v3_statements c12x o17.2.2.2.2.2.2.2.2 c6 c7 c8 c9 c10 c11 c12 c13 c14 c15 c16 c17 c18 H locs ls (hP.sub [0, 1, 2, 3, 4, 5, 6, 7, 8, 9, 10, 11, 12, 13, 14, 15, 16, 17, 18] rfl) (hD.sub [0, 1, 2, 3, 4, 5, 6, 7, 8, 9, 10, 11, 12, 13, 14, 15, 16, 17, 18] (by decide) rfl) hS (lv_sub hl [1, 0] rfl) hf)
        · replace hf := if_no hf cq11
          exact (hG _ _ _ _ _).mp (J65 v0_locals o6.2.1 o6.2.2.1 o6.2.2.2.1 o6.2.2.2.2.1 o6.2.2.2.2.2.1 o6.2.2.2.2.2.2 v3_globals v3_procedures v3_statements c4 c5 c6 c7 c8 c9 c10 c11 c12 c13 c14 c15 c16 c17 c18 H locs ls (hP.sub [0, 1, 2, 3, 4, 5, 6, 7, 8, 9, 10, 11, 12, 13, 14, 15, 16, 17, 18] rfl) (hD.sub [0, 1, 2, 3, 4, 5, 6, 7, 8, 9, 10, 11, 12, 13, 14, 15, 16, 17, 18] (by decide) rfl) hS (lv_sub hl [1] rfl) hf)
    · replace hf := if_no hf cq8
      refine lv_aload_n hx hb dX2_readProcedure_27 rfl (lv_at hl 0 rfl) ?_
      refine va_get (D := (dC, dI)) (ci := 2) (v := .ref h1) (C := RX2) (T := TX2) (N := 7) hx hb hts inlX2 hown hK hP 0 rfl rfl 0 (by decide) w0_ (fun _ h9 => h9) rfl dX2_readProcedure_28 ?_
      refine lv_iconst (v := 2) hx hb dX2_readProcedure_31 (by decide +kernel) ?_
      obtain ⟨o18, e18, hf⟩ := ob_some hf
      refine kVv (As := [.int 2]) (rest := []) ⟨hx, hb, hml, hown, hts⟩ (mX4_failHere l dC dI h1 H.size base 2 o6.2.1 o6.2.2.1 o6.2.2.2.2.1 o6.2.2.2.2.2.1 (fun k => match k with | 2 => .long o6.2.2.2.1 | 5 => .ref h2 | 6 => .int v1_size | 7 => .int o6.2.2.2.2.2.2 | _ => .null) o18 e18) (cwV 1 hts (gTV q679 q680 q681 q19 q682) rfl rfl rfl (by decide +kernel) ⟨Nat.le_of_ble_eq_true rfl, Nat.le_of_ble_eq_true rfl⟩) hK hP hD hS hA hE hAB [1] [0, 2, 3, 4, 5, 6, 7, 8, 9, 10, 11, 12, 13, 14, 15, 16, 17, 18] [] (wr := [(h0, .inr (2, [.ref h1, .ref h3, .ref h5, .int v0_locals, .ref h4, .ref h16, .ref h17])), (h2, .inl (kc2, 600, .inl c2)), (h3, .inr (3, [V3 0, .int v3_globals, .int v3_procedures, .int v3_statements, .ref h18, .ref h6, .ref h7, .ref h8, .ref h9, .ref h10, .ref h11, V3 11, V3 12, .ref h12, .ref h13, .ref h14, .ref h15, V3 17])), (h4, .inl (kc4, 6, .inr (.inl c4))), (h5, .inl (kc5, 5, .inr (.inl c5))), (h6, .inl (kc6, 40, .inl c6)), (h7, .inl (kc7, 40, .inl c7)), (h8, .inl (kc8, 40, .inl c8)), (h9, .inl (kc9, 40, .inr (.inl c9))), (h10, .inl (kc10, 40, .inl c10)), (h11, .inl (kc11, 40, .inl c11)), (h12, .inl (kc12, 40, .inl c12)), (h13, .inl (kc13, 40, .inl c13)), (h14, .inl (kc14, 40, .inl c14)), (h15, .inl (kc15, 40, .inl c15)), (h16, .inl (kc16, 40, .inr (.inl c16))), (h17, .inl (kc17, 40, .inl c17)), (h18, .inl (kc18, 6, .inl c18))]) rfl rfl (by decide) (by decide) (by decide) rfl (ci := 4) (q0 := 0) rfl rfl rfl rfl hl.1 rfl (Nat.le_of_ble_eq_true rfl) dX2_readProcedure_32 ⟨Nat.zero_le _, Nat.zero_le _⟩ (fun u18 H locs hw18 hP hD hS => ?_)
      have hw181 : o18 = u18 := Eq.symm hw18
      subst hw181
      have hP : va_P (dC, dI) vwCl (wX2_readProcedure h0 h1 h2 h3 h4 h5 h6 h7 h8 h9 h10 h11 h12 h13 h14 h15 h16 h17 h18 kc2 kc4 kc5 kc6 kc7 kc8 kc9 kc10 kc11 kc12 kc13 kc14 kc15 kc16 kc17 kc18 V3 v0_locals o18.1 o6.2.2.1 o6.2.2.2.1 o18.2.1 o18.2.2 v1_size o6.2.2.2.2.2.2 c2 v3_globals v3_procedures v3_statements c4 c5 c6 c7 c8 c9 c10 c11 c12 c13 c14 c15 c16 c17 c18) H := hP.sub [0, 18, 1, 2, 3, 4, 5, 6, 7, 8, 9, 10, 11, 12, 13, 14, 15, 16, 17] rfl
      have hD : va_D A (wX2_readProcedure h0 h1 h2 h3 h4 h5 h6 h7 h8 h9 h10 h11 h12 h13 h14 h15 h16 h17 h18 kc2 kc4 kc5 kc6 kc7 kc8 kc9 kc10 kc11 kc12 kc13 kc14 kc15 kc16 kc17 kc18 V3 v0_locals o18.1 o6.2.2.1 o6.2.2.2.1 o18.2.1 o18.2.2 v1_size o6.2.2.2.2.2.2 c2 v3_globals v3_procedures v3_statements c4 c5 c6 c7 c8 c9 c10 c11 c12 c13 c14 c15 c16 c17 c18) := hD.sub [0, 18, 1, 2, 3, 4, 5, 6, 7, 8, 9, 10, 11, 12, 13, 14, 15, 16, 17] (by decide) rfl
      have hf1 := Option.some.inj hf
      subst hf1
      have hP9 := hP.sub (ws' := (wX2_readProcedure h0 h1 h2 h3 h4 h5 h6 h7 h8 h9 h10 h11 h12 h13 h14 h15 h16 h17 h18 kc2 kc4 kc5 kc6 kc7 kc8 kc9 kc10 kc11 kc12 kc13 kc14 kc15 kc16 kc17 kc18 V3 v0_locals o18.1 o6.2.2.1 o6.2.2.2.1 o18.2.1 o18.2.2 v1_size o6.2.2.2.2.2.2 c2 v3_globals v3_procedures v3_statements c4 c5 c6 c7 c8 c9 c10 c11 c12 c13 c14 c15 c16 c17 c18)) [0, 1, 2, 3, 4, 5, 6, 7, 8, 9, 10, 11, 12, 13, 14, 15, 16, 17, 18] rfl
      have hD9 := hD.sub (ws' := (wX2_readProcedure h0 h1 h2 h3 h4 h5 h6 h7 h8 h9 h10 h11 h12 h13 h14 h15 h16 h17 h18 kc2 kc4 kc5 kc6 kc7 kc8 kc9 kc10 kc11 kc12 kc13 kc14 kc15 kc16 kc17 kc18 V3 v0_locals o18.1 o6.2.2.1 o6.2.2.2.1 o18.2.1 o18.2.2 v1_size o6.2.2.2.2.2.2 c2 v3_globals v3_procedures v3_statements c4 c5 c6 c7 c8 c9 c10 c11 c12 c13 c14 c15 c16 c17 c18)) [0, 1, 2, 3, 4, 5, 6, 7, 8, 9, 10, 11, 12, 13, 14, 15, 16, 17, 18] (by decide) rfl
      exact W.vret hx hb hr (fun t ht hW => ⟨⟨(v0_locals, o18.1, o6.2.2.1, o6.2.2.2.1, o18.2.1, o18.2.2, o6.2.2.2.2.2.2, v3_globals, v3_procedures, v3_statements, c4, c5, c6, c7, c8, c9, c10, c11, c12, c13, c14, c15, c16, c17, c18), rfl, rfl, by rw [ht]; exact hP9, va_K.moved hW.alike hK, hD9⟩, hS.F ht⟩) hS.2.2 dX2_readProcedure_35
  · replace hf := if_at hf cq7
    have hf1 := Option.some.inj hf
    subst hf1
    have hP9 := hP.sub (ws' := (wX2_readProcedure h0 h1 h2 h3 h4 h5 h6 h7 h8 h9 h10 h11 h12 h13 h14 h15 h16 h17 h18 kc2 kc4 kc5 kc6 kc7 kc8 kc9 kc10 kc11 kc12 kc13 kc14 kc15 kc16 kc17 kc18 V3 v0_locals o6.2.1 o6.2.2.1 o6.2.2.2.1 o6.2.2.2.2.1 o6.2.2.2.2.2.1 v1_size o6.2.2.2.2.2.2 c2 v3_globals v3_procedures v3_statements c4 c5 c6 c7 c8 c9 c10 c11 c12 c13 c14 c15 c16 c17 c18)) [0, 1, 2, 3, 4, 5, 6, 7, 8, 9, 10, 11, 12, 13, 14, 15, 16, 17, 18] rfl
    have hD9 := hD.sub (ws' := (wX2_readProcedure h0 h1 h2 h3 h4 h5 h6 h7 h8 h9 h10 h11 h12 h13 h14 h15 h16 h17 h18 kc2 kc4 kc5 kc6 kc7 kc8 kc9 kc10 kc11 kc12 kc13 kc14 kc15 kc16 kc17 kc18 V3 v0_locals o6.2.1 o6.2.2.1 o6.2.2.2.1 o6.2.2.2.2.1 o6.2.2.2.2.2.1 v1_size o6.2.2.2.2.2.2 c2 v3_globals v3_procedures v3_statements c4 c5 c6 c7 c8 c9 c10 c11 c12 c13 c14 c15 c16 c17 c18)) [0, 1, 2, 3, 4, 5, 6, 7, 8, 9, 10, 11, 12, 13, 14, 15, 16, 17, 18] (by decide) rfl
    exact W.vret hx hb hr (fun t ht hW => ⟨⟨(v0_locals, o6.2.1, o6.2.2.1, o6.2.2.2.1, o6.2.2.2.2.1, o6.2.2.2.2.2.1, o6.2.2.2.2.2.2, v3_globals, v3_procedures, v3_statements, c4, c5, c6, c7, c8, c9, c10, c11, c12, c13, c14, c15, c16, c17, c18), rfl, rfl, by rw [ht]; exact hP9, va_K.moved hW.alike hK, hD9⟩, hS.F ht⟩) hS.2.2 dX2_readProcedure_13
abbrev wX2_readProgram (h0 h1 h2 h3 h4 h5 h6 h7 h8 h9 h10 h11 h12 h13 h14 h15 h16 h17 h18 h19 h20 h21 : Nat) (kc3 kc4 kc5 kc6 kc7 kc8 kc9 kc10 kc11 kc12 kc13 kc14 kc15 kc16 kc17 kc18 kc19 kc20 kc21 : ClassId) (v0_locals : Int32) (v1_isThere : Int32) (v1_globals : Int32) (v1_procedures : Int32) (v1_statements : Int32) (v2_token : Int32) (v2_tokenAt : Int32) (v2_name : Int64) (v2_fault : Int32) (v2_faultAt : Int32) (v2_size : Int32) (v2_next : Int32) (c3 : Nat → Int32) (c4 : Nat → Int64) (c5 : Nat → Int64) (c6 : Nat → Int32) (c7 : Nat → Int32) (c8 : Nat → Int32) (c9 : Nat → Int64) (c10 : Nat → Int32) (c11 : Nat → Int32) (c12 : Nat → Int32) (c13 : Nat → Int32) (c14 : Nat → Int32) (c15 : Nat → Int32) (c16 : Nat → Int64) (c17 : Nat → Int32) (c18 : Nat → Int32) (c19 : Nat → Int32) (c20 : Nat → Int32) (c21 : Nat → Int32) : va_W := [(h0, .inr (2, [.ref h2, .ref h1, .ref h4, .int v0_locals, .ref h5, .ref h16, .ref h17])), (h1, .inr (3, [.int v1_isThere, .int v1_globals, .int v1_procedures, .int v1_statements, .ref h18, .ref h6, .ref h7, .ref h8, .ref h9, .ref h10, .ref h11, .ref h21, .ref h20, .ref h12, .ref h13, .ref h14, .ref h15, .ref h19])), (h2, .inr (4, [.int v2_token, .int v2_tokenAt, .long v2_name, .int v2_fault, .int v2_faultAt, .ref h3, .int v2_size, .int v2_next])), (h3, .inl (kc3, 600, .inl c3)), (h4, .inl (kc4, 5, .inr (.inl c4))), (h5, .inl (kc5, 6, .inr (.inl c5))), (h6, .inl (kc6, 40, .inl c6)), (h7, .inl (kc7, 40, .inl c7)), (h8, .inl (kc8, 40, .inl c8)), (h9, .inl (kc9, 40, .inr (.inl c9))), (h10, .inl (kc10, 40, .inl c10)), (h11, .inl (kc11, 40, .inl c11)), (h12, .inl (kc12, 40, .inl c12)), (h13, .inl (kc13, 40, .inl c13)), (h14, .inl (kc14, 40, .inl c14)), (h15, .inl (kc15, 40, .inl c15)), (h16, .inl (kc16, 40, .inr (.inl c16))), (h17, .inl (kc17, 40, .inl c17)), (h18, .inl (kc18, 6, .inl c18)), (h19, .inl (kc19, 40, .inl c19)), (h20, .inl (kc20, 40, .inl c20)), (h21, .inl (kc21, 40, .inl c21))]
set_option maxHeartbeats 4000000 in
set_option maxRecDepth 100000 in
theorem mX2_readProgram (l : Launch) (dC : Nat → ClassId) (dI : Nat → Nat → Nat) (h0 h1 h2 h3 h4 h5 h6 h7 h8 h9 h10 h11 h12 h13 h14 h15 h16 h17 h18 h19 h20 h21 : Nat) (kc3 kc4 kc5 kc6 kc7 kc8 kc9 kc10 kc11 kc12 kc13 kc14 kc15 kc16 kc17 kc18 kc19 kc20 kc21 : ClassId) (sz : Nat) (base : Nat × Nat × Nat) (v0_locals : Int32) (v1_isThere : Int32) (v1_globals : Int32) (v1_procedures : Int32) (v1_statements : Int32) (v2_token : Int32) (v2_tokenAt : Int32) (v2_name : Int64) (v2_fault : Int32) (v2_faultAt : Int32) (v2_size : Int32) (v2_next : Int32) (c3 : Nat → Int32) (c4 : Nat → Int64) (c5 : Nat → Int64) (c6 : Nat → Int32) (c7 : Nat → Int32) (c8 : Nat → Int32) (c9 : Nat → Int64) (c10 : Nat → Int32) (c11 : Nat → Int32) (c12 : Nat → Int32) (c13 : Nat → Int32) (c14 : Nat → Int32) (c15 : Nat → Int32) (c16 : Nat → Int64) (c17 : Nat → Int32) (c18 : Nat → Int32) (c19 : Nat → Int32) (c20 : Nat → Int32) (c21 : Nat → Int32) (o : Int32 × Int32 × Int32 × Int32 × Int32 × Int32 × Int32 × Int64 × Int32 × Int32 × Int32 × Int32 × (Nat → Int64) × (Nat → Int64) × (Nat → Int32) × (Nat → Int32) × (Nat → Int32) × (Nat → Int64) × (Nat → Int32) × (Nat → Int32) × (Nat → Int32) × (Nat → Int32) × (Nat → Int32) × (Nat → Int32) × (Nat → Int64) × (Nat → Int32) × (Nat → Int32) × (Nat → Int32) × (Nat → Int32) × (Nat → Int32)) (hf : fX2_readProgram v0_locals v1_isThere v1_globals v1_procedures v1_statements v2_token v2_tokenAt v2_name v2_fault v2_faultAt v2_size v2_next c3 c4 c5 c6 c7 c8 c9 c10 c11 c12 c13 c14 c15 c16 c17 c18 c19 c20 c21 = some o) : Met l yX2_readProgram (.code yX2_readProgram cX2_readProgram 2 none :: wsL_law) ({ frames := 103, cells := 0, slots := 0, locals := 2467 }) (cPre (dC, dI) vwCl [.ref h0] sz base (wX2_readProgram h0 h1 h2 h3 h4 h5 h6 h7 h8 h9 h10 h11 h12 h13 h14 h15 h16 h17 h18 h19 h20 h21 kc3 kc4 kc5 kc6 kc7 kc8 kc9 kc10 kc11 kc12 kc13 kc14 kc15 kc16 kc17 kc18 kc19 kc20 kc21 v0_locals v1_isThere v1_globals v1_procedures v1_statements v2_token v2_tokenAt v2_name v2_fault v2_faultAt v2_size v2_next c3 c4 c5 c6 c7 c8 c9 c10 c11 c12 c13 c14 c15 c16 c17 c18 c19 c20 c21) [(kc3, .byte), (kc4, .long), (kc5, .long), (kc6, .int), (kc7, .int), (kc8, .int), (kc9, .long), (kc10, .int), (kc11, .int), (kc12, .int), (kc13, .int), (kc14, .int), (kc15, .int), (kc16, .long), (kc17, .int), (kc18, .int), (kc19, .int), (kc20, .int), (kc21, .int)]) (va_Qv (fun u => u = o) (fun (u : Int32 × Int32 × Int32 × Int32 × Int32 × Int32 × Int32 × Int64 × Int32 × Int32 × Int32 × Int32 × (Nat → Int64) × (Nat → Int64) × (Nat → Int32) × (Nat → Int32) × (Nat → Int32) × (Nat → Int64) × (Nat → Int32) × (Nat → Int32) × (Nat → Int32) × (Nat → Int32) × (Nat → Int32) × (Nat → Int32) × (Nat → Int64) × (Nat → Int32) × (Nat → Int32) × (Nat → Int32) × (Nat → Int32) × (Nat → Int32)) t => cPost (dC, dI) vwCl (va_A (wX2_readProgram h0 h1 h2 h3 h4 h5 h6 h7 h8 h9 h10 h11 h12 h13 h14 h15 h16 h17 h18 h19 h20 h21 kc3 kc4 kc5 kc6 kc7 kc8 kc9 kc10 kc11 kc12 kc13 kc14 kc15 kc16 kc17 kc18 kc19 kc20 kc21 v0_locals v1_isThere v1_globals v1_procedures v1_statements v2_token v2_tokenAt v2_name v2_fault v2_faultAt v2_size v2_next c3 c4 c5 c6 c7 c8 c9 c10 c11 c12 c13 c14 c15 c16 c17 c18 c19 c20 c21) sz) (wX2_readProgram h0 h1 h2 h3 h4 h5 h6 h7 h8 h9 h10 h11 h12 h13 h14 h15 h16 h17 h18 h19 h20 h21 kc3 kc4 kc5 kc6 kc7 kc8 kc9 kc10 kc11 kc12 kc13 kc14 kc15 kc16 kc17 kc18 kc19 kc20 kc21 u.1 u.2.1 u.2.2.1 u.2.2.2.1 u.2.2.2.2.1 u.2.2.2.2.2.1 u.2.2.2.2.2.2.1 u.2.2.2.2.2.2.2.1 u.2.2.2.2.2.2.2.2.1 u.2.2.2.2.2.2.2.2.2.1 u.2.2.2.2.2.2.2.2.2.2.1 u.2.2.2.2.2.2.2.2.2.2.2.1 c3 u.2.2.2.2.2.2.2.2.2.2.2.2.1 u.2.2.2.2.2.2.2.2.2.2.2.2.2.1 u.2.2.2.2.2.2.2.2.2.2.2.2.2.2.1 u.2.2.2.2.2.2.2.2.2.2.2.2.2.2.2.1 u.2.2.2.2.2.2.2.2.2.2.2.2.2.2.2.2.1 u.2.2.2.2.2.2.2.2.2.2.2.2.2.2.2.2.2.1 u.2.2.2.2.2.2.2.2.2.2.2.2.2.2.2.2.2.2.1 u.2.2.2.2.2.2.2.2.2.2.2.2.2.2.2.2.2.2.2.1 u.2.2.2.2.2.2.2.2.2.2.2.2.2.2.2.2.2.2.2.2.1 u.2.2.2.2.2.2.2.2.2.2.2.2.2.2.2.2.2.2.2.2.2.1 u.2.2.2.2.2.2.2.2.2.2.2.2.2.2.2.2.2.2.2.2.2.2.1 u.2.2.2.2.2.2.2.2.2.2.2.2.2.2.2.2.2.2.2.2.2.2.2.1 u.2.2.2.2.2.2.2.2.2.2.2.2.2.2.2.2.2.2.2.2.2.2.2.2.1 u.2.2.2.2.2.2.2.2.2.2.2.2.2.2.2.2.2.2.2.2.2.2.2.2.2.1 u.2.2.2.2.2.2.2.2.2.2.2.2.2.2.2.2.2.2.2.2.2.2.2.2.2.2.1 u.2.2.2.2.2.2.2.2.2.2.2.2.2.2.2.2.2.2.2.2.2.2.2.2.2.2.2.1 u.2.2.2.2.2.2.2.2.2.2.2.2.2.2.2.2.2.2.2.2.2.2.2.2.2.2.2.2.1 u.2.2.2.2.2.2.2.2.2.2.2.2.2.2.2.2.2.2.2.2.2.2.2.2.2.2.2.2.2) [(kc3, .byte), (kc4, .long), (kc5, .long), (kc6, .int), (kc7, .int), (kc8, .int), (kc9, .long), (kc10, .int), (kc11, .int), (kc12, .int), (kc13, .int), (kc14, .int), (kc15, .int), (kc16, .long), (kc17, .int), (kc18, .int), (kc19, .int), (kc20, .int), (kc21, .int)] t) (va_A (wX2_readProgram h0 h1 h2 h3 h4 h5 h6 h7 h8 h9 h10 h11 h12 h13 h14 h15 h16 h17 h18 h19 h20 h21 kc3 kc4 kc5 kc6 kc7 kc8 kc9 kc10 kc11 kc12 kc13 kc14 kc15 kc16 kc17 kc18 kc19 kc20 kc21 v0_locals v1_isThere v1_globals v1_procedures v1_statements v2_token v2_tokenAt v2_name v2_fault v2_faultAt v2_size v2_next c3 c4 c5 c6 c7 c8 c9 c10 c11 c12 c13 c14 c15 c16 c17 c18 c19 c20 c21) sz)) 0 0 (va_A (wX2_readProgram h0 h1 h2 h3 h4 h5 h6 h7 h8 h9 h10 h11 h12 h13 h14 h15 h16 h17 h18 h19 h20 h21 kc3 kc4 kc5 kc6 kc7 kc8 kc9 kc10 kc11 kc12 kc13 kc14 kc15 kc16 kc17 kc18 kc19 kc20 kc21 v0_locals v1_isThere v1_globals v1_procedures v1_statements v2_token v2_tokenAt v2_name v2_fault v2_faultAt v2_size v2_next c3 c4 c5 c6 c7 c8 c9 c10 c11 c12 c13 c14 c15 c16 c17 c18 c19 c20 c21) sz) := by
  refine Met.ofW (cc := cX2_readProgram) (maxL := 2) (ret := none) (by decide) rfl ?_
  intro p e s m args below meth c s₁ B hml hv
  obtain ⟨rfl, hsz, hP, hK, hD0, hE⟩ := hv
  have hx := B.exec
  have hb := B.bytes
  have hr := B.returns
  have hts : ∀ w ∈ wsL_law, _ := fun w h => atoms_spec (ws := .code yX2_readProgram cX2_readProgram 2 none :: wsL_law) B.pre w (List.mem_cons_of_mem _ h)
  have hown : s.vm.findClass RX2 = some m.cls := findClass_of_methodNamed B.named
  have hlocks := B.notSynchronized
  have w0_ := hts _ q72
  have w1_ := hts _ q545
  have w2_ := hts _ q73
  have w3_ := hts _ q546
  have w4_ := hts _ q544
  have w5_ := hts _ q543
  subst hsz
  have hD := hD0.self (sz := s.heap.size)
  generalize hAe : va_A (wX2_readProgram h0 h1 h2 h3 h4 h5 h6 h7 h8 h9 h10 h11 h12 h13 h14 h15 h16 h17 h18 h19 h20 h21 kc3 kc4 kc5 kc6 kc7 kc8 kc9 kc10 kc11 kc12 kc13 kc14 kc15 kc16 kc17 kc18 kc19 kc20 kc21 v0_locals v1_isThere v1_globals v1_procedures v1_statements v2_token v2_tokenAt v2_name v2_fault v2_faultAt v2_size v2_next c3 c4 c5 c6 c7 c8 c9 c10 c11 c12 c13 c14 c15 c16 c17 c18 c19 c20 c21) s.heap.size = A at hD ⊢
  have hA : ∀ q : Nat, s.heap.size ≤ q → A q := fun q h => by rw [← hAe]; exact Or.inr h
  have hAB : ∀ q : Nat, A q → base.1 ≤ q := fun q h => by rw [← hAe] at h; exact h.elim (fun ⟨k, e, hk⟩ => hD0.2 k _ hk) (fun hk => Nat.le_trans hE.1 hk)
  have hS : va_S A s.heap s.heap [] := va_S.rf
  have hl := lv_entry ([.ref h0]) (n := 2) (Nat.le_of_ble_eq_true rfl)
  rw [lg_entry_eq]
  generalize (lg_sl ([.ref h0]) ++ List.replicate (2 - (lg_sl ([.ref h0])).length) Slot.unset).toArray = ls at hl ⊢
  have hl : lv_has ls 2 [(0, .ref h0)] := hl
  have hP : va_P (dC, dI) vwCl (wX2_readProgram h0 h1 h2 h3 h4 h5 h6 h7 h8 h9 h10 h11 h12 h13 h14 h15 h16 h17 h18 h19 h20 h21 kc3 kc4 kc5 kc6 kc7 kc8 kc9 kc10 kc11 kc12 kc13 kc14 kc15 kc16 kc17 kc18 kc19 kc20 kc21 v0_locals v1_isThere v1_globals v1_procedures v1_statements v2_token v2_tokenAt v2_name v2_fault v2_faultAt v2_size v2_next c3 c4 c5 c6 c7 c8 c9 c10 c11 c12 c13 c14 c15 c16 c17 c18 c19 c20 c21) s.heap := hP
  refine gl_intro (fun G hG => ?_)
  have J93 : ∀ (v0_locals : Int32) (v1_isThere : Int32) (v1_globals : Int32) (v1_procedures : Int32) (v1_statements : Int32) (v2_token : Int32) (v2_tokenAt : Int32) (v2_name : Int64) (v2_fault : Int32) (v2_faultAt : Int32) (v2_size : Int32) (v2_next : Int32) (c4 : (Nat → Int64)) (c5 : (Nat → Int64)) (c6 : (Nat → Int32)) (c7 : (Nat → Int32)) (c8 : (Nat → Int32)) (c9 : (Nat → Int64)) (c10 : (Nat → Int32)) (c11 : (Nat → Int32)) (c12 : (Nat → Int32)) (c13 : (Nat → Int32)) (c14 : (Nat → Int32)) (c15 : (Nat → Int32)) (c16 : (Nat → Int64)) (c17 : (Nat → Int32)) (c18 : (Nat → Int32)) (c19 : (Nat → Int32)) (c20 : (Nat → Int32)) (c21 : (Nat → Int32)) (H : Heap) (locs : List Loc) (ls : Array Slot), va_P (dC, dI) vwCl (wX2_readProgram h0 h1 h2 h3 h4 h5 h6 h7 h8 h9 h10 h11 h12 h13 h14 h15 h16 h17 h18 h19 h20 h21 kc3 kc4 kc5 kc6 kc7 kc8 kc9 kc10 kc11 kc12 kc13 kc14 kc15 kc16 kc17 kc18 kc19 kc20 kc21 v0_locals v1_isThere v1_globals v1_procedures v1_statements v2_token v2_tokenAt v2_name v2_fault v2_faultAt v2_size v2_next c3 c4 c5 c6 c7 c8 c9 c10 c11 c12 c13 c14 c15 c16 c17 c18 c19 c20 c21) H → va_D A (wX2_readProgram h0 h1 h2 h3 h4 h5 h6 h7 h8 h9 h10 h11 h12 h13 h14 h15 h16 h17 h18 h19 h20 h21 kc3 kc4 kc5 kc6 kc7 kc8 kc9 kc10 kc11 kc12 kc13 kc14 kc15 kc16 kc17 kc18 kc19 kc20 kc21 v0_locals v1_isThere v1_globals v1_procedures v1_statements v2_token v2_tokenAt v2_name v2_fault v2_faultAt v2_size v2_next c3 c4 c5 c6 c7 c8 c9 c10 c11 c12 c13 c14 c15 c16 c17 c18 c19 c20 c21) → va_S A s.heap H locs → lv_has ls 2 [(0, .ref h0)] → fX2_readProgram_p93 c3  v0_locals v1_isThere v1_globals v1_procedures v1_statements v2_token v2_tokenAt v2_name v2_fault v2_faultAt v2_size v2_next c4 c5 c6 c7 c8 c9 c10 c11 c12 c13 c14 c15 c16 c17 c18 c19 c20 c21 = some o → G 0 0 H locs (F0 m 93 ls []) := by
    intro  v0_locals v1_isThere v1_globals v1_procedures v1_statements v2_token v2_tokenAt v2_name v2_fault v2_faultAt v2_size v2_next c4 c5 c6 c7 c8 c9 c10 c11 c12 c13 c14 c15 c16 c17 c18 c19 c20 c21 H locs ls hP hD hS hl hf
    refine (hG _ _ _ _ _).mpr ?_
    unfold fX2_readProgram_p93 at hf
    refine lv_aload_n hx hb dX2_readProgram_93 rfl (lv_at hl 0 rfl) ?_
    obtain ⟨o1, e1, hf⟩ := ob_some hf
    refine kVv (As := []) (rest := []) ⟨hx, hb, hml, hown, hts⟩ (mX2_findCalled l dC dI h0 h1 h2 h6 h16 h5 h11 h17 kc6 kc16 kc5 kc11 kc17 H.size base v1_procedures v1_statements v2_token v2_fault v2_faultAt c6 c16 c5 c11 c17 (fun k => match k with | 2 => .ref h4 | 3 => .int v0_locals | _ => .null) (fun k => match k with | 0 => .int v1_isThere | 1 => .int v1_globals | 4 => .ref h18 | 6 => .ref h7 | 7 => .ref h8 | 8 => .ref h9 | 9 => .ref h10 | 11 => .ref h21 | 12 => .ref h20 | 13 => .ref h12 | 14 => .ref h13 | 15 => .ref h14 | 16 => .ref h15 | 17 => .ref h19 | _ => .null) (fun k => match k with | 1 => .int v2_tokenAt | 2 => .long v2_name | 5 => .ref h3 | 6 => .int v2_size | 7 => .int v2_next | _ => .null) o1 e1) (cwV 0 hts (gTV q770 q771 q772 q27 q773) rfl rfl rfl (by decide +kernel) ⟨Nat.le_of_ble_eq_true rfl, Nat.le_of_ble_eq_true rfl⟩) hK hP hD hS hA hE hAB [0, 1, 2, 6, 16, 5, 11, 17] [3, 4, 7, 8, 9, 10, 12, 13, 14, 15, 18, 19, 20, 21] [3, 13, 2, 8, 14] (wr := [(h3, .inl (kc3, 600, .inl c3)), (h4, .inl (kc4, 5, .inr (.inl c4))), (h7, .inl (kc7, 40, .inl c7)), (h8, .inl (kc8, 40, .inl c8)), (h9, .inl (kc9, 40, .inr (.inl c9))), (h10, .inl (kc10, 40, .inl c10)), (h12, .inl (kc12, 40, .inl c12)), (h13, .inl (kc13, 40, .inl c13)), (h14, .inl (kc14, 40, .inl c14)), (h15, .inl (kc15, 40, .inl c15)), (h18, .inl (kc18, 6, .inl c18)), (h19, .inl (kc19, 40, .inl c19)), (h20, .inl (kc20, 40, .inl c20)), (h21, .inl (kc21, 40, .inl c21))]) rfl rfl (by decide) (by decide) (by decide) rfl (ci := 2) (q0 := 0) rfl rfl rfl rfl hl.1 rfl (Nat.le_of_ble_eq_true rfl) dX2_readProgram_94 ⟨Nat.zero_le _, Nat.zero_le _⟩ (fun u1 H locs hw1 hP hD hS => ?_)
    have hw11 : o1 = u1 := Eq.symm hw1
    subst hw11
    have hP : va_P (dC, dI) vwCl (wX2_readProgram h0 h1 h2 h3 h4 h5 h6 h7 h8 h9 h10 h11 h12 h13 h14 h15 h16 h17 h18 h19 h20 h21 kc3 kc4 kc5 kc6 kc7 kc8 kc9 kc10 kc11 kc12 kc13 kc14 kc15 kc16 kc17 kc18 kc19 kc20 kc21 v0_locals v1_isThere v1_globals v1_procedures v1_statements o1.1 v2_tokenAt v2_name o1.2.1 o1.2.2.1 v2_size v2_next c3 c4 c5 c6 c7 c8 c9 c10 o1.2.2.2 c12 c13 c14 c15 c16 c17 c18 c19 c20 c21) H := hP.sub [14, 15, 16, 0, 1, 19, 17, 2, 3, 4, 5, 20, 6, 7, 8, 9, 18, 21, 10, 11, 12, 13] rfl
    have hD : va_D A (wX2_readProgram h0 h1 h2 h3 h4 h5 h6 h7 h8 h9 h10 h11 h12 h13 h14 h15 h16 h17 h18 h19 h20 h21 kc3 kc4 kc5 kc6 kc7 kc8 kc9 kc10 kc11 kc12 kc13 kc14 kc15 kc16 kc17 kc18 kc19 kc20 kc21 v0_locals v1_isThere v1_globals v1_procedures v1_statements o1.1 v2_tokenAt v2_name o1.2.1 o1.2.2.1 v2_size v2_next c3 c4 c5 c6 c7 c8 c9 c10 o1.2.2.2 c12 c13 c14 c15 c16 c17 c18 c19 c20 c21) := hD.sub [14, 15, 16, 0, 1, 19, 17, 2, 3, 4, 5, 20, 6, 7, 8, 9, 18, 21, 10, 11, 12, 13] (by decide) rfl
    refine lv_aload_n hx hb dX2_readProgram_97 rfl (lv_at hl 0 rfl) ?_
    refine va_get (D := (dC, dI)) (ci := 2) (v := .ref h2) (C := RX2) (T := TX2) (N := 7) hx hb hts inlX2 hown hK hP 0 rfl rfl 0 (by decide) w0_ (fun _ h9 => h9) rfl dX2_readProgram_98 ?_
    obtain ⟨o2, e2, hf⟩ := ob_some hf
    refine kVv (As := []) (rest := []) ⟨hx, hb, hml, hown, hts⟩ (mX4_emptyText l dC dI h2 H.size base v2_size (fun k => match k with | 0 => .int o1.1 | 1 => .int v2_tokenAt | 2 => .long v2_name | 3 => .int o1.2.1 | 4 => .int o1.2.2.1 | 5 => .ref h3 | 7 => .int v2_next | _ => .null) o2 e2) (cwV 0 hts (gTV q777 q778 q779 q19 q780) rfl rfl rfl (by decide +kernel) ⟨Nat.le_of_ble_eq_true rfl, Nat.le_of_ble_eq_true rfl⟩) hK hP hD hS hA hE hAB [2] [0, 1, 3, 4, 5, 6, 7, 8, 9, 10, 11, 12, 13, 14, 15, 16, 17, 18, 19, 20, 21] [] (wr := [(h0, .inr (2, [.ref h2, .ref h1, .ref h4, .int v0_locals, .ref h5, .ref h16, .ref h17])), (h1, .inr (3, [.int v1_isThere, .int v1_globals, .int v1_procedures, .int v1_statements, .ref h18, .ref h6, .ref h7, .ref h8, .ref h9, .ref h10, .ref h11, .ref h21, .ref h20, .ref h12, .ref h13, .ref h14, .ref h15, .ref h19])), (h3, .inl (kc3, 600, .inl c3)), (h4, .inl (kc4, 5, .inr (.inl c4))), (h5, .inl (kc5, 6, .inr (.inl c5))), (h6, .inl (kc6, 40, .inl c6)), (h7, .inl (kc7, 40, .inl c7)), (h8, .inl (kc8, 40, .inl c8)), (h9, .inl (kc9, 40, .inr (.inl c9))), (h10, .inl (kc10, 40, .inl c10)), (h11, .inl (kc11, 40, .inl o1.2.2.2)), (h12, .inl (kc12, 40, .inl c12)), (h13, .inl (kc13, 40, .inl c13)), (h14, .inl (kc14, 40, .inl c14)), (h15, .inl (kc15, 40, .inl c15)), (h16, .inl (kc16, 40, .inr (.inl c16))), (h17, .inl (kc17, 40, .inl c17)), (h18, .inl (kc18, 6, .inl c18)), (h19, .inl (kc19, 40, .inl c19)), (h20, .inl (kc20, 40, .inl c20)), (h21, .inl (kc21, 40, .inl c21))]) rfl rfl (by decide) (by decide) (by decide) rfl (ci := 4) (q0 := 0) rfl rfl rfl rfl hl.1 rfl (Nat.le_of_ble_eq_true rfl) dX2_readProgram_101 ⟨Nat.zero_le _, Nat.zero_le _⟩ (fun u2 H locs hw2 hP hD hS => ?_)
    have hw21 : o2 = u2 := Eq.symm hw2
    subst hw21
    have hP : va_P (dC, dI) vwCl (wX2_readProgram h0 h1 h2 h3 h4 h5 h6 h7 h8 h9 h10 h11 h12 h13 h14 h15 h16 h17 h18 h19 h20 h21 kc3 kc4 kc5 kc6 kc7 kc8 kc9 kc10 kc11 kc12 kc13 kc14 kc15 kc16 kc17 kc18 kc19 kc20 kc21 v0_locals v1_isThere v1_globals v1_procedures v1_statements o1.1 v2_tokenAt v2_name o1.2.1 o1.2.2.1 o2 v2_next c3 c4 c5 c6 c7 c8 c9 c10 o1.2.2.2 c12 c13 c14 c15 c16 c17 c18 c19 c20 c21) H := hP.sub [0, 1, 21, 2, 3, 4, 5, 6, 7, 8, 9, 10, 11, 12, 13, 14, 15, 16, 17, 18, 19, 20] rfl
    have hD : va_D A (wX2_readProgram h0 h1 h2 h3 h4 h5 h6 h7 h8 h9 h10 h11 h12 h13 h14 h15 h16 h17 h18 h19 h20 h21 kc3 kc4 kc5 kc6 kc7 kc8 kc9 kc10 kc11 kc12 kc13 kc14 kc15 kc16 kc17 kc18 kc19 kc20 kc21 v0_locals v1_isThere v1_globals v1_procedures v1_statements o1.1 v2_tokenAt v2_name o1.2.1 o1.2.2.1 o2 v2_next c3 c4 c5 c6 c7 c8 c9 c10 o1.2.2.2 c12 c13 c14 c15 c16 c17 c18 c19 c20 c21) := hD.sub [0, 1, 21, 2, 3, 4, 5, 6, 7, 8, 9, 10, 11, 12, 13, 14, 15, 16, 17, 18, 19, 20] (by decide) rfl
    refine lv_aload_n hx hb dX2_readProgram_104 rfl (lv_at hl 0 rfl) ?_
    refine va_get (D := (dC, dI)) (ci := 2) (v := .ref h2) (C := RX2) (T := TX2) (N := 7) hx hb hts inlX2 hown hK hP 0 rfl rfl 0 (by decide) w0_ (fun _ h9 => h9) rfl dX2_readProgram_105 ?_
    refine va_get (D := (dC, dI)) (ci := 4) (v := .int o1.2.1) (C := RX4) (T := TX4) (N := 8) hx hb hts inlX4 hown hK hP 2 rfl rfl 3 (by decide) w1_ (fun _ h9 => h9) rfl dX2_readProgram_108 ?_
    refine lv_if_eq (tgt := 122) hx hb dX2_readProgram_111 (by decide) (fun cq3 => ?_) (fun cq3 => ?_)
    · replace hf := if_at hf cq3
      refine lv_aload_n hx hb dX2_readProgram_122 rfl (lv_at hl 0 rfl) ?_
      refine va_get (D := (dC, dI)) (ci := 2) (v := .ref h1) (C := RX2) (T := TX2) (N := 7) hx hb hts inlX2 hown hK hP 0 rfl rfl 1 (by decide) w2_ (fun _ h9 => h9) rfl dX2_readProgram_123 ?_
      obtain ⟨o4, e4, hf⟩ := ob_some hf
      refine kVv (As := []) (rest := []) ⟨hx, hb, hml, hown, hts⟩ (mX3_link l dC dI h1 h13 h12 h6 h19 h20 h21 h14 h15 kc13 kc12 kc6 kc19 kc20 kc21 kc14 kc15 H.size base v1_statements c13 c12 c6 c19 c20 c21 c14 c15 (fun k => match k with | 0 => .int v1_isThere | 1 => .int v1_globals | 2 => .int v1_procedures | 4 => .ref h18 | 6 => .ref h7 | 7 => .ref h8 | 8 => .ref h9 | 9 => .ref h10 | 10 => .ref h11 | _ => .null) o4 e4) (cwV 0 hts (gTV q781 q782 q783 q23 q784) rfl rfl rfl (by decide +kernel) ⟨Nat.le_of_ble_eq_true rfl, Nat.le_of_ble_eq_true rfl⟩) hK hP hD hS hA hE hAB [1, 13, 12, 6, 19, 20, 21, 14, 15] [0, 2, 3, 4, 5, 7, 8, 9, 10, 11, 16, 17, 18] [10, 9, 3, 16, 17, 18, 11, 12] (wr := [(h0, .inr (2, [.ref h2, .ref h1, .ref h4, .int v0_locals, .ref h5, .ref h16, .ref h17])), (h2, .inr (4, [.int o1.1, .int v2_tokenAt, .long v2_name, .int o1.2.1, .int o1.2.2.1, .ref h3, .int o2, .int v2_next])), (h3, .inl (kc3, 600, .inl c3)), (h4, .inl (kc4, 5, .inr (.inl c4))), (h5, .inl (kc5, 6, .inr (.inl c5))), (h7, .inl (kc7, 40, .inl c7)), (h8, .inl (kc8, 40, .inl c8)), (h9, .inl (kc9, 40, .inr (.inl c9))), (h10, .inl (kc10, 40, .inl c10)), (h11, .inl (kc11, 40, .inl o1.2.2.2)), (h16, .inl (kc16, 40, .inr (.inl c16))), (h17, .inl (kc17, 40, .inl c17)), (h18, .inl (kc18, 6, .inl c18))]) rfl rfl (by decide) (by decide) (by decide) rfl (ci := 3) (q0 := 0) rfl rfl rfl rfl hl.1 rfl (Nat.le_of_ble_eq_true rfl) dX2_readProgram_126 ⟨Nat.zero_le _, Nat.zero_le _⟩ (fun u4 H locs hw4 hP hD hS => ?_)
      have hw41 : o4 = u4 := Eq.symm hw4
      subst hw41
      have hP : va_P (dC, dI) vwCl (wX2_readProgram h0 h1 h2 h3 h4 h5 h6 h7 h8 h9 h10 h11 h12 h13 h14 h15 h16 h17 h18 h19 h20 h21 kc3 kc4 kc5 kc6 kc7 kc8 kc9 kc10 kc11 kc12 kc13 kc14 kc15 kc16 kc17 kc18 kc19 kc20 kc21 v0_locals v1_isThere v1_globals v1_procedures v1_statements o1.1 v2_tokenAt v2_name o1.2.1 o1.2.2.1 o2 v2_next c3 c4 c5 c6 c7 c8 c9 c10 o1.2.2.2 c12 c13 c14 c15 c16 c17 c18 o4.1 o4.2.1 o4.2.2) H := hP.sub [0, 13, 1, 2, 3, 4, 16, 5, 6, 7, 8, 9, 15, 14, 20, 21, 10, 11, 12, 17, 18, 19] rfl
      have hD : va_D A (wX2_readProgram h0 h1 h2 h3 h4 h5 h6 h7 h8 h9 h10 h11 h12 h13 h14 h15 h16 h17 h18 h19 h20 h21 kc3 kc4 kc5 kc6 kc7 kc8 kc9 kc10 kc11 kc12 kc13 kc14 kc15 kc16 kc17 kc18 kc19 kc20 kc21 v0_locals v1_isThere v1_globals v1_procedures v1_statements o1.1 v2_tokenAt v2_name o1.2.1 o1.2.2.1 o2 v2_next c3 c4 c5 c6 c7 c8 c9 c10 o1.2.2.2 c12 c13 c14 c15 c16 c17 c18 o4.1 o4.2.1 o4.2.2) := hD.sub [0, 13, 1, 2, 3, 4, 16, 5, 6, 7, 8, 9, 15, 14, 20, 21, 10, 11, 12, 17, 18, 19] (by decide) rfl
      refine lv_aload_n hx hb dX2_readProgram_129 rfl (lv_at hl 0 rfl) ?_
      refine va_get (D := (dC, dI)) (ci := 2) (v := .ref h1) (C := RX2) (T := TX2) (N := 7) hx hb hts inlX2 hown hK hP 0 rfl rfl 1 (by decide) w2_ (fun _ h9 => h9) rfl dX2_readProgram_130 ?_
      refine lv_iconst (v := 1) hx hb dX2_readProgram_133 (by decide +kernel) ?_
      refine va_put (D := (dC, dI)) (ci := 3) (v := .int 1) (ty := .boolean) (C := RX3) (T := TX3) (N := 18) hx hb hts inlX3 tyX3 tyX3_ok nmX3 hown hK hP hD hS 1 rfl rfl 0 (by decide) w3_ (fun _ h9 => h9) rfl (by decide +kernel) rfl rfl (Nat.le_of_ble_eq_true rfl) dX2_readProgram_134 (fun H locs hP hD hS => ?_)
      have hP : va_P (dC, dI) vwCl (wX2_readProgram h0 h1 h2 h3 h4 h5 h6 h7 h8 h9 h10 h11 h12 h13 h14 h15 h16 h17 h18 h19 h20 h21 kc3 kc4 kc5 kc6 kc7 kc8 kc9 kc10 kc11 kc12 kc13 kc14 kc15 kc16 kc17 kc18 kc19 kc20 kc21 v0_locals 1 v1_globals v1_procedures v1_statements o1.1 v2_tokenAt v2_name o1.2.1 o1.2.2.1 o2 v2_next c3 c4 c5 c6 c7 c8 c9 c10 o1.2.2.2 c12 c13 c14 c15 c16 c17 c18 o4.1 o4.2.1 o4.2.2) H := hP
      have hD : va_D A (wX2_readProgram h0 h1 h2 h3 h4 h5 h6 h7 h8 h9 h10 h11 h12 h13 h14 h15 h16 h17 h18 h19 h20 h21 kc3 kc4 kc5 kc6 kc7 kc8 kc9 kc10 kc11 kc12 kc13 kc14 kc15 kc16 kc17 kc18 kc19 kc20 kc21 v0_locals 1 v1_globals v1_procedures v1_statements o1.1 v2_tokenAt v2_name o1.2.1 o1.2.2.1 o2 v2_next c3 c4 c5 c6 c7 c8 c9 c10 o1.2.2.2 c12 c13 c14 c15 c16 c17 c18 o4.1 o4.2.1 o4.2.2) := hD
      have hf1 := Option.some.inj hf
      subst hf1
      have hP9 := hP.sub (ws' := (wX2_readProgram h0 h1 h2 h3 h4 h5 h6 h7 h8 h9 h10 h11 h12 h13 h14 h15 h16 h17 h18 h19 h20 h21 kc3 kc4 kc5 kc6 kc7 kc8 kc9 kc10 kc11 kc12 kc13 kc14 kc15 kc16 kc17 kc18 kc19 kc20 kc21 v0_locals 1 v1_globals v1_procedures v1_statements o1.1 v2_tokenAt v2_name o1.2.1 o1.2.2.1 o2 v2_next c3 c4 c5 c6 c7 c8 c9 c10 o1.2.2.2 c12 c13 c14 c15 c16 c17 c18 o4.1 o4.2.1 o4.2.2)) [0, 1, 2, 3, 4, 5, 6, 7, 8, 9, 10, 11, 12, 13, 14, 15, 16, 17, 18, 19, 20, 21] rfl
      have hD9 := hD.sub (ws' := (wX2_readProgram h0 h1 h2 h3 h4 h5 h6 h7 h8 h9 h10 h11 h12 h13 h14 h15 h16 h17 h18 h19 h20 h21 kc3 kc4 kc5 kc6 kc7 kc8 kc9 kc10 kc11 kc12 kc13 kc14 kc15 kc16 kc17 kc18 kc19 kc20 kc21 v0_locals 1 v1_globals v1_procedures v1_statements o1.1 v2_tokenAt v2_name o1.2.1 o1.2.2.1 o2 v2_next c3 c4 c5 c6 c7 c8 c9 c10 o1.2.2.2 c12 c13 c14 c15 c16 c17 c18 o4.1 o4.2.1 o4.2.2)) [0, 1, 2, 3, 4, 5, 6, 7, 8, 9, 10, 11, 12, 13, 14, 15, 16, 17, 18, 19, 20, 21] (by decide) rfl
      exact W.vret hx hb hr (fun t ht hW => ⟨⟨(v0_locals, 1, v1_globals, v1_procedures, v1_statements, o1.1, v2_tokenAt, v2_name, o1.2.1, o1.2.2.1, o2, v2_next, c4, c5, c6, c7, c8, c9, c10, o1.2.2.2, c12, c13, c14, c15, c16, c17, c18, o4.1, o4.2.1, o4.2.2), rfl, rfl, by rw [ht]; exact hP9, va_K.moved hW.alike hK, hD9⟩, hS.F ht⟩) hS.2.2 dX2_readProgram_137
    · replace hf := if_no hf cq3
      refine lv_aload_n hx hb dX2_readProgram_114 rfl (lv_at hl 0 rfl) ?_
      refine va_get (D := (dC, dI)) (ci := 2) (v := .ref h1) (C := RX2) (T := TX2) (N := 7) hx hb hts inlX2 hown hK hP 0 rfl rfl 1 (by decide) w2_ (fun _ h9 => h9) rfl dX2_readProgram_115 ?_
      obtain ⟨o5, e5, hf⟩ := ob_some hf
      refine kVv (As := []) (rest := []) ⟨hx, hb, hml, hown, hts⟩ (mX3_removeAll l dC dI h1 H.size base v1_isThere v1_globals v1_procedures v1_statements (fun k => match k with | 4 => .ref h18 | 5 => .ref h6 | 6 => .ref h7 | 7 => .ref h8 | 8 => .ref h9 | 9 => .ref h10 | 10 => .ref h11 | 11 => .ref h21 | 12 => .ref h20 | 13 => .ref h12 | 14 => .ref h13 | 15 => .ref h14 | 16 => .ref h15 | 17 => .ref h19 | _ => .null) o5 e5) (cwV 0 hts (gTV q547 q548 q549 q23 q550) rfl rfl rfl (by decide +kernel) ⟨Nat.le_of_ble_eq_true rfl, Nat.le_of_ble_eq_true rfl⟩) hK hP hD hS hA hE hAB [1] [0, 2, 3, 4, 5, 6, 7, 8, 9, 10, 11, 12, 13, 14, 15, 16, 17, 18, 19, 20, 21] [] (wr := [(h0, .inr (2, [.ref h2, .ref h1, .ref h4, .int v0_locals, .ref h5, .ref h16, .ref h17])), (h2, .inr (4, [.int o1.1, .int v2_tokenAt, .long v2_name, .int o1.2.1, .int o1.2.2.1, .ref h3, .int o2, .int v2_next])), (h3, .inl (kc3, 600, .inl c3)), (h4, .inl (kc4, 5, .inr (.inl c4))), (h5, .inl (kc5, 6, .inr (.inl c5))), (h6, .inl (kc6, 40, .inl c6)), (h7, .inl (kc7, 40, .inl c7)), (h8, .inl (kc8, 40, .inl c8)), (h9, .inl (kc9, 40, .inr (.inl c9))), (h10, .inl (kc10, 40, .inl c10)), (h11, .inl (kc11, 40, .inl o1.2.2.2)), (h12, .inl (kc12, 40, .inl c12)), (h13, .inl (kc13, 40, .inl c13)), (h14, .inl (kc14, 40, .inl c14)), (h15, .inl (kc15, 40, .inl c15)), (h16, .inl (kc16, 40, .inr (.inl c16))), (h17, .inl (kc17, 40, .inl c17)), (h18, .inl (kc18, 6, .inl c18)), (h19, .inl (kc19, 40, .inl c19)), (h20, .inl (kc20, 40, .inl c20)), (h21, .inl (kc21, 40, .inl c21))]) rfl rfl (by decide) (by decide) (by decide) rfl (ci := 3) (q0 := 0) rfl rfl rfl rfl hl.1 rfl (Nat.le_of_ble_eq_true rfl) dX2_readProgram_118 ⟨Nat.zero_le _, Nat.zero_le _⟩ (fun u5 H locs hw5 hP hD hS => ?_)
      have hw51 : o5 = u5 := Eq.symm hw5
      subst hw51
      have hP : va_P (dC, dI) vwCl (wX2_readProgram h0 h1 h2 h3 h4 h5 h6 h7 h8 h9 h10 h11 h12 h13 h14 h15 h16 h17 h18 h19 h20 h21 kc3 kc4 kc5 kc6 kc7 kc8 kc9 kc10 kc11 kc12 kc13 kc14 kc15 kc16 kc17 kc18 kc19 kc20 kc21 v0_locals o5.1 o5.2.1 o5.2.2.1 o5.2.2.2 o1.1 v2_tokenAt v2_name o1.2.1 o1.2.2.1 o2 v2_next c3 c4 c5 c6 c7 c8 c9 c10 o1.2.2.2 c12 c13 c14 c15 c16 c17 c18 c19 c20 c21) H := hP.sub [0, 21, 1, 2, 3, 4, 5, 6, 7, 8, 9, 10, 11, 12, 13, 14, 15, 16, 17, 18, 19, 20] rfl
      have hD : va_D A (wX2_readProgram h0 h1 h2 h3 h4 h5 h6 h7 h8 h9 h10 h11 h12 h13 h14 h15 h16 h17 h18 h19 h20 h21 kc3 kc4 kc5 kc6 kc7 kc8 kc9 kc10 kc11 kc12 kc13 kc14 kc15 kc16 kc17 kc18 kc19 kc20 kc21 v0_locals o5.1 o5.2.1 o5.2.2.1 o5.2.2.2 o1.1 v2_tokenAt v2_name o1.2.1 o1.2.2.1 o2 v2_next c3 c4 c5 c6 c7 c8 c9 c10 o1.2.2.2 c12 c13 c14 c15 c16 c17 c18 c19 c20 c21) := hD.sub [0, 21, 1, 2, 3, 4, 5, 6, 7, 8, 9, 10, 11, 12, 13, 14, 15, 16, 17, 18, 19, 20] (by decide) rfl
      have hf1 := Option.some.inj hf
      subst hf1
      have hP9 := hP.sub (ws' := (wX2_readProgram h0 h1 h2 h3 h4 h5 h6 h7 h8 h9 h10 h11 h12 h13 h14 h15 h16 h17 h18 h19 h20 h21 kc3 kc4 kc5 kc6 kc7 kc8 kc9 kc10 kc11 kc12 kc13 kc14 kc15 kc16 kc17 kc18 kc19 kc20 kc21 v0_locals o5.1 o5.2.1 o5.2.2.1 o5.2.2.2 o1.1 v2_tokenAt v2_name o1.2.1 o1.2.2.1 o2 v2_next c3 c4 c5 c6 c7 c8 c9 c10 o1.2.2.2 c12 c13 c14 c15 c16 c17 c18 c19 c20 c21)) [0, 1, 2, 3, 4, 5, 6, 7, 8, 9, 10, 11, 12, 13, 14, 15, 16, 17, 18, 19, 20, 21] rfl
      have hD9 := hD.sub (ws' := (wX2_readProgram h0 h1 h2 h3 h4 h5 h6 h7 h8 h9 h10 h11 h12 h13 h14 h15 h16 h17 h18 h19 h20 h21 kc3 kc4 kc5 kc6 kc7 kc8 kc9 kc10 kc11 kc12 kc13 kc14 kc15 kc16 kc17 kc18 kc19 kc20 kc21 v0_locals o5.1 o5.2.1 o5.2.2.1 o5.2.2.2 o1.1 v2_tokenAt v2_name o1.2.1 o1.2.2.1 o2 v2_next c3 c4 c5 c6 c7 c8 c9 c10 o1.2.2.2 c12 c13 c14 c15 c16 c17 c18 c19 c20 c21)) [0, 1, 2, 3, 4, 5, 6, 7, 8, 9, 10, 11, 12, 13, 14, 15, 16, 17, 18, 19, 20, 21] (by decide) rfl
      exact W.vret hx hb hr (fun t ht hW => ⟨⟨(v0_locals, o5.1, o5.2.1, o5.2.2.1, o5.2.2.2, o1.1, v2_tokenAt, v2_name, o1.2.1, o1.2.2.1, o2, v2_next, c4, c5, c6, c7, c8, c9, c10, o1.2.2.2, c12, c13, c14, c15, c16, c17, c18, c19, c20, c21), rfl, rfl, by rw [ht]; exact hP9, va_K.moved hW.alike hK, hD9⟩, hS.F ht⟩) hS.2.2 dX2_readProgram_121
  have J72 : ∀ (v0_locals : Int32) (v1_isThere : Int32) (v1_globals : Int32) (v1_procedures : Int32) (v1_statements : Int32) (v2_token : Int32) (v2_tokenAt : Int32) (v2_name : Int64) (v2_fault : Int32) (v2_faultAt : Int32) (v2_size : Int32) (v2_next : Int32) (c4 : (Nat → Int64)) (c5 : (Nat → Int64)) (c6 : (Nat → Int32)) (c7 : (Nat → Int32)) (c8 : (Nat → Int32)) (c9 : (Nat → Int64)) (c10 : (Nat → Int32)) (c11 : (Nat → Int32)) (c12 : (Nat → Int32)) (c13 : (Nat → Int32)) (c14 : (Nat → Int32)) (c15 : (Nat → Int32)) (c16 : (Nat → Int64)) (c17 : (Nat → Int32)) (c18 : (Nat → Int32)) (c19 : (Nat → Int32)) (c20 : (Nat → Int32)) (c21 : (Nat → Int32)) (H : Heap) (locs : List Loc) (ls : Array Slot), va_P (dC, dI) vwCl (wX2_readProgram h0 h1 h2 h3 h4 h5 h6 h7 h8 h9 h10 h11 h12 h13 h14 h15 h16 h17 h18 h19 h20 h21 kc3 kc4 kc5 kc6 kc7 kc8 kc9 kc10 kc11 kc12 kc13 kc14 kc15 kc16 kc17 kc18 kc19 kc20 kc21 v0_locals v1_isThere v1_globals v1_procedures v1_statements v2_token v2_tokenAt v2_name v2_fault v2_faultAt v2_size v2_next c3 c4 c5 c6 c7 c8 c9 c10 c11 c12 c13 c14 c15 c16 c17 c18 c19 c20 c21) H → va_D A (wX2_readProgram h0 h1 h2 h3 h4 h5 h6 h7 h8 h9 h10 h11 h12 h13 h14 h15 h16 h17 h18 h19 h20 h21 kc3 kc4 kc5 kc6 kc7 kc8 kc9 kc10 kc11 kc12 kc13 kc14 kc15 kc16 kc17 kc18 kc19 kc20 kc21 v0_locals v1_isThere v1_globals v1_procedures v1_statements v2_token v2_tokenAt v2_name v2_fault v2_faultAt v2_size v2_next c3 c4 c5 c6 c7 c8 c9 c10 c11 c12 c13 c14 c15 c16 c17 c18 c19 c20 c21) → va_S A s.heap H locs → lv_has ls 2 [(0, .ref h0)] → fX2_readProgram_p72 c3  v0_locals v1_isThere v1_globals v1_procedures v1_statements v2_token v2_tokenAt v2_name v2_fault v2_faultAt v2_size v2_next c4 c5 c6 c7 c8 c9 c10 c11 c12 c13 c14 c15 c16 c17 c18 c19 c20 c21 = some o → G 0 0 H locs (F0 m 72 ls []) := by
    intro  v0_locals v1_isThere v1_globals v1_procedures v1_statements v2_token v2_tokenAt v2_name v2_fault v2_faultAt v2_size v2_next c4 c5 c6 c7 c8 c9 c10 c11 c12 c13 c14 c15 c16 c17 c18 c19 c20 c21 H locs ls hP hD hS hl hf
    refine (hG _ _ _ _ _).mpr ?_
    unfold fX2_readProgram_p72 at hf
    refine lv_aload_n hx hb dX2_readProgram_72 rfl (lv_at hl 0 rfl) ?_
    refine va_get (D := (dC, dI)) (ci := 2) (v := .ref h2) (C := RX2) (T := TX2) (N := 7) hx hb hts inlX2 hown hK hP 0 rfl rfl 0 (by decide) w0_ (fun _ h9 => h9) rfl dX2_readProgram_73 ?_
    refine va_get (D := (dC, dI)) (ci := 4) (v := .int v2_token) (C := RX4) (T := TX4) (N := 8) hx hb hts inlX4 hown hK hP 2 rfl rfl 0 (by decide) w4_ (fun _ h9 => h9) rfl dX2_readProgram_76 ?_
    refine lv_sipush (v := 256) hx hb dX2_readProgram_79 (by decide +kernel) ?_
    refine lv_icmp_eq (tgt := 93) hx hb dX2_readProgram_82 (by decide) (fun cq6 => ?_) (fun cq6 => ?_)
    · replace hf := if_at hf cq6
      exact (hG _ _ _ _ _).mp (J93 v0_locals v1_isThere v1_globals v1_procedures v1_statements v2_token v2_tokenAt v2_name v2_fault v2_faultAt v2_size v2_next c4 c5 c6 c7 c8 c9 c10 c11 c12 c13 c14 c15 c16 c17 c18 c19 c20 c21 H locs ls (hP.sub [0, 1, 2, 3, 4, 5, 6, 7, 8, 9, 10, 11, 12, 13, 14, 15, 16, 17, 18, 19, 20, 21] rfl) (hD.sub [0, 1, 2, 3, 4, 5, 6, 7, 8, 9, 10, 11, 12, 13, 14, 15, 16, 17, 18, 19, 20, 21] (by decide) rfl) hS (lv_sub hl [0] rfl) hf)
    · replace hf := if_no hf cq6
      refine lv_aload_n hx hb dX2_readProgram_85 rfl (lv_at hl 0 rfl) ?_
      refine va_get (D := (dC, dI)) (ci := 2) (v := .ref h2) (C := RX2) (T := TX2) (N := 7) hx hb hts inlX2 hown hK hP 0 rfl rfl 0 (by decide) w0_ (fun _ h9 => h9) rfl dX2_readProgram_86 ?_
      refine lv_iconst (v := 2) hx hb dX2_readProgram_89 (by decide +kernel) ?_
      obtain ⟨o7, e7, hf⟩ := ob_some hf
      refine kVv (As := [.int 2]) (rest := []) ⟨hx, hb, hml, hown, hts⟩ (mX4_failHere l dC dI h2 H.size base 2 v2_token v2_tokenAt v2_fault v2_faultAt (fun k => match k with | 2 => .long v2_name | 5 => .ref h3 | 6 => .int v2_size | 7 => .int v2_next | _ => .null) o7 e7) (cwV 1 hts (gTV q679 q680 q681 q19 q682) rfl rfl rfl (by decide +kernel) ⟨Nat.le_of_ble_eq_true rfl, Nat.le_of_ble_eq_true rfl⟩) hK hP hD hS hA hE hAB [2] [0, 1, 3, 4, 5, 6, 7, 8, 9, 10, 11, 12, 13, 14, 15, 16, 17, 18, 19, 20, 21] [] (wr := [(h0, .inr (2, [.ref h2, .ref h1, .ref h4, .int v0_locals, .ref h5, .ref h16, .ref h17])), (h1, .inr (3, [.int v1_isThere, .int v1_globals, .int v1_procedures, .int v1_statements, .ref h18, .ref h6, .ref h7, .ref h8, .ref h9, .ref h10, .ref h11, .ref h21, .ref h20, .ref h12, .ref h13, .ref h14, .ref h15, .ref h19])), (h3, .inl (kc3, 600, .inl c3)), (h4, .inl (kc4, 5, .inr (.inl c4))), (h5, .inl (kc5, 6, .inr (.inl c5))), (h6, .inl (kc6, 40, .inl c6)), (h7, .inl (kc7, 40, .inl c7)), (h8, .inl (kc8, 40, .inl c8)), (h9, .inl (kc9, 40, .inr (.inl c9))), (h10, .inl (kc10, 40, .inl c10)), (h11, .inl (kc11, 40, .inl c11)), (h12, .inl (kc12, 40, .inl c12)), (h13, .inl (kc13, 40, .inl c13)), (h14, .inl (kc14, 40, .inl c14)), (h15, .inl (kc15, 40, .inl c15)), (h16, .inl (kc16, 40, .inr (.inl c16))), (h17, .inl (kc17, 40, .inl c17)), (h18, .inl (kc18, 6, .inl c18)), (h19, .inl (kc19, 40, .inl c19)), (h20, .inl (kc20, 40, .inl c20)), (h21, .inl (kc21, 40, .inl c21))]) rfl rfl (by decide) (by decide) (by decide) rfl (ci := 4) (q0 := 0) rfl rfl rfl rfl hl.1 rfl (Nat.le_of_ble_eq_true rfl) dX2_readProgram_90 ⟨Nat.zero_le _, Nat.zero_le _⟩ (fun u7 H locs hw7 hP hD hS => ?_)
      have hw71 : o7 = u7 := Eq.symm hw7
      subst hw71
      have hP : va_P (dC, dI) vwCl (wX2_readProgram h0 h1 h2 h3 h4 h5 h6 h7 h8 h9 h10 h11 h12 h13 h14 h15 h16 h17 h18 h19 h20 h21 kc3 kc4 kc5 kc6 kc7 kc8 kc9 kc10 kc11 kc12 kc13 kc14 kc15 kc16 kc17 kc18 kc19 kc20 kc21 v0_locals v1_isThere v1_globals v1_procedures v1_statements o7.1 v2_tokenAt v2_name o7.2.1 o7.2.2 v2_size v2_next c3 c4 c5 c6 c7 c8 c9 c10 c11 c12 c13 c14 c15 c16 c17 c18 c19 c20 c21) H := hP.sub [0, 1, 21, 2, 3, 4, 5, 6, 7, 8, 9, 10, 11, 12, 13, 14, 15, 16, 17, 18, 19, 20] rfl
      have hD : va_D A (wX2_readProgram h0 h1 h2 h3 h4 h5 h6 h7 h8 h9 h10 h11 h12 h13 h14 h15 h16 h17 h18 h19 h20 h21 kc3 kc4 kc5 kc6 kc7 kc8 kc9 kc10 kc11 kc12 kc13 kc14 kc15 kc16 kc17 kc18 kc19 kc20 kc21 v0_locals v1_isThere v1_globals v1_procedures v1_statements o7.1 v2_tokenAt v2_name o7.2.1 o7.2.2 v2_size v2_next c3 c4 c5 c6 c7 c8 c9 c10 c11 c12 c13 c14 c15 c16 c17 c18 c19 c20 c21) := hD.sub [0, 1, 21, 2, 3, 4, 5, 6, 7, 8, 9, 10, 11, 12, 13, 14, 15, 16, 17, 18, 19, 20] (by decide) rfl
      exact (hG _ _ _ _ _).mp (J93 v0_locals v1_isThere v1_globals v1_procedures v1_statements o7.1 v2_tokenAt v2_name o7.2.1 o7.2.2 v2_size v2_next c4 c5 c6 c7 c8 c9 c10 c11 c12 c13 c14 c15 c16 c17 c18 c19 c20 c21 H locs ls (hP.sub [0, 1, 2, 3, 4, 5, 6, 7, 8, 9, 10, 11, 12, 13, 14, 15, 16, 17, 18, 19, 20, 21] rfl) (hD.sub [0, 1, 2, 3, 4, 5, 6, 7, 8, 9, 10, 11, 12, 13, 14, 15, 16, 17, 18, 19, 20, 21] (by decide) rfl) hS (lv_sub hl [0] rfl) hf)
  have B43 : ∀ (k43 : Int32 → Int32 → Int32 → Int32 → Int32 → Int32 → Int32 → Int32 → Int64 → Int32 → Int32 → Int32 → Int32 → (Nat → Int64) → (Nat → Int64) → (Nat → Int32) → (Nat → Int32) → (Nat → Int32) → (Nat → Int64) → (Nat → Int32) → (Nat → Int32) → (Nat → Int32) → (Nat → Int32) → (Nat → Int32) → (Nat → Int32) → (Nat → Int64) → (Nat → Int32) → (Nat → Int32) → (Nat → Int32) → (Nat → Int32) → (Nat → Int32) → Option (Int32 × Int32 × Int32 × Int32 × Int32 × Int32 × Int32 × Int64 × Int32 × Int32 × Int32 × Int32 × (Nat → Int64) × (Nat → Int64) × (Nat → Int32) × (Nat → Int32) × (Nat → Int32) × (Nat → Int64) × (Nat → Int32) × (Nat → Int32) × (Nat → Int32) × (Nat → Int32) × (Nat → Int32) × (Nat → Int32) × (Nat → Int64) × (Nat → Int32) × (Nat → Int32) × (Nat → Int32) × (Nat → Int32) × (Nat → Int32))) (hk43 : ∀ (y1 : Int32) (v0_locals : Int32) (v1_isThere : Int32) (v1_globals : Int32) (v1_procedures : Int32) (v1_statements : Int32) (v2_token : Int32) (v2_tokenAt : Int32) (v2_name : Int64) (v2_fault : Int32) (v2_faultAt : Int32) (v2_size : Int32) (v2_next : Int32) (c4 : (Nat → Int64)) (c5 : (Nat → Int64)) (c6 : (Nat → Int32)) (c7 : (Nat → Int32)) (c8 : (Nat → Int32)) (c9 : (Nat → Int64)) (c10 : (Nat → Int32)) (c11 : (Nat → Int32)) (c12 : (Nat → Int32)) (c13 : (Nat → Int32)) (c14 : (Nat → Int32)) (c15 : (Nat → Int32)) (c16 : (Nat → Int64)) (c17 : (Nat → Int32)) (c18 : (Nat → Int32)) (c19 : (Nat → Int32)) (c20 : (Nat → Int32)) (c21 : (Nat → Int32)) (H : Heap) (locs : List Loc) (ls : Array Slot), va_P (dC, dI) vwCl (wX2_readProgram h0 h1 h2 h3 h4 h5 h6 h7 h8 h9 h10 h11 h12 h13 h14 h15 h16 h17 h18 h19 h20 h21 kc3 kc4 kc5 kc6 kc7 kc8 kc9 kc10 kc11 kc12 kc13 kc14 kc15 kc16 kc17 kc18 kc19 kc20 kc21 v0_locals v1_isThere v1_globals v1_procedures v1_statements v2_token v2_tokenAt v2_name v2_fault v2_faultAt v2_size v2_next c3 c4 c5 c6 c7 c8 c9 c10 c11 c12 c13 c14 c15 c16 c17 c18 c19 c20 c21) H → va_D A (wX2_readProgram h0 h1 h2 h3 h4 h5 h6 h7 h8 h9 h10 h11 h12 h13 h14 h15 h16 h17 h18 h19 h20 h21 kc3 kc4 kc5 kc6 kc7 kc8 kc9 kc10 kc11 kc12 kc13 kc14 kc15 kc16 kc17 kc18 kc19 kc20 kc21 v0_locals v1_isThere v1_globals v1_procedures v1_statements v2_token v2_tokenAt v2_name v2_fault v2_faultAt v2_size v2_next c3 c4 c5 c6 c7 c8 c9 c10 c11 c12 c13 c14 c15 c16 c17 c18 c19 c20 c21) → va_S A s.heap H locs → lv_has ls 2 [(0, .ref h0), (1, .int y1)] → k43 y1 v0_locals v1_isThere v1_globals v1_procedures v1_statements v2_token v2_tokenAt v2_name v2_fault v2_faultAt v2_size v2_next c4 c5 c6 c7 c8 c9 c10 c11 c12 c13 c14 c15 c16 c17 c18 c19 c20 c21 = some o → G 0 0 H locs (F0 m 43 ls [])), ∀ (y1 : Int32) (v0_locals : Int32) (v1_isThere : Int32) (v1_globals : Int32) (v1_procedures : Int32) (v1_statements : Int32) (v2_token : Int32) (v2_tokenAt : Int32) (v2_name : Int64) (v2_fault : Int32) (v2_faultAt : Int32) (v2_size : Int32) (v2_next : Int32) (c4 : (Nat → Int64)) (c5 : (Nat → Int64)) (c6 : (Nat → Int32)) (c7 : (Nat → Int32)) (c8 : (Nat → Int32)) (c9 : (Nat → Int64)) (c10 : (Nat → Int32)) (c11 : (Nat → Int32)) (c12 : (Nat → Int32)) (c13 : (Nat → Int32)) (c14 : (Nat → Int32)) (c15 : (Nat → Int32)) (c16 : (Nat → Int64)) (c17 : (Nat → Int32)) (c18 : (Nat → Int32)) (c19 : (Nat → Int32)) (c20 : (Nat → Int32)) (c21 : (Nat → Int32)) (H : Heap) (locs : List Loc) (ls : Array Slot), va_P (dC, dI) vwCl (wX2_readProgram h0 h1 h2 h3 h4 h5 h6 h7 h8 h9 h10 h11 h12 h13 h14 h15 h16 h17 h18 h19 h20 h21 kc3 kc4 kc5 kc6 kc7 kc8 kc9 kc10 kc11 kc12 kc13 kc14 kc15 kc16 kc17 kc18 kc19 kc20 kc21 v0_locals v1_isThere v1_globals v1_procedures v1_statements v2_token v2_tokenAt v2_name v2_fault v2_faultAt v2_size v2_next c3 c4 c5 c6 c7 c8 c9 c10 c11 c12 c13 c14 c15 c16 c17 c18 c19 c20 c21) H → va_D A (wX2_readProgram h0 h1 h2 h3 h4 h5 h6 h7 h8 h9 h10 h11 h12 h13 h14 h15 h16 h17 h18 h19 h20 h21 kc3 kc4 kc5 kc6 kc7 kc8 kc9 kc10 kc11 kc12 kc13 kc14 kc15 kc16 kc17 kc18 kc19 kc20 kc21 v0_locals v1_isThere v1_globals v1_procedures v1_statements v2_token v2_tokenAt v2_name v2_fault v2_faultAt v2_size v2_next c3 c4 c5 c6 c7 c8 c9 c10 c11 c12 c13 c14 c15 c16 c17 c18 c19 c20 c21) → va_S A s.heap H locs → lv_has ls 2 [(0, .ref h0), (1, .int y1)] → fX2_readProgram_b43 c3  k43 y1 v0_locals v1_isThere v1_globals v1_procedures v1_statements v2_token v2_tokenAt v2_name v2_fault v2_faultAt v2_size v2_next c4 c5 c6 c7 c8 c9 c10 c11 c12 c13 c14 c15 c16 c17 c18 c19 c20 c21 = some o → G 0 0 H locs (F0 m 43 ls []) := by
    intro  k43 hk43 y1 v0_locals v1_isThere v1_globals v1_procedures v1_statements v2_token v2_tokenAt v2_name v2_fault v2_faultAt v2_size v2_next c4 c5 c6 c7 c8 c9 c10 c11 c12 c13 c14 c15 c16 c17 c18 c19 c20 c21 H locs ls hP hD hS hl hf
    refine (hG _ _ _ _ _).mpr ?_
    unfold fX2_readProgram_b43 at hf
    refine lv_iload_n hx hb dX2_readProgram_43 rfl (lv_at hl 1 rfl) ?_
    refine lv_bipush (v := 6) hx hb dX2_readProgram_44 (by decide +kernel) ?_
    refine lv_icmp_ge (tgt := 72) hx hb dX2_readProgram_46 (by decide) (fun cq8 => ?_) (fun cq8 => ?_)
    · replace hf := if_at hf cq8
      exact (hG _ _ _ _ _).mp (J72 v0_locals v1_isThere v1_globals v1_procedures v1_statements v2_token v2_tokenAt v2_name v2_fault v2_faultAt v2_size v2_next c4 c5 c6 c7 c8 c9 c10 c11 c12 c13 c14 c15 c16 c17 c18 c19 c20 c21 H locs ls (hP.sub [0, 1, 2, 3, 4, 5, 6, 7, 8, 9, 10, 11, 12, 13, 14, 15, 16, 17, 18, 19, 20, 21] rfl) (hD.sub [0, 1, 2, 3, 4, 5, 6, 7, 8, 9, 10, 11, 12, 13, 14, 15, 16, 17, 18, 19, 20, 21] (by decide) rfl) hS (lv_sub hl [0] rfl) hf)
    · replace hf := if_no hf cq8
      refine lv_aload_n hx hb dX2_readProgram_49 rfl (lv_at hl 0 rfl) ?_
      refine va_get (D := (dC, dI)) (ci := 2) (v := .ref h2) (C := RX2) (T := TX2) (N := 7) hx hb hts inlX2 hown hK hP 0 rfl rfl 0 (by decide) w0_ (fun _ h9 => h9) rfl dX2_readProgram_50 ?_
      refine va_get (D := (dC, dI)) (ci := 4) (v := .int v2_token) (C := RX4) (T := TX4) (N := 8) hx hb hts inlX4 hown hK hP 2 rfl rfl 0 (by decide) w4_ (fun _ h9 => h9) rfl dX2_readProgram_53 ?_
      refine lv_sipush (v := 260) hx hb dX2_readProgram_56 (by decide +kernel) ?_
      refine lv_icmp_ne (tgt := 72) hx hb dX2_readProgram_59 (by decide) (fun cq9 => ?_) (fun cq9 => ?_)
      · replace hf := if_no hf cq9
        exact (hG _ _ _ _ _).mp (J72 v0_locals v1_isThere v1_globals v1_procedures v1_statements v2_token v2_tokenAt v2_name v2_fault v2_faultAt v2_size v2_next c4 c5 c6 c7 c8 c9 c10 c11 c12 c13 c14 c15 c16 c17 c18 c19 c20 c21 H locs ls (hP.sub [0, 1, 2, 3, 4, 5, 6, 7, 8, 9, 10, 11, 12, 13, 14, 15, 16, 17, 18, 19, 20, 21] rfl) (hD.sub [0, 1, 2, 3, 4, 5, 6, 7, 8, 9, 10, 11, 12, 13, 14, 15, 16, 17, 18, 19, 20, 21] (by decide) rfl) hS (lv_sub hl [0] rfl) hf)
      · replace hf := if_at hf cq9
        refine lv_aload_n hx hb dX2_readProgram_62 rfl (lv_at hl 0 rfl) ?_
        obtain ⟨o10, e10, hf⟩ := ob_some hf
        refine kVv (As := []) (rest := []) ⟨hx, hb, hml, hown, hts⟩ (mX2_readProcedure l dC dI h0 h2 h3 h1 h5 h4 h6 h7 h8 h9 h10 h11 h12 h13 h14 h15 h16 h17 h18 kc3 kc5 kc4 kc6 kc7 kc8 kc9 kc10 kc11 kc12 kc13 kc14 kc15 kc16 kc17 kc18 H.size base v0_locals v2_token v2_tokenAt v2_name v2_fault v2_faultAt v2_size v2_next c3 v1_globals v1_procedures v1_statements c5 c4 c6 c7 c8 c9 c10 c11 c12 c13 c14 c15 c16 c17 c18 (fun k => match k with | 0 => .int v1_isThere | 11 => .ref h21 | 12 => .ref h20 | 17 => .ref h19 | _ => .null) o10 e10) (cwV 0 hts (gTV q692 q693 q694 q27 q695) rfl rfl rfl (by decide +kernel) ⟨Nat.le_of_ble_eq_true rfl, Nat.le_of_ble_eq_true rfl⟩) hK hP hD hS hA hE hAB [0, 2, 3, 1, 5, 4, 6, 7, 8, 9, 10, 11, 12, 13, 14, 15, 16, 17, 18] [19, 20, 21] [0, 2, 1, 3, 4, 5, 6, 7, 8, 9, 10, 11, 12, 13, 14, 15] (wr := [(h19, .inl (kc19, 40, .inl c19)), (h20, .inl (kc20, 40, .inl c20)), (h21, .inl (kc21, 40, .inl c21))]) rfl rfl (by decide) (by decide) (by decide) rfl (ci := 2) (q0 := 0) rfl rfl rfl rfl hl.1 rfl (Nat.le_of_ble_eq_true rfl) dX2_readProgram_63 ⟨Nat.zero_le _, Nat.zero_le _⟩ (fun u10 H locs hw10 hP hD hS => ?_)
        have hw101 : o10 = u10 := Eq.symm hw10
        subst hw101
        have hP : va_P (dC, dI) vwCl (wX2_readProgram h0 h1 h2 h3 h4 h5 h6 h7 h8 h9 h10 h11 h12 h13 h14 h15 h16 h17 h18 h19 h20 h21 kc3 kc4 kc5 kc6 kc7 kc8 kc9 kc10 kc11 kc12 kc13 kc14 kc15 kc16 kc17 kc18 kc19 kc20 kc21 o10.1 v1_isThere o10.2.2.2.2.2.2.2.1 o10.2.2.2.2.2.2.2.2.1 o10.2.2.2.2.2.2.2.2.2.1 o10.2.1 o10.2.2.1 o10.2.2.2.1 o10.2.2.2.2.1 o10.2.2.2.2.2.1 v2_size o10.2.2.2.2.2.2.1 c3 o10.2.2.2.2.2.2.2.2.2.2.2.1 o10.2.2.2.2.2.2.2.2.2.2.1 o10.2.2.2.2.2.2.2.2.2.2.2.2.1 o10.2.2.2.2.2.2.2.2.2.2.2.2.2.1 o10.2.2.2.2.2.2.2.2.2.2.2.2.2.2.1 o10.2.2.2.2.2.2.2.2.2.2.2.2.2.2.2.1 o10.2.2.2.2.2.2.2.2.2.2.2.2.2.2.2.2.1 o10.2.2.2.2.2.2.2.2.2.2.2.2.2.2.2.2.2.1 o10.2.2.2.2.2.2.2.2.2.2.2.2.2.2.2.2.2.2.1 o10.2.2.2.2.2.2.2.2.2.2.2.2.2.2.2.2.2.2.2.1 o10.2.2.2.2.2.2.2.2.2.2.2.2.2.2.2.2.2.2.2.2.1 o10.2.2.2.2.2.2.2.2.2.2.2.2.2.2.2.2.2.2.2.2.2.1 o10.2.2.2.2.2.2.2.2.2.2.2.2.2.2.2.2.2.2.2.2.2.2.1 o10.2.2.2.2.2.2.2.2.2.2.2.2.2.2.2.2.2.2.2.2.2.2.2.1 o10.2.2.2.2.2.2.2.2.2.2.2.2.2.2.2.2.2.2.2.2.2.2.2.2 c19 c20 c21) H := hP.sub [3, 6, 4, 5, 8, 7, 9, 10, 11, 12, 13, 14, 15, 16, 17, 18, 19, 20, 21, 0, 1, 2] rfl
        have hD : va_D A (wX2_readProgram h0 h1 h2 h3 h4 h5 h6 h7 h8 h9 h10 h11 h12 h13 h14 h15 h16 h17 h18 h19 h20 h21 kc3 kc4 kc5 kc6 kc7 kc8 kc9 kc10 kc11 kc12 kc13 kc14 kc15 kc16 kc17 kc18 kc19 kc20 kc21 o10.1 v1_isThere o10.2.2.2.2.2.2.2.1 o10.2.2.2.2.2.2.2.2.1 o10.2.2.2.2.2.2.2.2.2.1 o10.2.1 o10.2.2.1 o10.2.2.2.1 o10.2.2.2.2.1 o10.2.2.2.2.2.1 v2_size o10.2.2.2.2.2.2.1 c3 o10.2.2.2.2.2.2.2.2.2.2.2.1 o10.2.2.2.2.2.2.2.2.2.2.1 o10.2.2.2.2.2.2.2.2.2.2.2.2.1 o10.2.2.2.2.2.2.2.2.2.2.2.2.2.1 o10.2.2.2.2.2.2.2.2.2.2.2.2.2.2.1 o10.2.2.2.2.2.2.2.2.2.2.2.2.2.2.2.1 o10.2.2.2.2.2.2.2.2.2.2.2.2.2.2.2.2.1 o10.2.2.2.2.2.2.2.2.2.2.2.2.2.2.2.2.2.1 o10.2.2.2.2.2.2.2.2.2.2.2.2.2.2.2.2.2.2.1 o10.2.2.2.2.2.2.2.2.2.2.2.2.2.2.2.2.2.2.2.1 o10.2.2.2.2.2.2.2.2.2.2.2.2.2.2.2.2.2.2.2.2.1 o10.2.2.2.2.2.2.2.2.2.2.2.2.2.2.2.2.2.2.2.2.2.1 o10.2.2.2.2.2.2.2.2.2.2.2.2.2.2.2.2.2.2.2.2.2.2.1 o10.2.2.2.2.2.2.2.2.2.2.2.2.2.2.2.2.2.2.2.2.2.2.2.1 o10.2.2.2.2.2.2.2.2.2.2.2.2.2.2.2.2.2.2.2.2.2.2.2.2 c19 c20 c21) := hD.sub [3, 6, 4, 5, 8, 7, 9, 10, 11, 12, 13, 14, 15, 16, 17, 18, 19, 20, 21, 0, 1, 2] (by decide) rfl
        obtain ⟨x11, e11⟩ : ∃ y : Int32, y = y1 + 1 := ⟨_, rfl⟩
        replace hf := nm_at hf e11
        refine lv_iinc (v := x11) (lv' := [(1, .int x11), (0, .ref h0)]) hx hb dX2_readProgram_66 hl (k := 1) rfl (by rw [e11]; rfl) (by decide) rfl (fun ls hl => ?_)
        refine lv_goto (tgt := 43) hx hb dX2_readProgram_69 (by decide) ?_
        exact (hG _ _ _ _ _).mp (hk43 x11 o10.1 v1_isThere o10.2.2.2.2.2.2.2.1 o10.2.2.2.2.2.2.2.2.1 o10.2.2.2.2.2.2.2.2.2.1 o10.2.1 o10.2.2.1 o10.2.2.2.1 o10.2.2.2.2.1 o10.2.2.2.2.2.1 v2_size o10.2.2.2.2.2.2.1 o10.2.2.2.2.2.2.2.2.2.2.2.1 o10.2.2.2.2.2.2.2.2.2.2.1 o10.2.2.2.2.2.2.2.2.2.2.2.2.1 o10.2.2.2.2.2.2.2.2.2.2.2.2.2.1 o10.2.2.2.2.2.2.2.2.2.2.2.2.2.2.1 o10.2.2.2.2.2.2.2.2.2.2.2.2.2.2.2.1 o10.2.2.2.2.2.2.2.2.2.2.2.2.2.2.2.2.1 o10.2.2.2.2.2.2.2.2.2.2.2.2.2.2.2.2.2.1 o10.2.2.2.2.2.2.2.2.2.2.2.2.2.2.2.2.2.2.1 o10.2.2.2.2.2.2.2.2.2.2.2.2.2.2.2.2.2.2.2.1 o10.2.2.2.2.2.2.2.2.2.2.2.2.2.2.2.2.2.2.2.2.1 o10.2.2.2.2.2.2.2.2.2.2.2.2.2.2.2.2.2.2.2.2.2.1 o10.2.2.2.2.2.2.2.2.2.2.2.2.2.2.2.2.2.2.2.2.2.2.1 o10.2.2.2.2.2.2.2.2.2.2.2.2.2.2.2.2.2.2.2.2.2.2.2.1 o10.2.2.2.2.2.2.2.2.2.2.2.2.2.2.2.2.2.2.2.2.2.2.2.2 c19 c20 c21 H locs ls (hP.sub [0, 1, 2, 3, 4, 5, 6, 7, 8, 9, 10, 11, 12, 13, 14, 15, 16, 17, 18, 19, 20, 21] rfl) (hD.sub [0, 1, 2, 3, 4, 5, 6, 7, 8, 9, 10, 11, 12, 13, 14, 15, 16, 17, 18, 19, 20, 21] (by decide) rfl) hS (lv_sub hl [1, 0] rfl) hf)
  have L43 : ∀ (n : Nat), ∀ (y1 : Int32) (v0_locals : Int32) (v1_isThere : Int32) (v1_globals : Int32) (v1_procedures : Int32) (v1_statements : Int32) (v2_token : Int32) (v2_tokenAt : Int32) (v2_name : Int64) (v2_fault : Int32) (v2_faultAt : Int32) (v2_size : Int32) (v2_next : Int32) (c4 : (Nat → Int64)) (c5 : (Nat → Int64)) (c6 : (Nat → Int32)) (c7 : (Nat → Int32)) (c8 : (Nat → Int32)) (c9 : (Nat → Int64)) (c10 : (Nat → Int32)) (c11 : (Nat → Int32)) (c12 : (Nat → Int32)) (c13 : (Nat → Int32)) (c14 : (Nat → Int32)) (c15 : (Nat → Int32)) (c16 : (Nat → Int64)) (c17 : (Nat → Int32)) (c18 : (Nat → Int32)) (c19 : (Nat → Int32)) (c20 : (Nat → Int32)) (c21 : (Nat → Int32)) (H : Heap) (locs : List Loc) (ls : Array Slot), va_P (dC, dI) vwCl (wX2_readProgram h0 h1 h2 h3 h4 h5 h6 h7 h8 h9 h10 h11 h12 h13 h14 h15 h16 h17 h18 h19 h20 h21 kc3 kc4 kc5 kc6 kc7 kc8 kc9 kc10 kc11 kc12 kc13 kc14 kc15 kc16 kc17 kc18 kc19 kc20 kc21 v0_locals v1_isThere v1_globals v1_procedures v1_statements v2_token v2_tokenAt v2_name v2_fault v2_faultAt v2_size v2_next c3 c4 c5 c6 c7 c8 c9 c10 c11 c12 c13 c14 c15 c16 c17 c18 c19 c20 c21) H → va_D A (wX2_readProgram h0 h1 h2 h3 h4 h5 h6 h7 h8 h9 h10 h11 h12 h13 h14 h15 h16 h17 h18 h19 h20 h21 kc3 kc4 kc5 kc6 kc7 kc8 kc9 kc10 kc11 kc12 kc13 kc14 kc15 kc16 kc17 kc18 kc19 kc20 kc21 v0_locals v1_isThere v1_globals v1_procedures v1_statements v2_token v2_tokenAt v2_name v2_fault v2_faultAt v2_size v2_next c3 c4 c5 c6 c7 c8 c9 c10 c11 c12 c13 c14 c15 c16 c17 c18 c19 c20 c21) → va_S A s.heap H locs → lv_has ls 2 [(0, .ref h0), (1, .int y1)] → fX2_readProgram_l43 c3  n y1 v0_locals v1_isThere v1_globals v1_procedures v1_statements v2_token v2_tokenAt v2_name v2_fault v2_faultAt v2_size v2_next c4 c5 c6 c7 c8 c9 c10 c11 c12 c13 c14 c15 c16 c17 c18 c19 c20 c21 = some o → G 0 0 H locs (F0 m 43 ls []) := by
    intro  n
    induction n with
    | zero => intro y1 v0_locals v1_isThere v1_globals v1_procedures v1_statements v2_token v2_tokenAt v2_name v2_fault v2_faultAt v2_size v2_next c4 c5 c6 c7 c8 c9 c10 c11 c12 c13 c14 c15 c16 c17 c18 c19 c20 c21 H locs ls _ _ _ _ hf; cases hf
    | succ n ih => exact B43  _ ih
  have J37 : ∀ (v0_locals : Int32) (v1_isThere : Int32) (v1_globals : Int32) (v1_procedures : Int32) (v1_statements : Int32) (v2_token : Int32) (v2_tokenAt : Int32) (v2_name : Int64) (v2_fault : Int32) (v2_faultAt : Int32) (v2_size : Int32) (v2_next : Int32) (c4 : (Nat → Int64)) (c5 : (Nat → Int64)) (c6 : (Nat → Int32)) (c7 : (Nat → Int32)) (c8 : (Nat → Int32)) (c9 : (Nat → Int64)) (c10 : (Nat → Int32)) (c11 : (Nat → Int32)) (c12 : (Nat → Int32)) (c13 : (Nat → Int32)) (c14 : (Nat → Int32)) (c15 : (Nat → Int32)) (c16 : (Nat → Int64)) (c17 : (Nat → Int32)) (c18 : (Nat → Int32)) (c19 : (Nat → Int32)) (c20 : (Nat → Int32)) (c21 : (Nat → Int32)) (H : Heap) (locs : List Loc) (ls : Array Slot), va_P (dC, dI) vwCl (wX2_readProgram h0 h1 h2 h3 h4 h5 h6 h7 h8 h9 h10 h11 h12 h13 h14 h15 h16 h17 h18 h19 h20 h21 kc3 kc4 kc5 kc6 kc7 kc8 kc9 kc10 kc11 kc12 kc13 kc14 kc15 kc16 kc17 kc18 kc19 kc20 kc21 v0_locals v1_isThere v1_globals v1_procedures v1_statements v2_token v2_tokenAt v2_name v2_fault v2_faultAt v2_size v2_next c3 c4 c5 c6 c7 c8 c9 c10 c11 c12 c13 c14 c15 c16 c17 c18 c19 c20 c21) H → va_D A (wX2_readProgram h0 h1 h2 h3 h4 h5 h6 h7 h8 h9 h10 h11 h12 h13 h14 h15 h16 h17 h18 h19 h20 h21 kc3 kc4 kc5 kc6 kc7 kc8 kc9 kc10 kc11 kc12 kc13 kc14 kc15 kc16 kc17 kc18 kc19 kc20 kc21 v0_locals v1_isThere v1_globals v1_procedures v1_statements v2_token v2_tokenAt v2_name v2_fault v2_faultAt v2_size v2_next c3 c4 c5 c6 c7 c8 c9 c10 c11 c12 c13 c14 c15 c16 c17 c18 c19 c20 c21) → va_S A s.heap H locs → lv_has ls 2 [(0, .ref h0)] → fX2_readProgram_p37 c3  v0_locals v1_isThere v1_globals v1_procedures v1_statements v2_token v2_tokenAt v2_name v2_fault v2_faultAt v2_size v2_next c4 c5 c6 c7 c8 c9 c10 c11 c12 c13 c14 c15 c16 c17 c18 c19 c20 c21 = some o → G 0 0 H locs (F0 m 37 ls []) := by
    intro  v0_locals v1_isThere v1_globals v1_procedures v1_statements v2_token v2_tokenAt v2_name v2_fault v2_faultAt v2_size v2_next c4 c5 c6 c7 c8 c9 c10 c11 c12 c13 c14 c15 c16 c17 c18 c19 c20 c21 H locs ls hP hD hS hl hf
    refine (hG _ _ _ _ _).mpr ?_
    unfold fX2_readProgram_p37 at hf
    refine lv_aload_n hx hb dX2_readProgram_37 rfl (lv_at hl 0 rfl) ?_
    obtain ⟨o12, e12, hf⟩ := ob_some hf
    refine kVv (As := []) (rest := []) ⟨hx, hb, hml, hown, hts⟩ (mX2_readProcedure l dC dI h0 h2 h3 h1 h5 h4 h6 h7 h8 h9 h10 h11 h12 h13 h14 h15 h16 h17 h18 kc3 kc5 kc4 kc6 kc7 kc8 kc9 kc10 kc11 kc12 kc13 kc14 kc15 kc16 kc17 kc18 H.size base v0_locals v2_token v2_tokenAt v2_name v2_fault v2_faultAt v2_size v2_next c3 v1_globals v1_procedures v1_statements c5 c4 c6 c7 c8 c9 c10 c11 c12 c13 c14 c15 c16 c17 c18 (fun k => match k with | 0 => .int v1_isThere | 11 => .ref h21 | 12 => .ref h20 | 17 => .ref h19 | _ => .null) o12 e12) (cwV 0 hts (gTV q692 q693 q694 q27 q695) rfl rfl rfl (by decide +kernel) ⟨Nat.le_of_ble_eq_true rfl, Nat.le_of_ble_eq_true rfl⟩) hK hP hD hS hA hE hAB [0, 2, 3, 1, 5, 4, 6, 7, 8, 9, 10, 11, 12, 13, 14, 15, 16, 17, 18] [19, 20, 21] [0, 2, 1, 3, 4, 5, 6, 7, 8, 9, 10, 11, 12, 13, 14, 15] (wr := [(h19, .inl (kc19, 40, .inl c19)), (h20, .inl (kc20, 40, .inl c20)), (h21, .inl (kc21, 40, .inl c21))]) rfl rfl (by decide) (by decide) (by decide) rfl (ci := 2) (q0 := 0) rfl rfl rfl rfl hl.1 rfl (Nat.le_of_ble_eq_true rfl) dX2_readProgram_38 ⟨Nat.zero_le _, Nat.zero_le _⟩ (fun u12 H locs hw12 hP hD hS => ?_)
    have hw121 : o12 = u12 := Eq.symm hw12
    subst hw121
    have hP : va_P (dC, dI) vwCl (wX2_readProgram h0 h1 h2 h3 h4 h5 h6 h7 h8 h9 h10 h11 h12 h13 h14 h15 h16 h17 h18 h19 h20 h21 kc3 kc4 kc5 kc6 kc7 kc8 kc9 kc10 kc11 kc12 kc13 kc14 kc15 kc16 kc17 kc18 kc19 kc20 kc21 o12.1 v1_isThere o12.2.2.2.2.2.2.2.1 o12.2.2.2.2.2.2.2.2.1 o12.2.2.2.2.2.2.2.2.2.1 o12.2.1 o12.2.2.1 o12.2.2.2.1 o12.2.2.2.2.1 o12.2.2.2.2.2.1 v2_size o12.2.2.2.2.2.2.1 c3 o12.2.2.2.2.2.2.2.2.2.2.2.1 o12.2.2.2.2.2.2.2.2.2.2.1 o12.2.2.2.2.2.2.2.2.2.2.2.2.1 o12.2.2.2.2.2.2.2.2.2.2.2.2.2.1 o12.2.2.2.2.2.2.2.2.2.2.2.2.2.2.1 o12.2.2.2.2.2.2.2.2.2.2.2.2.2.2.2.1 o12.2.2.2.2.2.2.2.2.2.2.2.2.2.2.2.2.1 o12.2.2.2.2.2.2.2.2.2.2.2.2.2.2.2.2.2.1 o12.2.2.2.2.2.2.2.2.2.2.2.2.2.2.2.2.2.2.1 o12.2.2.2.2.2.2.2.2.2.2.2.2.2.2.2.2.2.2.2.1 o12.2.2.2.2.2.2.2.2.2.2.2.2.2.2.2.2.2.2.2.2.1 o12.2.2.2.2.2.2.2.2.2.2.2.2.2.2.2.2.2.2.2.2.2.1 o12.2.2.2.2.2.2.2.2.2.2.2.2.2.2.2.2.2.2.2.2.2.2.1 o12.2.2.2.2.2.2.2.2.2.2.2.2.2.2.2.2.2.2.2.2.2.2.2.1 o12.2.2.2.2.2.2.2.2.2.2.2.2.2.2.2.2.2.2.2.2.2.2.2.2 c19 c20 c21) H := hP.sub [3, 6, 4, 5, 8, 7, 9, 10, 11, 12, 13, 14, 15, 16, 17, 18, 19, 20, 21, 0, 1, 2] rfl
    have hD : va_D A (wX2_readProgram h0 h1 h2 h3 h4 h5 h6 h7 h8 h9 h10 h11 h12 h13 h14 h15 h16 h17 h18 h19 h20 h21 kc3 kc4 kc5 kc6 kc7 kc8 kc9 kc10 kc11 kc12 kc13 kc14 kc15 kc16 kc17 kc18 kc19 kc20 kc21 o12.1 v1_isThere o12.2.2.2.2.2.2.2.1 o12.2.2.2.2.2.2.2.2.1 o12.2.2.2.2.2.2.2.2.2.1 o12.2.1 o12.2.2.1 o12.2.2.2.1 o12.2.2.2.2.1 o12.2.2.2.2.2.1 v2_size o12.2.2.2.2.2.2.1 c3 o12.2.2.2.2.2.2.2.2.2.2.2.1 o12.2.2.2.2.2.2.2.2.2.2.1 o12.2.2.2.2.2.2.2.2.2.2.2.2.1 o12.2.2.2.2.2.2.2.2.2.2.2.2.2.1 o12.2.2.2.2.2.2.2.2.2.2.2.2.2.2.1 o12.2.2.2.2.2.2.2.2.2.2.2.2.2.2.2.1 o12.2.2.2.2.2.2.2.2.2.2.2.2.2.2.2.2.1 o12.2.2.2.2.2.2.2.2.2.2.2.2.2.2.2.2.2.1 o12.2.2.2.2.2.2.2.2.2.2.2.2.2.2.2.2.2.2.1 o12.2.2.2.2.2.2.2.2.2.2.2.2.2.2.2.2.2.2.2.1 o12.2.2.2.2.2.2.2.2.2.2.2.2.2.2.2.2.2.2.2.2.1 o12.2.2.2.2.2.2.2.2.2.2.2.2.2.2.2.2.2.2.2.2.2.1 o12.2.2.2.2.2.2.2.2.2.2.2.2.2.2.2.2.2.2.2.2.2.2.1 o12.2.2.2.2.2.2.2.2.2.2.2.2.2.2.2.2.2.2.2.2.2.2.2.1 o12.2.2.2.2.2.2.2.2.2.2.2.2.2.2.2.2.2.2.2.2.2.2.2.2 c19 c20 c21) := hD.sub [3, 6, 4, 5, 8, 7, 9, 10, 11, 12, 13, 14, 15, 16, 17, 18, 19, 20, 21, 0, 1, 2] (by decide) rfl
    refine lv_iconst (v := 0) hx hb dX2_readProgram_41 (by decide +kernel) ?_
    refine lv_istore_n (lv' := [(1, .int 0), (0, .ref h0)]) hx hb dX2_readProgram_42 rfl hl (by decide) rfl (fun ls hl => ?_)
    exact (hG _ _ _ _ _).mp (L43 FU 0 o12.1 v1_isThere o12.2.2.2.2.2.2.2.1 o12.2.2.2.2.2.2.2.2.1 o12.2.2.2.2.2.2.2.2.2.1 o12.2.1 o12.2.2.1 o12.2.2.2.1 o12.2.2.2.2.1 o12.2.2.2.2.2.1 v2_size o12.2.2.2.2.2.2.1 o12.2.2.2.2.2.2.2.2.2.2.2.1 o12.2.2.2.2.2.2.2.2.2.2.1 o12.2.2.2.2.2.2.2.2.2.2.2.2.1 o12.2.2.2.2.2.2.2.2.2.2.2.2.2.1 o12.2.2.2.2.2.2.2.2.2.2.2.2.2.2.1 o12.2.2.2.2.2.2.2.2.2.2.2.2.2.2.2.1 o12.2.2.2.2.2.2.2.2.2.2.2.2.2.2.2.2.1 o12.2.2.2.2.2.2.2.2.2.2.2.2.2.2.2.2.2.1 o12.2.2.2.2.2.2.2.2.2.2.2.2.2.2.2.2.2.2.1 o12.2.2.2.2.2.2.2.2.2.2.2.2.2.2.2.2.2.2.2.1 o12.2.2.2.2.2.2.2.2.2.2.2.2.2.2.2.2.2.2.2.2.1 o12.2.2.2.2.2.2.2.2.2.2.2.2.2.2.2.2.2.2.2.2.2.1 o12.2.2.2.2.2.2.2.2.2.2.2.2.2.2.2.2.2.2.2.2.2.2.1 o12.2.2.2.2.2.2.2.2.2.2.2.2.2.2.2.2.2.2.2.2.2.2.2.1 o12.2.2.2.2.2.2.2.2.2.2.2.2.2.2.2.2.2.2.2.2.2.2.2.2 c19 c20 c21 H locs ls (hP.sub [0, 1, 2, 3, 4, 5, 6, 7, 8, 9, 10, 11, 12, 13, 14, 15, 16, 17, 18, 19, 20, 21] rfl) (hD.sub [0, 1, 2, 3, 4, 5, 6, 7, 8, 9, 10, 11, 12, 13, 14, 15, 16, 17, 18, 19, 20, 21] (by decide) rfl) hS (lv_sub hl [1, 0] rfl) hf)
  refine (hG _ _ _ _ _).mpr ?_
  obtain ⟨H, hH⟩ : ∃ H, H = s.heap := ⟨_, rfl⟩
  have hS : va_S A s.heap H [] := by rw [hH]; exact hS
  rw [← hH] at hP ⊢
  generalize ([] : List Loc) = locs at hS ⊢
  unfold fX2_readProgram at hf
  refine lv_aload_n hx hb dX2_readProgram_0 rfl (lv_at hl 0 rfl) ?_
  refine va_get (D := (dC, dI)) (ci := 2) (v := .ref h1) (C := RX2) (T := TX2) (N := 7) hx hb hts inlX2 hown hK hP 0 rfl rfl 1 (by decide) w2_ (fun _ h9 => h9) rfl dX2_readProgram_1 ?_
  obtain ⟨o13, e13, hf⟩ := ob_some hf
  refine kVv (As := []) (rest := []) ⟨hx, hb, hml, hown, hts⟩ (mX3_removeAll l dC dI h1 H.size base v1_isThere v1_globals v1_procedures v1_statements (fun k => match k with | 4 => .ref h18 | 5 => .ref h6 | 6 => .ref h7 | 7 => .ref h8 | 8 => .ref h9 | 9 => .ref h10 | 10 => .ref h11 | 11 => .ref h21 | 12 => .ref h20 | 13 => .ref h12 | 14 => .ref h13 | 15 => .ref h14 | 16 => .ref h15 | 17 => .ref h19 | _ => .null) o13 e13) (cwV 0 hts (gTV q547 q548 q549 q23 q550) rfl rfl rfl (by decide +kernel) ⟨Nat.le_of_ble_eq_true rfl, Nat.le_of_ble_eq_true rfl⟩) hK hP hD hS hA hE hAB [1] [0, 2, 3, 4, 5, 6, 7, 8, 9, 10, 11, 12, 13, 14, 15, 16, 17, 18, 19, 20, 21] [] (wr := [(h0, .inr (2, [.ref h2, .ref h1, .ref h4, .int v0_locals, .ref h5, .ref h16, .ref h17])), (h2, .inr (4, [.int v2_token, .int v2_tokenAt, .long v2_name, .int v2_fault, .int v2_faultAt, .ref h3, .int v2_size, .int v2_next])), (h3, .inl (kc3, 600, .inl c3)), (h4, .inl (kc4, 5, .inr (.inl c4))), (h5, .inl (kc5, 6, .inr (.inl c5))), (h6, .inl (kc6, 40, .inl c6)), (h7, .inl (kc7, 40, .inl c7)), (h8, .inl (kc8, 40, .inl c8)), (h9, .inl (kc9, 40, .inr (.inl c9))), (h10, .inl (kc10, 40, .inl c10)), (h11, .inl (kc11, 40, .inl c11)), (h12, .inl (kc12, 40, .inl c12)), (h13, .inl (kc13, 40, .inl c13)), (h14, .inl (kc14, 40, .inl c14)), (h15, .inl (kc15, 40, .inl c15)), (h16, .inl (kc16, 40, .inr (.inl c16))), (h17, .inl (kc17, 40, .inl c17)), (h18, .inl (kc18, 6, .inl c18)), (h19, .inl (kc19, 40, .inl c19)), (h20, .inl (kc20, 40, .inl c20)), (h21, .inl (kc21, 40, .inl c21))]) rfl rfl (by decide) (by decide) (by decide) rfl (ci := 3) (q0 := 0) rfl rfl rfl rfl hl.1 rfl (Nat.le_of_ble_eq_true rfl) dX2_readProgram_4 ⟨Nat.zero_le _, Nat.zero_le _⟩ (fun u13 H locs hw13 hP hD hS => ?_)
  have hw131 : o13 = u13 := Eq.symm hw13
  subst hw131
  have hP : va_P (dC, dI) vwCl (wX2_readProgram h0 h1 h2 h3 h4 h5 h6 h7 h8 h9 h10 h11 h12 h13 h14 h15 h16 h17 h18 h19 h20 h21 kc3 kc4 kc5 kc6 kc7 kc8 kc9 kc10 kc11 kc12 kc13 kc14 kc15 kc16 kc17 kc18 kc19 kc20 kc21 v0_locals o13.1 o13.2.1 o13.2.2.1 o13.2.2.2 v2_token v2_tokenAt v2_name v2_fault v2_faultAt v2_size v2_next c3 c4 c5 c6 c7 c8 c9 c10 c11 c12 c13 c14 c15 c16 c17 c18 c19 c20 c21) H := hP.sub [0, 21, 1, 2, 3, 4, 5, 6, 7, 8, 9, 10, 11, 12, 13, 14, 15, 16, 17, 18, 19, 20] rfl
  have hD : va_D A (wX2_readProgram h0 h1 h2 h3 h4 h5 h6 h7 h8 h9 h10 h11 h12 h13 h14 h15 h16 h17 h18 h19 h20 h21 kc3 kc4 kc5 kc6 kc7 kc8 kc9 kc10 kc11 kc12 kc13 kc14 kc15 kc16 kc17 kc18 kc19 kc20 kc21 v0_locals o13.1 o13.2.1 o13.2.2.1 o13.2.2.2 v2_token v2_tokenAt v2_name v2_fault v2_faultAt v2_size v2_next c3 c4 c5 c6 c7 c8 c9 c10 c11 c12 c13 c14 c15 c16 c17 c18 c19 c20 c21) := hD.sub [0, 21, 1, 2, 3, 4, 5, 6, 7, 8, 9, 10, 11, 12, 13, 14, 15, 16, 17, 18, 19, 20] (by decide) rfl
  refine lv_aload_n hx hb dX2_readProgram_7 rfl (lv_at hl 0 rfl) ?_
  refine lv_iconst (v := 0) hx hb dX2_readProgram_8 (by decide +kernel) ?_
  refine va_put (D := (dC, dI)) (ci := 2) (v := .int 0) (ty := .int) (C := RX2) (T := TX2) (N := 7) hx hb hts inlX2 tyX2 tyX2_ok nmX2 hown hK hP hD hS 0 rfl rfl 3 (by decide) w5_ (fun _ h9 => h9) rfl (by decide +kernel) rfl rfl (Nat.le_of_ble_eq_true rfl) dX2_readProgram_9 (fun H locs hP hD hS => ?_)
  have hP : va_P (dC, dI) vwCl (wX2_readProgram h0 h1 h2 h3 h4 h5 h6 h7 h8 h9 h10 h11 h12 h13 h14 h15 h16 h17 h18 h19 h20 h21 kc3 kc4 kc5 kc6 kc7 kc8 kc9 kc10 kc11 kc12 kc13 kc14 kc15 kc16 kc17 kc18 kc19 kc20 kc21 0 o13.1 o13.2.1 o13.2.2.1 o13.2.2.2 v2_token v2_tokenAt v2_name v2_fault v2_faultAt v2_size v2_next c3 c4 c5 c6 c7 c8 c9 c10 c11 c12 c13 c14 c15 c16 c17 c18 c19 c20 c21) H := hP
  have hD : va_D A (wX2_readProgram h0 h1 h2 h3 h4 h5 h6 h7 h8 h9 h10 h11 h12 h13 h14 h15 h16 h17 h18 h19 h20 h21 kc3 kc4 kc5 kc6 kc7 kc8 kc9 kc10 kc11 kc12 kc13 kc14 kc15 kc16 kc17 kc18 kc19 kc20 kc21 0 o13.1 o13.2.1 o13.2.2.1 o13.2.2.2 v2_token v2_tokenAt v2_name v2_fault v2_faultAt v2_size v2_next c3 c4 c5 c6 c7 c8 c9 c10 c11 c12 c13 c14 c15 c16 c17 c18 c19 c20 c21) := hD
  refine lv_aload_n hx hb dX2_readProgram_12 rfl (lv_at hl 0 rfl) ?_
  refine va_get (D := (dC, dI)) (ci := 2) (v := .ref h2) (C := RX2) (T := TX2) (N := 7) hx hb hts inlX2 hown hK hP 0 rfl rfl 0 (by decide) w0_ (fun _ h9 => h9) rfl dX2_readProgram_13 ?_
  obtain ⟨o14, e14, hf⟩ := ob_some hf
  refine kVv (As := []) (rest := []) ⟨hx, hb, hml, hown, hts⟩ (mX4_begin l dC dI h2 h3 kc3 H.size base v2_token v2_tokenAt v2_name v2_fault v2_faultAt v2_size v2_next c3 o14 e14) (cwV 0 hts (gTV q555 q556 q557 q19 q558) rfl rfl rfl (by decide +kernel) ⟨Nat.le_of_ble_eq_true rfl, Nat.le_of_ble_eq_true rfl⟩) hK hP hD hS hA hE hAB [2, 3] [0, 1, 4, 5, 6, 7, 8, 9, 10, 11, 12, 13, 14, 15, 16, 17, 18, 19, 20, 21] [0] (wr := [(h0, .inr (2, [.ref h2, .ref h1, .ref h4, .int 0, .ref h5, .ref h16, .ref h17])), (h1, .inr (3, [.int o13.1, .int o13.2.1, .int o13.2.2.1, .int o13.2.2.2, .ref h18, .ref h6, .ref h7, .ref h8, .ref h9, .ref h10, .ref h11, .ref h21, .ref h20, .ref h12, .ref h13, .ref h14, .ref h15, .ref h19])), (h4, .inl (kc4, 5, .inr (.inl c4))), (h5, .inl (kc5, 6, .inr (.inl c5))), (h6, .inl (kc6, 40, .inl c6)), (h7, .inl (kc7, 40, .inl c7)), (h8, .inl (kc8, 40, .inl c8)), (h9, .inl (kc9, 40, .inr (.inl c9))), (h10, .inl (kc10, 40, .inl c10)), (h11, .inl (kc11, 40, .inl c11)), (h12, .inl (kc12, 40, .inl c12)), (h13, .inl (kc13, 40, .inl c13)), (h14, .inl (kc14, 40, .inl c14)), (h15, .inl (kc15, 40, .inl c15)), (h16, .inl (kc16, 40, .inr (.inl c16))), (h17, .inl (kc17, 40, .inl c17)), (h18, .inl (kc18, 6, .inl c18)), (h19, .inl (kc19, 40, .inl c19)), (h20, .inl (kc20, 40, .inl c20)), (h21, .inl (kc21, 40, .inl c21))]) rfl rfl (by decide) (by decide) (by decide) rfl (ci := 4) (q0 := 0) rfl rfl rfl rfl hl.1 rfl (Nat.le_of_ble_eq_true rfl) dX2_readProgram_16 ⟨Nat.zero_le _, Nat.zero_le _⟩ (fun u14 H locs hw14 hP hD hS => ?_)
  have hw141 : o14 = u14 := Eq.symm hw14
  subst hw141
  have hP : va_P (dC, dI) vwCl (wX2_readProgram h0 h1 h2 h3 h4 h5 h6 h7 h8 h9 h10 h11 h12 h13 h14 h15 h16 h17 h18 h19 h20 h21 kc3 kc4 kc5 kc6 kc7 kc8 kc9 kc10 kc11 kc12 kc13 kc14 kc15 kc16 kc17 kc18 kc19 kc20 kc21 0 o13.1 o13.2.1 o13.2.2.1 o13.2.2.2 o14.1 o14.2.1 o14.2.2.1 o14.2.2.2.1 o14.2.2.2.2.1 v2_size o14.2.2.2.2.2 c3 c4 c5 c6 c7 c8 c9 c10 c11 c12 c13 c14 c15 c16 c17 c18 c19 c20 c21) H := hP.sub [0, 1, 20, 21, 2, 3, 4, 5, 6, 7, 8, 9, 10, 11, 12, 13, 14, 15, 16, 17, 18, 19] rfl
  have hD : va_D A (wX2_readProgram h0 h1 h2 h3 h4 h5 h6 h7 h8 h9 h10 h11 h12 h13 h14 h15 h16 h17 h18 h19 h20 h21 kc3 kc4 kc5 kc6 kc7 kc8 kc9 kc10 kc11 kc12 kc13 kc14 kc15 kc16 kc17 kc18 kc19 kc20 kc21 0 o13.1 o13.2.1 o13.2.2.1 o13.2.2.2 o14.1 o14.2.1 o14.2.2.1 o14.2.2.2.1 o14.2.2.2.2.1 v2_size o14.2.2.2.2.2 c3 c4 c5 c6 c7 c8 c9 c10 c11 c12 c13 c14 c15 c16 c17 c18 c19 c20 c21) := hD.sub [0, 1, 20, 21, 2, 3, 4, 5, 6, 7, 8, 9, 10, 11, 12, 13, 14, 15, 16, 17, 18, 19] (by decide) rfl
  refine lv_aload_n hx hb dX2_readProgram_19 rfl (lv_at hl 0 rfl) ?_
  refine va_get (D := (dC, dI)) (ci := 2) (v := .ref h2) (C := RX2) (T := TX2) (N := 7) hx hb hts inlX2 hown hK hP 0 rfl rfl 0 (by decide) w0_ (fun _ h9 => h9) rfl dX2_readProgram_20 ?_
  refine va_get (D := (dC, dI)) (ci := 4) (v := .int o14.1) (C := RX4) (T := TX4) (N := 8) hx hb hts inlX4 hown hK hP 2 rfl rfl 0 (by decide) w4_ (fun _ h9 => h9) rfl dX2_readProgram_23 ?_
  refine lv_sipush (v := 259) hx hb dX2_readProgram_26 (by decide +kernel) ?_
  refine lv_icmp_ne (tgt := 37) hx hb dX2_readProgram_29 (by decide) (fun cq15 => ?_) (fun cq15 => ?_)
  · replace hf := if_no hf cq15
    exact (hG _ _ _ _ _).mp (J37 0 o13.1 o13.2.1 o13.2.2.1 o13.2.2.2 o14.1 o14.2.1 o14.2.2.1 o14.2.2.2.1 o14.2.2.2.2.1 v2_size o14.2.2.2.2.2 c4 c5 c6 c7 c8 c9 c10 c11 c12 c13 c14 c15 c16 c17 c18 c19 c20 c21 H locs ls (hP.sub [0, 1, 2, 3, 4, 5, 6, 7, 8, 9, 10, 11, 12, 13, 14, 15, 16, 17, 18, 19, 20, 21] rfl) (hD.sub [0, 1, 2, 3, 4, 5, 6, 7, 8, 9, 10, 11, 12, 13, 14, 15, 16, 17, 18, 19, 20, 21] (by decide) rfl) hS (lv_sub hl [0] rfl) hf)
  · replace hf := if_at hf cq15
    refine lv_aload_n hx hb dX2_readProgram_32 rfl (lv_at hl 0 rfl) ?_
    refine lv_iconst (v := 0) hx hb dX2_readProgram_33 (by decide +kernel) ?_
    obtain ⟨o16, e16, hf⟩ := ob_some hf
    refine kVv (As := [.int 0]) (rest := []) ⟨hx, hb, hml, hown, hts⟩ (mX2_readVariables l dC dI h0 h2 h3 h1 h4 kc3 kc4 H.size base 0 0 o14.1 o14.2.1 o14.2.2.1 o14.2.2.2.1 o14.2.2.2.2.1 v2_size o14.2.2.2.2.2 c3 o13.2.1 c4 (fun k => match k with | 4 => .ref h5 | 5 => .ref h16 | 6 => .ref h17 | _ => .null) (fun k => match k with | 0 => .int o13.1 | 2 => .int o13.2.2.1 | 3 => .int o13.2.2.2 | 4 => .ref h18 | 5 => .ref h6 | 6 => .ref h7 | 7 => .ref h8 | 8 => .ref h9 | 9 => .ref h10 | 10 => .ref h11 | 11 => .ref h21 | 12 => .ref h20 | 13 => .ref h12 | 14 => .ref h13 | 15 => .ref h14 | 16 => .ref h15 | 17 => .ref h19 | _ => .null) o16 e16) (cwV 1 hts (gTV q668 q669 q670 q27 q671) rfl rfl rfl (by decide +kernel) ⟨Nat.le_of_ble_eq_true rfl, Nat.le_of_ble_eq_true rfl⟩) hK hP hD hS hA hE hAB [0, 2, 3, 1, 4] [5, 6, 7, 8, 9, 10, 11, 12, 13, 14, 15, 16, 17, 18, 19, 20, 21] [0, 1] (wr := [(h5, .inl (kc5, 6, .inr (.inl c5))), (h6, .inl (kc6, 40, .inl c6)), (h7, .inl (kc7, 40, .inl c7)), (h8, .inl (kc8, 40, .inl c8)), (h9, .inl (kc9, 40, .inr (.inl c9))), (h10, .inl (kc10, 40, .inl c10)), (h11, .inl (kc11, 40, .inl c11)), (h12, .inl (kc12, 40, .inl c12)), (h13, .inl (kc13, 40, .inl c13)), (h14, .inl (kc14, 40, .inl c14)), (h15, .inl (kc15, 40, .inl c15)), (h16, .inl (kc16, 40, .inr (.inl c16))), (h17, .inl (kc17, 40, .inl c17)), (h18, .inl (kc18, 6, .inl c18)), (h19, .inl (kc19, 40, .inl c19)), (h20, .inl (kc20, 40, .inl c20)), (h21, .inl (kc21, 40, .inl c21))]) rfl rfl (by decide) (by decide) (by decide) rfl (ci := 2) (q0 := 0) rfl rfl rfl rfl hl.1 rfl (Nat.le_of_ble_eq_true rfl) dX2_readProgram_34 ⟨Nat.zero_le _, Nat.zero_le _⟩ (fun u16 H locs hw16 hP hD hS => ?_)
    have hw161 : o16 = u16 := Eq.symm hw16
    subst hw161
    have hP : va_P (dC, dI) vwCl (wX2_readProgram h0 h1 h2 h3 h4 h5 h6 h7 h8 h9 h10 h11 h12 h13 h14 h15 h16 h17 h18 h19 h20 h21 kc3 kc4 kc5 kc6 kc7 kc8 kc9 kc10 kc11 kc12 kc13 kc14 kc15 kc16 kc17 kc18 kc19 kc20 kc21 o16.1 o13.1 o16.2.2.2.2.2.2.2.1 o13.2.2.1 o13.2.2.2 o16.2.1 o16.2.2.1 o16.2.2.2.1 o16.2.2.2.2.1 o16.2.2.2.2.2.1 v2_size o16.2.2.2.2.2.2.1 c3 o16.2.2.2.2.2.2.2.2 c5 c6 c7 c8 c9 c10 c11 c12 c13 c14 c15 c16 c17 c18 c19 c20 c21) H := hP.sub [17, 20, 18, 19, 21, 0, 1, 2, 3, 4, 5, 6, 7, 8, 9, 10, 11, 12, 13, 14, 15, 16] rfl
    have hD : va_D A (wX2_readProgram h0 h1 h2 h3 h4 h5 h6 h7 h8 h9 h10 h11 h12 h13 h14 h15 h16 h17 h18 h19 h20 h21 kc3 kc4 kc5 kc6 kc7 kc8 kc9 kc10 kc11 kc12 kc13 kc14 kc15 kc16 kc17 kc18 kc19 kc20 kc21 o16.1 o13.1 o16.2.2.2.2.2.2.2.1 o13.2.2.1 o13.2.2.2 o16.2.1 o16.2.2.1 o16.2.2.2.1 o16.2.2.2.2.1 o16.2.2.2.2.2.1 v2_size o16.2.2.2.2.2.2.1 c3 o16.2.2.2.2.2.2.2.2 c5 c6 c7 c8 c9 c10 c11 c12 c13 c14 c15 c16 c17 c18 c19 c20 c21) := hD.sub [17, 20, 18, 19, 21, 0, 1, 2, 3, 4, 5, 6, 7, 8, 9, 10, 11, 12, 13, 14, 15, 16] (by decide) rfl
    exact (hG _ _ _ _ _).mp (J37 o16.1 o13.1 o16.2.2.2.2.2.2.2.1 o13.2.2.1 o13.2.2.2 o16.2.1 o16.2.2.1 o16.2.2.2.1 o16.2.2.2.2.1 o16.2.2.2.2.2.1 v2_size o16.2.2.2.2.2.2.1 o16.2.2.2.2.2.2.2.2 c5 c6 c7 c8 c9 c10 c11 c12 c13 c14 c15 c16 c17 c18 c19 c20 c21 H locs ls (hP.sub [0, 1, 2, 3, 4, 5, 6, 7, 8, 9, 10, 11, 12, 13, 14, 15, 16, 17, 18, 19, 20, 21] rfl) (hD.sub [0, 1, 2, 3, 4, 5, 6, 7, 8, 9, 10, 11, 12, 13, 14, 15, 16, 17, 18, 19, 20, 21] (by decide) rfl) hS (lv_sub hl [0] rfl) hf)
