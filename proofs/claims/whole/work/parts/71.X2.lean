set_option maxHeartbeats 4000000 in
set_option maxRecDepth 100000 in
theorem mX2_beginsStatement (l : Launch) (dC : Nat → ClassId) (dI : Nat → Nat → Nat) (h0 h1 : Nat) (sz : Nat) (base : Nat × Nat × Nat) (v0_locals : Int32) (v1_token : Int32) (v1_tokenAt : Int32) (v1_name : Int64) (v1_fault : Int32) (v1_faultAt : Int32) (v1_size : Int32) (v1_next : Int32) (w0_program : Value) (w0_variables : Value) (w0_procedures : Value) (w0_calledName : Value) (w0_calledAt : Value) (w1_text : Value) (o : Int32 × Unit) (hf : fX2_beginsStatement v1_token = some o) : Met l yX2_beginsStatement (.code yX2_beginsStatement cX2_beginsStatement 1 (some .boolean) :: wsL_law) ({ frames := 0, cells := 0, slots := 0, locals := 0 }) (cPre (dC, dI) vwCl [.ref h0] sz base [(h0, .inr (2, [.ref h1, w0_program, w0_variables, .int v0_locals, w0_procedures, w0_calledName, w0_calledAt])), (h1, .inr (4, [.int v1_token, .int v1_tokenAt, .long v1_name, .int v1_fault, .int v1_faultAt, w1_text, .int v1_size, .int v1_next]))] []) (va_Qi (fun r u => r = o.1 ∧ u = o.2) (fun (u : Unit) t => cPost (dC, dI) vwCl (va_A [(h0, .inr (2, [.ref h1, w0_program, w0_variables, .int v0_locals, w0_procedures, w0_calledName, w0_calledAt])), (h1, .inr (4, [.int v1_token, .int v1_tokenAt, .long v1_name, .int v1_fault, .int v1_faultAt, w1_text, .int v1_size, .int v1_next]))] sz) [(h0, .inr (2, [.ref h1, w0_program, w0_variables, .int v0_locals, w0_procedures, w0_calledName, w0_calledAt])), (h1, .inr (4, [.int v1_token, .int v1_tokenAt, .long v1_name, .int v1_fault, .int v1_faultAt, w1_text, .int v1_size, .int v1_next]))] [] t) (va_A [(h0, .inr (2, [.ref h1, w0_program, w0_variables, .int v0_locals, w0_procedures, w0_calledName, w0_calledAt])), (h1, .inr (4, [.int v1_token, .int v1_tokenAt, .long v1_name, .int v1_fault, .int v1_faultAt, w1_text, .int v1_size, .int v1_next]))] sz)) 0 0 (va_A [(h0, .inr (2, [.ref h1, w0_program, w0_variables, .int v0_locals, w0_procedures, w0_calledName, w0_calledAt])), (h1, .inr (4, [.int v1_token, .int v1_tokenAt, .long v1_name, .int v1_fault, .int v1_faultAt, w1_text, .int v1_size, .int v1_next]))] sz) := by
  refine Met.ofW (cc := cX2_beginsStatement) (maxL := 1) (ret := (some .boolean)) (by decide) rfl ?_
  intro p e s m args below meth c s₁ B hml hv
  obtain ⟨rfl, hsz, hP, hK, hD0, hE⟩ := hv
  have hx := B.exec
  have hb := B.bytes
  have hr := B.returns
  have hts : ∀ w ∈ wsL_law, _ := fun w h => atoms_spec (ws := .code yX2_beginsStatement cX2_beginsStatement 1 (some .boolean) :: wsL_law) B.pre w (List.mem_cons_of_mem _ h)
  have hown : s.vm.findClass RX2 = some m.cls := findClass_of_methodNamed B.named
  have hlocks := B.notSynchronized
  have w0_ := hts _ q72
  have w1_ := hts _ q544
  subst hsz
  have hD := hD0.self (sz := s.heap.size)
  generalize hAe : va_A [(h0, .inr (2, [.ref h1, w0_program, w0_variables, .int v0_locals, w0_procedures, w0_calledName, w0_calledAt])), (h1, .inr (4, [.int v1_token, .int v1_tokenAt, .long v1_name, .int v1_fault, .int v1_faultAt, w1_text, .int v1_size, .int v1_next]))] s.heap.size = A at hD ⊢
  have hA : ∀ q : Nat, s.heap.size ≤ q → A q := fun q h => by rw [← hAe]; exact Or.inr h
  have hAB : ∀ q : Nat, A q → base.1 ≤ q := fun q h => by rw [← hAe] at h; exact h.elim (fun ⟨k, e, hk⟩ => hD0.2 k _ hk) (fun hk => Nat.le_trans hE.1 hk)
  have hS : va_S A s.heap s.heap [] := va_S.rf
  have hl := lv_entry ([.ref h0]) (n := 1) (Nat.le_of_ble_eq_true rfl)
  rw [lg_entry_eq]
  generalize (lg_sl ([.ref h0]) ++ List.replicate (1 - (lg_sl ([.ref h0])).length) Slot.unset).toArray = ls at hl ⊢
  have hl : lv_has ls 1 [(0, .ref h0)] := hl
  have hP : va_P (dC, dI) vwCl [(h0, .inr (2, [.ref h1, w0_program, w0_variables, .int v0_locals, w0_procedures, w0_calledName, w0_calledAt])), (h1, .inr (4, [.int v1_token, .int v1_tokenAt, .long v1_name, .int v1_fault, .int v1_faultAt, w1_text, .int v1_size, .int v1_next]))] s.heap := hP
  refine gl_intro (fun G hG => ?_)
  have J44 : ∀ (z0 : Int32) (H : Heap) (locs : List Loc) (ls : Array Slot), va_P (dC, dI) vwCl [(h0, .inr (2, [.ref h1, w0_program, w0_variables, .int v0_locals, w0_procedures, w0_calledName, w0_calledAt])), (h1, .inr (4, [.int v1_token, .int v1_tokenAt, .long v1_name, .int v1_fault, .int v1_faultAt, w1_text, .int v1_size, .int v1_next]))] H → va_D A [(h0, .inr (2, [.ref h1, w0_program, w0_variables, .int v0_locals, w0_procedures, w0_calledName, w0_calledAt])), (h1, .inr (4, [.int v1_token, .int v1_tokenAt, .long v1_name, .int v1_fault, .int v1_faultAt, w1_text, .int v1_size, .int v1_next]))] → va_S A s.heap H locs → lv_has ls 1 [(0, .ref h0)] → fX2_beginsStatement_p44 v1_token  z0 = some o → G 0 0 H locs (F0 m 44 ls [.int z0]) := by
    intro  z0 H locs ls hP hD hS hl hf
    refine (hG _ _ _ _ _).mpr ?_
    unfold fX2_beginsStatement_p44 at hf
    have b1 := bd_b hf
    replace hf := bd_k hf
    have hf1 := Option.some.inj hf
    subst hf1
    have hP9 := hP.sub (ws' := [(h0, .inr (2, [.ref h1, w0_program, w0_variables, .int v0_locals, w0_procedures, w0_calledName, w0_calledAt])), (h1, .inr (4, [.int v1_token, .int v1_tokenAt, .long v1_name, .int v1_fault, .int v1_faultAt, w1_text, .int v1_size, .int v1_next]))]) [0, 1] rfl
    have hD9 := hD.sub (ws' := [(h0, .inr (2, [.ref h1, w0_program, w0_variables, .int v0_locals, w0_procedures, w0_calledName, w0_calledAt])), (h1, .inr (4, [.int v1_token, .int v1_tokenAt, .long v1_name, .int v1_fault, .int v1_faultAt, w1_text, .int v1_size, .int v1_next]))]) [0, 1] (by decide) rfl
    exact W.zret (v := z0) (ty := .boolean) hx hb hr (bz_nar b1) (fun t ht hW => ⟨⟨z0, (), rfl, ⟨rfl, rfl⟩, by rw [ht]; exact hP9, va_K.moved hW.alike hK, hD9⟩, hS.F ht⟩) hS.2.2 dX2_beginsStatement_44
  have J39 : ∀ (H : Heap) (locs : List Loc) (ls : Array Slot), va_P (dC, dI) vwCl [(h0, .inr (2, [.ref h1, w0_program, w0_variables, .int v0_locals, w0_procedures, w0_calledName, w0_calledAt])), (h1, .inr (4, [.int v1_token, .int v1_tokenAt, .long v1_name, .int v1_fault, .int v1_faultAt, w1_text, .int v1_size, .int v1_next]))] H → va_D A [(h0, .inr (2, [.ref h1, w0_program, w0_variables, .int v0_locals, w0_procedures, w0_calledName, w0_calledAt])), (h1, .inr (4, [.int v1_token, .int v1_tokenAt, .long v1_name, .int v1_fault, .int v1_faultAt, w1_text, .int v1_size, .int v1_next]))] → va_S A s.heap H locs → lv_has ls 1 [(0, .ref h0)] → fX2_beginsStatement_p39 v1_token   = some o → G 0 0 H locs (F0 m 39 ls []) := by
    intro   H locs ls hP hD hS hl hf
    refine (hG _ _ _ _ _).mpr ?_
    unfold fX2_beginsStatement_p39 at hf
    refine lv_iconst (v := 1) hx hb dX2_beginsStatement_39 (by decide +kernel) ?_
    refine lv_goto (tgt := 44) hx hb dX2_beginsStatement_40 (by decide) ?_
    exact (hG _ _ _ _ _).mp (J44 1 H locs ls (hP.sub [0, 1] rfl) (hD.sub [0, 1] (by decide) rfl) hS (lv_sub hl [0] rfl) hf)
  have J43 : ∀ (H : Heap) (locs : List Loc) (ls : Array Slot), va_P (dC, dI) vwCl [(h0, .inr (2, [.ref h1, w0_program, w0_variables, .int v0_locals, w0_procedures, w0_calledName, w0_calledAt])), (h1, .inr (4, [.int v1_token, .int v1_tokenAt, .long v1_name, .int v1_fault, .int v1_faultAt, w1_text, .int v1_size, .int v1_next]))] H → va_D A [(h0, .inr (2, [.ref h1, w0_program, w0_variables, .int v0_locals, w0_procedures, w0_calledName, w0_calledAt])), (h1, .inr (4, [.int v1_token, .int v1_tokenAt, .long v1_name, .int v1_fault, .int v1_faultAt, w1_text, .int v1_size, .int v1_next]))] → va_S A s.heap H locs → lv_has ls 1 [(0, .ref h0)] → fX2_beginsStatement_p43 v1_token   = some o → G 0 0 H locs (F0 m 43 ls []) := by
    intro   H locs ls hP hD hS hl hf
    refine (hG _ _ _ _ _).mpr ?_
    unfold fX2_beginsStatement_p43 at hf
    refine lv_iconst (v := 0) hx hb dX2_beginsStatement_43 (by decide +kernel) ?_
    exact (hG _ _ _ _ _).mp (J44 0 H locs ls (hP.sub [0, 1] rfl) (hD.sub [0, 1] (by decide) rfl) hS (lv_sub hl [0] rfl) hf)
  refine (hG _ _ _ _ _).mpr ?_
  obtain ⟨H, hH⟩ : ∃ H, H = s.heap := ⟨_, rfl⟩
  have hS : va_S A s.heap H [] := by rw [hH]; exact hS
  rw [← hH] at hP ⊢
  generalize ([] : List Loc) = locs at hS ⊢
  unfold fX2_beginsStatement at hf
  refine lv_aload_n hx hb dX2_beginsStatement_0 rfl (lv_at hl 0 rfl) ?_
  refine va_get (D := (dC, dI)) (ci := 2) (v := .ref h1) (C := RX2) (T := TX2) (N := 7) hx hb hts inlX2 hown hK hP 0 rfl rfl 0 (by decide) w0_ (fun _ h9 => h9) rfl dX2_beginsStatement_1 ?_
  refine va_get (D := (dC, dI)) (ci := 4) (v := .int v1_token) (C := RX4) (T := TX4) (N := 8) hx hb hts inlX4 hown hK hP 1 rfl rfl 0 (by decide) w1_ (fun _ h9 => h9) rfl dX2_beginsStatement_4 ?_
  refine lv_sipush (v := 258) hx hb dX2_beginsStatement_7 (by decide +kernel) ?_
  refine lv_icmp_eq (tgt := 39) hx hb dX2_beginsStatement_10 (by decide) (fun q2 => ?_) (fun q2 => ?_)
  · replace hf := if_at hf q2
    exact (hG _ _ _ _ _).mp (J39 H locs ls (hP.sub [0, 1] rfl) (hD.sub [0, 1] (by decide) rfl) hS (lv_sub hl [0] rfl) hf)
  · replace hf := if_no hf q2
    refine lv_aload_n hx hb dX2_beginsStatement_13 rfl (lv_at hl 0 rfl) ?_
    refine va_get (D := (dC, dI)) (ci := 2) (v := .ref h1) (C := RX2) (T := TX2) (N := 7) hx hb hts inlX2 hown hK hP 0 rfl rfl 0 (by decide) w0_ (fun _ h9 => h9) rfl dX2_beginsStatement_14 ?_
    refine va_get (D := (dC, dI)) (ci := 4) (v := .int v1_token) (C := RX4) (T := TX4) (N := 8) hx hb hts inlX4 hown hK hP 1 rfl rfl 0 (by decide) w1_ (fun _ h9 => h9) rfl dX2_beginsStatement_17 ?_
    refine lv_sipush (v := 262) hx hb dX2_beginsStatement_20 (by decide +kernel) ?_
    refine lv_icmp_lt (tgt := 43) hx hb dX2_beginsStatement_23 (by decide) (fun q3 => ?_) (fun q3 => ?_)
    · replace hf := if_at hf q3
      exact (hG _ _ _ _ _).mp (J43 H locs ls (hP.sub [0, 1] rfl) (hD.sub [0, 1] (by decide) rfl) hS (lv_sub hl [0] rfl) hf)
    · replace hf := if_no hf q3
      refine lv_aload_n hx hb dX2_beginsStatement_26 rfl (lv_at hl 0 rfl) ?_
      refine va_get (D := (dC, dI)) (ci := 2) (v := .ref h1) (C := RX2) (T := TX2) (N := 7) hx hb hts inlX2 hown hK hP 0 rfl rfl 0 (by decide) w0_ (fun _ h9 => h9) rfl dX2_beginsStatement_27 ?_
      refine va_get (D := (dC, dI)) (ci := 4) (v := .int v1_token) (C := RX4) (T := TX4) (N := 8) hx hb hts inlX4 hown hK hP 1 rfl rfl 0 (by decide) w1_ (fun _ h9 => h9) rfl dX2_beginsStatement_30 ?_
      refine lv_sipush (v := 268) hx hb dX2_beginsStatement_33 (by decide +kernel) ?_
      refine lv_icmp_gt (tgt := 43) hx hb dX2_beginsStatement_36 (by decide) (fun q4 => ?_) (fun q4 => ?_)
      · replace hf := if_at hf q4
        exact (hG _ _ _ _ _).mp (J43 H locs ls (hP.sub [0, 1] rfl) (hD.sub [0, 1] (by decide) rfl) hS (lv_sub hl [0] rfl) hf)
      · replace hf := if_no hf q4
        exact (hG _ _ _ _ _).mp (J39 H locs ls (hP.sub [0, 1] rfl) (hD.sub [0, 1] (by decide) rfl) hS (lv_sub hl [0] rfl) hf)
set_option maxHeartbeats 4000000 in
set_option maxRecDepth 100000 in
theorem mX2_findProcedure (l : Launch) (dC : Nat → ClassId) (dI : Nat → Nat → Nat) (h0 h1 h2 : Nat) (k2 : ClassId) (sz : Nat) (base : Nat × Nat × Nat) (a0 : Int64) (v0_locals : Int32) (v1_isThere : Int32) (v1_globals : Int32) (v1_procedures : Int32) (v1_statements : Int32) (c2 : Nat → Int64) (w0_scanner : Value) (w0_variables : Value) (w0_calledName : Value) (w0_calledAt : Value) (w1_entry : Value) (w1_kind : Value) (w1_textAt : Value) (w1_owner : Value) (w1_value : Value) (w1_variable : Value) (w1_callee : Value) (w1_on0 : Value) (w1_on1 : Value) (w1_parent : Value) (w1_sibling : Value) (w1_inside : Value) (w1_insideElse : Value) (w1_behind : Value) (o : Int32 × Unit) (hf : fX2_findProcedure a0 v1_procedures c2 = some o) : Met l yX2_findProcedure (.code yX2_findProcedure cX2_findProcedure 4 (some .int) :: wsL_law) ({ frames := 0, cells := 0, slots := 0, locals := 0 }) (cPre (dC, dI) vwCl [.ref h0, .long a0] sz base [(h0, .inr (2, [w0_scanner, .ref h1, w0_variables, .int v0_locals, .ref h2, w0_calledName, w0_calledAt])), (h1, .inr (3, [.int v1_isThere, .int v1_globals, .int v1_procedures, .int v1_statements, w1_entry, w1_kind, w1_textAt, w1_owner, w1_value, w1_variable, w1_callee, w1_on0, w1_on1, w1_parent, w1_sibling, w1_inside, w1_insideElse, w1_behind])), (h2, .inl (k2, 6, .inr (.inl c2)))] [(k2, .long)]) (va_Qi (fun r u => r = o.1 ∧ u = o.2) (fun (u : Unit) t => cPost (dC, dI) vwCl (va_A [(h0, .inr (2, [w0_scanner, .ref h1, w0_variables, .int v0_locals, .ref h2, w0_calledName, w0_calledAt])), (h1, .inr (3, [.int v1_isThere, .int v1_globals, .int v1_procedures, .int v1_statements, w1_entry, w1_kind, w1_textAt, w1_owner, w1_value, w1_variable, w1_callee, w1_on0, w1_on1, w1_parent, w1_sibling, w1_inside, w1_insideElse, w1_behind])), (h2, .inl (k2, 6, .inr (.inl c2)))] sz) [(h0, .inr (2, [w0_scanner, .ref h1, w0_variables, .int v0_locals, .ref h2, w0_calledName, w0_calledAt])), (h1, .inr (3, [.int v1_isThere, .int v1_globals, .int v1_procedures, .int v1_statements, w1_entry, w1_kind, w1_textAt, w1_owner, w1_value, w1_variable, w1_callee, w1_on0, w1_on1, w1_parent, w1_sibling, w1_inside, w1_insideElse, w1_behind])), (h2, .inl (k2, 6, .inr (.inl c2)))] [(k2, .long)] t) (va_A [(h0, .inr (2, [w0_scanner, .ref h1, w0_variables, .int v0_locals, .ref h2, w0_calledName, w0_calledAt])), (h1, .inr (3, [.int v1_isThere, .int v1_globals, .int v1_procedures, .int v1_statements, w1_entry, w1_kind, w1_textAt, w1_owner, w1_value, w1_variable, w1_callee, w1_on0, w1_on1, w1_parent, w1_sibling, w1_inside, w1_insideElse, w1_behind])), (h2, .inl (k2, 6, .inr (.inl c2)))] sz)) 0 0 (va_A [(h0, .inr (2, [w0_scanner, .ref h1, w0_variables, .int v0_locals, .ref h2, w0_calledName, w0_calledAt])), (h1, .inr (3, [.int v1_isThere, .int v1_globals, .int v1_procedures, .int v1_statements, w1_entry, w1_kind, w1_textAt, w1_owner, w1_value, w1_variable, w1_callee, w1_on0, w1_on1, w1_parent, w1_sibling, w1_inside, w1_insideElse, w1_behind])), (h2, .inl (k2, 6, .inr (.inl c2)))] sz) := by
  refine Met.ofW (cc := cX2_findProcedure) (maxL := 4) (ret := (some .int)) (by decide) rfl ?_
  intro p e s m args below meth c s₁ B hml hv
  obtain ⟨rfl, hsz, hP, hK, hD0, hE⟩ := hv
  have hx := B.exec
  have hb := B.bytes
  have hr := B.returns
  have hts : ∀ w ∈ wsL_law, _ := fun w h => atoms_spec (ws := .code yX2_findProcedure cX2_findProcedure 4 (some .int) :: wsL_law) B.pre w (List.mem_cons_of_mem _ h)
  have hown : s.vm.findClass RX2 = some m.cls := findClass_of_methodNamed B.named
  have hlocks := B.notSynchronized
  have w0_ := hts _ q73
  have w1_ := hts _ q696
  have w2_ := hts _ q69
  subst hsz
  have hD := hD0.self (sz := s.heap.size)
  generalize hAe : va_A [(h0, .inr (2, [w0_scanner, .ref h1, w0_variables, .int v0_locals, .ref h2, w0_calledName, w0_calledAt])), (h1, .inr (3, [.int v1_isThere, .int v1_globals, .int v1_procedures, .int v1_statements, w1_entry, w1_kind, w1_textAt, w1_owner, w1_value, w1_variable, w1_callee, w1_on0, w1_on1, w1_parent, w1_sibling, w1_inside, w1_insideElse, w1_behind])), (h2, .inl (k2, 6, .inr (.inl c2)))] s.heap.size = A at hD ⊢
  have hA : ∀ q : Nat, s.heap.size ≤ q → A q := fun q h => by rw [← hAe]; exact Or.inr h
  have hAB : ∀ q : Nat, A q → base.1 ≤ q := fun q h => by rw [← hAe] at h; exact h.elim (fun ⟨k, e, hk⟩ => hD0.2 k _ hk) (fun hk => Nat.le_trans hE.1 hk)
  have hS : va_S A s.heap s.heap [] := va_S.rf
  have hl := lv_entry ([.ref h0, .long a0]) (n := 4) (Nat.le_of_ble_eq_true rfl)
  rw [lg_entry_eq]
  generalize (lg_sl ([.ref h0, .long a0]) ++ List.replicate (4 - (lg_sl ([.ref h0, .long a0])).length) Slot.unset).toArray = ls at hl ⊢
  have hl : lv_has ls 4 [(0, .ref h0), (1, .long a0)] := hl
  have hP : va_P (dC, dI) vwCl [(h0, .inr (2, [w0_scanner, .ref h1, w0_variables, .int v0_locals, .ref h2, w0_calledName, w0_calledAt])), (h1, .inr (3, [.int v1_isThere, .int v1_globals, .int v1_procedures, .int v1_statements, w1_entry, w1_kind, w1_textAt, w1_owner, w1_value, w1_variable, w1_callee, w1_on0, w1_on1, w1_parent, w1_sibling, w1_inside, w1_insideElse, w1_behind])), (h2, .inl (k2, 6, .inr (.inl c2)))] s.heap := hP
  refine gl_intro (fun G hG => ?_)
  have B2 : ∀ (k2 : Int64 → Int32 → Option (Int32 × Unit)) (hk2 : ∀ (y1 : Int64) (y3 : Int32) (H : Heap) (locs : List Loc) (ls : Array Slot), va_P (dC, dI) vwCl [(h0, .inr (2, [w0_scanner, .ref h1, w0_variables, .int v0_locals, .ref h2, w0_calledName, w0_calledAt])), (h1, .inr (3, [.int v1_isThere, .int v1_globals, .int v1_procedures, .int v1_statements, w1_entry, w1_kind, w1_textAt, w1_owner, w1_value, w1_variable, w1_callee, w1_on0, w1_on1, w1_parent, w1_sibling, w1_inside, w1_insideElse, w1_behind])), (h2, .inl (k2, 6, .inr (.inl c2)))] H → va_D A [(h0, .inr (2, [w0_scanner, .ref h1, w0_variables, .int v0_locals, .ref h2, w0_calledName, w0_calledAt])), (h1, .inr (3, [.int v1_isThere, .int v1_globals, .int v1_procedures, .int v1_statements, w1_entry, w1_kind, w1_textAt, w1_owner, w1_value, w1_variable, w1_callee, w1_on0, w1_on1, w1_parent, w1_sibling, w1_inside, w1_insideElse, w1_behind])), (h2, .inl (k2, 6, .inr (.inl c2)))] → va_S A s.heap H locs → lv_has ls 4 [(0, .ref h0), (1, .long y1), (3, .int y3)] → k2 y1 y3 = some o → G 0 0 H locs (F0 m 2 ls [])), ∀ (y1 : Int64) (y3 : Int32) (H : Heap) (locs : List Loc) (ls : Array Slot), va_P (dC, dI) vwCl [(h0, .inr (2, [w0_scanner, .ref h1, w0_variables, .int v0_locals, .ref h2, w0_calledName, w0_calledAt])), (h1, .inr (3, [.int v1_isThere, .int v1_globals, .int v1_procedures, .int v1_statements, w1_entry, w1_kind, w1_textAt, w1_owner, w1_value, w1_variable, w1_callee, w1_on0, w1_on1, w1_parent, w1_sibling, w1_inside, w1_insideElse, w1_behind])), (h2, .inl (k2, 6, .inr (.inl c2)))] H → va_D A [(h0, .inr (2, [w0_scanner, .ref h1, w0_variables, .int v0_locals, .ref h2, w0_calledName, w0_calledAt])), (h1, .inr (3, [.int v1_isThere, .int v1_globals, .int v1_procedures, .int v1_statements, w1_entry, w1_kind, w1_textAt, w1_owner, w1_value, w1_variable, w1_callee, w1_on0, w1_on1, w1_parent, w1_sibling, w1_inside, w1_insideElse, w1_behind])), (h2, .inl (k2, 6, .inr (.inl c2)))] → va_S A s.heap H locs → lv_has ls 4 [(0, .ref h0), (1, .long y1), (3, .int y3)] → fX2_findProcedure_b2 v1_procedures c2  k2 y1 y3 = some o → G 0 0 H locs (F0 m 2 ls []) := by
    intro  k2 hk2 y1 y3 H locs ls hP hD hS hl hf
    refine (hG _ _ _ _ _).mpr ?_
    unfold fX2_findProcedure_b2 at hf
    refine lv_iload_n hx hb dX2_findProcedure_2 rfl (lv_at hl 2 rfl) ?_
    refine lv_aload_n hx hb dX2_findProcedure_3 rfl (lv_at hl 0 rfl) ?_
    refine va_get (D := (dC, dI)) (ci := 2) (v := .ref h1) (C := RX2) (T := TX2) (N := 7) hx hb hts inlX2 hown hK hP 0 rfl rfl 1 (by decide) w0_ (fun _ h9 => h9) rfl dX2_findProcedure_4 ?_
    refine va_get (D := (dC, dI)) (ci := 3) (v := .int v1_procedures) (C := RX3) (T := TX3) (N := 18) hx hb hts inlX3 hown hK hP 1 rfl rfl 2 (by decide) w1_ (fun _ h9 => h9) rfl dX2_findProcedure_7 ?_
    refine lv_icmp_ge (tgt := 32) hx hb dX2_findProcedure_10 (by decide) (fun q1 => ?_) (fun q1 => ?_)
    · replace hf := if_at hf q1
      refine lv_iconst (v := (-1)) hx hb dX2_findProcedure_32 (by decide +kernel) ?_
      have hf1 := Option.some.inj hf
      subst hf1
      have hP9 := hP.sub (ws' := [(h0, .inr (2, [w0_scanner, .ref h1, w0_variables, .int v0_locals, .ref h2, w0_calledName, w0_calledAt])), (h1, .inr (3, [.int v1_isThere, .int v1_globals, .int v1_procedures, .int v1_statements, w1_entry, w1_kind, w1_textAt, w1_owner, w1_value, w1_variable, w1_callee, w1_on0, w1_on1, w1_parent, w1_sibling, w1_inside, w1_insideElse, w1_behind])), (h2, .inl (k2, 6, .inr (.inl c2)))]) [0, 1, 2] rfl
      have hD9 := hD.sub (ws' := [(h0, .inr (2, [w0_scanner, .ref h1, w0_variables, .int v0_locals, .ref h2, w0_calledName, w0_calledAt])), (h1, .inr (3, [.int v1_isThere, .int v1_globals, .int v1_procedures, .int v1_statements, w1_entry, w1_kind, w1_textAt, w1_owner, w1_value, w1_variable, w1_callee, w1_on0, w1_on1, w1_parent, w1_sibling, w1_inside, w1_insideElse, w1_behind])), (h2, .inl (k2, 6, .inr (.inl c2)))]) [0, 1, 2] (by decide) rfl
      exact W.iret (v := (-1)) hx hb hr (fun t ht hW => ⟨⟨(-1), (), rfl, ⟨rfl, rfl⟩, by rw [ht]; exact hP9, va_K.moved hW.alike hK, hD9⟩, hS.F ht⟩) hS.2.2 dX2_findProcedure_33
    · replace hf := if_no hf q1
      refine lv_aload_n hx hb dX2_findProcedure_13 rfl (lv_at hl 0 rfl) ?_
      refine va_get (D := (dC, dI)) (ci := 2) (v := .ref h2) (C := RX2) (T := TX2) (N := 7) hx hb hts inlX2 hown hK hP 0 rfl rfl 4 (by decide) w2_ (fun _ h9 => h9) rfl dX2_findProcedure_14 ?_
      refine lv_iload_n hx hb dX2_findProcedure_17 rfl (lv_at hl 2 rfl) ?_
      have b2 := bd_in hf
      replace hf := bd_k hf
      refine va_lald hx hb hK hP 2 0 rfl rfl b2 dX2_findProcedure_18 ?_
      refine lv_topl (fun x3 e3 => ?_)
      replace hf := nm_at hf e3
      refine lv_lload_n hx hb dX2_findProcedure_19 rfl (lv_at hl 1 rfl) ?_
      refine W.lcmp hx hb dX2_findProcedure_20 ?_
      refine lv_topi (fun x4 e4 => ?_)
      replace hf := nm_at hf e4
      refine lv_if_ne (tgt := 26) hx hb dX2_findProcedure_21 (by decide) (fun q5 => ?_) (fun q5 => ?_)
      · replace hf := if_no hf q5
        obtain ⟨x6, e6⟩ : ∃ y : Int32, y = y3 + 1 := ⟨_, rfl⟩
        replace hf := nm_at hf e6
        refine lv_iinc (v := x6) (lv' := [(3, .int x6), (0, .ref h0), (1, .long y1)]) hx hb dX2_findProcedure_26 hl (k := 2) rfl (by rw [e6]; rfl) (by decide) rfl (fun ls hl => ?_)
        refine lv_goto (tgt := 2) hx hb dX2_findProcedure_29 (by decide) ?_
        exact (hG _ _ _ _ _).mp (hk2 y1 x6 H locs ls (hP.sub [0, 1, 2] rfl) (hD.sub [0, 1, 2] (by decide) rfl) hS (lv_sub hl [1, 2, 0] rfl) hf)
      · replace hf := if_at hf q5
        refine lv_iload_n hx hb dX2_findProcedure_24 rfl (lv_at hl 2 rfl) ?_
        have hf1 := Option.some.inj hf
        subst hf1
        have hP9 := hP.sub (ws' := [(h0, .inr (2, [w0_scanner, .ref h1, w0_variables, .int v0_locals, .ref h2, w0_calledName, w0_calledAt])), (h1, .inr (3, [.int v1_isThere, .int v1_globals, .int v1_procedures, .int v1_statements, w1_entry, w1_kind, w1_textAt, w1_owner, w1_value, w1_variable, w1_callee, w1_on0, w1_on1, w1_parent, w1_sibling, w1_inside, w1_insideElse, w1_behind])), (h2, .inl (k2, 6, .inr (.inl c2)))]) [0, 1, 2] rfl
        have hD9 := hD.sub (ws' := [(h0, .inr (2, [w0_scanner, .ref h1, w0_variables, .int v0_locals, .ref h2, w0_calledName, w0_calledAt])), (h1, .inr (3, [.int v1_isThere, .int v1_globals, .int v1_procedures, .int v1_statements, w1_entry, w1_kind, w1_textAt, w1_owner, w1_value, w1_variable, w1_callee, w1_on0, w1_on1, w1_parent, w1_sibling, w1_inside, w1_insideElse, w1_behind])), (h2, .inl (k2, 6, .inr (.inl c2)))]) [0, 1, 2] (by decide) rfl
        exact W.iret (v := y3) hx hb hr (fun t ht hW => ⟨⟨y3, (), rfl, ⟨rfl, rfl⟩, by rw [ht]; exact hP9, va_K.moved hW.alike hK, hD9⟩, hS.F ht⟩) hS.2.2 dX2_findProcedure_25
  have L2 : ∀ (n : Nat), ∀ (y1 : Int64) (y3 : Int32) (H : Heap) (locs : List Loc) (ls : Array Slot), va_P (dC, dI) vwCl [(h0, .inr (2, [w0_scanner, .ref h1, w0_variables, .int v0_locals, .ref h2, w0_calledName, w0_calledAt])), (h1, .inr (3, [.int v1_isThere, .int v1_globals, .int v1_procedures, .int v1_statements, w1_entry, w1_kind, w1_textAt, w1_owner, w1_value, w1_variable, w1_callee, w1_on0, w1_on1, w1_parent, w1_sibling, w1_inside, w1_insideElse, w1_behind])), (h2, .inl (k2, 6, .inr (.inl c2)))] H → va_D A [(h0, .inr (2, [w0_scanner, .ref h1, w0_variables, .int v0_locals, .ref h2, w0_calledName, w0_calledAt])), (h1, .inr (3, [.int v1_isThere, .int v1_globals, .int v1_procedures, .int v1_statements, w1_entry, w1_kind, w1_textAt, w1_owner, w1_value, w1_variable, w1_callee, w1_on0, w1_on1, w1_parent, w1_sibling, w1_inside, w1_insideElse, w1_behind])), (h2, .inl (k2, 6, .inr (.inl c2)))] → va_S A s.heap H locs → lv_has ls 4 [(0, .ref h0), (1, .long y1), (3, .int y3)] → fX2_findProcedure_l2 v1_procedures c2  n y1 y3 = some o → G 0 0 H locs (F0 m 2 ls []) := by
    intro  n
    induction n with
    | zero => intro y1 y3 H locs ls _ _ _ _ hf; cases hf
    | succ n ih => exact B2  _ ih
  refine (hG _ _ _ _ _).mpr ?_
  obtain ⟨H, hH⟩ : ∃ H, H = s.heap := ⟨_, rfl⟩
  have hS : va_S A s.heap H [] := by rw [hH]; exact hS
  rw [← hH] at hP ⊢
  generalize ([] : List Loc) = locs at hS ⊢
  unfold fX2_findProcedure at hf
  refine lv_iconst (v := 0) hx hb dX2_findProcedure_0 (by decide +kernel) ?_
  refine lv_istore_n (lv' := [(3, .int 0), (0, .ref h0), (1, .long a0)]) hx hb dX2_findProcedure_1 rfl hl (by decide) rfl (fun ls hl => ?_)
  exact (hG _ _ _ _ _).mp (L2 FU a0 0 H locs ls (hP.sub [0, 1, 2] rfl) (hD.sub [0, 1, 2] (by decide) rfl) hS (lv_sub hl [1, 2, 0] rfl) hf)
set_option maxHeartbeats 4000000 in
set_option maxRecDepth 100000 in
theorem mX2_findCalled (l : Launch) (dC : Nat → ClassId) (dI : Nat → Nat → Nat) (h0 h1 h2 h3 h4 h5 h6 h7 : Nat) (k3 k4 k5 k6 k7 : ClassId) (sz : Nat) (base : Nat × Nat × Nat) (v0_locals : Int32) (v1_isThere : Int32) (v1_globals : Int32) (v1_procedures : Int32) (v1_statements : Int32) (v2_token : Int32) (v2_tokenAt : Int32) (v2_name : Int64) (v2_fault : Int32) (v2_faultAt : Int32) (v2_size : Int32) (v2_next : Int32) (c3 : Nat → Int32) (c4 : Nat → Int64) (c5 : Nat → Int64) (c6 : Nat → Int32) (c7 : Nat → Int32) (w0_variables : Value) (w1_entry : Value) (w1_textAt : Value) (w1_owner : Value) (w1_value : Value) (w1_variable : Value) (w1_on0 : Value) (w1_on1 : Value) (w1_parent : Value) (w1_sibling : Value) (w1_inside : Value) (w1_insideElse : Value) (w1_behind : Value) (w2_text : Value) (o : Int32 × Int32 × Int32 × (Nat → Int32)) (hf : fX2_findCalled v1_procedures v1_statements v2_token v2_fault v2_faultAt c3 c4 c5 c6 c7 = some o) : Met l yX2_findCalled (.code yX2_findCalled cX2_findCalled 2 none :: wsL_law) ({ frames := 1, cells := 0, slots := 0, locals := 23 }) (cPre (dC, dI) vwCl [.ref h0] sz base [(h0, .inr (2, [.ref h2, .ref h1, w0_variables, .int v0_locals, .ref h5, .ref h4, .ref h7])), (h1, .inr (3, [.int v1_isThere, .int v1_globals, .int v1_procedures, .int v1_statements, w1_entry, .ref h3, w1_textAt, w1_owner, w1_value, w1_variable, .ref h6, w1_on0, w1_on1, w1_parent, w1_sibling, w1_inside, w1_insideElse, w1_behind])), (h2, .inr (4, [.int v2_token, .int v2_tokenAt, .long v2_name, .int v2_fault, .int v2_faultAt, w2_text, .int v2_size, .int v2_next])), (h3, .inl (k3, 40, .inl c3)), (h4, .inl (k4, 40, .inr (.inl c4))), (h5, .inl (k5, 6, .inr (.inl c5))), (h6, .inl (k6, 40, .inl c6)), (h7, .inl (k7, 40, .inl c7))] [(k3, .int), (k4, .long), (k5, .long), (k6, .int), (k7, .int)]) (va_Qv (fun u => u = o) (fun (u : Int32 × Int32 × Int32 × (Nat → Int32)) t => cPost (dC, dI) vwCl (va_A [(h0, .inr (2, [.ref h2, .ref h1, w0_variables, .int v0_locals, .ref h5, .ref h4, .ref h7])), (h1, .inr (3, [.int v1_isThere, .int v1_globals, .int v1_procedures, .int v1_statements, w1_entry, .ref h3, w1_textAt, w1_owner, w1_value, w1_variable, .ref h6, w1_on0, w1_on1, w1_parent, w1_sibling, w1_inside, w1_insideElse, w1_behind])), (h2, .inr (4, [.int v2_token, .int v2_tokenAt, .long v2_name, .int v2_fault, .int v2_faultAt, w2_text, .int v2_size, .int v2_next])), (h3, .inl (k3, 40, .inl c3)), (h4, .inl (k4, 40, .inr (.inl c4))), (h5, .inl (k5, 6, .inr (.inl c5))), (h6, .inl (k6, 40, .inl c6)), (h7, .inl (k7, 40, .inl c7))] sz) [(h0, .inr (2, [.ref h2, .ref h1, w0_variables, .int v0_locals, .ref h5, .ref h4, .ref h7])), (h1, .inr (3, [.int v1_isThere, .int v1_globals, .int v1_procedures, .int v1_statements, w1_entry, .ref h3, w1_textAt, w1_owner, w1_value, w1_variable, .ref h6, w1_on0, w1_on1, w1_parent, w1_sibling, w1_inside, w1_insideElse, w1_behind])), (h2, .inr (4, [.int u.1, .int v2_tokenAt, .long v2_name, .int u.2.1, .int u.2.2.1, w2_text, .int v2_size, .int v2_next])), (h3, .inl (k3, 40, .inl c3)), (h4, .inl (k4, 40, .inr (.inl c4))), (h5, .inl (k5, 6, .inr (.inl c5))), (h6, .inl (k6, 40, .inl u.2.2.2)), (h7, .inl (k7, 40, .inl c7))] [(k3, .int), (k4, .long), (k5, .long), (k6, .int), (k7, .int)] t) (va_A [(h0, .inr (2, [.ref h2, .ref h1, w0_variables, .int v0_locals, .ref h5, .ref h4, .ref h7])), (h1, .inr (3, [.int v1_isThere, .int v1_globals, .int v1_procedures, .int v1_statements, w1_entry, .ref h3, w1_textAt, w1_owner, w1_value, w1_variable, .ref h6, w1_on0, w1_on1, w1_parent, w1_sibling, w1_inside, w1_insideElse, w1_behind])), (h2, .inr (4, [.int v2_token, .int v2_tokenAt, .long v2_name, .int v2_fault, .int v2_faultAt, w2_text, .int v2_size, .int v2_next])), (h3, .inl (k3, 40, .inl c3)), (h4, .inl (k4, 40, .inr (.inl c4))), (h5, .inl (k5, 6, .inr (.inl c5))), (h6, .inl (k6, 40, .inl c6)), (h7, .inl (k7, 40, .inl c7))] sz)) 0 0 (va_A [(h0, .inr (2, [.ref h2, .ref h1, w0_variables, .int v0_locals, .ref h5, .ref h4, .ref h7])), (h1, .inr (3, [.int v1_isThere, .int v1_globals, .int v1_procedures, .int v1_statements, w1_entry, .ref h3, w1_textAt, w1_owner, w1_value, w1_variable, .ref h6, w1_on0, w1_on1, w1_parent, w1_sibling, w1_inside, w1_insideElse, w1_behind])), (h2, .inr (4, [.int v2_token, .int v2_tokenAt, .long v2_name, .int v2_fault, .int v2_faultAt, w2_text, .int v2_size, .int v2_next])), (h3, .inl (k3, 40, .inl c3)), (h4, .inl (k4, 40, .inr (.inl c4))), (h5, .inl (k5, 6, .inr (.inl c5))), (h6, .inl (k6, 40, .inl c6)), (h7, .inl (k7, 40, .inl c7))] sz) := by
  refine Met.ofW (cc := cX2_findCalled) (maxL := 2) (ret := none) (by decide) rfl ?_
  intro p e s m args below meth c s₁ B hml hv
  obtain ⟨rfl, hsz, hP, hK, hD0, hE⟩ := hv
  have hx := B.exec
  have hb := B.bytes
  have hr := B.returns
  have hts : ∀ w ∈ wsL_law, _ := fun w h => atoms_spec (ws := .code yX2_findCalled cX2_findCalled 2 none :: wsL_law) B.pre w (List.mem_cons_of_mem _ h)
  have hown : s.vm.findClass RX2 = some m.cls := findClass_of_methodNamed B.named
  have hlocks := B.notSynchronized
  have w0_ := hts _ q73
  have w1_ := hts _ q774
  have w2_ := hts _ q72
  have w3_ := hts _ q545
  have w4_ := hts _ q722
  have w5_ := hts _ q775
  have w6_ := hts _ q70
  have w7_ := hts _ q71
  subst hsz
  have hD := hD0.self (sz := s.heap.size)
  generalize hAe : va_A [(h0, .inr (2, [.ref h2, .ref h1, w0_variables, .int v0_locals, .ref h5, .ref h4, .ref h7])), (h1, .inr (3, [.int v1_isThere, .int v1_globals, .int v1_procedures, .int v1_statements, w1_entry, .ref h3, w1_textAt, w1_owner, w1_value, w1_variable, .ref h6, w1_on0, w1_on1, w1_parent, w1_sibling, w1_inside, w1_insideElse, w1_behind])), (h2, .inr (4, [.int v2_token, .int v2_tokenAt, .long v2_name, .int v2_fault, .int v2_faultAt, w2_text, .int v2_size, .int v2_next])), (h3, .inl (k3, 40, .inl c3)), (h4, .inl (k4, 40, .inr (.inl c4))), (h5, .inl (k5, 6, .inr (.inl c5))), (h6, .inl (k6, 40, .inl c6)), (h7, .inl (k7, 40, .inl c7))] s.heap.size = A at hD ⊢
  have hA : ∀ q : Nat, s.heap.size ≤ q → A q := fun q h => by rw [← hAe]; exact Or.inr h
  have hAB : ∀ q : Nat, A q → base.1 ≤ q := fun q h => by rw [← hAe] at h; exact h.elim (fun ⟨k, e, hk⟩ => hD0.2 k _ hk) (fun hk => Nat.le_trans hE.1 hk)
  have hS : va_S A s.heap s.heap [] := va_S.rf
  have hl := lv_entry ([.ref h0]) (n := 2) (Nat.le_of_ble_eq_true rfl)
  rw [lg_entry_eq]
  generalize (lg_sl ([.ref h0]) ++ List.replicate (2 - (lg_sl ([.ref h0])).length) Slot.unset).toArray = ls at hl ⊢
  have hl : lv_has ls 2 [(0, .ref h0)] := hl
  have hP : va_P (dC, dI) vwCl [(h0, .inr (2, [.ref h2, .ref h1, w0_variables, .int v0_locals, .ref h5, .ref h4, .ref h7])), (h1, .inr (3, [.int v1_isThere, .int v1_globals, .int v1_procedures, .int v1_statements, w1_entry, .ref h3, w1_textAt, w1_owner, w1_value, w1_variable, .ref h6, w1_on0, w1_on1, w1_parent, w1_sibling, w1_inside, w1_insideElse, w1_behind])), (h2, .inr (4, [.int v2_token, .int v2_tokenAt, .long v2_name, .int v2_fault, .int v2_faultAt, w2_text, .int v2_size, .int v2_next])), (h3, .inl (k3, 40, .inl c3)), (h4, .inl (k4, 40, .inr (.inl c4))), (h5, .inl (k5, 6, .inr (.inl c5))), (h6, .inl (k6, 40, .inl c6)), (h7, .inl (k7, 40, .inl c7))] s.heap := hP
  refine gl_intro (fun G hG => ?_)
  have J88 : ∀ (v2_token : Int32) (v2_fault : Int32) (v2_faultAt : Int32) (c6 : (Nat → Int32)) (H : Heap) (locs : List Loc) (ls : Array Slot), va_P (dC, dI) vwCl [(h0, .inr (2, [.ref h2, .ref h1, w0_variables, .int v0_locals, .ref h5, .ref h4, .ref h7])), (h1, .inr (3, [.int v1_isThere, .int v1_globals, .int v1_procedures, .int v1_statements, w1_entry, .ref h3, w1_textAt, w1_owner, w1_value, w1_variable, .ref h6, w1_on0, w1_on1, w1_parent, w1_sibling, w1_inside, w1_insideElse, w1_behind])), (h2, .inr (4, [.int v2_token, .int v2_tokenAt, .long v2_name, .int v2_fault, .int v2_faultAt, w2_text, .int v2_size, .int v2_next])), (h3, .inl (k3, 40, .inl c3)), (h4, .inl (k4, 40, .inr (.inl c4))), (h5, .inl (k5, 6, .inr (.inl c5))), (h6, .inl (k6, 40, .inl c6)), (h7, .inl (k7, 40, .inl c7))] H → va_D A [(h0, .inr (2, [.ref h2, .ref h1, w0_variables, .int v0_locals, .ref h5, .ref h4, .ref h7])), (h1, .inr (3, [.int v1_isThere, .int v1_globals, .int v1_procedures, .int v1_statements, w1_entry, .ref h3, w1_textAt, w1_owner, w1_value, w1_variable, .ref h6, w1_on0, w1_on1, w1_parent, w1_sibling, w1_inside, w1_insideElse, w1_behind])), (h2, .inr (4, [.int v2_token, .int v2_tokenAt, .long v2_name, .int v2_fault, .int v2_faultAt, w2_text, .int v2_size, .int v2_next])), (h3, .inl (k3, 40, .inl c3)), (h4, .inl (k4, 40, .inr (.inl c4))), (h5, .inl (k5, 6, .inr (.inl c5))), (h6, .inl (k6, 40, .inl c6)), (h7, .inl (k7, 40, .inl c7))] → va_S A s.heap H locs → lv_has ls 2 [(0, .ref h0)] → fX2_findCalled_p88 v1_procedures v1_statements c3 c4 c5 c7  v2_token v2_fault v2_faultAt c6 = some o → G 0 0 H locs (F0 m 88 ls []) := by
    intro  v2_token v2_fault v2_faultAt c6 H locs ls hP hD hS hl hf
    refine (hG _ _ _ _ _).mpr ?_
    unfold fX2_findCalled_p88 at hf
    have hf1 := Option.some.inj hf
    subst hf1
    have hP9 := hP.sub (ws' := [(h0, .inr (2, [.ref h2, .ref h1, w0_variables, .int v0_locals, .ref h5, .ref h4, .ref h7])), (h1, .inr (3, [.int v1_isThere, .int v1_globals, .int v1_procedures, .int v1_statements, w1_entry, .ref h3, w1_textAt, w1_owner, w1_value, w1_variable, .ref h6, w1_on0, w1_on1, w1_parent, w1_sibling, w1_inside, w1_insideElse, w1_behind])), (h2, .inr (4, [.int v2_token, .int v2_tokenAt, .long v2_name, .int v2_fault, .int v2_faultAt, w2_text, .int v2_size, .int v2_next])), (h3, .inl (k3, 40, .inl c3)), (h4, .inl (k4, 40, .inr (.inl c4))), (h5, .inl (k5, 6, .inr (.inl c5))), (h6, .inl (k6, 40, .inl c6)), (h7, .inl (k7, 40, .inl c7))]) [0, 1, 2, 3, 4, 5, 6, 7] rfl
    have hD9 := hD.sub (ws' := [(h0, .inr (2, [.ref h2, .ref h1, w0_variables, .int v0_locals, .ref h5, .ref h4, .ref h7])), (h1, .inr (3, [.int v1_isThere, .int v1_globals, .int v1_procedures, .int v1_statements, w1_entry, .ref h3, w1_textAt, w1_owner, w1_value, w1_variable, .ref h6, w1_on0, w1_on1, w1_parent, w1_sibling, w1_inside, w1_insideElse, w1_behind])), (h2, .inr (4, [.int v2_token, .int v2_tokenAt, .long v2_name, .int v2_fault, .int v2_faultAt, w2_text, .int v2_size, .int v2_next])), (h3, .inl (k3, 40, .inl c3)), (h4, .inl (k4, 40, .inr (.inl c4))), (h5, .inl (k5, 6, .inr (.inl c5))), (h6, .inl (k6, 40, .inl c6)), (h7, .inl (k7, 40, .inl c7))]) [0, 1, 2, 3, 4, 5, 6, 7] (by decide) rfl
    exact W.vret hx hb hr (fun t ht hW => ⟨⟨(v2_token, v2_fault, v2_faultAt, c6), rfl, rfl, by rw [ht]; exact hP9, va_K.moved hW.alike hK, hD9⟩, hS.F ht⟩) hS.2.2 dX2_findCalled_88
  have J82 : ∀ (k2 : Int32 → Int32 → Int32 → Int32 → (Nat → Int32) → Option (Int32 × Int32 × Int32 × (Nat → Int32))) (hk2 : ∀ (y1 : Int32) (v2_token : Int32) (v2_fault : Int32) (v2_faultAt : Int32) (c6 : (Nat → Int32)) (H : Heap) (locs : List Loc) (ls : Array Slot), va_P (dC, dI) vwCl [(h0, .inr (2, [.ref h2, .ref h1, w0_variables, .int v0_locals, .ref h5, .ref h4, .ref h7])), (h1, .inr (3, [.int v1_isThere, .int v1_globals, .int v1_procedures, .int v1_statements, w1_entry, .ref h3, w1_textAt, w1_owner, w1_value, w1_variable, .ref h6, w1_on0, w1_on1, w1_parent, w1_sibling, w1_inside, w1_insideElse, w1_behind])), (h2, .inr (4, [.int v2_token, .int v2_tokenAt, .long v2_name, .int v2_fault, .int v2_faultAt, w2_text, .int v2_size, .int v2_next])), (h3, .inl (k3, 40, .inl c3)), (h4, .inl (k4, 40, .inr (.inl c4))), (h5, .inl (k5, 6, .inr (.inl c5))), (h6, .inl (k6, 40, .inl c6)), (h7, .inl (k7, 40, .inl c7))] H → va_D A [(h0, .inr (2, [.ref h2, .ref h1, w0_variables, .int v0_locals, .ref h5, .ref h4, .ref h7])), (h1, .inr (3, [.int v1_isThere, .int v1_globals, .int v1_procedures, .int v1_statements, w1_entry, .ref h3, w1_textAt, w1_owner, w1_value, w1_variable, .ref h6, w1_on0, w1_on1, w1_parent, w1_sibling, w1_inside, w1_insideElse, w1_behind])), (h2, .inr (4, [.int v2_token, .int v2_tokenAt, .long v2_name, .int v2_fault, .int v2_faultAt, w2_text, .int v2_size, .int v2_next])), (h3, .inl (k3, 40, .inl c3)), (h4, .inl (k4, 40, .inr (.inl c4))), (h5, .inl (k5, 6, .inr (.inl c5))), (h6, .inl (k6, 40, .inl c6)), (h7, .inl (k7, 40, .inl c7))] → va_S A s.heap H locs → lv_has ls 2 [(0, .ref h0), (1, .int y1)] → k2 y1 v2_token v2_fault v2_faultAt c6 = some o → G 0 0 H locs (F0 m 2 ls [])), ∀ (y1 : Int32) (v2_token : Int32) (v2_fault : Int32) (v2_faultAt : Int32) (c6 : (Nat → Int32)) (H : Heap) (locs : List Loc) (ls : Array Slot), va_P (dC, dI) vwCl [(h0, .inr (2, [.ref h2, .ref h1, w0_variables, .int v0_locals, .ref h5, .ref h4, .ref h7])), (h1, .inr (3, [.int v1_isThere, .int v1_globals, .int v1_procedures, .int v1_statements, w1_entry, .ref h3, w1_textAt, w1_owner, w1_value, w1_variable, .ref h6, w1_on0, w1_on1, w1_parent, w1_sibling, w1_inside, w1_insideElse, w1_behind])), (h2, .inr (4, [.int v2_token, .int v2_tokenAt, .long v2_name, .int v2_fault, .int v2_faultAt, w2_text, .int v2_size, .int v2_next])), (h3, .inl (k3, 40, .inl c3)), (h4, .inl (k4, 40, .inr (.inl c4))), (h5, .inl (k5, 6, .inr (.inl c5))), (h6, .inl (k6, 40, .inl c6)), (h7, .inl (k7, 40, .inl c7))] H → va_D A [(h0, .inr (2, [.ref h2, .ref h1, w0_variables, .int v0_locals, .ref h5, .ref h4, .ref h7])), (h1, .inr (3, [.int v1_isThere, .int v1_globals, .int v1_procedures, .int v1_statements, w1_entry, .ref h3, w1_textAt, w1_owner, w1_value, w1_variable, .ref h6, w1_on0, w1_on1, w1_parent, w1_sibling, w1_inside, w1_insideElse, w1_behind])), (h2, .inr (4, [.int v2_token, .int v2_tokenAt, .long v2_name, .int v2_fault, .int v2_faultAt, w2_text, .int v2_size, .int v2_next])), (h3, .inl (k3, 40, .inl c3)), (h4, .inl (k4, 40, .inr (.inl c4))), (h5, .inl (k5, 6, .inr (.inl c5))), (h6, .inl (k6, 40, .inl c6)), (h7, .inl (k7, 40, .inl c7))] → va_S A s.heap H locs → lv_has ls 2 [(0, .ref h0), (1, .int y1)] → fX2_findCalled_p82 v1_procedures v1_statements c3 c4 c5 c7 k2 y1 v2_token v2_fault v2_faultAt c6 = some o → G 0 0 H locs (F0 m 82 ls []) := by
    intro k2 hk2 y1 v2_token v2_fault v2_faultAt c6 H locs ls hP hD hS hl hf
    refine (hG _ _ _ _ _).mpr ?_
    unfold fX2_findCalled_p82 at hf
    obtain ⟨x1, e1⟩ : ∃ y : Int32, y = y1 + 1 := ⟨_, rfl⟩
    replace hf := nm_at hf e1
    refine lv_iinc (v := x1) (lv' := [(1, .int x1), (0, .ref h0)]) hx hb dX2_findCalled_82 hl (k := 1) rfl (by rw [e1]; rfl) (by decide) rfl (fun ls hl => ?_)
    refine lv_goto (tgt := 2) hx hb dX2_findCalled_85 (by decide) ?_
    exact (hG _ _ _ _ _).mp (hk2 x1 v2_token v2_fault v2_faultAt c6 H locs ls (hP.sub [0, 1, 2, 3, 4, 5, 6, 7] rfl) (hD.sub [0, 1, 2, 3, 4, 5, 6, 7] (by decide) rfl) hS (lv_sub hl [1, 0] rfl) hf)
  have B2 : ∀ (k2 : Int32 → Int32 → Int32 → Int32 → (Nat → Int32) → Option (Int32 × Int32 × Int32 × (Nat → Int32))) (hk2 : ∀ (y1 : Int32) (v2_token : Int32) (v2_fault : Int32) (v2_faultAt : Int32) (c6 : (Nat → Int32)) (H : Heap) (locs : List Loc) (ls : Array Slot), va_P (dC, dI) vwCl [(h0, .inr (2, [.ref h2, .ref h1, w0_variables, .int v0_locals, .ref h5, .ref h4, .ref h7])), (h1, .inr (3, [.int v1_isThere, .int v1_globals, .int v1_procedures, .int v1_statements, w1_entry, .ref h3, w1_textAt, w1_owner, w1_value, w1_variable, .ref h6, w1_on0, w1_on1, w1_parent, w1_sibling, w1_inside, w1_insideElse, w1_behind])), (h2, .inr (4, [.int v2_token, .int v2_tokenAt, .long v2_name, .int v2_fault, .int v2_faultAt, w2_text, .int v2_size, .int v2_next])), (h3, .inl (k3, 40, .inl c3)), (h4, .inl (k4, 40, .inr (.inl c4))), (h5, .inl (k5, 6, .inr (.inl c5))), (h6, .inl (k6, 40, .inl c6)), (h7, .inl (k7, 40, .inl c7))] H → va_D A [(h0, .inr (2, [.ref h2, .ref h1, w0_variables, .int v0_locals, .ref h5, .ref h4, .ref h7])), (h1, .inr (3, [.int v1_isThere, .int v1_globals, .int v1_procedures, .int v1_statements, w1_entry, .ref h3, w1_textAt, w1_owner, w1_value, w1_variable, .ref h6, w1_on0, w1_on1, w1_parent, w1_sibling, w1_inside, w1_insideElse, w1_behind])), (h2, .inr (4, [.int v2_token, .int v2_tokenAt, .long v2_name, .int v2_fault, .int v2_faultAt, w2_text, .int v2_size, .int v2_next])), (h3, .inl (k3, 40, .inl c3)), (h4, .inl (k4, 40, .inr (.inl c4))), (h5, .inl (k5, 6, .inr (.inl c5))), (h6, .inl (k6, 40, .inl c6)), (h7, .inl (k7, 40, .inl c7))] → va_S A s.heap H locs → lv_has ls 2 [(0, .ref h0), (1, .int y1)] → k2 y1 v2_token v2_fault v2_faultAt c6 = some o → G 0 0 H locs (F0 m 2 ls [])), ∀ (y1 : Int32) (v2_token : Int32) (v2_fault : Int32) (v2_faultAt : Int32) (c6 : (Nat → Int32)) (H : Heap) (locs : List Loc) (ls : Array Slot), va_P (dC, dI) vwCl [(h0, .inr (2, [.ref h2, .ref h1, w0_variables, .int v0_locals, .ref h5, .ref h4, .ref h7])), (h1, .inr (3, [.int v1_isThere, .int v1_globals, .int v1_procedures, .int v1_statements, w1_entry, .ref h3, w1_textAt, w1_owner, w1_value, w1_variable, .ref h6, w1_on0, w1_on1, w1_parent, w1_sibling, w1_inside, w1_insideElse, w1_behind])), (h2, .inr (4, [.int v2_token, .int v2_tokenAt, .long v2_name, .int v2_fault, .int v2_faultAt, w2_text, .int v2_size, .int v2_next])), (h3, .inl (k3, 40, .inl c3)), (h4, .inl (k4, 40, .inr (.inl c4))), (h5, .inl (k5, 6, .inr (.inl c5))), (h6, .inl (k6, 40, .inl c6)), (h7, .inl (k7, 40, .inl c7))] H → va_D A [(h0, .inr (2, [.ref h2, .ref h1, w0_variables, .int v0_locals, .ref h5, .ref h4, .ref h7])), (h1, .inr (3, [.int v1_isThere, .int v1_globals, .int v1_procedures, .int v1_statements, w1_entry, .ref h3, w1_textAt, w1_owner, w1_value, w1_variable, .ref h6, w1_on0, w1_on1, w1_parent, w1_sibling, w1_inside, w1_insideElse, w1_behind])), (h2, .inr (4, [.int v2_token, .int v2_tokenAt, .long v2_name, .int v2_fault, .int v2_faultAt, w2_text, .int v2_size, .int v2_next])), (h3, .inl (k3, 40, .inl c3)), (h4, .inl (k4, 40, .inr (.inl c4))), (h5, .inl (k5, 6, .inr (.inl c5))), (h6, .inl (k6, 40, .inl c6)), (h7, .inl (k7, 40, .inl c7))] → va_S A s.heap H locs → lv_has ls 2 [(0, .ref h0), (1, .int y1)] → fX2_findCalled_b2 v1_procedures v1_statements c3 c4 c5 c7  k2 y1 v2_token v2_fault v2_faultAt c6 = some o → G 0 0 H locs (F0 m 2 ls []) := by
    intro  k2 hk2 y1 v2_token v2_fault v2_faultAt c6 H locs ls hP hD hS hl hf
    refine (hG _ _ _ _ _).mpr ?_
    unfold fX2_findCalled_b2 at hf
    refine lv_iload_n hx hb dX2_findCalled_2 rfl (lv_at hl 1 rfl) ?_
    refine lv_aload_n hx hb dX2_findCalled_3 rfl (lv_at hl 0 rfl) ?_
    refine va_get (D := (dC, dI)) (ci := 2) (v := .ref h1) (C := RX2) (T := TX2) (N := 7) hx hb hts inlX2 hown hK hP 0 rfl rfl 1 (by decide) w0_ (fun _ h9 => h9) rfl dX2_findCalled_4 ?_
    refine va_get (D := (dC, dI)) (ci := 3) (v := .int v1_statements) (C := RX3) (T := TX3) (N := 18) hx hb hts inlX3 hown hK hP 1 rfl rfl 3 (by decide) w1_ (fun _ h9 => h9) rfl dX2_findCalled_7 ?_
    refine lv_icmp_ge (tgt := 88) hx hb dX2_findCalled_10 (by decide) (fun q2 => ?_) (fun q2 => ?_)
    · replace hf := if_at hf q2
      exact (hG _ _ _ _ _).mp (J88 v2_token v2_fault v2_faultAt c6 H locs ls (hP.sub [0, 1, 2, 3, 4, 5, 6, 7] rfl) (hD.sub [0, 1, 2, 3, 4, 5, 6, 7] (by decide) rfl) hS (lv_sub hl [0] rfl) hf)
    · replace hf := if_no hf q2
      refine lv_aload_n hx hb dX2_findCalled_13 rfl (lv_at hl 0 rfl) ?_
      refine va_get (D := (dC, dI)) (ci := 2) (v := .ref h2) (C := RX2) (T := TX2) (N := 7) hx hb hts inlX2 hown hK hP 0 rfl rfl 0 (by decide) w2_ (fun _ h9 => h9) rfl dX2_findCalled_14 ?_
      refine va_get (D := (dC, dI)) (ci := 4) (v := .int v2_fault) (C := RX4) (T := TX4) (N := 8) hx hb hts inlX4 hown hK hP 2 rfl rfl 3 (by decide) w3_ (fun _ h9 => h9) rfl dX2_findCalled_17 ?_
      refine lv_if_ne (tgt := 88) hx hb dX2_findCalled_20 (by decide) (fun q3 => ?_) (fun q3 => ?_)
      · replace hf := if_no hf q3
        exact (hG _ _ _ _ _).mp (J88 v2_token v2_fault v2_faultAt c6 H locs ls (hP.sub [0, 1, 2, 3, 4, 5, 6, 7] rfl) (hD.sub [0, 1, 2, 3, 4, 5, 6, 7] (by decide) rfl) hS (lv_sub hl [0] rfl) hf)
      · replace hf := if_at hf q3
        refine lv_aload_n hx hb dX2_findCalled_23 rfl (lv_at hl 0 rfl) ?_
        refine va_get (D := (dC, dI)) (ci := 2) (v := .ref h1) (C := RX2) (T := TX2) (N := 7) hx hb hts inlX2 hown hK hP 0 rfl rfl 1 (by decide) w0_ (fun _ h9 => h9) rfl dX2_findCalled_24 ?_
        refine va_get (D := (dC, dI)) (ci := 3) (v := .ref h3) (C := RX3) (T := TX3) (N := 18) hx hb hts inlX3 hown hK hP 1 rfl rfl 5 (by decide) w4_ (fun _ h9 => h9) rfl dX2_findCalled_27 ?_
        refine lv_iload_n hx hb dX2_findCalled_30 rfl (lv_at hl 1 rfl) ?_
        have b4 := bd_in hf
        replace hf := bd_k hf
        refine va_iald hx hb hK hP 3 0 rfl rfl b4 dX2_findCalled_31 ?_
        refine lv_topi (fun x5 e5 => ?_)
        replace hf := nm_at hf e5
        refine lv_iconst (v := 3) hx hb dX2_findCalled_32 (by decide +kernel) ?_
        refine lv_icmp_ne (tgt := 82) hx hb dX2_findCalled_33 (by decide) (fun q6 => ?_) (fun q6 => ?_)
        · replace hf := if_no hf q6
          exact (hG _ _ _ _ _).mp (J82 k2 hk2 y1 v2_token v2_fault v2_faultAt c6 H locs ls (hP.sub [0, 1, 2, 3, 4, 5, 6, 7] rfl) (hD.sub [0, 1, 2, 3, 4, 5, 6, 7] (by decide) rfl) hS (lv_sub hl [0, 1] rfl) hf)
        · replace hf := if_at hf q6
          refine lv_aload_n hx hb dX2_findCalled_36 rfl (lv_at hl 0 rfl) ?_
          refine va_get (D := (dC, dI)) (ci := 2) (v := .ref h1) (C := RX2) (T := TX2) (N := 7) hx hb hts inlX2 hown hK hP 0 rfl rfl 1 (by decide) w0_ (fun _ h9 => h9) rfl dX2_findCalled_37 ?_
          refine va_get (D := (dC, dI)) (ci := 3) (v := .ref h6) (C := RX3) (T := TX3) (N := 18) hx hb hts inlX3 hown hK hP 1 rfl rfl 10 (by decide) w5_ (fun _ h9 => h9) rfl dX2_findCalled_40 ?_
          refine lv_iload_n hx hb dX2_findCalled_43 rfl (lv_at hl 1 rfl) ?_
          refine lv_aload_n hx hb dX2_findCalled_44 rfl (lv_at hl 0 rfl) ?_
          refine lv_aload_n hx hb dX2_findCalled_45 rfl (lv_at hl 0 rfl) ?_
          refine va_get (D := (dC, dI)) (ci := 2) (v := .ref h4) (C := RX2) (T := TX2) (N := 7) hx hb hts inlX2 hown hK hP 0 rfl rfl 5 (by decide) w6_ (fun _ h9 => h9) rfl dX2_findCalled_46 ?_
          refine lv_iload_n hx hb dX2_findCalled_49 rfl (lv_at hl 1 rfl) ?_
          have b7 := bd_in hf
          replace hf := bd_k hf
          refine va_lald hx hb hK hP 4 1 rfl rfl b7 dX2_findCalled_50 ?_
          refine lv_topl (fun x8 e8 => ?_)
          replace hf := nm_at hf e8
          obtain ⟨o9, e9, hf⟩ := ob_some hf
          refine kVi (As := [.long x8]) (rest := [.int y1, .ref h6]) ⟨hx, hb, hml, hown, hts⟩ (mX2_findProcedure l dC dI h0 h1 h5 k5 H.size base x8 v0_locals v1_isThere v1_globals v1_procedures v1_statements c5 (.ref h2) w0_variables (.ref h4) (.ref h7) w1_entry (.ref h3) w1_textAt w1_owner w1_value w1_variable (.ref h6) w1_on0 w1_on1 w1_parent w1_sibling w1_inside w1_insideElse w1_behind o9 e9) (cwV 1 hts (gTV q698 q699 q700 q27 q701) rfl rfl rfl (by decide +kernel) ⟨Nat.le_of_ble_eq_true rfl, Nat.le_of_ble_eq_true rfl⟩) hK hP hD hS hA hE hAB [0, 1, 5] [2, 3, 4, 6, 7] [2] (wr := [(h2, .inr (4, [.int v2_token, .int v2_tokenAt, .long v2_name, .int v2_fault, .int v2_faultAt, w2_text, .int v2_size, .int v2_next])), (h3, .inl (k3, 40, .inl c3)), (h4, .inl (k4, 40, .inr (.inl c4))), (h6, .inl (k6, 40, .inl c6)), (h7, .inl (k7, 40, .inl c7))]) rfl rfl (by decide) (by decide) (by decide) rfl (ci := 2) (q0 := 0) rfl rfl rfl rfl hl.1 rfl (Nat.le_of_ble_eq_true rfl) dX2_findCalled_51 ⟨Nat.zero_le _, Nat.zero_le _⟩ (fun r9 u9 H locs hw9 hP hD hS => ?_)
          obtain ⟨hw91, hw92⟩ := hw9
          subst hw91 hw92
          have hP : va_P (dC, dI) vwCl [(h2, .inr (4, [.int v2_token, .int v2_tokenAt, .long v2_name, .int v2_fault, .int v2_faultAt, w2_text, .int v2_size, .int v2_next])), (h3, .inl (k3, 40, .inl c3)), (h4, .inl (k4, 40, .inr (.inl c4))), (h6, .inl (k6, 40, .inl c6)), (h7, .inl (k7, 40, .inl c7)), (h0, .inr (2, [.ref h2, .ref h1, w0_variables, .int v0_locals, .ref h5, .ref h4, .ref h7])), (h1, .inr (3, [.int v1_isThere, .int v1_globals, .int v1_procedures, .int v1_statements, w1_entry, .ref h3, w1_textAt, w1_owner, w1_value, w1_variable, .ref h6, w1_on0, w1_on1, w1_parent, w1_sibling, w1_inside, w1_insideElse, w1_behind])), (h5, .inl (k5, 6, .inr (.inl c5)))] H := hP
          have hD : va_D A [(h2, .inr (4, [.int v2_token, .int v2_tokenAt, .long v2_name, .int v2_fault, .int v2_faultAt, w2_text, .int v2_size, .int v2_next])), (h3, .inl (k3, 40, .inl c3)), (h4, .inl (k4, 40, .inr (.inl c4))), (h6, .inl (k6, 40, .inl c6)), (h7, .inl (k7, 40, .inl c7)), (h0, .inr (2, [.ref h2, .ref h1, w0_variables, .int v0_locals, .ref h5, .ref h4, .ref h7])), (h1, .inr (3, [.int v1_isThere, .int v1_globals, .int v1_procedures, .int v1_statements, w1_entry, .ref h3, w1_textAt, w1_owner, w1_value, w1_variable, .ref h6, w1_on0, w1_on1, w1_parent, w1_sibling, w1_inside, w1_insideElse, w1_behind])), (h5, .inl (k5, 6, .inr (.inl c5)))] := hD
          have b10 := bd_in hf
          replace hf := bd_k hf
          obtain ⟨c10x, e10⟩ : ∃ y, y = upd c6 y1.toNatClampNeg o9.1 := ⟨_, rfl⟩
          replace hf := nm_at hf e10
          refine va_iast hx hb hK hP hD hS 3 3 rfl rfl b10 dX2_findCalled_54 (fun H locs hP hD hS => ?_)
          have hP : va_P (dC, dI) vwCl [(h2, .inr (4, [.int v2_token, .int v2_tokenAt, .long v2_name, .int v2_fault, .int v2_faultAt, w2_text, .int v2_size, .int v2_next])), (h3, .inl (k3, 40, .inl c3)), (h4, .inl (k4, 40, .inr (.inl c4))), (h6, .inl (k6, 40, .inl c10x)), (h7, .inl (k7, 40, .inl c7)), (h0, .inr (2, [.ref h2, .ref h1, w0_variables, .int v0_locals, .ref h5, .ref h4, .ref h7])), (h1, .inr (3, [.int v1_isThere, .int v1_globals, .int v1_procedures, .int v1_statements, w1_entry, .ref h3, w1_textAt, w1_owner, w1_value, w1_variable, .ref h6, w1_on0, w1_on1, w1_parent, w1_sibling, w1_inside, w1_insideElse, w1_behind])), (h5, .inl (k5, 6, .inr (.inl c5)))] H := by rw [e10]; exact hP
          have hD : va_D A [(h2, .inr (4, [.int v2_token, .int v2_tokenAt, .long v2_name, .int v2_fault, .int v2_faultAt, w2_text, .int v2_size, .int v2_next])), (h3, .inl (k3, 40, .inl c3)), (h4, .inl (k4, 40, .inr (.inl c4))), (h6, .inl (k6, 40, .inl c10x)), (h7, .inl (k7, 40, .inl c7)), (h0, .inr (2, [.ref h2, .ref h1, w0_variables, .int v0_locals, .ref h5, .ref h4, .ref h7])), (h1, .inr (3, [.int v1_isThere, .int v1_globals, .int v1_procedures, .int v1_statements, w1_entry, .ref h3, w1_textAt, w1_owner, w1_value, w1_variable, .ref h6, w1_on0, w1_on1, w1_parent, w1_sibling, w1_inside, w1_insideElse, w1_behind])), (h5, .inl (k5, 6, .inr (.inl c5)))] := by rw [e10]; exact hD
          refine lv_aload_n hx hb dX2_findCalled_55 rfl (lv_at hl 0 rfl) ?_
          refine va_get (D := (dC, dI)) (ci := 2) (v := .ref h1) (C := RX2) (T := TX2) (N := 7) hx hb hts inlX2 hown hK hP 5 rfl rfl 1 (by decide) w0_ (fun _ h9 => h9) rfl dX2_findCalled_56 ?_
          refine va_get (D := (dC, dI)) (ci := 3) (v := .ref h6) (C := RX3) (T := TX3) (N := 18) hx hb hts inlX3 hown hK hP 6 rfl rfl 10 (by decide) w5_ (fun _ h9 => h9) rfl dX2_findCalled_59 ?_
          refine lv_iload_n hx hb dX2_findCalled_62 rfl (lv_at hl 1 rfl) ?_
          have b11 := bd_in hf
          replace hf := bd_k hf
          refine va_iald hx hb hK hP 3 3 rfl rfl b11 dX2_findCalled_63 ?_
          refine lv_topi (fun x12 e12 => ?_)
          replace hf := nm_at hf e12
          refine lv_iconst (v := (-1)) hx hb dX2_findCalled_64 (by decide +kernel) ?_
          refine lv_icmp_ne (tgt := 82) hx hb dX2_findCalled_65 (by decide) (fun q13 => ?_) (fun q13 => ?_)
          · replace hf := if_no hf q13
            exact (hG _ _ _ _ _).mp (J82 k2 hk2 y1 v2_token v2_fault v2_faultAt c10x H locs ls (hP.sub [5, 6, 0, 1, 2, 7, 3, 4] rfl) (hD.sub [5, 6, 0, 1, 2, 7, 3, 4] (by decide) rfl) hS (lv_sub hl [0, 1] rfl) hf)
          · replace hf := if_at hf q13
            refine lv_aload_n hx hb dX2_findCalled_68 rfl (lv_at hl 0 rfl) ?_
            refine va_get (D := (dC, dI)) (ci := 2) (v := .ref h2) (C := RX2) (T := TX2) (N := 7) hx hb hts inlX2 hown hK hP 5 rfl rfl 0 (by decide) w2_ (fun _ h9 => h9) rfl dX2_findCalled_69 ?_
            refine lv_iconst (v := 4) hx hb dX2_findCalled_72 (by decide +kernel) ?_
            refine lv_aload_n hx hb dX2_findCalled_73 rfl (lv_at hl 0 rfl) ?_
            refine va_get (D := (dC, dI)) (ci := 2) (v := .ref h7) (C := RX2) (T := TX2) (N := 7) hx hb hts inlX2 hown hK hP 5 rfl rfl 6 (by decide) w7_ (fun _ h9 => h9) rfl dX2_findCalled_74 ?_
            refine lv_iload_n hx hb dX2_findCalled_77 rfl (lv_at hl 1 rfl) ?_
            have b14 := bd_in hf
            replace hf := bd_k hf
            refine va_iald hx hb hK hP 4 4 rfl rfl b14 dX2_findCalled_78 ?_
            refine lv_topi (fun x15 e15 => ?_)
            replace hf := nm_at hf e15
            obtain ⟨o16, e16, hf⟩ := ob_some hf
            refine kVv (As := [.int 4, .int x15]) (rest := []) ⟨hx, hb, hml, hown, hts⟩ (mX4_fail l dC dI h2 H.size base 4 x15 v2_token v2_tokenAt v2_name v2_fault v2_faultAt v2_size v2_next w2_text o16 e16) (cwV 2 hts (gTV q776 q580 q581 q19 q582) rfl rfl rfl (by decide +kernel) ⟨Nat.le_of_ble_eq_true rfl, Nat.le_of_ble_eq_true rfl⟩) hK hP hD hS hA hE hAB [0] [1, 2, 3, 4, 5, 6, 7] [] (wr := [(h3, .inl (k3, 40, .inl c3)), (h4, .inl (k4, 40, .inr (.inl c4))), (h6, .inl (k6, 40, .inl c10x)), (h7, .inl (k7, 40, .inl c7)), (h0, .inr (2, [.ref h2, .ref h1, w0_variables, .int v0_locals, .ref h5, .ref h4, .ref h7])), (h1, .inr (3, [.int v1_isThere, .int v1_globals, .int v1_procedures, .int v1_statements, w1_entry, .ref h3, w1_textAt, w1_owner, w1_value, w1_variable, .ref h6, w1_on0, w1_on1, w1_parent, w1_sibling, w1_inside, w1_insideElse, w1_behind])), (h5, .inl (k5, 6, .inr (.inl c5)))]) rfl rfl (by decide) (by decide) (by decide) rfl (ci := 4) (q0 := 0) rfl rfl rfl rfl hl.1 rfl (Nat.le_of_ble_eq_true rfl) dX2_findCalled_79 ⟨Nat.zero_le _, Nat.zero_le _⟩ (fun u16 H locs hw16 hP hD hS => ?_)
            have hw161 : o16 = u16 := Eq.symm hw16
            subst hw161
            have hP : va_P (dC, dI) vwCl [(h3, .inl (k3, 40, .inl c3)), (h4, .inl (k4, 40, .inr (.inl c4))), (h6, .inl (k6, 40, .inl c10x)), (h7, .inl (k7, 40, .inl c7)), (h0, .inr (2, [.ref h2, .ref h1, w0_variables, .int v0_locals, .ref h5, .ref h4, .ref h7])), (h1, .inr (3, [.int v1_isThere, .int v1_globals, .int v1_procedures, .int v1_statements, w1_entry, .ref h3, w1_textAt, w1_owner, w1_value, w1_variable, .ref h6, w1_on0, w1_on1, w1_parent, w1_sibling, w1_inside, w1_insideElse, w1_behind])), (h5, .inl (k5, 6, .inr (.inl c5))), (h2, .inr (4, [.int o16.1, .int v2_tokenAt, .long v2_name, .int o16.2.1, .int o16.2.2, w2_text, .int v2_size, .int v2_next]))] H := hP
            have hD : va_D A [(h3, .inl (k3, 40, .inl c3)), (h4, .inl (k4, 40, .inr (.inl c4))), (h6, .inl (k6, 40, .inl c10x)), (h7, .inl (k7, 40, .inl c7)), (h0, .inr (2, [.ref h2, .ref h1, w0_variables, .int v0_locals, .ref h5, .ref h4, .ref h7])), (h1, .inr (3, [.int v1_isThere, .int v1_globals, .int v1_procedures, .int v1_statements, w1_entry, .ref h3, w1_textAt, w1_owner, w1_value, w1_variable, .ref h6, w1_on0, w1_on1, w1_parent, w1_sibling, w1_inside, w1_insideElse, w1_behind])), (h5, .inl (k5, 6, .inr (.inl c5))), (h2, .inr (4, [.int o16.1, .int v2_tokenAt, .long v2_name, .int o16.2.1, .int o16.2.2, w2_text, .int v2_size, .int v2_next]))] := hD
            exact (hG _ _ _ _ _).mp (J82 k2 hk2 y1 o16.1 o16.2.1 o16.2.2 c10x H locs ls (hP.sub [4, 5, 7, 0, 1, 6, 2, 3] rfl) (hD.sub [4, 5, 7, 0, 1, 6, 2, 3] (by decide) rfl) hS (lv_sub hl [0, 1] rfl) hf)
  have L2 : ∀ (n : Nat), ∀ (y1 : Int32) (v2_token : Int32) (v2_fault : Int32) (v2_faultAt : Int32) (c6 : (Nat → Int32)) (H : Heap) (locs : List Loc) (ls : Array Slot), va_P (dC, dI) vwCl [(h0, .inr (2, [.ref h2, .ref h1, w0_variables, .int v0_locals, .ref h5, .ref h4, .ref h7])), (h1, .inr (3, [.int v1_isThere, .int v1_globals, .int v1_procedures, .int v1_statements, w1_entry, .ref h3, w1_textAt, w1_owner, w1_value, w1_variable, .ref h6, w1_on0, w1_on1, w1_parent, w1_sibling, w1_inside, w1_insideElse, w1_behind])), (h2, .inr (4, [.int v2_token, .int v2_tokenAt, .long v2_name, .int v2_fault, .int v2_faultAt, w2_text, .int v2_size, .int v2_next])), (h3, .inl (k3, 40, .inl c3)), (h4, .inl (k4, 40, .inr (.inl c4))), (h5, .inl (k5, 6, .inr (.inl c5))), (h6, .inl (k6, 40, .inl c6)), (h7, .inl (k7, 40, .inl c7))] H → va_D A [(h0, .inr (2, [.ref h2, .ref h1, w0_variables, .int v0_locals, .ref h5, .ref h4, .ref h7])), (h1, .inr (3, [.int v1_isThere, .int v1_globals, .int v1_procedures, .int v1_statements, w1_entry, .ref h3, w1_textAt, w1_owner, w1_value, w1_variable, .ref h6, w1_on0, w1_on1, w1_parent, w1_sibling, w1_inside, w1_insideElse, w1_behind])), (h2, .inr (4, [.int v2_token, .int v2_tokenAt, .long v2_name, .int v2_fault, .int v2_faultAt, w2_text, .int v2_size, .int v2_next])), (h3, .inl (k3, 40, .inl c3)), (h4, .inl (k4, 40, .inr (.inl c4))), (h5, .inl (k5, 6, .inr (.inl c5))), (h6, .inl (k6, 40, .inl c6)), (h7, .inl (k7, 40, .inl c7))] → va_S A s.heap H locs → lv_has ls 2 [(0, .ref h0), (1, .int y1)] → fX2_findCalled_l2 v1_procedures v1_statements c3 c4 c5 c7  n y1 v2_token v2_fault v2_faultAt c6 = some o → G 0 0 H locs (F0 m 2 ls []) := by
    intro  n
    induction n with
    | zero => intro y1 v2_token v2_fault v2_faultAt c6 H locs ls _ _ _ _ hf; cases hf
    | succ n ih => exact B2  _ ih
  refine (hG _ _ _ _ _).mpr ?_
  obtain ⟨H, hH⟩ : ∃ H, H = s.heap := ⟨_, rfl⟩
  have hS : va_S A s.heap H [] := by rw [hH]; exact hS
  rw [← hH] at hP ⊢
  generalize ([] : List Loc) = locs at hS ⊢
  unfold fX2_findCalled at hf
  refine lv_iconst (v := 0) hx hb dX2_findCalled_0 (by decide +kernel) ?_
  refine lv_istore_n (lv' := [(1, .int 0), (0, .ref h0)]) hx hb dX2_findCalled_1 rfl hl (by decide) rfl (fun ls hl => ?_)
  exact (hG _ _ _ _ _).mp (L2 FU 0 v2_token v2_fault v2_faultAt c6 H locs ls (hP.sub [0, 1, 2, 3, 4, 5, 6, 7] rfl) (hD.sub [0, 1, 2, 3, 4, 5, 6, 7] (by decide) rfl) hS (lv_sub hl [1, 0] rfl) hf)
set_option maxHeartbeats 4000000 in
set_option maxRecDepth 100000 in
theorem mX2_findVariable (l : Launch) (dC : Nat → ClassId) (dI : Nat → Nat → Nat) (h0 h1 h2 : Nat) (k2 : ClassId) (sz : Nat) (base : Nat × Nat × Nat) (a0 : Int64) (v0_locals : Int32) (v1_isThere : Int32) (v1_globals : Int32) (v1_procedures : Int32) (v1_statements : Int32) (c2 : Nat → Int64) (w0_scanner : Value) (w0_procedures : Value) (w0_calledName : Value) (w0_calledAt : Value) (w1_entry : Value) (w1_kind : Value) (w1_textAt : Value) (w1_owner : Value) (w1_value : Value) (w1_variable : Value) (w1_callee : Value) (w1_on0 : Value) (w1_on1 : Value) (w1_parent : Value) (w1_sibling : Value) (w1_inside : Value) (w1_insideElse : Value) (w1_behind : Value) (o : Int32 × Unit) (hf : fX2_findVariable a0 v0_locals v1_globals c2 = some o) : Met l yX2_findVariable (.code yX2_findVariable cX2_findVariable 4 (some .int) :: wsL_law) ({ frames := 0, cells := 0, slots := 0, locals := 0 }) (cPre (dC, dI) vwCl [.ref h0, .long a0] sz base [(h0, .inr (2, [w0_scanner, .ref h1, .ref h2, .int v0_locals, w0_procedures, w0_calledName, w0_calledAt])), (h1, .inr (3, [.int v1_isThere, .int v1_globals, .int v1_procedures, .int v1_statements, w1_entry, w1_kind, w1_textAt, w1_owner, w1_value, w1_variable, w1_callee, w1_on0, w1_on1, w1_parent, w1_sibling, w1_inside, w1_insideElse, w1_behind])), (h2, .inl (k2, 5, .inr (.inl c2)))] [(k2, .long)]) (va_Qi (fun r u => r = o.1 ∧ u = o.2) (fun (u : Unit) t => cPost (dC, dI) vwCl (va_A [(h0, .inr (2, [w0_scanner, .ref h1, .ref h2, .int v0_locals, w0_procedures, w0_calledName, w0_calledAt])), (h1, .inr (3, [.int v1_isThere, .int v1_globals, .int v1_procedures, .int v1_statements, w1_entry, w1_kind, w1_textAt, w1_owner, w1_value, w1_variable, w1_callee, w1_on0, w1_on1, w1_parent, w1_sibling, w1_inside, w1_insideElse, w1_behind])), (h2, .inl (k2, 5, .inr (.inl c2)))] sz) [(h0, .inr (2, [w0_scanner, .ref h1, .ref h2, .int v0_locals, w0_procedures, w0_calledName, w0_calledAt])), (h1, .inr (3, [.int v1_isThere, .int v1_globals, .int v1_procedures, .int v1_statements, w1_entry, w1_kind, w1_textAt, w1_owner, w1_value, w1_variable, w1_callee, w1_on0, w1_on1, w1_parent, w1_sibling, w1_inside, w1_insideElse, w1_behind])), (h2, .inl (k2, 5, .inr (.inl c2)))] [(k2, .long)] t) (va_A [(h0, .inr (2, [w0_scanner, .ref h1, .ref h2, .int v0_locals, w0_procedures, w0_calledName, w0_calledAt])), (h1, .inr (3, [.int v1_isThere, .int v1_globals, .int v1_procedures, .int v1_statements, w1_entry, w1_kind, w1_textAt, w1_owner, w1_value, w1_variable, w1_callee, w1_on0, w1_on1, w1_parent, w1_sibling, w1_inside, w1_insideElse, w1_behind])), (h2, .inl (k2, 5, .inr (.inl c2)))] sz)) 0 0 (va_A [(h0, .inr (2, [w0_scanner, .ref h1, .ref h2, .int v0_locals, w0_procedures, w0_calledName, w0_calledAt])), (h1, .inr (3, [.int v1_isThere, .int v1_globals, .int v1_procedures, .int v1_statements, w1_entry, w1_kind, w1_textAt, w1_owner, w1_value, w1_variable, w1_callee, w1_on0, w1_on1, w1_parent, w1_sibling, w1_inside, w1_insideElse, w1_behind])), (h2, .inl (k2, 5, .inr (.inl c2)))] sz) := by
  refine Met.ofW (cc := cX2_findVariable) (maxL := 4) (ret := (some .int)) (by decide) rfl ?_
  intro p e s m args below meth c s₁ B hml hv
  obtain ⟨rfl, hsz, hP, hK, hD0, hE⟩ := hv
  have hx := B.exec
  have hb := B.bytes
  have hr := B.returns
  have hts : ∀ w ∈ wsL_law, _ := fun w h => atoms_spec (ws := .code yX2_findVariable cX2_findVariable 4 (some .int) :: wsL_law) B.pre w (List.mem_cons_of_mem _ h)
  have hown : s.vm.findClass RX2 = some m.cls := findClass_of_methodNamed B.named
  have hlocks := B.notSynchronized
  have w0_ := hts _ q543
  have w1_ := hts _ q68
  have w2_ := hts _ q73
  have w3_ := hts _ q677
  subst hsz
  have hD := hD0.self (sz := s.heap.size)
  generalize hAe : va_A [(h0, .inr (2, [w0_scanner, .ref h1, .ref h2, .int v0_locals, w0_procedures, w0_calledName, w0_calledAt])), (h1, .inr (3, [.int v1_isThere, .int v1_globals, .int v1_procedures, .int v1_statements, w1_entry, w1_kind, w1_textAt, w1_owner, w1_value, w1_variable, w1_callee, w1_on0, w1_on1, w1_parent, w1_sibling, w1_inside, w1_insideElse, w1_behind])), (h2, .inl (k2, 5, .inr (.inl c2)))] s.heap.size = A at hD ⊢
  have hA : ∀ q : Nat, s.heap.size ≤ q → A q := fun q h => by rw [← hAe]; exact Or.inr h
  have hAB : ∀ q : Nat, A q → base.1 ≤ q := fun q h => by rw [← hAe] at h; exact h.elim (fun ⟨k, e, hk⟩ => hD0.2 k _ hk) (fun hk => Nat.le_trans hE.1 hk)
  have hS : va_S A s.heap s.heap [] := va_S.rf
  have hl := lv_entry ([.ref h0, .long a0]) (n := 4) (Nat.le_of_ble_eq_true rfl)
  rw [lg_entry_eq]
  generalize (lg_sl ([.ref h0, .long a0]) ++ List.replicate (4 - (lg_sl ([.ref h0, .long a0])).length) Slot.unset).toArray = ls at hl ⊢
  have hl : lv_has ls 4 [(0, .ref h0), (1, .long a0)] := hl
  have hP : va_P (dC, dI) vwCl [(h0, .inr (2, [w0_scanner, .ref h1, .ref h2, .int v0_locals, w0_procedures, w0_calledName, w0_calledAt])), (h1, .inr (3, [.int v1_isThere, .int v1_globals, .int v1_procedures, .int v1_statements, w1_entry, w1_kind, w1_textAt, w1_owner, w1_value, w1_variable, w1_callee, w1_on0, w1_on1, w1_parent, w1_sibling, w1_inside, w1_insideElse, w1_behind])), (h2, .inl (k2, 5, .inr (.inl c2)))] s.heap := hP
  refine gl_intro (fun G hG => ?_)
  have B34 : ∀ (k34 : Int64 → Int32 → Option (Int32 × Unit)) (hk34 : ∀ (y1 : Int64) (y3 : Int32) (H : Heap) (locs : List Loc) (ls : Array Slot), va_P (dC, dI) vwCl [(h0, .inr (2, [w0_scanner, .ref h1, .ref h2, .int v0_locals, w0_procedures, w0_calledName, w0_calledAt])), (h1, .inr (3, [.int v1_isThere, .int v1_globals, .int v1_procedures, .int v1_statements, w1_entry, w1_kind, w1_textAt, w1_owner, w1_value, w1_variable, w1_callee, w1_on0, w1_on1, w1_parent, w1_sibling, w1_inside, w1_insideElse, w1_behind])), (h2, .inl (k2, 5, .inr (.inl c2)))] H → va_D A [(h0, .inr (2, [w0_scanner, .ref h1, .ref h2, .int v0_locals, w0_procedures, w0_calledName, w0_calledAt])), (h1, .inr (3, [.int v1_isThere, .int v1_globals, .int v1_procedures, .int v1_statements, w1_entry, w1_kind, w1_textAt, w1_owner, w1_value, w1_variable, w1_callee, w1_on0, w1_on1, w1_parent, w1_sibling, w1_inside, w1_insideElse, w1_behind])), (h2, .inl (k2, 5, .inr (.inl c2)))] → va_S A s.heap H locs → lv_has ls 4 [(0, .ref h0), (1, .long y1), (3, .int y3)] → k34 y1 y3 = some o → G 0 0 H locs (F0 m 34 ls [])), ∀ (y1 : Int64) (y3 : Int32) (H : Heap) (locs : List Loc) (ls : Array Slot), va_P (dC, dI) vwCl [(h0, .inr (2, [w0_scanner, .ref h1, .ref h2, .int v0_locals, w0_procedures, w0_calledName, w0_calledAt])), (h1, .inr (3, [.int v1_isThere, .int v1_globals, .int v1_procedures, .int v1_statements, w1_entry, w1_kind, w1_textAt, w1_owner, w1_value, w1_variable, w1_callee, w1_on0, w1_on1, w1_parent, w1_sibling, w1_inside, w1_insideElse, w1_behind])), (h2, .inl (k2, 5, .inr (.inl c2)))] H → va_D A [(h0, .inr (2, [w0_scanner, .ref h1, .ref h2, .int v0_locals, w0_procedures, w0_calledName, w0_calledAt])), (h1, .inr (3, [.int v1_isThere, .int v1_globals, .int v1_procedures, .int v1_statements, w1_entry, w1_kind, w1_textAt, w1_owner, w1_value, w1_variable, w1_callee, w1_on0, w1_on1, w1_parent, w1_sibling, w1_inside, w1_insideElse, w1_behind])), (h2, .inl (k2, 5, .inr (.inl c2)))] → va_S A s.heap H locs → lv_has ls 4 [(0, .ref h0), (1, .long y1), (3, .int y3)] → fX2_findVariable_b34 v0_locals v1_globals c2  k34 y1 y3 = some o → G 0 0 H locs (F0 m 34 ls []) := by
    intro  k34 hk34 y1 y3 H locs ls hP hD hS hl hf
    refine (hG _ _ _ _ _).mpr ?_
    unfold fX2_findVariable_b34 at hf
    refine lv_iload_n hx hb dX2_findVariable_34 rfl (lv_at hl 2 rfl) ?_
    refine lv_iconst (v := 3) hx hb dX2_findVariable_35 (by decide +kernel) ?_
    refine lv_aload_n hx hb dX2_findVariable_36 rfl (lv_at hl 0 rfl) ?_
    refine va_get (D := (dC, dI)) (ci := 2) (v := .int v0_locals) (C := RX2) (T := TX2) (N := 7) hx hb hts inlX2 hown hK hP 0 rfl rfl 3 (by decide) w0_ (fun _ h9 => h9) rfl dX2_findVariable_37 ?_
    refine lv_iadd hx hb dX2_findVariable_40 ?_
    refine lv_topi (fun x1 e1 => ?_)
    replace hf := nm_at hf e1
    refine lv_icmp_ge (tgt := 63) hx hb dX2_findVariable_41 (by decide) (fun q2 => ?_) (fun q2 => ?_)
    · replace hf := if_at hf q2
      refine lv_iconst (v := (-1)) hx hb dX2_findVariable_63 (by decide +kernel) ?_
      have hf1 := Option.some.inj hf
      subst hf1
      have hP9 := hP.sub (ws' := [(h0, .inr (2, [w0_scanner, .ref h1, .ref h2, .int v0_locals, w0_procedures, w0_calledName, w0_calledAt])), (h1, .inr (3, [.int v1_isThere, .int v1_globals, .int v1_procedures, .int v1_statements, w1_entry, w1_kind, w1_textAt, w1_owner, w1_value, w1_variable, w1_callee, w1_on0, w1_on1, w1_parent, w1_sibling, w1_inside, w1_insideElse, w1_behind])), (h2, .inl (k2, 5, .inr (.inl c2)))]) [0, 1, 2] rfl
      have hD9 := hD.sub (ws' := [(h0, .inr (2, [w0_scanner, .ref h1, .ref h2, .int v0_locals, w0_procedures, w0_calledName, w0_calledAt])), (h1, .inr (3, [.int v1_isThere, .int v1_globals, .int v1_procedures, .int v1_statements, w1_entry, w1_kind, w1_textAt, w1_owner, w1_value, w1_variable, w1_callee, w1_on0, w1_on1, w1_parent, w1_sibling, w1_inside, w1_insideElse, w1_behind])), (h2, .inl (k2, 5, .inr (.inl c2)))]) [0, 1, 2] (by decide) rfl
      exact W.iret (v := (-1)) hx hb hr (fun t ht hW => ⟨⟨(-1), (), rfl, ⟨rfl, rfl⟩, by rw [ht]; exact hP9, va_K.moved hW.alike hK, hD9⟩, hS.F ht⟩) hS.2.2 dX2_findVariable_64
    · replace hf := if_no hf q2
      refine lv_aload_n hx hb dX2_findVariable_44 rfl (lv_at hl 0 rfl) ?_
      refine va_get (D := (dC, dI)) (ci := 2) (v := .ref h2) (C := RX2) (T := TX2) (N := 7) hx hb hts inlX2 hown hK hP 0 rfl rfl 2 (by decide) w1_ (fun _ h9 => h9) rfl dX2_findVariable_45 ?_
      refine lv_iload_n hx hb dX2_findVariable_48 rfl (lv_at hl 2 rfl) ?_
      have b3 := bd_in hf
      replace hf := bd_k hf
      refine va_lald hx hb hK hP 2 0 rfl rfl b3 dX2_findVariable_49 ?_
      refine lv_topl (fun x4 e4 => ?_)
      replace hf := nm_at hf e4
      refine lv_lload_n hx hb dX2_findVariable_50 rfl (lv_at hl 1 rfl) ?_
      refine W.lcmp hx hb dX2_findVariable_51 ?_
      refine lv_topi (fun x5 e5 => ?_)
      replace hf := nm_at hf e5
      refine lv_if_ne (tgt := 57) hx hb dX2_findVariable_52 (by decide) (fun q6 => ?_) (fun q6 => ?_)
      · replace hf := if_no hf q6
        obtain ⟨x7, e7⟩ : ∃ y : Int32, y = y3 + 1 := ⟨_, rfl⟩
        replace hf := nm_at hf e7
        refine lv_iinc (v := x7) (lv' := [(3, .int x7), (0, .ref h0), (1, .long y1)]) hx hb dX2_findVariable_57 hl (k := 2) rfl (by rw [e7]; rfl) (by decide) rfl (fun ls hl => ?_)
        refine lv_goto (tgt := 34) hx hb dX2_findVariable_60 (by decide) ?_
        exact (hG _ _ _ _ _).mp (hk34 y1 x7 H locs ls (hP.sub [0, 1, 2] rfl) (hD.sub [0, 1, 2] (by decide) rfl) hS (lv_sub hl [1, 2, 0] rfl) hf)
      · replace hf := if_at hf q6
        refine lv_iload_n hx hb dX2_findVariable_55 rfl (lv_at hl 2 rfl) ?_
        have hf1 := Option.some.inj hf
        subst hf1
        have hP9 := hP.sub (ws' := [(h0, .inr (2, [w0_scanner, .ref h1, .ref h2, .int v0_locals, w0_procedures, w0_calledName, w0_calledAt])), (h1, .inr (3, [.int v1_isThere, .int v1_globals, .int v1_procedures, .int v1_statements, w1_entry, w1_kind, w1_textAt, w1_owner, w1_value, w1_variable, w1_callee, w1_on0, w1_on1, w1_parent, w1_sibling, w1_inside, w1_insideElse, w1_behind])), (h2, .inl (k2, 5, .inr (.inl c2)))]) [0, 1, 2] rfl
        have hD9 := hD.sub (ws' := [(h0, .inr (2, [w0_scanner, .ref h1, .ref h2, .int v0_locals, w0_procedures, w0_calledName, w0_calledAt])), (h1, .inr (3, [.int v1_isThere, .int v1_globals, .int v1_procedures, .int v1_statements, w1_entry, w1_kind, w1_textAt, w1_owner, w1_value, w1_variable, w1_callee, w1_on0, w1_on1, w1_parent, w1_sibling, w1_inside, w1_insideElse, w1_behind])), (h2, .inl (k2, 5, .inr (.inl c2)))]) [0, 1, 2] (by decide) rfl
        exact W.iret (v := y3) hx hb hr (fun t ht hW => ⟨⟨y3, (), rfl, ⟨rfl, rfl⟩, by rw [ht]; exact hP9, va_K.moved hW.alike hK, hD9⟩, hS.F ht⟩) hS.2.2 dX2_findVariable_56
  have L34 : ∀ (n : Nat), ∀ (y1 : Int64) (y3 : Int32) (H : Heap) (locs : List Loc) (ls : Array Slot), va_P (dC, dI) vwCl [(h0, .inr (2, [w0_scanner, .ref h1, .ref h2, .int v0_locals, w0_procedures, w0_calledName, w0_calledAt])), (h1, .inr (3, [.int v1_isThere, .int v1_globals, .int v1_procedures, .int v1_statements, w1_entry, w1_kind, w1_textAt, w1_owner, w1_value, w1_variable, w1_callee, w1_on0, w1_on1, w1_parent, w1_sibling, w1_inside, w1_insideElse, w1_behind])), (h2, .inl (k2, 5, .inr (.inl c2)))] H → va_D A [(h0, .inr (2, [w0_scanner, .ref h1, .ref h2, .int v0_locals, w0_procedures, w0_calledName, w0_calledAt])), (h1, .inr (3, [.int v1_isThere, .int v1_globals, .int v1_procedures, .int v1_statements, w1_entry, w1_kind, w1_textAt, w1_owner, w1_value, w1_variable, w1_callee, w1_on0, w1_on1, w1_parent, w1_sibling, w1_inside, w1_insideElse, w1_behind])), (h2, .inl (k2, 5, .inr (.inl c2)))] → va_S A s.heap H locs → lv_has ls 4 [(0, .ref h0), (1, .long y1), (3, .int y3)] → fX2_findVariable_l34 v0_locals v1_globals c2  n y1 y3 = some o → G 0 0 H locs (F0 m 34 ls []) := by
    intro  n
    induction n with
    | zero => intro y1 y3 H locs ls _ _ _ _ hf; cases hf
    | succ n ih => exact B34  _ ih
  have B2 : ∀ (k2 : Int64 → Int32 → Option (Int32 × Unit)) (hk2 : ∀ (y1 : Int64) (y3 : Int32) (H : Heap) (locs : List Loc) (ls : Array Slot), va_P (dC, dI) vwCl [(h0, .inr (2, [w0_scanner, .ref h1, .ref h2, .int v0_locals, w0_procedures, w0_calledName, w0_calledAt])), (h1, .inr (3, [.int v1_isThere, .int v1_globals, .int v1_procedures, .int v1_statements, w1_entry, w1_kind, w1_textAt, w1_owner, w1_value, w1_variable, w1_callee, w1_on0, w1_on1, w1_parent, w1_sibling, w1_inside, w1_insideElse, w1_behind])), (h2, .inl (k2, 5, .inr (.inl c2)))] H → va_D A [(h0, .inr (2, [w0_scanner, .ref h1, .ref h2, .int v0_locals, w0_procedures, w0_calledName, w0_calledAt])), (h1, .inr (3, [.int v1_isThere, .int v1_globals, .int v1_procedures, .int v1_statements, w1_entry, w1_kind, w1_textAt, w1_owner, w1_value, w1_variable, w1_callee, w1_on0, w1_on1, w1_parent, w1_sibling, w1_inside, w1_insideElse, w1_behind])), (h2, .inl (k2, 5, .inr (.inl c2)))] → va_S A s.heap H locs → lv_has ls 4 [(0, .ref h0), (1, .long y1), (3, .int y3)] → k2 y1 y3 = some o → G 0 0 H locs (F0 m 2 ls [])), ∀ (y1 : Int64) (y3 : Int32) (H : Heap) (locs : List Loc) (ls : Array Slot), va_P (dC, dI) vwCl [(h0, .inr (2, [w0_scanner, .ref h1, .ref h2, .int v0_locals, w0_procedures, w0_calledName, w0_calledAt])), (h1, .inr (3, [.int v1_isThere, .int v1_globals, .int v1_procedures, .int v1_statements, w1_entry, w1_kind, w1_textAt, w1_owner, w1_value, w1_variable, w1_callee, w1_on0, w1_on1, w1_parent, w1_sibling, w1_inside, w1_insideElse, w1_behind])), (h2, .inl (k2, 5, .inr (.inl c2)))] H → va_D A [(h0, .inr (2, [w0_scanner, .ref h1, .ref h2, .int v0_locals, w0_procedures, w0_calledName, w0_calledAt])), (h1, .inr (3, [.int v1_isThere, .int v1_globals, .int v1_procedures, .int v1_statements, w1_entry, w1_kind, w1_textAt, w1_owner, w1_value, w1_variable, w1_callee, w1_on0, w1_on1, w1_parent, w1_sibling, w1_inside, w1_insideElse, w1_behind])), (h2, .inl (k2, 5, .inr (.inl c2)))] → va_S A s.heap H locs → lv_has ls 4 [(0, .ref h0), (1, .long y1), (3, .int y3)] → fX2_findVariable_b2 v0_locals v1_globals c2  k2 y1 y3 = some o → G 0 0 H locs (F0 m 2 ls []) := by
    intro  k2 hk2 y1 y3 H locs ls hP hD hS hl hf
    refine (hG _ _ _ _ _).mpr ?_
    unfold fX2_findVariable_b2 at hf
    refine lv_iload_n hx hb dX2_findVariable_2 rfl (lv_at hl 2 rfl) ?_
    refine lv_aload_n hx hb dX2_findVariable_3 rfl (lv_at hl 0 rfl) ?_
    refine va_get (D := (dC, dI)) (ci := 2) (v := .ref h1) (C := RX2) (T := TX2) (N := 7) hx hb hts inlX2 hown hK hP 0 rfl rfl 1 (by decide) w2_ (fun _ h9 => h9) rfl dX2_findVariable_4 ?_
    refine va_get (D := (dC, dI)) (ci := 3) (v := .int v1_globals) (C := RX3) (T := TX3) (N := 18) hx hb hts inlX3 hown hK hP 1 rfl rfl 1 (by decide) w3_ (fun _ h9 => h9) rfl dX2_findVariable_7 ?_
    refine lv_icmp_ge (tgt := 32) hx hb dX2_findVariable_10 (by decide) (fun q8 => ?_) (fun q8 => ?_)
    · replace hf := if_at hf q8
      refine lv_iconst (v := 3) hx hb dX2_findVariable_32 (by decide +kernel) ?_
      refine lv_istore_n (lv' := [(3, .int 3), (0, .ref h0), (1, .long y1)]) hx hb dX2_findVariable_33 rfl hl (by decide) rfl (fun ls hl => ?_)
      exact (hG _ _ _ _ _).mp (L34 FU y1 3 H locs ls (hP.sub [0, 1, 2] rfl) (hD.sub [0, 1, 2] (by decide) rfl) hS (lv_sub hl [1, 2, 0] rfl) hf)
    · replace hf := if_no hf q8
      refine lv_aload_n hx hb dX2_findVariable_13 rfl (lv_at hl 0 rfl) ?_
      refine va_get (D := (dC, dI)) (ci := 2) (v := .ref h2) (C := RX2) (T := TX2) (N := 7) hx hb hts inlX2 hown hK hP 0 rfl rfl 2 (by decide) w1_ (fun _ h9 => h9) rfl dX2_findVariable_14 ?_
      refine lv_iload_n hx hb dX2_findVariable_17 rfl (lv_at hl 2 rfl) ?_
      have b9 := bd_in hf
      replace hf := bd_k hf
      refine va_lald hx hb hK hP 2 0 rfl rfl b9 dX2_findVariable_18 ?_
      refine lv_topl (fun x10 e10 => ?_)
      replace hf := nm_at hf e10
      refine lv_lload_n hx hb dX2_findVariable_19 rfl (lv_at hl 1 rfl) ?_
      refine W.lcmp hx hb dX2_findVariable_20 ?_
      refine lv_topi (fun x11 e11 => ?_)
      replace hf := nm_at hf e11
      refine lv_if_ne (tgt := 26) hx hb dX2_findVariable_21 (by decide) (fun q12 => ?_) (fun q12 => ?_)
      · replace hf := if_no hf q12
        obtain ⟨x13, e13⟩ : ∃ y : Int32, y = y3 + 1 := ⟨_, rfl⟩
        replace hf := nm_at hf e13
        refine lv_iinc (v := x13) (lv' := [(3, .int x13), (0, .ref h0), (1, .long y1)]) hx hb dX2_findVariable_26 hl (k := 2) rfl (by rw [e13]; rfl) (by decide) rfl (fun ls hl => ?_)
        refine lv_goto (tgt := 2) hx hb dX2_findVariable_29 (by decide) ?_
        exact (hG _ _ _ _ _).mp (hk2 y1 x13 H locs ls (hP.sub [0, 1, 2] rfl) (hD.sub [0, 1, 2] (by decide) rfl) hS (lv_sub hl [1, 2, 0] rfl) hf)
      · replace hf := if_at hf q12
        refine lv_iload_n hx hb dX2_findVariable_24 rfl (lv_at hl 2 rfl) ?_
        have hf1 := Option.some.inj hf
        subst hf1
        have hP9 := hP.sub (ws' := [(h0, .inr (2, [w0_scanner, .ref h1, .ref h2, .int v0_locals, w0_procedures, w0_calledName, w0_calledAt])), (h1, .inr (3, [.int v1_isThere, .int v1_globals, .int v1_procedures, .int v1_statements, w1_entry, w1_kind, w1_textAt, w1_owner, w1_value, w1_variable, w1_callee, w1_on0, w1_on1, w1_parent, w1_sibling, w1_inside, w1_insideElse, w1_behind])), (h2, .inl (k2, 5, .inr (.inl c2)))]) [0, 1, 2] rfl
        have hD9 := hD.sub (ws' := [(h0, .inr (2, [w0_scanner, .ref h1, .ref h2, .int v0_locals, w0_procedures, w0_calledName, w0_calledAt])), (h1, .inr (3, [.int v1_isThere, .int v1_globals, .int v1_procedures, .int v1_statements, w1_entry, w1_kind, w1_textAt, w1_owner, w1_value, w1_variable, w1_callee, w1_on0, w1_on1, w1_parent, w1_sibling, w1_inside, w1_insideElse, w1_behind])), (h2, .inl (k2, 5, .inr (.inl c2)))]) [0, 1, 2] (by decide) rfl
        exact W.iret (v := y3) hx hb hr (fun t ht hW => ⟨⟨y3, (), rfl, ⟨rfl, rfl⟩, by rw [ht]; exact hP9, va_K.moved hW.alike hK, hD9⟩, hS.F ht⟩) hS.2.2 dX2_findVariable_25
  have L2 : ∀ (n : Nat), ∀ (y1 : Int64) (y3 : Int32) (H : Heap) (locs : List Loc) (ls : Array Slot), va_P (dC, dI) vwCl [(h0, .inr (2, [w0_scanner, .ref h1, .ref h2, .int v0_locals, w0_procedures, w0_calledName, w0_calledAt])), (h1, .inr (3, [.int v1_isThere, .int v1_globals, .int v1_procedures, .int v1_statements, w1_entry, w1_kind, w1_textAt, w1_owner, w1_value, w1_variable, w1_callee, w1_on0, w1_on1, w1_parent, w1_sibling, w1_inside, w1_insideElse, w1_behind])), (h2, .inl (k2, 5, .inr (.inl c2)))] H → va_D A [(h0, .inr (2, [w0_scanner, .ref h1, .ref h2, .int v0_locals, w0_procedures, w0_calledName, w0_calledAt])), (h1, .inr (3, [.int v1_isThere, .int v1_globals, .int v1_procedures, .int v1_statements, w1_entry, w1_kind, w1_textAt, w1_owner, w1_value, w1_variable, w1_callee, w1_on0, w1_on1, w1_parent, w1_sibling, w1_inside, w1_insideElse, w1_behind])), (h2, .inl (k2, 5, .inr (.inl c2)))] → va_S A s.heap H locs → lv_has ls 4 [(0, .ref h0), (1, .long y1), (3, .int y3)] → fX2_findVariable_l2 v0_locals v1_globals c2  n y1 y3 = some o → G 0 0 H locs (F0 m 2 ls []) := by
    intro  n
    induction n with
    | zero => intro y1 y3 H locs ls _ _ _ _ hf; cases hf
    | succ n ih => exact B2  _ ih
  refine (hG _ _ _ _ _).mpr ?_
  obtain ⟨H, hH⟩ : ∃ H, H = s.heap := ⟨_, rfl⟩
  have hS : va_S A s.heap H [] := by rw [hH]; exact hS
  rw [← hH] at hP ⊢
  generalize ([] : List Loc) = locs at hS ⊢
  unfold fX2_findVariable at hf
  refine lv_iconst (v := 0) hx hb dX2_findVariable_0 (by decide +kernel) ?_
  refine lv_istore_n (lv' := [(3, .int 0), (0, .ref h0), (1, .long a0)]) hx hb dX2_findVariable_1 rfl hl (by decide) rfl (fun ls hl => ?_)
  exact (hG _ _ _ _ _).mp (L2 FU a0 0 H locs ls (hP.sub [0, 1, 2] rfl) (hD.sub [0, 1, 2] (by decide) rfl) hS (lv_sub hl [1, 2, 0] rfl) hf)
set_option maxHeartbeats 4000000 in
set_option maxRecDepth 100000 in
theorem mX2_readCalled (l : Launch) (dC : Nat → ClassId) (dI : Nat → Nat → Nat) (h0 h1 h2 h3 h4 : Nat) (k2 k3 k4 : ClassId) (sz : Nat) (base : Nat × Nat × Nat) (a0 : Int32) (v0_locals : Int32) (v1_token : Int32) (v1_tokenAt : Int32) (v1_name : Int64) (v1_fault : Int32) (v1_faultAt : Int32) (v1_size : Int32) (v1_next : Int32) (c2 : Nat → Int64) (c3 : Nat → Int32) (c4 : Nat → Int32) (w0_program : Value) (w0_variables : Value) (w0_procedures : Value) (o : Int32 × Int32 × Int64 × Int32 × Int32 × Int32 × (Nat → Int64) × (Nat → Int32)) (hf : fX2_readCalled a0 v1_token v1_tokenAt v1_name v1_fault v1_faultAt v1_size v1_next c2 c3 c4 = some o) : Met l yX2_readCalled (.code yX2_readCalled cX2_readCalled 2 none :: wsL_law) ({ frames := 6, cells := 0, slots := 0, locals := 133 }) (cPre (dC, dI) vwCl [.ref h0, .int a0] sz base [(h0, .inr (2, [.ref h1, w0_program, w0_variables, .int v0_locals, w0_procedures, .ref h2, .ref h3])), (h1, .inr (4, [.int v1_token, .int v1_tokenAt, .long v1_name, .int v1_fault, .int v1_faultAt, .ref h4, .int v1_size, .int v1_next])), (h2, .inl (k2, 40, .inr (.inl c2))), (h3, .inl (k3, 40, .inl c3)), (h4, .inl (k4, 600, .inl c4))] [(k2, .long), (k3, .int), (k4, .byte)]) (va_Qv (fun u => u = o) (fun (u : Int32 × Int32 × Int64 × Int32 × Int32 × Int32 × (Nat → Int64) × (Nat → Int32)) t => cPost (dC, dI) vwCl (va_A [(h0, .inr (2, [.ref h1, w0_program, w0_variables, .int v0_locals, w0_procedures, .ref h2, .ref h3])), (h1, .inr (4, [.int v1_token, .int v1_tokenAt, .long v1_name, .int v1_fault, .int v1_faultAt, .ref h4, .int v1_size, .int v1_next])), (h2, .inl (k2, 40, .inr (.inl c2))), (h3, .inl (k3, 40, .inl c3)), (h4, .inl (k4, 600, .inl c4))] sz) [(h0, .inr (2, [.ref h1, w0_program, w0_variables, .int v0_locals, w0_procedures, .ref h2, .ref h3])), (h1, .inr (4, [.int u.1, .int u.2.1, .long u.2.2.1, .int u.2.2.2.1, .int u.2.2.2.2.1, .ref h4, .int v1_size, .int u.2.2.2.2.2.1])), (h2, .inl (k2, 40, .inr (.inl u.2.2.2.2.2.2.1))), (h3, .inl (k3, 40, .inl u.2.2.2.2.2.2.2)), (h4, .inl (k4, 600, .inl c4))] [(k2, .long), (k3, .int), (k4, .byte)] t) (va_A [(h0, .inr (2, [.ref h1, w0_program, w0_variables, .int v0_locals, w0_procedures, .ref h2, .ref h3])), (h1, .inr (4, [.int v1_token, .int v1_tokenAt, .long v1_name, .int v1_fault, .int v1_faultAt, .ref h4, .int v1_size, .int v1_next])), (h2, .inl (k2, 40, .inr (.inl c2))), (h3, .inl (k3, 40, .inl c3)), (h4, .inl (k4, 600, .inl c4))] sz)) 0 0 (va_A [(h0, .inr (2, [.ref h1, w0_program, w0_variables, .int v0_locals, w0_procedures, .ref h2, .ref h3])), (h1, .inr (4, [.int v1_token, .int v1_tokenAt, .long v1_name, .int v1_fault, .int v1_faultAt, .ref h4, .int v1_size, .int v1_next])), (h2, .inl (k2, 40, .inr (.inl c2))), (h3, .inl (k3, 40, .inl c3)), (h4, .inl (k4, 600, .inl c4))] sz) := by
  refine Met.ofW (cc := cX2_readCalled) (maxL := 2) (ret := none) (by decide) rfl ?_
  intro p e s m args below meth c s₁ B hml hv
  obtain ⟨rfl, hsz, hP, hK, hD0, hE⟩ := hv
  have hx := B.exec
  have hb := B.bytes
  have hr := B.returns
  have hts : ∀ w ∈ wsL_law, _ := fun w h => atoms_spec (ws := .code yX2_readCalled cX2_readCalled 2 none :: wsL_law) B.pre w (List.mem_cons_of_mem _ h)
  have hown : s.vm.findClass RX2 = some m.cls := findClass_of_methodNamed B.named
  have hlocks := B.notSynchronized
  have w0_ := hts _ q70
  have w1_ := hts _ q72
  have w2_ := hts _ q678
  have w3_ := hts _ q71
  have w4_ := hts _ q752
  subst hsz
  have hD := hD0.self (sz := s.heap.size)
  generalize hAe : va_A [(h0, .inr (2, [.ref h1, w0_program, w0_variables, .int v0_locals, w0_procedures, .ref h2, .ref h3])), (h1, .inr (4, [.int v1_token, .int v1_tokenAt, .long v1_name, .int v1_fault, .int v1_faultAt, .ref h4, .int v1_size, .int v1_next])), (h2, .inl (k2, 40, .inr (.inl c2))), (h3, .inl (k3, 40, .inl c3)), (h4, .inl (k4, 600, .inl c4))] s.heap.size = A at hD ⊢
  have hA : ∀ q : Nat, s.heap.size ≤ q → A q := fun q h => by rw [← hAe]; exact Or.inr h
  have hAB : ∀ q : Nat, A q → base.1 ≤ q := fun q h => by rw [← hAe] at h; exact h.elim (fun ⟨k, e, hk⟩ => hD0.2 k _ hk) (fun hk => Nat.le_trans hE.1 hk)
  have hS : va_S A s.heap s.heap [] := va_S.rf
  have hl := lv_entry ([.ref h0, .int a0]) (n := 2) (Nat.le_of_ble_eq_true rfl)
  rw [lg_entry_eq]
  generalize (lg_sl ([.ref h0, .int a0]) ++ List.replicate (2 - (lg_sl ([.ref h0, .int a0])).length) Slot.unset).toArray = ls at hl ⊢
  have hl : lv_has ls 2 [(0, .ref h0), (1, .int a0)] := hl
  have hP : va_P (dC, dI) vwCl [(h0, .inr (2, [.ref h1, w0_program, w0_variables, .int v0_locals, w0_procedures, .ref h2, .ref h3])), (h1, .inr (4, [.int v1_token, .int v1_tokenAt, .long v1_name, .int v1_fault, .int v1_faultAt, .ref h4, .int v1_size, .int v1_next])), (h2, .inl (k2, 40, .inr (.inl c2))), (h3, .inl (k3, 40, .inl c3)), (h4, .inl (k4, 600, .inl c4))] s.heap := hP
  obtain ⟨H, hH⟩ : ∃ H, H = s.heap := ⟨_, rfl⟩
  have hS : va_S A s.heap H [] := by rw [hH]; exact hS
  rw [← hH] at hP ⊢
  generalize ([] : List Loc) = locs at hS ⊢
  unfold fX2_readCalled at hf
  refine lv_aload_n hx hb dX2_readCalled_0 rfl (lv_at hl 0 rfl) ?_
  refine va_get (D := (dC, dI)) (ci := 2) (v := .ref h2) (C := RX2) (T := TX2) (N := 7) hx hb hts inlX2 hown hK hP 0 rfl rfl 5 (by decide) w0_ (fun _ h9 => h9) rfl dX2_readCalled_1 ?_
  refine lv_iload_n hx hb dX2_readCalled_4 rfl (lv_at hl 1 rfl) ?_
  refine lv_aload_n hx hb dX2_readCalled_5 rfl (lv_at hl 0 rfl) ?_
  refine va_get (D := (dC, dI)) (ci := 2) (v := .ref h1) (C := RX2) (T := TX2) (N := 7) hx hb hts inlX2 hown hK hP 0 rfl rfl 0 (by decide) w1_ (fun _ h9 => h9) rfl dX2_readCalled_6 ?_
  refine va_get (D := (dC, dI)) (ci := 4) (v := .long v1_name) (C := RX4) (T := TX4) (N := 8) hx hb hts inlX4 hown hK hP 1 rfl rfl 2 (by decide) w2_ (fun _ h9 => h9) rfl dX2_readCalled_9 ?_
  have b1 := bd_in hf
  replace hf := bd_k hf
  obtain ⟨c1x, e1⟩ : ∃ y, y = vp_updL c2 a0.toNatClampNeg v1_name := ⟨_, rfl⟩
  replace hf := nm_at hf e1
  refine va_last hx hb hK hP hD hS 2 0 rfl rfl b1 dX2_readCalled_12 (fun H locs hP hD hS => ?_)
  have hP : va_P (dC, dI) vwCl [(h0, .inr (2, [.ref h1, w0_program, w0_variables, .int v0_locals, w0_procedures, .ref h2, .ref h3])), (h1, .inr (4, [.int v1_token, .int v1_tokenAt, .long v1_name, .int v1_fault, .int v1_faultAt, .ref h4, .int v1_size, .int v1_next])), (h2, .inl (k2, 40, .inr (.inl c1x))), (h3, .inl (k3, 40, .inl c3)), (h4, .inl (k4, 600, .inl c4))] H := by rw [e1]; exact hP
  have hD : va_D A [(h0, .inr (2, [.ref h1, w0_program, w0_variables, .int v0_locals, w0_procedures, .ref h2, .ref h3])), (h1, .inr (4, [.int v1_token, .int v1_tokenAt, .long v1_name, .int v1_fault, .int v1_faultAt, .ref h4, .int v1_size, .int v1_next])), (h2, .inl (k2, 40, .inr (.inl c1x))), (h3, .inl (k3, 40, .inl c3)), (h4, .inl (k4, 600, .inl c4))] := by rw [e1]; exact hD
  refine lv_aload_n hx hb dX2_readCalled_13 rfl (lv_at hl 0 rfl) ?_
  refine va_get (D := (dC, dI)) (ci := 2) (v := .ref h3) (C := RX2) (T := TX2) (N := 7) hx hb hts inlX2 hown hK hP 0 rfl rfl 6 (by decide) w3_ (fun _ h9 => h9) rfl dX2_readCalled_14 ?_
  refine lv_iload_n hx hb dX2_readCalled_17 rfl (lv_at hl 1 rfl) ?_
  refine lv_aload_n hx hb dX2_readCalled_18 rfl (lv_at hl 0 rfl) ?_
  refine va_get (D := (dC, dI)) (ci := 2) (v := .ref h1) (C := RX2) (T := TX2) (N := 7) hx hb hts inlX2 hown hK hP 0 rfl rfl 0 (by decide) w1_ (fun _ h9 => h9) rfl dX2_readCalled_19 ?_
  refine va_get (D := (dC, dI)) (ci := 4) (v := .int v1_tokenAt) (C := RX4) (T := TX4) (N := 8) hx hb hts inlX4 hown hK hP 1 rfl rfl 1 (by decide) w4_ (fun _ h9 => h9) rfl dX2_readCalled_22 ?_
  have b2 := bd_in hf
  replace hf := bd_k hf
  obtain ⟨c2x, e2⟩ : ∃ y, y = upd c3 a0.toNatClampNeg v1_tokenAt := ⟨_, rfl⟩
  replace hf := nm_at hf e2
  refine va_iast hx hb hK hP hD hS 3 1 rfl rfl b2 dX2_readCalled_25 (fun H locs hP hD hS => ?_)
  have hP : va_P (dC, dI) vwCl [(h0, .inr (2, [.ref h1, w0_program, w0_variables, .int v0_locals, w0_procedures, .ref h2, .ref h3])), (h1, .inr (4, [.int v1_token, .int v1_tokenAt, .long v1_name, .int v1_fault, .int v1_faultAt, .ref h4, .int v1_size, .int v1_next])), (h2, .inl (k2, 40, .inr (.inl c1x))), (h3, .inl (k3, 40, .inl c2x)), (h4, .inl (k4, 600, .inl c4))] H := by rw [e2]; exact hP
  have hD : va_D A [(h0, .inr (2, [.ref h1, w0_program, w0_variables, .int v0_locals, w0_procedures, .ref h2, .ref h3])), (h1, .inr (4, [.int v1_token, .int v1_tokenAt, .long v1_name, .int v1_fault, .int v1_faultAt, .ref h4, .int v1_size, .int v1_next])), (h2, .inl (k2, 40, .inr (.inl c1x))), (h3, .inl (k3, 40, .inl c2x)), (h4, .inl (k4, 600, .inl c4))] := by rw [e2]; exact hD
  refine lv_aload_n hx hb dX2_readCalled_26 rfl (lv_at hl 0 rfl) ?_
  refine va_get (D := (dC, dI)) (ci := 2) (v := .ref h1) (C := RX2) (T := TX2) (N := 7) hx hb hts inlX2 hown hK hP 0 rfl rfl 0 (by decide) w1_ (fun _ h9 => h9) rfl dX2_readCalled_27 ?_
  refine lv_sipush (v := 258) hx hb dX2_readCalled_30 (by decide +kernel) ?_
  obtain ⟨o3, e3, hf⟩ := ob_some hf
  refine kVi (As := [.int 258]) (rest := []) ⟨hx, hb, hml, hown, hts⟩ (mX4_skipToken l dC dI h1 h4 k4 H.size base 258 v1_token v1_tokenAt v1_name v1_fault v1_faultAt v1_size v1_next c4 o3 e3) (cwV 1 hts (gTV q687 q688 q689 q19 q690) rfl rfl rfl (by decide +kernel) ⟨Nat.le_of_ble_eq_true rfl, Nat.le_of_ble_eq_true rfl⟩) hK hP hD hS hA hE hAB [1, 4] [0, 2, 3] [2] (wr := [(h0, .inr (2, [.ref h1, w0_program, w0_variables, .int v0_locals, w0_procedures, .ref h2, .ref h3])), (h2, .inl (k2, 40, .inr (.inl c1x))), (h3, .inl (k3, 40, .inl c2x))]) rfl rfl (by decide) (by decide) (by decide) rfl (ci := 4) (q0 := 0) rfl rfl rfl rfl hl.1 rfl (Nat.le_of_ble_eq_true rfl) dX2_readCalled_33 ⟨Nat.zero_le _, Nat.zero_le _⟩ (fun r3 u3 H locs hw3 hP hD hS => ?_)
  obtain ⟨hw31, hw32⟩ := hw3
  subst hw31 hw32
  have hP : va_P (dC, dI) vwCl [(h0, .inr (2, [.ref h1, w0_program, w0_variables, .int v0_locals, w0_procedures, .ref h2, .ref h3])), (h2, .inl (k2, 40, .inr (.inl c1x))), (h3, .inl (k3, 40, .inl c2x)), (h1, .inr (4, [.int o3.2.1, .int o3.2.2.1, .long o3.2.2.2.1, .int o3.2.2.2.2.1, .int o3.2.2.2.2.2.1, .ref h4, .int v1_size, .int o3.2.2.2.2.2.2])), (h4, .inl (k4, 600, .inl c4))] H := hP
  have hD : va_D A [(h0, .inr (2, [.ref h1, w0_program, w0_variables, .int v0_locals, w0_procedures, .ref h2, .ref h3])), (h2, .inl (k2, 40, .inr (.inl c1x))), (h3, .inl (k3, 40, .inl c2x)), (h1, .inr (4, [.int o3.2.1, .int o3.2.2.1, .long o3.2.2.2.1, .int o3.2.2.2.2.1, .int o3.2.2.2.2.2.1, .ref h4, .int v1_size, .int o3.2.2.2.2.2.2])), (h4, .inl (k4, 600, .inl c4))] := hD
  refine lv_pop hx hb dX2_readCalled_36 rfl ?_
  have hf1 := Option.some.inj hf
  subst hf1
  have hP9 := hP.sub (ws' := [(h0, .inr (2, [.ref h1, w0_program, w0_variables, .int v0_locals, w0_procedures, .ref h2, .ref h3])), (h1, .inr (4, [.int o3.2.1, .int o3.2.2.1, .long o3.2.2.2.1, .int o3.2.2.2.2.1, .int o3.2.2.2.2.2.1, .ref h4, .int v1_size, .int o3.2.2.2.2.2.2])), (h2, .inl (k2, 40, .inr (.inl c1x))), (h3, .inl (k3, 40, .inl c2x)), (h4, .inl (k4, 600, .inl c4))]) [0, 3, 1, 2, 4] rfl
  have hD9 := hD.sub (ws' := [(h0, .inr (2, [.ref h1, w0_program, w0_variables, .int v0_locals, w0_procedures, .ref h2, .ref h3])), (h1, .inr (4, [.int o3.2.1, .int o3.2.2.1, .long o3.2.2.2.1, .int o3.2.2.2.2.1, .int o3.2.2.2.2.2.1, .ref h4, .int v1_size, .int o3.2.2.2.2.2.2])), (h2, .inl (k2, 40, .inr (.inl c1x))), (h3, .inl (k3, 40, .inl c2x)), (h4, .inl (k4, 600, .inl c4))]) [0, 3, 1, 2, 4] (by decide) rfl
  exact W.vret hx hb hr (fun t ht hW => ⟨⟨(o3.2.1, o3.2.2.1, o3.2.2.2.1, o3.2.2.2.2.1, o3.2.2.2.2.2.1, o3.2.2.2.2.2.2, c1x, c2x), rfl, rfl, by rw [ht]; exact hP9, va_K.moved hW.alike hK, hD9⟩, hS.F ht⟩) hS.2.2 dX2_readCalled_37
set_option maxHeartbeats 4000000 in
set_option maxRecDepth 100000 in
theorem mX2_readOpenBrace (l : Launch) (dC : Nat → ClassId) (dI : Nat → Nat → Nat) (h0 h1 h2 : Nat) (k2 : ClassId) (sz : Nat) (base : Nat × Nat × Nat) (a0 : Int32) (v0_locals : Int32) (v1_token : Int32) (v1_tokenAt : Int32) (v1_name : Int64) (v1_fault : Int32) (v1_faultAt : Int32) (v1_size : Int32) (v1_next : Int32) (c2 : Nat → Int32) (w0_program : Value) (w0_variables : Value) (w0_procedures : Value) (w0_calledName : Value) (w0_calledAt : Value) (o : Int32 × Int32 × Int64 × Int32 × Int32 × Int32) (hf : fX2_readOpenBrace a0 v1_token v1_tokenAt v1_name v1_fault v1_faultAt v1_size v1_next c2 = some o) : Met l yX2_readOpenBrace (.code yX2_readOpenBrace cX2_readOpenBrace 2 none :: wsL_law) ({ frames := 6, cells := 0, slots := 0, locals := 133 }) (cPre (dC, dI) vwCl [.ref h0, .int a0] sz base [(h0, .inr (2, [.ref h1, w0_program, w0_variables, .int v0_locals, w0_procedures, w0_calledName, w0_calledAt])), (h1, .inr (4, [.int v1_token, .int v1_tokenAt, .long v1_name, .int v1_fault, .int v1_faultAt, .ref h2, .int v1_size, .int v1_next])), (h2, .inl (k2, 600, .inl c2))] [(k2, .byte)]) (va_Qv (fun u => u = o) (fun (u : Int32 × Int32 × Int64 × Int32 × Int32 × Int32) t => cPost (dC, dI) vwCl (va_A [(h0, .inr (2, [.ref h1, w0_program, w0_variables, .int v0_locals, w0_procedures, w0_calledName, w0_calledAt])), (h1, .inr (4, [.int v1_token, .int v1_tokenAt, .long v1_name, .int v1_fault, .int v1_faultAt, .ref h2, .int v1_size, .int v1_next])), (h2, .inl (k2, 600, .inl c2))] sz) [(h0, .inr (2, [.ref h1, w0_program, w0_variables, .int v0_locals, w0_procedures, w0_calledName, w0_calledAt])), (h1, .inr (4, [.int u.1, .int u.2.1, .long u.2.2.1, .int u.2.2.2.1, .int u.2.2.2.2.1, .ref h2, .int v1_size, .int u.2.2.2.2.2])), (h2, .inl (k2, 600, .inl c2))] [(k2, .byte)] t) (va_A [(h0, .inr (2, [.ref h1, w0_program, w0_variables, .int v0_locals, w0_procedures, w0_calledName, w0_calledAt])), (h1, .inr (4, [.int v1_token, .int v1_tokenAt, .long v1_name, .int v1_fault, .int v1_faultAt, .ref h2, .int v1_size, .int v1_next])), (h2, .inl (k2, 600, .inl c2))] sz)) 0 0 (va_A [(h0, .inr (2, [.ref h1, w0_program, w0_variables, .int v0_locals, w0_procedures, w0_calledName, w0_calledAt])), (h1, .inr (4, [.int v1_token, .int v1_tokenAt, .long v1_name, .int v1_fault, .int v1_faultAt, .ref h2, .int v1_size, .int v1_next])), (h2, .inl (k2, 600, .inl c2))] sz) := by
  refine Met.ofW (cc := cX2_readOpenBrace) (maxL := 2) (ret := none) (by decide) rfl ?_
  intro p e s m args below meth c s₁ B hml hv
  obtain ⟨rfl, hsz, hP, hK, hD0, hE⟩ := hv
  have hx := B.exec
  have hb := B.bytes
  have hr := B.returns
  have hts : ∀ w ∈ wsL_law, _ := fun w h => atoms_spec (ws := .code yX2_readOpenBrace cX2_readOpenBrace 2 none :: wsL_law) B.pre w (List.mem_cons_of_mem _ h)
  have hown : s.vm.findClass RX2 = some m.cls := findClass_of_methodNamed B.named
  have hlocks := B.notSynchronized
  have w0_ := hts _ q72
  have w1_ := hts _ q544
  subst hsz
  have hD := hD0.self (sz := s.heap.size)
  generalize hAe : va_A [(h0, .inr (2, [.ref h1, w0_program, w0_variables, .int v0_locals, w0_procedures, w0_calledName, w0_calledAt])), (h1, .inr (4, [.int v1_token, .int v1_tokenAt, .long v1_name, .int v1_fault, .int v1_faultAt, .ref h2, .int v1_size, .int v1_next])), (h2, .inl (k2, 600, .inl c2))] s.heap.size = A at hD ⊢
  have hA : ∀ q : Nat, s.heap.size ≤ q → A q := fun q h => by rw [← hAe]; exact Or.inr h
  have hAB : ∀ q : Nat, A q → base.1 ≤ q := fun q h => by rw [← hAe] at h; exact h.elim (fun ⟨k, e, hk⟩ => hD0.2 k _ hk) (fun hk => Nat.le_trans hE.1 hk)
  have hS : va_S A s.heap s.heap [] := va_S.rf
  have hl := lv_entry ([.ref h0, .int a0]) (n := 2) (Nat.le_of_ble_eq_true rfl)
  rw [lg_entry_eq]
  generalize (lg_sl ([.ref h0, .int a0]) ++ List.replicate (2 - (lg_sl ([.ref h0, .int a0])).length) Slot.unset).toArray = ls at hl ⊢
  have hl : lv_has ls 2 [(0, .ref h0), (1, .int a0)] := hl
  have hP : va_P (dC, dI) vwCl [(h0, .inr (2, [.ref h1, w0_program, w0_variables, .int v0_locals, w0_procedures, w0_calledName, w0_calledAt])), (h1, .inr (4, [.int v1_token, .int v1_tokenAt, .long v1_name, .int v1_fault, .int v1_faultAt, .ref h2, .int v1_size, .int v1_next])), (h2, .inl (k2, 600, .inl c2))] s.heap := hP
  refine gl_intro (fun G hG => ?_)
  have J27 : ∀ (v1_token : Int32) (v1_tokenAt : Int32) (v1_name : Int64) (v1_fault : Int32) (v1_faultAt : Int32) (v1_next : Int32) (H : Heap) (locs : List Loc) (ls : Array Slot), va_P (dC, dI) vwCl [(h0, .inr (2, [.ref h1, w0_program, w0_variables, .int v0_locals, w0_procedures, w0_calledName, w0_calledAt])), (h1, .inr (4, [.int v1_token, .int v1_tokenAt, .long v1_name, .int v1_fault, .int v1_faultAt, .ref h2, .int v1_size, .int v1_next])), (h2, .inl (k2, 600, .inl c2))] H → va_D A [(h0, .inr (2, [.ref h1, w0_program, w0_variables, .int v0_locals, w0_procedures, w0_calledName, w0_calledAt])), (h1, .inr (4, [.int v1_token, .int v1_tokenAt, .long v1_name, .int v1_fault, .int v1_faultAt, .ref h2, .int v1_size, .int v1_next])), (h2, .inl (k2, 600, .inl c2))] → va_S A s.heap H locs → lv_has ls 2 [(0, .ref h0)] → fX2_readOpenBrace_p27 v1_size c2  v1_token v1_tokenAt v1_name v1_fault v1_faultAt v1_next = some o → G 0 0 H locs (F0 m 27 ls []) := by
    intro  v1_token v1_tokenAt v1_name v1_fault v1_faultAt v1_next H locs ls hP hD hS hl hf
    refine (hG _ _ _ _ _).mpr ?_
    unfold fX2_readOpenBrace_p27 at hf
    refine lv_aload_n hx hb dX2_readOpenBrace_27 rfl (lv_at hl 0 rfl) ?_
    refine va_get (D := (dC, dI)) (ci := 2) (v := .ref h1) (C := RX2) (T := TX2) (N := 7) hx hb hts inlX2 hown hK hP 0 rfl rfl 0 (by decide) w0_ (fun _ h9 => h9) rfl dX2_readOpenBrace_28 ?_
    refine lv_bipush (v := 123) hx hb dX2_readOpenBrace_31 (by decide +kernel) ?_
    obtain ⟨o1, e1, hf⟩ := ob_some hf
    refine kVi (As := [.int 123]) (rest := []) ⟨hx, hb, hml, hown, hts⟩ (mX4_skipToken l dC dI h1 h2 k2 H.size base 123 v1_token v1_tokenAt v1_name v1_fault v1_faultAt v1_size v1_next c2 o1 e1) (cwV 1 hts (gTV q687 q688 q689 q19 q690) rfl rfl rfl (by decide +kernel) ⟨Nat.le_of_ble_eq_true rfl, Nat.le_of_ble_eq_true rfl⟩) hK hP hD hS hA hE hAB [1, 2] [0] [0] (wr := [(h0, .inr (2, [.ref h1, w0_program, w0_variables, .int v0_locals, w0_procedures, w0_calledName, w0_calledAt]))]) rfl rfl (by decide) (by decide) (by decide) rfl (ci := 4) (q0 := 0) rfl rfl rfl rfl hl.1 rfl (Nat.le_of_ble_eq_true rfl) dX2_readOpenBrace_33 ⟨Nat.zero_le _, Nat.zero_le _⟩ (fun r1 u1 H locs hw1 hP hD hS => ?_)
    obtain ⟨hw11, hw12⟩ := hw1
    subst hw11 hw12
    have hP : va_P (dC, dI) vwCl [(h0, .inr (2, [.ref h1, w0_program, w0_variables, .int v0_locals, w0_procedures, w0_calledName, w0_calledAt])), (h1, .inr (4, [.int o1.2.1, .int o1.2.2.1, .long o1.2.2.2.1, .int o1.2.2.2.2.1, .int o1.2.2.2.2.2.1, .ref h2, .int v1_size, .int o1.2.2.2.2.2.2])), (h2, .inl (k2, 600, .inl c2))] H := hP
    have hD : va_D A [(h0, .inr (2, [.ref h1, w0_program, w0_variables, .int v0_locals, w0_procedures, w0_calledName, w0_calledAt])), (h1, .inr (4, [.int o1.2.1, .int o1.2.2.1, .long o1.2.2.2.1, .int o1.2.2.2.2.1, .int o1.2.2.2.2.2.1, .ref h2, .int v1_size, .int o1.2.2.2.2.2.2])), (h2, .inl (k2, 600, .inl c2))] := hD
    refine lv_pop hx hb dX2_readOpenBrace_36 rfl ?_
    have hf1 := Option.some.inj hf
    subst hf1
    have hP9 := hP.sub (ws' := [(h0, .inr (2, [.ref h1, w0_program, w0_variables, .int v0_locals, w0_procedures, w0_calledName, w0_calledAt])), (h1, .inr (4, [.int o1.2.1, .int o1.2.2.1, .long o1.2.2.2.1, .int o1.2.2.2.2.1, .int o1.2.2.2.2.2.1, .ref h2, .int v1_size, .int o1.2.2.2.2.2.2])), (h2, .inl (k2, 600, .inl c2))]) [0, 1, 2] rfl
    have hD9 := hD.sub (ws' := [(h0, .inr (2, [.ref h1, w0_program, w0_variables, .int v0_locals, w0_procedures, w0_calledName, w0_calledAt])), (h1, .inr (4, [.int o1.2.1, .int o1.2.2.1, .long o1.2.2.2.1, .int o1.2.2.2.2.1, .int o1.2.2.2.2.2.1, .ref h2, .int v1_size, .int o1.2.2.2.2.2.2])), (h2, .inl (k2, 600, .inl c2))]) [0, 1, 2] (by decide) rfl
    exact W.vret hx hb hr (fun t ht hW => ⟨⟨(o1.2.1, o1.2.2.1, o1.2.2.2.1, o1.2.2.2.2.1, o1.2.2.2.2.2.1, o1.2.2.2.2.2.2), rfl, rfl, by rw [ht]; exact hP9, va_K.moved hW.alike hK, hD9⟩, hS.F ht⟩) hS.2.2 dX2_readOpenBrace_37
  refine (hG _ _ _ _ _).mpr ?_
  obtain ⟨H, hH⟩ : ∃ H, H = s.heap := ⟨_, rfl⟩
  have hS : va_S A s.heap H [] := by rw [hH]; exact hS
  rw [← hH] at hP ⊢
  generalize ([] : List Loc) = locs at hS ⊢
  unfold fX2_readOpenBrace at hf
  refine lv_aload_n hx hb dX2_readOpenBrace_0 rfl (lv_at hl 0 rfl) ?_
  refine va_get (D := (dC, dI)) (ci := 2) (v := .ref h1) (C := RX2) (T := TX2) (N := 7) hx hb hts inlX2 hown hK hP 0 rfl rfl 0 (by decide) w0_ (fun _ h9 => h9) rfl dX2_readOpenBrace_1 ?_
  refine va_get (D := (dC, dI)) (ci := 4) (v := .int v1_token) (C := RX4) (T := TX4) (N := 8) hx hb hts inlX4 hown hK hP 1 rfl rfl 0 (by decide) w1_ (fun _ h9 => h9) rfl dX2_readOpenBrace_4 ?_
  refine lv_bipush (v := 123) hx hb dX2_readOpenBrace_7 (by decide +kernel) ?_
  refine lv_icmp_ne (tgt := 27) hx hb dX2_readOpenBrace_9 (by decide) (fun q2 => ?_) (fun q2 => ?_)
  · replace hf := if_no hf q2
    exact (hG _ _ _ _ _).mp (J27 v1_token v1_tokenAt v1_name v1_fault v1_faultAt v1_next H locs ls (hP.sub [0, 1, 2] rfl) (hD.sub [0, 1, 2] (by decide) rfl) hS (lv_sub hl [0] rfl) hf)
  · replace hf := if_at hf q2
    refine lv_iload_n hx hb dX2_readOpenBrace_12 rfl (lv_at hl 1 rfl) ?_
    refine lv_bipush (v := 10) hx hb dX2_readOpenBrace_13 (by decide +kernel) ?_
    refine lv_icmp_lt (tgt := 27) hx hb dX2_readOpenBrace_15 (by decide) (fun q3 => ?_) (fun q3 => ?_)
    · replace hf := if_at hf q3
      exact (hG _ _ _ _ _).mp (J27 v1_token v1_tokenAt v1_name v1_fault v1_faultAt v1_next H locs ls (hP.sub [0, 1, 2] rfl) (hD.sub [0, 1, 2] (by decide) rfl) hS (lv_sub hl [0] rfl) hf)
    · replace hf := if_no hf q3
      refine lv_aload_n hx hb dX2_readOpenBrace_18 rfl (lv_at hl 0 rfl) ?_
      refine va_get (D := (dC, dI)) (ci := 2) (v := .ref h1) (C := RX2) (T := TX2) (N := 7) hx hb hts inlX2 hown hK hP 0 rfl rfl 0 (by decide) w0_ (fun _ h9 => h9) rfl dX2_readOpenBrace_19 ?_
      refine lv_iconst (v := 3) hx hb dX2_readOpenBrace_22 (by decide +kernel) ?_
      obtain ⟨o4, e4, hf⟩ := ob_some hf
      refine kVv (As := [.int 3]) (rest := []) ⟨hx, hb, hml, hown, hts⟩ (mX4_failHere l dC dI h1 H.size base 3 v1_token v1_tokenAt v1_name v1_fault v1_faultAt v1_size v1_next (.ref h2) o4 e4) (cwV 1 hts (gTV q679 q680 q681 q19 q682) rfl rfl rfl (by decide +kernel) ⟨Nat.le_of_ble_eq_true rfl, Nat.le_of_ble_eq_true rfl⟩) hK hP hD hS hA hE hAB [1] [0, 2] [] (wr := [(h0, .inr (2, [.ref h1, w0_program, w0_variables, .int v0_locals, w0_procedures, w0_calledName, w0_calledAt])), (h2, .inl (k2, 600, .inl c2))]) rfl rfl (by decide) (by decide) (by decide) rfl (ci := 4) (q0 := 0) rfl rfl rfl rfl hl.1 rfl (Nat.le_of_ble_eq_true rfl) dX2_readOpenBrace_23 ⟨Nat.zero_le _, Nat.zero_le _⟩ (fun u4 H locs hw4 hP hD hS => ?_)
      have hw41 : o4 = u4 := Eq.symm hw4
      subst hw41
      have hP : va_P (dC, dI) vwCl [(h0, .inr (2, [.ref h1, w0_program, w0_variables, .int v0_locals, w0_procedures, w0_calledName, w0_calledAt])), (h2, .inl (k2, 600, .inl c2)), (h1, .inr (4, [.int o4.1, .int v1_tokenAt, .long v1_name, .int o4.2.1, .int o4.2.2, .ref h2, .int v1_size, .int v1_next]))] H := hP
      have hD : va_D A [(h0, .inr (2, [.ref h1, w0_program, w0_variables, .int v0_locals, w0_procedures, w0_calledName, w0_calledAt])), (h2, .inl (k2, 600, .inl c2)), (h1, .inr (4, [.int o4.1, .int v1_tokenAt, .long v1_name, .int o4.2.1, .int o4.2.2, .ref h2, .int v1_size, .int v1_next]))] := hD
      have hf1 := Option.some.inj hf
      subst hf1
      have hP9 := hP.sub (ws' := [(h0, .inr (2, [.ref h1, w0_program, w0_variables, .int v0_locals, w0_procedures, w0_calledName, w0_calledAt])), (h1, .inr (4, [.int o4.1, .int v1_tokenAt, .long v1_name, .int o4.2.1, .int o4.2.2, .ref h2, .int v1_size, .int v1_next])), (h2, .inl (k2, 600, .inl c2))]) [0, 2, 1] rfl
      have hD9 := hD.sub (ws' := [(h0, .inr (2, [.ref h1, w0_program, w0_variables, .int v0_locals, w0_procedures, w0_calledName, w0_calledAt])), (h1, .inr (4, [.int o4.1, .int v1_tokenAt, .long v1_name, .int o4.2.1, .int o4.2.2, .ref h2, .int v1_size, .int v1_next])), (h2, .inl (k2, 600, .inl c2))]) [0, 2, 1] (by decide) rfl
      exact W.vret hx hb hr (fun t ht hW => ⟨⟨(o4.1, v1_tokenAt, v1_name, o4.2.1, o4.2.2, v1_next), rfl, rfl, by rw [ht]; exact hP9, va_K.moved hW.alike hK, hD9⟩, hS.F ht⟩) hS.2.2 dX2_readOpenBrace_26
set_option maxHeartbeats 4000000 in
set_option maxRecDepth 100000 in
theorem mX2_readVariable (l : Launch) (dC : Nat → ClassId) (dI : Nat → Nat → Nat) (h0 h1 h2 h3 h4 : Nat) (k3 k4 : ClassId) (sz : Nat) (base : Nat × Nat × Nat) (a0 : Int32) (v0_locals : Int32) (v1_token : Int32) (v1_tokenAt : Int32) (v1_name : Int64) (v1_fault : Int32) (v1_faultAt : Int32) (v1_size : Int32) (v1_next : Int32) (v2_isThere : Int32) (v2_globals : Int32) (v2_procedures : Int32) (v2_statements : Int32) (c3 : Nat → Int64) (c4 : Nat → Int32) (w0_procedures : Value) (w0_calledName : Value) (w0_calledAt : Value) (w2_entry : Value) (w2_kind : Value) (w2_textAt : Value) (w2_owner : Value) (w2_value : Value) (w2_variable : Value) (w2_callee : Value) (w2_on0 : Value) (w2_on1 : Value) (w2_parent : Value) (w2_sibling : Value) (w2_inside : Value) (w2_insideElse : Value) (w2_behind : Value) (o : Int32 × Int32 × Int32 × Int64 × Int32 × Int32 × Int32 × Int32 × (Nat → Int64)) (hf : fX2_readVariable a0 v0_locals v1_token v1_tokenAt v1_name v1_fault v1_faultAt v1_size v1_next v2_globals c3 c4 = some o) : Met l yX2_readVariable (.code yX2_readVariable cX2_readVariable 3 none :: wsL_law) ({ frames := 5, cells := 0, slots := 0, locals := 112 }) (cPre (dC, dI) vwCl [.ref h0, .int a0] sz base [(h0, .inr (2, [.ref h1, .ref h2, .ref h3, .int v0_locals, w0_procedures, w0_calledName, w0_calledAt])), (h1, .inr (4, [.int v1_token, .int v1_tokenAt, .long v1_name, .int v1_fault, .int v1_faultAt, .ref h4, .int v1_size, .int v1_next])), (h2, .inr (3, [.int v2_isThere, .int v2_globals, .int v2_procedures, .int v2_statements, w2_entry, w2_kind, w2_textAt, w2_owner, w2_value, w2_variable, w2_callee, w2_on0, w2_on1, w2_parent, w2_sibling, w2_inside, w2_insideElse, w2_behind])), (h3, .inl (k3, 5, .inr (.inl c3))), (h4, .inl (k4, 600, .inl c4))] [(k3, .long), (k4, .byte)]) (va_Qv (fun u => u = o) (fun (u : Int32 × Int32 × Int32 × Int64 × Int32 × Int32 × Int32 × Int32 × (Nat → Int64)) t => cPost (dC, dI) vwCl (va_A [(h0, .inr (2, [.ref h1, .ref h2, .ref h3, .int v0_locals, w0_procedures, w0_calledName, w0_calledAt])), (h1, .inr (4, [.int v1_token, .int v1_tokenAt, .long v1_name, .int v1_fault, .int v1_faultAt, .ref h4, .int v1_size, .int v1_next])), (h2, .inr (3, [.int v2_isThere, .int v2_globals, .int v2_procedures, .int v2_statements, w2_entry, w2_kind, w2_textAt, w2_owner, w2_value, w2_variable, w2_callee, w2_on0, w2_on1, w2_parent, w2_sibling, w2_inside, w2_insideElse, w2_behind])), (h3, .inl (k3, 5, .inr (.inl c3))), (h4, .inl (k4, 600, .inl c4))] sz) [(h0, .inr (2, [.ref h1, .ref h2, .ref h3, .int u.1, w0_procedures, w0_calledName, w0_calledAt])), (h1, .inr (4, [.int u.2.1, .int u.2.2.1, .long u.2.2.2.1, .int u.2.2.2.2.1, .int u.2.2.2.2.2.1, .ref h4, .int v1_size, .int u.2.2.2.2.2.2.1])), (h2, .inr (3, [.int v2_isThere, .int u.2.2.2.2.2.2.2.1, .int v2_procedures, .int v2_statements, w2_entry, w2_kind, w2_textAt, w2_owner, w2_value, w2_variable, w2_callee, w2_on0, w2_on1, w2_parent, w2_sibling, w2_inside, w2_insideElse, w2_behind])), (h3, .inl (k3, 5, .inr (.inl u.2.2.2.2.2.2.2.2))), (h4, .inl (k4, 600, .inl c4))] [(k3, .long), (k4, .byte)] t) (va_A [(h0, .inr (2, [.ref h1, .ref h2, .ref h3, .int v0_locals, w0_procedures, w0_calledName, w0_calledAt])), (h1, .inr (4, [.int v1_token, .int v1_tokenAt, .long v1_name, .int v1_fault, .int v1_faultAt, .ref h4, .int v1_size, .int v1_next])), (h2, .inr (3, [.int v2_isThere, .int v2_globals, .int v2_procedures, .int v2_statements, w2_entry, w2_kind, w2_textAt, w2_owner, w2_value, w2_variable, w2_callee, w2_on0, w2_on1, w2_parent, w2_sibling, w2_inside, w2_insideElse, w2_behind])), (h3, .inl (k3, 5, .inr (.inl c3))), (h4, .inl (k4, 600, .inl c4))] sz)) 0 0 (va_A [(h0, .inr (2, [.ref h1, .ref h2, .ref h3, .int v0_locals, w0_procedures, w0_calledName, w0_calledAt])), (h1, .inr (4, [.int v1_token, .int v1_tokenAt, .long v1_name, .int v1_fault, .int v1_faultAt, .ref h4, .int v1_size, .int v1_next])), (h2, .inr (3, [.int v2_isThere, .int v2_globals, .int v2_procedures, .int v2_statements, w2_entry, w2_kind, w2_textAt, w2_owner, w2_value, w2_variable, w2_callee, w2_on0, w2_on1, w2_parent, w2_sibling, w2_inside, w2_insideElse, w2_behind])), (h3, .inl (k3, 5, .inr (.inl c3))), (h4, .inl (k4, 600, .inl c4))] sz) := by
  refine Met.ofW (cc := cX2_readVariable) (maxL := 3) (ret := none) (by decide) rfl ?_
  intro p e s m args below meth c s₁ B hml hv
  obtain ⟨rfl, hsz, hP, hK, hD0, hE⟩ := hv
  have hx := B.exec
  have hb := B.bytes
  have hr := B.returns
  have hts : ∀ w ∈ wsL_law, _ := fun w h => atoms_spec (ws := .code yX2_readVariable cX2_readVariable 3 none :: wsL_law) B.pre w (List.mem_cons_of_mem _ h)
  have hown : s.vm.findClass RX2 = some m.cls := findClass_of_methodNamed B.named
  have hlocks := B.notSynchronized
  have w0_ := hts _ q72
  have w1_ := hts _ q678
  have w2_ := hts _ q68
  have w3_ := hts _ q73
  have w4_ := hts _ q677
  have w5_ := hts _ q543
  have w6_ := hts _ q544
  subst hsz
  have hD := hD0.self (sz := s.heap.size)
  generalize hAe : va_A [(h0, .inr (2, [.ref h1, .ref h2, .ref h3, .int v0_locals, w0_procedures, w0_calledName, w0_calledAt])), (h1, .inr (4, [.int v1_token, .int v1_tokenAt, .long v1_name, .int v1_fault, .int v1_faultAt, .ref h4, .int v1_size, .int v1_next])), (h2, .inr (3, [.int v2_isThere, .int v2_globals, .int v2_procedures, .int v2_statements, w2_entry, w2_kind, w2_textAt, w2_owner, w2_value, w2_variable, w2_callee, w2_on0, w2_on1, w2_parent, w2_sibling, w2_inside, w2_insideElse, w2_behind])), (h3, .inl (k3, 5, .inr (.inl c3))), (h4, .inl (k4, 600, .inl c4))] s.heap.size = A at hD ⊢
  have hA : ∀ q : Nat, s.heap.size ≤ q → A q := fun q h => by rw [← hAe]; exact Or.inr h
  have hAB : ∀ q : Nat, A q → base.1 ≤ q := fun q h => by rw [← hAe] at h; exact h.elim (fun ⟨k, e, hk⟩ => hD0.2 k _ hk) (fun hk => Nat.le_trans hE.1 hk)
  have hS : va_S A s.heap s.heap [] := va_S.rf
  have hl := lv_entry ([.ref h0, .int a0]) (n := 3) (Nat.le_of_ble_eq_true rfl)
  rw [lg_entry_eq]
  generalize (lg_sl ([.ref h0, .int a0]) ++ List.replicate (3 - (lg_sl ([.ref h0, .int a0])).length) Slot.unset).toArray = ls at hl ⊢
  have hl : lv_has ls 3 [(0, .ref h0), (1, .int a0)] := hl
  have hP : va_P (dC, dI) vwCl [(h0, .inr (2, [.ref h1, .ref h2, .ref h3, .int v0_locals, w0_procedures, w0_calledName, w0_calledAt])), (h1, .inr (4, [.int v1_token, .int v1_tokenAt, .long v1_name, .int v1_fault, .int v1_faultAt, .ref h4, .int v1_size, .int v1_next])), (h2, .inr (3, [.int v2_isThere, .int v2_globals, .int v2_procedures, .int v2_statements, w2_entry, w2_kind, w2_textAt, w2_owner, w2_value, w2_variable, w2_callee, w2_on0, w2_on1, w2_parent, w2_sibling, w2_inside, w2_insideElse, w2_behind])), (h3, .inl (k3, 5, .inr (.inl c3))), (h4, .inl (k4, 600, .inl c4))] s.heap := hP
  refine gl_intro (fun G hG => ?_)
  have J78 : ∀ (v0_locals : Int32) (v1_token : Int32) (v1_tokenAt : Int32) (v1_name : Int64) (v1_fault : Int32) (v1_faultAt : Int32) (v1_next : Int32) (v2_globals : Int32) (c3 : (Nat → Int64)) (H : Heap) (locs : List Loc) (ls : Array Slot), va_P (dC, dI) vwCl [(h0, .inr (2, [.ref h1, .ref h2, .ref h3, .int v0_locals, w0_procedures, w0_calledName, w0_calledAt])), (h1, .inr (4, [.int v1_token, .int v1_tokenAt, .long v1_name, .int v1_fault, .int v1_faultAt, .ref h4, .int v1_size, .int v1_next])), (h2, .inr (3, [.int v2_isThere, .int v2_globals, .int v2_procedures, .int v2_statements, w2_entry, w2_kind, w2_textAt, w2_owner, w2_value, w2_variable, w2_callee, w2_on0, w2_on1, w2_parent, w2_sibling, w2_inside, w2_insideElse, w2_behind])), (h3, .inl (k3, 5, .inr (.inl c3))), (h4, .inl (k4, 600, .inl c4))] H → va_D A [(h0, .inr (2, [.ref h1, .ref h2, .ref h3, .int v0_locals, w0_procedures, w0_calledName, w0_calledAt])), (h1, .inr (4, [.int v1_token, .int v1_tokenAt, .long v1_name, .int v1_fault, .int v1_faultAt, .ref h4, .int v1_size, .int v1_next])), (h2, .inr (3, [.int v2_isThere, .int v2_globals, .int v2_procedures, .int v2_statements, w2_entry, w2_kind, w2_textAt, w2_owner, w2_value, w2_variable, w2_callee, w2_on0, w2_on1, w2_parent, w2_sibling, w2_inside, w2_insideElse, w2_behind])), (h3, .inl (k3, 5, .inr (.inl c3))), (h4, .inl (k4, 600, .inl c4))] → va_S A s.heap H locs → lv_has ls 3 [(0, .ref h0)] → fX2_readVariable_p78 v1_size c4  v0_locals v1_token v1_tokenAt v1_name v1_fault v1_faultAt v1_next v2_globals c3 = some o → G 0 0 H locs (F0 m 78 ls []) := by
    intro  v0_locals v1_token v1_tokenAt v1_name v1_fault v1_faultAt v1_next v2_globals c3 H locs ls hP hD hS hl hf
    refine (hG _ _ _ _ _).mpr ?_
    unfold fX2_readVariable_p78 at hf
    refine lv_aload_n hx hb dX2_readVariable_78 rfl (lv_at hl 0 rfl) ?_
    refine va_get (D := (dC, dI)) (ci := 2) (v := .ref h1) (C := RX2) (T := TX2) (N := 7) hx hb hts inlX2 hown hK hP 0 rfl rfl 0 (by decide) w0_ (fun _ h9 => h9) rfl dX2_readVariable_79 ?_
    refine lv_iconst (v := 3) hx hb dX2_readVariable_82 (by decide +kernel) ?_
    obtain ⟨o1, e1, hf⟩ := ob_some hf
    refine kVv (As := [.int 3]) (rest := []) ⟨hx, hb, hml, hown, hts⟩ (mX4_failHere l dC dI h1 H.size base 3 v1_token v1_tokenAt v1_name v1_fault v1_faultAt v1_size v1_next (.ref h4) o1 e1) (cwV 1 hts (gTV q679 q680 q681 q19 q682) rfl rfl rfl (by decide +kernel) ⟨Nat.le_of_ble_eq_true rfl, Nat.le_of_ble_eq_true rfl⟩) hK hP hD hS hA hE hAB [1] [0, 2, 3, 4] [] (wr := [(h0, .inr (2, [.ref h1, .ref h2, .ref h3, .int v0_locals, w0_procedures, w0_calledName, w0_calledAt])), (h2, .inr (3, [.int v2_isThere, .int v2_globals, .int v2_procedures, .int v2_statements, w2_entry, w2_kind, w2_textAt, w2_owner, w2_value, w2_variable, w2_callee, w2_on0, w2_on1, w2_parent, w2_sibling, w2_inside, w2_insideElse, w2_behind])), (h3, .inl (k3, 5, .inr (.inl c3))), (h4, .inl (k4, 600, .inl c4))]) rfl rfl (by decide) (by decide) (by decide) rfl (ci := 4) (q0 := 0) rfl rfl rfl rfl hl.1 rfl (Nat.le_of_ble_eq_true rfl) dX2_readVariable_83 ⟨Nat.zero_le _, Nat.zero_le _⟩ (fun u1 H locs hw1 hP hD hS => ?_)
    have hw11 : o1 = u1 := Eq.symm hw1
    subst hw11
    have hP : va_P (dC, dI) vwCl [(h0, .inr (2, [.ref h1, .ref h2, .ref h3, .int v0_locals, w0_procedures, w0_calledName, w0_calledAt])), (h2, .inr (3, [.int v2_isThere, .int v2_globals, .int v2_procedures, .int v2_statements, w2_entry, w2_kind, w2_textAt, w2_owner, w2_value, w2_variable, w2_callee, w2_on0, w2_on1, w2_parent, w2_sibling, w2_inside, w2_insideElse, w2_behind])), (h3, .inl (k3, 5, .inr (.inl c3))), (h4, .inl (k4, 600, .inl c4)), (h1, .inr (4, [.int o1.1, .int v1_tokenAt, .long v1_name, .int o1.2.1, .int o1.2.2, .ref h4, .int v1_size, .int v1_next]))] H := hP
    have hD : va_D A [(h0, .inr (2, [.ref h1, .ref h2, .ref h3, .int v0_locals, w0_procedures, w0_calledName, w0_calledAt])), (h2, .inr (3, [.int v2_isThere, .int v2_globals, .int v2_procedures, .int v2_statements, w2_entry, w2_kind, w2_textAt, w2_owner, w2_value, w2_variable, w2_callee, w2_on0, w2_on1, w2_parent, w2_sibling, w2_inside, w2_insideElse, w2_behind])), (h3, .inl (k3, 5, .inr (.inl c3))), (h4, .inl (k4, 600, .inl c4)), (h1, .inr (4, [.int o1.1, .int v1_tokenAt, .long v1_name, .int o1.2.1, .int o1.2.2, .ref h4, .int v1_size, .int v1_next]))] := hD
    have hf1 := Option.some.inj hf
    subst hf1
    have hP9 := hP.sub (ws' := [(h0, .inr (2, [.ref h1, .ref h2, .ref h3, .int v0_locals, w0_procedures, w0_calledName, w0_calledAt])), (h1, .inr (4, [.int o1.1, .int v1_tokenAt, .long v1_name, .int o1.2.1, .int o1.2.2, .ref h4, .int v1_size, .int v1_next])), (h2, .inr (3, [.int v2_isThere, .int v2_globals, .int v2_procedures, .int v2_statements, w2_entry, w2_kind, w2_textAt, w2_owner, w2_value, w2_variable, w2_callee, w2_on0, w2_on1, w2_parent, w2_sibling, w2_inside, w2_insideElse, w2_behind])), (h3, .inl (k3, 5, .inr (.inl c3))), (h4, .inl (k4, 600, .inl c4))]) [0, 4, 1, 2, 3] rfl
    have hD9 := hD.sub (ws' := [(h0, .inr (2, [.ref h1, .ref h2, .ref h3, .int v0_locals, w0_procedures, w0_calledName, w0_calledAt])), (h1, .inr (4, [.int o1.1, .int v1_tokenAt, .long v1_name, .int o1.2.1, .int o1.2.2, .ref h4, .int v1_size, .int v1_next])), (h2, .inr (3, [.int v2_isThere, .int v2_globals, .int v2_procedures, .int v2_statements, w2_entry, w2_kind, w2_textAt, w2_owner, w2_value, w2_variable, w2_callee, w2_on0, w2_on1, w2_parent, w2_sibling, w2_inside, w2_insideElse, w2_behind])), (h3, .inl (k3, 5, .inr (.inl c3))), (h4, .inl (k4, 600, .inl c4))]) [0, 4, 1, 2, 3] (by decide) rfl
    exact W.vret hx hb hr (fun t ht hW => ⟨⟨(v0_locals, o1.1, v1_tokenAt, v1_name, o1.2.1, o1.2.2, v1_next, v2_globals, c3), rfl, rfl, by rw [ht]; exact hP9, va_K.moved hW.alike hK, hD9⟩, hS.F ht⟩) hS.2.2 dX2_readVariable_86
  have J154 : ∀ (v0_locals : Int32) (v1_token : Int32) (v1_tokenAt : Int32) (v1_name : Int64) (v1_fault : Int32) (v1_faultAt : Int32) (v1_next : Int32) (v2_globals : Int32) (c3 : (Nat → Int64)) (H : Heap) (locs : List Loc) (ls : Array Slot), va_P (dC, dI) vwCl [(h0, .inr (2, [.ref h1, .ref h2, .ref h3, .int v0_locals, w0_procedures, w0_calledName, w0_calledAt])), (h1, .inr (4, [.int v1_token, .int v1_tokenAt, .long v1_name, .int v1_fault, .int v1_faultAt, .ref h4, .int v1_size, .int v1_next])), (h2, .inr (3, [.int v2_isThere, .int v2_globals, .int v2_procedures, .int v2_statements, w2_entry, w2_kind, w2_textAt, w2_owner, w2_value, w2_variable, w2_callee, w2_on0, w2_on1, w2_parent, w2_sibling, w2_inside, w2_insideElse, w2_behind])), (h3, .inl (k3, 5, .inr (.inl c3))), (h4, .inl (k4, 600, .inl c4))] H → va_D A [(h0, .inr (2, [.ref h1, .ref h2, .ref h3, .int v0_locals, w0_procedures, w0_calledName, w0_calledAt])), (h1, .inr (4, [.int v1_token, .int v1_tokenAt, .long v1_name, .int v1_fault, .int v1_faultAt, .ref h4, .int v1_size, .int v1_next])), (h2, .inr (3, [.int v2_isThere, .int v2_globals, .int v2_procedures, .int v2_statements, w2_entry, w2_kind, w2_textAt, w2_owner, w2_value, w2_variable, w2_callee, w2_on0, w2_on1, w2_parent, w2_sibling, w2_inside, w2_insideElse, w2_behind])), (h3, .inl (k3, 5, .inr (.inl c3))), (h4, .inl (k4, 600, .inl c4))] → va_S A s.heap H locs → lv_has ls 3 [(0, .ref h0)] → fX2_readVariable_p154 v1_size c4  v0_locals v1_token v1_tokenAt v1_name v1_fault v1_faultAt v1_next v2_globals c3 = some o → G 0 0 H locs (F0 m 154 ls []) := by
    intro  v0_locals v1_token v1_tokenAt v1_name v1_fault v1_faultAt v1_next v2_globals c3 H locs ls hP hD hS hl hf
    refine (hG _ _ _ _ _).mpr ?_
    unfold fX2_readVariable_p154 at hf
    refine lv_aload_n hx hb dX2_readVariable_154 rfl (lv_at hl 0 rfl) ?_
    refine va_get (D := (dC, dI)) (ci := 2) (v := .ref h1) (C := RX2) (T := TX2) (N := 7) hx hb hts inlX2 hown hK hP 0 rfl rfl 0 (by decide) w0_ (fun _ h9 => h9) rfl dX2_readVariable_155 ?_
    obtain ⟨o2, e2, hf⟩ := ob_some hf
    refine kVv (As := []) (rest := []) ⟨hx, hb, hml, hown, hts⟩ (mX4_advance l dC dI h1 h4 k4 H.size base v1_token v1_tokenAt v1_name v1_fault v1_faultAt v1_size v1_next c4 o2 e2) (cwV 0 hts (gTV q672 q562 q563 q19 q564) rfl rfl rfl (by decide +kernel) ⟨Nat.le_of_ble_eq_true rfl, Nat.le_of_ble_eq_true rfl⟩) hK hP hD hS hA hE hAB [1, 4] [0, 2, 3] [1] (wr := [(h0, .inr (2, [.ref h1, .ref h2, .ref h3, .int v0_locals, w0_procedures, w0_calledName, w0_calledAt])), (h2, .inr (3, [.int v2_isThere, .int v2_globals, .int v2_procedures, .int v2_statements, w2_entry, w2_kind, w2_textAt, w2_owner, w2_value, w2_variable, w2_callee, w2_on0, w2_on1, w2_parent, w2_sibling, w2_inside, w2_insideElse, w2_behind])), (h3, .inl (k3, 5, .inr (.inl c3)))]) rfl rfl (by decide) (by decide) (by decide) rfl (ci := 4) (q0 := 0) rfl rfl rfl rfl hl.1 rfl (Nat.le_of_ble_eq_true rfl) dX2_readVariable_158 ⟨Nat.zero_le _, Nat.zero_le _⟩ (fun u2 H locs hw2 hP hD hS => ?_)
    have hw21 : o2 = u2 := Eq.symm hw2
    subst hw21
    have hP : va_P (dC, dI) vwCl [(h0, .inr (2, [.ref h1, .ref h2, .ref h3, .int v0_locals, w0_procedures, w0_calledName, w0_calledAt])), (h2, .inr (3, [.int v2_isThere, .int v2_globals, .int v2_procedures, .int v2_statements, w2_entry, w2_kind, w2_textAt, w2_owner, w2_value, w2_variable, w2_callee, w2_on0, w2_on1, w2_parent, w2_sibling, w2_inside, w2_insideElse, w2_behind])), (h3, .inl (k3, 5, .inr (.inl c3))), (h1, .inr (4, [.int o2.1, .int o2.2.1, .long o2.2.2.1, .int o2.2.2.2.1, .int o2.2.2.2.2.1, .ref h4, .int v1_size, .int o2.2.2.2.2.2])), (h4, .inl (k4, 600, .inl c4))] H := hP
    have hD : va_D A [(h0, .inr (2, [.ref h1, .ref h2, .ref h3, .int v0_locals, w0_procedures, w0_calledName, w0_calledAt])), (h2, .inr (3, [.int v2_isThere, .int v2_globals, .int v2_procedures, .int v2_statements, w2_entry, w2_kind, w2_textAt, w2_owner, w2_value, w2_variable, w2_callee, w2_on0, w2_on1, w2_parent, w2_sibling, w2_inside, w2_insideElse, w2_behind])), (h3, .inl (k3, 5, .inr (.inl c3))), (h1, .inr (4, [.int o2.1, .int o2.2.1, .long o2.2.2.1, .int o2.2.2.2.1, .int o2.2.2.2.2.1, .ref h4, .int v1_size, .int o2.2.2.2.2.2])), (h4, .inl (k4, 600, .inl c4))] := hD
    have hf1 := Option.some.inj hf
    subst hf1
    have hP9 := hP.sub (ws' := [(h0, .inr (2, [.ref h1, .ref h2, .ref h3, .int v0_locals, w0_procedures, w0_calledName, w0_calledAt])), (h1, .inr (4, [.int o2.1, .int o2.2.1, .long o2.2.2.1, .int o2.2.2.2.1, .int o2.2.2.2.2.1, .ref h4, .int v1_size, .int o2.2.2.2.2.2])), (h2, .inr (3, [.int v2_isThere, .int v2_globals, .int v2_procedures, .int v2_statements, w2_entry, w2_kind, w2_textAt, w2_owner, w2_value, w2_variable, w2_callee, w2_on0, w2_on1, w2_parent, w2_sibling, w2_inside, w2_insideElse, w2_behind])), (h3, .inl (k3, 5, .inr (.inl c3))), (h4, .inl (k4, 600, .inl c4))]) [0, 3, 1, 2, 4] rfl
    have hD9 := hD.sub (ws' := [(h0, .inr (2, [.ref h1, .ref h2, .ref h3, .int v0_locals, w0_procedures, w0_calledName, w0_calledAt])), (h1, .inr (4, [.int o2.1, .int o2.2.1, .long o2.2.2.1, .int o2.2.2.2.1, .int o2.2.2.2.2.1, .ref h4, .int v1_size, .int o2.2.2.2.2.2])), (h2, .inr (3, [.int v2_isThere, .int v2_globals, .int v2_procedures, .int v2_statements, w2_entry, w2_kind, w2_textAt, w2_owner, w2_value, w2_variable, w2_callee, w2_on0, w2_on1, w2_parent, w2_sibling, w2_inside, w2_insideElse, w2_behind])), (h3, .inl (k3, 5, .inr (.inl c3))), (h4, .inl (k4, 600, .inl c4))]) [0, 3, 1, 2, 4] (by decide) rfl
    exact W.vret hx hb hr (fun t ht hW => ⟨⟨(v0_locals, o2.1, o2.2.1, o2.2.2.1, o2.2.2.2.1, o2.2.2.2.2.1, o2.2.2.2.2.2, v2_globals, c3), rfl, rfl, by rw [ht]; exact hP9, va_K.moved hW.alike hK, hD9⟩, hS.F ht⟩) hS.2.2 dX2_readVariable_161
  have J58 : ∀ (y1 : Int32) (z0 : Int32) (v0_locals : Int32) (v1_token : Int32) (v1_tokenAt : Int32) (v1_name : Int64) (v1_fault : Int32) (v1_faultAt : Int32) (v1_next : Int32) (v2_globals : Int32) (c3 : (Nat → Int64)) (H : Heap) (locs : List Loc) (ls : Array Slot), va_P (dC, dI) vwCl [(h0, .inr (2, [.ref h1, .ref h2, .ref h3, .int v0_locals, w0_procedures, w0_calledName, w0_calledAt])), (h1, .inr (4, [.int v1_token, .int v1_tokenAt, .long v1_name, .int v1_fault, .int v1_faultAt, .ref h4, .int v1_size, .int v1_next])), (h2, .inr (3, [.int v2_isThere, .int v2_globals, .int v2_procedures, .int v2_statements, w2_entry, w2_kind, w2_textAt, w2_owner, w2_value, w2_variable, w2_callee, w2_on0, w2_on1, w2_parent, w2_sibling, w2_inside, w2_insideElse, w2_behind])), (h3, .inl (k3, 5, .inr (.inl c3))), (h4, .inl (k4, 600, .inl c4))] H → va_D A [(h0, .inr (2, [.ref h1, .ref h2, .ref h3, .int v0_locals, w0_procedures, w0_calledName, w0_calledAt])), (h1, .inr (4, [.int v1_token, .int v1_tokenAt, .long v1_name, .int v1_fault, .int v1_faultAt, .ref h4, .int v1_size, .int v1_next])), (h2, .inr (3, [.int v2_isThere, .int v2_globals, .int v2_procedures, .int v2_statements, w2_entry, w2_kind, w2_textAt, w2_owner, w2_value, w2_variable, w2_callee, w2_on0, w2_on1, w2_parent, w2_sibling, w2_inside, w2_insideElse, w2_behind])), (h3, .inl (k3, 5, .inr (.inl c3))), (h4, .inl (k4, 600, .inl c4))] → va_S A s.heap H locs → lv_has ls 3 [(0, .ref h0), (1, .int y1)] → fX2_readVariable_p58 v1_size c4  y1 z0 v0_locals v1_token v1_tokenAt v1_name v1_fault v1_faultAt v1_next v2_globals c3 = some o → G 0 0 H locs (F0 m 58 ls [.int z0]) := by
    intro  y1 z0 v0_locals v1_token v1_tokenAt v1_name v1_fault v1_faultAt v1_next v2_globals c3 H locs ls hP hD hS hl hf
    refine (hG _ _ _ _ _).mpr ?_
    unfold fX2_readVariable_p58 at hf
    refine lv_istore_n (lv' := [(2, .int z0), (0, .ref h0), (1, .int y1)]) hx hb dX2_readVariable_58 rfl hl (by decide) rfl (fun ls hl => ?_)
    refine lv_iload_n hx hb dX2_readVariable_59 rfl (lv_at hl 0 rfl) ?_
    refine lv_if_ne (tgt := 78) hx hb dX2_readVariable_60 (by decide) (fun q3 => ?_) (fun q3 => ?_)
    · replace hf := if_no hf q3
      exact (hG _ _ _ _ _).mp (J78 v0_locals v1_token v1_tokenAt v1_name v1_fault v1_faultAt v1_next v2_globals c3 H locs ls (hP.sub [0, 1, 2, 3, 4] rfl) (hD.sub [0, 1, 2, 3, 4] (by decide) rfl) hS (lv_sub hl [1] rfl) hf)
    · replace hf := if_at hf q3
      refine lv_aload_n hx hb dX2_readVariable_63 rfl (lv_at hl 1 rfl) ?_
      refine lv_aload_n hx hb dX2_readVariable_64 rfl (lv_at hl 1 rfl) ?_
      refine va_get (D := (dC, dI)) (ci := 2) (v := .ref h1) (C := RX2) (T := TX2) (N := 7) hx hb hts inlX2 hown hK hP 0 rfl rfl 0 (by decide) w0_ (fun _ h9 => h9) rfl dX2_readVariable_65 ?_
      refine va_get (D := (dC, dI)) (ci := 4) (v := .long v1_name) (C := RX4) (T := TX4) (N := 8) hx hb hts inlX4 hown hK hP 1 rfl rfl 2 (by decide) w1_ (fun _ h9 => h9) rfl dX2_readVariable_68 ?_
      obtain ⟨o4, e4, hf⟩ := ob_some hf
      refine kVi (As := [.long v1_name]) (rest := []) ⟨hx, hb, hml, hown, hts⟩ (mX2_findVariable l dC dI h0 h2 h3 k3 H.size base v1_name v0_locals v2_isThere v2_globals v2_procedures v2_statements c3 (.ref h1) w0_procedures w0_calledName w0_calledAt w2_entry w2_kind w2_textAt w2_owner w2_value w2_variable w2_callee w2_on0 w2_on1 w2_parent w2_sibling w2_inside w2_insideElse w2_behind o4 e4) (cwV 1 hts (gTV q683 q684 q685 q27 q686) rfl rfl rfl (by decide +kernel) ⟨Nat.le_of_ble_eq_true rfl, Nat.le_of_ble_eq_true rfl⟩) hK hP hD hS hA hE hAB [0, 2, 3] [1, 4] [0] (wr := [(h1, .inr (4, [.int v1_token, .int v1_tokenAt, .long v1_name, .int v1_fault, .int v1_faultAt, .ref h4, .int v1_size, .int v1_next])), (h4, .inl (k4, 600, .inl c4))]) rfl rfl (by decide) (by decide) (by decide) rfl (ci := 2) (q0 := 0) rfl rfl rfl rfl hl.1 rfl (Nat.le_of_ble_eq_true rfl) dX2_readVariable_71 ⟨Nat.zero_le _, Nat.zero_le _⟩ (fun r4 u4 H locs hw4 hP hD hS => ?_)
      obtain ⟨hw41, hw42⟩ := hw4
      subst hw41 hw42
      have hP : va_P (dC, dI) vwCl [(h1, .inr (4, [.int v1_token, .int v1_tokenAt, .long v1_name, .int v1_fault, .int v1_faultAt, .ref h4, .int v1_size, .int v1_next])), (h4, .inl (k4, 600, .inl c4)), (h0, .inr (2, [.ref h1, .ref h2, .ref h3, .int v0_locals, w0_procedures, w0_calledName, w0_calledAt])), (h2, .inr (3, [.int v2_isThere, .int v2_globals, .int v2_procedures, .int v2_statements, w2_entry, w2_kind, w2_textAt, w2_owner, w2_value, w2_variable, w2_callee, w2_on0, w2_on1, w2_parent, w2_sibling, w2_inside, w2_insideElse, w2_behind])), (h3, .inl (k3, 5, .inr (.inl c3)))] H := hP
      have hD : va_D A [(h1, .inr (4, [.int v1_token, .int v1_tokenAt, .long v1_name, .int v1_fault, .int v1_faultAt, .ref h4, .int v1_size, .int v1_next])), (h4, .inl (k4, 600, .inl c4)), (h0, .inr (2, [.ref h1, .ref h2, .ref h3, .int v0_locals, w0_procedures, w0_calledName, w0_calledAt])), (h2, .inr (3, [.int v2_isThere, .int v2_globals, .int v2_procedures, .int v2_statements, w2_entry, w2_kind, w2_textAt, w2_owner, w2_value, w2_variable, w2_callee, w2_on0, w2_on1, w2_parent, w2_sibling, w2_inside, w2_insideElse, w2_behind])), (h3, .inl (k3, 5, .inr (.inl c3)))] := hD
      refine lv_iconst (v := (-1)) hx hb dX2_readVariable_74 (by decide +kernel) ?_
      refine lv_icmp_eq (tgt := 87) hx hb dX2_readVariable_75 (by decide) (fun q5 => ?_) (fun q5 => ?_)
      · replace hf := if_at hf q5
        refine lv_iload_n hx hb dX2_readVariable_87 rfl (lv_at hl 2 rfl) ?_
        refine lv_if_eq (tgt := 122) hx hb dX2_readVariable_88 (by decide) (fun q6 => ?_) (fun q6 => ?_)
        · replace hf := if_at hf q6
          refine lv_aload_n hx hb dX2_readVariable_122 rfl (lv_at hl 1 rfl) ?_
          refine va_get (D := (dC, dI)) (ci := 2) (v := .ref h3) (C := RX2) (T := TX2) (N := 7) hx hb hts inlX2 hown hK hP 2 rfl rfl 2 (by decide) w2_ (fun _ h9 => h9) rfl dX2_readVariable_123 ?_
          refine lv_aload_n hx hb dX2_readVariable_126 rfl (lv_at hl 1 rfl) ?_
          refine va_get (D := (dC, dI)) (ci := 2) (v := .ref h2) (C := RX2) (T := TX2) (N := 7) hx hb hts inlX2 hown hK hP 2 rfl rfl 1 (by decide) w3_ (fun _ h9 => h9) rfl dX2_readVariable_127 ?_
          refine va_get (D := (dC, dI)) (ci := 3) (v := .int v2_globals) (C := RX3) (T := TX3) (N := 18) hx hb hts inlX3 hown hK hP 3 rfl rfl 1 (by decide) w4_ (fun _ h9 => h9) rfl dX2_readVariable_130 ?_
          refine lv_aload_n hx hb dX2_readVariable_133 rfl (lv_at hl 1 rfl) ?_
          refine va_get (D := (dC, dI)) (ci := 2) (v := .ref h1) (C := RX2) (T := TX2) (N := 7) hx hb hts inlX2 hown hK hP 2 rfl rfl 0 (by decide) w0_ (fun _ h9 => h9) rfl dX2_readVariable_134 ?_
          refine va_get (D := (dC, dI)) (ci := 4) (v := .long v1_name) (C := RX4) (T := TX4) (N := 8) hx hb hts inlX4 hown hK hP 0 rfl rfl 2 (by decide) w1_ (fun _ h9 => h9) rfl dX2_readVariable_137 ?_
          have b7 := bd_in hf
          replace hf := bd_k hf
          obtain ⟨c7x, e7⟩ : ∃ y, y = vp_updL c3 v2_globals.toNatClampNeg v1_name := ⟨_, rfl⟩
          replace hf := nm_at hf e7
          refine va_last hx hb hK hP hD hS 4 0 rfl rfl b7 dX2_readVariable_140 (fun H locs hP hD hS => ?_)
          have hP : va_P (dC, dI) vwCl [(h1, .inr (4, [.int v1_token, .int v1_tokenAt, .long v1_name, .int v1_fault, .int v1_faultAt, .ref h4, .int v1_size, .int v1_next])), (h4, .inl (k4, 600, .inl c4)), (h0, .inr (2, [.ref h1, .ref h2, .ref h3, .int v0_locals, w0_procedures, w0_calledName, w0_calledAt])), (h2, .inr (3, [.int v2_isThere, .int v2_globals, .int v2_procedures, .int v2_statements, w2_entry, w2_kind, w2_textAt, w2_owner, w2_value, w2_variable, w2_callee, w2_on0, w2_on1, w2_parent, w2_sibling, w2_inside, w2_insideElse, w2_behind])), (h3, .inl (k3, 5, .inr (.inl c7x)))] H := by rw [e7]; exact hP
          have hD : va_D A [(h1, .inr (4, [.int v1_token, .int v1_tokenAt, .long v1_name, .int v1_fault, .int v1_faultAt, .ref h4, .int v1_size, .int v1_next])), (h4, .inl (k4, 600, .inl c4)), (h0, .inr (2, [.ref h1, .ref h2, .ref h3, .int v0_locals, w0_procedures, w0_calledName, w0_calledAt])), (h2, .inr (3, [.int v2_isThere, .int v2_globals, .int v2_procedures, .int v2_statements, w2_entry, w2_kind, w2_textAt, w2_owner, w2_value, w2_variable, w2_callee, w2_on0, w2_on1, w2_parent, w2_sibling, w2_inside, w2_insideElse, w2_behind])), (h3, .inl (k3, 5, .inr (.inl c7x)))] := by rw [e7]; exact hD
          refine lv_aload_n hx hb dX2_readVariable_141 rfl (lv_at hl 1 rfl) ?_
          refine va_get (D := (dC, dI)) (ci := 2) (v := .ref h2) (C := RX2) (T := TX2) (N := 7) hx hb hts inlX2 hown hK hP 2 rfl rfl 1 (by decide) w3_ (fun _ h9 => h9) rfl dX2_readVariable_142 ?_
          refine lv_dup hx hb dX2_readVariable_145 rfl ?_
          refine va_get (D := (dC, dI)) (ci := 3) (v := .int v2_globals) (C := RX3) (T := TX3) (N := 18) hx hb hts inlX3 hown hK hP 3 rfl rfl 1 (by decide) w4_ (fun _ h9 => h9) rfl dX2_readVariable_146 ?_
          refine lv_iconst (v := 1) hx hb dX2_readVariable_149 (by decide +kernel) ?_
          refine lv_iadd hx hb dX2_readVariable_150 ?_
          refine lv_topi (fun x8 e8 => ?_)
          replace hf := nm_at hf e8
          refine va_put (D := (dC, dI)) (ci := 3) (v := .int x8) (ty := .int) (C := RX3) (T := TX3) (N := 18) hx hb hts inlX3 tyX3 tyX3_ok nmX3 hown hK hP hD hS 3 rfl rfl 1 (by decide) w4_ (fun _ h9 => h9) rfl (by decide +kernel) rfl rfl (Nat.le_of_ble_eq_true rfl) dX2_readVariable_151 (fun H locs hP hD hS => ?_)
          have hP : va_P (dC, dI) vwCl [(h1, .inr (4, [.int v1_token, .int v1_tokenAt, .long v1_name, .int v1_fault, .int v1_faultAt, .ref h4, .int v1_size, .int v1_next])), (h4, .inl (k4, 600, .inl c4)), (h0, .inr (2, [.ref h1, .ref h2, .ref h3, .int v0_locals, w0_procedures, w0_calledName, w0_calledAt])), (h2, .inr (3, [.int v2_isThere, .int x8, .int v2_procedures, .int v2_statements, w2_entry, w2_kind, w2_textAt, w2_owner, w2_value, w2_variable, w2_callee, w2_on0, w2_on1, w2_parent, w2_sibling, w2_inside, w2_insideElse, w2_behind])), (h3, .inl (k3, 5, .inr (.inl c7x)))] H := hP
          have hD : va_D A [(h1, .inr (4, [.int v1_token, .int v1_tokenAt, .long v1_name, .int v1_fault, .int v1_faultAt, .ref h4, .int v1_size, .int v1_next])), (h4, .inl (k4, 600, .inl c4)), (h0, .inr (2, [.ref h1, .ref h2, .ref h3, .int v0_locals, w0_procedures, w0_calledName, w0_calledAt])), (h2, .inr (3, [.int v2_isThere, .int x8, .int v2_procedures, .int v2_statements, w2_entry, w2_kind, w2_textAt, w2_owner, w2_value, w2_variable, w2_callee, w2_on0, w2_on1, w2_parent, w2_sibling, w2_inside, w2_insideElse, w2_behind])), (h3, .inl (k3, 5, .inr (.inl c7x)))] := hD
          exact (hG _ _ _ _ _).mp (J154 v0_locals v1_token v1_tokenAt v1_name v1_fault v1_faultAt v1_next x8 c7x H locs ls (hP.sub [2, 0, 3, 4, 1] rfl) (hD.sub [2, 0, 3, 4, 1] (by decide) rfl) hS (lv_sub hl [1] rfl) hf)
        · replace hf := if_no hf q6
          refine lv_aload_n hx hb dX2_readVariable_91 rfl (lv_at hl 1 rfl) ?_
          refine va_get (D := (dC, dI)) (ci := 2) (v := .ref h3) (C := RX2) (T := TX2) (N := 7) hx hb hts inlX2 hown hK hP 2 rfl rfl 2 (by decide) w2_ (fun _ h9 => h9) rfl dX2_readVariable_92 ?_
          refine lv_iconst (v := 3) hx hb dX2_readVariable_95 (by decide +kernel) ?_
          refine lv_aload_n hx hb dX2_readVariable_96 rfl (lv_at hl 1 rfl) ?_
          refine va_get (D := (dC, dI)) (ci := 2) (v := .int v0_locals) (C := RX2) (T := TX2) (N := 7) hx hb hts inlX2 hown hK hP 2 rfl rfl 3 (by decide) w5_ (fun _ h9 => h9) rfl dX2_readVariable_97 ?_
          refine lv_iadd hx hb dX2_readVariable_100 ?_
          refine lv_topi (fun x9 e9 => ?_)
          replace hf := nm_at hf e9
          refine lv_aload_n hx hb dX2_readVariable_101 rfl (lv_at hl 1 rfl) ?_
          refine va_get (D := (dC, dI)) (ci := 2) (v := .ref h1) (C := RX2) (T := TX2) (N := 7) hx hb hts inlX2 hown hK hP 2 rfl rfl 0 (by decide) w0_ (fun _ h9 => h9) rfl dX2_readVariable_102 ?_
          refine va_get (D := (dC, dI)) (ci := 4) (v := .long v1_name) (C := RX4) (T := TX4) (N := 8) hx hb hts inlX4 hown hK hP 0 rfl rfl 2 (by decide) w1_ (fun _ h9 => h9) rfl dX2_readVariable_105 ?_
          have b10 := bd_in hf
          replace hf := bd_k hf
          obtain ⟨c10x, e10⟩ : ∃ y, y = vp_updL c3 x9.toNatClampNeg v1_name := ⟨_, rfl⟩
          replace hf := nm_at hf e10
          refine va_last hx hb hK hP hD hS 4 0 rfl rfl b10 dX2_readVariable_108 (fun H locs hP hD hS => ?_)
          have hP : va_P (dC, dI) vwCl [(h1, .inr (4, [.int v1_token, .int v1_tokenAt, .long v1_name, .int v1_fault, .int v1_faultAt, .ref h4, .int v1_size, .int v1_next])), (h4, .inl (k4, 600, .inl c4)), (h0, .inr (2, [.ref h1, .ref h2, .ref h3, .int v0_locals, w0_procedures, w0_calledName, w0_calledAt])), (h2, .inr (3, [.int v2_isThere, .int v2_globals, .int v2_procedures, .int v2_statements, w2_entry, w2_kind, w2_textAt, w2_owner, w2_value, w2_variable, w2_callee, w2_on0, w2_on1, w2_parent, w2_sibling, w2_inside, w2_insideElse, w2_behind])), (h3, .inl (k3, 5, .inr (.inl c10x)))] H := by rw [e10]; exact hP
          have hD : va_D A [(h1, .inr (4, [.int v1_token, .int v1_tokenAt, .long v1_name, .int v1_fault, .int v1_faultAt, .ref h4, .int v1_size, .int v1_next])), (h4, .inl (k4, 600, .inl c4)), (h0, .inr (2, [.ref h1, .ref h2, .ref h3, .int v0_locals, w0_procedures, w0_calledName, w0_calledAt])), (h2, .inr (3, [.int v2_isThere, .int v2_globals, .int v2_procedures, .int v2_statements, w2_entry, w2_kind, w2_textAt, w2_owner, w2_value, w2_variable, w2_callee, w2_on0, w2_on1, w2_parent, w2_sibling, w2_inside, w2_insideElse, w2_behind])), (h3, .inl (k3, 5, .inr (.inl c10x)))] := by rw [e10]; exact hD
          refine lv_aload_n hx hb dX2_readVariable_109 rfl (lv_at hl 1 rfl) ?_
          refine lv_dup hx hb dX2_readVariable_110 rfl ?_
          refine va_get (D := (dC, dI)) (ci := 2) (v := .int v0_locals) (C := RX2) (T := TX2) (N := 7) hx hb hts inlX2 hown hK hP 2 rfl rfl 3 (by decide) w5_ (fun _ h9 => h9) rfl dX2_readVariable_111 ?_
          refine lv_iconst (v := 1) hx hb dX2_readVariable_114 (by decide +kernel) ?_
          refine lv_iadd hx hb dX2_readVariable_115 ?_
          refine lv_topi (fun x11 e11 => ?_)
          replace hf := nm_at hf e11
          refine va_put (D := (dC, dI)) (ci := 2) (v := .int x11) (ty := .int) (C := RX2) (T := TX2) (N := 7) hx hb hts inlX2 tyX2 tyX2_ok nmX2 hown hK hP hD hS 2 rfl rfl 3 (by decide) w5_ (fun _ h9 => h9) rfl (by decide +kernel) rfl rfl (Nat.le_of_ble_eq_true rfl) dX2_readVariable_116 (fun H locs hP hD hS => ?_)
          have hP : va_P (dC, dI) vwCl [(h1, .inr (4, [.int v1_token, .int v1_tokenAt, .long v1_name, .int v1_fault, .int v1_faultAt, .ref h4, .int v1_size, .int v1_next])), (h4, .inl (k4, 600, .inl c4)), (h0, .inr (2, [.ref h1, .ref h2, .ref h3, .int x11, w0_procedures, w0_calledName, w0_calledAt])), (h2, .inr (3, [.int v2_isThere, .int v2_globals, .int v2_procedures, .int v2_statements, w2_entry, w2_kind, w2_textAt, w2_owner, w2_value, w2_variable, w2_callee, w2_on0, w2_on1, w2_parent, w2_sibling, w2_inside, w2_insideElse, w2_behind])), (h3, .inl (k3, 5, .inr (.inl c10x)))] H := hP
          have hD : va_D A [(h1, .inr (4, [.int v1_token, .int v1_tokenAt, .long v1_name, .int v1_fault, .int v1_faultAt, .ref h4, .int v1_size, .int v1_next])), (h4, .inl (k4, 600, .inl c4)), (h0, .inr (2, [.ref h1, .ref h2, .ref h3, .int x11, w0_procedures, w0_calledName, w0_calledAt])), (h2, .inr (3, [.int v2_isThere, .int v2_globals, .int v2_procedures, .int v2_statements, w2_entry, w2_kind, w2_textAt, w2_owner, w2_value, w2_variable, w2_callee, w2_on0, w2_on1, w2_parent, w2_sibling, w2_inside, w2_insideElse, w2_behind])), (h3, .inl (k3, 5, .inr (.inl c10x)))] := hD
          refine lv_goto (tgt := 154) hx hb dX2_readVariable_119 (by decide) ?_
          exact (hG _ _ _ _ _).mp (J154 x11 v1_token v1_tokenAt v1_name v1_fault v1_faultAt v1_next v2_globals c10x H locs ls (hP.sub [2, 0, 3, 4, 1] rfl) (hD.sub [2, 0, 3, 4, 1] (by decide) rfl) hS (lv_sub hl [1] rfl) hf)
      · replace hf := if_no hf q5
        exact (hG _ _ _ _ _).mp (J78 v0_locals v1_token v1_tokenAt v1_name v1_fault v1_faultAt v1_next v2_globals c3 H locs ls (hP.sub [2, 0, 3, 4, 1] rfl) (hD.sub [2, 0, 3, 4, 1] (by decide) rfl) hS (lv_sub hl [1] rfl) hf)
  refine (hG _ _ _ _ _).mpr ?_
  obtain ⟨H, hH⟩ : ∃ H, H = s.heap := ⟨_, rfl⟩
  have hS : va_S A s.heap H [] := by rw [hH]; exact hS
  rw [← hH] at hP ⊢
  generalize ([] : List Loc) = locs at hS ⊢
  unfold fX2_readVariable at hf
  refine lv_aload_n hx hb dX2_readVariable_0 rfl (lv_at hl 0 rfl) ?_
  refine va_get (D := (dC, dI)) (ci := 2) (v := .ref h1) (C := RX2) (T := TX2) (N := 7) hx hb hts inlX2 hown hK hP 0 rfl rfl 0 (by decide) w0_ (fun _ h9 => h9) rfl dX2_readVariable_1 ?_
  refine va_get (D := (dC, dI)) (ci := 4) (v := .int v1_token) (C := RX4) (T := TX4) (N := 8) hx hb hts inlX4 hown hK hP 1 rfl rfl 0 (by decide) w6_ (fun _ h9 => h9) rfl dX2_readVariable_4 ?_
  refine lv_sipush (v := 258) hx hb dX2_readVariable_7 (by decide +kernel) ?_
  refine lv_icmp_eq (tgt := 22) hx hb dX2_readVariable_10 (by decide) (fun q12 => ?_) (fun q12 => ?_)
  · replace hf := if_at hf q12
    refine lv_iload_n hx hb dX2_readVariable_22 rfl (lv_at hl 1 rfl) ?_
    refine lv_if_eq (tgt := 42) hx hb dX2_readVariable_23 (by decide) (fun q13 => ?_) (fun q13 => ?_)
    · replace hf := if_at hf q13
      refine lv_aload_n hx hb dX2_readVariable_42 rfl (lv_at hl 0 rfl) ?_
      refine va_get (D := (dC, dI)) (ci := 2) (v := .ref h2) (C := RX2) (T := TX2) (N := 7) hx hb hts inlX2 hown hK hP 0 rfl rfl 1 (by decide) w3_ (fun _ h9 => h9) rfl dX2_readVariable_43 ?_
      refine va_get (D := (dC, dI)) (ci := 3) (v := .int v2_globals) (C := RX3) (T := TX3) (N := 18) hx hb hts inlX3 hown hK hP 2 rfl rfl 1 (by decide) w4_ (fun _ h9 => h9) rfl dX2_readVariable_46 ?_
      refine lv_iconst (v := 3) hx hb dX2_readVariable_49 (by decide +kernel) ?_
      refine lv_icmp_lt (tgt := 57) hx hb dX2_readVariable_50 (by decide) (fun q14 => ?_) (fun q14 => ?_)
      · replace hf := if_at hf q14
        refine lv_iconst (v := 0) hx hb dX2_readVariable_57 (by decide +kernel) ?_
        exact (hG _ _ _ _ _).mp (J58 a0 0 v0_locals v1_token v1_tokenAt v1_name v1_fault v1_faultAt v1_next v2_globals c3 H locs ls (hP.sub [0, 1, 2, 3, 4] rfl) (hD.sub [0, 1, 2, 3, 4] (by decide) rfl) hS (lv_sub hl [0, 1] rfl) hf)
      · replace hf := if_no hf q14
        refine lv_iconst (v := 1) hx hb dX2_readVariable_53 (by decide +kernel) ?_
        refine lv_goto (tgt := 58) hx hb dX2_readVariable_54 (by decide) ?_
        exact (hG _ _ _ _ _).mp (J58 a0 1 v0_locals v1_token v1_tokenAt v1_name v1_fault v1_faultAt v1_next v2_globals c3 H locs ls (hP.sub [0, 1, 2, 3, 4] rfl) (hD.sub [0, 1, 2, 3, 4] (by decide) rfl) hS (lv_sub hl [0, 1] rfl) hf)
    · replace hf := if_no hf q13
      refine lv_aload_n hx hb dX2_readVariable_26 rfl (lv_at hl 0 rfl) ?_
      refine va_get (D := (dC, dI)) (ci := 2) (v := .int v0_locals) (C := RX2) (T := TX2) (N := 7) hx hb hts inlX2 hown hK hP 0 rfl rfl 3 (by decide) w5_ (fun _ h9 => h9) rfl dX2_readVariable_27 ?_
      refine lv_iconst (v := 2) hx hb dX2_readVariable_30 (by decide +kernel) ?_
      refine lv_icmp_lt (tgt := 38) hx hb dX2_readVariable_31 (by decide) (fun q15 => ?_) (fun q15 => ?_)
      · replace hf := if_at hf q15
        refine lv_iconst (v := 0) hx hb dX2_readVariable_38 (by decide +kernel) ?_
        refine lv_goto (tgt := 58) hx hb dX2_readVariable_39 (by decide) ?_
        exact (hG _ _ _ _ _).mp (J58 a0 0 v0_locals v1_token v1_tokenAt v1_name v1_fault v1_faultAt v1_next v2_globals c3 H locs ls (hP.sub [0, 1, 2, 3, 4] rfl) (hD.sub [0, 1, 2, 3, 4] (by decide) rfl) hS (lv_sub hl [0, 1] rfl) hf)
      · replace hf := if_no hf q15
        refine lv_iconst (v := 1) hx hb dX2_readVariable_34 (by decide +kernel) ?_
        refine lv_goto (tgt := 58) hx hb dX2_readVariable_35 (by decide) ?_
        exact (hG _ _ _ _ _).mp (J58 a0 1 v0_locals v1_token v1_tokenAt v1_name v1_fault v1_faultAt v1_next v2_globals c3 H locs ls (hP.sub [0, 1, 2, 3, 4] rfl) (hD.sub [0, 1, 2, 3, 4] (by decide) rfl) hS (lv_sub hl [0, 1] rfl) hf)
  · replace hf := if_no hf q12
    refine lv_aload_n hx hb dX2_readVariable_13 rfl (lv_at hl 0 rfl) ?_
    refine va_get (D := (dC, dI)) (ci := 2) (v := .ref h1) (C := RX2) (T := TX2) (N := 7) hx hb hts inlX2 hown hK hP 0 rfl rfl 0 (by decide) w0_ (fun _ h9 => h9) rfl dX2_readVariable_14 ?_
    refine lv_iconst (v := 2) hx hb dX2_readVariable_17 (by decide +kernel) ?_
    obtain ⟨o16, e16, hf⟩ := ob_some hf
    refine kVv (As := [.int 2]) (rest := []) ⟨hx, hb, hml, hown, hts⟩ (mX4_failHere l dC dI h1 H.size base 2 v1_token v1_tokenAt v1_name v1_fault v1_faultAt v1_size v1_next (.ref h4) o16 e16) (cwV 1 hts (gTV q679 q680 q681 q19 q682) rfl rfl rfl (by decide +kernel) ⟨Nat.le_of_ble_eq_true rfl, Nat.le_of_ble_eq_true rfl⟩) hK hP hD hS hA hE hAB [1] [0, 2, 3, 4] [] (wr := [(h0, .inr (2, [.ref h1, .ref h2, .ref h3, .int v0_locals, w0_procedures, w0_calledName, w0_calledAt])), (h2, .inr (3, [.int v2_isThere, .int v2_globals, .int v2_procedures, .int v2_statements, w2_entry, w2_kind, w2_textAt, w2_owner, w2_value, w2_variable, w2_callee, w2_on0, w2_on1, w2_parent, w2_sibling, w2_inside, w2_insideElse, w2_behind])), (h3, .inl (k3, 5, .inr (.inl c3))), (h4, .inl (k4, 600, .inl c4))]) rfl rfl (by decide) (by decide) (by decide) rfl (ci := 4) (q0 := 0) rfl rfl rfl rfl hl.1 rfl (Nat.le_of_ble_eq_true rfl) dX2_readVariable_18 ⟨Nat.zero_le _, Nat.zero_le _⟩ (fun u16 H locs hw16 hP hD hS => ?_)
    have hw161 : o16 = u16 := Eq.symm hw16
    subst hw161
    have hP : va_P (dC, dI) vwCl [(h0, .inr (2, [.ref h1, .ref h2, .ref h3, .int v0_locals, w0_procedures, w0_calledName, w0_calledAt])), (h2, .inr (3, [.int v2_isThere, .int v2_globals, .int v2_procedures, .int v2_statements, w2_entry, w2_kind, w2_textAt, w2_owner, w2_value, w2_variable, w2_callee, w2_on0, w2_on1, w2_parent, w2_sibling, w2_inside, w2_insideElse, w2_behind])), (h3, .inl (k3, 5, .inr (.inl c3))), (h4, .inl (k4, 600, .inl c4)), (h1, .inr (4, [.int o16.1, .int v1_tokenAt, .long v1_name, .int o16.2.1, .int o16.2.2, .ref h4, .int v1_size, .int v1_next]))] H := hP
    have hD : va_D A [(h0, .inr (2, [.ref h1, .ref h2, .ref h3, .int v0_locals, w0_procedures, w0_calledName, w0_calledAt])), (h2, .inr (3, [.int v2_isThere, .int v2_globals, .int v2_procedures, .int v2_statements, w2_entry, w2_kind, w2_textAt, w2_owner, w2_value, w2_variable, w2_callee, w2_on0, w2_on1, w2_parent, w2_sibling, w2_inside, w2_insideElse, w2_behind])), (h3, .inl (k3, 5, .inr (.inl c3))), (h4, .inl (k4, 600, .inl c4)), (h1, .inr (4, [.int o16.1, .int v1_tokenAt, .long v1_name, .int o16.2.1, .int o16.2.2, .ref h4, .int v1_size, .int v1_next]))] := hD
    have hf1 := Option.some.inj hf
    subst hf1
    have hP9 := hP.sub (ws' := [(h0, .inr (2, [.ref h1, .ref h2, .ref h3, .int v0_locals, w0_procedures, w0_calledName, w0_calledAt])), (h1, .inr (4, [.int o16.1, .int v1_tokenAt, .long v1_name, .int o16.2.1, .int o16.2.2, .ref h4, .int v1_size, .int v1_next])), (h2, .inr (3, [.int v2_isThere, .int v2_globals, .int v2_procedures, .int v2_statements, w2_entry, w2_kind, w2_textAt, w2_owner, w2_value, w2_variable, w2_callee, w2_on0, w2_on1, w2_parent, w2_sibling, w2_inside, w2_insideElse, w2_behind])), (h3, .inl (k3, 5, .inr (.inl c3))), (h4, .inl (k4, 600, .inl c4))]) [0, 4, 1, 2, 3] rfl
    have hD9 := hD.sub (ws' := [(h0, .inr (2, [.ref h1, .ref h2, .ref h3, .int v0_locals, w0_procedures, w0_calledName, w0_calledAt])), (h1, .inr (4, [.int o16.1, .int v1_tokenAt, .long v1_name, .int o16.2.1, .int o16.2.2, .ref h4, .int v1_size, .int v1_next])), (h2, .inr (3, [.int v2_isThere, .int v2_globals, .int v2_procedures, .int v2_statements, w2_entry, w2_kind, w2_textAt, w2_owner, w2_value, w2_variable, w2_callee, w2_on0, w2_on1, w2_parent, w2_sibling, w2_inside, w2_insideElse, w2_behind])), (h3, .inl (k3, 5, .inr (.inl c3))), (h4, .inl (k4, 600, .inl c4))]) [0, 4, 1, 2, 3] (by decide) rfl
    exact W.vret hx hb hr (fun t ht hW => ⟨⟨(v0_locals, o16.1, v1_tokenAt, v1_name, o16.2.1, o16.2.2, v1_next, v2_globals, c3), rfl, rfl, by rw [ht]; exact hP9, va_K.moved hW.alike hK, hD9⟩, hS.F ht⟩) hS.2.2 dX2_readVariable_21
set_option maxHeartbeats 4000000 in
set_option maxRecDepth 100000 in
theorem mX2_readVariableValue (l : Launch) (dC : Nat → ClassId) (dI : Nat → Nat → Nat) (h0 h1 h2 h3 h4 : Nat) (k3 k4 : ClassId) (sz : Nat) (base : Nat × Nat × Nat) (v0_locals : Int32) (v1_token : Int32) (v1_tokenAt : Int32) (v1_name : Int64) (v1_fault : Int32) (v1_faultAt : Int32) (v1_size : Int32) (v1_next : Int32) (v2_isThere : Int32) (v2_globals : Int32) (v2_procedures : Int32) (v2_statements : Int32) (c3 : Nat → Int64) (c4 : Nat → Int32) (w0_procedures : Value) (w0_calledName : Value) (w0_calledAt : Value) (w2_entry : Value) (w2_kind : Value) (w2_textAt : Value) (w2_owner : Value) (w2_value : Value) (w2_variable : Value) (w2_callee : Value) (w2_on0 : Value) (w2_on1 : Value) (w2_parent : Value) (w2_sibling : Value) (w2_inside : Value) (w2_insideElse : Value) (w2_behind : Value) (o : Int64 × Int32 × Int32 × Int64 × Int32 × Int32 × Int32) (hf : fX2_readVariableValue v0_locals v1_token v1_tokenAt v1_name v1_fault v1_faultAt v1_size v1_next v2_globals c3 c4 = some o) : Met l yX2_readVariableValue (.code yX2_readVariableValue cX2_readVariableValue 4 (some .long) :: wsL_law) ({ frames := 5, cells := 0, slots := 0, locals := 112 }) (cPre (dC, dI) vwCl [.ref h0] sz base [(h0, .inr (2, [.ref h1, .ref h2, .ref h3, .int v0_locals, w0_procedures, w0_calledName, w0_calledAt])), (h1, .inr (4, [.int v1_token, .int v1_tokenAt, .long v1_name, .int v1_fault, .int v1_faultAt, .ref h4, .int v1_size, .int v1_next])), (h2, .inr (3, [.int v2_isThere, .int v2_globals, .int v2_procedures, .int v2_statements, w2_entry, w2_kind, w2_textAt, w2_owner, w2_value, w2_variable, w2_callee, w2_on0, w2_on1, w2_parent, w2_sibling, w2_inside, w2_insideElse, w2_behind])), (h3, .inl (k3, 5, .inr (.inl c3))), (h4, .inl (k4, 600, .inl c4))] [(k3, .long), (k4, .byte)]) (va_Ql (fun r u => r = o.1 ∧ u = o.2) (fun (u : Int32 × Int32 × Int64 × Int32 × Int32 × Int32) t => cPost (dC, dI) vwCl (va_A [(h0, .inr (2, [.ref h1, .ref h2, .ref h3, .int v0_locals, w0_procedures, w0_calledName, w0_calledAt])), (h1, .inr (4, [.int v1_token, .int v1_tokenAt, .long v1_name, .int v1_fault, .int v1_faultAt, .ref h4, .int v1_size, .int v1_next])), (h2, .inr (3, [.int v2_isThere, .int v2_globals, .int v2_procedures, .int v2_statements, w2_entry, w2_kind, w2_textAt, w2_owner, w2_value, w2_variable, w2_callee, w2_on0, w2_on1, w2_parent, w2_sibling, w2_inside, w2_insideElse, w2_behind])), (h3, .inl (k3, 5, .inr (.inl c3))), (h4, .inl (k4, 600, .inl c4))] sz) [(h0, .inr (2, [.ref h1, .ref h2, .ref h3, .int v0_locals, w0_procedures, w0_calledName, w0_calledAt])), (h1, .inr (4, [.int u.1, .int u.2.1, .long u.2.2.1, .int u.2.2.2.1, .int u.2.2.2.2.1, .ref h4, .int v1_size, .int u.2.2.2.2.2])), (h2, .inr (3, [.int v2_isThere, .int v2_globals, .int v2_procedures, .int v2_statements, w2_entry, w2_kind, w2_textAt, w2_owner, w2_value, w2_variable, w2_callee, w2_on0, w2_on1, w2_parent, w2_sibling, w2_inside, w2_insideElse, w2_behind])), (h3, .inl (k3, 5, .inr (.inl c3))), (h4, .inl (k4, 600, .inl c4))] [(k3, .long), (k4, .byte)] t) (va_A [(h0, .inr (2, [.ref h1, .ref h2, .ref h3, .int v0_locals, w0_procedures, w0_calledName, w0_calledAt])), (h1, .inr (4, [.int v1_token, .int v1_tokenAt, .long v1_name, .int v1_fault, .int v1_faultAt, .ref h4, .int v1_size, .int v1_next])), (h2, .inr (3, [.int v2_isThere, .int v2_globals, .int v2_procedures, .int v2_statements, w2_entry, w2_kind, w2_textAt, w2_owner, w2_value, w2_variable, w2_callee, w2_on0, w2_on1, w2_parent, w2_sibling, w2_inside, w2_insideElse, w2_behind])), (h3, .inl (k3, 5, .inr (.inl c3))), (h4, .inl (k4, 600, .inl c4))] sz)) 0 0 (va_A [(h0, .inr (2, [.ref h1, .ref h2, .ref h3, .int v0_locals, w0_procedures, w0_calledName, w0_calledAt])), (h1, .inr (4, [.int v1_token, .int v1_tokenAt, .long v1_name, .int v1_fault, .int v1_faultAt, .ref h4, .int v1_size, .int v1_next])), (h2, .inr (3, [.int v2_isThere, .int v2_globals, .int v2_procedures, .int v2_statements, w2_entry, w2_kind, w2_textAt, w2_owner, w2_value, w2_variable, w2_callee, w2_on0, w2_on1, w2_parent, w2_sibling, w2_inside, w2_insideElse, w2_behind])), (h3, .inl (k3, 5, .inr (.inl c3))), (h4, .inl (k4, 600, .inl c4))] sz) := by
  refine Met.ofW (cc := cX2_readVariableValue) (maxL := 4) (ret := (some .long)) (by decide) rfl ?_
  intro p e s m args below meth c s₁ B hml hv
  obtain ⟨rfl, hsz, hP, hK, hD0, hE⟩ := hv
  have hx := B.exec
  have hb := B.bytes
  have hr := B.returns
  have hts : ∀ w ∈ wsL_law, _ := fun w h => atoms_spec (ws := .code yX2_readVariableValue cX2_readVariableValue 4 (some .long) :: wsL_law) B.pre w (List.mem_cons_of_mem _ h)
  have hown : s.vm.findClass RX2 = some m.cls := findClass_of_methodNamed B.named
  have hlocks := B.notSynchronized
  have w0_ := hts _ q72
  have w1_ := hts _ q678
  obtain ⟨⟨tw, zw, uw⟩, ⟨tb, zb, ub⟩, -⟩ := id hE.2.2
  have w3_ := hts _ q739
  have w4_ := hts _ q734
  subst hsz
  have hD := hD0.self (sz := s.heap.size)
  generalize hAe : va_A [(h0, .inr (2, [.ref h1, .ref h2, .ref h3, .int v0_locals, w0_procedures, w0_calledName, w0_calledAt])), (h1, .inr (4, [.int v1_token, .int v1_tokenAt, .long v1_name, .int v1_fault, .int v1_faultAt, .ref h4, .int v1_size, .int v1_next])), (h2, .inr (3, [.int v2_isThere, .int v2_globals, .int v2_procedures, .int v2_statements, w2_entry, w2_kind, w2_textAt, w2_owner, w2_value, w2_variable, w2_callee, w2_on0, w2_on1, w2_parent, w2_sibling, w2_inside, w2_insideElse, w2_behind])), (h3, .inl (k3, 5, .inr (.inl c3))), (h4, .inl (k4, 600, .inl c4))] s.heap.size = A at hD ⊢
  have hA : ∀ q : Nat, s.heap.size ≤ q → A q := fun q h => by rw [← hAe]; exact Or.inr h
  have hAB : ∀ q : Nat, A q → base.1 ≤ q := fun q h => by rw [← hAe] at h; exact h.elim (fun ⟨k, e, hk⟩ => hD0.2 k _ hk) (fun hk => Nat.le_trans hE.1 hk)
  have hS : va_S A s.heap s.heap [] := va_S.rf
  have hl := lv_entry ([.ref h0]) (n := 4) (Nat.le_of_ble_eq_true rfl)
  rw [lg_entry_eq]
  generalize (lg_sl ([.ref h0]) ++ List.replicate (4 - (lg_sl ([.ref h0])).length) Slot.unset).toArray = ls at hl ⊢
  have hl : lv_has ls 4 [(0, .ref h0)] := hl
  have hP : va_P (dC, dI) vwCl [(h0, .inr (2, [.ref h1, .ref h2, .ref h3, .int v0_locals, w0_procedures, w0_calledName, w0_calledAt])), (h1, .inr (4, [.int v1_token, .int v1_tokenAt, .long v1_name, .int v1_fault, .int v1_faultAt, .ref h4, .int v1_size, .int v1_next])), (h2, .inr (3, [.int v2_isThere, .int v2_globals, .int v2_procedures, .int v2_statements, w2_entry, w2_kind, w2_textAt, w2_owner, w2_value, w2_variable, w2_callee, w2_on0, w2_on1, w2_parent, w2_sibling, w2_inside, w2_insideElse, w2_behind])), (h3, .inl (k3, 5, .inr (.inl c3))), (h4, .inl (k4, 600, .inl c4))] s.heap := hP
  obtain ⟨H, hH⟩ : ∃ H, H = s.heap := ⟨_, rfl⟩
  have hS : va_S A s.heap H [] := by rw [hH]; exact hS
  rw [← hH] at hP ⊢
  generalize ([] : List Loc) = locs at hS ⊢
  unfold fX2_readVariableValue at hf
  refine lv_aload_n hx hb dX2_readVariableValue_0 rfl (lv_at hl 0 rfl) ?_
  refine lv_aload_n hx hb dX2_readVariableValue_1 rfl (lv_at hl 0 rfl) ?_
  refine va_get (D := (dC, dI)) (ci := 2) (v := .ref h1) (C := RX2) (T := TX2) (N := 7) hx hb hts inlX2 hown hK hP 0 rfl rfl 0 (by decide) w0_ (fun _ h9 => h9) rfl dX2_readVariableValue_2 ?_
  refine va_get (D := (dC, dI)) (ci := 4) (v := .long v1_name) (C := RX4) (T := TX4) (N := 8) hx hb hts inlX4 hown hK hP 1 rfl rfl 2 (by decide) w1_ (fun _ h9 => h9) rfl dX2_readVariableValue_5 ?_
  obtain ⟨o1, e1, hf⟩ := ob_some hf
  refine kVi (As := [.long v1_name]) (rest := []) ⟨hx, hb, hml, hown, hts⟩ (mX2_findVariable l dC dI h0 h2 h3 k3 H.size base v1_name v0_locals v2_isThere v2_globals v2_procedures v2_statements c3 (.ref h1) w0_procedures w0_calledName w0_calledAt w2_entry w2_kind w2_textAt w2_owner w2_value w2_variable w2_callee w2_on0 w2_on1 w2_parent w2_sibling w2_inside w2_insideElse w2_behind o1 e1) (cwV 1 hts (gTV q683 q684 q685 q27 q686) rfl rfl rfl (by decide +kernel) ⟨Nat.le_of_ble_eq_true rfl, Nat.le_of_ble_eq_true rfl⟩) hK hP hD hS hA hE hAB [0, 2, 3] [1, 4] [0] (wr := [(h1, .inr (4, [.int v1_token, .int v1_tokenAt, .long v1_name, .int v1_fault, .int v1_faultAt, .ref h4, .int v1_size, .int v1_next])), (h4, .inl (k4, 600, .inl c4))]) rfl rfl (by decide) (by decide) (by decide) rfl (ci := 2) (q0 := 0) rfl rfl rfl rfl hl.1 rfl (Nat.le_of_ble_eq_true rfl) dX2_readVariableValue_8 ⟨Nat.zero_le _, Nat.zero_le _⟩ (fun r1 u1 H locs hw1 hP hD hS => ?_)
  obtain ⟨hw11, hw12⟩ := hw1
  subst hw11 hw12
  have hP : va_P (dC, dI) vwCl [(h1, .inr (4, [.int v1_token, .int v1_tokenAt, .long v1_name, .int v1_fault, .int v1_faultAt, .ref h4, .int v1_size, .int v1_next])), (h4, .inl (k4, 600, .inl c4)), (h0, .inr (2, [.ref h1, .ref h2, .ref h3, .int v0_locals, w0_procedures, w0_calledName, w0_calledAt])), (h2, .inr (3, [.int v2_isThere, .int v2_globals, .int v2_procedures, .int v2_statements, w2_entry, w2_kind, w2_textAt, w2_owner, w2_value, w2_variable, w2_callee, w2_on0, w2_on1, w2_parent, w2_sibling, w2_inside, w2_insideElse, w2_behind])), (h3, .inl (k3, 5, .inr (.inl c3)))] H := hP
  have hD : va_D A [(h1, .inr (4, [.int v1_token, .int v1_tokenAt, .long v1_name, .int v1_fault, .int v1_faultAt, .ref h4, .int v1_size, .int v1_next])), (h4, .inl (k4, 600, .inl c4)), (h0, .inr (2, [.ref h1, .ref h2, .ref h3, .int v0_locals, w0_procedures, w0_calledName, w0_calledAt])), (h2, .inr (3, [.int v2_isThere, .int v2_globals, .int v2_procedures, .int v2_statements, w2_entry, w2_kind, w2_textAt, w2_owner, w2_value, w2_variable, w2_callee, w2_on0, w2_on1, w2_parent, w2_sibling, w2_inside, w2_insideElse, w2_behind])), (h3, .inl (k3, 5, .inr (.inl c3)))] := hD
  refine lv_istore_n (lv' := [(1, .int o1.1), (0, .ref h0)]) hx hb dX2_readVariableValue_11 rfl hl (by decide) rfl (fun ls hl => ?_)
  refine lv_iload_n hx hb dX2_readVariableValue_12 rfl (lv_at hl 0 rfl) ?_
  refine lv_iconst (v := (-1)) hx hb dX2_readVariableValue_13 (by decide +kernel) ?_
  refine lv_icmp_ne (tgt := 27) hx hb dX2_readVariableValue_14 (by decide) (fun q2 => ?_) (fun q2 => ?_)
  · replace hf := if_no hf q2
    refine lv_aload_n hx hb dX2_readVariableValue_27 rfl (lv_at hl 1 rfl) ?_
    refine va_get (D := (dC, dI)) (ci := 2) (v := .ref h1) (C := RX2) (T := TX2) (N := 7) hx hb hts inlX2 hown hK hP 2 rfl rfl 0 (by decide) w0_ (fun _ h9 => h9) rfl dX2_readVariableValue_28 ?_
    obtain ⟨o3, e3, hf⟩ := ob_some hf
    refine kVv (As := []) (rest := []) ⟨hx, hb, hml, hown, hts⟩ (mX4_advance l dC dI h1 h4 k4 H.size base v1_token v1_tokenAt v1_name v1_fault v1_faultAt v1_size v1_next c4 o3 e3) (cwV 0 hts (gTV q672 q562 q563 q19 q564) rfl rfl rfl (by decide +kernel) ⟨Nat.le_of_ble_eq_true rfl, Nat.le_of_ble_eq_true rfl⟩) hK hP hD hS hA hE hAB [0, 1] [2, 3, 4] [1] (wr := [(h0, .inr (2, [.ref h1, .ref h2, .ref h3, .int v0_locals, w0_procedures, w0_calledName, w0_calledAt])), (h2, .inr (3, [.int v2_isThere, .int v2_globals, .int v2_procedures, .int v2_statements, w2_entry, w2_kind, w2_textAt, w2_owner, w2_value, w2_variable, w2_callee, w2_on0, w2_on1, w2_parent, w2_sibling, w2_inside, w2_insideElse, w2_behind])), (h3, .inl (k3, 5, .inr (.inl c3)))]) rfl rfl (by decide) (by decide) (by decide) rfl (ci := 4) (q0 := 0) rfl rfl rfl rfl hl.1 rfl (Nat.le_of_ble_eq_true rfl) dX2_readVariableValue_31 ⟨Nat.zero_le _, Nat.zero_le _⟩ (fun u3 H locs hw3 hP hD hS => ?_)
    have hw31 : o3 = u3 := Eq.symm hw3
    subst hw31
    have hP : va_P (dC, dI) vwCl [(h0, .inr (2, [.ref h1, .ref h2, .ref h3, .int v0_locals, w0_procedures, w0_calledName, w0_calledAt])), (h2, .inr (3, [.int v2_isThere, .int v2_globals, .int v2_procedures, .int v2_statements, w2_entry, w2_kind, w2_textAt, w2_owner, w2_value, w2_variable, w2_callee, w2_on0, w2_on1, w2_parent, w2_sibling, w2_inside, w2_insideElse, w2_behind])), (h3, .inl (k3, 5, .inr (.inl c3))), (h1, .inr (4, [.int o3.1, .int o3.2.1, .long o3.2.2.1, .int o3.2.2.2.1, .int o3.2.2.2.2.1, .ref h4, .int v1_size, .int o3.2.2.2.2.2])), (h4, .inl (k4, 600, .inl c4))] H := hP
    have hD : va_D A [(h0, .inr (2, [.ref h1, .ref h2, .ref h3, .int v0_locals, w0_procedures, w0_calledName, w0_calledAt])), (h2, .inr (3, [.int v2_isThere, .int v2_globals, .int v2_procedures, .int v2_statements, w2_entry, w2_kind, w2_textAt, w2_owner, w2_value, w2_variable, w2_callee, w2_on0, w2_on1, w2_parent, w2_sibling, w2_inside, w2_insideElse, w2_behind])), (h3, .inl (k3, 5, .inr (.inl c3))), (h1, .inr (4, [.int o3.1, .int o3.2.1, .long o3.2.2.1, .int o3.2.2.2.1, .int o3.2.2.2.2.1, .ref h4, .int v1_size, .int o3.2.2.2.2.2])), (h4, .inl (k4, 600, .inl c4))] := hD
    refine va_gets hx hb (zb.narrow hAB) hS hown w3_ (fun _ h9 => h9) dX2_readVariableValue_34 ?_
    refine lv_iload_n hx hb dX2_readVariableValue_37 rfl (lv_at hl 0 rfl) ?_
    have b4 := bd_in hf
    replace hf := bd_k hf
    refine va_ti hx hb (ub.narrow hAB) hS b4 (v := .int (xBits.getD o1.1.toNatClampNeg 0)) rfl dX2_readVariableValue_38 ?_
    refine lv_topi (fun x5 e5 => ?_)
    replace hf := nm_at hf e5
    refine lv_i2l hx hb dX2_readVariableValue_39 rfl ?_
    refine lv_topl (fun x6 e6 => ?_)
    replace hf := nm_at hf e6
    refine lv_bipush (v := 32) hx hb dX2_readVariableValue_40 (by decide +kernel) ?_
    refine lv_lshl hx hb dX2_readVariableValue_42 rfl ?_
    refine lv_topl (fun x7 e7 => ?_)
    replace hf := nm_at hf e7
    refine lv_lstore_n (lv' := [(2, .long x7), (1, .int o1.1), (0, .ref h0)]) hx hb dX2_readVariableValue_43 rfl hl (by decide) rfl (fun ls hl => ?_)
    refine lv_lload_n hx hb dX2_readVariableValue_44 rfl (lv_at hl 0 rfl) ?_
    refine lv_lload_n hx hb dX2_readVariableValue_45 rfl (lv_at hl 0 rfl) ?_
    refine lv_ldc2 (v := (-1)) hx hb hown w4_ dX2_readVariableValue_46 ?_
    refine lv_lxor hx hb dX2_readVariableValue_49 ?_
    refine lv_topl (fun x8 e8 => ?_)
    replace hf := nm_at hf e8
    refine lv_bipush (v := 32) hx hb dX2_readVariableValue_50 (by decide +kernel) ?_
    refine lv_lushr hx hb dX2_readVariableValue_52 rfl ?_
    refine lv_topl (fun x9 e9 => ?_)
    replace hf := nm_at hf e9
    refine lv_lor hx hb dX2_readVariableValue_53 ?_
    refine lv_topl (fun x10 e10 => ?_)
    replace hf := nm_at hf e10
    have hf1 := Option.some.inj hf
    subst hf1
    have hP9 := hP.sub (ws' := [(h0, .inr (2, [.ref h1, .ref h2, .ref h3, .int v0_locals, w0_procedures, w0_calledName, w0_calledAt])), (h1, .inr (4, [.int o3.1, .int o3.2.1, .long o3.2.2.1, .int o3.2.2.2.1, .int o3.2.2.2.2.1, .ref h4, .int v1_size, .int o3.2.2.2.2.2])), (h2, .inr (3, [.int v2_isThere, .int v2_globals, .int v2_procedures, .int v2_statements, w2_entry, w2_kind, w2_textAt, w2_owner, w2_value, w2_variable, w2_callee, w2_on0, w2_on1, w2_parent, w2_sibling, w2_inside, w2_insideElse, w2_behind])), (h3, .inl (k3, 5, .inr (.inl c3))), (h4, .inl (k4, 600, .inl c4))]) [0, 3, 1, 2, 4] rfl
    have hD9 := hD.sub (ws' := [(h0, .inr (2, [.ref h1, .ref h2, .ref h3, .int v0_locals, w0_procedures, w0_calledName, w0_calledAt])), (h1, .inr (4, [.int o3.1, .int o3.2.1, .long o3.2.2.1, .int o3.2.2.2.1, .int o3.2.2.2.2.1, .ref h4, .int v1_size, .int o3.2.2.2.2.2])), (h2, .inr (3, [.int v2_isThere, .int v2_globals, .int v2_procedures, .int v2_statements, w2_entry, w2_kind, w2_textAt, w2_owner, w2_value, w2_variable, w2_callee, w2_on0, w2_on1, w2_parent, w2_sibling, w2_inside, w2_insideElse, w2_behind])), (h3, .inl (k3, 5, .inr (.inl c3))), (h4, .inl (k4, 600, .inl c4))]) [0, 3, 1, 2, 4] (by decide) rfl
    exact W.lret (v := x10) hx hb hr (fun t ht hW => ⟨⟨x10, (o3.1, o3.2.1, o3.2.2.1, o3.2.2.2.1, o3.2.2.2.2.1, o3.2.2.2.2.2), rfl, ⟨rfl, rfl⟩, by rw [ht]; exact hP9, va_K.moved hW.alike hK, hD9⟩, hS.F ht⟩) hS.2.2 dX2_readVariableValue_54
  · replace hf := if_at hf q2
    refine lv_aload_n hx hb dX2_readVariableValue_17 rfl (lv_at hl 1 rfl) ?_
    refine va_get (D := (dC, dI)) (ci := 2) (v := .ref h1) (C := RX2) (T := TX2) (N := 7) hx hb hts inlX2 hown hK hP 2 rfl rfl 0 (by decide) w0_ (fun _ h9 => h9) rfl dX2_readVariableValue_18 ?_
    refine lv_iconst (v := 3) hx hb dX2_readVariableValue_21 (by decide +kernel) ?_
    obtain ⟨o11, e11, hf⟩ := ob_some hf
    refine kVv (As := [.int 3]) (rest := []) ⟨hx, hb, hml, hown, hts⟩ (mX4_failHere l dC dI h1 H.size base 3 v1_token v1_tokenAt v1_name v1_fault v1_faultAt v1_size v1_next (.ref h4) o11 e11) (cwV 1 hts (gTV q679 q680 q681 q19 q682) rfl rfl rfl (by decide +kernel) ⟨Nat.le_of_ble_eq_true rfl, Nat.le_of_ble_eq_true rfl⟩) hK hP hD hS hA hE hAB [0] [1, 2, 3, 4] [] (wr := [(h4, .inl (k4, 600, .inl c4)), (h0, .inr (2, [.ref h1, .ref h2, .ref h3, .int v0_locals, w0_procedures, w0_calledName, w0_calledAt])), (h2, .inr (3, [.int v2_isThere, .int v2_globals, .int v2_procedures, .int v2_statements, w2_entry, w2_kind, w2_textAt, w2_owner, w2_value, w2_variable, w2_callee, w2_on0, w2_on1, w2_parent, w2_sibling, w2_inside, w2_insideElse, w2_behind])), (h3, .inl (k3, 5, .inr (.inl c3)))]) rfl rfl (by decide) (by decide) (by decide) rfl (ci := 4) (q0 := 0) rfl rfl rfl rfl hl.1 rfl (Nat.le_of_ble_eq_true rfl) dX2_readVariableValue_22 ⟨Nat.zero_le _, Nat.zero_le _⟩ (fun u11 H locs hw11 hP hD hS => ?_)
    have hw111 : o11 = u11 := Eq.symm hw11
    subst hw111
    have hP : va_P (dC, dI) vwCl [(h4, .inl (k4, 600, .inl c4)), (h0, .inr (2, [.ref h1, .ref h2, .ref h3, .int v0_locals, w0_procedures, w0_calledName, w0_calledAt])), (h2, .inr (3, [.int v2_isThere, .int v2_globals, .int v2_procedures, .int v2_statements, w2_entry, w2_kind, w2_textAt, w2_owner, w2_value, w2_variable, w2_callee, w2_on0, w2_on1, w2_parent, w2_sibling, w2_inside, w2_insideElse, w2_behind])), (h3, .inl (k3, 5, .inr (.inl c3))), (h1, .inr (4, [.int o11.1, .int v1_tokenAt, .long v1_name, .int o11.2.1, .int o11.2.2, .ref h4, .int v1_size, .int v1_next]))] H := hP
    have hD : va_D A [(h4, .inl (k4, 600, .inl c4)), (h0, .inr (2, [.ref h1, .ref h2, .ref h3, .int v0_locals, w0_procedures, w0_calledName, w0_calledAt])), (h2, .inr (3, [.int v2_isThere, .int v2_globals, .int v2_procedures, .int v2_statements, w2_entry, w2_kind, w2_textAt, w2_owner, w2_value, w2_variable, w2_callee, w2_on0, w2_on1, w2_parent, w2_sibling, w2_inside, w2_insideElse, w2_behind])), (h3, .inl (k3, 5, .inr (.inl c3))), (h1, .inr (4, [.int o11.1, .int v1_tokenAt, .long v1_name, .int o11.2.1, .int o11.2.2, .ref h4, .int v1_size, .int v1_next]))] := hD
    refine lv_lconst (v := 0) hx hb dX2_readVariableValue_25 (by decide) ?_
    have hf1 := Option.some.inj hf
    subst hf1
    have hP9 := hP.sub (ws' := [(h0, .inr (2, [.ref h1, .ref h2, .ref h3, .int v0_locals, w0_procedures, w0_calledName, w0_calledAt])), (h1, .inr (4, [.int o11.1, .int v1_tokenAt, .long v1_name, .int o11.2.1, .int o11.2.2, .ref h4, .int v1_size, .int v1_next])), (h2, .inr (3, [.int v2_isThere, .int v2_globals, .int v2_procedures, .int v2_statements, w2_entry, w2_kind, w2_textAt, w2_owner, w2_value, w2_variable, w2_callee, w2_on0, w2_on1, w2_parent, w2_sibling, w2_inside, w2_insideElse, w2_behind])), (h3, .inl (k3, 5, .inr (.inl c3))), (h4, .inl (k4, 600, .inl c4))]) [1, 4, 2, 3, 0] rfl
    have hD9 := hD.sub (ws' := [(h0, .inr (2, [.ref h1, .ref h2, .ref h3, .int v0_locals, w0_procedures, w0_calledName, w0_calledAt])), (h1, .inr (4, [.int o11.1, .int v1_tokenAt, .long v1_name, .int o11.2.1, .int o11.2.2, .ref h4, .int v1_size, .int v1_next])), (h2, .inr (3, [.int v2_isThere, .int v2_globals, .int v2_procedures, .int v2_statements, w2_entry, w2_kind, w2_textAt, w2_owner, w2_value, w2_variable, w2_callee, w2_on0, w2_on1, w2_parent, w2_sibling, w2_inside, w2_insideElse, w2_behind])), (h3, .inl (k3, 5, .inr (.inl c3))), (h4, .inl (k4, 600, .inl c4))]) [1, 4, 2, 3, 0] (by decide) rfl
    exact W.lret (v := 0) hx hb hr (fun t ht hW => ⟨⟨0, (o11.1, v1_tokenAt, v1_name, o11.2.1, o11.2.2, v1_next), rfl, ⟨rfl, rfl⟩, by rw [ht]; exact hP9, va_K.moved hW.alike hK, hD9⟩, hS.F ht⟩) hS.2.2 dX2_readVariableValue_26
set_option maxHeartbeats 4000000 in
set_option maxRecDepth 100000 in
theorem mX2_readVariables (l : Launch) (dC : Nat → ClassId) (dI : Nat → Nat → Nat) (h0 h1 h2 h3 h4 : Nat) (k2 k4 : ClassId) (sz : Nat) (base : Nat × Nat × Nat) (a0 : Int32) (v0_locals : Int32) (v1_token : Int32) (v1_tokenAt : Int32) (v1_name : Int64) (v1_fault : Int32) (v1_faultAt : Int32) (v1_size : Int32) (v1_next : Int32) (c2 : Nat → Int32) (v3_isThere : Int32) (v3_globals : Int32) (v3_procedures : Int32) (v3_statements : Int32) (c4 : Nat → Int64) (w0_procedures : Value) (w0_calledName : Value) (w0_calledAt : Value) (w3_entry : Value) (w3_kind : Value) (w3_textAt : Value) (w3_owner : Value) (w3_value : Value) (w3_variable : Value) (w3_callee : Value) (w3_on0 : Value) (w3_on1 : Value) (w3_parent : Value) (w3_sibling : Value) (w3_inside : Value) (w3_insideElse : Value) (w3_behind : Value) (o : Int32 × Int32 × Int32 × Int64 × Int32 × Int32 × Int32 × Int32 × (Nat → Int64)) (hf : fX2_readVariables a0 v0_locals v1_token v1_tokenAt v1_name v1_fault v1_faultAt v1_size v1_next c2 v3_globals c4 = some o) : Met l yX2_readVariables (.code yX2_readVariables cX2_readVariables 3 none :: wsL_law) ({ frames := 6, cells := 0, slots := 0, locals := 134 }) (cPre (dC, dI) vwCl [.ref h0, .int a0] sz base [(h0, .inr (2, [.ref h1, .ref h3, .ref h4, .int v0_locals, w0_procedures, w0_calledName, w0_calledAt])), (h1, .inr (4, [.int v1_token, .int v1_tokenAt, .long v1_name, .int v1_fault, .int v1_faultAt, .ref h2, .int v1_size, .int v1_next])), (h2, .inl (k2, 600, .inl c2)), (h3, .inr (3, [.int v3_isThere, .int v3_globals, .int v3_procedures, .int v3_statements, w3_entry, w3_kind, w3_textAt, w3_owner, w3_value, w3_variable, w3_callee, w3_on0, w3_on1, w3_parent, w3_sibling, w3_inside, w3_insideElse, w3_behind])), (h4, .inl (k4, 5, .inr (.inl c4)))] [(k2, .byte), (k4, .long)]) (va_Qv (fun u => u = o) (fun (u : Int32 × Int32 × Int32 × Int64 × Int32 × Int32 × Int32 × Int32 × (Nat → Int64)) t => cPost (dC, dI) vwCl (va_A [(h0, .inr (2, [.ref h1, .ref h3, .ref h4, .int v0_locals, w0_procedures, w0_calledName, w0_calledAt])), (h1, .inr (4, [.int v1_token, .int v1_tokenAt, .long v1_name, .int v1_fault, .int v1_faultAt, .ref h2, .int v1_size, .int v1_next])), (h2, .inl (k2, 600, .inl c2)), (h3, .inr (3, [.int v3_isThere, .int v3_globals, .int v3_procedures, .int v3_statements, w3_entry, w3_kind, w3_textAt, w3_owner, w3_value, w3_variable, w3_callee, w3_on0, w3_on1, w3_parent, w3_sibling, w3_inside, w3_insideElse, w3_behind])), (h4, .inl (k4, 5, .inr (.inl c4)))] sz) [(h0, .inr (2, [.ref h1, .ref h3, .ref h4, .int u.1, w0_procedures, w0_calledName, w0_calledAt])), (h1, .inr (4, [.int u.2.1, .int u.2.2.1, .long u.2.2.2.1, .int u.2.2.2.2.1, .int u.2.2.2.2.2.1, .ref h2, .int v1_size, .int u.2.2.2.2.2.2.1])), (h2, .inl (k2, 600, .inl c2)), (h3, .inr (3, [.int v3_isThere, .int u.2.2.2.2.2.2.2.1, .int v3_procedures, .int v3_statements, w3_entry, w3_kind, w3_textAt, w3_owner, w3_value, w3_variable, w3_callee, w3_on0, w3_on1, w3_parent, w3_sibling, w3_inside, w3_insideElse, w3_behind])), (h4, .inl (k4, 5, .inr (.inl u.2.2.2.2.2.2.2.2)))] [(k2, .byte), (k4, .long)] t) (va_A [(h0, .inr (2, [.ref h1, .ref h3, .ref h4, .int v0_locals, w0_procedures, w0_calledName, w0_calledAt])), (h1, .inr (4, [.int v1_token, .int v1_tokenAt, .long v1_name, .int v1_fault, .int v1_faultAt, .ref h2, .int v1_size, .int v1_next])), (h2, .inl (k2, 600, .inl c2)), (h3, .inr (3, [.int v3_isThere, .int v3_globals, .int v3_procedures, .int v3_statements, w3_entry, w3_kind, w3_textAt, w3_owner, w3_value, w3_variable, w3_callee, w3_on0, w3_on1, w3_parent, w3_sibling, w3_inside, w3_insideElse, w3_behind])), (h4, .inl (k4, 5, .inr (.inl c4)))] sz)) 0 0 (va_A [(h0, .inr (2, [.ref h1, .ref h3, .ref h4, .int v0_locals, w0_procedures, w0_calledName, w0_calledAt])), (h1, .inr (4, [.int v1_token, .int v1_tokenAt, .long v1_name, .int v1_fault, .int v1_faultAt, .ref h2, .int v1_size, .int v1_next])), (h2, .inl (k2, 600, .inl c2)), (h3, .inr (3, [.int v3_isThere, .int v3_globals, .int v3_procedures, .int v3_statements, w3_entry, w3_kind, w3_textAt, w3_owner, w3_value, w3_variable, w3_callee, w3_on0, w3_on1, w3_parent, w3_sibling, w3_inside, w3_insideElse, w3_behind])), (h4, .inl (k4, 5, .inr (.inl c4)))] sz) := by
  refine Met.ofW (cc := cX2_readVariables) (maxL := 3) (ret := none) (by decide) rfl ?_
  intro p e s m args below meth c s₁ B hml hv
  obtain ⟨rfl, hsz, hP, hK, hD0, hE⟩ := hv
  have hx := B.exec
  have hb := B.bytes
  have hr := B.returns
  have hts : ∀ w ∈ wsL_law, _ := fun w h => atoms_spec (ws := .code yX2_readVariables cX2_readVariables 3 none :: wsL_law) B.pre w (List.mem_cons_of_mem _ h)
  have hown : s.vm.findClass RX2 = some m.cls := findClass_of_methodNamed B.named
  have hlocks := B.notSynchronized
  have w0_ := hts _ q72
  have w1_ := hts _ q544
  subst hsz
  have hD := hD0.self (sz := s.heap.size)
  generalize hAe : va_A [(h0, .inr (2, [.ref h1, .ref h3, .ref h4, .int v0_locals, w0_procedures, w0_calledName, w0_calledAt])), (h1, .inr (4, [.int v1_token, .int v1_tokenAt, .long v1_name, .int v1_fault, .int v1_faultAt, .ref h2, .int v1_size, .int v1_next])), (h2, .inl (k2, 600, .inl c2)), (h3, .inr (3, [.int v3_isThere, .int v3_globals, .int v3_procedures, .int v3_statements, w3_entry, w3_kind, w3_textAt, w3_owner, w3_value, w3_variable, w3_callee, w3_on0, w3_on1, w3_parent, w3_sibling, w3_inside, w3_insideElse, w3_behind])), (h4, .inl (k4, 5, .inr (.inl c4)))] s.heap.size = A at hD ⊢
  have hA : ∀ q : Nat, s.heap.size ≤ q → A q := fun q h => by rw [← hAe]; exact Or.inr h
  have hAB : ∀ q : Nat, A q → base.1 ≤ q := fun q h => by rw [← hAe] at h; exact h.elim (fun ⟨k, e, hk⟩ => hD0.2 k _ hk) (fun hk => Nat.le_trans hE.1 hk)
  have hS : va_S A s.heap s.heap [] := va_S.rf
  have hl := lv_entry ([.ref h0, .int a0]) (n := 3) (Nat.le_of_ble_eq_true rfl)
  rw [lg_entry_eq]
  generalize (lg_sl ([.ref h0, .int a0]) ++ List.replicate (3 - (lg_sl ([.ref h0, .int a0])).length) Slot.unset).toArray = ls at hl ⊢
  have hl : lv_has ls 3 [(0, .ref h0), (1, .int a0)] := hl
  have hP : va_P (dC, dI) vwCl [(h0, .inr (2, [.ref h1, .ref h3, .ref h4, .int v0_locals, w0_procedures, w0_calledName, w0_calledAt])), (h1, .inr (4, [.int v1_token, .int v1_tokenAt, .long v1_name, .int v1_fault, .int v1_faultAt, .ref h2, .int v1_size, .int v1_next])), (h2, .inl (k2, 600, .inl c2)), (h3, .inr (3, [.int v3_isThere, .int v3_globals, .int v3_procedures, .int v3_statements, w3_entry, w3_kind, w3_textAt, w3_owner, w3_value, w3_variable, w3_callee, w3_on0, w3_on1, w3_parent, w3_sibling, w3_inside, w3_insideElse, w3_behind])), (h4, .inl (k4, 5, .inr (.inl c4)))] s.heap := hP
  refine gl_intro (fun G hG => ?_)
  have J49 : ∀ (v0_locals : Int32) (v1_token : Int32) (v1_tokenAt : Int32) (v1_name : Int64) (v1_fault : Int32) (v1_faultAt : Int32) (v1_next : Int32) (v3_globals : Int32) (c4 : (Nat → Int64)) (H : Heap) (locs : List Loc) (ls : Array Slot), va_P (dC, dI) vwCl [(h0, .inr (2, [.ref h1, .ref h3, .ref h4, .int v0_locals, w0_procedures, w0_calledName, w0_calledAt])), (h1, .inr (4, [.int v1_token, .int v1_tokenAt, .long v1_name, .int v1_fault, .int v1_faultAt, .ref h2, .int v1_size, .int v1_next])), (h2, .inl (k2, 600, .inl c2)), (h3, .inr (3, [.int v3_isThere, .int v3_globals, .int v3_procedures, .int v3_statements, w3_entry, w3_kind, w3_textAt, w3_owner, w3_value, w3_variable, w3_callee, w3_on0, w3_on1, w3_parent, w3_sibling, w3_inside, w3_insideElse, w3_behind])), (h4, .inl (k4, 5, .inr (.inl c4)))] H → va_D A [(h0, .inr (2, [.ref h1, .ref h3, .ref h4, .int v0_locals, w0_procedures, w0_calledName, w0_calledAt])), (h1, .inr (4, [.int v1_token, .int v1_tokenAt, .long v1_name, .int v1_fault, .int v1_faultAt, .ref h2, .int v1_size, .int v1_next])), (h2, .inl (k2, 600, .inl c2)), (h3, .inr (3, [.int v3_isThere, .int v3_globals, .int v3_procedures, .int v3_statements, w3_entry, w3_kind, w3_textAt, w3_owner, w3_value, w3_variable, w3_callee, w3_on0, w3_on1, w3_parent, w3_sibling, w3_inside, w3_insideElse, w3_behind])), (h4, .inl (k4, 5, .inr (.inl c4)))] → va_S A s.heap H locs → lv_has ls 3 [(0, .ref h0)] → fX2_readVariables_p49 v1_size c2  v0_locals v1_token v1_tokenAt v1_name v1_fault v1_faultAt v1_next v3_globals c4 = some o → G 0 0 H locs (F0 m 49 ls []) := by
    intro  v0_locals v1_token v1_tokenAt v1_name v1_fault v1_faultAt v1_next v3_globals c4 H locs ls hP hD hS hl hf
    refine (hG _ _ _ _ _).mpr ?_
    unfold fX2_readVariables_p49 at hf
    refine lv_aload_n hx hb dX2_readVariables_49 rfl (lv_at hl 0 rfl) ?_
    refine va_get (D := (dC, dI)) (ci := 2) (v := .ref h1) (C := RX2) (T := TX2) (N := 7) hx hb hts inlX2 hown hK hP 0 rfl rfl 0 (by decide) w0_ (fun _ h9 => h9) rfl dX2_readVariables_50 ?_
    refine lv_bipush (v := 59) hx hb dX2_readVariables_53 (by decide +kernel) ?_
    obtain ⟨o1, e1, hf⟩ := ob_some hf
    refine kVi (As := [.int 59]) (rest := []) ⟨hx, hb, hml, hown, hts⟩ (mX4_skipToken l dC dI h1 h2 k2 H.size base 59 v1_token v1_tokenAt v1_name v1_fault v1_faultAt v1_size v1_next c2 o1 e1) (cwV 1 hts (gTV q687 q688 q689 q19 q690) rfl rfl rfl (by decide +kernel) ⟨Nat.le_of_ble_eq_true rfl, Nat.le_of_ble_eq_true rfl⟩) hK hP hD hS hA hE hAB [1, 2] [0, 3, 4] [0] (wr := [(h0, .inr (2, [.ref h1, .ref h3, .ref h4, .int v0_locals, w0_procedures, w0_calledName, w0_calledAt])), (h3, .inr (3, [.int v3_isThere, .int v3_globals, .int v3_procedures, .int v3_statements, w3_entry, w3_kind, w3_textAt, w3_owner, w3_value, w3_variable, w3_callee, w3_on0, w3_on1, w3_parent, w3_sibling, w3_inside, w3_insideElse, w3_behind])), (h4, .inl (k4, 5, .inr (.inl c4)))]) rfl rfl (by decide) (by decide) (by decide) rfl (ci := 4) (q0 := 0) rfl rfl rfl rfl hl.1 rfl (Nat.le_of_ble_eq_true rfl) dX2_readVariables_55 ⟨Nat.zero_le _, Nat.zero_le _⟩ (fun r1 u1 H locs hw1 hP hD hS => ?_)
    obtain ⟨hw11, hw12⟩ := hw1
    subst hw11 hw12
    have hP : va_P (dC, dI) vwCl [(h0, .inr (2, [.ref h1, .ref h3, .ref h4, .int v0_locals, w0_procedures, w0_calledName, w0_calledAt])), (h3, .inr (3, [.int v3_isThere, .int v3_globals, .int v3_procedures, .int v3_statements, w3_entry, w3_kind, w3_textAt, w3_owner, w3_value, w3_variable, w3_callee, w3_on0, w3_on1, w3_parent, w3_sibling, w3_inside, w3_insideElse, w3_behind])), (h4, .inl (k4, 5, .inr (.inl c4))), (h1, .inr (4, [.int o1.2.1, .int o1.2.2.1, .long o1.2.2.2.1, .int o1.2.2.2.2.1, .int o1.2.2.2.2.2.1, .ref h2, .int v1_size, .int o1.2.2.2.2.2.2])), (h2, .inl (k2, 600, .inl c2))] H := hP
    have hD : va_D A [(h0, .inr (2, [.ref h1, .ref h3, .ref h4, .int v0_locals, w0_procedures, w0_calledName, w0_calledAt])), (h3, .inr (3, [.int v3_isThere, .int v3_globals, .int v3_procedures, .int v3_statements, w3_entry, w3_kind, w3_textAt, w3_owner, w3_value, w3_variable, w3_callee, w3_on0, w3_on1, w3_parent, w3_sibling, w3_inside, w3_insideElse, w3_behind])), (h4, .inl (k4, 5, .inr (.inl c4))), (h1, .inr (4, [.int o1.2.1, .int o1.2.2.1, .long o1.2.2.2.1, .int o1.2.2.2.2.1, .int o1.2.2.2.2.2.1, .ref h2, .int v1_size, .int o1.2.2.2.2.2.2])), (h2, .inl (k2, 600, .inl c2))] := hD
    refine lv_pop hx hb dX2_readVariables_58 rfl ?_
    have hf1 := Option.some.inj hf
    subst hf1
    have hP9 := hP.sub (ws' := [(h0, .inr (2, [.ref h1, .ref h3, .ref h4, .int v0_locals, w0_procedures, w0_calledName, w0_calledAt])), (h1, .inr (4, [.int o1.2.1, .int o1.2.2.1, .long o1.2.2.2.1, .int o1.2.2.2.2.1, .int o1.2.2.2.2.2.1, .ref h2, .int v1_size, .int o1.2.2.2.2.2.2])), (h2, .inl (k2, 600, .inl c2)), (h3, .inr (3, [.int v3_isThere, .int v3_globals, .int v3_procedures, .int v3_statements, w3_entry, w3_kind, w3_textAt, w3_owner, w3_value, w3_variable, w3_callee, w3_on0, w3_on1, w3_parent, w3_sibling, w3_inside, w3_insideElse, w3_behind])), (h4, .inl (k4, 5, .inr (.inl c4)))]) [0, 3, 4, 1, 2] rfl
    have hD9 := hD.sub (ws' := [(h0, .inr (2, [.ref h1, .ref h3, .ref h4, .int v0_locals, w0_procedures, w0_calledName, w0_calledAt])), (h1, .inr (4, [.int o1.2.1, .int o1.2.2.1, .long o1.2.2.2.1, .int o1.2.2.2.2.1, .int o1.2.2.2.2.2.1, .ref h2, .int v1_size, .int o1.2.2.2.2.2.2])), (h2, .inl (k2, 600, .inl c2)), (h3, .inr (3, [.int v3_isThere, .int v3_globals, .int v3_procedures, .int v3_statements, w3_entry, w3_kind, w3_textAt, w3_owner, w3_value, w3_variable, w3_callee, w3_on0, w3_on1, w3_parent, w3_sibling, w3_inside, w3_insideElse, w3_behind])), (h4, .inl (k4, 5, .inr (.inl c4)))]) [0, 3, 4, 1, 2] (by decide) rfl
    exact W.vret hx hb hr (fun t ht hW => ⟨⟨(v0_locals, o1.2.1, o1.2.2.1, o1.2.2.2.1, o1.2.2.2.2.1, o1.2.2.2.2.2.1, o1.2.2.2.2.2.2, v3_globals, c4), rfl, rfl, by rw [ht]; exact hP9, va_K.moved hW.alike hK, hD9⟩, hS.F ht⟩) hS.2.2 dX2_readVariables_59
  have B14 : ∀ (k14 : Int32 → Int32 → Int32 → Int32 → Int32 → Int64 → Int32 → Int32 → Int32 → Int32 → (Nat → Int64) → Option (Int32 × Int32 × Int32 × Int64 × Int32 × Int32 × Int32 × Int32 × (Nat → Int64))) (hk14 : ∀ (y1 : Int32) (y2 : Int32) (v0_locals : Int32) (v1_token : Int32) (v1_tokenAt : Int32) (v1_name : Int64) (v1_fault : Int32) (v1_faultAt : Int32) (v1_next : Int32) (v3_globals : Int32) (c4 : (Nat → Int64)) (H : Heap) (locs : List Loc) (ls : Array Slot), va_P (dC, dI) vwCl [(h0, .inr (2, [.ref h1, .ref h3, .ref h4, .int v0_locals, w0_procedures, w0_calledName, w0_calledAt])), (h1, .inr (4, [.int v1_token, .int v1_tokenAt, .long v1_name, .int v1_fault, .int v1_faultAt, .ref h2, .int v1_size, .int v1_next])), (h2, .inl (k2, 600, .inl c2)), (h3, .inr (3, [.int v3_isThere, .int v3_globals, .int v3_procedures, .int v3_statements, w3_entry, w3_kind, w3_textAt, w3_owner, w3_value, w3_variable, w3_callee, w3_on0, w3_on1, w3_parent, w3_sibling, w3_inside, w3_insideElse, w3_behind])), (h4, .inl (k4, 5, .inr (.inl c4)))] H → va_D A [(h0, .inr (2, [.ref h1, .ref h3, .ref h4, .int v0_locals, w0_procedures, w0_calledName, w0_calledAt])), (h1, .inr (4, [.int v1_token, .int v1_tokenAt, .long v1_name, .int v1_fault, .int v1_faultAt, .ref h2, .int v1_size, .int v1_next])), (h2, .inl (k2, 600, .inl c2)), (h3, .inr (3, [.int v3_isThere, .int v3_globals, .int v3_procedures, .int v3_statements, w3_entry, w3_kind, w3_textAt, w3_owner, w3_value, w3_variable, w3_callee, w3_on0, w3_on1, w3_parent, w3_sibling, w3_inside, w3_insideElse, w3_behind])), (h4, .inl (k4, 5, .inr (.inl c4)))] → va_S A s.heap H locs → lv_has ls 3 [(0, .ref h0), (1, .int y1), (2, .int y2)] → k14 y1 y2 v0_locals v1_token v1_tokenAt v1_name v1_fault v1_faultAt v1_next v3_globals c4 = some o → G 0 0 H locs (F0 m 14 ls [])), ∀ (y1 : Int32) (y2 : Int32) (v0_locals : Int32) (v1_token : Int32) (v1_tokenAt : Int32) (v1_name : Int64) (v1_fault : Int32) (v1_faultAt : Int32) (v1_next : Int32) (v3_globals : Int32) (c4 : (Nat → Int64)) (H : Heap) (locs : List Loc) (ls : Array Slot), va_P (dC, dI) vwCl [(h0, .inr (2, [.ref h1, .ref h3, .ref h4, .int v0_locals, w0_procedures, w0_calledName, w0_calledAt])), (h1, .inr (4, [.int v1_token, .int v1_tokenAt, .long v1_name, .int v1_fault, .int v1_faultAt, .ref h2, .int v1_size, .int v1_next])), (h2, .inl (k2, 600, .inl c2)), (h3, .inr (3, [.int v3_isThere, .int v3_globals, .int v3_procedures, .int v3_statements, w3_entry, w3_kind, w3_textAt, w3_owner, w3_value, w3_variable, w3_callee, w3_on0, w3_on1, w3_parent, w3_sibling, w3_inside, w3_insideElse, w3_behind])), (h4, .inl (k4, 5, .inr (.inl c4)))] H → va_D A [(h0, .inr (2, [.ref h1, .ref h3, .ref h4, .int v0_locals, w0_procedures, w0_calledName, w0_calledAt])), (h1, .inr (4, [.int v1_token, .int v1_tokenAt, .long v1_name, .int v1_fault, .int v1_faultAt, .ref h2, .int v1_size, .int v1_next])), (h2, .inl (k2, 600, .inl c2)), (h3, .inr (3, [.int v3_isThere, .int v3_globals, .int v3_procedures, .int v3_statements, w3_entry, w3_kind, w3_textAt, w3_owner, w3_value, w3_variable, w3_callee, w3_on0, w3_on1, w3_parent, w3_sibling, w3_inside, w3_insideElse, w3_behind])), (h4, .inl (k4, 5, .inr (.inl c4)))] → va_S A s.heap H locs → lv_has ls 3 [(0, .ref h0), (1, .int y1), (2, .int y2)] → fX2_readVariables_b14 v1_size c2  k14 y1 y2 v0_locals v1_token v1_tokenAt v1_name v1_fault v1_faultAt v1_next v3_globals c4 = some o → G 0 0 H locs (F0 m 14 ls []) := by
    intro  k14 hk14 y1 y2 v0_locals v1_token v1_tokenAt v1_name v1_fault v1_faultAt v1_next v3_globals c4 H locs ls hP hD hS hl hf
    refine (hG _ _ _ _ _).mpr ?_
    unfold fX2_readVariables_b14 at hf
    refine lv_iload_n hx hb dX2_readVariables_14 rfl (lv_at hl 2 rfl) ?_
    refine lv_iconst (v := 3) hx hb dX2_readVariables_15 (by decide +kernel) ?_
    refine lv_icmp_ge (tgt := 49) hx hb dX2_readVariables_16 (by decide) (fun q2 => ?_) (fun q2 => ?_)
    · replace hf := if_at hf q2
      exact (hG _ _ _ _ _).mp (J49 v0_locals v1_token v1_tokenAt v1_name v1_fault v1_faultAt v1_next v3_globals c4 H locs ls (hP.sub [0, 1, 2, 3, 4] rfl) (hD.sub [0, 1, 2, 3, 4] (by decide) rfl) hS (lv_sub hl [0] rfl) hf)
    · replace hf := if_no hf q2
      refine lv_aload_n hx hb dX2_readVariables_19 rfl (lv_at hl 0 rfl) ?_
      refine va_get (D := (dC, dI)) (ci := 2) (v := .ref h1) (C := RX2) (T := TX2) (N := 7) hx hb hts inlX2 hown hK hP 0 rfl rfl 0 (by decide) w0_ (fun _ h9 => h9) rfl dX2_readVariables_20 ?_
      refine va_get (D := (dC, dI)) (ci := 4) (v := .int v1_token) (C := RX4) (T := TX4) (N := 8) hx hb hts inlX4 hown hK hP 1 rfl rfl 0 (by decide) w1_ (fun _ h9 => h9) rfl dX2_readVariables_23 ?_
      refine lv_bipush (v := 44) hx hb dX2_readVariables_26 (by decide +kernel) ?_
      refine lv_icmp_ne (tgt := 49) hx hb dX2_readVariables_28 (by decide) (fun q3 => ?_) (fun q3 => ?_)
      · replace hf := if_no hf q3
        exact (hG _ _ _ _ _).mp (J49 v0_locals v1_token v1_tokenAt v1_name v1_fault v1_faultAt v1_next v3_globals c4 H locs ls (hP.sub [0, 1, 2, 3, 4] rfl) (hD.sub [0, 1, 2, 3, 4] (by decide) rfl) hS (lv_sub hl [0] rfl) hf)
      · replace hf := if_at hf q3
        refine lv_aload_n hx hb dX2_readVariables_31 rfl (lv_at hl 0 rfl) ?_
        refine va_get (D := (dC, dI)) (ci := 2) (v := .ref h1) (C := RX2) (T := TX2) (N := 7) hx hb hts inlX2 hown hK hP 0 rfl rfl 0 (by decide) w0_ (fun _ h9 => h9) rfl dX2_readVariables_32 ?_
        obtain ⟨o4, e4, hf⟩ := ob_some hf
        refine kVv (As := []) (rest := []) ⟨hx, hb, hml, hown, hts⟩ (mX4_advance l dC dI h1 h2 k2 H.size base v1_token v1_tokenAt v1_name v1_fault v1_faultAt v1_size v1_next c2 o4 e4) (cwV 0 hts (gTV q672 q562 q563 q19 q564) rfl rfl rfl (by decide +kernel) ⟨Nat.le_of_ble_eq_true rfl, Nat.le_of_ble_eq_true rfl⟩) hK hP hD hS hA hE hAB [1, 2] [0, 3, 4] [0] (wr := [(h0, .inr (2, [.ref h1, .ref h3, .ref h4, .int v0_locals, w0_procedures, w0_calledName, w0_calledAt])), (h3, .inr (3, [.int v3_isThere, .int v3_globals, .int v3_procedures, .int v3_statements, w3_entry, w3_kind, w3_textAt, w3_owner, w3_value, w3_variable, w3_callee, w3_on0, w3_on1, w3_parent, w3_sibling, w3_inside, w3_insideElse, w3_behind])), (h4, .inl (k4, 5, .inr (.inl c4)))]) rfl rfl (by decide) (by decide) (by decide) rfl (ci := 4) (q0 := 0) rfl rfl rfl rfl hl.1 rfl (Nat.le_of_ble_eq_true rfl) dX2_readVariables_35 ⟨Nat.zero_le _, Nat.zero_le _⟩ (fun u4 H locs hw4 hP hD hS => ?_)
        have hw41 : o4 = u4 := Eq.symm hw4
        subst hw41
        have hP : va_P (dC, dI) vwCl [(h0, .inr (2, [.ref h1, .ref h3, .ref h4, .int v0_locals, w0_procedures, w0_calledName, w0_calledAt])), (h3, .inr (3, [.int v3_isThere, .int v3_globals, .int v3_procedures, .int v3_statements, w3_entry, w3_kind, w3_textAt, w3_owner, w3_value, w3_variable, w3_callee, w3_on0, w3_on1, w3_parent, w3_sibling, w3_inside, w3_insideElse, w3_behind])), (h4, .inl (k4, 5, .inr (.inl c4))), (h1, .inr (4, [.int o4.1, .int o4.2.1, .long o4.2.2.1, .int o4.2.2.2.1, .int o4.2.2.2.2.1, .ref h2, .int v1_size, .int o4.2.2.2.2.2])), (h2, .inl (k2, 600, .inl c2))] H := hP
        have hD : va_D A [(h0, .inr (2, [.ref h1, .ref h3, .ref h4, .int v0_locals, w0_procedures, w0_calledName, w0_calledAt])), (h3, .inr (3, [.int v3_isThere, .int v3_globals, .int v3_procedures, .int v3_statements, w3_entry, w3_kind, w3_textAt, w3_owner, w3_value, w3_variable, w3_callee, w3_on0, w3_on1, w3_parent, w3_sibling, w3_inside, w3_insideElse, w3_behind])), (h4, .inl (k4, 5, .inr (.inl c4))), (h1, .inr (4, [.int o4.1, .int o4.2.1, .long o4.2.2.1, .int o4.2.2.2.1, .int o4.2.2.2.2.1, .ref h2, .int v1_size, .int o4.2.2.2.2.2])), (h2, .inl (k2, 600, .inl c2))] := hD
        refine lv_aload_n hx hb dX2_readVariables_38 rfl (lv_at hl 0 rfl) ?_
        refine lv_iload_n hx hb dX2_readVariables_39 rfl (lv_at hl 1 rfl) ?_
        obtain ⟨o5, e5, hf⟩ := ob_some hf
        refine kVv (As := [.int y1]) (rest := []) ⟨hx, hb, hml, hown, hts⟩ (mX2_readVariable l dC dI h0 h1 h3 h4 h2 k4 k2 H.size base y1 v0_locals o4.1 o4.2.1 o4.2.2.1 o4.2.2.2.1 o4.2.2.2.2.1 v1_size o4.2.2.2.2.2 v3_isThere v3_globals v3_procedures v3_statements c4 c2 w0_procedures w0_calledName w0_calledAt w3_entry w3_kind w3_textAt w3_owner w3_value w3_variable w3_callee w3_on0 w3_on1 w3_parent w3_sibling w3_inside w3_insideElse w3_behind o5 e5) (cwV 1 hts (gTV q673 q674 q675 q27 q676) rfl rfl rfl (by decide +kernel) ⟨Nat.le_of_ble_eq_true rfl, Nat.le_of_ble_eq_true rfl⟩) hK hP hD hS hA hE hAB [0, 3, 1, 2, 4] [] [1, 0] (wr := []) rfl rfl (by decide) (by decide) (by decide) rfl (ci := 2) (q0 := 0) rfl rfl rfl rfl hl.1 rfl (Nat.le_of_ble_eq_true rfl) dX2_readVariables_40 ⟨Nat.zero_le _, Nat.zero_le _⟩ (fun u5 H locs hw5 hP hD hS => ?_)
        have hw51 : o5 = u5 := Eq.symm hw5
        subst hw51
        have hP : va_P (dC, dI) vwCl [(h0, .inr (2, [.ref h1, .ref h3, .ref h4, .int o5.1, w0_procedures, w0_calledName, w0_calledAt])), (h1, .inr (4, [.int o5.2.1, .int o5.2.2.1, .long o5.2.2.2.1, .int o5.2.2.2.2.1, .int o5.2.2.2.2.2.1, .ref h2, .int v1_size, .int o5.2.2.2.2.2.2.1])), (h3, .inr (3, [.int v3_isThere, .int o5.2.2.2.2.2.2.2.1, .int v3_procedures, .int v3_statements, w3_entry, w3_kind, w3_textAt, w3_owner, w3_value, w3_variable, w3_callee, w3_on0, w3_on1, w3_parent, w3_sibling, w3_inside, w3_insideElse, w3_behind])), (h4, .inl (k4, 5, .inr (.inl o5.2.2.2.2.2.2.2.2))), (h2, .inl (k2, 600, .inl c2))] H := hP
        have hD : va_D A [(h0, .inr (2, [.ref h1, .ref h3, .ref h4, .int o5.1, w0_procedures, w0_calledName, w0_calledAt])), (h1, .inr (4, [.int o5.2.1, .int o5.2.2.1, .long o5.2.2.2.1, .int o5.2.2.2.2.1, .int o5.2.2.2.2.2.1, .ref h2, .int v1_size, .int o5.2.2.2.2.2.2.1])), (h3, .inr (3, [.int v3_isThere, .int o5.2.2.2.2.2.2.2.1, .int v3_procedures, .int v3_statements, w3_entry, w3_kind, w3_textAt, w3_owner, w3_value, w3_variable, w3_callee, w3_on0, w3_on1, w3_parent, w3_sibling, w3_inside, w3_insideElse, w3_behind])), (h4, .inl (k4, 5, .inr (.inl o5.2.2.2.2.2.2.2.2))), (h2, .inl (k2, 600, .inl c2))] := hD
        obtain ⟨x6, e6⟩ : ∃ y : Int32, y = y2 + 1 := ⟨_, rfl⟩
        replace hf := nm_at hf e6
        refine lv_iinc (v := x6) (lv' := [(2, .int x6), (0, .ref h0), (1, .int y1)]) hx hb dX2_readVariables_43 hl (k := 2) rfl (by rw [e6]; rfl) (by decide) rfl (fun ls hl => ?_)
        refine lv_goto (tgt := 14) hx hb dX2_readVariables_46 (by decide) ?_
        exact (hG _ _ _ _ _).mp (hk14 y1 x6 o5.1 o5.2.1 o5.2.2.1 o5.2.2.2.1 o5.2.2.2.2.1 o5.2.2.2.2.2.1 o5.2.2.2.2.2.2.1 o5.2.2.2.2.2.2.2.1 o5.2.2.2.2.2.2.2.2 H locs ls (hP.sub [0, 1, 4, 2, 3] rfl) (hD.sub [0, 1, 4, 2, 3] (by decide) rfl) hS (lv_sub hl [1, 2, 0] rfl) hf)
  have L14 : ∀ (n : Nat), ∀ (y1 : Int32) (y2 : Int32) (v0_locals : Int32) (v1_token : Int32) (v1_tokenAt : Int32) (v1_name : Int64) (v1_fault : Int32) (v1_faultAt : Int32) (v1_next : Int32) (v3_globals : Int32) (c4 : (Nat → Int64)) (H : Heap) (locs : List Loc) (ls : Array Slot), va_P (dC, dI) vwCl [(h0, .inr (2, [.ref h1, .ref h3, .ref h4, .int v0_locals, w0_procedures, w0_calledName, w0_calledAt])), (h1, .inr (4, [.int v1_token, .int v1_tokenAt, .long v1_name, .int v1_fault, .int v1_faultAt, .ref h2, .int v1_size, .int v1_next])), (h2, .inl (k2, 600, .inl c2)), (h3, .inr (3, [.int v3_isThere, .int v3_globals, .int v3_procedures, .int v3_statements, w3_entry, w3_kind, w3_textAt, w3_owner, w3_value, w3_variable, w3_callee, w3_on0, w3_on1, w3_parent, w3_sibling, w3_inside, w3_insideElse, w3_behind])), (h4, .inl (k4, 5, .inr (.inl c4)))] H → va_D A [(h0, .inr (2, [.ref h1, .ref h3, .ref h4, .int v0_locals, w0_procedures, w0_calledName, w0_calledAt])), (h1, .inr (4, [.int v1_token, .int v1_tokenAt, .long v1_name, .int v1_fault, .int v1_faultAt, .ref h2, .int v1_size, .int v1_next])), (h2, .inl (k2, 600, .inl c2)), (h3, .inr (3, [.int v3_isThere, .int v3_globals, .int v3_procedures, .int v3_statements, w3_entry, w3_kind, w3_textAt, w3_owner, w3_value, w3_variable, w3_callee, w3_on0, w3_on1, w3_parent, w3_sibling, w3_inside, w3_insideElse, w3_behind])), (h4, .inl (k4, 5, .inr (.inl c4)))] → va_S A s.heap H locs → lv_has ls 3 [(0, .ref h0), (1, .int y1), (2, .int y2)] → fX2_readVariables_l14 v1_size c2  n y1 y2 v0_locals v1_token v1_tokenAt v1_name v1_fault v1_faultAt v1_next v3_globals c4 = some o → G 0 0 H locs (F0 m 14 ls []) := by
    intro  n
    induction n with
    | zero => intro y1 y2 v0_locals v1_token v1_tokenAt v1_name v1_fault v1_faultAt v1_next v3_globals c4 H locs ls _ _ _ _ hf; cases hf
    | succ n ih => exact B14  _ ih
  refine (hG _ _ _ _ _).mpr ?_
  obtain ⟨H, hH⟩ : ∃ H, H = s.heap := ⟨_, rfl⟩
  have hS : va_S A s.heap H [] := by rw [hH]; exact hS
  rw [← hH] at hP ⊢
  generalize ([] : List Loc) = locs at hS ⊢
  unfold fX2_readVariables at hf
  refine lv_aload_n hx hb dX2_readVariables_0 rfl (lv_at hl 0 rfl) ?_
  refine va_get (D := (dC, dI)) (ci := 2) (v := .ref h1) (C := RX2) (T := TX2) (N := 7) hx hb hts inlX2 hown hK hP 0 rfl rfl 0 (by decide) w0_ (fun _ h9 => h9) rfl dX2_readVariables_1 ?_
  obtain ⟨o7, e7, hf⟩ := ob_some hf
  refine kVv (As := []) (rest := []) ⟨hx, hb, hml, hown, hts⟩ (mX4_advance l dC dI h1 h2 k2 H.size base v1_token v1_tokenAt v1_name v1_fault v1_faultAt v1_size v1_next c2 o7 e7) (cwV 0 hts (gTV q672 q562 q563 q19 q564) rfl rfl rfl (by decide +kernel) ⟨Nat.le_of_ble_eq_true rfl, Nat.le_of_ble_eq_true rfl⟩) hK hP hD hS hA hE hAB [1, 2] [0, 3, 4] [0] (wr := [(h0, .inr (2, [.ref h1, .ref h3, .ref h4, .int v0_locals, w0_procedures, w0_calledName, w0_calledAt])), (h3, .inr (3, [.int v3_isThere, .int v3_globals, .int v3_procedures, .int v3_statements, w3_entry, w3_kind, w3_textAt, w3_owner, w3_value, w3_variable, w3_callee, w3_on0, w3_on1, w3_parent, w3_sibling, w3_inside, w3_insideElse, w3_behind])), (h4, .inl (k4, 5, .inr (.inl c4)))]) rfl rfl (by decide) (by decide) (by decide) rfl (ci := 4) (q0 := 0) rfl rfl rfl rfl hl.1 rfl (Nat.le_of_ble_eq_true rfl) dX2_readVariables_4 ⟨Nat.zero_le _, Nat.zero_le _⟩ (fun u7 H locs hw7 hP hD hS => ?_)
  have hw71 : o7 = u7 := Eq.symm hw7
  subst hw71
  have hP : va_P (dC, dI) vwCl [(h0, .inr (2, [.ref h1, .ref h3, .ref h4, .int v0_locals, w0_procedures, w0_calledName, w0_calledAt])), (h3, .inr (3, [.int v3_isThere, .int v3_globals, .int v3_procedures, .int v3_statements, w3_entry, w3_kind, w3_textAt, w3_owner, w3_value, w3_variable, w3_callee, w3_on0, w3_on1, w3_parent, w3_sibling, w3_inside, w3_insideElse, w3_behind])), (h4, .inl (k4, 5, .inr (.inl c4))), (h1, .inr (4, [.int o7.1, .int o7.2.1, .long o7.2.2.1, .int o7.2.2.2.1, .int o7.2.2.2.2.1, .ref h2, .int v1_size, .int o7.2.2.2.2.2])), (h2, .inl (k2, 600, .inl c2))] H := hP
  have hD : va_D A [(h0, .inr (2, [.ref h1, .ref h3, .ref h4, .int v0_locals, w0_procedures, w0_calledName, w0_calledAt])), (h3, .inr (3, [.int v3_isThere, .int v3_globals, .int v3_procedures, .int v3_statements, w3_entry, w3_kind, w3_textAt, w3_owner, w3_value, w3_variable, w3_callee, w3_on0, w3_on1, w3_parent, w3_sibling, w3_inside, w3_insideElse, w3_behind])), (h4, .inl (k4, 5, .inr (.inl c4))), (h1, .inr (4, [.int o7.1, .int o7.2.1, .long o7.2.2.1, .int o7.2.2.2.1, .int o7.2.2.2.2.1, .ref h2, .int v1_size, .int o7.2.2.2.2.2])), (h2, .inl (k2, 600, .inl c2))] := hD
  refine lv_aload_n hx hb dX2_readVariables_7 rfl (lv_at hl 0 rfl) ?_
  refine lv_iload_n hx hb dX2_readVariables_8 rfl (lv_at hl 1 rfl) ?_
  obtain ⟨o8, e8, hf⟩ := ob_some hf
  refine kVv (As := [.int a0]) (rest := []) ⟨hx, hb, hml, hown, hts⟩ (mX2_readVariable l dC dI h0 h1 h3 h4 h2 k4 k2 H.size base a0 v0_locals o7.1 o7.2.1 o7.2.2.1 o7.2.2.2.1 o7.2.2.2.2.1 v1_size o7.2.2.2.2.2 v3_isThere v3_globals v3_procedures v3_statements c4 c2 w0_procedures w0_calledName w0_calledAt w3_entry w3_kind w3_textAt w3_owner w3_value w3_variable w3_callee w3_on0 w3_on1 w3_parent w3_sibling w3_inside w3_insideElse w3_behind o8 e8) (cwV 1 hts (gTV q673 q674 q675 q27 q676) rfl rfl rfl (by decide +kernel) ⟨Nat.le_of_ble_eq_true rfl, Nat.le_of_ble_eq_true rfl⟩) hK hP hD hS hA hE hAB [0, 3, 1, 2, 4] [] [1, 0] (wr := []) rfl rfl (by decide) (by decide) (by decide) rfl (ci := 2) (q0 := 0) rfl rfl rfl rfl hl.1 rfl (Nat.le_of_ble_eq_true rfl) dX2_readVariables_9 ⟨Nat.zero_le _, Nat.zero_le _⟩ (fun u8 H locs hw8 hP hD hS => ?_)
  have hw81 : o8 = u8 := Eq.symm hw8
  subst hw81
  have hP : va_P (dC, dI) vwCl [(h0, .inr (2, [.ref h1, .ref h3, .ref h4, .int o8.1, w0_procedures, w0_calledName, w0_calledAt])), (h1, .inr (4, [.int o8.2.1, .int o8.2.2.1, .long o8.2.2.2.1, .int o8.2.2.2.2.1, .int o8.2.2.2.2.2.1, .ref h2, .int v1_size, .int o8.2.2.2.2.2.2.1])), (h3, .inr (3, [.int v3_isThere, .int o8.2.2.2.2.2.2.2.1, .int v3_procedures, .int v3_statements, w3_entry, w3_kind, w3_textAt, w3_owner, w3_value, w3_variable, w3_callee, w3_on0, w3_on1, w3_parent, w3_sibling, w3_inside, w3_insideElse, w3_behind])), (h4, .inl (k4, 5, .inr (.inl o8.2.2.2.2.2.2.2.2))), (h2, .inl (k2, 600, .inl c2))] H := hP
  have hD : va_D A [(h0, .inr (2, [.ref h1, .ref h3, .ref h4, .int o8.1, w0_procedures, w0_calledName, w0_calledAt])), (h1, .inr (4, [.int o8.2.1, .int o8.2.2.1, .long o8.2.2.2.1, .int o8.2.2.2.2.1, .int o8.2.2.2.2.2.1, .ref h2, .int v1_size, .int o8.2.2.2.2.2.2.1])), (h3, .inr (3, [.int v3_isThere, .int o8.2.2.2.2.2.2.2.1, .int v3_procedures, .int v3_statements, w3_entry, w3_kind, w3_textAt, w3_owner, w3_value, w3_variable, w3_callee, w3_on0, w3_on1, w3_parent, w3_sibling, w3_inside, w3_insideElse, w3_behind])), (h4, .inl (k4, 5, .inr (.inl o8.2.2.2.2.2.2.2.2))), (h2, .inl (k2, 600, .inl c2))] := hD
  refine lv_iconst (v := 0) hx hb dX2_readVariables_12 (by decide +kernel) ?_
  refine lv_istore_n (lv' := [(2, .int 0), (0, .ref h0), (1, .int a0)]) hx hb dX2_readVariables_13 rfl hl (by decide) rfl (fun ls hl => ?_)
  exact (hG _ _ _ _ _).mp (L14 FU a0 0 o8.1 o8.2.1 o8.2.2.1 o8.2.2.2.1 o8.2.2.2.2.1 o8.2.2.2.2.2.1 o8.2.2.2.2.2.2.1 o8.2.2.2.2.2.2.2.1 o8.2.2.2.2.2.2.2.2 H locs ls (hP.sub [0, 1, 4, 2, 3] rfl) (hD.sub [0, 1, 4, 2, 3] (by decide) rfl) hS (lv_sub hl [1, 2, 0] rfl) hf)
