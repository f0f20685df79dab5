set_option maxHeartbeats 4000000 in
set_option maxRecDepth 100000 in
theorem mX2_beginsStatement (l : Launch) (dC : Nat → ClassId) (dI : Nat → Nat → Nat) (h0 h1 : Nat) (sz base : Nat) (v0_locals : Int32) (v1_token : Int32) (v1_tokenAt : Int32) (v1_name : Int64) (v1_fault : Int32) (v1_faultAt : Int32) (v1_size : Int32) (v1_next : Int32) (w0_program : Value) (w0_variables : Value) (w0_procedures : Value) (w0_calledName : Value) (w0_calledAt : Value) (w1_text : Value) (o : Int32 × Unit) (hf : fX2_beginsStatement v1_token = some o) : Met l yX2_beginsStatement (.code yX2_beginsStatement cX2_beginsStatement 1 (some .boolean) :: wsL_law) ({ frames := 0, cells := 0, slots := 0, locals := 0 }) (cPre (dC, dI) vwCl [.ref h0] sz base [(h0, .inr (2, [.ref h1, w0_program, w0_variables, .int v0_locals, w0_procedures, w0_calledName, w0_calledAt])), (h1, .inr (4, [.int v1_token, .int v1_tokenAt, .long v1_name, .int v1_fault, .int v1_faultAt, w1_text, .int v1_size, .int v1_next]))] []) (va_Qi (fun r u => r = o.1 ∧ u = o.2) (fun (u : Unit) t => cPost (dC, dI) vwCl (va_A [(h0, .inr (2, [.ref h1, w0_program, w0_variables, .int v0_locals, w0_procedures, w0_calledName, w0_calledAt])), (h1, .inr (4, [.int v1_token, .int v1_tokenAt, .long v1_name, .int v1_fault, .int v1_faultAt, w1_text, .int v1_size, .int v1_next]))] sz) [(h0, .inr (2, [.ref h1, w0_program, w0_variables, .int v0_locals, w0_procedures, w0_calledName, w0_calledAt])), (h1, .inr (4, [.int v1_token, .int v1_tokenAt, .long v1_name, .int v1_fault, .int v1_faultAt, w1_text, .int v1_size, .int v1_next]))] [] t) (va_A [(h0, .inr (2, [.ref h1, w0_program, w0_variables, .int v0_locals, w0_procedures, w0_calledName, w0_calledAt])), (h1, .inr (4, [.int v1_token, .int v1_tokenAt, .long v1_name, .int v1_fault, .int v1_faultAt, w1_text, .int v1_size, .int v1_next]))] sz)) 0 0 (va_A [(h0, .inr (2, [.ref h1, w0_program, w0_variables, .int v0_locals, w0_procedures, w0_calledName, w0_calledAt])), (h1, .inr (4, [.int v1_token, .int v1_tokenAt, .long v1_name, .int v1_fault, .int v1_faultAt, w1_text, .int v1_size, .int v1_next]))] sz) := by
  refine Met.ofW (cc := cX2_beginsStatement) (maxL := 1) (ret := (some .boolean)) (by decide) rfl ?_
  intro p e s m args below meth c s₁ B hml hv
  obtain ⟨rfl, hsz, hP, hK, hD0, hE⟩ := hv
  have hx := B.exec
  have hb := B.bytes
  have hr := B.returns
  have hts : ∀ w ∈ wsL_law, _ := fun w h => atoms_spec (ws := .code yX2_beginsStatement cX2_beginsStatement 1 (some .boolean) :: wsL_law) B.pre w (List.mem_cons_of_mem _ h)
  have hown : s.vm.findClass RX2 = some m.cls := findClass_of_methodNamed B.named
  have hlocks := B.notSynchronized
  have w0_ := hts _ q72
  have w1_ := hts _ q544
  subst hsz
  have hD := hD0.self (sz := s.heap.size)
  generalize hAe : va_A [(h0, .inr (2, [.ref h1, w0_program, w0_variables, .int v0_locals, w0_procedures, w0_calledName, w0_calledAt])), (h1, .inr (4, [.int v1_token, .int v1_tokenAt, .long v1_name, .int v1_fault, .int v1_faultAt, w1_text, .int v1_size, .int v1_next]))] s.heap.size = A at hD ⊢
  have hA : ∀ q : Nat, s.heap.size ≤ q → A q := fun q h => by rw [← hAe]; exact Or.inr h
  have hAB : ∀ q : Nat, A q → base ≤ q := fun q h => by rw [← hAe] at h; exact h.elim (fun ⟨k, e, hk⟩ => hD0.2 k _ hk) (fun hk => Nat.le_trans hE.1 hk)
  have hS : va_S A s.heap s.heap [] := va_S.rf
  have hl := lv_entry ([.ref h0]) (n := 1) (Nat.le_of_ble_eq_true rfl)
  rw [lg_entry_eq]
  generalize (lg_sl ([.ref h0]) ++ List.replicate (1 - (lg_sl ([.ref h0])).length) Slot.unset).toArray = ls at hl ⊢
  have hl : lv_has ls 1 [(0, .ref h0)] := hl
  have hP : va_P (dC, dI) vwCl [(h0, .inr (2, [.ref h1, w0_program, w0_variables, .int v0_locals, w0_procedures, w0_calledName, w0_calledAt])), (h1, .inr (4, [.int v1_token, .int v1_tokenAt, .long v1_name, .int v1_fault, .int v1_faultAt, w1_text, .int v1_size, .int v1_next]))] s.heap := hP
  refine gl_intro (fun G hG => ?_)
  have J44 : ∀ (z0 : Int32) (H : Heap) (locs : List Loc) (ls : Array Slot), va_P (dC, dI) vwCl [(h0, .inr (2, [.ref h1, w0_program, w0_variables, .int v0_locals, w0_procedures, w0_calledName, w0_calledAt])), (h1, .inr (4, [.int v1_token, .int v1_tokenAt, .long v1_name, .int v1_fault, .int v1_faultAt, w1_text, .int v1_size, .int v1_next]))] H → va_D A [(h0, .inr (2, [.ref h1, w0_program, w0_variables, .int v0_locals, w0_procedures, w0_calledName, w0_calledAt])), (h1, .inr (4, [.int v1_token, .int v1_tokenAt, .long v1_name, .int v1_fault, .int v1_faultAt, w1_text, .int v1_size, .int v1_next]))] → va_S A s.heap H locs → lv_has ls 1 [(0, .ref h0)] → fX2_beginsStatement_p44 v1_token  z0 = some o → G 0 0 H locs (F0 m 44 ls [.int z0]) := by
    intro  z0 H locs ls hP hD hS hl hf
    refine (hG _ _ _ _ _).mpr ?_
    unfold fX2_beginsStatement_p44 at hf
    have b1 := bd_b hf
    replace hf := bd_k hf
    have hf1 := Option.some.inj hf
    subst hf1
    have hP9 := hP.sub (ws' := [(h0, .inr (2, [.ref h1, w0_program, w0_variables, .int v0_locals, w0_procedures, w0_calledName, w0_calledAt])), (h1, .inr (4, [.int v1_token, .int v1_tokenAt, .long v1_name, .int v1_fault, .int v1_faultAt, w1_text, .int v1_size, .int v1_next]))]) [0, 1] rfl
    have hD9 := hD.sub (ws' := [(h0, .inr (2, [.ref h1, w0_program, w0_variables, .int v0_locals, w0_procedures, w0_calledName, w0_calledAt])), (h1, .inr (4, [.int v1_token, .int v1_tokenAt, .long v1_name, .int v1_fault, .int v1_faultAt, w1_text, .int v1_size, .int v1_next]))]) [0, 1] (by decide) rfl
    exact W.zret (v := z0) (ty := .boolean) hx hb hr (bz_nar b1) (fun t ht hW => ⟨⟨z0, (), rfl, ⟨rfl, rfl⟩, by rw [ht]; exact hP9, va_K.moved hW.alike hK, hD9⟩, hS.F ht⟩) hS.2.2 dX2_beginsStatement_44
  have J39 : ∀ (H : Heap) (locs : List Loc) (ls : Array Slot), va_P (dC, dI) vwCl [(h0, .inr (2, [.ref h1, w0_program, w0_variables, .int v0_locals, w0_procedures, w0_calledName, w0_calledAt])), (h1, .inr (4, [.int v1_token, .int v1_tokenAt, .long v1_name, .int v1_fault, .int v1_faultAt, w1_text, .int v1_size, .int v1_next]))] H → va_D A [(h0, .inr (2, [.ref h1, w0_program, w0_variables, .int v0_locals, w0_procedures, w0_calledName, w0_calledAt])), (h1, .inr (4, [.int v1_token, .int v1_tokenAt, .long v1_name, .int v1_fault, .int v1_faultAt, w1_text, .int v1_size, .int v1_next]))] → va_S A s.heap H locs → lv_has ls 1 [(0, .ref h0)] → fX2_beginsStatement_p39 v1_token   = some o → G 0 0 H locs (F0 m 39 ls []) := by
    intro   H locs ls hP hD hS hl hf
    refine (hG _ _ _ _ _).mpr ?_
    unfold fX2_beginsStatement_p39 at hf
    refine lv_iconst (v := 1) hx hb dX2_beginsStatement_39 (by decide +kernel) ?_
    refine lv_goto (tgt := 44) hx hb dX2_beginsStatement_40 (by decide) ?_
    exact (hG _ _ _ _ _).mp (J44 1 H locs ls (hP.sub [0, 1] rfl) (hD.sub [0, 1] (by decide) rfl) hS (lv_sub hl [0] rfl) hf)
  have J43 : ∀ (H : Heap) (locs : List Loc) (ls : Array Slot), va_P (dC, dI) vwCl [(h0, .inr (2, [.ref h1, w0_program, w0_variables, .int v0_locals, w0_procedures, w0_calledName, w0_calledAt])), (h1, .inr (4, [.int v1_token, .int v1_tokenAt, .long v1_name, .int v1_fault, .int v1_faultAt, w1_text, .int v1_size, .int v1_next]))] H → va_D A [(h0, .inr (2, [.ref h1, w0_program, w0_variables, .int v0_locals, w0_procedures, w0_calledName, w0_calledAt])), (h1, .inr (4, [.int v1_token, .int v1_tokenAt, .long v1_name, .int v1_fault, .int v1_faultAt, w1_text, .int v1_size, .int v1_next]))] → va_S A s.heap H locs → lv_has ls 1 [(0, .ref h0)] → fX2_beginsStatement_p43 v1_token   = some o → G 0 0 H locs (F0 m 43 ls []) := by
    intro   H locs ls hP hD hS hl hf
    refine (hG _ _ _ _ _).mpr ?_
    unfold fX2_beginsStatement_p43 at hf
    refine lv_iconst (v := 0) hx hb dX2_beginsStatement_43 (by decide +kernel) ?_
    exact (hG _ _ _ _ _).mp (J44 0 H locs ls (hP.sub [0, 1] rfl) (hD.sub [0, 1] (by decide) rfl) hS (lv_sub hl [0] rfl) hf)
  refine (hG _ _ _ _ _).mpr ?_
  obtain ⟨H, hH⟩ : ∃ H, H = s.heap := ⟨_, rfl⟩
  have hS : va_S A s.heap H [] := by rw [hH]; exact hS
  rw [← hH] at hP ⊢
  generalize ([] : List Loc) = locs at hS ⊢
  unfold fX2_beginsStatement at hf
  refine lv_aload_n hx hb dX2_beginsStatement_0 rfl (lv_at hl 0 rfl) ?_
  refine va_get (D := (dC, dI)) (ci := 2) (v := .ref h1) (C := RX2) (T := TX2) (N := 7) hx hb hts inlX2 hown hK hP 0 rfl rfl 0 (by decide) w0_ (fun _ h9 => h9) rfl dX2_beginsStatement_1 ?_
  refine va_get (D := (dC, dI)) (ci := 4) (v := .int v1_token) (C := RX4) (T := TX4) (N := 8) hx hb hts inlX4 hown hK hP 1 rfl rfl 0 (by decide) w1_ (fun _ h9 => h9) rfl dX2_beginsStatement_4 ?_
  refine lv_sipush (v := 258) hx hb dX2_beginsStatement_7 (by decide +kernel) ?_
  refine lv_icmp_eq (tgt := 39) hx hb dX2_beginsStatement_10 (by decide) (fun q2 => ?_) (fun q2 => ?_)
  · replace hf := if_at hf q2
    exact (hG _ _ _ _ _).mp (J39 H locs ls (hP.sub [0, 1] rfl) (hD.sub [0, 1] (by decide) rfl) hS (lv_sub hl [0] rfl) hf)
  · replace hf := if_no hf q2
    refine lv_aload_n hx hb dX2_beginsStatement_13 rfl (lv_at hl 0 rfl) ?_
    refine va_get (D := (dC, dI)) (ci := 2) (v := .ref h1) (C := RX2) (T := TX2) (N := 7) hx hb hts inlX2 hown hK hP 0 rfl rfl 0 (by decide) w0_ (fun _ h9 => h9) rfl dX2_beginsStatement_14 ?_
    refine va_get (D := (dC, dI)) (ci := 4) (v := .int v1_token) (C := RX4) (T := TX4) (N := 8) hx hb hts inlX4 hown hK hP 1 rfl rfl 0 (by decide) w1_ (fun _ h9 => h9) rfl dX2_beginsStatement_17 ?_
    refine lv_sipush (v := 262) hx hb dX2_beginsStatement_20 (by decide +kernel) ?_
    refine lv_icmp_lt (tgt := 43) hx hb dX2_beginsStatement_23 (by decide) (fun q3 => ?_) (fun q3 => ?_)
    · replace hf := if_at hf q3
      exact (hG _ _ _ _ _).mp (J43 H locs ls (hP.sub [0, 1] rfl) (hD.sub [0, 1] (by decide) rfl) hS (lv_sub hl [0] rfl) hf)
    · replace hf := if_no hf q3
      refine lv_aload_n hx hb dX2_beginsStatement_26 rfl (lv_at hl 0 rfl) ?_
      refine va_get (D := (dC, dI)) (ci := 2) (v := .ref h1) (C := RX2) (T := TX2) (N := 7) hx hb hts inlX2 hown hK hP 0 rfl rfl 0 (by decide) w0_ (fun _ h9 => h9) rfl dX2_beginsStatement_27 ?_
      refine va_get (D := (dC, dI)) (ci := 4) (v := .int v1_token) (C := RX4) (T := TX4) (N := 8) hx hb hts inlX4 hown hK hP 1 rfl rfl 0 (by decide) w1_ (fun _ h9 => h9) rfl dX2_beginsStatement_30 ?_
      refine lv_sipush (v := 268) hx hb dX2_beginsStatement_33 (by decide +kernel) ?_
      refine lv_icmp_gt (tgt := 43) hx hb dX2_beginsStatement_36 (by decide) (fun q4 => ?_) (fun q4 => ?_)
      · replace hf := if_at hf q4
        exact (hG _ _ _ _ _).mp (J43 H locs ls (hP.sub [0, 1] rfl) (hD.sub [0, 1] (by decide) rfl) hS (lv_sub hl [0] rfl) hf)
      · replace hf := if_no hf q4
        exact (hG _ _ _ _ _).mp (J39 H locs ls (hP.sub [0, 1] rfl) (hD.sub [0, 1] (by decide) rfl) hS (lv_sub hl [0] rfl) hf)
set_option maxHeartbeats 4000000 in
set_option maxRecDepth 100000 in
theorem mX2_findProcedure (l : Launch) (dC : Nat → ClassId) (dI : Nat → Nat → Nat) (h0 h1 h2 : Nat) (k2 : ClassId) (sz base : Nat) (a0 : Int64) (v0_locals : Int32) (v1_isThere : Int32) (v1_globals : Int32) (v1_procedures : Int32) (v1_statements : Int32) (c2 : Nat → Int64) (w0_scanner : Value) (w0_variables : Value) (w0_calledName : Value) (w0_calledAt : Value) (w1_entry : Value) (w1_kind : Value) (w1_textAt : Value) (w1_owner : Value) (w1_value : Value) (w1_variable : Value) (w1_callee : Value) (w1_on0 : Value) (w1_on1 : Value) (w1_parent : Value) (w1_sibling : Value) (w1_inside : Value) (w1_insideElse : Value) (w1_behind : Value) (o : Int32 × Unit) (hf : fX2_findProcedure a0 v1_procedures c2 = some o) : Met l yX2_findProcedure (.code yX2_findProcedure cX2_findProcedure 4 (some .int) :: wsL_law) ({ frames := 0, cells := 0, slots := 0, locals := 0 }) (cPre (dC, dI) vwCl [.ref h0, .long a0] sz base [(h0, .inr (2, [w0_scanner, .ref h1, w0_variables, .int v0_locals, .ref h2, w0_calledName, w0_calledAt])), (h1, .inr (3, [.int v1_isThere, .int v1_globals, .int v1_procedures, .int v1_statements, w1_entry, w1_kind, w1_textAt, w1_owner, w1_value, w1_variable, w1_callee, w1_on0, w1_on1, w1_parent, w1_sibling, w1_inside, w1_insideElse, w1_behind])), (h2, .inl (k2, 6, .inr (.inl c2)))] [(k2, .long)]) (va_Qi (fun r u => r = o.1 ∧ u = o.2) (fun (u : Unit) t => cPost (dC, dI) vwCl (va_A [(h0, .inr (2, [w0_scanner, .ref h1, w0_variables, .int v0_locals, .ref h2, w0_calledName, w0_calledAt])), (h1, .inr (3, [.int v1_isThere, .int v1_globals, .int v1_procedures, .int v1_statements, w1_entry, w1_kind, w1_textAt, w1_owner, w1_value, w1_variable, w1_callee, w1_on0, w1_on1, w1_parent, w1_sibling, w1_inside, w1_insideElse, w1_behind])), (h2, .inl (k2, 6, .inr (.inl c2)))] sz) [(h0, .inr (2, [w0_scanner, .ref h1, w0_variables, .int v0_locals, .ref h2, w0_calledName, w0_calledAt])), (h1, .inr (3, [.int v1_isThere, .int v1_globals, .int v1_procedures, .int v1_statements, w1_entry, w1_kind, w1_textAt, w1_owner, w1_value, w1_variable, w1_callee, w1_on0, w1_on1, w1_parent, w1_sibling, w1_inside, w1_insideElse, w1_behind])), (h2, .inl (k2, 6, .inr (.inl c2)))] [(k2, .long)] t) (va_A [(h0, .inr (2, [w0_scanner, .ref h1, w0_variables, .int v0_locals, .ref h2, w0_calledName, w0_calledAt])), (h1, .inr (3, [.int v1_isThere, .int v1_globals, .int v1_procedures, .int v1_statements, w1_entry, w1_kind, w1_textAt, w1_owner, w1_value, w1_variable, w1_callee, w1_on0, w1_on1, w1_parent, w1_sibling, w1_inside, w1_insideElse, w1_behind])), (h2, .inl (k2, 6, .inr (.inl c2)))] sz)) 0 0 (va_A [(h0, .inr (2, [w0_scanner, .ref h1, w0_variables, .int v0_locals, .ref h2, w0_calledName, w0_calledAt])), (h1, .inr (3, [.int v1_isThere, .int v1_globals, .int v1_procedures, .int v1_statements, w1_entry, w1_kind, w1_textAt, w1_owner, w1_value, w1_variable, w1_callee, w1_on0, w1_on1, w1_parent, w1_sibling, w1_inside, w1_insideElse, w1_behind])), (h2, .inl (k2, 6, .inr (.inl c2)))] sz) := by
  refine Met.ofW (cc := cX2_findProcedure) (maxL := 4) (ret := (some .int)) (by decide) rfl ?_
  intro p e s m args below meth c s₁ B hml hv
  obtain ⟨rfl, hsz, hP, hK, hD0, hE⟩ := hv
  have hx := B.exec
  have hb := B.bytes
  have hr := B.returns
  have hts : ∀ w ∈ wsL_law, _ := fun w h => atoms_spec (ws := .code yX2_findProcedure cX2_findProcedure 4 (some .int) :: wsL_law) B.pre w (List.mem_cons_of_mem _ h)
  have hown : s.vm.findClass RX2 = some m.cls := findClass_of_methodNamed B.named
  have hlocks := B.notSynchronized
  have w0_ := hts _ q73
  have w1_ := hts _ q696
  have w2_ := hts _ q69
  subst hsz
  have hD := hD0.self (sz := s.heap.size)
  generalize hAe : va_A [(h0, .inr (2, [w0_scanner, .ref h1, w0_variables, .int v0_locals, .ref h2, w0_calledName, w0_calledAt])), (h1, .inr (3, [.int v1_isThere, .int v1_globals, .int v1_procedures, .int v1_statements, w1_entry, w1_kind, w1_textAt, w1_owner, w1_value, w1_variable, w1_callee, w1_on0, w1_on1, w1_parent, w1_sibling, w1_inside, w1_insideElse, w1_behind])), (h2, .inl (k2, 6, .inr (.inl c2)))] s.heap.size = A at hD ⊢
  have hA : ∀ q : Nat, s.heap.size ≤ q → A q := fun q h => by rw [← hAe]; exact Or.inr h
  have hAB : ∀ q : Nat, A q → base ≤ q := fun q h => by rw [← hAe] at h; exact h.elim (fun ⟨k, e, hk⟩ => hD0.2 k _ hk) (fun hk => Nat.le_trans hE.1 hk)
  have hS : va_S A s.heap s.heap [] := va_S.rf
  have hl := lv_entry ([.ref h0, .long a0]) (n := 4) (Nat.le_of_ble_eq_true rfl)
  rw [lg_entry_eq]
  generalize (lg_sl ([.ref h0, .long a0]) ++ List.replicate (4 - (lg_sl ([.ref h0, .long a0])).length) Slot.unset).toArray = ls at hl ⊢
  have hl : lv_has ls 4 [(0, .ref h0), (1, .long a0)] := hl
  have hP : va_P (dC, dI) vwCl [(h0, .inr (2, [w0_scanner, .ref h1, w0_variables, .int v0_locals, .ref h2, w0_calledName, w0_calledAt])), (h1, .inr (3, [.int v1_isThere, .int v1_globals, .int v1_procedures, .int v1_statements, w1_entry, w1_kind, w1_textAt, w1_owner, w1_value, w1_variable, w1_callee, w1_on0, w1_on1, w1_parent, w1_sibling, w1_inside, w1_insideElse, w1_behind])), (h2, .inl (k2, 6, .inr (.inl c2)))] s.heap := hP
  refine gl_intro (fun G hG => ?_)
  have B2 : ∀ (k2 : Int64 → Int32 → Option (Int32 × Unit)) (hk2 : ∀ (y1 : Int64) (y3 : Int32) (H : Heap) (locs : List Loc) (ls : Array Slot), va_P (dC, dI) vwCl [(h0, .inr (2, [w0_scanner, .ref h1, w0_variables, .int v0_locals, .ref h2, w0_calledName, w0_calledAt])), (h1, .inr (3, [.int v1_isThere, .int v1_globals, .int v1_procedures, .int v1_statements, w1_entry, w1_kind, w1_textAt, w1_owner, w1_value, w1_variable, w1_callee, w1_on0, w1_on1, w1_parent, w1_sibling, w1_inside, w1_insideElse, w1_behind])), (h2, .inl (k2, 6, .inr (.inl c2)))] H → va_D A [(h0, .inr (2, [w0_scanner, .ref h1, w0_variables, .int v0_locals, .ref h2, w0_calledName, w0_calledAt])), (h1, .inr (3, [.int v1_isThere, .int v1_globals, .int v1_procedures, .int v1_statements, w1_entry, w1_kind, w1_textAt, w1_owner, w1_value, w1_variable, w1_callee, w1_on0, w1_on1, w1_parent, w1_sibling, w1_inside, w1_insideElse, w1_behind])), (h2, .inl (k2, 6, .inr (.inl c2)))] → va_S A s.heap H locs → lv_has ls 4 [(0, .ref h0), (1, .long y1), (3, .int y3)] → k2 y1 y3 = some o → G 0 0 H locs (F0 m 2 ls [])), ∀ (y1 : Int64) (y3 : Int32) (H : Heap) (locs : List Loc) (ls : Array Slot), va_P (dC, dI) vwCl [(h0, .inr (2, [w0_scanner, .ref h1, w0_variables, .int v0_locals, .ref h2, w0_calledName, w0_calledAt])), (h1, .inr (3, [.int v1_isThere, .int v1_globals, .int v1_procedures, .int v1_statements, w1_entry, w1_kind, w1_textAt, w1_owner, w1_value, w1_variable, w1_callee, w1_on0, w1_on1, w1_parent, w1_sibling, w1_inside, w1_insideElse, w1_behind])), (h2, .inl (k2, 6, .inr (.inl c2)))] H → va_D A [(h0, .inr (2, [w0_scanner, .ref h1, w0_variables, .int v0_locals, .ref h2, w0_calledName, w0_calledAt])), (h1, .inr (3, [.int v1_isThere, .int v1_globals, .int v1_procedures, .int v1_statements, w1_entry, w1_kind, w1_textAt, w1_owner, w1_value, w1_variable, w1_callee, w1_on0, w1_on1, w1_parent, w1_sibling, w1_inside, w1_insideElse, w1_behind])), (h2, .inl (k2, 6, .inr (.inl c2)))] → va_S A s.heap H locs → lv_has ls 4 [(0, .ref h0), (1, .long y1), (3, .int y3)] → fX2_findProcedure_b2 v1_procedures c2  k2 y1 y3 = some o → G 0 0 H locs (F0 m 2 ls []) := by
    intro  k2 hk2 y1 y3 H locs ls hP hD hS hl hf
    refine (hG _ _ _ _ _).mpr ?_
    unfold fX2_findProcedure_b2 at hf
    refine lv_iload_n hx hb dX2_findProcedure_2 rfl (lv_at hl 2 rfl) ?_
    refine lv_aload_n hx hb dX2_findProcedure_3 rfl (lv_at hl 0 rfl) ?_
    refine va_get (D := (dC, dI)) (ci := 2) (v := .ref h1) (C := RX2) (T := TX2) (N := 7) hx hb hts inlX2 hown hK hP 0 rfl rfl 1 (by decide) w0_ (fun _ h9 => h9) rfl dX2_findProcedure_4 ?_
    refine va_get (D := (dC, dI)) (ci := 3) (v := .int v1_procedures) (C := RX3) (T := TX3) (N := 18) hx hb hts inlX3 hown hK hP 1 rfl rfl 2 (by decide) w1_ (fun _ h9 => h9) rfl dX2_findProcedure_7 ?_
    refine lv_icmp_ge (tgt := 32) hx hb dX2_findProcedure_10 (by decide) (fun q1 => ?_) (fun q1 => ?_)
    · replace hf := if_at hf q1
      refine lv_iconst (v := (-1)) hx hb dX2_findProcedure_32 (by decide +kernel) ?_
      have hf1 := Option.some.inj hf
      subst hf1
      have hP9 := hP.sub (ws' := [(h0, .inr (2, [w0_scanner, .ref h1, w0_variables, .int v0_locals, .ref h2, w0_calledName, w0_calledAt])), (h1, .inr (3, [.int v1_isThere, .int v1_globals, .int v1_procedures, .int v1_statements, w1_entry, w1_kind, w1_textAt, w1_owner, w1_value, w1_variable, w1_callee, w1_on0, w1_on1, w1_parent, w1_sibling, w1_inside, w1_insideElse, w1_behind])), (h2, .inl (k2, 6, .inr (.inl c2)))]) [0, 1, 2] rfl
      have hD9 := hD.sub (ws' := [(h0, .inr (2, [w0_scanner, .ref h1, w0_variables, .int v0_locals, .ref h2, w0_calledName, w0_calledAt])), (h1, .inr (3, [.int v1_isThere, .int v1_globals, .int v1_procedures, .int v1_statements, w1_entry, w1_kind, w1_textAt, w1_owner, w1_value, w1_variable, w1_callee, w1_on0, w1_on1, w1_parent, w1_sibling, w1_inside, w1_insideElse, w1_behind])), (h2, .inl (k2, 6, .inr (.inl c2)))]) [0, 1, 2] (by decide) rfl
      exact W.iret (v := (-1)) hx hb hr (fun t ht hW => ⟨⟨(-1), (), rfl, ⟨rfl, rfl⟩, by rw [ht]; exact hP9, va_K.moved hW.alike hK, hD9⟩, hS.F ht⟩) hS.2.2 dX2_findProcedure_33
    · replace hf := if_no hf q1
      refine lv_aload_n hx hb dX2_findProcedure_13 rfl (lv_at hl 0 rfl) ?_
      refine va_get (D := (dC, dI)) (ci := 2) (v := .ref h2) (C := RX2) (T := TX2) (N := 7) hx hb hts inlX2 hown hK hP 0 rfl rfl 4 (by decide) w2_ (fun _ h9 => h9) rfl dX2_findProcedure_14 ?_
      refine lv_iload_n hx hb dX2_findProcedure_17 rfl (lv_at hl 2 rfl) ?_
      have b2 := bd_in hf
      replace hf := bd_k hf
      refine va_lald hx hb hK hP 2 0 rfl rfl b2 dX2_findProcedure_18 ?_
      refine lv_topl (fun x3 e3 => ?_)
      replace hf := nm_at hf e3
      refine lv_lload_n hx hb dX2_findProcedure_19 rfl (lv_at hl 1 rfl) ?_
      refine W.lcmp hx hb dX2_findProcedure_20 ?_
      refine lv_topi (fun x4 e4 => ?_)
      replace hf := nm_at hf e4
      refine lv_if_ne (tgt := 26) hx hb dX2_findProcedure_21 (by decide) (fun q5 => ?_) (fun q5 => ?_)
      · replace hf := if_no hf q5
        obtain ⟨x6, e6⟩ : ∃ y : Int32, y = y3 + 1 := ⟨_, rfl⟩
        replace hf := nm_at hf e6
        refine lv_iinc (v := x6) (lv' := [(3, .int x6), (0, .ref h0), (1, .long y1)]) hx hb dX2_findProcedure_26 hl (k := 2) rfl (by rw [e6]; rfl) (by decide) rfl (fun ls hl => ?_)
        refine lv_goto (tgt := 2) hx hb dX2_findProcedure_29 (by decide) ?_
        exact (hG _ _ _ _ _).mp (hk2 y1 x6 H locs ls (hP.sub [0, 1, 2] rfl) (hD.sub [0, 1, 2] (by decide) rfl) hS (lv_sub hl [1, 2, 0] rfl) hf)
      · replace hf := if_at hf q5
        refine lv_iload_n hx hb dX2_findProcedure_24 rfl (lv_at hl 2 rfl) ?_
        have hf1 := Option.some.inj hf
        subst hf1
        have hP9 := hP.sub (ws' := [(h0, .inr (2, [w0_scanner, .ref h1, w0_variables, .int v0_locals, .ref h2, w0_calledName, w0_calledAt])), (h1, .inr (3, [.int v1_isThere, .int v1_globals, .int v1_procedures, .int v1_statements, w1_entry, w1_kind, w1_textAt, w1_owner, w1_value, w1_variable, w1_callee, w1_on0, w1_on1, w1_parent, w1_sibling, w1_inside, w1_insideElse, w1_behind])), (h2, .inl (k2, 6, .inr (.inl c2)))]) [0, 1, 2] rfl
        have hD9 := hD.sub (ws' := [(h0, .inr (2, [w0_scanner, .ref h1, w0_variables, .int v0_locals, .ref h2, w0_calledName, w0_calledAt])), (h1, .inr (3, [.int v1_isThere, .int v1_globals, .int v1_procedures, .int v1_statements, w1_entry, w1_kind, w1_textAt, w1_owner, w1_value, w1_variable, w1_callee, w1_on0, w1_on1, w1_parent, w1_sibling, w1_inside, w1_insideElse, w1_behind])), (h2, .inl (k2, 6, .inr (.inl c2)))]) [0, 1, 2] (by decide) rfl
        exact W.iret (v := y3) hx hb hr (fun t ht hW => ⟨⟨y3, (), rfl, ⟨rfl, rfl⟩, by rw [ht]; exact hP9, va_K.moved hW.alike hK, hD9⟩, hS.F ht⟩) hS.2.2 dX2_findProcedure_25
  have L2 : ∀ (n : Nat), ∀ (y1 : Int64) (y3 : Int32) (H : Heap) (locs : List Loc) (ls : Array Slot), va_P (dC, dI) vwCl [(h0, .inr (2, [w0_scanner, .ref h1, w0_variables, .int v0_locals, .ref h2, w0_calledName, w0_calledAt])), (h1, .inr (3, [.int v1_isThere, .int v1_globals, .int v1_procedures, .int v1_statements, w1_entry, w1_kind, w1_textAt, w1_owner, w1_value, w1_variable, w1_callee, w1_on0, w1_on1, w1_parent, w1_sibling, w1_inside, w1_insideElse, w1_behind])), (h2, .inl (k2, 6, .inr (.inl c2)))] H → va_D A [(h0, .inr (2, [w0_scanner, .ref h1, w0_variables, .int v0_locals, .ref h2, w0_calledName, w0_calledAt])), (h1, .inr (3, [.int v1_isThere, .int v1_globals, .int v1_procedures, .int v1_statements, w1_entry, w1_kind, w1_textAt, w1_owner, w1_value, w1_variable, w1_callee, w1_on0, w1_on1, w1_parent, w1_sibling, w1_inside, w1_insideElse, w1_behind])), (h2, .inl (k2, 6, .inr (.inl c2)))] → va_S A s.heap H locs → lv_has ls 4 [(0, .ref h0), (1, .long y1), (3, .int y3)] → fX2_findProcedure_l2 v1_procedures c2  n y1 y3 = some o → G 0 0 H locs (F0 m 2 ls []) := by
    intro  n
    induction n with
    | zero => intro y1 y3 H locs ls _ _ _ _ hf; cases hf
    | succ n ih => exact B2  _ ih
  refine (hG _ _ _ _ _).mpr ?_
  obtain ⟨H, hH⟩ : ∃ H, H = s.heap := ⟨_, rfl⟩
  have hS : va_S A s.heap H [] := by rw [hH]; exact hS
  rw [← hH] at hP ⊢
  generalize ([] : List Loc) = locs at hS ⊢
  unfold fX2_findProcedure at hf
  refine lv_iconst (v := 0) hx hb dX2_findProcedure_0 (by decide +kernel) ?_
  refine lv_istore_n (lv' := [(3, .int 0), (0, .ref h0), (1, .long a0)]) hx hb dX2_findProcedure_1 rfl hl (by decide) rfl (fun ls hl => ?_)
  exact (hG _ _ _ _ _).mp (L2 FU a0 0 H locs ls (hP.sub [0, 1, 2] rfl) (hD.sub [0, 1, 2] (by decide) rfl) hS (lv_sub hl [1, 2, 0] rfl) hf)
set_option maxHeartbeats 4000000 in
set_option maxRecDepth 100000 in
theorem mX2_findCalled (l : Launch) (dC : Nat → ClassId) (dI : Nat → Nat → Nat) (h0 h1 h2 h3 h4 h5 h6 h7 : Nat) (k3 k4 k5 k6 k7 : ClassId) (sz base : Nat) (v0_locals : Int32) (v1_isThere : Int32) (v1_globals : Int32) (v1_procedures : Int32) (v1_statements : Int32) (v2_token : Int32) (v2_tokenAt : Int32) (v2_name : Int64) (v2_fault : Int32) (v2_faultAt : Int32) (v2_size : Int32) (v2_next : Int32) (c3 : Nat → Int32) (c4 : Nat → Int64) (c5 : Nat → Int64) (c6 : Nat → Int32) (c7 : Nat → Int32) (w0_variables : Value) (w1_entry : Value) (w1_textAt : Value) (w1_owner : Value) (w1_value : Value) (w1_variable : Value) (w1_on0 : Value) (w1_on1 : Value) (w1_parent : Value) (w1_sibling : Value) (w1_inside : Value) (w1_insideElse : Value) (w1_behind : Value) (w2_text : Value) (o : Int32 × Int32 × Int32 × (Nat → Int32)) (hf : fX2_findCalled v1_procedures v1_statements v2_token v2_fault v2_faultAt c3 c4 c5 c6 c7 = some o) : Met l yX2_findCalled (.code yX2_findCalled cX2_findCalled 2 none :: wsL_law) ({ frames := 1, cells := 0, slots := 0, locals := 23 }) (cPre (dC, dI) vwCl [.ref h0] sz base [(h0, .inr (2, [.ref h2, .ref h1, w0_variables, .int v0_locals, .ref h5, .ref h4, .ref h7])), (h1, .inr (3, [.int v1_isThere, .int v1_globals, .int v1_procedures, .int v1_statements, w1_entry, .ref h3, w1_textAt, w1_owner, w1_value, w1_variable, .ref h6, w1_on0, w1_on1, w1_parent, w1_sibling, w1_inside, w1_insideElse, w1_behind])), (h2, .inr (4, [.int v2_token, .int v2_tokenAt, .long v2_name, .int v2_fault, .int v2_faultAt, w2_text, .int v2_size, .int v2_next])), (h3, .inl (k3, 40, .inl c3)), (h4, .inl (k4, 40, .inr (.inl c4))), (h5, .inl (k5, 6, .inr (.inl c5))), (h6, .inl (k6, 40, .inl c6)), (h7, .inl (k7, 40, .inl c7))] [(k3, .int), (k4, .long), (k5, .long), (k6, .int), (k7, .int)]) (va_Qv (fun u => u = o) (fun (u : Int32 × Int32 × Int32 × (Nat → Int32)) t => cPost (dC, dI) vwCl (va_A [(h0, .inr (2, [.ref h2, .ref h1, w0_variables, .int v0_locals, .ref h5, .ref h4, .ref h7])), (h1, .inr (3, [.int v1_isThere, .int v1_globals, .int v1_procedures, .int v1_statements, w1_entry, .ref h3, w1_textAt, w1_owner, w1_value, w1_variable, .ref h6, w1_on0, w1_on1, w1_parent, w1_sibling, w1_inside, w1_insideElse, w1_behind])), (h2, .inr (4, [.int v2_token, .int v2_tokenAt, .long v2_name, .int v2_fault, .int v2_faultAt, w2_text, .int v2_size, .int v2_next])), (h3, .inl (k3, 40, .inl c3)), (h4, .inl (k4, 40, .inr (.inl c4))), (h5, .inl (k5, 6, .inr (.inl c5))), (h6, .inl (k6, 40, .inl c6)), (h7, .inl (k7, 40, .inl c7))] sz) [(h0, .inr (2, [.ref h2, .ref h1, w0_variables, .int v0_locals, .ref h5, .ref h4, .ref h7])), (h1, .inr (3, [.int v1_isThere, .int v1_globals, .int v1_procedures, .int v1_statements, w1_entry, .ref h3, w1_textAt, w1_owner, w1_value, w1_variable, .ref h6, w1_on0, w1_on1, w1_parent, w1_sibling, w1_inside, w1_insideElse, w1_behind])), (h2, .inr (4, [.int u.1, .int v2_tokenAt, .long v2_name, .int u.2.1, .int u.2.2.1, w2_text, .int v2_size, .int v2_next])), (h3, .inl (k3, 40, .inl c3)), (h4, .inl (k4, 40, .inr (.inl c4))), (h5, .inl (k5, 6, .inr (.inl c5))), (h6, .inl (k6, 40, .inl u.2.2.2)), (h7, .inl (k7, 40, .inl c7))] [(k3, .int), (k4, .long), (k5, .long), (k6, .int), (k7, .int)] t) (va_A [(h0, .inr (2, [.ref h2, .ref h1, w0_variables, .int v0_locals, .ref h5, .ref h4, .ref h7])), (h1, .inr (3, [.int v1_isThere, .int v1_globals, .int v1_procedures, .int v1_statements, w1_entry, .ref h3, w1_textAt, w1_owner, w1_value, w1_variable, .ref h6, w1_on0, w1_on1, w1_parent, w1_sibling, w1_inside, w1_insideElse, w1_behind])), (h2, .inr (4, [.int v2_token, .int v2_tokenAt, .long v2_name, .int v2_fault, .int v2_faultAt, w2_text, .int v2_size, .int v2_next])), (h3, .inl (k3, 40, .inl c3)), (h4, .inl (k4, 40, .inr (.inl c4))), (h5, .inl (k5, 6, .inr (.inl c5))), (h6, .inl (k6, 40, .inl c6)), (h7, .inl (k7, 40, .inl c7))] sz)) 0 0 (va_A [(h0, .inr (2, [.ref h2, .ref h1, w0_variables, .int v0_locals, .ref h5, .ref h4, .ref h7])), (h1, .inr (3, [.int v1_isThere, .int v1_globals, .int v1_procedures, .int v1_statements, w1_entry, .ref h3, w1_textAt, w1_owner, w1_value, w1_variable, .ref h6, w1_on0, w1_on1, w1_parent, w1_sibling, w1_inside, w1_insideElse, w1_behind])), (h2, .inr (4, [.int v2_token, .int v2_tokenAt, .long v2_name, .int v2_fault, .int v2_faultAt, w2_text, .int v2_size, .int v2_next])), (h3, .inl (k3, 40, .inl c3)), (h4, .inl (k4, 40, .inr (.inl c4))), (h5, .inl (k5, 6, .inr (.inl c5))), (h6, .inl (k6, 40, .inl c6)), (h7, .inl (k7, 40, .inl c7))] sz) := by
  refine Met.ofW (cc := cX2_findCalled) (maxL := 2) (ret := none) (by decide) rfl ?_
  intro p e s m args below meth c s₁ B hml hv
  obtain ⟨rfl, hsz, hP, hK, hD0, hE⟩ := hv
  have hx := B.exec
  have hb := B.bytes
  have hr := B.returns
  have hts : ∀ w ∈ wsL_law, _ := fun w h => atoms_spec (ws := .code yX2_findCalled cX2_findCalled 2 none :: wsL_law) B.pre w (List.mem_cons_of_mem _ h)
  have hown : s.vm.findClass RX2 = some m.cls := findClass_of_methodNamed B.named
  have hlocks := B.notSynchronized
  have w0_ := hts _ q73
  have w1_ := hts _ q774
  have w2_ := hts _ q72
  have w3_ := hts _ q545
  have w4_ := hts _ q722
  have w5_ := hts _ q775
  have w6_ := hts _ q70
  have w7_ := hts _ q71
  subst hsz
  have hD := hD0.self (sz := s.heap.size)
  generalize hAe : va_A [(h0, .inr (2, [.ref h2, .ref h1, w0_variables, .int v0_locals, .ref h5, .ref h4, .ref h7])), (h1, .inr (3, [.int v1_isThere, .int v1_globals, .int v1_procedures, .int v1_statements, w1_entry, .ref h3, w1_textAt, w1_owner, w1_value, w1_variable, .ref h6, w1_on0, w1_on1, w1_parent, w1_sibling, w1_inside, w1_insideElse, w1_behind])), (h2, .inr (4, [.int v2_token, .int v2_tokenAt, .long v2_name, .int v2_fault, .int v2_faultAt, w2_text, .int v2_size, .int v2_next])), (h3, .inl (k3, 40, .inl c3)), (h4, .inl (k4, 40, .inr (.inl c4))), (h5, .inl (k5, 6, .inr (.inl c5))), (h6, .inl (k6, 40, .inl c6)), (h7, .inl (k7, 40, .inl c7))] s.heap.size = A at hD ⊢
  have hA : ∀ q : Nat, s.heap.size ≤ q → A q := fun q h => by rw [← hAe]; exact Or.inr h
  have hAB : ∀ q : Nat, A q → base ≤ q := fun q h => by rw [← hAe] at h; exact h.elim (fun ⟨k, e, hk⟩ => hD0.2 k _ hk) (fun hk => Nat.le_trans hE.1 hk)
  have hS : va_S A s.heap s.heap [] := va_S.rf
  have hl := lv_entry ([.ref h0]) (n := 2) (Nat.le_of_ble_eq_true rfl)
  rw [lg_entry_eq]
  generalize (lg_sl ([.ref h0]) ++ List.replicate (2 - (lg_sl ([.ref h0])).length) Slot.unset).toArray = ls at hl ⊢
  have hl : lv_has ls 2 [(0, .ref h0)] := hl
  have hP : va_P (dC, dI) vwCl [(h0, .inr (2, [.ref h2, .ref h1, w0_variables, .int v0_locals, .ref h5, .ref h4, .ref h7])), (h1, .inr (3, [.int v1_isThere, .int v1_globals, .int v1_procedures, .int v1_statements, w1_entry, .ref h3, w1_textAt, w1_owner, w1_value, w1_variable, .ref h6, w1_on0, w1_on1, w1_parent, w1_sibling, w1_inside, w1_insideElse, w1_behind])), (h2, .inr (4, [.int v2_token, .int v2_tokenAt, .long v2_name, .int v2_fault, .int v2_faultAt, w2_text, .int v2_size, .int v2_next])), (h3, .inl (k3, 40, .inl c3)), (h4, .inl (k4, 40, .inr (.inl c4))), (h5, .inl (k5, 6, .inr (.inl c5))), (h6, .inl (k6, 40, .inl c6)), (h7, .inl (k7, 40, .inl c7))] s.heap := hP
  refine gl_intro (fun G hG => ?_)
  have J88 : ∀ (v2_token : Int32) (v2_fault : Int32) (v2_faultAt : Int32) (c6 : (Nat → Int32)) (H : Heap) (locs : List Loc) (ls : Array Slot), va_P (dC, dI) vwCl [(h0, .inr (2, [.ref h2, .ref h1, w0_variables, .int v0_locals, .ref h5, .ref h4, .ref h7])), (h1, .inr (3, [.int v1_isThere, .int v1_globals, .int v1_procedures, .int v1_statements, w1_entry, .ref h3, w1_textAt, w1_owner, w1_value, w1_variable, .ref h6, w1_on0, w1_on1, w1_parent, w1_sibling, w1_inside, w1_insideElse, w1_behind])), (h2, .inr (4, [.int v2_token, .int v2_tokenAt, .long v2_name, .int v2_fault, .int v2_faultAt, w2_text, .int v2_size, .int v2_next])), (h3, .inl (k3, 40, .inl c3)), (h4, .inl (k4, 40, .inr (.inl c4))), (h5, .inl (k5, 6, .inr (.inl c5))), (h6, .inl (k6, 40, .inl c6)), (h7, .inl (k7, 40, .inl c7))] H → va_D A [(h0, .inr (2, [.ref h2, .ref h1, w0_variables, .int v0_locals, .ref h5, .ref h4, .ref h7])), (h1, .inr (3, [.int v1_isThere, .int v1_globals, .int v1_procedures, .int v1_statements, w1_entry, .ref h3, w1_textAt, w1_owner, w1_value, w1_variable, .ref h6, w1_on0, w1_on1, w1_parent, w1_sibling, w1_inside, w1_insideElse, w1_behind])), (h2, .inr (4, [.int v2_token, .int v2_tokenAt, .long v2_name, .int v2_fault, .int v2_faultAt, w2_text, .int v2_size, .int v2_next])), (h3, .inl (k3, 40, .inl c3)), (h4, .inl (k4, 40, .inr (.inl c4))), (h5, .inl (k5, 6, .inr (.inl c5))), (h6, .inl (k6, 40, .inl c6)), (h7, .inl (k7, 40, .inl c7))] → va_S A s.heap H locs → lv_has ls 2 [(0, .ref h0)] → fX2_findCalled_p88 v1_procedures v1_statements c3 c4 c5 c7  v2_token v2_fault v2_faultAt c6 = some o → G 0 0 H locs (F0 m 88 ls []) := by
    intro  v2_token v2_fault v2_faultAt c6 H locs ls hP hD hS hl hf
    refine (hG _ _ _ _ _).mpr ?_
    unfold fX2_findCalled_p88 at hf
    have hf1 := Option.some.inj hf
    subst hf1
    have hP9 := hP.sub (ws' := [(h0, .inr (2, [.ref h2, .ref h1, w0_variables, .int v0_locals, .ref h5, .ref h4, .ref h7])), (h1, .inr (3, [.int v1_isThere, .int v1_globals, .int v1_procedures, .int v1_statements, w1_entry, .ref h3, w1_textAt, w1_owner, w1_value, w1_variable, .ref h6, w1_on0, w1_on1, w1_parent, w1_sibling, w1_inside, w1_insideElse, w1_behind])), (h2, .inr (4, [.int v2_token, .int v2_tokenAt, .long v2_name, .int v2_fault, .int v2_faultAt, w2_text, .int v2_size, .int v2_next])), (h3, .inl (k3, 40, .inl c3)), (h4, .inl (k4, 40, .inr (.inl c4))), (h5, .inl (k5, 6, .inr (.inl c5))), (h6, .inl (k6, 40, .inl c6)), (h7, .inl (k7, 40, .inl c7))]) [0, 1, 2, 3, 4, 5, 6, 7] rfl
    have hD9 := hD.sub (ws' := [(h0, .inr (2, [.ref h2, .ref h1, w0_variables, .int v0_locals, .ref h5, .ref h4, .ref h7])), (h1, .inr (3, [.int v1_isThere, .int v1_globals, .int v1_procedures, .int v1_statements, w1_entry, .ref h3, w1_textAt, w1_owner, w1_value, w1_variable, .ref h6, w1_on0, w1_on1, w1_parent, w1_sibling, w1_inside, w1_insideElse, w1_behind])), (h2, .inr (4, [.int v2_token, .int v2_tokenAt, .long v2_name, .int v2_fault, .int v2_faultAt, w2_text, .int v2_size, .int v2_next])), (h3, .inl (k3, 40, .inl c3)), (h4, .inl (k4, 40, .inr (.inl c4))), (h5, .inl (k5, 6, .inr (.inl c5))), (h6, .inl (k6, 40, .inl c6)), (h7, .inl (k7, 40, .inl c7))]) [0, 1, 2, 3, 4, 5, 6, 7] (by decide) rfl
    exact W.vret hx hb hr (fun t ht hW => ⟨⟨(v2_token, v2_fault, v2_faultAt, c6), rfl, rfl, by rw [ht]; exact hP9, va_K.moved hW.alike hK, hD9⟩, hS.F ht⟩) hS.2.2 dX2_findCalled_88
  have J82 : ∀ (k2 : Int32 → Int32 → Int32 → Int32 → (Nat → Int32) → Option (Int32 × Int32 × Int32 × (Nat → Int32))) (hk2 : ∀ (y1 : Int32) (v2_token : Int32) (v2_fault : Int32) (v2_faultAt : Int32) (c6 : (Nat → Int32)) (H : Heap) (locs : List Loc) (ls : Array Slot), va_P (dC, dI) vwCl [(h0, .inr (2, [.ref h2, .ref h1, w0_variables, .int v0_locals, .ref h5, .ref h4, .ref h7])), (h1, .inr (3, [.int v1_isThere, .int v1_globals, .int v1_procedures, .int v1_statements, w1_entry, .ref h3, w1_textAt, w1_owner, w1_value, w1_variable, .ref h6, w1_on0, w1_on1, w1_parent, w1_sibling, w1_inside, w1_insideElse, w1_behind])), (h2, .inr (4, [.int v2_token, .int v2_tokenAt, .long v2_name, .int v2_fault, .int v2_faultAt, w2_text, .int v2_size, .int v2_next])), (h3, .inl (k3, 40, .inl c3)), (h4, .inl (k4, 40, .inr (.inl c4))), (h5, .inl (k5, 6, .inr (.inl c5))), (h6, .inl (k6, 40, .inl c6)), (h7, .inl (k7, 40, .inl c7))] H → va_D A [(h0, .inr (2, [.ref h2, .ref h1, w0_variables, .int v0_locals, .ref h5, .ref h4, .ref h7])), (h1, .inr (3, [.int v1_isThere, .int v1_globals, .int v1_procedures, .int v1_statements, w1_entry, .ref h3, w1_textAt, w1_owner, w1_value, w1_variable, .ref h6, w1_on0, w1_on1, w1_parent, w1_sibling, w1_inside, w1_insideElse, w1_behind])), (h2, .inr (4, [.int v2_token, .int v2_tokenAt, .long v2_name, .int v2_fault, .int v2_faultAt, w2_text, .int v2_size, .int v2_next])), (h3, .inl (k3, 40, .inl c3)), (h4, .inl (k4, 40, .inr (.inl c4))), (h5, .inl (k5, 6, .inr (.inl c5))), (h6, .inl (k6, 40, .inl c6)), (h7, .inl (k7, 40, .inl c7))] → va_S A s.heap H locs → lv_has ls 2 [(0, .ref h0), (1, .int y1)] → k2 y1 v2_token v2_fault v2_faultAt c6 = some o → G 0 0 H locs (F0 m 2 ls [])), ∀ (y1 : Int32) (v2_token : Int32) (v2_fault : Int32) (v2_faultAt : Int32) (c6 : (Nat → Int32)) (H : Heap) (locs : List Loc) (ls : Array Slot), va_P (dC, dI) vwCl [(h0, .inr (2, [.ref h2, .ref h1, w0_variables, .int v0_locals, .ref h5, .ref h4, .ref h7])), (h1, .inr (3, [.int v1_isThere, .int v1_globals, .int v1_procedures, .int v1_statements, w1_entry, .ref h3, w1_textAt, w1_owner, w1_value, w1_variable, .ref h6, w1_on0, w1_on1, w1_parent, w1_sibling, w1_inside, w1_insideElse, w1_behind])), (h2, .inr (4, [.int v2_token, .int v2_tokenAt, .long v2_name, .int v2_fault, .int v2_faultAt, w2_text, .int v2_size, .int v2_next])), (h3, .inl (k3, 40, .inl c3)), (h4, .inl (k4, 40, .inr (.inl c4))), (h5, .inl (k5, 6, .inr (.inl c5))), (h6, .inl (k6, 40, .inl c6)), (h7, .inl (k7, 40, .inl c7))] H → va_D A [(h0, .inr (2, [.ref h2, .ref h1, w0_variables, .int v0_locals, .ref h5, .ref h4, .ref h7])), (h1, .inr (3, [.int v1_isThere, .int v1_globals, .int v1_procedures, .int v1_statements, w1_entry, .ref h3, w1_textAt, w1_owner, w1_value, w1_variable, .ref h6, w1_on0, w1_on1, w1_parent, w1_sibling, w1_inside, w1_insideElse, w1_behind])), (h2, .inr (4, [.int v2_token, .int v2_tokenAt, .long v2_name, .int v2_fault, .int v2_faultAt, w2_text, .int v2_size, .int v2_next])), (h3, .inl (k3, 40, .inl c3)), (h4, .inl (k4, 40, .inr (.inl c4))), (h5, .inl (k5, 6, .inr (.inl c5))), (h6, .inl (k6, 40, .inl c6)), (h7, .inl (k7, 40, .inl c7))] → va_S A s.heap H locs → lv_has ls 2 [(0, .ref h0), (1, .int y1)] → fX2_findCalled_p82 v1_procedures v1_statements c3 c4 c5 c7 k2 y1 v2_token v2_fault v2_faultAt c6 = some o → G 0 0 H locs (F0 m 82 ls []) := by
    intro k2 hk2 y1 v2_token v2_fault v2_faultAt c6 H locs ls hP hD hS hl hf
    refine (hG _ _ _ _ _).mpr ?_
    unfold fX2_findCalled_p82 at hf
    obtain ⟨x1, e1⟩ : ∃ y : Int32, y = y1 + 1 := ⟨_, rfl⟩
    replace hf := nm_at hf e1
    refine lv_iinc (v := x1) (lv' := [(1, .int x1), (0, .ref h0)]) hx hb dX2_findCalled_82 hl (k := 1) rfl (by rw [e1]; rfl) (by decide) rfl (fun ls hl => ?_)
    refine lv_goto (tgt := 2) hx hb dX2_findCalled_85 (by decide) ?_
    exact (hG _ _ _ _ _).mp (hk2 x1 v2_token v2_fault v2_faultAt c6 H locs ls (hP.sub [0, 1, 2, 3, 4, 5, 6, 7] rfl) (hD.sub [0, 1, 2, 3, 4, 5, 6, 7] (by decide) rfl) hS (lv_sub hl [1, 0] rfl) hf)
  have B2 : ∀ (k2 : Int32 → Int32 → Int32 → Int32 → (Nat → Int32) → Option (Int32 × Int32 × Int32 × (Nat → Int32))) (hk2 : ∀ (y1 : Int32) (v2_token : Int32) (v2_fault : Int32) (v2_faultAt : Int32) (c6 : (Nat → Int32)) (H : Heap) (locs : List Loc) (ls : Array Slot), va_P (dC, dI) vwCl [(h0, .inr (2, [.ref h2, .ref h1, w0_variables, .int v0_locals, .ref h5, .ref h4, .ref h7])), (h1, .inr (3, [.int v1_isThere, .int v1_globals, .int v1_procedures, .int v1_statements, w1_entry, .ref h3, w1_textAt, w1_owner, w1_value, w1_variable, .ref h6, w1_on0, w1_on1, w1_parent, w1_sibling, w1_inside, w1_insideElse, w1_behind])), (h2, .inr (4, [.int v2_token, .int v2_tokenAt, .long v2_name, .int v2_fault, .int v2_faultAt, w2_text, .int v2_size, .int v2_next])), (h3, .inl (k3, 40, .inl c3)), (h4, .inl (k4, 40, .inr (.inl c4))), (h5, .inl (k5, 6, .inr (.inl c5))), (h6, .inl (k6, 40, .inl c6)), (h7, .inl (k7, 40, .inl c7))] H → va_D A [(h0, .inr (2, [.ref h2, .ref h1, w0_variables, .int v0_locals, .ref h5, .ref h4, .ref h7])), (h1, .inr (3, [.int v1_isThere, .int v1_globals, .int v1_procedures, .int v1_statements, w1_entry, .ref h3, w1_textAt, w1_owner, w1_value, w1_variable, .ref h6, w1_on0, w1_on1, w1_parent, w1_sibling, w1_inside, w1_insideElse, w1_behind])), (h2, .inr (4, [.int v2_token, .int v2_tokenAt, .long v2_name, .int v2_fault, .int v2_faultAt, w2_text, .int v2_size, .int v2_next])), (h3, .inl (k3, 40, .inl c3)), (h4, .inl (k4, 40, .inr (.inl c4))), (h5, .inl (k5, 6, .inr (.inl c5))), (h6, .inl (k6, 40, .inl c6)), (h7, .inl (k7, 40, .inl c7))] → va_S A s.heap H locs → lv_has ls 2 [(0, .ref h0), (1, .int y1)] → k2 y1 v2_token v2_fault v2_faultAt c6 = some o → G 0 0 H locs (F0 m 2 ls [])), ∀ (y1 : Int32) (v2_token : Int32) (v2_fault : Int32) (v2_faultAt : Int32) (c6 : (Nat → Int32)) (H : Heap) (locs : List Loc) (ls : Array Slot), va_P (dC, dI) vwCl [(h0, .inr (2, [.ref h2, .ref h1, w0_variables, .int v0_locals, .ref h5, .ref h4, .ref h7])), (h1, .inr (3, [.int v1_isThere, .int v1_globals, .int v1_procedures, .int v1_statements, w1_entry, .ref h3, w1_textAt, w1_owner, w1_value, w1_variable, .ref h6, w1_on0, w1_on1, w1_parent, w1_sibling, w1_inside, w1_insideElse, w1_behind])), (h2, .inr (4, [.int v2_token, .int v2_tokenAt, .long v2_name, .int v2_fault, .int v2_faultAt, w2_text, .int v2_size, .int v2_next])), (h3, .inl (k3, 40, .inl c3)), (h4, .inl (k4, 40, .inr (.inl c4))), (h5, .inl (k5, 6, .inr (.inl c5))), (h6, .inl (k6, 40, .inl c6)), (h7, .inl (k7, 40, .inl c7))] H → va_D A [(h0, .inr (2, [.ref h2, .ref h1, w0_variables, .int v0_locals, .ref h5, .ref h4, .ref h7])), (h1, .inr (3, [.int v1_isThere, .int v1_globals, .int v1_procedures, .int v1_statements, w1_entry, .ref h3, w1_textAt, w1_owner, w1_value, w1_variable, .ref h6, w1_on0, w1_on1, w1_parent, w1_sibling, w1_inside, w1_insideElse, w1_behind])), (h2, .inr (4, [.int v2_token, .int v2_tokenAt, .long v2_name, .int v2_fault, .int v2_faultAt, w2_text, .int v2_size, .int v2_next])), (h3, .inl (k3, 40, .inl c3)), (h4, .inl (k4, 40, .inr (.inl c4))), (h5, .inl (k5, 6, .inr (.inl c5))), (h6, .inl (k6, 40, .inl c6)), (h7, .inl (k7, 40, .inl c7))] → va_S A s.heap H locs → lv_has ls 2 [(0, .ref h0), (1, .int y1)] → fX2_findCalled_b2 v1_procedures v1_statements c3 c4 c5 c7  k2 y1 v2_token v2_fault v2_faultAt c6 = some o → G 0 0 H locs (F0 m 2 ls []) := by
    intro  k2 hk2 y1 v2_token v2_fault v2_faultAt c6 H locs ls hP hD hS hl hf
    refine (hG _ _ _ _ _).mpr ?_
    unfold fX2_findCalled_b2 at hf
    refine lv_iload_n hx hb dX2_findCalled_2 rfl (lv_at hl 1 rfl) ?_
    refine lv_aload_n hx hb dX2_findCalled_3 rfl (lv_at hl 0 rfl) ?_
    refine va_get (D := (dC, dI)) (ci := 2) (v := .ref h1) (C := RX2) (T := TX2) (N := 7) hx hb hts inlX2 hown hK hP 0 rfl rfl 1 (by decide) w0_ (fun _ h9 => h9) rfl dX2_findCalled_4 ?_
    refine va_get (D := (dC, dI)) (ci := 3) (v := .int v1_statements) (C := RX3) (T := TX3) (N := 18) hx hb hts inlX3 hown hK hP 1 rfl rfl 3 (by decide) w1_ (fun _ h9 => h9) rfl dX2_findCalled_7 ?_
    refine lv_icmp_ge (tgt := 88) hx hb dX2_findCalled_10 (by decide) (fun q2 => ?_) (fun q2 => ?_)
    · replace hf := if_at hf q2
      exact (hG _ _ _ _ _).mp (J88 v2_token v2_fault v2_faultAt c6 H locs ls (hP.sub [0, 1, 2, 3, 4, 5, 6, 7] rfl) (hD.sub [0, 1, 2, 3, 4, 5, 6, 7] (by decide) rfl) hS (lv_sub hl [0] rfl) hf)
    · replace hf := if_no hf q2
      refine lv_aload_n hx hb dX2_findCalled_13 rfl (lv_at hl 0 rfl) ?_
      refine va_get (D := (dC, dI)) (ci := 2) (v := .ref h2) (C := RX2) (T := TX2) (N := 7) hx hb hts inlX2 hown hK hP 0 rfl rfl 0 (by decide) w2_ (fun _ h9 => h9) rfl dX2_findCalled_14 ?_
      refine va_get (D := (dC, dI)) (ci := 4) (v := .int v2_fault) (C := RX4) (T := TX4) (N := 8) hx hb hts inlX4 hown hK hP 2 rfl rfl 3 (by decide) w3_ (fun _ h9 => h9) rfl dX2_findCalled_17 ?_
      refine lv_if_ne (tgt := 88) hx hb dX2_findCalled_20 (by decide) (fun q3 => ?_) (fun q3 => ?_)
      · replace hf := if_no hf q3
        exact (hG _ _ _ _ _).mp (J88 v2_token v2_fault v2_faultAt c6 H locs ls (hP.sub [0, 1, 2, 3, 4, 5, 6, 7] rfl) (hD.sub [0, 1, 2, 3, 4, 5, 6, 7] (by decide) rfl) hS (lv_sub hl [0] rfl) hf)
      · replace hf := if_at hf q3
        refine lv_aload_n hx hb dX2_findCalled_23 rfl (lv_at hl 0 rfl) ?_
        refine va_get (D := (dC, dI)) (ci := 2) (v := .ref h1) (C := RX2) (T := TX2) (N := 7) hx hb hts inlX2 hown hK hP 0 rfl rfl 1 (by decide) w0_ (fun _ h9 => h9) rfl dX2_findCalled_24 ?_
        refine va_get (D := (dC, dI)) (ci := 3) (v := .ref h3) (C := RX3) (T := TX3) (N := 18) hx hb hts inlX3 hown hK hP 1 rfl rfl 5 (by decide) w4_ (fun _ h9 => h9) rfl dX2_findCalled_27 ?_
        refine lv_iload_n hx hb dX2_findCalled_30 rfl (lv_at hl 1 rfl) ?_
        have b4 := bd_in hf
        replace hf := bd_k hf
        refine va_iald hx hb hK hP 3 0 rfl rfl b4 dX2_findCalled_31 ?_
        refine lv_topi (fun x5 e5 => ?_)
        replace hf := nm_at hf e5
        refine lv_iconst (v := 3) hx hb dX2_findCalled_32 (by decide +kernel) ?_
        refine lv_icmp_ne (tgt := 82) hx hb dX2_findCalled_33 (by decide) (fun q6 => ?_) (fun q6 => ?_)
        · replace hf := if_no hf q6
          exact (hG _ _ _ _ _).mp (J82 k2 hk2 y1 v2_token v2_fault v2_faultAt c6 H locs ls (hP.sub [0, 1, 2, 3, 4, 5, 6, 7] rfl) (hD.sub [0, 1, 2, 3, 4, 5, 6, 7] (by decide) rfl) hS (lv_sub hl [0, 1] rfl) hf)
        · replace hf := if_at hf q6
          refine lv_aload_n hx hb dX2_findCalled_36 rfl (lv_at hl 0 rfl) ?_
          refine va_get (D := (dC, dI)) (ci := 2) (v := .ref h1) (C := RX2) (T := TX2) (N := 7) hx hb hts inlX2 hown hK hP 0 rfl rfl 1 (by decide) w0_ (fun _ h9 => h9) rfl dX2_findCalled_37 ?_
          refine va_get (D := (dC, dI)) (ci := 3) (v := .ref h6) (C := RX3) (T := TX3) (N := 18) hx hb hts inlX3 hown hK hP 1 rfl rfl 10 (by decide) w5_ (fun _ h9 => h9) rfl dX2_findCalled_40 ?_
          refine lv_iload_n hx hb dX2_findCalled_43 rfl (lv_at hl 1 rfl) ?_
          refine lv_aload_n hx hb dX2_findCalled_44 rfl (lv_at hl 0 rfl) ?_
          refine lv_aload_n hx hb dX2_findCalled_45 rfl (lv_at hl 0 rfl) ?_
          refine va_get (D := (dC, dI)) (ci := 2) (v := .ref h4) (C := RX2) (T := TX2) (N := 7) hx hb hts inlX2 hown hK hP 0 rfl rfl 5 (by decide) w6_ (fun _ h9 => h9) rfl dX2_findCalled_46 ?_
          refine lv_iload_n hx hb dX2_findCalled_49 rfl (lv_at hl 1 rfl) ?_
          have b7 := bd_in hf
          replace hf := bd_k hf
          refine va_lald hx hb hK hP 4 1 rfl rfl b7 dX2_findCalled_50 ?_
          refine lv_topl (fun x8 e8 => ?_)
          replace hf := nm_at hf e8
          obtain ⟨o9, e9, hf⟩ := ob_some hf
          refine kVi (As := [.long x8]) (rest := [.int y1, .ref h6]) ⟨hx, hb, hml, hown, hts⟩ (mX2_findProcedure l dC dI h0 h1 h5 k5 H.size base x8 v0_locals v1_isThere v1_globals v1_procedures v1_statements c5 (.ref h2) w0_variables (.ref h4) (.ref h7) w1_entry (.ref h3) w1_textAt w1_owner w1_value w1_variable (.ref h6) w1_on0 w1_on1 w1_parent w1_sibling w1_inside w1_insideElse w1_behind o9 e9) (cwV 1 hts (gTV q698 q699 q700 q27 q701) rfl rfl rfl (by decide +kernel) ⟨Nat.le_of_ble_eq_true rfl, Nat.le_of_ble_eq_true rfl⟩) hK hP hD hS hA hE hAB [0, 1, 5] [2, 3, 4, 6, 7] [2] (wr := [(h2, .inr (4, [.int v2_token, .int v2_tokenAt, .long v2_name, .int v2_fault, .int v2_faultAt, w2_text, .int v2_size, .int v2_next])), (h3, .inl (k3, 40, .inl c3)), (h4, .inl (k4, 40, .inr (.inl c4))), (h6, .inl (k6, 40, .inl c6)), (h7, .inl (k7, 40, .inl c7))]) rfl rfl (by decide) (by decide) (by decide) rfl (ci := 2) (q0 := 0) rfl rfl rfl rfl hl.1 rfl (Nat.le_of_ble_eq_true rfl) dX2_findCalled_51 ⟨Nat.zero_le _, Nat.zero_le _⟩ (fun r9 u9 H locs hw9 hP hD hS => ?_)
          obtain ⟨hw91, hw92⟩ := hw9
          subst hw91 hw92
          have hP : va_P (dC, dI) vwCl [(h2, .inr (4, [.int v2_token, .int v2_tokenAt, .long v2_name, .int v2_fault, .int v2_faultAt, w2_text, .int v2_size, .int v2_next])), (h3, .inl (k3, 40, .inl c3)), (h4, .inl (k4, 40, .inr (.inl c4))), (h6, .inl (k6, 40, .inl c6)), (h7, .inl (k7, 40, .inl c7)), (h0, .inr (2, [.ref h2, .ref h1, w0_variables, .int v0_locals, .ref h5, .ref h4, .ref h7])), (h1, .inr (3, [.int v1_isThere, .int v1_globals, .int v1_procedures, .int v1_statements, w1_entry, .ref h3, w1_textAt, w1_owner, w1_value, w1_variable, .ref h6, w1_on0, w1_on1, w1_parent, w1_sibling, w1_inside, w1_insideElse, w1_behind])), (h5, .inl (k5, 6, .inr (.inl c5)))] H := hP
          have hD : va_D A [(h2, .inr (4, [.int v2_token, .int v2_tokenAt, .long v2_name, .int v2_fault, .int v2_faultAt, w2_text, .int v2_size, .int v2_next])), (h3, .inl (k3, 40, .inl c3)), (h4, .inl (k4, 40, .inr (.inl c4))), (h6, .inl (k6, 40, .inl c6)), (h7, .inl (k7, 40, .inl c7)), (h0, .inr (2, [.ref h2, .ref h1, w0_variables, .int v0_locals, .ref h5, .ref h4, .ref h7])), (h1, .inr (3, [.int v1_isThere, .int v1_globals, .int v1_procedures, .int v1_statements, w1_entry, .ref h3, w1_textAt, w1_owner, w1_value, w1_variable, .ref h6, w1_on0, w1_on1, w1_parent, w1_sibling, w1_inside, w1_insideElse, w1_behind])), (h5, .inl (k5, 6, .inr (.inl c5)))] := hD
          have b10 := bd_in hf
          replace hf := bd_k hf
          obtain ⟨c10x, e10⟩ : ∃ y, y = upd c6 y1.toNatClampNeg o9.1 := ⟨_, rfl⟩
          replace hf := nm_at hf e10
          refine va_iast hx hb hK hP hD hS 3 3 rfl rfl b10 dX2_findCalled_54 (fun H locs hP hD hS => ?_)
          have hP : va_P (dC, dI) vwCl [(h2, .inr (4, [.int v2_token, .int v2_tokenAt, .long v2_name, .int v2_fault, .int v2_faultAt, w2_text, .int v2_size, .int v2_next])), (h3, .inl (k3, 40, .inl c3)), (h4, .inl (k4, 40, .inr (.inl c4))), (h6, .inl (k6, 40, .inl c10x)), (h7, .inl (k7, 40, .inl c7)), (h0, .inr (2, [.ref h2, .ref h1, w0_variables, .int v0_locals, .ref h5, .ref h4, .ref h7])), (h1, .inr (3, [.int v1_isThere, .int v1_globals, .int v1_procedures, .int v1_statements, w1_entry, .ref h3, w1_textAt, w1_owner, w1_value, w1_variable, .ref h6, w1_on0, w1_on1, w1_parent, w1_sibling, w1_inside, w1_insideElse, w1_behind])), (h5, .inl (k5, 6, .inr (.inl c5)))] H := by rw [e10]; exact hP
          have hD : va_D A [(h2, .inr (4, [.int v2_token, .int v2_tokenAt, .long v2_name, .int v2_fault, .int v2_faultAt, w2_text, .int v2_size, .int v2_next])), (h3, .inl (k3, 40, .inl c3)), (h4, .inl (k4, 40, .inr (.inl c4))), (h6, .inl (k6, 40, .inl c10x)), (h7, .inl (k7, 40, .inl c7)), (h0, .inr (2, [.ref h2, .ref h1, w0_variables, .int v0_locals, .ref h5, .ref h4, .ref h7])), (h1, .inr (3, [.int v1_isThere, .int v1_globals, .int v1_procedures, .int v1_statements, w1_entry, .ref h3, w1_textAt, w1_owner, w1_value, w1_variable, .ref h6, w1_on0, w1_on1, w1_parent, w1_sibling, w1_inside, w1_insideElse, w1_behind])), (h5, .inl (k5, 6, .inr (.inl c5)))] := by rw [e10]; exact hD
          refine lv_aload_n hx hb dX2_findCalled_55 rfl (lv_at hl 0 rfl) ?_
          refine va_get (D := (dC, dI)) (ci := 2) (v := .ref h1) (C := RX2) (T := TX2) (N := 7) hx hb hts inlX2 hown hK hP 5 rfl rfl 1 (by decide) w0_ (fun _ h9 => h9) rfl dX2_findCalled_56 ?_
          refine va_get (D := (dC, dI)) (ci := 3) (v := .ref h6) (C := RX3) (T := TX3) (N := 18) hx hb hts inlX3 hown hK hP 6 rfl rfl 10 (by decide) w5_ (fun _ h9 => h9) rfl dX2_findCalled_59 ?_
          refine lv_iload_n hx hb dX2_findCalled_62 rfl (lv_at hl 1 rfl) ?_
          have b11 := bd_in hf
          replace hf := bd_k hf
          refine va_iald hx hb hK hP 3 3 rfl rfl b11 dX2_findCalled_63 ?_
          refine lv_topi (fun x12 e12 => ?_)
          replace hf := nm_at hf e12
          refine lv_iconst (v := (-1)) hx hb dX2_findCalled_64 (by decide +kernel) ?_
          refine lv_icmp_ne (tgt := 82) hx hb dX2_findCalled_65 (by decide) (fun q13 => ?_) (fun q13 => ?_)
          · replace hf := if_no hf q13
            exact (hG _ _ _ _ _).mp (J82 k2 hk2 y1 v2_token v2_fault v2_faultAt c10x H locs ls (hP.sub [5, 6, 0, 1, 2, 7, 3, 4] rfl) (hD.sub [5, 6, 0, 1, 2, 7, 3, 4] (by decide) rfl) hS (lv_sub hl [0, 1] rfl) hf)
          · replace hf := if_at hf q13
            refine lv_aload_n hx hb dX2_findCalled_68 rfl (lv_at hl 0 rfl) ?_
            refine va_get (D := (dC, dI)) (ci := 2) (v := .ref h2) (C := RX2) (T := TX2) (N := 7) hx hb hts inlX2 hown hK hP 5 rfl rfl 0 (by decide) w2_ (fun _ h9 => h9) rfl dX2_findCalled_69 ?_
            refine lv_iconst (v := 4) hx hb dX2_findCalled_72 (by decide +kernel) ?_
            refine lv_aload_n hx hb dX2_findCalled_73 rfl (lv_at hl 0 rfl) ?_
            refine va_get (D := (dC, dI)) (ci := 2) (v := .ref h7) (C := RX2) (T := TX2) (N := 7) hx hb hts inlX2 hown hK hP 5 rfl rfl 6 (by decide) w7_ (fun _ h9 => h9) rfl dX2_findCalled_74 ?_
            refine lv_iload_n hx hb dX2_findCalled_77 rfl (lv_at hl 1 rfl) ?_
            have b14 := bd_in hf
            replace hf := bd_k hf
            refine va_iald hx hb hK hP 4 4 rfl rfl b14 dX2_findCalled_78 ?_
            refine lv_topi (fun x15 e15 => ?_)
            replace hf := nm_at hf e15
            obtain ⟨o16, e16, hf⟩ := ob_some hf
            refine kVv (As := [.int 4, .int x15]) (rest := []) ⟨hx, hb, hml, hown, hts⟩ (mX4_fail l dC dI h2 H.size base 4 x15 v2_token v2_tokenAt v2_name v2_fault v2_faultAt v2_size v2_next w2_text o16 e16) (cwV 2 hts (gTV q776 q580 q581 q19 q582) rfl rfl rfl (by decide +kernel) ⟨Nat.le_of_ble_eq_true rfl, Nat.le_of_ble_eq_true rfl⟩) hK hP hD hS hA hE hAB [0] [1, 2, 3, 4, 5, 6, 7] [] (wr := [(h3, .inl (k3, 40, .inl c3)), (h4, .inl (k4, 40, .inr (.inl c4))), (h6, .inl (k6, 40, .inl c10x)), (h7, .inl (k7, 40, .inl c7)), (h0, .inr (2, [.ref h2, .ref h1, w0_variables, .int v0_locals, .ref h5, .ref h4, .ref h7])), (h1, .inr (3, [.int v1_isThere, .int v1_globals, .int v1_procedures, .int v1_statements, w1_entry, .ref h3, w1_textAt, w1_owner, w1_value, w1_variable, .ref h6, w1_on0, w1_on1, w1_parent, w1_sibling, w1_inside, w1_insideElse, w1_behind])), (h5, .inl (k5, 6, .inr (.inl c5)))]) rfl rfl (by decide) (by decide) (by decide) rfl (ci := 4) (q0 := 0) rfl rfl rfl rfl hl.1 rfl (Nat.le_of_ble_eq_true rfl) dX2_findCalled_79 ⟨Nat.zero_le _, Nat.zero_le _⟩ (fun u16 H locs hw16 hP hD hS => ?_)
            have hw161 : o16 = u16 := Eq.symm hw16
            subst hw161
            have hP : va_P (dC, dI) vwCl [(h3, .inl (k3, 40, .inl c3)), (h4, .inl (k4, 40, .inr (.inl c4))), (h6, .inl (k6, 40, .inl c10x)), (h7, .inl (k7, 40, .inl c7)), (h0, .inr (2, [.ref h2, .ref h1, w0_variables, .int v0_locals, .ref h5, .ref h4, .ref h7])), (h1, .inr (3, [.int v1_isThere, .int v1_globals, .int v1_procedures, .int v1_statements, w1_entry, .ref h3, w1_textAt, w1_owner, w1_value, w1_variable, .ref h6, w1_on0, w1_on1, w1_parent, w1_sibling, w1_inside, w1_insideElse, w1_behind])), (h5, .inl (k5, 6, .inr (.inl c5))), (h2, .inr (4, [.int o16.1, .int v2_tokenAt, .long v2_name, .int o16.2.1, .int o16.2.2, w2_text, .int v2_size, .int v2_next]))] H := hP
            have hD : va_D A [(h3, .inl (k3, 40, .inl c3)), (h4, .inl (k4, 40, .inr (.inl c4))), (h6, .inl (k6, 40, .inl c10x)), (h7, .inl (k7, 40, .inl c7)), (h0, .inr (2, [.ref h2, .ref h1, w0_variables, .int v0_locals, .ref h5, .ref h4, .ref h7])), (h1, .inr (3, [.int v1_isThere, .int v1_globals, .int v1_procedures, .int v1_statements, w1_entry, .ref h3, w1_textAt, w1_owner, w1_value, w1_variable, .ref h6, w1_on0, w1_on1, w1_parent, w1_sibling, w1_inside, w1_insideElse, w1_behind])), (h5, .inl (k5, 6, .inr (.inl c5))), (h2, .inr (4, [.int o16.1, .int v2_tokenAt, .long v2_name, .int o16.2.1, .int o16.2.2, w2_text, .int v2_size, .int v2_next]))] := hD
            exact (hG _ _ _ _ _).mp (J82 k2 hk2 y1 o16.1 o16.2.1 o16.2.2 c10x H locs ls (hP.sub [4, 5, 7, 0, 1, 6, 2, 3] rfl) (hD.sub [4, 5, 7, 0, 1, 6, 2, 3] (by decide) rfl) hS (lv_sub hl [0, 1] rfl) hf)
  have L2 : ∀ (n : Nat), ∀ (y1 : Int32) (v2_token : Int32) (v2_fault : Int32) (v2_faultAt : Int32) (c6 : (Nat → Int32)) (H : Heap) (locs : List Loc) (ls : Array Slot), va_P (dC, dI) vwCl [(h0, .inr (2, [.ref h2, .ref h1, w0_variables, .int v0_locals, .ref h5, .ref h4, .ref h7])), (h1, .inr (3, [.int v1_isThere, .int v1_globals, .int v1_procedures, .int v1_statements, w1_entry, .ref h3, w1_textAt, w1_owner, w1_value, w1_variable, .ref h6, w1_on0, w1_on1, w1_parent, w1_sibling, w1_inside, w1_insideElse, w1_behind])), (h2, .inr (4, [.int v2_token, .int v2_tokenAt, .long v2_name, .int v2_fault, .int v2_faultAt, w2_text, .int v2_size, .int v2_next])), (h3, .inl (k3, 40, .inl c3)), (h4, .inl (k4, 40, .inr (.inl c4))), (h5, .inl (k5, 6, .inr (.inl c5))), (h6, .inl (k6, 40, .inl c6)), (h7, .inl (k7, 40, .inl c7))] H → va_D A [(h0, .inr (2, [.ref h2, .ref h1, w0_variables, .int v0_locals, .ref h5, .ref h4, .ref h7])), (h1, .inr (3, [.int v1_isThere, .int v1_globals, .int v1_procedures, .int v1_statements, w1_entry, .ref h3, w1_textAt, w1_owner, w1_value, w1_variable, .ref h6, w1_on0, w1_on1, w1_parent, w1_sibling, w1_inside, w1_insideElse, w1_behind])), (h2, .inr (4, [.int v2_token, .int v2_tokenAt, .long v2_name, .int v2_fault, .int v2_faultAt, w2_text, .int v2_size, .int v2_next])), (h3, .inl (k3, 40, .inl c3)), (h4, .inl (k4, 40, .inr (.inl c4))), (h5, .inl (k5, 6, .inr (.inl c5))), (h6, .inl (k6, 40, .inl c6)), (h7, .inl (k7, 40, .inl c7))] → va_S A s.heap H locs → lv_has ls 2 [(0, .ref h0), (1, .int y1)] → fX2_findCalled_l2 v1_procedures v1_statements c3 c4 c5 c7  n y1 v2_token v2_fault v2_faultAt c6 = some o → G 0 0 H locs (F0 m 2 ls []) := by
    intro  n
    induction n with
    | zero => intro y1 v2_token v2_fault v2_faultAt c6 H locs ls _ _ _ _ hf; cases hf
    | succ n ih => exact B2  _ ih
  refine (hG _ _ _ _ _).mpr ?_
  obtain ⟨H, hH⟩ : ∃ H, H = s.heap := ⟨_, rfl⟩
  have hS : va_S A s.heap H [] := by rw [hH]; exact hS
  rw [← hH] at hP ⊢
  generalize ([] : List Loc) = locs at hS ⊢
  unfold fX2_findCalled at hf
  refine lv_iconst (v := 0) hx hb dX2_findCalled_0 (by decide +kernel) ?_
  refine lv_istore_n (lv' := [(1, .int 0), (0, .ref h0)]) hx hb dX2_findCalled_1 rfl hl (by decide) rfl (fun ls hl => ?_)
  exact (hG _ _ _ _ _).mp (L2 FU 0 v2_token v2_fault v2_faultAt c6 H locs ls (hP.sub [0, 1, 2, 3, 4, 5, 6, 7] rfl) (hD.sub [0, 1, 2, 3, 4, 5, 6, 7] (by decide) rfl) hS (lv_sub hl [1, 0] rfl) hf)
set_option maxHeartbeats 4000000 in
set_option maxRecDepth 100000 in
theorem mX2_findVariable (l : Launch) (dC : Nat → ClassId) (dI : Nat → Nat → Nat) (h0 h1 h2 : Nat) (k2 : ClassId) (sz base : Nat) (a0 : Int64) (v0_locals : Int32) (v1_isThere : Int32) (v1_globals : Int32) (v1_procedures : Int32) (v1_statements : Int32) (c2 : Nat → Int64) (w0_scanner : Value) (w0_procedures : Value) (w0_calledName : Value) (w0_calledAt : Value) (w1_entry : Value) (w1_kind : Value) (w1_textAt : Value) (w1_owner : Value) (w1_value : Value) (w1_variable : Value) (w1_callee : Value) (w1_on0 : Value) (w1_on1 : Value) (w1_parent : Value) (w1_sibling : Value) (w1_inside : Value) (w1_insideElse : Value) (w1_behind : Value) (o : Int32 × Unit) (hf : fX2_findVariable a0 v0_locals v1_globals c2 = some o) : Met l yX2_findVariable (.code yX2_findVariable cX2_findVariable 4 (some .int) :: wsL_law) ({ frames := 0, cells := 0, slots := 0, locals := 0 }) (cPre (dC, dI) vwCl [.ref h0, .long a0] sz base [(h0, .inr (2, [w0_scanner, .ref h1, .ref h2, .int v0_locals, w0_procedures, w0_calledName, w0_calledAt])), (h1, .inr (3, [.int v1_isThere, .int v1_globals, .int v1_procedures, .int v1_statements, w1_entry, w1_kind, w1_textAt, w1_owner, w1_value, w1_variable, w1_callee, w1_on0, w1_on1, w1_parent, w1_sibling, w1_inside, w1_insideElse, w1_behind])), (h2, .inl (k2, 5, .inr (.inl c2)))] [(k2, .long)]) (va_Qi (fun r u => r = o.1 ∧ u = o.2) (fun (u : Unit) t => cPost (dC, dI) vwCl (va_A [(h0, .inr (2, [w0_scanner, .ref h1, .ref h2, .int v0_locals, w0_procedures, w0_calledName, w0_calledAt])), (h1, .inr (3, [.int v1_isThere, .int v1_globals, .int v1_procedures, .int v1_statements, w1_entry, w1_kind, w1_textAt, w1_owner, w1_value, w1_variable, w1_callee, w1_on0, w1_on1, w1_parent, w1_sibling, w1_inside, w1_insideElse, w1_behind])), (h2, .inl (k2, 5, .inr (.inl c2)))] sz) [(h0, .inr (2, [w0_scanner, .ref h1, .ref h2, .int v0_locals, w0_procedures, w0_calledName, w0_calledAt])), (h1, .inr (3, [.int v1_isThere, .int v1_globals, .int v1_procedures, .int v1_statements, w1_entry, w1_kind, w1_textAt, w1_owner, w1_value, w1_variable, w1_callee, w1_on0, w1_on1, w1_parent, w1_sibling, w1_inside, w1_insideElse, w1_behind])), (h2, .inl (k2, 5, .inr (.inl c2)))] [(k2, .long)] t) (va_A [(h0, .inr (2, [w0_scanner, .ref h1, .ref h2, .int v0_locals, w0_procedures, w0_calledName, w0_calledAt])), (h1, .inr (3, [.int v1_isThere, .int v1_globals, .int v1_procedures, .int v1_statements, w1_entry, w1_kind, w1_textAt, w1_owner, w1_value, w1_variable, w1_callee, w1_on0, w1_on1, w1_parent, w1_sibling, w1_inside, w1_insideElse, w1_behind])), (h2, .inl (k2, 5, .inr (.inl c2)))] sz)) 0 0 (va_A [(h0, .inr (2, [w0_scanner, .ref h1, .ref h2, .int v0_locals, w0_procedures, w0_calledName, w0_calledAt])), (h1, .inr (3, [.int v1_isThere, .int v1_globals, .int v1_procedures, .int v1_statements, w1_entry, w1_kind, w1_textAt, w1_owner, w1_value, w1_variable, w1_callee, w1_on0, w1_on1, w1_parent, w1_sibling, w1_inside, w1_insideElse, w1_behind])), (h2, .inl (k2, 5, .inr (.inl c2)))] sz) := by
  refine Met.ofW (cc := cX2_findVariable) (maxL := 4) (ret := (some .int)) (by decide) rfl ?_
  intro p e s m args below meth c s₁ B hml hv
  obtain ⟨rfl, hsz, hP, hK, hD0, hE⟩ := hv
  have hx := B.exec
  have hb := B.bytes
  have hr := B.returns
  have hts : ∀ w ∈ wsL_law, _ := fun w h => atoms_spec (ws := .code yX2_findVariable cX2_findVariable 4 (some .int) :: wsL_law) B.pre w (List.mem_cons_of_mem _ h)
  have hown : s.vm.findClass RX2 = some m.cls := findClass_of_methodNamed B.named
  have hlocks := B.notSynchronized
  have w0_ := hts _ q543
  have w1_ := hts _ q68
  have w2_ := hts _ q73
  have w3_ := hts _ q677
  subst hsz
  have hD := hD0.self (sz := s.heap.size)
  generalize hAe : va_A [(h0, .inr (2, [w0_scanner, .ref h1, .ref h2, .int v0_locals, w0_procedures, w0_calledName, w0_calledAt])), (h1, .inr (3, [.int v1_isThere, .int v1_globals, .int v1_procedures, .int v1_statements, w1_entry, w1_kind, w1_textAt, w1_owner, w1_value, w1_variable, w1_callee, w1_on0, w1_on1, w1_parent, w1_sibling, w1_inside, w1_insideElse, w1_behind])), (h2, .inl (k2, 5, .inr (.inl c2)))] s.heap.size = A at hD ⊢
  have hA : ∀ q : Nat, s.heap.size ≤ q → A q := fun q h => by rw [← hAe]; exact Or.inr h
  have hAB : ∀ q : Nat, A q → base ≤ q := fun q h => by rw [← hAe] at h; exact h.elim (fun ⟨k, e, hk⟩ => hD0.2 k _ hk) (fun hk => Nat.le_trans hE.1 hk)
  have hS : va_S A s.heap s.heap [] := va_S.rf
  have hl := lv_entry ([.ref h0, .long a0]) (n := 4) (Nat.le_of_ble_eq_true rfl)
  rw [lg_entry_eq]
  generalize (lg_sl ([.ref h0, .long a0]) ++ List.replicate (4 - (lg_sl ([.ref h0, .long a0])).length) Slot.unset).toArray = ls at hl ⊢
  have hl : lv_has ls 4 [(0, .ref h0), (1, .long a0)] := hl
  have hP : va_P (dC, dI) vwCl [(h0, .inr (2, [w0_scanner, .ref h1, .ref h2, .int v0_locals, w0_procedures, w0_calledName, w0_calledAt])), (h1, .inr (3, [.int v1_isThere, .int v1_globals, .int v1_procedures, .int v1_statements, w1_entry, w1_kind, w1_textAt, w1_owner, w1_value, w1_variable, w1_callee, w1_on0, w1_on1, w1_parent, w1_sibling, w1_inside, w1_insideElse, w1_behind])), (h2, .inl (k2, 5, .inr (.inl c2)))] s.heap := hP
  refine gl_intro (fun G hG => ?_)
  have B34 : ∀ (k34 : Int64 → Int32 → Option (Int32 × Unit)) (hk34 : ∀ (y1 : Int64) (y3 : Int32) (H : Heap) (locs : List Loc) (ls : Array Slot), va_P (dC, dI) vwCl [(h0, .inr (2, [w0_scanner, .ref h1, .ref h2, .int v0_locals, w0_procedures, w0_calledName, w0_calledAt])), (h1, .inr (3, [.int v1_isThere, .int v1_globals, .int v1_procedures, .int v1_statements, w1_entry, w1_kind, w1_textAt, w1_owner, w1_value, w1_variable, w1_callee, w1_on0, w1_on1, w1_parent, w1_sibling, w1_inside, w1_insideElse, w1_behind])), (h2, .inl (k2, 5, .inr (.inl c2)))] H → va_D A [(h0, .inr (2, [w0_scanner, .ref h1, .ref h2, .int v0_locals, w0_procedures, w0_calledName, w0_calledAt])), (h1, .inr (3, [.int v1_isThere, .int v1_globals, .int v1_procedures, .int v1_statements, w1_entry, w1_kind, w1_textAt, w1_owner, w1_value, w1_variable, w1_callee, w1_on0, w1_on1, w1_parent, w1_sibling, w1_inside, w1_insideElse, w1_behind])), (h2, .inl (k2, 5, .inr (.inl c2)))] → va_S A s.heap H locs → lv_has ls 4 [(0, .ref h0), (1, .long y1), (3, .int y3)] → k34 y1 y3 = some o → G 0 0 H locs (F0 m 34 ls [])), ∀ (y1 : Int64) (y3 : Int32) (H : Heap) (locs : List Loc) (ls : Array Slot), va_P (dC, dI) vwCl [(h0, .inr (2, [w0_scanner, .ref h1, .ref h2, .int v0_locals, w0_procedures, w0_calledName, w0_calledAt])), (h1, .inr (3, [.int v1_isThere, .int v1_globals, .int v1_procedures, .int v1_statements, w1_entry, w1_kind, w1_textAt, w1_owner, w1_value, w1_variable, w1_callee, w1_on0, w1_on1, w1_parent, w1_sibling, w1_inside, w1_insideElse, w1_behind])), (h2, .inl (k2, 5, .inr (.inl c2)))] H → va_D A [(h0, .inr (2, [w0_scanner, .ref h1, .ref h2, .int v0_locals, w0_procedures, w0_calledName, w0_calledAt])), (h1, .inr (3, [.int v1_isThere, .int v1_globals, .int v1_procedures, .int v1_statements, w1_entry, w1_kind, w1_textAt, w1_owner, w1_value, w1_variable, w1_callee, w1_on0, w1_on1, w1_parent, w1_sibling, w1_inside, w1_insideElse, w1_behind])), (h2, .inl (k2, 5, .inr (.inl c2)))] → va_S A s.heap H locs → lv_has ls 4 [(0, .ref h0), (1, .long y1), (3, .int y3)] → fX2_findVariable_b34 v0_locals v1_globals c2  k34 y1 y3 = some o → G 0 0 H locs (F0 m 34 ls []) := by
    intro  k34 hk34 y1 y3 H locs ls hP hD hS hl hf
    refine (hG _ _ _ _ _).mpr ?_
    unfold fX2_findVariable_b34 at hf
    refine lv_iload_n hx hb dX2_findVariable_34 rfl (lv_at hl 2 rfl) ?_
    refine lv_iconst (v := 3) hx hb dX2_findVariable_35 (by decide +kernel) ?_
    refine lv_aload_n hx hb dX2_findVariable_36 rfl (lv_at hl 0 rfl) ?_
    refine va_get (D := (dC, dI)) (ci := 2) (v := .int v0_locals) (C := RX2) (T := TX2) (N := 7) hx hb hts inlX2 hown hK hP 0 rfl rfl 3 (by decide) w0_ (fun _ h9 => h9) rfl dX2_findVariable_37 ?_
    refine lv_iadd hx hb dX2_findVariable_40 ?_
    refine lv_topi (fun x1 e1 => ?_)
    replace hf := nm_at hf e1
    refine lv_icmp_ge (tgt := 63) hx hb dX2_findVariable_41 (by decide) (fun q2 => ?_) (fun q2 => ?_)
    · replace hf := if_at hf q2
      refine lv_iconst (v := (-1)) hx hb dX2_findVariable_63 (by decide +kernel) ?_
      have hf1 := Option.some.inj hf
      subst hf1
      have hP9 := hP.sub (ws' := [(h0, .inr (2, [w0_scanner, .ref h1, .ref h2, .int v0_locals, w0_procedures, w0_calledName, w0_calledAt])), (h1, .inr (3, [.int v1_isThere, .int v1_globals, .int v1_procedures, .int v1_statements, w1_entry, w1_kind, w1_textAt, w1_owner, w1_value, w1_variable, w1_callee, w1_on0, w1_on1, w1_parent, w1_sibling, w1_inside, w1_insideElse, w1_behind])), (h2, .inl (k2, 5, .inr (.inl c2)))]) [0, 1, 2] rfl
      have hD9 := hD.sub (ws' := [(h0, .inr (2, [w0_scanner, .ref h1, .ref h2, .int v0_locals, w0_procedures, w0_calledName, w0_calledAt])), (h1, .inr (3, [.int v1_isThere, .int v1_globals, .int v1_procedures, .int v1_statements, w1_entry, w1_kind, w1_textAt, w1_owner, w1_value, w1_variable, w1_callee, w1_on0, w1_on1, w1_parent, w1_sibling, w1_inside, w1_insideElse, w1_behind])), (h2, .inl (k2, 5, .inr (.inl c2)))]) [0, 1, 2] (by decide) rfl
      exact W.iret (v := (-1)) hx hb hr (fun t ht hW => ⟨⟨(-1), (), rfl, ⟨rfl, rfl⟩, by rw [ht]; exact hP9, va_K.moved hW.alike hK, hD9⟩, hS.F ht⟩) hS.2.2 dX2_findVariable_64
    · replace hf := if_no hf q2
      refine lv_aload_n hx hb dX2_findVariable_44 rfl (lv_at hl 0 rfl) ?_
      refine va_get (D := (dC, dI)) (ci := 2) (v := .ref h2) (C := RX2) (T := TX2) (N := 7) hx hb hts inlX2 hown hK hP 0 rfl rfl 2 (by decide) w1_ (fun _ h9 => h9) rfl dX2_findVariable_45 ?_
      refine lv_iload_n hx hb dX2_findVariable_48 rfl (lv_at hl 2 rfl) ?_
      have b3 := bd_in hf
      replace hf := bd_k hf
      refine va_lald hx hb hK hP 2 0 rfl rfl b3 dX2_findVariable_49 ?_
      refine lv_topl (fun x4 e4 => ?_)
      replace hf := nm_at hf e4
      refine lv_lload_n hx hb dX2_findVariable_50 rfl (lv_at hl 1 rfl) ?_
      refine W.lcmp hx hb dX2_findVariable_51 ?_
      refine lv_topi (fun x5 e5 => ?_)
      replace hf := nm_at hf e5
      refine lv_if_ne (tgt := 57) hx hb dX2_findVariable_52 (by decide) (fun q6 => ?_) (fun q6 => ?_)
      · replace hf := if_no hf q6
        obtain ⟨x7, e7⟩ : ∃ y : Int32, y = y3 + 1 := ⟨_, rfl⟩
        replace hf := nm_at hf e7
        refine lv_iinc (v := x7) (lv' := [(3, .int x7), (0, .ref h0), (1, .long y1)]) hx hb dX2_findVariable_57 hl (k := 2) rfl (by rw [e7]; rfl) (by decide) rfl (fun ls hl => ?_)
        refine lv_goto (tgt := 34) hx hb dX2_findVariable_60 (by decide) ?_
        exact (hG _ _ _ _ _).mp (hk34 y1 x7 H locs ls (hP.sub [0, 1, 2] rfl) (hD.sub [0, 1, 2] (by decide) rfl) hS (lv_sub hl [1, 2, 0] rfl) hf)
      · replace hf := if_at hf q6
        refine lv_iload_n hx hb dX2_findVariable_55 rfl (lv_at hl 2 rfl) ?_
        have hf1 := Option.some.inj hf
        subst hf1
        have hP9 := hP.sub (ws' := [(h0, .inr (2, [w0_scanner, .ref h1, .ref h2, .int v0_locals, w0_procedures, w0_calledName, w0_calledAt])), (h1, .inr (3, [.int v1_isThere, .int v1_globals, .int v1_procedures, .int v1_statements, w1_entry, w1_kind, w1_textAt, w1_owner, w1_value, w1_variable, w1_callee, w1_on0, w1_on1, w1_parent, w1_sibling, w1_inside, w1_insideElse, w1_behind])), (h2, .inl (k2, 5, .inr (.inl c2)))]) [0, 1, 2] rfl
        have hD9 := hD.sub (ws' := [(h0, .inr (2, [w0_scanner, .ref h1, .ref h2, .int v0_locals, w0_procedures, w0_calledName, w0_calledAt])), (h1, .inr (3, [.int v1_isThere, .int v1_globals, .int v1_procedures, .int v1_statements, w1_entry, w1_kind, w1_textAt, w1_owner, w1_value, w1_variable, w1_callee, w1_on0, w1_on1, w1_parent, w1_sibling, w1_inside, w1_insideElse, w1_behind])), (h2, .inl (k2, 5, .inr (.inl c2)))]) [0, 1, 2] (by decide) rfl
        exact W.iret (v := y3) hx hb hr (fun t ht hW => ⟨⟨y3, (), rfl, ⟨rfl, rfl⟩, by rw [ht]; exact hP9, va_K.moved hW.alike hK, hD9⟩, hS.F ht⟩) hS.2.2 dX2_findVariable_56
  have L34 : ∀ (n : Nat), ∀ (y1 : Int64) (y3 : Int32) (H : Heap) (locs : List Loc) (ls : Array Slot), va_P (dC, dI) vwCl [(h0, .inr (2, [w0_scanner, .ref h1, .ref h2, .int v0_locals, w0_procedures, w0_calledName, w0_calledAt])), (h1, .inr (3, [.int v1_isThere, .int v1_globals, .int v1_procedures, .int v1_statements, w1_entry, w1_kind, w1_textAt, w1_owner, w1_value, w1_variable, w1_callee, w1_on0, w1_on1, w1_parent, w1_sibling, w1_inside, w1_insideElse, w1_behind])), (h2, .inl (k2, 5, .inr (.inl c2)))] H → va_D A [(h0, .inr (2, [w0_scanner, .ref h1, .ref h2, .int v0_locals, w0_procedures, w0_calledName, w0_calledAt])), (h1, .inr (3, [.int v1_isThere, .int v1_globals, .int v1_procedures, .int v1_statements, w1_entry, w1_kind, w1_textAt, w1_owner, w1_value, w1_variable, w1_callee, w1_on0, w1_on1, w1_parent, w1_sibling, w1_inside, w1_insideElse, w1_behind])), (h2, .inl (k2, 5, .inr (.inl c2)))] → va_S A s.heap H locs → lv_has ls 4 [(0, .ref h0), (1, .long y1), (3, .int y3)] → fX2_findVariable_l34 v0_locals v1_globals c2  n y1 y3 = some o → G 0 0 H locs (F0 m 34 ls []) := by
    intro  n
    induction n with
    | zero => intro y1 y3 H locs ls _ _ _ _ hf; cases hf
    | succ n ih => exact B34  _ ih
  have B2 : ∀ (k2 : Int64 → Int32 → Option (Int32 × Unit)) (hk2 : ∀ (y1 : Int64) (y3 : Int32) (H : Heap) (locs : List Loc) (ls : Array Slot), va_P (dC, dI) vwCl [(h0, .inr (2, [w0_scanner, .ref h1, .ref h2, .int v0_locals, w0_procedures, w0_calledName, w0_calledAt])), (h1, .inr (3, [.int v1_isThere, .int v1_globals, .int v1_procedures, .int v1_statements, w1_entry, w1_kind, w1_textAt, w1_owner, w1_value, w1_variable, w1_callee, w1_on0, w1_on1, w1_parent, w1_sibling, w1_inside, w1_insideElse, w1_behind])), (h2, .inl (k2, 5, .inr (.inl c2)))] H → va_D A [(h0, .inr (2, [w0_scanner, .ref h1, .ref h2, .int v0_locals, w0_procedures, w0_calledName, w0_calledAt])), (h1, .inr (3, [.int v1_isThere, .int v1_globals, .int v1_procedures, .int v1_statements, w1_entry, w1_kind, w1_textAt, w1_owner, w1_value, w1_variable, w1_callee, w1_on0, w1_on1, w1_parent, w1_sibling, w1_inside, w1_insideElse, w1_behind])), (h2, .inl (k2, 5, .inr (.inl c2)))] → va_S A s.heap H locs → lv_has ls 4 [(0, .ref h0), (1, .long y1), (3, .int y3)] → k2 y1 y3 = some o → G 0 0 H locs (F0 m 2 ls [])), ∀ (y1 : Int64) (y3 : Int32) (H : Heap) (locs : List Loc) (ls : Array Slot), va_P (dC, dI) vwCl [(h0, .inr (2, [w0_scanner, .ref h1, .ref h2, .int v0_locals, w0_procedures, w0_calledName, w0_calledAt])), (h1, .inr (3, [.int v1_isThere, .int v1_globals, .int v1_procedures, .int v1_statements, w1_entry, w1_kind, w1_textAt, w1_owner, w1_value, w1_variable, w1_callee, w1_on0, w1_on1, w1_parent, w1_sibling, w1_inside, w1_insideElse, w1_behind])), (h2, .inl (k2, 5, .inr (.inl c2)))] H → va_D A [(h0, .inr (2, [w0_scanner, .ref h1, .ref h2, .int v0_locals, w0_procedures, w0_calledName, w0_calledAt])), (h1, .inr (3, [.int v1_isThere, .int v1_globals, .int v1_procedures, .int v1_statements, w1_entry, w1_kind, w1_textAt, w1_owner, w1_value, w1_variable, w1_callee, w1_on0, w1_on1, w1_parent, w1_sibling, w1_inside, w1_insideElse, w1_behind])), (h2, .inl (k2, 5, .inr (.inl c2)))] → va_S A s.heap H locs → lv_has ls 4 [(0, .ref h0), (1, .long y1), (3, .int y3)] → fX2_findVariable_b2 v0_locals v1_globals c2  k2 y1 y3 = some o → G 0 0 H locs (F0 m 2 ls []) := by
    intro  k2 hk2 y1 y3 H locs ls hP hD hS hl hf
    refine (hG _ _ _ _ _).mpr ?_
    unfold fX2_findVariable_b2 at hf
    refine lv_iload_n hx hb dX2_findVariable_2 rfl (lv_at hl 2 rfl) ?_
    refine lv_aload_n hx hb dX2_findVariable_3 rfl (lv_at hl 0 rfl) ?_
    refine va_get (D := (dC, dI)) (ci := 2) (v := .ref h1) (C := RX2) (T := TX2) (N := 7) hx hb hts inlX2 hown hK hP 0 rfl rfl 1 (by decide) w2_ (fun _ h9 => h9) rfl dX2_findVariable_4 ?_
    refine va_get (D := (dC, dI)) (ci := 3) (v := .int v1_globals) (C := RX3) (T := TX3) (N := 18) hx hb hts inlX3 hown hK hP 1 rfl rfl 1 (by decide) w3_ (fun _ h9 => h9) rfl dX2_findVariable_7 ?_
    refine lv_icmp_ge (tgt := 32) hx hb dX2_findVariable_10 (by decide) (fun q8 => ?_) (fun q8 => ?_)
    · replace hf := if_at hf q8
      refine lv_iconst (v := 3) hx hb dX2_findVariable_32 (by decide +kernel) ?_
      refine lv_istore_n (lv' := [(3, .int 3), (0, .ref h0), (1, .long y1)]) hx hb dX2_findVariable_33 rfl hl (by decide) rfl (fun ls hl => ?_)
      exact (hG _ _ _ _ _).mp (L34 FU y1 3 H locs ls (hP.sub [0, 1, 2] rfl) (hD.sub [0, 1, 2] (by decide) rfl) hS (lv_sub hl [1, 2, 0] rfl) hf)
    · replace hf := if_no hf q8
      refine lv_aload_n hx hb dX2_findVariable_13 rfl (lv_at hl 0 rfl) ?_
      refine va_get (D := (dC, dI)) (ci := 2) (v := .ref h2) (C := RX2) (T := TX2) (N := 7) hx hb hts inlX2 hown hK hP 0 rfl rfl 2 (by decide) w1_ (fun _ h9 => h9) rfl dX2_findVariable_14 ?_
      refine lv_iload_n hx hb dX2_findVariable_17 rfl (lv_at hl 2 rfl) ?_
      have b9 := bd_in hf
      replace hf := bd_k hf
      refine va_lald hx hb hK hP 2 0 rfl rfl b9 dX2_findVariable_18 ?_
      refine lv_topl (fun x10 e10 => ?_)
      replace hf := nm_at hf e10
      refine lv_lload_n hx hb dX2_findVariable_19 rfl (lv_at hl 1 rfl) ?_
      refine W.lcmp hx hb dX2_findVariable_20 ?_
      refine lv_topi (fun x11 e11 => ?_)
      replace hf := nm_at hf e11
      refine lv_if_ne (tgt := 26) hx hb dX2_findVariable_21 (by decide) (fun q12 => ?_) (fun q12 => ?_)
      · replace hf := if_no hf q12
        obtain ⟨x13, e13⟩ : ∃ y : Int32, y = y3 + 1 := ⟨_, rfl⟩
        replace hf := nm_at hf e13
        refine lv_iinc (v := x13) (lv' := [(3, .int x13), (0, .ref h0), (1, .long y1)]) hx hb dX2_findVariable_26 hl (k := 2) rfl (by rw [e13]; rfl) (by decide) rfl (fun ls hl => ?_)
        refine lv_goto (tgt := 2) hx hb dX2_findVariable_29 (by decide) ?_
        exact (hG _ _ _ _ _).mp (hk2 y1 x13 H locs ls (hP.sub [0, 1, 2] rfl) (hD.sub [0, 1, 2] (by decide) rfl) hS (lv_sub hl [1, 2, 0] rfl) hf)
      · replace hf := if_at hf q12
        refine lv_iload_n hx hb dX2_findVariable_24 rfl (lv_at hl 2 rfl) ?_
        have hf1 := Option.some.inj hf
        subst hf1
        have hP9 := hP.sub (ws' := [(h0, .inr (2, [w0_scanner, .ref h1, .ref h2, .int v0_locals, w0_procedures, w0_calledName, w0_calledAt])), (h1, .inr (3, [.int v1_isThere, .int v1_globals, .int v1_procedures, .int v1_statements, w1_entry, w1_kind, w1_textAt, w1_owner, w1_value, w1_variable, w1_callee, w1_on0, w1_on1, w1_parent, w1_sibling, w1_inside, w1_insideElse, w1_behind])), (h2, .inl (k2, 5, .inr (.inl c2)))]) [0, 1, 2] rfl
        have hD9 := hD.sub (ws' := [(h0, .inr (2, [w0_scanner, .ref h1, .ref h2, .int v0_locals, w0_procedures, w0_calledName, w0_calledAt])), (h1, .inr (3, [.int v1_isThere, .int v1_globals, .int v1_procedures, .int v1_statements, w1_entry, w1_kind, w1_textAt, w1_owner, w1_value, w1_variable, w1_callee, w1_on0, w1_on1, w1_parent, w1_sibling, w1_inside, w1_insideElse, w1_behind])), (h2, .inl (k2, 5, .inr (.inl c2)))]) [0, 1, 2] (by decide) rfl
        exact W.iret (v := y3) hx hb hr (fun t ht hW => ⟨⟨y3, (), rfl, ⟨rfl, rfl⟩, by rw [ht]; exact hP9, va_K.moved hW.alike hK, hD9⟩, hS.F ht⟩) hS.2.2 dX2_findVariable_25
  have L2 : ∀ (n : Nat), ∀ (y1 : Int64) (y3 : Int32) (H : Heap) (locs : List Loc) (ls : Array Slot), va_P (dC, dI) vwCl [(h0, .inr (2, [w0_scanner, .ref h1, .ref h2, .int v0_locals, w0_procedures, w0_calledName, w0_calledAt])), (h1, .inr (3, [.int v1_isThere, .int v1_globals, .int v1_procedures, .int v1_statements, w1_entry, w1_kind, w1_textAt, w1_owner, w1_value, w1_variable, w1_callee, w1_on0, w1_on1, w1_parent, w1_sibling, w1_inside, w1_insideElse, w1_behind])), (h2, .inl (k2, 5, .inr (.inl c2)))] H → va_D A [(h0, .inr (2, [w0_scanner, .ref h1, .ref h2, .int v0_locals, w0_procedures, w0_calledName, w0_calledAt])), (h1, .inr (3, [.int v1_isThere, .int v1_globals, .int v1_procedures, .int v1_statements, w1_entry, w1_kind, w1_textAt, w1_owner, w1_value, w1_variable, w1_callee, w1_on0, w1_on1, w1_parent, w1_sibling, w1_inside, w1_insideElse, w1_behind])), (h2, .inl (k2, 5, .inr (.inl c2)))] → va_S A s.heap H locs → lv_has ls 4 [(0, .ref h0), (1, .long y1), (3, .int y3)] → fX2_findVariable_l2 v0_locals v1_globals c2  n y1 y3 = some o → G 0 0 H locs (F0 m 2 ls []) := by
    intro  n
    induction n with
    | zero => intro y1 y3 H locs ls _ _ _ _ hf; cases hf
    | succ n ih => exact B2  _ ih
  refine (hG _ _ _ _ _).mpr ?_
  obtain ⟨H, hH⟩ : ∃ H, H = s.heap := ⟨_, rfl⟩
  have hS : va_S A s.heap H [] := by rw [hH]; exact hS
  rw [← hH] at hP ⊢
  generalize ([] : List Loc) = locs at hS ⊢
  unfold fX2_findVariable at hf
  refine lv_iconst (v := 0) hx hb dX2_findVariable_0 (by decide +kernel) ?_
  refine lv_istore_n (lv' := [(3, .int 0), (0, .ref h0), (1, .long a0)]) hx hb dX2_findVariable_1 rfl hl (by decide) rfl (fun ls hl => ?_)
  exact (hG _ _ _ _ _).mp (L2 FU a0 0 H locs ls (hP.sub [0, 1, 2] rfl) (hD.sub [0, 1, 2] (by decide) rfl) hS (lv_sub hl [1, 2, 0] rfl) hf)
