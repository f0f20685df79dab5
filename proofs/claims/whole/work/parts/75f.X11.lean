abbrev wX11_emit (h0 h1 : Nat) (kc1 : ClassId) (V0 : Nat → Value) (v0_codes : Int32) (c1 : Nat → Int32) : va_W := [(h0, .inr (11, [V0 0, V0 1, V0 2, V0 3, V0 4, V0 5, V0 6, V0 7, V0 8, V0 9, V0 10, V0 11, V0 12, V0 13, V0 14, V0 15, V0 16, V0 17, V0 18, V0 19, V0 20, V0 21, V0 22, V0 23, V0 24, V0 25, V0 26, V0 27, V0 28, V0 29, V0 30, V0 31, V0 32, V0 33, V0 34, V0 35, V0 36, V0 37, V0 38, V0 39, V0 40, V0 41, V0 42, V0 43, V0 44, V0 45, .ref h1, .int v0_codes, V0 48, V0 49, V0 50, V0 51, V0 52, V0 53, V0 54, V0 55, V0 56, V0 57, V0 58, V0 59, V0 60, V0 61, V0 62, V0 63, V0 64, V0 65, V0 66, V0 67, V0 68, V0 69, V0 70])), (h1, .inl (kc1, 700, .inl c1))]
set_option maxHeartbeats 4000000 in
set_option maxRecDepth 100000 in
theorem mX11_emit (l : Launch) (dC : Nat → ClassId) (dI : Nat → Nat → Nat) (h0 h1 : Nat) (kc1 : ClassId) (sz : Nat) (base : Nat × Nat × Nat) (a0 : Int32) (v0_codes : Int32) (c1 : Nat → Int32) (V0 : Nat → Value) (o : Int32 × (Nat → Int32)) (hf : fX11_emit a0 v0_codes c1 = some o) : Met l yX11_emit (.code yX11_emit cX11_emit 2 none :: wsL_law) ({ frames := 0, cells := 0, slots := 0, locals := 0 }) (cPre (dC, dI) vwCl [.ref h0, .int a0] sz base (wX11_emit h0 h1 kc1 V0 v0_codes c1) [(kc1, .int)]) (va_Qv (fun u => u = o) (fun (u : Int32 × (Nat → Int32)) t => cPost (dC, dI) vwCl (va_A (wX11_emit h0 h1 kc1 V0 v0_codes c1) sz) (wX11_emit h0 h1 kc1 V0 u.1 u.2) [(kc1, .int)] t) (va_A (wX11_emit h0 h1 kc1 V0 v0_codes c1) sz)) 0 0 (va_A (wX11_emit h0 h1 kc1 V0 v0_codes c1) sz) := by
  refine Met.ofW (cc := cX11_emit) (maxL := 2) (ret := none) (by decide) rfl ?_
  intro p e s m args below meth c s₁ B hml hv
  obtain ⟨rfl, hsz, hP, hK, hD0, hE⟩ := hv
  have hx := B.exec
  have hb := B.bytes
  have hr := B.returns
  have hts : ∀ w ∈ wsL_law, _ := fun w h => atoms_spec (ws := .code yX11_emit cX11_emit 2 none :: wsL_law) B.pre w (List.mem_cons_of_mem _ h)
  have hown : s.vm.findClass RX11 = some m.cls := findClass_of_methodNamed B.named
  have hlocks := B.notSynchronized
  have w0_ := hts _ q111
  have w1_ := hts _ q833
  subst hsz
  have hD := hD0.self (sz := s.heap.size)
  generalize hAe : va_A (wX11_emit h0 h1 kc1 V0 v0_codes c1) s.heap.size = A at hD ⊢
  have hA : ∀ q : Nat, s.heap.size ≤ q → A q := fun q h => by rw [← hAe]; exact Or.inr h
  have hAB : ∀ q : Nat, A q → base.1 ≤ q := fun q h => by rw [← hAe] at h; exact h.elim (fun ⟨k, e, hk⟩ => hD0.2 k _ hk) (fun hk => Nat.le_trans hE.1 hk)
  have hS : va_S A s.heap s.heap [] := va_S.rf
  have hl := lv_entry ([.ref h0, .int a0]) (n := 2) (Nat.le_of_ble_eq_true rfl)
  rw [lg_entry_eq]
  generalize (lg_sl ([.ref h0, .int a0]) ++ List.replicate (2 - (lg_sl ([.ref h0, .int a0])).length) Slot.unset).toArray = ls at hl ⊢
  have hl : lv_has ls 2 [(0, .ref h0), (1, .int a0)] := hl
  have hP : va_P (dC, dI) vwCl (wX11_emit h0 h1 kc1 V0 v0_codes c1) s.heap := hP
  obtain ⟨H, hH⟩ : ∃ H, H = s.heap := ⟨_, rfl⟩
  have hS : va_S A s.heap H [] := by rw [hH]; exact hS
  rw [← hH] at hP ⊢
  generalize ([] : List Loc) = locs at hS ⊢
  unfold fX11_emit at hf
  refine lv_aload_n hx hb dX11_emit_0 rfl (lv_at hl 0 rfl) ?_
  refine va_get (D := (dC, dI)) (ci := 11) (v := .ref h1) (C := RX11) (T := TX11) (N := 71) hx hb hts inlX11 hown hK hP 0 rfl rfl 46 (by decide) w0_ (fun _ h9 => h9) rfl dX11_emit_1 ?_
  refine lv_aload_n hx hb dX11_emit_4 rfl (lv_at hl 0 rfl) ?_
  refine va_get (D := (dC, dI)) (ci := 11) (v := .int v0_codes) (C := RX11) (T := TX11) (N := 71) hx hb hts inlX11 hown hK hP 0 rfl rfl 47 (by decide) w1_ (fun _ h9 => h9) rfl dX11_emit_5 ?_
  refine lv_iload_n hx hb dX11_emit_8 rfl (lv_at hl 1 rfl) ?_
  have b1 := bd_in hf
  replace hf := bd_k hf
  obtain ⟨c1x, e1⟩ : ∃ y, y = upd c1 v0_codes.toNatClampNeg a0 := ⟨_, rfl⟩
  replace hf := nm_at hf e1
  refine va_iast hx hb hK hP hD hS 1 0 rfl rfl b1 dX11_emit_9 (fun H locs hP hD hS => ?_)
  have hP : va_P (dC, dI) vwCl (wX11_emit h0 h1 kc1 V0 v0_codes c1x) H := by rw [e1]; exact hP
  have hD : va_D A (wX11_emit h0 h1 kc1 V0 v0_codes c1x) := by rw [e1]; exact hD
  refine lv_aload_n hx hb dX11_emit_10 rfl (lv_at hl 0 rfl) ?_
  refine lv_dup hx hb dX11_emit_11 rfl ?_
  refine va_get (D := (dC, dI)) (ci := 11) (v := .int v0_codes) (C := RX11) (T := TX11) (N := 71) hx hb hts inlX11 hown hK hP 0 rfl rfl 47 (by decide) w1_ (fun _ h9 => h9) rfl dX11_emit_12 ?_
  refine lv_iconst (v := 1) hx hb dX11_emit_15 (by decide +kernel) ?_
  refine lv_iadd hx hb dX11_emit_16 ?_
  refine lv_topi (fun x2 e2 => ?_)
  replace hf := nm_at hf e2
  refine va_put (D := (dC, dI)) (ci := 11) (v := .int x2) (ty := .int) (C := RX11) (T := TX11) (N := 71) hx hb hts inlX11 tyX11 tyX11_ok nmX11 hown hK hP hD hS 0 rfl rfl 47 (by decide) w1_ (fun _ h9 => h9) rfl (by decide +kernel) rfl rfl (Nat.le_of_ble_eq_true rfl) dX11_emit_17 (fun H locs hP hD hS => ?_)
  have hP : va_P (dC, dI) vwCl (wX11_emit h0 h1 kc1 V0 x2 c1x) H := hP
  have hD : va_D A (wX11_emit h0 h1 kc1 V0 x2 c1x) := hD
  have hf1 := Option.some.inj hf
  subst hf1
  have hP9 := hP.sub (ws' := (wX11_emit h0 h1 kc1 V0 x2 c1x)) [0, 1] rfl
  have hD9 := hD.sub (ws' := (wX11_emit h0 h1 kc1 V0 x2 c1x)) [0, 1] (by decide) rfl
  exact W.vret hx hb hr (fun t ht hW => ⟨⟨(x2, c1x), rfl, rfl, by rw [ht]; exact hP9, va_K.moved hW.alike hK, hD9⟩, hS.F ht⟩) hS.2.2 dX11_emit_20
abbrev wX11_end (h0 h1 : Nat) (kc1 : ClassId) (V0 : Nat → Value) (v0_thrown : Int32) (v0_known : Int32) (v0_wayState : Int32) (c1 : Nat → Int32) : va_W := [(h0, .inr (11, [.int v0_thrown, V0 1, V0 2, V0 3, V0 4, .ref h1, V0 6, V0 7, .int v0_known, V0 9, .int v0_wayState, V0 11, V0 12, V0 13, V0 14, V0 15, V0 16, V0 17, V0 18, V0 19, V0 20, V0 21, V0 22, V0 23, V0 24, V0 25, V0 26, V0 27, V0 28, V0 29, V0 30, V0 31, V0 32, V0 33, V0 34, V0 35, V0 36, V0 37, V0 38, V0 39, V0 40, V0 41, V0 42, V0 43, V0 44, V0 45, V0 46, V0 47, V0 48, V0 49, V0 50, V0 51, V0 52, V0 53, V0 54, V0 55, V0 56, V0 57, V0 58, V0 59, V0 60, V0 61, V0 62, V0 63, V0 64, V0 65, V0 66, V0 67, V0 68, V0 69, V0 70])), (h1, .inl (kc1, 16, .inl c1))]
set_option maxHeartbeats 4000000 in
set_option maxRecDepth 100000 in
theorem mX11_end (l : Launch) (dC : Nat → ClassId) (dI : Nat → Nat → Nat) (h0 h1 : Nat) (kc1 : ClassId) (sz : Nat) (base : Nat × Nat × Nat) (a0 : Int32) (a1 : Int32) (v0_thrown : Int32) (v0_known : Int32) (v0_wayState : Int32) (c1 : Nat → Int32) (V0 : Nat → Value) (o : Int32 × Int32 × Int32 × Int32 × (Nat → Int32)) (hf : fX11_end a0 a1 v0_thrown v0_known v0_wayState c1 = some o) : Met l yX11_end (.code yX11_end cX11_end 4 (some .int) :: wsL_law) ({ frames := 1, cells := 0, slots := 0, locals := 22 }) (cPre (dC, dI) vwCl [.ref h0, .int a0, .int a1] sz base (wX11_end h0 h1 kc1 V0 v0_thrown v0_known v0_wayState c1) [(kc1, .boolean)]) (va_Qi (fun r u => r = o.1 ∧ u = o.2) (fun (u : Int32 × Int32 × Int32 × (Nat → Int32)) t => cPost (dC, dI) vwCl (va_A (wX11_end h0 h1 kc1 V0 v0_thrown v0_known v0_wayState c1) sz) (wX11_end h0 h1 kc1 V0 u.1 u.2.1 u.2.2.1 u.2.2.2) [(kc1, .boolean)] t) (va_A (wX11_end h0 h1 kc1 V0 v0_thrown v0_known v0_wayState c1) sz)) 0 0 (va_A (wX11_end h0 h1 kc1 V0 v0_thrown v0_known v0_wayState c1) sz) := by
  refine Met.ofW (cc := cX11_end) (maxL := 4) (ret := (some .int)) (by decide) rfl ?_
  intro p e s m args below meth c s₁ B hml hv
  obtain ⟨rfl, hsz, hP, hK, hD0, hE⟩ := hv
  have hx := B.exec
  have hb := B.bytes
  have hr := B.returns
  have hts : ∀ w ∈ wsL_law, _ := fun w h => atoms_spec (ws := .code yX11_end cX11_end 4 (some .int) :: wsL_law) B.pre w (List.mem_cons_of_mem _ h)
  have hown : s.vm.findClass RX11 = some m.cls := findClass_of_methodNamed B.named
  have hlocks := B.notSynchronized
  have w0_ := hts _ q81
  have w1_ := hts _ q146
  subst hsz
  have hD := hD0.self (sz := s.heap.size)
  generalize hAe : va_A (wX11_end h0 h1 kc1 V0 v0_thrown v0_known v0_wayState c1) s.heap.size = A at hD ⊢
  have hA : ∀ q : Nat, s.heap.size ≤ q → A q := fun q h => by rw [← hAe]; exact Or.inr h
  have hAB : ∀ q : Nat, A q → base.1 ≤ q := fun q h => by rw [← hAe] at h; exact h.elim (fun ⟨k, e, hk⟩ => hD0.2 k _ hk) (fun hk => Nat.le_trans hE.1 hk)
  have hS : va_S A s.heap s.heap [] := va_S.rf
  have hl := lv_entry ([.ref h0, .int a0, .int a1]) (n := 4) (Nat.le_of_ble_eq_true rfl)
  rw [lg_entry_eq]
  generalize (lg_sl ([.ref h0, .int a0, .int a1]) ++ List.replicate (4 - (lg_sl ([.ref h0, .int a0, .int a1])).length) Slot.unset).toArray = ls at hl ⊢
  have hl : lv_has ls 4 [(0, .ref h0), (1, .int a0), (2, .int a1)] := hl
  have hP : va_P (dC, dI) vwCl (wX11_end h0 h1 kc1 V0 v0_thrown v0_known v0_wayState c1) s.heap := hP
  refine gl_intro (fun G hG => ?_)
  have J24 : ∀ (v0_thrown : Int32) (v0_known : Int32) (v0_wayState : Int32) (c1 : (Nat → Int32)) (H : Heap) (locs : List Loc) (ls : Array Slot), va_P (dC, dI) vwCl (wX11_end h0 h1 kc1 V0 v0_thrown v0_known v0_wayState c1) H → va_D A (wX11_end h0 h1 kc1 V0 v0_thrown v0_known v0_wayState c1) → va_S A s.heap H locs → lv_has ls 4 [(0, .ref h0)] → fX11_end_p24   v0_thrown v0_known v0_wayState c1 = some o → G 0 0 H locs (F0 m 24 ls []) := by
    intro  v0_thrown v0_known v0_wayState c1 H locs ls hP hD hS hl hf
    refine (hG _ _ _ _ _).mpr ?_
    unfold fX11_end_p24 at hf
    refine lv_bipush (v := (-2)) hx hb dX11_end_24 (by decide +kernel) ?_
    have hf1 := Option.some.inj hf
    subst hf1
    have hP9 := hP.sub (ws' := (wX11_end h0 h1 kc1 V0 v0_thrown v0_known v0_wayState c1)) [0, 1] rfl
    have hD9 := hD.sub (ws' := (wX11_end h0 h1 kc1 V0 v0_thrown v0_known v0_wayState c1)) [0, 1] (by decide) rfl
    exact W.iret (v := (-2)) hx hb hr (fun t ht hW => ⟨⟨(-2), (v0_thrown, v0_known, v0_wayState, c1), rfl, ⟨rfl, rfl⟩, by rw [ht]; exact hP9, va_K.moved hW.alike hK, hD9⟩, hS.F ht⟩) hS.2.2 dX11_end_26
  have J57 : ∀ (y3 : Int32) (z0 : Int32) (z1 : Int32) (v0_thrown : Int32) (v0_known : Int32) (v0_wayState : Int32) (c1 : (Nat → Int32)) (H : Heap) (locs : List Loc) (ls : Array Slot), va_P (dC, dI) vwCl (wX11_end h0 h1 kc1 V0 v0_thrown v0_known v0_wayState c1) H → va_D A (wX11_end h0 h1 kc1 V0 v0_thrown v0_known v0_wayState c1) → va_S A s.heap H locs → lv_has ls 4 [(0, .ref h0), (3, .int y3)] → fX11_end_p57   y3 z0 z1 v0_thrown v0_known v0_wayState c1 = some o → G 0 0 H locs (F0 m 57 ls [.int z0, .int z1, .ref h1]) := by
    intro  y3 z0 z1 v0_thrown v0_known v0_wayState c1 H locs ls hP hD hS hl hf
    refine (hG _ _ _ _ _).mpr ?_
    unfold fX11_end_p57 at hf
    have b1 := bd_in hf
    replace hf := bd_k hf
    obtain ⟨c1x, e1⟩ : ∃ y, y = upd c1 z1.toNatClampNeg (vp_nar .boolean z0) := ⟨_, rfl⟩
    replace hf := nm_at hf e1
    refine va_zast hx hb hK hP hD hS 1 0 rfl rfl b1 dX11_end_57 (fun H locs hP hD hS => ?_)
    have hP : va_P (dC, dI) vwCl (wX11_end h0 h1 kc1 V0 v0_thrown v0_known v0_wayState c1x) H := by rw [e1]; exact hP
    have hD : va_D A (wX11_end h0 h1 kc1 V0 v0_thrown v0_known v0_wayState c1x) := by rw [e1]; exact hD
    refine lv_aload_n hx hb dX11_end_58 rfl (lv_at hl 0 rfl) ?_
    obtain ⟨o2, e2, hf⟩ := ob_some hf
    refine kVv (As := []) (rest := []) ⟨hx, hb, hml, hown, hts⟩ (mX11_forget l dC dI h0 H.size base v0_known v0_wayState (fun k => match k with | 0 => .int v0_thrown | 5 => .ref h1 | k => V0 k) o2 e2) (cwV 0 hts (gTV q151 q152 q153 q5 q154) rfl rfl rfl (by decide +kernel) ⟨Nat.le_of_ble_eq_true rfl, Nat.le_of_ble_eq_true rfl⟩) hK hP hD hS hA hE hAB [0] [1] [] (wr := [(h1, .inl (kc1, 16, .inl c1x))]) rfl rfl (by decide) (by decide) (by decide) rfl (ci := 11) (q0 := 0) rfl rfl rfl rfl hl.1 rfl (Nat.le_of_ble_eq_true rfl) dX11_end_59 ⟨Nat.zero_le _, Nat.zero_le _⟩ (fun u2 H locs hw2 hP hD hS => ?_)
    have hw21 : o2 = u2 := Eq.symm hw2
    subst hw21
    have hP : va_P (dC, dI) vwCl (wX11_end h0 h1 kc1 V0 v0_thrown o2.1 o2.2 c1x) H := hP.sub [1, 0] rfl
    have hD : va_D A (wX11_end h0 h1 kc1 V0 v0_thrown o2.1 o2.2 c1x) := hD.sub [1, 0] (by decide) rfl
    refine lv_iload_n hx hb dX11_end_62 rfl (lv_at hl 1 rfl) ?_
    have hf1 := Option.some.inj hf
    subst hf1
    have hP9 := hP.sub (ws' := (wX11_end h0 h1 kc1 V0 v0_thrown o2.1 o2.2 c1x)) [0, 1] rfl
    have hD9 := hD.sub (ws' := (wX11_end h0 h1 kc1 V0 v0_thrown o2.1 o2.2 c1x)) [0, 1] (by decide) rfl
    exact W.iret (v := y3) hx hb hr (fun t ht hW => ⟨⟨y3, (v0_thrown, o2.1, o2.2, c1x), rfl, ⟨rfl, rfl⟩, by rw [ht]; exact hP9, va_K.moved hW.alike hK, hD9⟩, hS.F ht⟩) hS.2.2 dX11_end_63
  have J41 : ∀ (y1 : Int32) (y2 : Int32) (z0 : Int32) (v0_thrown : Int32) (v0_known : Int32) (v0_wayState : Int32) (c1 : (Nat → Int32)) (H : Heap) (locs : List Loc) (ls : Array Slot), va_P (dC, dI) vwCl (wX11_end h0 h1 kc1 V0 v0_thrown v0_known v0_wayState c1) H → va_D A (wX11_end h0 h1 kc1 V0 v0_thrown v0_known v0_wayState c1) → va_S A s.heap H locs → lv_has ls 4 [(0, .ref h0), (1, .int y1), (2, .int y2)] → fX11_end_p41   y1 y2 z0 v0_thrown v0_known v0_wayState c1 = some o → G 0 0 H locs (F0 m 41 ls [.int z0]) := by
    intro  y1 y2 z0 v0_thrown v0_known v0_wayState c1 H locs ls hP hD hS hl hf
    refine (hG _ _ _ _ _).mpr ?_
    unfold fX11_end_p41 at hf
    refine lv_istore_n (lv' := [(3, .int z0), (0, .ref h0), (1, .int y1), (2, .int y2)]) hx hb dX11_end_41 rfl hl (by decide) rfl (fun ls hl => ?_)
    refine lv_aload_n hx hb dX11_end_42 rfl (lv_at hl 1 rfl) ?_
    refine va_get (D := (dC, dI)) (ci := 11) (v := .ref h1) (C := RX11) (T := TX11) (N := 71) hx hb hts inlX11 hown hK hP 0 rfl rfl 5 (by decide) w0_ (fun _ h9 => h9) rfl dX11_end_43 ?_
    refine lv_iload_n hx hb dX11_end_46 rfl (lv_at hl 2 rfl) ?_
    refine lv_iload_n hx hb dX11_end_47 rfl (lv_at hl 3 rfl) ?_
    refine lv_iconst (v := 1) hx hb dX11_end_48 (by decide +kernel) ?_
    refine lv_icmp_ne (tgt := 56) hx hb dX11_end_49 (by decide) (fun cq3 => ?_) (fun cq3 => ?_)
    · replace hf := if_no hf cq3
      refine lv_iconst (v := 0) hx hb dX11_end_56 (by decide +kernel) ?_
      exact (hG _ _ _ _ _).mp (J57 z0 0 y1 v0_thrown v0_known v0_wayState c1 H locs ls (hP.sub [0, 1] rfl) (hD.sub [0, 1] (by decide) rfl) hS (lv_sub hl [1, 0] rfl) hf)
    · replace hf := if_at hf cq3
      refine lv_iconst (v := 1) hx hb dX11_end_52 (by decide +kernel) ?_
      refine lv_goto (tgt := 57) hx hb dX11_end_53 (by decide) ?_
      exact (hG _ _ _ _ _).mp (J57 z0 1 y1 v0_thrown v0_known v0_wayState c1 H locs ls (hP.sub [0, 1] rfl) (hD.sub [0, 1] (by decide) rfl) hS (lv_sub hl [1, 0] rfl) hf)
  refine (hG _ _ _ _ _).mpr ?_
  obtain ⟨H, hH⟩ : ∃ H, H = s.heap := ⟨_, rfl⟩
  have hS : va_S A s.heap H [] := by rw [hH]; exact hS
  rw [← hH] at hP ⊢
  generalize ([] : List Loc) = locs at hS ⊢
  unfold fX11_end at hf
  refine lv_aload_n hx hb dX11_end_0 rfl (lv_at hl 0 rfl) ?_
  refine lv_iconst (v := 0) hx hb dX11_end_1 (by decide +kernel) ?_
  refine va_put (D := (dC, dI)) (ci := 11) (v := .int 0) (ty := .int) (C := RX11) (T := TX11) (N := 71) hx hb hts inlX11 tyX11 tyX11_ok nmX11 hown hK hP hD hS 0 rfl rfl 0 (by decide) w1_ (fun _ h9 => h9) rfl (by decide +kernel) rfl rfl (Nat.le_of_ble_eq_true rfl) dX11_end_2 (fun H locs hP hD hS => ?_)
  have hP : va_P (dC, dI) vwCl (wX11_end h0 h1 kc1 V0 0 v0_known v0_wayState c1) H := hP
  have hD : va_D A (wX11_end h0 h1 kc1 V0 0 v0_known v0_wayState c1) := hD
  refine lv_iload_n hx hb dX11_end_5 rfl (lv_at hl 1 rfl) ?_
  refine lv_iconst (v := 0) hx hb dX11_end_6 (by decide +kernel) ?_
  refine lv_bipush (v := 15) hx hb dX11_end_7 (by decide +kernel) ?_
  obtain ⟨o4, e4, hf⟩ := ob_some hf
  refine kSi (As := [.int a0, .int 0, .int 15]) (rest := []) ⟨hx, hb, hml, hown, hts⟩ (mX11_in l dC dI H.size base a0 0 15 o4 e4) (va_cwS 3 hts (gTS q148 q149 q5 q150) rfl rfl rfl (by decide +kernel) ⟨Nat.le_of_ble_eq_true rfl, Nat.le_of_ble_eq_true rfl⟩) hK hP hD hS hA hE hAB [] [0, 1] [] (wr := (wX11_end h0 h1 kc1 V0 0 v0_known v0_wayState c1)) rfl rfl (by decide) (by decide) (by decide) rfl rfl hl.1 rfl (Nat.le_of_ble_eq_true rfl) dX11_end_9 ⟨Nat.zero_le _, Nat.zero_le _⟩ (fun r4 u4 H locs hw4 hP hD hS => ?_)
  obtain ⟨hw41, hw42⟩ := hw4
  subst hw41 hw42
  have hP : va_P (dC, dI) vwCl (wX11_end h0 h1 kc1 V0 0 v0_known v0_wayState c1) H := hP.sub [0, 1] rfl
  have hD : va_D A (wX11_end h0 h1 kc1 V0 0 v0_known v0_wayState c1) := hD.sub [0, 1] (by decide) rfl
  refine lv_if_eq (tgt := 24) hx hb dX11_end_12 (by decide) (fun cq5 => ?_) (fun cq5 => ?_)
  · replace hf := if_at hf cq5
    exact (hG _ _ _ _ _).mp (J24 0 v0_known v0_wayState c1 H locs ls (hP.sub [0, 1] rfl) (hD.sub [0, 1] (by decide) rfl) hS (lv_sub hl [0] rfl) hf)
  · replace hf := if_no hf cq5
    refine lv_iload_n hx hb dX11_end_15 rfl (lv_at hl 2 rfl) ?_
    refine lv_iconst (v := 0) hx hb dX11_end_16 (by decide +kernel) ?_
    refine lv_iconst (v := 1) hx hb dX11_end_17 (by decide +kernel) ?_
    obtain ⟨o6, e6, hf⟩ := ob_some hf
    refine kSi (As := [.int a1, .int 0, .int 1]) (rest := []) ⟨hx, hb, hml, hown, hts⟩ (mX11_in l dC dI H.size base a1 0 1 o6 e6) (va_cwS 3 hts (gTS q148 q149 q5 q150) rfl rfl rfl (by decide +kernel) ⟨Nat.le_of_ble_eq_true rfl, Nat.le_of_ble_eq_true rfl⟩) hK hP hD hS hA hE hAB [] [0, 1] [] (wr := (wX11_end h0 h1 kc1 V0 0 v0_known v0_wayState c1)) rfl rfl (by decide) (by decide) (by decide) rfl rfl hl.1 rfl (Nat.le_of_ble_eq_true rfl) dX11_end_18 ⟨Nat.zero_le _, Nat.zero_le _⟩ (fun r6 u6 H locs hw6 hP hD hS => ?_)
    obtain ⟨hw61, hw62⟩ := hw6
    subst hw61 hw62
    have hP : va_P (dC, dI) vwCl (wX11_end h0 h1 kc1 V0 0 v0_known v0_wayState c1) H := hP.sub [0, 1] rfl
    have hD : va_D A (wX11_end h0 h1 kc1 V0 0 v0_known v0_wayState c1) := hD.sub [0, 1] (by decide) rfl
    refine lv_if_ne (tgt := 27) hx hb dX11_end_21 (by decide) (fun cq7 => ?_) (fun cq7 => ?_)
    · replace hf := if_no hf cq7
      refine lv_aload_n hx hb dX11_end_27 rfl (lv_at hl 0 rfl) ?_
      refine va_get (D := (dC, dI)) (ci := 11) (v := .ref h1) (C := RX11) (T := TX11) (N := 71) hx hb hts inlX11 hown hK hP 0 rfl rfl 5 (by decide) w0_ (fun _ h9 => h9) rfl dX11_end_28 ?_
      refine lv_iload_n hx hb dX11_end_31 rfl (lv_at hl 1 rfl) ?_
      have b8 := bd_in hf
      replace hf := bd_k hf
      refine va_zald hx hb hK hP 1 0 rfl rfl b8 dX11_end_32 ?_
      refine lv_topi (fun x9 e9 => ?_)
      replace hf := nm_at hf e9
      refine lv_if_eq (tgt := 40) hx hb dX11_end_33 (by decide) (fun cq10 => ?_) (fun cq10 => ?_)
      · replace hf := if_at hf cq10
        refine lv_iconst (v := 0) hx hb dX11_end_40 (by decide +kernel) ?_
        exact (hG _ _ _ _ _).mp (J41 a0 a1 0 0 v0_known v0_wayState c1 H locs ls (hP.sub [0, 1] rfl) (hD.sub [0, 1] (by decide) rfl) hS (lv_sub hl [0, 1, 2] rfl) hf)
      · replace hf := if_no hf cq10
        refine lv_iconst (v := 1) hx hb dX11_end_36 (by decide +kernel) ?_
        refine lv_goto (tgt := 41) hx hb dX11_end_37 (by decide) ?_
        exact (hG _ _ _ _ _).mp (J41 a0 a1 1 0 v0_known v0_wayState c1 H locs ls (hP.sub [0, 1] rfl) (hD.sub [0, 1] (by decide) rfl) hS (lv_sub hl [0, 1, 2] rfl) hf)
    · replace hf := if_at hf cq7
      exact (hG _ _ _ _ _).mp (J24 0 v0_known v0_wayState c1 H locs ls (hP.sub [0, 1] rfl) (hD.sub [0, 1] (by decide) rfl) hS (lv_sub hl [0] rfl) hf)
abbrev wX11_reckon (h0 h1 h2 h3 : Nat) (kc1 kc2 kc3 : ClassId) (V0 : Nat → Value) (v0_rules : Int32) (v0_known : Int32) (c1 : Nat → Int32) (c2 : Nat → Int32) (c3 : Nat → Int32) : va_W := [(h0, .inr (11, [V0 0, .int v0_rules, .ref h3, V0 3, .ref h1, V0 5, V0 6, V0 7, .int v0_known, .ref h2, V0 10, V0 11, V0 12, V0 13, V0 14, V0 15, V0 16, V0 17, V0 18, V0 19, V0 20, V0 21, V0 22, V0 23, V0 24, V0 25, V0 26, V0 27, V0 28, V0 29, V0 30, V0 31, V0 32, V0 33, V0 34, V0 35, V0 36, V0 37, V0 38, V0 39, V0 40, V0 41, V0 42, V0 43, V0 44, V0 45, V0 46, V0 47, V0 48, V0 49, V0 50, V0 51, V0 52, V0 53, V0 54, V0 55, V0 56, V0 57, V0 58, V0 59, V0 60, V0 61, V0 62, V0 63, V0 64, V0 65, V0 66, V0 67, V0 68, V0 69, V0 70])), (h1, .inl (kc1, 3072, .inl c1)), (h2, .inl (kc2, 3072, .inl c2)), (h3, .inl (kc3, 288, .inl c3))]
set_option maxHeartbeats 4000000 in
set_option maxRecDepth 100000 in
theorem mX11_reckon (l : Launch) (dC : Nat → ClassId) (dI : Nat → Nat → Nat) (h0 h1 h2 h3 : Nat) (kc1 kc2 kc3 : ClassId) (sz : Nat) (base : Nat × Nat × Nat) (v0_rules : Int32) (v0_known : Int32) (c1 : Nat → Int32) (c2 : Nat → Int32) (c3 : Nat → Int32) (V0 : Nat → Value) (o : Int32 × (Nat → Int32)) (hf : fX11_reckon v0_rules v0_known c1 c2 c3 = some o) : Met l yX11_reckon (.code yX11_reckon cX11_reckon 7 none :: wsL_law) ({ frames := 2, cells := 0, slots := 0, locals := 49 }) (cPre (dC, dI) vwCl [.ref h0] sz base (wX11_reckon h0 h1 h2 h3 kc1 kc2 kc3 V0 v0_rules v0_known c1 c2 c3) [(kc1, .boolean), (kc2, .int), (kc3, .int)]) (va_Qv (fun u => u = o) (fun (u : Int32 × (Nat → Int32)) t => cPost (dC, dI) vwCl (va_A (wX11_reckon h0 h1 h2 h3 kc1 kc2 kc3 V0 v0_rules v0_known c1 c2 c3) sz) (wX11_reckon h0 h1 h2 h3 kc1 kc2 kc3 V0 v0_rules u.1 c1 u.2 c3) [(kc1, .boolean), (kc2, .int), (kc3, .int)] t) (va_A (wX11_reckon h0 h1 h2 h3 kc1 kc2 kc3 V0 v0_rules v0_known c1 c2 c3) sz)) 0 0 (va_A (wX11_reckon h0 h1 h2 h3 kc1 kc2 kc3 V0 v0_rules v0_known c1 c2 c3) sz) := by
  refine Met.ofW (cc := cX11_reckon) (maxL := 7) (ret := none) (by decide) rfl ?_
  intro p e s m args below meth c s₁ B hml hv
  obtain ⟨rfl, hsz, hP, hK, hD0, hE⟩ := hv
  have hx := B.exec
  have hb := B.bytes
  have hr := B.returns
  have hts : ∀ w ∈ wsL_law, _ := fun w h => atoms_spec (ws := .code yX11_reckon cX11_reckon 7 none :: wsL_law) B.pre w (List.mem_cons_of_mem _ h)
  have hown : s.vm.findClass RX11 = some m.cls := findClass_of_methodNamed B.named
  have hlocks := B.notSynchronized
  have w0_ := hts _ q83
  have w1_ := hts _ q78
  have w2_ := hts _ q147
  have w3_ := hts _ q80
  have w4_ := hts _ q354
  have w5_ := hts _ q155
  subst hsz
  have hD := hD0.self (sz := s.heap.size)
  generalize hAe : va_A (wX11_reckon h0 h1 h2 h3 kc1 kc2 kc3 V0 v0_rules v0_known c1 c2 c3) s.heap.size = A at hD ⊢
  have hA : ∀ q : Nat, s.heap.size ≤ q → A q := fun q h => by rw [← hAe]; exact Or.inr h
  have hAB : ∀ q : Nat, A q → base.1 ≤ q := fun q h => by rw [← hAe] at h; exact h.elim (fun ⟨k, e, hk⟩ => hD0.2 k _ hk) (fun hk => Nat.le_trans hE.1 hk)
  have hS : va_S A s.heap s.heap [] := va_S.rf
  have hl := lv_entry ([.ref h0]) (n := 7) (Nat.le_of_ble_eq_true rfl)
  rw [lg_entry_eq]
  generalize (lg_sl ([.ref h0]) ++ List.replicate (7 - (lg_sl ([.ref h0])).length) Slot.unset).toArray = ls at hl ⊢
  have hl : lv_has ls 7 [(0, .ref h0)] := hl
  have hP : va_P (dC, dI) vwCl (wX11_reckon h0 h1 h2 h3 kc1 kc2 kc3 V0 v0_rules v0_known c1 c2 c3) s.heap := hP
  refine gl_intro (fun G hG => ?_)
  have J170 : ∀ (k51 : Int32 → Int32 → (Nat → Int32) → Option (Int32 × (Nat → Int32))) (hk51 : ∀ (y1 : Int32) (v0_known : Int32) (c2 : (Nat → Int32)) (H : Heap) (locs : List Loc) (ls : Array Slot), va_P (dC, dI) vwCl (wX11_reckon h0 h1 h2 h3 kc1 kc2 kc3 V0 v0_rules v0_known c1 c2 c3) H → va_D A (wX11_reckon h0 h1 h2 h3 kc1 kc2 kc3 V0 v0_rules v0_known c1 c2 c3) → va_S A s.heap H locs → lv_has ls 7 [(0, .ref h0), (1, .int y1)] → k51 y1 v0_known c2 = some o → G 0 0 H locs (F0 m 51 ls [])) (k59 : Int32 → Int32 → Int32 → (Nat → Int32) → Option (Int32 × (Nat → Int32))) (hk59 : ∀ (y1 : Int32) (y2 : Int32) (v0_known : Int32) (c2 : (Nat → Int32)) (H : Heap) (locs : List Loc) (ls : Array Slot), va_P (dC, dI) vwCl (wX11_reckon h0 h1 h2 h3 kc1 kc2 kc3 V0 v0_rules v0_known c1 c2 c3) H → va_D A (wX11_reckon h0 h1 h2 h3 kc1 kc2 kc3 V0 v0_rules v0_known c1 c2 c3) → va_S A s.heap H locs → lv_has ls 7 [(0, .ref h0), (1, .int y1), (2, .int y2)] → k59 y1 y2 v0_known c2 = some o → G 0 0 H locs (F0 m 59 ls [])) (k75 : Int32 → Int32 → Int32 → Int32 → Int32 → (Nat → Int32) → Option (Int32 × (Nat → Int32))) (hk75 : ∀ (y1 : Int32) (y2 : Int32) (y3 : Int32) (y4 : Int32) (v0_known : Int32) (c2 : (Nat → Int32)) (H : Heap) (locs : List Loc) (ls : Array Slot), va_P (dC, dI) vwCl (wX11_reckon h0 h1 h2 h3 kc1 kc2 kc3 V0 v0_rules v0_known c1 c2 c3) H → va_D A (wX11_reckon h0 h1 h2 h3 kc1 kc2 kc3 V0 v0_rules v0_known c1 c2 c3) → va_S A s.heap H locs → lv_has ls 7 [(0, .ref h0), (1, .int y1), (2, .int y2), (3, .int y3), (4, .int y4)] → k75 y1 y2 y3 y4 v0_known c2 = some o → G 0 0 H locs (F0 m 75 ls [])), ∀ (y1 : Int32) (y2 : Int32) (y3 : Int32) (y4 : Int32) (z0 : Int32) (z1 : Int32) (v0_known : Int32) (c2 : (Nat → Int32)) (H : Heap) (locs : List Loc) (ls : Array Slot), va_P (dC, dI) vwCl (wX11_reckon h0 h1 h2 h3 kc1 kc2 kc3 V0 v0_rules v0_known c1 c2 c3) H → va_D A (wX11_reckon h0 h1 h2 h3 kc1 kc2 kc3 V0 v0_rules v0_known c1 c2 c3) → va_S A s.heap H locs → lv_has ls 7 [(0, .ref h0), (1, .int y1), (2, .int y2), (3, .int y3), (4, .int y4)] → fX11_reckon_p170 v0_rules c1 c3 k51 k59 k75 y1 y2 y3 y4 z0 z1 v0_known c2 = some o → G 0 0 H locs (F0 m 170 ls [.int z0, .int z1, .ref h2]) := by
    intro k51 hk51 k59 hk59 k75 hk75 y1 y2 y3 y4 z0 z1 v0_known c2 H locs ls hP hD hS hl hf
    refine (hG _ _ _ _ _).mpr ?_
    unfold fX11_reckon_p170 at hf
    have b1 := bd_in hf
    replace hf := bd_k hf
    obtain ⟨c1x, e1⟩ : ∃ y, y = upd c2 z1.toNatClampNeg z0 := ⟨_, rfl⟩
    replace hf := nm_at hf e1
    refine va_iast hx hb hK hP hD hS 2 1 rfl rfl b1 dX11_reckon_170 (fun H locs hP hD hS => ?_)
    have hP : va_P (dC, dI) vwCl (wX11_reckon h0 h1 h2 h3 kc1 kc2 kc3 V0 v0_rules v0_known c1 c1x c3) H := by rw [e1]; exact hP
    have hD : va_D A (wX11_reckon h0 h1 h2 h3 kc1 kc2 kc3 V0 v0_rules v0_known c1 c1x c3) := by rw [e1]; exact hD
    obtain ⟨x2, e2⟩ : ∃ y : Int32, y = y4 + 1 := ⟨_, rfl⟩
    replace hf := nm_at hf e2
    refine lv_iinc (v := x2) (lv' := [(4, .int x2), (0, .ref h0), (1, .int y1), (2, .int y2), (3, .int y3)]) hx hb dX11_reckon_171 hl (k := 4) rfl (by rw [e2]; rfl) (by decide) rfl (fun ls hl => ?_)
    refine lv_goto (tgt := 75) hx hb dX11_reckon_174 (by decide) ?_
    exact (hG _ _ _ _ _).mp (hk75 y1 y2 y3 x2 v0_known c1x H locs ls (hP.sub [0, 1, 2, 3] rfl) (hD.sub [0, 1, 2, 3] (by decide) rfl) hS (lv_sub hl [1, 2, 3, 4, 0] rfl) hf)
  have J139 : ∀ (k51 : Int32 → Int32 → (Nat → Int32) → Option (Int32 × (Nat → Int32))) (hk51 : ∀ (y1 : Int32) (v0_known : Int32) (c2 : (Nat → Int32)) (H : Heap) (locs : List Loc) (ls : Array Slot), va_P (dC, dI) vwCl (wX11_reckon h0 h1 h2 h3 kc1 kc2 kc3 V0 v0_rules v0_known c1 c2 c3) H → va_D A (wX11_reckon h0 h1 h2 h3 kc1 kc2 kc3 V0 v0_rules v0_known c1 c2 c3) → va_S A s.heap H locs → lv_has ls 7 [(0, .ref h0), (1, .int y1)] → k51 y1 v0_known c2 = some o → G 0 0 H locs (F0 m 51 ls [])) (k59 : Int32 → Int32 → Int32 → (Nat → Int32) → Option (Int32 × (Nat → Int32))) (hk59 : ∀ (y1 : Int32) (y2 : Int32) (v0_known : Int32) (c2 : (Nat → Int32)) (H : Heap) (locs : List Loc) (ls : Array Slot), va_P (dC, dI) vwCl (wX11_reckon h0 h1 h2 h3 kc1 kc2 kc3 V0 v0_rules v0_known c1 c2 c3) H → va_D A (wX11_reckon h0 h1 h2 h3 kc1 kc2 kc3 V0 v0_rules v0_known c1 c2 c3) → va_S A s.heap H locs → lv_has ls 7 [(0, .ref h0), (1, .int y1), (2, .int y2)] → k59 y1 y2 v0_known c2 = some o → G 0 0 H locs (F0 m 59 ls [])) (k75 : Int32 → Int32 → Int32 → Int32 → Int32 → (Nat → Int32) → Option (Int32 × (Nat → Int32))) (hk75 : ∀ (y1 : Int32) (y2 : Int32) (y3 : Int32) (y4 : Int32) (v0_known : Int32) (c2 : (Nat → Int32)) (H : Heap) (locs : List Loc) (ls : Array Slot), va_P (dC, dI) vwCl (wX11_reckon h0 h1 h2 h3 kc1 kc2 kc3 V0 v0_rules v0_known c1 c2 c3) H → va_D A (wX11_reckon h0 h1 h2 h3 kc1 kc2 kc3 V0 v0_rules v0_known c1 c2 c3) → va_S A s.heap H locs → lv_has ls 7 [(0, .ref h0), (1, .int y1), (2, .int y2), (3, .int y3), (4, .int y4)] → k75 y1 y2 y3 y4 v0_known c2 = some o → G 0 0 H locs (F0 m 75 ls [])), ∀ (y2 : Int32) (y3 : Int32) (y4 : Int32) (y5 : Int32) (y6 : Int32) (z0 : Int32) (v0_known : Int32) (c2 : (Nat → Int32)) (H : Heap) (locs : List Loc) (ls : Array Slot), va_P (dC, dI) vwCl (wX11_reckon h0 h1 h2 h3 kc1 kc2 kc3 V0 v0_rules v0_known c1 c2 c3) H → va_D A (wX11_reckon h0 h1 h2 h3 kc1 kc2 kc3 V0 v0_rules v0_known c1 c2 c3) → va_S A s.heap H locs → lv_has ls 7 [(0, .ref h0), (2, .int y2), (3, .int y3), (4, .int y4), (5, .int y5), (6, .int y6)] → fX11_reckon_p139 v0_rules c1 c3 k51 k59 k75 y2 y3 y4 y5 y6 z0 v0_known c2 = some o → G 0 0 H locs (F0 m 139 ls [.int z0]) := by
    intro k51 hk51 k59 hk59 k75 hk75 y2 y3 y4 y5 y6 z0 v0_known c2 H locs ls hP hD hS hl hf
    refine (hG _ _ _ _ _).mpr ?_
    unfold fX11_reckon_p139 at hf
    refine lv_istore_n (lv' := [(1, .int z0), (0, .ref h0), (2, .int y2), (3, .int y3), (4, .int y4), (5, .int y5), (6, .int y6)]) hx hb dX11_reckon_139 rfl hl (by decide) rfl (fun ls hl => ?_)
    refine lv_aload_n hx hb dX11_reckon_140 rfl (lv_at hl 1 rfl) ?_
    refine va_get (D := (dC, dI)) (ci := 11) (v := .ref h2) (C := RX11) (T := TX11) (N := 71) hx hb hts inlX11 hown hK hP 0 rfl rfl 9 (by decide) w0_ (fun _ h9 => h9) rfl dX11_reckon_141 ?_
    refine lv_iload hx hb dX11_reckon_144 (lv_at hl 5 rfl) ?_
    refine lv_iload hx hb dX11_reckon_146 (lv_at hl 6 rfl) ?_
    refine lv_aload_n hx hb dX11_reckon_148 rfl (lv_at hl 1 rfl) ?_
    refine va_get (D := (dC, dI)) (ci := 11) (v := .ref h2) (C := RX11) (T := TX11) (N := 71) hx hb hts inlX11 hown hK hP 0 rfl rfl 9 (by decide) w0_ (fun _ h9 => h9) rfl dX11_reckon_149 ?_
    refine lv_iload hx hb dX11_reckon_152 (lv_at hl 5 rfl) ?_
    have b3 := bd_in hf
    replace hf := bd_k hf
    refine va_iald hx hb hK hP 2 1 rfl rfl b3 dX11_reckon_154 ?_
    refine lv_topi (fun x4 e4 => ?_)
    replace hf := nm_at hf e4
    refine lv_icmp_ge (tgt := 163) hx hb dX11_reckon_155 (by decide) (fun cq5 => ?_) (fun cq5 => ?_)
    · replace hf := if_at hf cq5
      refine lv_aload_n hx hb dX11_reckon_163 rfl (lv_at hl 1 rfl) ?_
      refine va_get (D := (dC, dI)) (ci := 11) (v := .ref h2) (C := RX11) (T := TX11) (N := 71) hx hb hts inlX11 hown hK hP 0 rfl rfl 9 (by decide) w0_ (fun _ h9 => h9) rfl dX11_reckon_164 ?_
      refine lv_iload hx hb dX11_reckon_167 (lv_at hl 5 rfl) ?_
      have b6 := bd_in hf
      replace hf := bd_k hf
      refine va_iald hx hb hK hP 2 1 rfl rfl b6 dX11_reckon_169 ?_
      refine lv_topi (fun x7 e7 => ?_)
      replace hf := nm_at hf e7
      exact (hG _ _ _ _ _).mp (J170 k51 hk51 k59 hk59 k75 hk75 z0 y2 y3 y4 x7 y5 v0_known c2 H locs ls (hP.sub [0, 1, 2, 3] rfl) (hD.sub [0, 1, 2, 3] (by decide) rfl) hS (lv_sub hl [1, 0, 2, 3, 4] rfl) hf)
    · replace hf := if_no hf cq5
      refine lv_iload hx hb dX11_reckon_158 (lv_at hl 6 rfl) ?_
      refine lv_goto (tgt := 170) hx hb dX11_reckon_160 (by decide) ?_
      exact (hG _ _ _ _ _).mp (J170 k51 hk51 k59 hk59 k75 hk75 z0 y2 y3 y4 y6 y5 v0_known c2 H locs ls (hP.sub [0, 1, 2, 3] rfl) (hD.sub [0, 1, 2, 3] (by decide) rfl) hS (lv_sub hl [1, 0, 2, 3, 4] rfl) hf)
  have J134 : ∀ (k51 : Int32 → Int32 → (Nat → Int32) → Option (Int32 × (Nat → Int32))) (hk51 : ∀ (y1 : Int32) (v0_known : Int32) (c2 : (Nat → Int32)) (H : Heap) (locs : List Loc) (ls : Array Slot), va_P (dC, dI) vwCl (wX11_reckon h0 h1 h2 h3 kc1 kc2 kc3 V0 v0_rules v0_known c1 c2 c3) H → va_D A (wX11_reckon h0 h1 h2 h3 kc1 kc2 kc3 V0 v0_rules v0_known c1 c2 c3) → va_S A s.heap H locs → lv_has ls 7 [(0, .ref h0), (1, .int y1)] → k51 y1 v0_known c2 = some o → G 0 0 H locs (F0 m 51 ls [])) (k59 : Int32 → Int32 → Int32 → (Nat → Int32) → Option (Int32 × (Nat → Int32))) (hk59 : ∀ (y1 : Int32) (y2 : Int32) (v0_known : Int32) (c2 : (Nat → Int32)) (H : Heap) (locs : List Loc) (ls : Array Slot), va_P (dC, dI) vwCl (wX11_reckon h0 h1 h2 h3 kc1 kc2 kc3 V0 v0_rules v0_known c1 c2 c3) H → va_D A (wX11_reckon h0 h1 h2 h3 kc1 kc2 kc3 V0 v0_rules v0_known c1 c2 c3) → va_S A s.heap H locs → lv_has ls 7 [(0, .ref h0), (1, .int y1), (2, .int y2)] → k59 y1 y2 v0_known c2 = some o → G 0 0 H locs (F0 m 59 ls [])) (k75 : Int32 → Int32 → Int32 → Int32 → Int32 → (Nat → Int32) → Option (Int32 × (Nat → Int32))) (hk75 : ∀ (y1 : Int32) (y2 : Int32) (y3 : Int32) (y4 : Int32) (v0_known : Int32) (c2 : (Nat → Int32)) (H : Heap) (locs : List Loc) (ls : Array Slot), va_P (dC, dI) vwCl (wX11_reckon h0 h1 h2 h3 kc1 kc2 kc3 V0 v0_rules v0_known c1 c2 c3) H → va_D A (wX11_reckon h0 h1 h2 h3 kc1 kc2 kc3 V0 v0_rules v0_known c1 c2 c3) → va_S A s.heap H locs → lv_has ls 7 [(0, .ref h0), (1, .int y1), (2, .int y2), (3, .int y3), (4, .int y4)] → k75 y1 y2 y3 y4 v0_known c2 = some o → G 0 0 H locs (F0 m 75 ls [])), ∀ (y2 : Int32) (y3 : Int32) (y4 : Int32) (y5 : Int32) (y6 : Int32) (v0_known : Int32) (c2 : (Nat → Int32)) (H : Heap) (locs : List Loc) (ls : Array Slot), va_P (dC, dI) vwCl (wX11_reckon h0 h1 h2 h3 kc1 kc2 kc3 V0 v0_rules v0_known c1 c2 c3) H → va_D A (wX11_reckon h0 h1 h2 h3 kc1 kc2 kc3 V0 v0_rules v0_known c1 c2 c3) → va_S A s.heap H locs → lv_has ls 7 [(0, .ref h0), (2, .int y2), (3, .int y3), (4, .int y4), (5, .int y5), (6, .int y6)] → fX11_reckon_p134 v0_rules c1 c3 k51 k59 k75 y2 y3 y4 y5 y6 v0_known c2 = some o → G 0 0 H locs (F0 m 134 ls []) := by
    intro k51 hk51 k59 hk59 k75 hk75 y2 y3 y4 y5 y6 v0_known c2 H locs ls hP hD hS hl hf
    refine (hG _ _ _ _ _).mpr ?_
    unfold fX11_reckon_p134 at hf
    refine lv_iconst (v := 1) hx hb dX11_reckon_134 (by decide +kernel) ?_
    refine lv_goto (tgt := 139) hx hb dX11_reckon_135 (by decide) ?_
    exact (hG _ _ _ _ _).mp (J139 k51 hk51 k59 hk59 k75 hk75 y2 y3 y4 y5 y6 1 v0_known c2 H locs ls (hP.sub [0, 1, 2, 3] rfl) (hD.sub [0, 1, 2, 3] (by decide) rfl) hS (lv_sub hl [0, 1, 2, 3, 4, 5] rfl) hf)
  have B75 : ∀ (k51 : Int32 → Int32 → (Nat → Int32) → Option (Int32 × (Nat → Int32))) (hk51 : ∀ (y1 : Int32) (v0_known : Int32) (c2 : (Nat → Int32)) (H : Heap) (locs : List Loc) (ls : Array Slot), va_P (dC, dI) vwCl (wX11_reckon h0 h1 h2 h3 kc1 kc2 kc3 V0 v0_rules v0_known c1 c2 c3) H → va_D A (wX11_reckon h0 h1 h2 h3 kc1 kc2 kc3 V0 v0_rules v0_known c1 c2 c3) → va_S A s.heap H locs → lv_has ls 7 [(0, .ref h0), (1, .int y1)] → k51 y1 v0_known c2 = some o → G 0 0 H locs (F0 m 51 ls [])) (k59 : Int32 → Int32 → Int32 → (Nat → Int32) → Option (Int32 × (Nat → Int32))) (hk59 : ∀ (y1 : Int32) (y2 : Int32) (v0_known : Int32) (c2 : (Nat → Int32)) (H : Heap) (locs : List Loc) (ls : Array Slot), va_P (dC, dI) vwCl (wX11_reckon h0 h1 h2 h3 kc1 kc2 kc3 V0 v0_rules v0_known c1 c2 c3) H → va_D A (wX11_reckon h0 h1 h2 h3 kc1 kc2 kc3 V0 v0_rules v0_known c1 c2 c3) → va_S A s.heap H locs → lv_has ls 7 [(0, .ref h0), (1, .int y1), (2, .int y2)] → k59 y1 y2 v0_known c2 = some o → G 0 0 H locs (F0 m 59 ls [])) (k75 : Int32 → Int32 → Int32 → Int32 → Int32 → (Nat → Int32) → Option (Int32 × (Nat → Int32))) (hk75 : ∀ (y1 : Int32) (y2 : Int32) (y3 : Int32) (y4 : Int32) (v0_known : Int32) (c2 : (Nat → Int32)) (H : Heap) (locs : List Loc) (ls : Array Slot), va_P (dC, dI) vwCl (wX11_reckon h0 h1 h2 h3 kc1 kc2 kc3 V0 v0_rules v0_known c1 c2 c3) H → va_D A (wX11_reckon h0 h1 h2 h3 kc1 kc2 kc3 V0 v0_rules v0_known c1 c2 c3) → va_S A s.heap H locs → lv_has ls 7 [(0, .ref h0), (1, .int y1), (2, .int y2), (3, .int y3), (4, .int y4)] → k75 y1 y2 y3 y4 v0_known c2 = some o → G 0 0 H locs (F0 m 75 ls [])), ∀ (y1 : Int32) (y2 : Int32) (y3 : Int32) (y4 : Int32) (v0_known : Int32) (c2 : (Nat → Int32)) (H : Heap) (locs : List Loc) (ls : Array Slot), va_P (dC, dI) vwCl (wX11_reckon h0 h1 h2 h3 kc1 kc2 kc3 V0 v0_rules v0_known c1 c2 c3) H → va_D A (wX11_reckon h0 h1 h2 h3 kc1 kc2 kc3 V0 v0_rules v0_known c1 c2 c3) → va_S A s.heap H locs → lv_has ls 7 [(0, .ref h0), (1, .int y1), (2, .int y2), (3, .int y3), (4, .int y4)] → fX11_reckon_b75 v0_rules c1 c3 k51 k59 k75 y1 y2 y3 y4 v0_known c2 = some o → G 0 0 H locs (F0 m 75 ls []) := by
    intro k51 hk51 k59 hk59 k75 hk75 y1 y2 y3 y4 v0_known c2 H locs ls hP hD hS hl hf
    refine (hG _ _ _ _ _).mpr ?_
    unfold fX11_reckon_b75 at hf
    refine lv_iload hx hb dX11_reckon_75 (lv_at hl 4 rfl) ?_
    refine lv_bipush (v := 16) hx hb dX11_reckon_77 (by decide +kernel) ?_
    refine lv_icmp_ge (tgt := 177) hx hb dX11_reckon_79 (by decide) (fun cq8 => ?_) (fun cq8 => ?_)
    · replace hf := if_at hf cq8
      obtain ⟨x9, e9⟩ : ∃ y : Int32, y = y2 + 1 := ⟨_, rfl⟩
      replace hf := nm_at hf e9
      refine lv_iinc (v := x9) (lv' := [(2, .int x9), (0, .ref h0), (1, .int y1), (3, .int y3), (4, .int y4)]) hx hb dX11_reckon_177 hl (k := 2) rfl (by rw [e9]; rfl) (by decide) rfl (fun ls hl => ?_)
      refine lv_goto (tgt := 59) hx hb dX11_reckon_180 (by decide) ?_
      exact (hG _ _ _ _ _).mp (hk59 y1 x9 v0_known c2 H locs ls (hP.sub [0, 1, 2, 3] rfl) (hD.sub [0, 1, 2, 3] (by decide) rfl) hS (lv_sub hl [1, 2, 0] rfl) hf)
    · replace hf := if_no hf cq8
      refine lv_sipush (v := 192) hx hb dX11_reckon_82 (by decide +kernel) ?_
      refine lv_aload_n hx hb dX11_reckon_85 rfl (lv_at hl 0 rfl) ?_
      refine va_get (D := (dC, dI)) (ci := 11) (v := .ref h3) (C := RX11) (T := TX11) (N := 71) hx hb hts inlX11 hown hK hP 0 rfl rfl 2 (by decide) w1_ (fun _ h9 => h9) rfl dX11_reckon_86 ?_
      refine lv_iload_n hx hb dX11_reckon_89 rfl (lv_at hl 3 rfl) ?_
      have b10 := bd_in hf
      replace hf := bd_k hf
      refine va_iald hx hb hK hP 3 2 rfl rfl b10 dX11_reckon_90 ?_
      refine lv_topi (fun x11 e11 => ?_)
      replace hf := nm_at hf e11
      refine lv_imul hx hb dX11_reckon_91 ?_
      refine lv_topi (fun x12 e12 => ?_)
      replace hf := nm_at hf e12
      refine lv_bipush (v := 16) hx hb dX11_reckon_92 (by decide +kernel) ?_
      refine lv_aload_n hx hb dX11_reckon_94 rfl (lv_at hl 0 rfl) ?_
      refine va_get (D := (dC, dI)) (ci := 11) (v := .ref h3) (C := RX11) (T := TX11) (N := 71) hx hb hts inlX11 hown hK hP 0 rfl rfl 2 (by decide) w1_ (fun _ h9 => h9) rfl dX11_reckon_95 ?_
      refine lv_iload_n hx hb dX11_reckon_98 rfl (lv_at hl 3 rfl) ?_
      refine lv_iconst (v := 1) hx hb dX11_reckon_99 (by decide +kernel) ?_
      refine lv_iadd hx hb dX11_reckon_100 ?_
      refine lv_topi (fun x13 e13 => ?_)
      replace hf := nm_at hf e13
      have b14 := bd_in hf
      replace hf := bd_k hf
      refine va_iald hx hb hK hP 3 2 rfl rfl b14 dX11_reckon_101 ?_
      refine lv_topi (fun x15 e15 => ?_)
      replace hf := nm_at hf e15
      refine lv_imul hx hb dX11_reckon_102 ?_
      refine lv_topi (fun x16 e16 => ?_)
      replace hf := nm_at hf e16
      refine lv_iadd hx hb dX11_reckon_103 ?_
      refine lv_topi (fun x17 e17 => ?_)
      replace hf := nm_at hf e17
      refine lv_iload hx hb dX11_reckon_104 (lv_at hl 4 rfl) ?_
      refine lv_iadd hx hb dX11_reckon_106 ?_
      refine lv_topi (fun x18 e18 => ?_)
      replace hf := nm_at hf e18
      refine lv_istore (lv' := [(5, .int x18), (0, .ref h0), (1, .int y1), (2, .int y2), (3, .int y3), (4, .int y4)]) hx hb dX11_reckon_107 hl (by decide) rfl (fun ls hl => ?_)
      refine lv_aload_n hx hb dX11_reckon_109 rfl (lv_at hl 1 rfl) ?_
      refine lv_iload_n hx hb dX11_reckon_110 rfl (lv_at hl 4 rfl) ?_
      refine lv_iload hx hb dX11_reckon_111 (lv_at hl 5 rfl) ?_
      obtain ⟨o19, e19, hf⟩ := ob_some hf
      refine kVi (As := [.int y3, .int y4]) (rest := []) ⟨hx, hb, hml, hown, hts⟩ (mX11_byRule l dC dI h0 h3 h2 kc3 kc2 H.size base y3 y4 c3 c2 (fun k => match k with | 1 => .int v0_rules | 4 => .ref h1 | 8 => .int v0_known | k => V0 k) o19 e19) (cwV 2 hts (gTV q363 q364 q365 q5 q366) rfl rfl rfl (by decide +kernel) ⟨Nat.le_of_ble_eq_true rfl, Nat.le_of_ble_eq_true rfl⟩) hK hP hD hS hA hE hAB [0, 3, 2] [1] [2, 1] (wr := [(h1, .inl (kc1, 3072, .inl c1))]) rfl rfl (by decide) (by decide) (by decide) rfl (ci := 11) (q0 := 0) rfl rfl rfl rfl hl.1 rfl (Nat.le_of_ble_eq_true rfl) dX11_reckon_113 ⟨Nat.zero_le _, Nat.zero_le _⟩ (fun r19 u19 H locs hw19 hP hD hS => ?_)
      obtain ⟨hw191, hw192⟩ := hw19
      subst hw191 hw192
      have hP : va_P (dC, dI) vwCl (wX11_reckon h0 h1 h2 h3 kc1 kc2 kc3 V0 v0_rules v0_known c1 c2 c3) H := hP.sub [1, 0, 3, 2] rfl
      have hD : va_D A (wX11_reckon h0 h1 h2 h3 kc1 kc2 kc3 V0 v0_rules v0_known c1 c2 c3) := hD.sub [1, 0, 3, 2] (by decide) rfl
      refine lv_istore (lv' := [(6, .int o19.1), (5, .int x18), (0, .ref h0), (1, .int y1), (2, .int y2), (3, .int y3), (4, .int y4)]) hx hb dX11_reckon_116 hl (by decide) rfl (fun ls hl => ?_)
      refine lv_iload_n hx hb dX11_reckon_118 rfl (lv_at hl 3 rfl) ?_
      refine lv_if_ne (tgt := 134) hx hb dX11_reckon_119 (by decide) (fun cq20 => ?_) (fun cq20 => ?_)
      · replace hf := if_no hf cq20
        exact (hG _ _ _ _ _).mp (J134 k51 hk51 k59 hk59 k75 hk75 y2 y3 y4 x18 o19.1 v0_known c2 H locs ls (hP.sub [0, 1, 2, 3] rfl) (hD.sub [0, 1, 2, 3] (by decide) rfl) hS (lv_sub hl [2, 4, 5, 6, 1, 0] rfl) hf)
      · replace hf := if_at hf cq20
        refine lv_iload hx hb dX11_reckon_122 (lv_at hl 0 rfl) ?_
        refine lv_aload_n hx hb dX11_reckon_124 rfl (lv_at hl 2 rfl) ?_
        refine va_get (D := (dC, dI)) (ci := 11) (v := .ref h2) (C := RX11) (T := TX11) (N := 71) hx hb hts inlX11 hown hK hP 0 rfl rfl 9 (by decide) w0_ (fun _ h9 => h9) rfl dX11_reckon_125 ?_
        refine lv_iload hx hb dX11_reckon_128 (lv_at hl 1 rfl) ?_
        have b21 := bd_in hf
        replace hf := bd_k hf
        refine va_iald hx hb hK hP 2 1 rfl rfl b21 dX11_reckon_130 ?_
        refine lv_topi (fun x22 e22 => ?_)
        replace hf := nm_at hf e22
        refine lv_icmp_ge (tgt := 138) hx hb dX11_reckon_131 (by decide) (fun cq23 => ?_) (fun cq23 => ?_)
        · replace hf := if_at hf cq23
          refine lv_iconst (v := 0) hx hb dX11_reckon_138 (by decide +kernel) ?_
          exact (hG _ _ _ _ _).mp (J139 k51 hk51 k59 hk59 k75 hk75 y2 y3 y4 x18 o19.1 0 v0_known c2 H locs ls (hP.sub [0, 1, 2, 3] rfl) (hD.sub [0, 1, 2, 3] (by decide) rfl) hS (lv_sub hl [2, 4, 5, 6, 1, 0] rfl) hf)
        · replace hf := if_no hf cq23
          exact (hG _ _ _ _ _).mp (J134 k51 hk51 k59 hk59 k75 hk75 y2 y3 y4 x18 o19.1 v0_known c2 H locs ls (hP.sub [0, 1, 2, 3] rfl) (hD.sub [0, 1, 2, 3] (by decide) rfl) hS (lv_sub hl [2, 4, 5, 6, 1, 0] rfl) hf)
  have L75 : ∀ (k51 : Int32 → Int32 → (Nat → Int32) → Option (Int32 × (Nat → Int32))) (hk51 : ∀ (y1 : Int32) (v0_known : Int32) (c2 : (Nat → Int32)) (H : Heap) (locs : List Loc) (ls : Array Slot), va_P (dC, dI) vwCl (wX11_reckon h0 h1 h2 h3 kc1 kc2 kc3 V0 v0_rules v0_known c1 c2 c3) H → va_D A (wX11_reckon h0 h1 h2 h3 kc1 kc2 kc3 V0 v0_rules v0_known c1 c2 c3) → va_S A s.heap H locs → lv_has ls 7 [(0, .ref h0), (1, .int y1)] → k51 y1 v0_known c2 = some o → G 0 0 H locs (F0 m 51 ls [])) (k59 : Int32 → Int32 → Int32 → (Nat → Int32) → Option (Int32 × (Nat → Int32))) (hk59 : ∀ (y1 : Int32) (y2 : Int32) (v0_known : Int32) (c2 : (Nat → Int32)) (H : Heap) (locs : List Loc) (ls : Array Slot), va_P (dC, dI) vwCl (wX11_reckon h0 h1 h2 h3 kc1 kc2 kc3 V0 v0_rules v0_known c1 c2 c3) H → va_D A (wX11_reckon h0 h1 h2 h3 kc1 kc2 kc3 V0 v0_rules v0_known c1 c2 c3) → va_S A s.heap H locs → lv_has ls 7 [(0, .ref h0), (1, .int y1), (2, .int y2)] → k59 y1 y2 v0_known c2 = some o → G 0 0 H locs (F0 m 59 ls [])) (n : Nat), ∀ (y1 : Int32) (y2 : Int32) (y3 : Int32) (y4 : Int32) (v0_known : Int32) (c2 : (Nat → Int32)) (H : Heap) (locs : List Loc) (ls : Array Slot), va_P (dC, dI) vwCl (wX11_reckon h0 h1 h2 h3 kc1 kc2 kc3 V0 v0_rules v0_known c1 c2 c3) H → va_D A (wX11_reckon h0 h1 h2 h3 kc1 kc2 kc3 V0 v0_rules v0_known c1 c2 c3) → va_S A s.heap H locs → lv_has ls 7 [(0, .ref h0), (1, .int y1), (2, .int y2), (3, .int y3), (4, .int y4)] → fX11_reckon_l75 v0_rules c1 c3 k51 k59 n y1 y2 y3 y4 v0_known c2 = some o → G 0 0 H locs (F0 m 75 ls []) := by
    intro k51 hk51 k59 hk59 n
    induction n with
    | zero => intro y1 y2 y3 y4 v0_known c2 H locs ls _ _ _ _ hf; cases hf
    | succ n ih => exact B75 k51 hk51 k59 hk59 _ ih
  have B59 : ∀ (k51 : Int32 → Int32 → (Nat → Int32) → Option (Int32 × (Nat → Int32))) (hk51 : ∀ (y1 : Int32) (v0_known : Int32) (c2 : (Nat → Int32)) (H : Heap) (locs : List Loc) (ls : Array Slot), va_P (dC, dI) vwCl (wX11_reckon h0 h1 h2 h3 kc1 kc2 kc3 V0 v0_rules v0_known c1 c2 c3) H → va_D A (wX11_reckon h0 h1 h2 h3 kc1 kc2 kc3 V0 v0_rules v0_known c1 c2 c3) → va_S A s.heap H locs → lv_has ls 7 [(0, .ref h0), (1, .int y1)] → k51 y1 v0_known c2 = some o → G 0 0 H locs (F0 m 51 ls [])) (k59 : Int32 → Int32 → Int32 → (Nat → Int32) → Option (Int32 × (Nat → Int32))) (hk59 : ∀ (y1 : Int32) (y2 : Int32) (v0_known : Int32) (c2 : (Nat → Int32)) (H : Heap) (locs : List Loc) (ls : Array Slot), va_P (dC, dI) vwCl (wX11_reckon h0 h1 h2 h3 kc1 kc2 kc3 V0 v0_rules v0_known c1 c2 c3) H → va_D A (wX11_reckon h0 h1 h2 h3 kc1 kc2 kc3 V0 v0_rules v0_known c1 c2 c3) → va_S A s.heap H locs → lv_has ls 7 [(0, .ref h0), (1, .int y1), (2, .int y2)] → k59 y1 y2 v0_known c2 = some o → G 0 0 H locs (F0 m 59 ls [])), ∀ (y1 : Int32) (y2 : Int32) (v0_known : Int32) (c2 : (Nat → Int32)) (H : Heap) (locs : List Loc) (ls : Array Slot), va_P (dC, dI) vwCl (wX11_reckon h0 h1 h2 h3 kc1 kc2 kc3 V0 v0_rules v0_known c1 c2 c3) H → va_D A (wX11_reckon h0 h1 h2 h3 kc1 kc2 kc3 V0 v0_rules v0_known c1 c2 c3) → va_S A s.heap H locs → lv_has ls 7 [(0, .ref h0), (1, .int y1), (2, .int y2)] → fX11_reckon_b59 v0_rules c1 c3 k51 k59 y1 y2 v0_known c2 = some o → G 0 0 H locs (F0 m 59 ls []) := by
    intro k51 hk51 k59 hk59 y1 y2 v0_known c2 H locs ls hP hD hS hl hf
    refine (hG _ _ _ _ _).mpr ?_
    unfold fX11_reckon_b59 at hf
    refine lv_iload_n hx hb dX11_reckon_59 rfl (lv_at hl 2 rfl) ?_
    refine lv_aload_n hx hb dX11_reckon_60 rfl (lv_at hl 0 rfl) ?_
    refine va_get (D := (dC, dI)) (ci := 11) (v := .int v0_rules) (C := RX11) (T := TX11) (N := 71) hx hb hts inlX11 hown hK hP 0 rfl rfl 1 (by decide) w2_ (fun _ h9 => h9) rfl dX11_reckon_61 ?_
    refine lv_icmp_ge (tgt := 183) hx hb dX11_reckon_64 (by decide) (fun cq24 => ?_) (fun cq24 => ?_)
    · replace hf := if_at hf cq24
      refine lv_goto (tgt := 51) hx hb dX11_reckon_183 (by decide) ?_
      exact (hG _ _ _ _ _).mp (hk51 y1 v0_known c2 H locs ls (hP.sub [0, 1, 2, 3] rfl) (hD.sub [0, 1, 2, 3] (by decide) rfl) hS (lv_sub hl [0, 1] rfl) hf)
    · replace hf := if_no hf cq24
      refine lv_bipush (v := 6) hx hb dX11_reckon_67 (by decide +kernel) ?_
      refine lv_iload_n hx hb dX11_reckon_69 rfl (lv_at hl 2 rfl) ?_
      refine lv_imul hx hb dX11_reckon_70 ?_
      refine lv_topi (fun x25 e25 => ?_)
      replace hf := nm_at hf e25
      refine lv_istore_n (lv' := [(3, .int x25), (0, .ref h0), (1, .int y1), (2, .int y2)]) hx hb dX11_reckon_71 rfl hl (by decide) rfl (fun ls hl => ?_)
      refine lv_iconst (v := 0) hx hb dX11_reckon_72 (by decide +kernel) ?_
      refine lv_istore (lv' := [(4, .int 0), (3, .int x25), (0, .ref h0), (1, .int y1), (2, .int y2)]) hx hb dX11_reckon_73 hl (by decide) rfl (fun ls hl => ?_)
      exact (hG _ _ _ _ _).mp (L75 k51 hk51 k59 hk59 FU y1 y2 x25 0 v0_known c2 H locs ls (hP.sub [0, 1, 2, 3] rfl) (hD.sub [0, 1, 2, 3] (by decide) rfl) hS (lv_sub hl [2, 3, 4, 1, 0] rfl) hf)
  have L59 : ∀ (k51 : Int32 → Int32 → (Nat → Int32) → Option (Int32 × (Nat → Int32))) (hk51 : ∀ (y1 : Int32) (v0_known : Int32) (c2 : (Nat → Int32)) (H : Heap) (locs : List Loc) (ls : Array Slot), va_P (dC, dI) vwCl (wX11_reckon h0 h1 h2 h3 kc1 kc2 kc3 V0 v0_rules v0_known c1 c2 c3) H → va_D A (wX11_reckon h0 h1 h2 h3 kc1 kc2 kc3 V0 v0_rules v0_known c1 c2 c3) → va_S A s.heap H locs → lv_has ls 7 [(0, .ref h0), (1, .int y1)] → k51 y1 v0_known c2 = some o → G 0 0 H locs (F0 m 51 ls [])) (n : Nat), ∀ (y1 : Int32) (y2 : Int32) (v0_known : Int32) (c2 : (Nat → Int32)) (H : Heap) (locs : List Loc) (ls : Array Slot), va_P (dC, dI) vwCl (wX11_reckon h0 h1 h2 h3 kc1 kc2 kc3 V0 v0_rules v0_known c1 c2 c3) H → va_D A (wX11_reckon h0 h1 h2 h3 kc1 kc2 kc3 V0 v0_rules v0_known c1 c2 c3) → va_S A s.heap H locs → lv_has ls 7 [(0, .ref h0), (1, .int y1), (2, .int y2)] → fX11_reckon_l59 v0_rules c1 c3 k51 n y1 y2 v0_known c2 = some o → G 0 0 H locs (F0 m 59 ls []) := by
    intro k51 hk51 n
    induction n with
    | zero => intro y1 y2 v0_known c2 H locs ls _ _ _ _ hf; cases hf
    | succ n ih => exact B59 k51 hk51 _ ih
  have B51 : ∀ (k51 : Int32 → Int32 → (Nat → Int32) → Option (Int32 × (Nat → Int32))) (hk51 : ∀ (y1 : Int32) (v0_known : Int32) (c2 : (Nat → Int32)) (H : Heap) (locs : List Loc) (ls : Array Slot), va_P (dC, dI) vwCl (wX11_reckon h0 h1 h2 h3 kc1 kc2 kc3 V0 v0_rules v0_known c1 c2 c3) H → va_D A (wX11_reckon h0 h1 h2 h3 kc1 kc2 kc3 V0 v0_rules v0_known c1 c2 c3) → va_S A s.heap H locs → lv_has ls 7 [(0, .ref h0), (1, .int y1)] → k51 y1 v0_known c2 = some o → G 0 0 H locs (F0 m 51 ls [])), ∀ (y1 : Int32) (v0_known : Int32) (c2 : (Nat → Int32)) (H : Heap) (locs : List Loc) (ls : Array Slot), va_P (dC, dI) vwCl (wX11_reckon h0 h1 h2 h3 kc1 kc2 kc3 V0 v0_rules v0_known c1 c2 c3) H → va_D A (wX11_reckon h0 h1 h2 h3 kc1 kc2 kc3 V0 v0_rules v0_known c1 c2 c3) → va_S A s.heap H locs → lv_has ls 7 [(0, .ref h0), (1, .int y1)] → fX11_reckon_b51 v0_rules c1 c3  k51 y1 v0_known c2 = some o → G 0 0 H locs (F0 m 51 ls []) := by
    intro  k51 hk51 y1 v0_known c2 H locs ls hP hD hS hl hf
    refine (hG _ _ _ _ _).mpr ?_
    unfold fX11_reckon_b51 at hf
    refine lv_iload_n hx hb dX11_reckon_51 rfl (lv_at hl 1 rfl) ?_
    refine lv_if_eq (tgt := 186) hx hb dX11_reckon_52 (by decide) (fun cq26 => ?_) (fun cq26 => ?_)
    · replace hf := if_at hf cq26
      have hf1 := Option.some.inj hf
      subst hf1
      have hP9 := hP.sub (ws' := (wX11_reckon h0 h1 h2 h3 kc1 kc2 kc3 V0 v0_rules v0_known c1 c2 c3)) [0, 1, 2, 3] rfl
      have hD9 := hD.sub (ws' := (wX11_reckon h0 h1 h2 h3 kc1 kc2 kc3 V0 v0_rules v0_known c1 c2 c3)) [0, 1, 2, 3] (by decide) rfl
      exact W.vret hx hb hr (fun t ht hW => ⟨⟨(v0_known, c2), rfl, rfl, by rw [ht]; exact hP9, va_K.moved hW.alike hK, hD9⟩, hS.F ht⟩) hS.2.2 dX11_reckon_186
    · replace hf := if_no hf cq26
      refine lv_iconst (v := 0) hx hb dX11_reckon_55 (by decide +kernel) ?_
      refine lv_istore_n (lv' := [(1, .int 0), (0, .ref h0)]) hx hb dX11_reckon_56 rfl hl (by decide) rfl (fun ls hl => ?_)
      refine lv_iconst (v := 0) hx hb dX11_reckon_57 (by decide +kernel) ?_
      refine lv_istore_n (lv' := [(2, .int 0), (1, .int 0), (0, .ref h0)]) hx hb dX11_reckon_58 rfl hl (by decide) rfl (fun ls hl => ?_)
      exact (hG _ _ _ _ _).mp (L59 k51 hk51 FU 0 0 v0_known c2 H locs ls (hP.sub [0, 1, 2, 3] rfl) (hD.sub [0, 1, 2, 3] (by decide) rfl) hS (lv_sub hl [2, 1, 0] rfl) hf)
  have L51 : ∀ (n : Nat), ∀ (y1 : Int32) (v0_known : Int32) (c2 : (Nat → Int32)) (H : Heap) (locs : List Loc) (ls : Array Slot), va_P (dC, dI) vwCl (wX11_reckon h0 h1 h2 h3 kc1 kc2 kc3 V0 v0_rules v0_known c1 c2 c3) H → va_D A (wX11_reckon h0 h1 h2 h3 kc1 kc2 kc3 V0 v0_rules v0_known c1 c2 c3) → va_S A s.heap H locs → lv_has ls 7 [(0, .ref h0), (1, .int y1)] → fX11_reckon_l51 v0_rules c1 c3  n y1 v0_known c2 = some o → G 0 0 H locs (F0 m 51 ls []) := by
    intro  n
    induction n with
    | zero => intro y1 v0_known c2 H locs ls _ _ _ _ hf; cases hf
    | succ n ih => exact B51  _ ih
  have J42 : ∀ (k15 : Int32 → Int32 → (Nat → Int32) → Option (Int32 × (Nat → Int32))) (hk15 : ∀ (y1 : Int32) (v0_known : Int32) (c2 : (Nat → Int32)) (H : Heap) (locs : List Loc) (ls : Array Slot), va_P (dC, dI) vwCl (wX11_reckon h0 h1 h2 h3 kc1 kc2 kc3 V0 v0_rules v0_known c1 c2 c3) H → va_D A (wX11_reckon h0 h1 h2 h3 kc1 kc2 kc3 V0 v0_rules v0_known c1 c2 c3) → va_S A s.heap H locs → lv_has ls 7 [(0, .ref h0), (1, .int y1)] → k15 y1 v0_known c2 = some o → G 0 0 H locs (F0 m 15 ls [])), ∀ (y1 : Int32) (z0 : Int32) (z1 : Int32) (v0_known : Int32) (c2 : (Nat → Int32)) (H : Heap) (locs : List Loc) (ls : Array Slot), va_P (dC, dI) vwCl (wX11_reckon h0 h1 h2 h3 kc1 kc2 kc3 V0 v0_rules v0_known c1 c2 c3) H → va_D A (wX11_reckon h0 h1 h2 h3 kc1 kc2 kc3 V0 v0_rules v0_known c1 c2 c3) → va_S A s.heap H locs → lv_has ls 7 [(0, .ref h0), (1, .int y1)] → fX11_reckon_p42 v0_rules c1 c3 k15 y1 z0 z1 v0_known c2 = some o → G 0 0 H locs (F0 m 42 ls [.int z0, .int z1, .ref h2]) := by
    intro k15 hk15 y1 z0 z1 v0_known c2 H locs ls hP hD hS hl hf
    refine (hG _ _ _ _ _).mpr ?_
    unfold fX11_reckon_p42 at hf
    have b27 := bd_in hf
    replace hf := bd_k hf
    obtain ⟨c27x, e27⟩ : ∃ y, y = upd c2 z1.toNatClampNeg z0 := ⟨_, rfl⟩
    replace hf := nm_at hf e27
    refine va_iast hx hb hK hP hD hS 2 1 rfl rfl b27 dX11_reckon_42 (fun H locs hP hD hS => ?_)
    have hP : va_P (dC, dI) vwCl (wX11_reckon h0 h1 h2 h3 kc1 kc2 kc3 V0 v0_rules v0_known c1 c27x c3) H := by rw [e27]; exact hP
    have hD : va_D A (wX11_reckon h0 h1 h2 h3 kc1 kc2 kc3 V0 v0_rules v0_known c1 c27x c3) := by rw [e27]; exact hD
    obtain ⟨x28, e28⟩ : ∃ y : Int32, y = y1 + 1 := ⟨_, rfl⟩
    replace hf := nm_at hf e28
    refine lv_iinc (v := x28) (lv' := [(1, .int x28), (0, .ref h0)]) hx hb dX11_reckon_43 hl (k := 1) rfl (by rw [e28]; rfl) (by decide) rfl (fun ls hl => ?_)
    refine lv_goto (tgt := 15) hx hb dX11_reckon_46 (by decide) ?_
    exact (hG _ _ _ _ _).mp (hk15 x28 v0_known c27x H locs ls (hP.sub [0, 1, 2, 3] rfl) (hD.sub [0, 1, 2, 3] (by decide) rfl) hS (lv_sub hl [1, 0] rfl) hf)
  have B15 : ∀ (k15 : Int32 → Int32 → (Nat → Int32) → Option (Int32 × (Nat → Int32))) (hk15 : ∀ (y1 : Int32) (v0_known : Int32) (c2 : (Nat → Int32)) (H : Heap) (locs : List Loc) (ls : Array Slot), va_P (dC, dI) vwCl (wX11_reckon h0 h1 h2 h3 kc1 kc2 kc3 V0 v0_rules v0_known c1 c2 c3) H → va_D A (wX11_reckon h0 h1 h2 h3 kc1 kc2 kc3 V0 v0_rules v0_known c1 c2 c3) → va_S A s.heap H locs → lv_has ls 7 [(0, .ref h0), (1, .int y1)] → k15 y1 v0_known c2 = some o → G 0 0 H locs (F0 m 15 ls [])), ∀ (y1 : Int32) (v0_known : Int32) (c2 : (Nat → Int32)) (H : Heap) (locs : List Loc) (ls : Array Slot), va_P (dC, dI) vwCl (wX11_reckon h0 h1 h2 h3 kc1 kc2 kc3 V0 v0_rules v0_known c1 c2 c3) H → va_D A (wX11_reckon h0 h1 h2 h3 kc1 kc2 kc3 V0 v0_rules v0_known c1 c2 c3) → va_S A s.heap H locs → lv_has ls 7 [(0, .ref h0), (1, .int y1)] → fX11_reckon_b15 v0_rules c1 c3  k15 y1 v0_known c2 = some o → G 0 0 H locs (F0 m 15 ls []) := by
    intro  k15 hk15 y1 v0_known c2 H locs ls hP hD hS hl hf
    refine (hG _ _ _ _ _).mpr ?_
    unfold fX11_reckon_b15 at hf
    refine lv_iload_n hx hb dX11_reckon_15 rfl (lv_at hl 1 rfl) ?_
    refine lv_sipush (v := 3072) hx hb dX11_reckon_16 (by decide +kernel) ?_
    refine lv_icmp_ge (tgt := 49) hx hb dX11_reckon_19 (by decide) (fun cq29 => ?_) (fun cq29 => ?_)
    · replace hf := if_at hf cq29
      refine lv_iconst (v := 1) hx hb dX11_reckon_49 (by decide +kernel) ?_
      refine lv_istore_n (lv' := [(1, .int 1), (0, .ref h0)]) hx hb dX11_reckon_50 rfl hl (by decide) rfl (fun ls hl => ?_)
      exact (hG _ _ _ _ _).mp (L51 FU 1 v0_known c2 H locs ls (hP.sub [0, 1, 2, 3] rfl) (hD.sub [0, 1, 2, 3] (by decide) rfl) hS (lv_sub hl [1, 0] rfl) hf)
    · replace hf := if_no hf cq29
      refine lv_aload_n hx hb dX11_reckon_22 rfl (lv_at hl 0 rfl) ?_
      refine va_get (D := (dC, dI)) (ci := 11) (v := .ref h2) (C := RX11) (T := TX11) (N := 71) hx hb hts inlX11 hown hK hP 0 rfl rfl 9 (by decide) w0_ (fun _ h9 => h9) rfl dX11_reckon_23 ?_
      refine lv_iload_n hx hb dX11_reckon_26 rfl (lv_at hl 1 rfl) ?_
      refine lv_aload_n hx hb dX11_reckon_27 rfl (lv_at hl 0 rfl) ?_
      refine va_get (D := (dC, dI)) (ci := 11) (v := .ref h1) (C := RX11) (T := TX11) (N := 71) hx hb hts inlX11 hown hK hP 0 rfl rfl 4 (by decide) w3_ (fun _ h9 => h9) rfl dX11_reckon_28 ?_
      refine lv_iload_n hx hb dX11_reckon_31 rfl (lv_at hl 1 rfl) ?_
      have b30 := bd_in hf
      replace hf := bd_k hf
      refine va_zald hx hb hK hP 1 0 rfl rfl b30 dX11_reckon_32 ?_
      refine lv_topi (fun x31 e31 => ?_)
      replace hf := nm_at hf e31
      refine lv_if_eq (tgt := 40) hx hb dX11_reckon_33 (by decide) (fun cq32 => ?_) (fun cq32 => ?_)
      · replace hf := if_at hf cq32
        refine lv_ldc (v := 2000000) hx hb hown w4_ dX11_reckon_40 ?_
        exact (hG _ _ _ _ _).mp (J42 k15 hk15 y1 2000000 y1 v0_known c2 H locs ls (hP.sub [0, 1, 2, 3] rfl) (hD.sub [0, 1, 2, 3] (by decide) rfl) hS (lv_sub hl [0, 1] rfl) hf)
      · replace hf := if_no hf cq32
        refine lv_iconst (v := 0) hx hb dX11_reckon_36 (by decide +kernel) ?_
        refine lv_goto (tgt := 42) hx hb dX11_reckon_37 (by decide) ?_
        exact (hG _ _ _ _ _).mp (J42 k15 hk15 y1 0 y1 v0_known c2 H locs ls (hP.sub [0, 1, 2, 3] rfl) (hD.sub [0, 1, 2, 3] (by decide) rfl) hS (lv_sub hl [0, 1] rfl) hf)
  have L15 : ∀ (n : Nat), ∀ (y1 : Int32) (v0_known : Int32) (c2 : (Nat → Int32)) (H : Heap) (locs : List Loc) (ls : Array Slot), va_P (dC, dI) vwCl (wX11_reckon h0 h1 h2 h3 kc1 kc2 kc3 V0 v0_rules v0_known c1 c2 c3) H → va_D A (wX11_reckon h0 h1 h2 h3 kc1 kc2 kc3 V0 v0_rules v0_known c1 c2 c3) → va_S A s.heap H locs → lv_has ls 7 [(0, .ref h0), (1, .int y1)] → fX11_reckon_l15 v0_rules c1 c3  n y1 v0_known c2 = some o → G 0 0 H locs (F0 m 15 ls []) := by
    intro  n
    induction n with
    | zero => intro y1 v0_known c2 H locs ls _ _ _ _ hf; cases hf
    | succ n ih => exact B15  _ ih
  refine (hG _ _ _ _ _).mpr ?_
  obtain ⟨H, hH⟩ : ∃ H, H = s.heap := ⟨_, rfl⟩
  have hS : va_S A s.heap H [] := by rw [hH]; exact hS
  rw [← hH] at hP ⊢
  generalize ([] : List Loc) = locs at hS ⊢
  unfold fX11_reckon at hf
  refine lv_aload_n hx hb dX11_reckon_0 rfl (lv_at hl 0 rfl) ?_
  refine va_get (D := (dC, dI)) (ci := 11) (v := .int v0_known) (C := RX11) (T := TX11) (N := 71) hx hb hts inlX11 hown hK hP 0 rfl rfl 8 (by decide) w5_ (fun _ h9 => h9) rfl dX11_reckon_1 ?_
  refine lv_if_eq (tgt := 8) hx hb dX11_reckon_4 (by decide) (fun cq33 => ?_) (fun cq33 => ?_)
  · replace hf := if_at hf cq33
    refine lv_aload_n hx hb dX11_reckon_8 rfl (lv_at hl 0 rfl) ?_
    refine lv_iconst (v := 1) hx hb dX11_reckon_9 (by decide +kernel) ?_
    refine va_put (D := (dC, dI)) (ci := 11) (v := .int 1) (ty := .boolean) (C := RX11) (T := TX11) (N := 71) hx hb hts inlX11 tyX11 tyX11_ok nmX11 hown hK hP hD hS 0 rfl rfl 8 (by decide) w5_ (fun _ h9 => h9) rfl (by decide +kernel) rfl rfl (Nat.le_of_ble_eq_true rfl) dX11_reckon_10 (fun H locs hP hD hS => ?_)
    have hP : va_P (dC, dI) vwCl (wX11_reckon h0 h1 h2 h3 kc1 kc2 kc3 V0 v0_rules 1 c1 c2 c3) H := hP
    have hD : va_D A (wX11_reckon h0 h1 h2 h3 kc1 kc2 kc3 V0 v0_rules 1 c1 c2 c3) := hD
    refine lv_iconst (v := 0) hx hb dX11_reckon_13 (by decide +kernel) ?_
    refine lv_istore_n (lv' := [(1, .int 0), (0, .ref h0)]) hx hb dX11_reckon_14 rfl hl (by decide) rfl (fun ls hl => ?_)
    exact (hG _ _ _ _ _).mp (L15 FU 0 1 c2 H locs ls (hP.sub [0, 1, 2, 3] rfl) (hD.sub [0, 1, 2, 3] (by decide) rfl) hS (lv_sub hl [1, 0] rfl) hf)
  · replace hf := if_no hf cq33
    have hf1 := Option.some.inj hf
    subst hf1
    have hP9 := hP.sub (ws' := (wX11_reckon h0 h1 h2 h3 kc1 kc2 kc3 V0 v0_rules v0_known c1 c2 c3)) [0, 1, 2, 3] rfl
    have hD9 := hD.sub (ws' := (wX11_reckon h0 h1 h2 h3 kc1 kc2 kc3 V0 v0_rules v0_known c1 c2 c3)) [0, 1, 2, 3] (by decide) rfl
    exact W.vret hx hb hr (fun t ht hW => ⟨⟨(v0_known, c2), rfl, rfl, by rw [ht]; exact hP9, va_K.moved hW.alike hK, hD9⟩, hS.F ht⟩) hS.2.2 dX11_reckon_7
abbrev wX11_lay (h0 h1 h2 h3 : Nat) (kc1 kc2 kc3 : ClassId) (V0 : Nat → Value) (c1 : Nat → Int32) (c2 : Nat → Int32) (c3 : Nat → Int32) : va_W := [(h0, .inr (11, [V0 0, V0 1, V0 2, V0 3, V0 4, V0 5, V0 6, V0 7, V0 8, .ref h2, V0 10, V0 11, V0 12, .ref h3, .ref h1, V0 15, V0 16, V0 17, V0 18, V0 19, V0 20, V0 21, V0 22, V0 23, V0 24, V0 25, V0 26, V0 27, V0 28, V0 29, V0 30, V0 31, V0 32, V0 33, V0 34, V0 35, V0 36, V0 37, V0 38, V0 39, V0 40, V0 41, V0 42, V0 43, V0 44, V0 45, V0 46, V0 47, V0 48, V0 49, V0 50, V0 51, V0 52, V0 53, V0 54, V0 55, V0 56, V0 57, V0 58, V0 59, V0 60, V0 61, V0 62, V0 63, V0 64, V0 65, V0 66, V0 67, V0 68, V0 69, V0 70])), (h1, .inl (kc1, 4008, .inl c1)), (h2, .inl (kc2, 3072, .inl c2)), (h3, .inl (kc3, 64128, .inl c3))]
set_option maxHeartbeats 4000000 in
set_option maxRecDepth 100000 in
theorem mX11_lay (l : Launch) (dC : Nat → ClassId) (dI : Nat → Nat → Nat) (h0 h1 h2 h3 : Nat) (kc1 kc2 kc3 : ClassId) (sz : Nat) (base : Nat × Nat × Nat) (a0 : Int32) (a1 : Int32) (c1 : Nat → Int32) (c2 : Nat → Int32) (c3 : Nat → Int32) (V0 : Nat → Value) (o : (Nat → Int32) × (Nat → Int32)) (hf : fX11_lay a0 a1 c1 c2 c3 = some o) : Met l yX11_lay (.code yX11_lay cX11_lay 7 none :: wsL_law) ({ frames := 1, cells := 0, slots := 0, locals := 21 }) (cPre (dC, dI) vwCl [.ref h0, .int a0, .int a1] sz base (wX11_lay h0 h1 h2 h3 kc1 kc2 kc3 V0 c1 c2 c3) [(kc1, .int), (kc2, .int), (kc3, .int)]) (va_Qv (fun u => u = o) (fun (u : (Nat → Int32) × (Nat → Int32)) t => cPost (dC, dI) vwCl (va_A (wX11_lay h0 h1 h2 h3 kc1 kc2 kc3 V0 c1 c2 c3) sz) (wX11_lay h0 h1 h2 h3 kc1 kc2 kc3 V0 u.1 c2 u.2) [(kc1, .int), (kc2, .int), (kc3, .int)] t) (va_A (wX11_lay h0 h1 h2 h3 kc1 kc2 kc3 V0 c1 c2 c3) sz)) 0 0 (va_A (wX11_lay h0 h1 h2 h3 kc1 kc2 kc3 V0 c1 c2 c3) sz) := by
  refine Met.ofW (cc := cX11_lay) (maxL := 7) (ret := none) (by decide) rfl ?_
  intro p e s m args below meth c s₁ B hml hv
  obtain ⟨rfl, hsz, hP, hK, hD0, hE⟩ := hv
  have hx := B.exec
  have hb := B.bytes
  have hr := B.returns
  have hts : ∀ w ∈ wsL_law, _ := fun w h => atoms_spec (ws := .code yX11_lay cX11_lay 7 none :: wsL_law) B.pre w (List.mem_cons_of_mem _ h)
  have hown : s.vm.findClass RX11 = some m.cls := findClass_of_methodNamed B.named
  have hlocks := B.notSynchronized
  have w0_ := hts _ q87
  have w1_ := hts _ q83
  have w2_ := hts _ q354
  have w3_ := hts _ q88
  subst hsz
  have hD := hD0.self (sz := s.heap.size)
  generalize hAe : va_A (wX11_lay h0 h1 h2 h3 kc1 kc2 kc3 V0 c1 c2 c3) s.heap.size = A at hD ⊢
  have hA : ∀ q : Nat, s.heap.size ≤ q → A q := fun q h => by rw [← hAe]; exact Or.inr h
  have hAB : ∀ q : Nat, A q → base.1 ≤ q := fun q h => by rw [← hAe] at h; exact h.elim (fun ⟨k, e, hk⟩ => hD0.2 k _ hk) (fun hk => Nat.le_trans hE.1 hk)
  have hS : va_S A s.heap s.heap [] := va_S.rf
  have hl := lv_entry ([.ref h0, .int a0, .int a1]) (n := 7) (Nat.le_of_ble_eq_true rfl)
  rw [lg_entry_eq]
  generalize (lg_sl ([.ref h0, .int a0, .int a1]) ++ List.replicate (7 - (lg_sl ([.ref h0, .int a0, .int a1])).length) Slot.unset).toArray = ls at hl ⊢
  have hl : lv_has ls 7 [(0, .ref h0), (1, .int a0), (2, .int a1)] := hl
  have hP : va_P (dC, dI) vwCl (wX11_lay h0 h1 h2 h3 kc1 kc2 kc3 V0 c1 c2 c3) s.heap := hP
  refine gl_intro (fun G hG => ?_)
  have J78 : ∀ (k9 : Int32 → Int32 → Int32 → (Nat → Int32) → (Nat → Int32) → Option ((Nat → Int32) × (Nat → Int32))) (hk9 : ∀ (y1 : Int32) (y2 : Int32) (y3 : Int32) (c1 : (Nat → Int32)) (c3 : (Nat → Int32)) (H : Heap) (locs : List Loc) (ls : Array Slot), va_P (dC, dI) vwCl (wX11_lay h0 h1 h2 h3 kc1 kc2 kc3 V0 c1 c2 c3) H → va_D A (wX11_lay h0 h1 h2 h3 kc1 kc2 kc3 V0 c1 c2 c3) → va_S A s.heap H locs → lv_has ls 7 [(0, .ref h0), (1, .int y1), (2, .int y2), (3, .int y3)] → k9 y1 y2 y3 c1 c3 = some o → G 0 0 H locs (F0 m 9 ls [])) (k22 : Int32 → Int32 → Int32 → Int32 → Int32 → (Nat → Int32) → (Nat → Int32) → Option ((Nat → Int32) × (Nat → Int32))) (hk22 : ∀ (y1 : Int32) (y2 : Int32) (y3 : Int32) (y4 : Int32) (y5 : Int32) (c1 : (Nat → Int32)) (c3 : (Nat → Int32)) (H : Heap) (locs : List Loc) (ls : Array Slot), va_P (dC, dI) vwCl (wX11_lay h0 h1 h2 h3 kc1 kc2 kc3 V0 c1 c2 c3) H → va_D A (wX11_lay h0 h1 h2 h3 kc1 kc2 kc3 V0 c1 c2 c3) → va_S A s.heap H locs → lv_has ls 7 [(0, .ref h0), (1, .int y1), (2, .int y2), (3, .int y3), (4, .int y4), (5, .int y5)] → k22 y1 y2 y3 y4 y5 c1 c3 = some o → G 0 0 H locs (F0 m 22 ls [])), ∀ (y1 : Int32) (y2 : Int32) (y3 : Int32) (y5 : Int32) (z0 : Int32) (c1 : (Nat → Int32)) (c3 : (Nat → Int32)) (H : Heap) (locs : List Loc) (ls : Array Slot), va_P (dC, dI) vwCl (wX11_lay h0 h1 h2 h3 kc1 kc2 kc3 V0 c1 c2 c3) H → va_D A (wX11_lay h0 h1 h2 h3 kc1 kc2 kc3 V0 c1 c2 c3) → va_S A s.heap H locs → lv_has ls 7 [(0, .ref h0), (1, .int y1), (2, .int y2), (3, .int y3), (5, .int y5)] → fX11_lay_p78 c2 k9 k22 y1 y2 y3 y5 z0 c1 c3 = some o → G 0 0 H locs (F0 m 78 ls [.int z0]) := by
    intro k9 hk9 k22 hk22 y1 y2 y3 y5 z0 c1 c3 H locs ls hP hD hS hl hf
    refine (hG _ _ _ _ _).mpr ?_
    unfold fX11_lay_p78 at hf
    refine lv_istore (lv' := [(4, .int z0), (0, .ref h0), (1, .int y1), (2, .int y2), (3, .int y3), (5, .int y5)]) hx hb dX11_lay_78 hl (by decide) rfl (fun ls hl => ?_)
    obtain ⟨x1, e1⟩ : ∃ y : Int32, y = y5 + 1 := ⟨_, rfl⟩
    replace hf := nm_at hf e1
    refine lv_iinc (v := x1) (lv' := [(5, .int x1), (4, .int z0), (0, .ref h0), (1, .int y1), (2, .int y2), (3, .int y3)]) hx hb dX11_lay_80 hl (k := 5) rfl (by rw [e1]; rfl) (by decide) rfl (fun ls hl => ?_)
    refine lv_goto (tgt := 22) hx hb dX11_lay_83 (by decide) ?_
    exact (hG _ _ _ _ _).mp (hk22 y1 y2 y3 z0 x1 c1 c3 H locs ls (hP.sub [0, 1, 2, 3] rfl) (hD.sub [0, 1, 2, 3] (by decide) rfl) hS (lv_sub hl [2, 3, 4, 5, 1, 0] rfl) hf)
  have B22 : ∀ (k9 : Int32 → Int32 → Int32 → (Nat → Int32) → (Nat → Int32) → Option ((Nat → Int32) × (Nat → Int32))) (hk9 : ∀ (y1 : Int32) (y2 : Int32) (y3 : Int32) (c1 : (Nat → Int32)) (c3 : (Nat → Int32)) (H : Heap) (locs : List Loc) (ls : Array Slot), va_P (dC, dI) vwCl (wX11_lay h0 h1 h2 h3 kc1 kc2 kc3 V0 c1 c2 c3) H → va_D A (wX11_lay h0 h1 h2 h3 kc1 kc2 kc3 V0 c1 c2 c3) → va_S A s.heap H locs → lv_has ls 7 [(0, .ref h0), (1, .int y1), (2, .int y2), (3, .int y3)] → k9 y1 y2 y3 c1 c3 = some o → G 0 0 H locs (F0 m 9 ls [])) (k22 : Int32 → Int32 → Int32 → Int32 → Int32 → (Nat → Int32) → (Nat → Int32) → Option ((Nat → Int32) × (Nat → Int32))) (hk22 : ∀ (y1 : Int32) (y2 : Int32) (y3 : Int32) (y4 : Int32) (y5 : Int32) (c1 : (Nat → Int32)) (c3 : (Nat → Int32)) (H : Heap) (locs : List Loc) (ls : Array Slot), va_P (dC, dI) vwCl (wX11_lay h0 h1 h2 h3 kc1 kc2 kc3 V0 c1 c2 c3) H → va_D A (wX11_lay h0 h1 h2 h3 kc1 kc2 kc3 V0 c1 c2 c3) → va_S A s.heap H locs → lv_has ls 7 [(0, .ref h0), (1, .int y1), (2, .int y2), (3, .int y3), (4, .int y4), (5, .int y5)] → k22 y1 y2 y3 y4 y5 c1 c3 = some o → G 0 0 H locs (F0 m 22 ls [])), ∀ (y1 : Int32) (y2 : Int32) (y3 : Int32) (y4 : Int32) (y5 : Int32) (c1 : (Nat → Int32)) (c3 : (Nat → Int32)) (H : Heap) (locs : List Loc) (ls : Array Slot), va_P (dC, dI) vwCl (wX11_lay h0 h1 h2 h3 kc1 kc2 kc3 V0 c1 c2 c3) H → va_D A (wX11_lay h0 h1 h2 h3 kc1 kc2 kc3 V0 c1 c2 c3) → va_S A s.heap H locs → lv_has ls 7 [(0, .ref h0), (1, .int y1), (2, .int y2), (3, .int y3), (4, .int y4), (5, .int y5)] → fX11_lay_b22 c2 k9 k22 y1 y2 y3 y4 y5 c1 c3 = some o → G 0 0 H locs (F0 m 22 ls []) := by
    intro k9 hk9 k22 hk22 y1 y2 y3 y4 y5 c1 c3 H locs ls hP hD hS hl hf
    refine (hG _ _ _ _ _).mpr ?_
    unfold fX11_lay_b22 at hf
    refine lv_iload hx hb dX11_lay_22 (lv_at hl 5 rfl) ?_
    refine lv_bipush (v := 16) hx hb dX11_lay_24 (by decide +kernel) ?_
    refine lv_icmp_ge (tgt := 86) hx hb dX11_lay_26 (by decide) (fun cq2 => ?_) (fun cq2 => ?_)
    · replace hf := if_at hf cq2
      refine lv_aload_n hx hb dX11_lay_86 rfl (lv_at hl 0 rfl) ?_
      refine va_get (D := (dC, dI)) (ci := 11) (v := .ref h3) (C := RX11) (T := TX11) (N := 71) hx hb hts inlX11 hown hK hP 0 rfl rfl 13 (by decide) w0_ (fun _ h9 => h9) rfl dX11_lay_87 ?_
      refine lv_bipush (v := 16) hx hb dX11_lay_90 (by decide +kernel) ?_
      refine lv_iload_n hx hb dX11_lay_92 rfl (lv_at hl 1 rfl) ?_
      refine lv_iconst (v := 1) hx hb dX11_lay_93 (by decide +kernel) ?_
      refine lv_iadd hx hb dX11_lay_94 ?_
      refine lv_topi (fun x3 e3 => ?_)
      replace hf := nm_at hf e3
      refine lv_imul hx hb dX11_lay_95 ?_
      refine lv_topi (fun x4 e4 => ?_)
      replace hf := nm_at hf e4
      refine lv_iload_n hx hb dX11_lay_96 rfl (lv_at hl 3 rfl) ?_
      refine lv_iadd hx hb dX11_lay_97 ?_
      refine lv_topi (fun x5 e5 => ?_)
      replace hf := nm_at hf e5
      refine lv_iload hx hb dX11_lay_98 (lv_at hl 4 rfl) ?_
      have b6 := bd_in hf
      replace hf := bd_k hf
      obtain ⟨c6x, e6⟩ : ∃ y, y = upd c3 x5.toNatClampNeg y4 := ⟨_, rfl⟩
      replace hf := nm_at hf e6
      refine va_iast hx hb hK hP hD hS 3 2 rfl rfl b6 dX11_lay_100 (fun H locs hP hD hS => ?_)
      have hP : va_P (dC, dI) vwCl (wX11_lay h0 h1 h2 h3 kc1 kc2 kc3 V0 c1 c2 c6x) H := by rw [e6]; exact hP
      have hD : va_D A (wX11_lay h0 h1 h2 h3 kc1 kc2 kc3 V0 c1 c2 c6x) := by rw [e6]; exact hD
      obtain ⟨x7, e7⟩ : ∃ y : Int32, y = y3 + 1 := ⟨_, rfl⟩
      replace hf := nm_at hf e7
      refine lv_iinc (v := x7) (lv' := [(3, .int x7), (0, .ref h0), (1, .int y1), (2, .int y2), (4, .int y4), (5, .int y5)]) hx hb dX11_lay_101 hl (k := 3) rfl (by rw [e7]; rfl) (by decide) rfl (fun ls hl => ?_)
      refine lv_goto (tgt := 9) hx hb dX11_lay_104 (by decide) ?_
      exact (hG _ _ _ _ _).mp (hk9 y1 y2 x7 c1 c6x H locs ls (hP.sub [0, 1, 2, 3] rfl) (hD.sub [0, 1, 2, 3] (by decide) rfl) hS (lv_sub hl [1, 2, 3, 0] rfl) hf)
    · replace hf := if_no hf cq2
      refine lv_aload_n hx hb dX11_lay_29 rfl (lv_at hl 0 rfl) ?_
      refine va_get (D := (dC, dI)) (ci := 11) (v := .ref h2) (C := RX11) (T := TX11) (N := 71) hx hb hts inlX11 hown hK hP 0 rfl rfl 9 (by decide) w1_ (fun _ h9 => h9) rfl dX11_lay_30 ?_
      refine lv_sipush (v := 192) hx hb dX11_lay_33 (by decide +kernel) ?_
      refine lv_iload_n hx hb dX11_lay_36 rfl (lv_at hl 3 rfl) ?_
      refine lv_imul hx hb dX11_lay_37 ?_
      refine lv_topi (fun x8 e8 => ?_)
      replace hf := nm_at hf e8
      refine lv_bipush (v := 16) hx hb dX11_lay_38 (by decide +kernel) ?_
      refine lv_iload_n hx hb dX11_lay_40 rfl (lv_at hl 2 rfl) ?_
      refine lv_imul hx hb dX11_lay_41 ?_
      refine lv_topi (fun x9 e9 => ?_)
      replace hf := nm_at hf e9
      refine lv_iadd hx hb dX11_lay_42 ?_
      refine lv_topi (fun x10 e10 => ?_)
      replace hf := nm_at hf e10
      refine lv_iload hx hb dX11_lay_43 (lv_at hl 5 rfl) ?_
      refine lv_iadd hx hb dX11_lay_45 ?_
      refine lv_topi (fun x11 e11 => ?_)
      replace hf := nm_at hf e11
      have b12 := bd_in hf
      replace hf := bd_k hf
      refine va_iald hx hb hK hP 2 1 rfl rfl b12 dX11_lay_46 ?_
      refine lv_topi (fun x13 e13 => ?_)
      replace hf := nm_at hf e13
      refine lv_aload_n hx hb dX11_lay_47 rfl (lv_at hl 0 rfl) ?_
      refine va_get (D := (dC, dI)) (ci := 11) (v := .ref h3) (C := RX11) (T := TX11) (N := 71) hx hb hts inlX11 hown hK hP 0 rfl rfl 13 (by decide) w0_ (fun _ h9 => h9) rfl dX11_lay_48 ?_
      refine lv_bipush (v := 16) hx hb dX11_lay_51 (by decide +kernel) ?_
      refine lv_iload_n hx hb dX11_lay_53 rfl (lv_at hl 1 rfl) ?_
      refine lv_imul hx hb dX11_lay_54 ?_
      refine lv_topi (fun x14 e14 => ?_)
      replace hf := nm_at hf e14
      refine lv_iload hx hb dX11_lay_55 (lv_at hl 5 rfl) ?_
      refine lv_iadd hx hb dX11_lay_57 ?_
      refine lv_topi (fun x15 e15 => ?_)
      replace hf := nm_at hf e15
      have b16 := bd_in hf
      replace hf := bd_k hf
      refine va_iald hx hb hK hP 3 2 rfl rfl b16 dX11_lay_58 ?_
      refine lv_topi (fun x17 e17 => ?_)
      replace hf := nm_at hf e17
      obtain ⟨o18, e18, hf⟩ := ob_some hf
      refine kSi (As := [.int x13, .int x17]) (rest := []) ⟨hx, hb, hml, hown, hts⟩ (mX11_sum l dC dI H.size base x13 x17 o18 e18) (va_cwS 2 hts (gTS q367 q368 q5 q369) rfl rfl rfl (by decide +kernel) ⟨Nat.le_of_ble_eq_true rfl, Nat.le_of_ble_eq_true rfl⟩) hK hP hD hS hA hE hAB [] [0, 1, 2, 3] [] (wr := (wX11_lay h0 h1 h2 h3 kc1 kc2 kc3 V0 c1 c2 c3)) rfl rfl (by decide) (by decide) (by decide) rfl rfl hl.1 rfl (Nat.le_of_ble_eq_true rfl) dX11_lay_59 ⟨Nat.zero_le _, Nat.zero_le _⟩ (fun r18 u18 H locs hw18 hP hD hS => ?_)
      obtain ⟨hw181, hw182⟩ := hw18
      subst hw181 hw182
      have hP : va_P (dC, dI) vwCl (wX11_lay h0 h1 h2 h3 kc1 kc2 kc3 V0 c1 c2 c3) H := hP.sub [0, 1, 2, 3] rfl
      have hD : va_D A (wX11_lay h0 h1 h2 h3 kc1 kc2 kc3 V0 c1 c2 c3) := hD.sub [0, 1, 2, 3] (by decide) rfl
      refine lv_istore (lv' := [(6, .int o18.1), (0, .ref h0), (1, .int y1), (2, .int y2), (3, .int y3), (4, .int y4), (5, .int y5)]) hx hb dX11_lay_62 hl (by decide) rfl (fun ls hl => ?_)
      refine lv_iload hx hb dX11_lay_64 (lv_at hl 0 rfl) ?_
      refine lv_iload hx hb dX11_lay_66 (lv_at hl 5 rfl) ?_
      refine lv_icmp_ge (tgt := 76) hx hb dX11_lay_68 (by decide) (fun cq19 => ?_) (fun cq19 => ?_)
      · replace hf := if_at hf cq19
        refine lv_iload hx hb dX11_lay_76 (lv_at hl 5 rfl) ?_
        exact (hG _ _ _ _ _).mp (J78 k9 hk9 k22 hk22 y1 y2 y3 y5 y4 c1 c3 H locs ls (hP.sub [0, 1, 2, 3] rfl) (hD.sub [0, 1, 2, 3] (by decide) rfl) hS (lv_sub hl [1, 2, 3, 4, 6] rfl) hf)
      · replace hf := if_no hf cq19
        refine lv_iload hx hb dX11_lay_71 (lv_at hl 0 rfl) ?_
        refine lv_goto (tgt := 78) hx hb dX11_lay_73 (by decide) ?_
        exact (hG _ _ _ _ _).mp (J78 k9 hk9 k22 hk22 y1 y2 y3 y5 o18.1 c1 c3 H locs ls (hP.sub [0, 1, 2, 3] rfl) (hD.sub [0, 1, 2, 3] (by decide) rfl) hS (lv_sub hl [1, 2, 3, 4, 6] rfl) hf)
  have L22 : ∀ (k9 : Int32 → Int32 → Int32 → (Nat → Int32) → (Nat → Int32) → Option ((Nat → Int32) × (Nat → Int32))) (hk9 : ∀ (y1 : Int32) (y2 : Int32) (y3 : Int32) (c1 : (Nat → Int32)) (c3 : (Nat → Int32)) (H : Heap) (locs : List Loc) (ls : Array Slot), va_P (dC, dI) vwCl (wX11_lay h0 h1 h2 h3 kc1 kc2 kc3 V0 c1 c2 c3) H → va_D A (wX11_lay h0 h1 h2 h3 kc1 kc2 kc3 V0 c1 c2 c3) → va_S A s.heap H locs → lv_has ls 7 [(0, .ref h0), (1, .int y1), (2, .int y2), (3, .int y3)] → k9 y1 y2 y3 c1 c3 = some o → G 0 0 H locs (F0 m 9 ls [])) (n : Nat), ∀ (y1 : Int32) (y2 : Int32) (y3 : Int32) (y4 : Int32) (y5 : Int32) (c1 : (Nat → Int32)) (c3 : (Nat → Int32)) (H : Heap) (locs : List Loc) (ls : Array Slot), va_P (dC, dI) vwCl (wX11_lay h0 h1 h2 h3 kc1 kc2 kc3 V0 c1 c2 c3) H → va_D A (wX11_lay h0 h1 h2 h3 kc1 kc2 kc3 V0 c1 c2 c3) → va_S A s.heap H locs → lv_has ls 7 [(0, .ref h0), (1, .int y1), (2, .int y2), (3, .int y3), (4, .int y4), (5, .int y5)] → fX11_lay_l22 c2 k9 n y1 y2 y3 y4 y5 c1 c3 = some o → G 0 0 H locs (F0 m 22 ls []) := by
    intro k9 hk9 n
    induction n with
    | zero => intro y1 y2 y3 y4 y5 c1 c3 H locs ls _ _ _ _ hf; cases hf
    | succ n ih => exact B22 k9 hk9 _ ih
  have B9 : ∀ (k9 : Int32 → Int32 → Int32 → (Nat → Int32) → (Nat → Int32) → Option ((Nat → Int32) × (Nat → Int32))) (hk9 : ∀ (y1 : Int32) (y2 : Int32) (y3 : Int32) (c1 : (Nat → Int32)) (c3 : (Nat → Int32)) (H : Heap) (locs : List Loc) (ls : Array Slot), va_P (dC, dI) vwCl (wX11_lay h0 h1 h2 h3 kc1 kc2 kc3 V0 c1 c2 c3) H → va_D A (wX11_lay h0 h1 h2 h3 kc1 kc2 kc3 V0 c1 c2 c3) → va_S A s.heap H locs → lv_has ls 7 [(0, .ref h0), (1, .int y1), (2, .int y2), (3, .int y3)] → k9 y1 y2 y3 c1 c3 = some o → G 0 0 H locs (F0 m 9 ls [])), ∀ (y1 : Int32) (y2 : Int32) (y3 : Int32) (c1 : (Nat → Int32)) (c3 : (Nat → Int32)) (H : Heap) (locs : List Loc) (ls : Array Slot), va_P (dC, dI) vwCl (wX11_lay h0 h1 h2 h3 kc1 kc2 kc3 V0 c1 c2 c3) H → va_D A (wX11_lay h0 h1 h2 h3 kc1 kc2 kc3 V0 c1 c2 c3) → va_S A s.heap H locs → lv_has ls 7 [(0, .ref h0), (1, .int y1), (2, .int y2), (3, .int y3)] → fX11_lay_b9 c2  k9 y1 y2 y3 c1 c3 = some o → G 0 0 H locs (F0 m 9 ls []) := by
    intro  k9 hk9 y1 y2 y3 c1 c3 H locs ls hP hD hS hl hf
    refine (hG _ _ _ _ _).mpr ?_
    unfold fX11_lay_b9 at hf
    refine lv_iload_n hx hb dX11_lay_9 rfl (lv_at hl 3 rfl) ?_
    refine lv_bipush (v := 16) hx hb dX11_lay_10 (by decide +kernel) ?_
    refine lv_icmp_ge (tgt := 107) hx hb dX11_lay_12 (by decide) (fun cq20 => ?_) (fun cq20 => ?_)
    · replace hf := if_at hf cq20
      have hf1 := Option.some.inj hf
      subst hf1
      have hP9 := hP.sub (ws' := (wX11_lay h0 h1 h2 h3 kc1 kc2 kc3 V0 c1 c2 c3)) [0, 1, 2, 3] rfl
      have hD9 := hD.sub (ws' := (wX11_lay h0 h1 h2 h3 kc1 kc2 kc3 V0 c1 c2 c3)) [0, 1, 2, 3] (by decide) rfl
      exact W.vret hx hb hr (fun t ht hW => ⟨⟨(c1, c3), rfl, rfl, by rw [ht]; exact hP9, va_K.moved hW.alike hK, hD9⟩, hS.F ht⟩) hS.2.2 dX11_lay_107
    · replace hf := if_no hf cq20
      refine lv_ldc (v := 2000000) hx hb hown w2_ dX11_lay_15 ?_
      refine lv_istore (lv' := [(4, .int 2000000), (0, .ref h0), (1, .int y1), (2, .int y2), (3, .int y3)]) hx hb dX11_lay_17 hl (by decide) rfl (fun ls hl => ?_)
      refine lv_iconst (v := 0) hx hb dX11_lay_19 (by decide +kernel) ?_
      refine lv_istore (lv' := [(5, .int 0), (4, .int 2000000), (0, .ref h0), (1, .int y1), (2, .int y2), (3, .int y3)]) hx hb dX11_lay_20 hl (by decide) rfl (fun ls hl => ?_)
      exact (hG _ _ _ _ _).mp (L22 k9 hk9 FU y1 y2 y3 2000000 0 c1 c3 H locs ls (hP.sub [0, 1, 2, 3] rfl) (hD.sub [0, 1, 2, 3] (by decide) rfl) hS (lv_sub hl [2, 3, 4, 5, 1, 0] rfl) hf)
  have L9 : ∀ (n : Nat), ∀ (y1 : Int32) (y2 : Int32) (y3 : Int32) (c1 : (Nat → Int32)) (c3 : (Nat → Int32)) (H : Heap) (locs : List Loc) (ls : Array Slot), va_P (dC, dI) vwCl (wX11_lay h0 h1 h2 h3 kc1 kc2 kc3 V0 c1 c2 c3) H → va_D A (wX11_lay h0 h1 h2 h3 kc1 kc2 kc3 V0 c1 c2 c3) → va_S A s.heap H locs → lv_has ls 7 [(0, .ref h0), (1, .int y1), (2, .int y2), (3, .int y3)] → fX11_lay_l9 c2  n y1 y2 y3 c1 c3 = some o → G 0 0 H locs (F0 m 9 ls []) := by
    intro  n
    induction n with
    | zero => intro y1 y2 y3 c1 c3 H locs ls _ _ _ _ hf; cases hf
    | succ n ih => exact B9  _ ih
  refine (hG _ _ _ _ _).mpr ?_
  obtain ⟨H, hH⟩ : ∃ H, H = s.heap := ⟨_, rfl⟩
  have hS : va_S A s.heap H [] := by rw [hH]; exact hS
  rw [← hH] at hP ⊢
  generalize ([] : List Loc) = locs at hS ⊢
  unfold fX11_lay at hf
  refine lv_aload_n hx hb dX11_lay_0 rfl (lv_at hl 0 rfl) ?_
  refine va_get (D := (dC, dI)) (ci := 11) (v := .ref h1) (C := RX11) (T := TX11) (N := 71) hx hb hts inlX11 hown hK hP 0 rfl rfl 14 (by decide) w3_ (fun _ h9 => h9) rfl dX11_lay_1 ?_
  refine lv_iload_n hx hb dX11_lay_4 rfl (lv_at hl 1 rfl) ?_
  refine lv_iload_n hx hb dX11_lay_5 rfl (lv_at hl 2 rfl) ?_
  have b21 := bd_in hf
  replace hf := bd_k hf
  obtain ⟨c21x, e21⟩ : ∃ y, y = upd c1 a0.toNatClampNeg a1 := ⟨_, rfl⟩
  replace hf := nm_at hf e21
  refine va_iast hx hb hK hP hD hS 1 0 rfl rfl b21 dX11_lay_6 (fun H locs hP hD hS => ?_)
  have hP : va_P (dC, dI) vwCl (wX11_lay h0 h1 h2 h3 kc1 kc2 kc3 V0 c21x c2 c3) H := by rw [e21]; exact hP
  have hD : va_D A (wX11_lay h0 h1 h2 h3 kc1 kc2 kc3 V0 c21x c2 c3) := by rw [e21]; exact hD
  refine lv_iconst (v := 0) hx hb dX11_lay_7 (by decide +kernel) ?_
  refine lv_istore_n (lv' := [(3, .int 0), (0, .ref h0), (1, .int a0), (2, .int a1)]) hx hb dX11_lay_8 rfl hl (by decide) rfl (fun ls hl => ?_)
  exact (hG _ _ _ _ _).mp (L9 FU a0 a1 0 c21x c3 H locs ls (hP.sub [0, 1, 2, 3] rfl) (hD.sub [0, 1, 2, 3] (by decide) rfl) hS (lv_sub hl [1, 2, 3, 0] rfl) hf)
abbrev wX11_layWord (h0 h1 h2 h3 h4 h5 h6 h7 : Nat) (kc1 kc2 kc3 kc4 kc5 kc6 kc7 : ClassId) (V0 : Nat → Value) (v0_rules : Int32) (v0_size : Int32) (v0_known : Int32) (c1 : Nat → Int32) (c2 : Nat → Int32) (c3 : Nat → Int32) (c4 : Nat → Int32) (c5 : Nat → Int32) (c6 : Nat → Int32) (c7 : Nat → Int32) : va_W := [(h0, .inr (11, [V0 0, .int v0_rules, .ref h3, V0 3, .ref h1, .ref h4, .int v0_size, .ref h6, .int v0_known, .ref h2, V0 10, V0 11, V0 12, .ref h5, .ref h7, V0 15, V0 16, V0 17, V0 18, V0 19, V0 20, V0 21, V0 22, V0 23, V0 24, V0 25, V0 26, V0 27, V0 28, V0 29, V0 30, V0 31, V0 32, V0 33, V0 34, V0 35, V0 36, V0 37, V0 38, V0 39, V0 40, V0 41, V0 42, V0 43, V0 44, V0 45, V0 46, V0 47, V0 48, V0 49, V0 50, V0 51, V0 52, V0 53, V0 54, V0 55, V0 56, V0 57, V0 58, V0 59, V0 60, V0 61, V0 62, V0 63, V0 64, V0 65, V0 66, V0 67, V0 68, V0 69, V0 70])), (h1, .inl (kc1, 3072, .inl c1)), (h2, .inl (kc2, 3072, .inl c2)), (h3, .inl (kc3, 288, .inl c3)), (h4, .inl (kc4, 16, .inl c4)), (h5, .inl (kc5, 64128, .inl c5)), (h6, .inl (kc6, 30, .inl c6)), (h7, .inl (kc7, 4008, .inl c7))]
set_option maxHeartbeats 4000000 in
set_option maxRecDepth 100000 in
theorem mX11_layWord (l : Launch) (dC : Nat → ClassId) (dI : Nat → Nat → Nat) (h0 h1 h2 h3 h4 h5 h6 h7 : Nat) (kc1 kc2 kc3 kc4 kc5 kc6 kc7 : ClassId) (sz : Nat) (base : Nat × Nat × Nat) (v0_rules : Int32) (v0_size : Int32) (v0_known : Int32) (c1 : Nat → Int32) (c2 : Nat → Int32) (c3 : Nat → Int32) (c4 : Nat → Int32) (c5 : Nat → Int32) (c6 : Nat → Int32) (c7 : Nat → Int32) (V0 : Nat → Value) (o : Int32 × (Nat → Int32) × (Nat → Int32) × (Nat → Int32)) (hf : fX11_layWord v0_rules v0_size v0_known c1 c2 c3 c4 c5 c6 c7 = some o) : Met l yX11_layWord (.code yX11_layWord cX11_layWord 2 none :: wsL_law) ({ frames := 3, cells := 0, slots := 0, locals := 75 }) (cPre (dC, dI) vwCl [.ref h0] sz base (wX11_layWord h0 h1 h2 h3 h4 h5 h6 h7 kc1 kc2 kc3 kc4 kc5 kc6 kc7 V0 v0_rules v0_size v0_known c1 c2 c3 c4 c5 c6 c7) [(kc1, .boolean), (kc2, .int), (kc3, .int), (kc4, .boolean), (kc5, .int), (kc6, .int), (kc7, .int)]) (va_Qv (fun u => u = o) (fun (u : Int32 × (Nat → Int32) × (Nat → Int32) × (Nat → Int32)) t => cPost (dC, dI) vwCl (va_A (wX11_layWord h0 h1 h2 h3 h4 h5 h6 h7 kc1 kc2 kc3 kc4 kc5 kc6 kc7 V0 v0_rules v0_size v0_known c1 c2 c3 c4 c5 c6 c7) sz) (wX11_layWord h0 h1 h2 h3 h4 h5 h6 h7 kc1 kc2 kc3 kc4 kc5 kc6 kc7 V0 v0_rules v0_size u.1 c1 u.2.1 c3 c4 u.2.2.1 c6 u.2.2.2) [(kc1, .boolean), (kc2, .int), (kc3, .int), (kc4, .boolean), (kc5, .int), (kc6, .int), (kc7, .int)] t) (va_A (wX11_layWord h0 h1 h2 h3 h4 h5 h6 h7 kc1 kc2 kc3 kc4 kc5 kc6 kc7 V0 v0_rules v0_size v0_known c1 c2 c3 c4 c5 c6 c7) sz)) 0 0 (va_A (wX11_layWord h0 h1 h2 h3 h4 h5 h6 h7 kc1 kc2 kc3 kc4 kc5 kc6 kc7 V0 v0_rules v0_size v0_known c1 c2 c3 c4 c5 c6 c7) sz) := by
  refine Met.ofW (cc := cX11_layWord) (maxL := 2) (ret := none) (by decide) rfl ?_
  intro p e s m args below meth c s₁ B hml hv
  obtain ⟨rfl, hsz, hP, hK, hD0, hE⟩ := hv
  have hx := B.exec
  have hb := B.bytes
  have hr := B.returns
  have hts : ∀ w ∈ wsL_law, _ := fun w h => atoms_spec (ws := .code yX11_layWord cX11_layWord 2 none :: wsL_law) B.pre w (List.mem_cons_of_mem _ h)
  have hown : s.vm.findClass RX11 = some m.cls := findClass_of_methodNamed B.named
  have hlocks := B.notSynchronized
  have w0_ := hts _ q216
  have w1_ := hts _ q82
  have w2_ := hts _ q87
  have w3_ := hts _ q81
  have w4_ := hts _ q354
  subst hsz
  have hD := hD0.self (sz := s.heap.size)
  generalize hAe : va_A (wX11_layWord h0 h1 h2 h3 h4 h5 h6 h7 kc1 kc2 kc3 kc4 kc5 kc6 kc7 V0 v0_rules v0_size v0_known c1 c2 c3 c4 c5 c6 c7) s.heap.size = A at hD ⊢
  have hA : ∀ q : Nat, s.heap.size ≤ q → A q := fun q h => by rw [← hAe]; exact Or.inr h
  have hAB : ∀ q : Nat, A q → base.1 ≤ q := fun q h => by rw [← hAe] at h; exact h.elim (fun ⟨k, e, hk⟩ => hD0.2 k _ hk) (fun hk => Nat.le_trans hE.1 hk)
  have hS : va_S A s.heap s.heap [] := va_S.rf
  have hl := lv_entry ([.ref h0]) (n := 2) (Nat.le_of_ble_eq_true rfl)
  rw [lg_entry_eq]
  generalize (lg_sl ([.ref h0]) ++ List.replicate (2 - (lg_sl ([.ref h0])).length) Slot.unset).toArray = ls at hl ⊢
  have hl : lv_has ls 2 [(0, .ref h0)] := hl
  have hP : va_P (dC, dI) vwCl (wX11_layWord h0 h1 h2 h3 h4 h5 h6 h7 kc1 kc2 kc3 kc4 kc5 kc6 kc7 V0 v0_rules v0_size v0_known c1 c2 c3 c4 c5 c6 c7) s.heap := hP
  refine gl_intro (fun G hG => ?_)
  have B41 : ∀ (k41 : Int32 → Int32 → (Nat → Int32) → (Nat → Int32) → (Nat → Int32) → Option (Int32 × (Nat → Int32) × (Nat → Int32) × (Nat → Int32))) (hk41 : ∀ (y1 : Int32) (v0_known : Int32) (c2 : (Nat → Int32)) (c5 : (Nat → Int32)) (c7 : (Nat → Int32)) (H : Heap) (locs : List Loc) (ls : Array Slot), va_P (dC, dI) vwCl (wX11_layWord h0 h1 h2 h3 h4 h5 h6 h7 kc1 kc2 kc3 kc4 kc5 kc6 kc7 V0 v0_rules v0_size v0_known c1 c2 c3 c4 c5 c6 c7) H → va_D A (wX11_layWord h0 h1 h2 h3 h4 h5 h6 h7 kc1 kc2 kc3 kc4 kc5 kc6 kc7 V0 v0_rules v0_size v0_known c1 c2 c3 c4 c5 c6 c7) → va_S A s.heap H locs → lv_has ls 2 [(0, .ref h0), (1, .int y1)] → k41 y1 v0_known c2 c5 c7 = some o → G 0 0 H locs (F0 m 41 ls [])), ∀ (y1 : Int32) (v0_known : Int32) (c2 : (Nat → Int32)) (c5 : (Nat → Int32)) (c7 : (Nat → Int32)) (H : Heap) (locs : List Loc) (ls : Array Slot), va_P (dC, dI) vwCl (wX11_layWord h0 h1 h2 h3 h4 h5 h6 h7 kc1 kc2 kc3 kc4 kc5 kc6 kc7 V0 v0_rules v0_size v0_known c1 c2 c3 c4 c5 c6 c7) H → va_D A (wX11_layWord h0 h1 h2 h3 h4 h5 h6 h7 kc1 kc2 kc3 kc4 kc5 kc6 kc7 V0 v0_rules v0_size v0_known c1 c2 c3 c4 c5 c6 c7) → va_S A s.heap H locs → lv_has ls 2 [(0, .ref h0), (1, .int y1)] → fX11_layWord_b41 v0_rules v0_size c1 c3 c4 c6  k41 y1 v0_known c2 c5 c7 = some o → G 0 0 H locs (F0 m 41 ls []) := by
    intro  k41 hk41 y1 v0_known c2 c5 c7 H locs ls hP hD hS hl hf
    refine (hG _ _ _ _ _).mpr ?_
    unfold fX11_layWord_b41 at hf
    refine lv_iload_n hx hb dX11_layWord_41 rfl (lv_at hl 1 rfl) ?_
    refine lv_aload_n hx hb dX11_layWord_42 rfl (lv_at hl 0 rfl) ?_
    refine va_get (D := (dC, dI)) (ci := 11) (v := .int v0_size) (C := RX11) (T := TX11) (N := 71) hx hb hts inlX11 hown hK hP 0 rfl rfl 6 (by decide) w0_ (fun _ h9 => h9) rfl dX11_layWord_43 ?_
    refine lv_icmp_ge (tgt := 66) hx hb dX11_layWord_46 (by decide) (fun cq1 => ?_) (fun cq1 => ?_)
    · replace hf := if_at hf cq1
      have hf1 := Option.some.inj hf
      subst hf1
      have hP9 := hP.sub (ws' := (wX11_layWord h0 h1 h2 h3 h4 h5 h6 h7 kc1 kc2 kc3 kc4 kc5 kc6 kc7 V0 v0_rules v0_size v0_known c1 c2 c3 c4 c5 c6 c7)) [0, 1, 2, 3, 4, 5, 6, 7] rfl
      have hD9 := hD.sub (ws' := (wX11_layWord h0 h1 h2 h3 h4 h5 h6 h7 kc1 kc2 kc3 kc4 kc5 kc6 kc7 V0 v0_rules v0_size v0_known c1 c2 c3 c4 c5 c6 c7)) [0, 1, 2, 3, 4, 5, 6, 7] (by decide) rfl
      exact W.vret hx hb hr (fun t ht hW => ⟨⟨(v0_known, c2, c5, c7), rfl, rfl, by rw [ht]; exact hP9, va_K.moved hW.alike hK, hD9⟩, hS.F ht⟩) hS.2.2 dX11_layWord_66
    · replace hf := if_no hf cq1
      refine lv_aload_n hx hb dX11_layWord_49 rfl (lv_at hl 0 rfl) ?_
      refine lv_iload_n hx hb dX11_layWord_50 rfl (lv_at hl 1 rfl) ?_
      refine lv_aload_n hx hb dX11_layWord_51 rfl (lv_at hl 0 rfl) ?_
      refine va_get (D := (dC, dI)) (ci := 11) (v := .ref h6) (C := RX11) (T := TX11) (N := 71) hx hb hts inlX11 hown hK hP 0 rfl rfl 7 (by decide) w1_ (fun _ h9 => h9) rfl dX11_layWord_52 ?_
      refine lv_iload_n hx hb dX11_layWord_55 rfl (lv_at hl 1 rfl) ?_
      have b2 := bd_in hf
      replace hf := bd_k hf
      refine va_iald hx hb hK hP 6 5 rfl rfl b2 dX11_layWord_56 ?_
      refine lv_topi (fun x3 e3 => ?_)
      replace hf := nm_at hf e3
      obtain ⟨o4, e4, hf⟩ := ob_some hf
      refine kVv (As := [.int y1, .int x3]) (rest := []) ⟨hx, hb, hml, hown, hts⟩ (mX11_lay l dC dI h0 h7 h2 h5 kc7 kc2 kc5 H.size base y1 x3 c7 c2 c5 (fun k => match k with | 1 => .int v0_rules | 2 => .ref h3 | 4 => .ref h1 | 5 => .ref h4 | 6 => .int v0_size | 7 => .ref h6 | 8 => .int v0_known | k => V0 k) o4 e4) (cwV 2 hts (gTV q371 q372 q373 q5 q374) rfl rfl rfl (by decide +kernel) ⟨Nat.le_of_ble_eq_true rfl, Nat.le_of_ble_eq_true rfl⟩) hK hP hD hS hA hE hAB [0, 7, 2, 5] [1, 3, 4, 6] [6, 1, 4] (wr := [(h1, .inl (kc1, 3072, .inl c1)), (h3, .inl (kc3, 288, .inl c3)), (h4, .inl (kc4, 16, .inl c4)), (h6, .inl (kc6, 30, .inl c6))]) rfl rfl (by decide) (by decide) (by decide) rfl (ci := 11) (q0 := 0) rfl rfl rfl rfl hl.1 rfl (Nat.le_of_ble_eq_true rfl) dX11_layWord_57 ⟨Nat.zero_le _, Nat.zero_le _⟩ (fun u4 H locs hw4 hP hD hS => ?_)
      have hw41 : o4 = u4 := Eq.symm hw4
      subst hw41
      have hP : va_P (dC, dI) vwCl (wX11_layWord h0 h1 h2 h3 h4 h5 h6 h7 kc1 kc2 kc3 kc4 kc5 kc6 kc7 V0 v0_rules v0_size v0_known c1 c2 c3 c4 o4.2 c6 o4.1) H := hP.sub [4, 0, 6, 1, 2, 7, 3, 5] rfl
      have hD : va_D A (wX11_layWord h0 h1 h2 h3 h4 h5 h6 h7 kc1 kc2 kc3 kc4 kc5 kc6 kc7 V0 v0_rules v0_size v0_known c1 c2 c3 c4 o4.2 c6 o4.1) := hD.sub [4, 0, 6, 1, 2, 7, 3, 5] (by decide) rfl
      obtain ⟨x5, e5⟩ : ∃ y : Int32, y = y1 + 1 := ⟨_, rfl⟩
      replace hf := nm_at hf e5
      refine lv_iinc (v := x5) (lv' := [(1, .int x5), (0, .ref h0)]) hx hb dX11_layWord_60 hl (k := 1) rfl (by rw [e5]; rfl) (by decide) rfl (fun ls hl => ?_)
      refine lv_goto (tgt := 41) hx hb dX11_layWord_63 (by decide) ?_
      exact (hG _ _ _ _ _).mp (hk41 x5 v0_known c2 o4.2 o4.1 H locs ls (hP.sub [0, 1, 2, 3, 4, 5, 6, 7] rfl) (hD.sub [0, 1, 2, 3, 4, 5, 6, 7] (by decide) rfl) hS (lv_sub hl [1, 0] rfl) hf)
  have L41 : ∀ (n : Nat), ∀ (y1 : Int32) (v0_known : Int32) (c2 : (Nat → Int32)) (c5 : (Nat → Int32)) (c7 : (Nat → Int32)) (H : Heap) (locs : List Loc) (ls : Array Slot), va_P (dC, dI) vwCl (wX11_layWord h0 h1 h2 h3 h4 h5 h6 h7 kc1 kc2 kc3 kc4 kc5 kc6 kc7 V0 v0_rules v0_size v0_known c1 c2 c3 c4 c5 c6 c7) H → va_D A (wX11_layWord h0 h1 h2 h3 h4 h5 h6 h7 kc1 kc2 kc3 kc4 kc5 kc6 kc7 V0 v0_rules v0_size v0_known c1 c2 c3 c4 c5 c6 c7) → va_S A s.heap H locs → lv_has ls 2 [(0, .ref h0), (1, .int y1)] → fX11_layWord_l41 v0_rules v0_size c1 c3 c4 c6  n y1 v0_known c2 c5 c7 = some o → G 0 0 H locs (F0 m 41 ls []) := by
    intro  n
    induction n with
    | zero => intro y1 v0_known c2 c5 c7 H locs ls _ _ _ _ hf; cases hf
    | succ n ih => exact B41  _ ih
  have J32 : ∀ (k6 : Int32 → Int32 → (Nat → Int32) → (Nat → Int32) → (Nat → Int32) → Option (Int32 × (Nat → Int32) × (Nat → Int32) × (Nat → Int32))) (hk6 : ∀ (y1 : Int32) (v0_known : Int32) (c2 : (Nat → Int32)) (c5 : (Nat → Int32)) (c7 : (Nat → Int32)) (H : Heap) (locs : List Loc) (ls : Array Slot), va_P (dC, dI) vwCl (wX11_layWord h0 h1 h2 h3 h4 h5 h6 h7 kc1 kc2 kc3 kc4 kc5 kc6 kc7 V0 v0_rules v0_size v0_known c1 c2 c3 c4 c5 c6 c7) H → va_D A (wX11_layWord h0 h1 h2 h3 h4 h5 h6 h7 kc1 kc2 kc3 kc4 kc5 kc6 kc7 V0 v0_rules v0_size v0_known c1 c2 c3 c4 c5 c6 c7) → va_S A s.heap H locs → lv_has ls 2 [(0, .ref h0), (1, .int y1)] → k6 y1 v0_known c2 c5 c7 = some o → G 0 0 H locs (F0 m 6 ls [])), ∀ (y1 : Int32) (z0 : Int32) (z1 : Int32) (v0_known : Int32) (c2 : (Nat → Int32)) (c5 : (Nat → Int32)) (c7 : (Nat → Int32)) (H : Heap) (locs : List Loc) (ls : Array Slot), va_P (dC, dI) vwCl (wX11_layWord h0 h1 h2 h3 h4 h5 h6 h7 kc1 kc2 kc3 kc4 kc5 kc6 kc7 V0 v0_rules v0_size v0_known c1 c2 c3 c4 c5 c6 c7) H → va_D A (wX11_layWord h0 h1 h2 h3 h4 h5 h6 h7 kc1 kc2 kc3 kc4 kc5 kc6 kc7 V0 v0_rules v0_size v0_known c1 c2 c3 c4 c5 c6 c7) → va_S A s.heap H locs → lv_has ls 2 [(0, .ref h0), (1, .int y1)] → fX11_layWord_p32 v0_rules v0_size c1 c3 c4 c6 k6 y1 z0 z1 v0_known c2 c5 c7 = some o → G 0 0 H locs (F0 m 32 ls [.int z0, .int z1, .ref h5]) := by
    intro k6 hk6 y1 z0 z1 v0_known c2 c5 c7 H locs ls hP hD hS hl hf
    refine (hG _ _ _ _ _).mpr ?_
    unfold fX11_layWord_p32 at hf
    have b6 := bd_in hf
    replace hf := bd_k hf
    obtain ⟨c6x, e6⟩ : ∃ y, y = upd c5 z1.toNatClampNeg z0 := ⟨_, rfl⟩
    replace hf := nm_at hf e6
    refine va_iast hx hb hK hP hD hS 5 4 rfl rfl b6 dX11_layWord_32 (fun H locs hP hD hS => ?_)
    have hP : va_P (dC, dI) vwCl (wX11_layWord h0 h1 h2 h3 h4 h5 h6 h7 kc1 kc2 kc3 kc4 kc5 kc6 kc7 V0 v0_rules v0_size v0_known c1 c2 c3 c4 c6x c6 c7) H := by rw [e6]; exact hP
    have hD : va_D A (wX11_layWord h0 h1 h2 h3 h4 h5 h6 h7 kc1 kc2 kc3 kc4 kc5 kc6 kc7 V0 v0_rules v0_size v0_known c1 c2 c3 c4 c6x c6 c7) := by rw [e6]; exact hD
    obtain ⟨x7, e7⟩ : ∃ y : Int32, y = y1 + 1 := ⟨_, rfl⟩
    replace hf := nm_at hf e7
    refine lv_iinc (v := x7) (lv' := [(1, .int x7), (0, .ref h0)]) hx hb dX11_layWord_33 hl (k := 1) rfl (by rw [e7]; rfl) (by decide) rfl (fun ls hl => ?_)
    refine lv_goto (tgt := 6) hx hb dX11_layWord_36 (by decide) ?_
    exact (hG _ _ _ _ _).mp (hk6 x7 v0_known c2 c6x c7 H locs ls (hP.sub [0, 1, 2, 3, 4, 5, 6, 7] rfl) (hD.sub [0, 1, 2, 3, 4, 5, 6, 7] (by decide) rfl) hS (lv_sub hl [1, 0] rfl) hf)
  have B6 : ∀ (k6 : Int32 → Int32 → (Nat → Int32) → (Nat → Int32) → (Nat → Int32) → Option (Int32 × (Nat → Int32) × (Nat → Int32) × (Nat → Int32))) (hk6 : ∀ (y1 : Int32) (v0_known : Int32) (c2 : (Nat → Int32)) (c5 : (Nat → Int32)) (c7 : (Nat → Int32)) (H : Heap) (locs : List Loc) (ls : Array Slot), va_P (dC, dI) vwCl (wX11_layWord h0 h1 h2 h3 h4 h5 h6 h7 kc1 kc2 kc3 kc4 kc5 kc6 kc7 V0 v0_rules v0_size v0_known c1 c2 c3 c4 c5 c6 c7) H → va_D A (wX11_layWord h0 h1 h2 h3 h4 h5 h6 h7 kc1 kc2 kc3 kc4 kc5 kc6 kc7 V0 v0_rules v0_size v0_known c1 c2 c3 c4 c5 c6 c7) → va_S A s.heap H locs → lv_has ls 2 [(0, .ref h0), (1, .int y1)] → k6 y1 v0_known c2 c5 c7 = some o → G 0 0 H locs (F0 m 6 ls [])), ∀ (y1 : Int32) (v0_known : Int32) (c2 : (Nat → Int32)) (c5 : (Nat → Int32)) (c7 : (Nat → Int32)) (H : Heap) (locs : List Loc) (ls : Array Slot), va_P (dC, dI) vwCl (wX11_layWord h0 h1 h2 h3 h4 h5 h6 h7 kc1 kc2 kc3 kc4 kc5 kc6 kc7 V0 v0_rules v0_size v0_known c1 c2 c3 c4 c5 c6 c7) H → va_D A (wX11_layWord h0 h1 h2 h3 h4 h5 h6 h7 kc1 kc2 kc3 kc4 kc5 kc6 kc7 V0 v0_rules v0_size v0_known c1 c2 c3 c4 c5 c6 c7) → va_S A s.heap H locs → lv_has ls 2 [(0, .ref h0), (1, .int y1)] → fX11_layWord_b6 v0_rules v0_size c1 c3 c4 c6  k6 y1 v0_known c2 c5 c7 = some o → G 0 0 H locs (F0 m 6 ls []) := by
    intro  k6 hk6 y1 v0_known c2 c5 c7 H locs ls hP hD hS hl hf
    refine (hG _ _ _ _ _).mpr ?_
    unfold fX11_layWord_b6 at hf
    refine lv_iload_n hx hb dX11_layWord_6 rfl (lv_at hl 1 rfl) ?_
    refine lv_bipush (v := 16) hx hb dX11_layWord_7 (by decide +kernel) ?_
    refine lv_icmp_ge (tgt := 39) hx hb dX11_layWord_9 (by decide) (fun cq8 => ?_) (fun cq8 => ?_)
    · replace hf := if_at hf cq8
      refine lv_iconst (v := 0) hx hb dX11_layWord_39 (by decide +kernel) ?_
      refine lv_istore_n (lv' := [(1, .int 0), (0, .ref h0)]) hx hb dX11_layWord_40 rfl hl (by decide) rfl (fun ls hl => ?_)
      exact (hG _ _ _ _ _).mp (L41 FU 0 v0_known c2 c5 c7 H locs ls (hP.sub [0, 1, 2, 3, 4, 5, 6, 7] rfl) (hD.sub [0, 1, 2, 3, 4, 5, 6, 7] (by decide) rfl) hS (lv_sub hl [1, 0] rfl) hf)
    · replace hf := if_no hf cq8
      refine lv_aload_n hx hb dX11_layWord_12 rfl (lv_at hl 0 rfl) ?_
      refine va_get (D := (dC, dI)) (ci := 11) (v := .ref h5) (C := RX11) (T := TX11) (N := 71) hx hb hts inlX11 hown hK hP 0 rfl rfl 13 (by decide) w2_ (fun _ h9 => h9) rfl dX11_layWord_13 ?_
      refine lv_iload_n hx hb dX11_layWord_16 rfl (lv_at hl 1 rfl) ?_
      refine lv_aload_n hx hb dX11_layWord_17 rfl (lv_at hl 0 rfl) ?_
      refine va_get (D := (dC, dI)) (ci := 11) (v := .ref h4) (C := RX11) (T := TX11) (N := 71) hx hb hts inlX11 hown hK hP 0 rfl rfl 5 (by decide) w3_ (fun _ h9 => h9) rfl dX11_layWord_18 ?_
      refine lv_iload_n hx hb dX11_layWord_21 rfl (lv_at hl 1 rfl) ?_
      have b9 := bd_in hf
      replace hf := bd_k hf
      refine va_zald hx hb hK hP 4 3 rfl rfl b9 dX11_layWord_22 ?_
      refine lv_topi (fun x10 e10 => ?_)
      replace hf := nm_at hf e10
      refine lv_if_eq (tgt := 30) hx hb dX11_layWord_23 (by decide) (fun cq11 => ?_) (fun cq11 => ?_)
      · replace hf := if_at hf cq11
        refine lv_ldc (v := 2000000) hx hb hown w4_ dX11_layWord_30 ?_
        exact (hG _ _ _ _ _).mp (J32 k6 hk6 y1 2000000 y1 v0_known c2 c5 c7 H locs ls (hP.sub [0, 1, 2, 3, 4, 5, 6, 7] rfl) (hD.sub [0, 1, 2, 3, 4, 5, 6, 7] (by decide) rfl) hS (lv_sub hl [0, 1] rfl) hf)
      · replace hf := if_no hf cq11
        refine lv_iconst (v := 0) hx hb dX11_layWord_26 (by decide +kernel) ?_
        refine lv_goto (tgt := 32) hx hb dX11_layWord_27 (by decide) ?_
        exact (hG _ _ _ _ _).mp (J32 k6 hk6 y1 0 y1 v0_known c2 c5 c7 H locs ls (hP.sub [0, 1, 2, 3, 4, 5, 6, 7] rfl) (hD.sub [0, 1, 2, 3, 4, 5, 6, 7] (by decide) rfl) hS (lv_sub hl [0, 1] rfl) hf)
  have L6 : ∀ (n : Nat), ∀ (y1 : Int32) (v0_known : Int32) (c2 : (Nat → Int32)) (c5 : (Nat → Int32)) (c7 : (Nat → Int32)) (H : Heap) (locs : List Loc) (ls : Array Slot), va_P (dC, dI) vwCl (wX11_layWord h0 h1 h2 h3 h4 h5 h6 h7 kc1 kc2 kc3 kc4 kc5 kc6 kc7 V0 v0_rules v0_size v0_known c1 c2 c3 c4 c5 c6 c7) H → va_D A (wX11_layWord h0 h1 h2 h3 h4 h5 h6 h7 kc1 kc2 kc3 kc4 kc5 kc6 kc7 V0 v0_rules v0_size v0_known c1 c2 c3 c4 c5 c6 c7) → va_S A s.heap H locs → lv_has ls 2 [(0, .ref h0), (1, .int y1)] → fX11_layWord_l6 v0_rules v0_size c1 c3 c4 c6  n y1 v0_known c2 c5 c7 = some o → G 0 0 H locs (F0 m 6 ls []) := by
    intro  n
    induction n with
    | zero => intro y1 v0_known c2 c5 c7 H locs ls _ _ _ _ hf; cases hf
    | succ n ih => exact B6  _ ih
  refine (hG _ _ _ _ _).mpr ?_
  obtain ⟨H, hH⟩ : ∃ H, H = s.heap := ⟨_, rfl⟩
  have hS : va_S A s.heap H [] := by rw [hH]; exact hS
  rw [← hH] at hP ⊢
  generalize ([] : List Loc) = locs at hS ⊢
  unfold fX11_layWord at hf
  refine lv_aload_n hx hb dX11_layWord_0 rfl (lv_at hl 0 rfl) ?_
  obtain ⟨o12, e12, hf⟩ := ob_some hf
  refine kVv (As := []) (rest := []) ⟨hx, hb, hml, hown, hts⟩ (mX11_reckon l dC dI h0 h1 h2 h3 kc1 kc2 kc3 H.size base v0_rules v0_known c1 c2 c3 (fun k => match k with | 5 => .ref h4 | 6 => .int v0_size | 7 => .ref h6 | 13 => .ref h5 | 14 => .ref h7 | k => V0 k) o12 e12) (cwV 0 hts (gTV q359 q360 q361 q5 q362) rfl rfl rfl (by decide +kernel) ⟨Nat.le_of_ble_eq_true rfl, Nat.le_of_ble_eq_true rfl⟩) hK hP hD hS hA hE hAB [0, 1, 2, 3] [4, 5, 6, 7] [0, 1, 2] (wr := [(h4, .inl (kc4, 16, .inl c4)), (h5, .inl (kc5, 64128, .inl c5)), (h6, .inl (kc6, 30, .inl c6)), (h7, .inl (kc7, 4008, .inl c7))]) rfl rfl (by decide) (by decide) (by decide) rfl (ci := 11) (q0 := 0) rfl rfl rfl rfl hl.1 rfl (Nat.le_of_ble_eq_true rfl) dX11_layWord_1 ⟨Nat.zero_le _, Nat.zero_le _⟩ (fun u12 H locs hw12 hP hD hS => ?_)
  have hw121 : o12 = u12 := Eq.symm hw12
  subst hw121
  have hP : va_P (dC, dI) vwCl (wX11_layWord h0 h1 h2 h3 h4 h5 h6 h7 kc1 kc2 kc3 kc4 kc5 kc6 kc7 V0 v0_rules v0_size o12.1 c1 o12.2 c3 c4 c5 c6 c7) H := hP.sub [4, 5, 6, 7, 0, 1, 2, 3] rfl
  have hD : va_D A (wX11_layWord h0 h1 h2 h3 h4 h5 h6 h7 kc1 kc2 kc3 kc4 kc5 kc6 kc7 V0 v0_rules v0_size o12.1 c1 o12.2 c3 c4 c5 c6 c7) := hD.sub [4, 5, 6, 7, 0, 1, 2, 3] (by decide) rfl
  refine lv_iconst (v := 0) hx hb dX11_layWord_4 (by decide +kernel) ?_
  refine lv_istore_n (lv' := [(1, .int 0), (0, .ref h0)]) hx hb dX11_layWord_5 rfl hl (by decide) rfl (fun ls hl => ?_)
  exact (hG _ _ _ _ _).mp (L6 FU 0 o12.1 o12.2 c5 c7 H locs ls (hP.sub [0, 1, 2, 3, 4, 5, 6, 7] rfl) (hD.sub [0, 1, 2, 3, 4, 5, 6, 7] (by decide) rfl) hS (lv_sub hl [1, 0] rfl) hf)
abbrev wX11_far (h0 h1 h2 h3 h4 h5 h6 h7 : Nat) (kc1 kc2 kc3 kc4 kc5 kc6 kc7 : ClassId) (V0 : Nat → Value) (v0_thrown : Int32) (v0_rules : Int32) (v0_size : Int32) (v0_known : Int32) (c1 : Nat → Int32) (c2 : Nat → Int32) (c3 : Nat → Int32) (c4 : Nat → Int32) (c5 : Nat → Int32) (c6 : Nat → Int32) (c7 : Nat → Int32) : va_W := [(h0, .inr (11, [.int v0_thrown, .int v0_rules, .ref h3, V0 3, .ref h1, .ref h4, .int v0_size, .ref h6, .int v0_known, .ref h2, V0 10, V0 11, V0 12, .ref h5, .ref h7, V0 15, V0 16, V0 17, V0 18, V0 19, V0 20, V0 21, V0 22, V0 23, V0 24, V0 25, V0 26, V0 27, V0 28, V0 29, V0 30, V0 31, V0 32, V0 33, V0 34, V0 35, V0 36, V0 37, V0 38, V0 39, V0 40, V0 41, V0 42, V0 43, V0 44, V0 45, V0 46, V0 47, V0 48, V0 49, V0 50, V0 51, V0 52, V0 53, V0 54, V0 55, V0 56, V0 57, V0 58, V0 59, V0 60, V0 61, V0 62, V0 63, V0 64, V0 65, V0 66, V0 67, V0 68, V0 69, V0 70])), (h1, .inl (kc1, 3072, .inl c1)), (h2, .inl (kc2, 3072, .inl c2)), (h3, .inl (kc3, 288, .inl c3)), (h4, .inl (kc4, 16, .inl c4)), (h5, .inl (kc5, 64128, .inl c5)), (h6, .inl (kc6, 30, .inl c6)), (h7, .inl (kc7, 4008, .inl c7))]
set_option maxHeartbeats 4000000 in
set_option maxRecDepth 100000 in
theorem mX11_far (l : Launch) (dC : Nat → ClassId) (dI : Nat → Nat → Nat) (h0 h1 h2 h3 h4 h5 h6 h7 : Nat) (kc1 kc2 kc3 kc4 kc5 kc6 kc7 : ClassId) (sz : Nat) (base : Nat × Nat × Nat) (a0 : Int32) (v0_thrown : Int32) (v0_rules : Int32) (v0_size : Int32) (v0_known : Int32) (c1 : Nat → Int32) (c2 : Nat → Int32) (c3 : Nat → Int32) (c4 : Nat → Int32) (c5 : Nat → Int32) (c6 : Nat → Int32) (c7 : Nat → Int32) (V0 : Nat → Value) (o : Int32 × Int32 × Int32 × (Nat → Int32) × (Nat → Int32) × (Nat → Int32)) (hf : fX11_far a0 v0_thrown v0_rules v0_size v0_known c1 c2 c3 c4 c5 c6 c7 = some o) : Met l yX11_far (.code yX11_far cX11_far 3 (some .int) :: wsL_law) ({ frames := 4, cells := 0, slots := 0, locals := 96 }) (cPre (dC, dI) vwCl [.ref h0, .int a0] sz base (wX11_far h0 h1 h2 h3 h4 h5 h6 h7 kc1 kc2 kc3 kc4 kc5 kc6 kc7 V0 v0_thrown v0_rules v0_size v0_known c1 c2 c3 c4 c5 c6 c7) [(kc1, .boolean), (kc2, .int), (kc3, .int), (kc4, .boolean), (kc5, .int), (kc6, .int), (kc7, .int)]) (va_Qi (fun r u => r = o.1 ∧ u = o.2) (fun (u : Int32 × Int32 × (Nat → Int32) × (Nat → Int32) × (Nat → Int32)) t => cPost (dC, dI) vwCl (va_A (wX11_far h0 h1 h2 h3 h4 h5 h6 h7 kc1 kc2 kc3 kc4 kc5 kc6 kc7 V0 v0_thrown v0_rules v0_size v0_known c1 c2 c3 c4 c5 c6 c7) sz) (wX11_far h0 h1 h2 h3 h4 h5 h6 h7 kc1 kc2 kc3 kc4 kc5 kc6 kc7 V0 u.1 v0_rules v0_size u.2.1 c1 u.2.2.1 c3 c4 u.2.2.2.1 c6 u.2.2.2.2) [(kc1, .boolean), (kc2, .int), (kc3, .int), (kc4, .boolean), (kc5, .int), (kc6, .int), (kc7, .int)] t) (va_A (wX11_far h0 h1 h2 h3 h4 h5 h6 h7 kc1 kc2 kc3 kc4 kc5 kc6 kc7 V0 v0_thrown v0_rules v0_size v0_known c1 c2 c3 c4 c5 c6 c7) sz)) 0 0 (va_A (wX11_far h0 h1 h2 h3 h4 h5 h6 h7 kc1 kc2 kc3 kc4 kc5 kc6 kc7 V0 v0_thrown v0_rules v0_size v0_known c1 c2 c3 c4 c5 c6 c7) sz) := by
  refine Met.ofW (cc := cX11_far) (maxL := 3) (ret := (some .int)) (by decide) rfl ?_
  intro p e s m args below meth c s₁ B hml hv
  obtain ⟨rfl, hsz, hP, hK, hD0, hE⟩ := hv
  have hx := B.exec
  have hb := B.bytes
  have hr := B.returns
  have hts : ∀ w ∈ wsL_law, _ := fun w h => atoms_spec (ws := .code yX11_far cX11_far 3 (some .int) :: wsL_law) B.pre w (List.mem_cons_of_mem _ h)
  have hown : s.vm.findClass RX11 = some m.cls := findClass_of_methodNamed B.named
  have hlocks := B.notSynchronized
  have w0_ := hts _ q146
  have w1_ := hts _ q87
  have w2_ := hts _ q216
  have w3_ := hts _ q354
  subst hsz
  have hD := hD0.self (sz := s.heap.size)
  generalize hAe : va_A (wX11_far h0 h1 h2 h3 h4 h5 h6 h7 kc1 kc2 kc3 kc4 kc5 kc6 kc7 V0 v0_thrown v0_rules v0_size v0_known c1 c2 c3 c4 c5 c6 c7) s.heap.size = A at hD ⊢
  have hA : ∀ q : Nat, s.heap.size ≤ q → A q := fun q h => by rw [← hAe]; exact Or.inr h
  have hAB : ∀ q : Nat, A q → base.1 ≤ q := fun q h => by rw [← hAe] at h; exact h.elim (fun ⟨k, e, hk⟩ => hD0.2 k _ hk) (fun hk => Nat.le_trans hE.1 hk)
  have hS : va_S A s.heap s.heap [] := va_S.rf
  have hl := lv_entry ([.ref h0, .int a0]) (n := 3) (Nat.le_of_ble_eq_true rfl)
  rw [lg_entry_eq]
  generalize (lg_sl ([.ref h0, .int a0]) ++ List.replicate (3 - (lg_sl ([.ref h0, .int a0])).length) Slot.unset).toArray = ls at hl ⊢
  have hl : lv_has ls 3 [(0, .ref h0), (1, .int a0)] := hl
  have hP : va_P (dC, dI) vwCl (wX11_far h0 h1 h2 h3 h4 h5 h6 h7 kc1 kc2 kc3 kc4 kc5 kc6 kc7 V0 v0_thrown v0_rules v0_size v0_known c1 c2 c3 c4 c5 c6 c7) s.heap := hP
  refine gl_intro (fun G hG => ?_)
  have J48 : ∀ (z0 : Int32) (v0_thrown : Int32) (v0_known : Int32) (c2 : (Nat → Int32)) (c5 : (Nat → Int32)) (c7 : (Nat → Int32)) (H : Heap) (locs : List Loc) (ls : Array Slot), va_P (dC, dI) vwCl (wX11_far h0 h1 h2 h3 h4 h5 h6 h7 kc1 kc2 kc3 kc4 kc5 kc6 kc7 V0 v0_thrown v0_rules v0_size v0_known c1 c2 c3 c4 c5 c6 c7) H → va_D A (wX11_far h0 h1 h2 h3 h4 h5 h6 h7 kc1 kc2 kc3 kc4 kc5 kc6 kc7 V0 v0_thrown v0_rules v0_size v0_known c1 c2 c3 c4 c5 c6 c7) → va_S A s.heap H locs → lv_has ls 3 [(0, .ref h0)] → fX11_far_p48 v0_rules v0_size c1 c3 c4 c6  z0 v0_thrown v0_known c2 c5 c7 = some o → G 0 0 H locs (F0 m 48 ls [.int z0]) := by
    intro  z0 v0_thrown v0_known c2 c5 c7 H locs ls hP hD hS hl hf
    refine (hG _ _ _ _ _).mpr ?_
    unfold fX11_far_p48 at hf
    have hf1 := Option.some.inj hf
    subst hf1
    have hP9 := hP.sub (ws' := (wX11_far h0 h1 h2 h3 h4 h5 h6 h7 kc1 kc2 kc3 kc4 kc5 kc6 kc7 V0 v0_thrown v0_rules v0_size v0_known c1 c2 c3 c4 c5 c6 c7)) [0, 1, 2, 3, 4, 5, 6, 7] rfl
    have hD9 := hD.sub (ws' := (wX11_far h0 h1 h2 h3 h4 h5 h6 h7 kc1 kc2 kc3 kc4 kc5 kc6 kc7 V0 v0_thrown v0_rules v0_size v0_known c1 c2 c3 c4 c5 c6 c7)) [0, 1, 2, 3, 4, 5, 6, 7] (by decide) rfl
    exact W.iret (v := z0) hx hb hr (fun t ht hW => ⟨⟨z0, (v0_thrown, v0_known, c2, c5, c7), rfl, ⟨rfl, rfl⟩, by rw [ht]; exact hP9, va_K.moved hW.alike hK, hD9⟩, hS.F ht⟩) hS.2.2 dX11_far_48
  refine (hG _ _ _ _ _).mpr ?_
  obtain ⟨H, hH⟩ : ∃ H, H = s.heap := ⟨_, rfl⟩
  have hS : va_S A s.heap H [] := by rw [hH]; exact hS
  rw [← hH] at hP ⊢
  generalize ([] : List Loc) = locs at hS ⊢
  unfold fX11_far at hf
  refine lv_aload_n hx hb dX11_far_0 rfl (lv_at hl 0 rfl) ?_
  refine lv_iconst (v := 0) hx hb dX11_far_1 (by decide +kernel) ?_
  refine va_put (D := (dC, dI)) (ci := 11) (v := .int 0) (ty := .int) (C := RX11) (T := TX11) (N := 71) hx hb hts inlX11 tyX11 tyX11_ok nmX11 hown hK hP hD hS 0 rfl rfl 0 (by decide) w0_ (fun _ h9 => h9) rfl (by decide +kernel) rfl rfl (Nat.le_of_ble_eq_true rfl) dX11_far_2 (fun H locs hP hD hS => ?_)
  have hP : va_P (dC, dI) vwCl (wX11_far h0 h1 h2 h3 h4 h5 h6 h7 kc1 kc2 kc3 kc4 kc5 kc6 kc7 V0 0 v0_rules v0_size v0_known c1 c2 c3 c4 c5 c6 c7) H := hP
  have hD : va_D A (wX11_far h0 h1 h2 h3 h4 h5 h6 h7 kc1 kc2 kc3 kc4 kc5 kc6 kc7 V0 0 v0_rules v0_size v0_known c1 c2 c3 c4 c5 c6 c7) := hD
  refine lv_iload_n hx hb dX11_far_5 rfl (lv_at hl 1 rfl) ?_
  refine lv_iconst (v := 0) hx hb dX11_far_6 (by decide +kernel) ?_
  refine lv_bipush (v := 7) hx hb dX11_far_7 (by decide +kernel) ?_
  obtain ⟨o1, e1, hf⟩ := ob_some hf
  refine kSi (As := [.int a0, .int 0, .int 7]) (rest := []) ⟨hx, hb, hml, hown, hts⟩ (mX11_in l dC dI H.size base a0 0 7 o1 e1) (va_cwS 3 hts (gTS q148 q149 q5 q150) rfl rfl rfl (by decide +kernel) ⟨Nat.le_of_ble_eq_true rfl, Nat.le_of_ble_eq_true rfl⟩) hK hP hD hS hA hE hAB [] [0, 1, 2, 3, 4, 5, 6, 7] [] (wr := (wX11_far h0 h1 h2 h3 h4 h5 h6 h7 kc1 kc2 kc3 kc4 kc5 kc6 kc7 V0 0 v0_rules v0_size v0_known c1 c2 c3 c4 c5 c6 c7)) rfl rfl (by decide) (by decide) (by decide) rfl rfl hl.1 rfl (Nat.le_of_ble_eq_true rfl) dX11_far_9 ⟨Nat.zero_le _, Nat.zero_le _⟩ (fun r1 u1 H locs hw1 hP hD hS => ?_)
  obtain ⟨hw11, hw12⟩ := hw1
  subst hw11 hw12
  have hP : va_P (dC, dI) vwCl (wX11_far h0 h1 h2 h3 h4 h5 h6 h7 kc1 kc2 kc3 kc4 kc5 kc6 kc7 V0 0 v0_rules v0_size v0_known c1 c2 c3 c4 c5 c6 c7) H := hP.sub [0, 1, 2, 3, 4, 5, 6, 7] rfl
  have hD : va_D A (wX11_far h0 h1 h2 h3 h4 h5 h6 h7 kc1 kc2 kc3 kc4 kc5 kc6 kc7 V0 0 v0_rules v0_size v0_known c1 c2 c3 c4 c5 c6 c7) := hD.sub [0, 1, 2, 3, 4, 5, 6, 7] (by decide) rfl
  refine lv_if_ne (tgt := 18) hx hb dX11_far_12 (by decide) (fun cq2 => ?_) (fun cq2 => ?_)
  · replace hf := if_no hf cq2
    refine lv_aload_n hx hb dX11_far_18 rfl (lv_at hl 0 rfl) ?_
    obtain ⟨o3, e3, hf⟩ := ob_some hf
    refine kVv (As := []) (rest := []) ⟨hx, hb, hml, hown, hts⟩ (mX11_layWord l dC dI h0 h1 h2 h3 h4 h5 h6 h7 kc1 kc2 kc3 kc4 kc5 kc6 kc7 H.size base v0_rules v0_size v0_known c1 c2 c3 c4 c5 c6 c7 (fun k => match k with | 0 => .int 0 | k => V0 k) o3 e3) (cwV 0 hts (gTV q355 q356 q357 q5 q358) rfl rfl rfl (by decide +kernel) ⟨Nat.le_of_ble_eq_true rfl, Nat.le_of_ble_eq_true rfl⟩) hK hP hD hS hA hE hAB [0, 1, 2, 3, 4, 5, 6, 7] [] [0, 1, 2, 3, 4, 5, 6] (wr := []) rfl rfl (by decide) (by decide) (by decide) rfl (ci := 11) (q0 := 0) rfl rfl rfl rfl hl.1 rfl (Nat.le_of_ble_eq_true rfl) dX11_far_19 ⟨Nat.zero_le _, Nat.zero_le _⟩ (fun u3 H locs hw3 hP hD hS => ?_)
    have hw31 : o3 = u3 := Eq.symm hw3
    subst hw31
    have hP : va_P (dC, dI) vwCl (wX11_far h0 h1 h2 h3 h4 h5 h6 h7 kc1 kc2 kc3 kc4 kc5 kc6 kc7 V0 0 v0_rules v0_size o3.1 c1 o3.2.1 c3 c4 o3.2.2.1 c6 o3.2.2.2) H := hP.sub [0, 1, 2, 3, 4, 5, 6, 7] rfl
    have hD : va_D A (wX11_far h0 h1 h2 h3 h4 h5 h6 h7 kc1 kc2 kc3 kc4 kc5 kc6 kc7 V0 0 v0_rules v0_size o3.1 c1 o3.2.1 c3 c4 o3.2.2.1 c6 o3.2.2.2) := hD.sub [0, 1, 2, 3, 4, 5, 6, 7] (by decide) rfl
    refine lv_aload_n hx hb dX11_far_22 rfl (lv_at hl 0 rfl) ?_
    refine va_get (D := (dC, dI)) (ci := 11) (v := .ref h5) (C := RX11) (T := TX11) (N := 71) hx hb hts inlX11 hown hK hP 0 rfl rfl 13 (by decide) w1_ (fun _ h9 => h9) rfl dX11_far_23 ?_
    refine lv_bipush (v := 16) hx hb dX11_far_26 (by decide +kernel) ?_
    refine lv_aload_n hx hb dX11_far_28 rfl (lv_at hl 0 rfl) ?_
    refine va_get (D := (dC, dI)) (ci := 11) (v := .int v0_size) (C := RX11) (T := TX11) (N := 71) hx hb hts inlX11 hown hK hP 0 rfl rfl 6 (by decide) w2_ (fun _ h9 => h9) rfl dX11_far_29 ?_
    refine lv_imul hx hb dX11_far_32 ?_
    refine lv_topi (fun x4 e4 => ?_)
    replace hf := nm_at hf e4
    refine lv_iload_n hx hb dX11_far_33 rfl (lv_at hl 1 rfl) ?_
    refine lv_iadd hx hb dX11_far_34 ?_
    refine lv_topi (fun x5 e5 => ?_)
    replace hf := nm_at hf e5
    have b6 := bd_in hf
    replace hf := bd_k hf
    refine va_iald hx hb hK hP 5 4 rfl rfl b6 dX11_far_35 ?_
    refine lv_topi (fun x7 e7 => ?_)
    replace hf := nm_at hf e7
    refine lv_istore_n (lv' := [(2, .int x7), (0, .ref h0), (1, .int a0)]) hx hb dX11_far_36 rfl hl (by decide) rfl (fun ls hl => ?_)
    refine lv_iload_n hx hb dX11_far_37 rfl (lv_at hl 0 rfl) ?_
    refine lv_ldc (v := 2000000) hx hb hown w3_ dX11_far_38 ?_
    refine lv_icmp_ne (tgt := 47) hx hb dX11_far_40 (by decide) (fun cq8 => ?_) (fun cq8 => ?_)
    · replace hf := if_no hf cq8
      refine lv_iload_n hx hb dX11_far_47 rfl (lv_at hl 0 rfl) ?_
      exact (hG _ _ _ _ _).mp (J48 x7 0 o3.1 o3.2.1 o3.2.2.1 o3.2.2.2 H locs ls (hP.sub [0, 1, 2, 3, 4, 5, 6, 7] rfl) (hD.sub [0, 1, 2, 3, 4, 5, 6, 7] (by decide) rfl) hS (lv_sub hl [1] rfl) hf)
    · replace hf := if_at hf cq8
      refine lv_iconst (v := (-1)) hx hb dX11_far_43 (by decide +kernel) ?_
      refine lv_goto (tgt := 48) hx hb dX11_far_44 (by decide) ?_
      exact (hG _ _ _ _ _).mp (J48 (-1) 0 o3.1 o3.2.1 o3.2.2.1 o3.2.2.2 H locs ls (hP.sub [0, 1, 2, 3, 4, 5, 6, 7] rfl) (hD.sub [0, 1, 2, 3, 4, 5, 6, 7] (by decide) rfl) hS (lv_sub hl [1] rfl) hf)
  · replace hf := if_at hf cq2
    refine lv_bipush (v := (-2)) hx hb dX11_far_15 (by decide +kernel) ?_
    have hf1 := Option.some.inj hf
    subst hf1
    have hP9 := hP.sub (ws' := (wX11_far h0 h1 h2 h3 h4 h5 h6 h7 kc1 kc2 kc3 kc4 kc5 kc6 kc7 V0 0 v0_rules v0_size v0_known c1 c2 c3 c4 c5 c6 c7)) [0, 1, 2, 3, 4, 5, 6, 7] rfl
    have hD9 := hD.sub (ws' := (wX11_far h0 h1 h2 h3 h4 h5 h6 h7 kc1 kc2 kc3 kc4 kc5 kc6 kc7 V0 0 v0_rules v0_size v0_known c1 c2 c3 c4 c5 c6 c7)) [0, 1, 2, 3, 4, 5, 6, 7] (by decide) rfl
    exact W.iret (v := (-2)) hx hb hr (fun t ht hW => ⟨⟨(-2), (0, v0_known, c2, c5, c7), rfl, ⟨rfl, rfl⟩, by rw [ht]; exact hP9, va_K.moved hW.alike hK, hD9⟩, hS.F ht⟩) hS.2.2 dX11_far_17
abbrev wX11_findWay (h0 h1 h2 h3 h4 h5 h6 h7 h8 : Nat) (kc1 kc2 kc3 kc4 kc5 kc6 kc7 kc8 : ClassId) (V0 : Nat → Value) (v0_rules : Int32) (v0_size : Int32) (v0_known : Int32) (v0_wayState : Int32) (v0_wayLong : Int32) (c1 : Nat → Int32) (c2 : Nat → Int32) (c3 : Nat → Int32) (c4 : Nat → Int32) (c5 : Nat → Int32) (c6 : Nat → Int32) (c7 : Nat → Int32) (c8 : Nat → Int32) : va_W := [(h0, .inr (11, [V0 0, .int v0_rules, .ref h3, V0 3, .ref h1, .ref h4, .int v0_size, .ref h6, .int v0_known, .ref h2, .int v0_wayState, .int v0_wayLong, .ref h8, .ref h5, .ref h7, V0 15, V0 16, V0 17, V0 18, V0 19, V0 20, V0 21, V0 22, V0 23, V0 24, V0 25, V0 26, V0 27, V0 28, V0 29, V0 30, V0 31, V0 32, V0 33, V0 34, V0 35, V0 36, V0 37, V0 38, V0 39, V0 40, V0 41, V0 42, V0 43, V0 44, V0 45, V0 46, V0 47, V0 48, V0 49, V0 50, V0 51, V0 52, V0 53, V0 54, V0 55, V0 56, V0 57, V0 58, V0 59, V0 60, V0 61, V0 62, V0 63, V0 64, V0 65, V0 66, V0 67, V0 68, V0 69, V0 70])), (h1, .inl (kc1, 3072, .inl c1)), (h2, .inl (kc2, 3072, .inl c2)), (h3, .inl (kc3, 288, .inl c3)), (h4, .inl (kc4, 16, .inl c4)), (h5, .inl (kc5, 64128, .inl c5)), (h6, .inl (kc6, 30, .inl c6)), (h7, .inl (kc7, 4008, .inl c7)), (h8, .inl (kc8, 2000, .inl c8))]
set_option maxHeartbeats 4000000 in
set_option maxRecDepth 100000 in
theorem mX11_findWay (l : Launch) (dC : Nat → ClassId) (dI : Nat → Nat → Nat) (h0 h1 h2 h3 h4 h5 h6 h7 h8 : Nat) (kc1 kc2 kc3 kc4 kc5 kc6 kc7 kc8 : ClassId) (sz : Nat) (base : Nat × Nat × Nat) (a0 : Int32) (v0_rules : Int32) (v0_size : Int32) (v0_known : Int32) (v0_wayState : Int32) (v0_wayLong : Int32) (c1 : Nat → Int32) (c2 : Nat → Int32) (c3 : Nat → Int32) (c4 : Nat → Int32) (c5 : Nat → Int32) (c6 : Nat → Int32) (c7 : Nat → Int32) (c8 : Nat → Int32) (V0 : Nat → Value) (o : Int32 × Int32 × Int32 × (Nat → Int32) × (Nat → Int32) × (Nat → Int32) × (Nat → Int32)) (hf : fX11_findWay a0 v0_rules v0_size v0_known v0_wayState v0_wayLong c1 c2 c3 c4 c5 c6 c7 c8 = some o) : Met l yX11_findWay (.code yX11_findWay cX11_findWay 11 none :: wsL_law) ({ frames := 4, cells := 0, slots := 0, locals := 96 }) (cPre (dC, dI) vwCl [.ref h0, .int a0] sz base (wX11_findWay h0 h1 h2 h3 h4 h5 h6 h7 h8 kc1 kc2 kc3 kc4 kc5 kc6 kc7 kc8 V0 v0_rules v0_size v0_known v0_wayState v0_wayLong c1 c2 c3 c4 c5 c6 c7 c8) [(kc1, .boolean), (kc2, .int), (kc3, .int), (kc4, .boolean), (kc5, .int), (kc6, .int), (kc7, .int), (kc8, .int)]) (va_Qv (fun u => u = o) (fun (u : Int32 × Int32 × Int32 × (Nat → Int32) × (Nat → Int32) × (Nat → Int32) × (Nat → Int32)) t => cPost (dC, dI) vwCl (va_A (wX11_findWay h0 h1 h2 h3 h4 h5 h6 h7 h8 kc1 kc2 kc3 kc4 kc5 kc6 kc7 kc8 V0 v0_rules v0_size v0_known v0_wayState v0_wayLong c1 c2 c3 c4 c5 c6 c7 c8) sz) (wX11_findWay h0 h1 h2 h3 h4 h5 h6 h7 h8 kc1 kc2 kc3 kc4 kc5 kc6 kc7 kc8 V0 v0_rules v0_size u.1 u.2.1 u.2.2.1 c1 u.2.2.2.1 c3 c4 u.2.2.2.2.1 c6 u.2.2.2.2.2.1 u.2.2.2.2.2.2) [(kc1, .boolean), (kc2, .int), (kc3, .int), (kc4, .boolean), (kc5, .int), (kc6, .int), (kc7, .int), (kc8, .int)] t) (va_A (wX11_findWay h0 h1 h2 h3 h4 h5 h6 h7 h8 kc1 kc2 kc3 kc4 kc5 kc6 kc7 kc8 V0 v0_rules v0_size v0_known v0_wayState v0_wayLong c1 c2 c3 c4 c5 c6 c7 c8) sz)) 0 0 (va_A (wX11_findWay h0 h1 h2 h3 h4 h5 h6 h7 h8 kc1 kc2 kc3 kc4 kc5 kc6 kc7 kc8 V0 v0_rules v0_size v0_known v0_wayState v0_wayLong c1 c2 c3 c4 c5 c6 c7 c8) sz) := by
  refine Met.ofW (cc := cX11_findWay) (maxL := 11) (ret := none) (by decide) rfl ?_
  intro p e s m args below meth c s₁ B hml hv
  obtain ⟨rfl, hsz, hP, hK, hD0, hE⟩ := hv
  have hx := B.exec
  have hb := B.bytes
  have hr := B.returns
  have hts : ∀ w ∈ wsL_law, _ := fun w h => atoms_spec (ws := .code yX11_findWay cX11_findWay 11 none :: wsL_law) B.pre w (List.mem_cons_of_mem _ h)
  have hown : s.vm.findClass RX11 = some m.cls := findClass_of_methodNamed B.named
  have hlocks := B.notSynchronized
  have w0_ := hts _ q85
  have w1_ := hts _ q78
  have w2_ := hts _ q87
  have w3_ := hts _ q147
  have w4_ := hts _ q448
  have w5_ := hts _ q88
  have w6_ := hts _ q84
  have w7_ := hts _ q216
  subst hsz
  have hD := hD0.self (sz := s.heap.size)
  generalize hAe : va_A (wX11_findWay h0 h1 h2 h3 h4 h5 h6 h7 h8 kc1 kc2 kc3 kc4 kc5 kc6 kc7 kc8 V0 v0_rules v0_size v0_known v0_wayState v0_wayLong c1 c2 c3 c4 c5 c6 c7 c8) s.heap.size = A at hD ⊢
  have hA : ∀ q : Nat, s.heap.size ≤ q → A q := fun q h => by rw [← hAe]; exact Or.inr h
  have hAB : ∀ q : Nat, A q → base.1 ≤ q := fun q h => by rw [← hAe] at h; exact h.elim (fun ⟨k, e, hk⟩ => hD0.2 k _ hk) (fun hk => Nat.le_trans hE.1 hk)
  have hS : va_S A s.heap s.heap [] := va_S.rf
  have hl := lv_entry ([.ref h0, .int a0]) (n := 11) (Nat.le_of_ble_eq_true rfl)
  rw [lg_entry_eq]
  generalize (lg_sl ([.ref h0, .int a0]) ++ List.replicate (11 - (lg_sl ([.ref h0, .int a0])).length) Slot.unset).toArray = ls at hl ⊢
  have hl : lv_has ls 11 [(0, .ref h0), (1, .int a0)] := hl
  have hP : va_P (dC, dI) vwCl (wX11_findWay h0 h1 h2 h3 h4 h5 h6 h7 h8 kc1 kc2 kc3 kc4 kc5 kc6 kc7 kc8 V0 v0_rules v0_size v0_known v0_wayState v0_wayLong c1 c2 c3 c4 c5 c6 c7 c8) s.heap := hP
  refine gl_intro (fun G hG => ?_)
  have J284 : ∀ (k53 : Int32 → Int32 → Int32 → Int32 → Int32 → Int32 → Int32 → (Nat → Int32) → (Nat → Int32) → (Nat → Int32) → (Nat → Int32) → Option (Int32 × Int32 × Int32 × (Nat → Int32) × (Nat → Int32) × (Nat → Int32) × (Nat → Int32))) (hk53 : ∀ (y2 : Int32) (y3 : Int32) (y4 : Int32) (y5 : Int32) (v0_known : Int32) (v0_wayState : Int32) (v0_wayLong : Int32) (c2 : (Nat → Int32)) (c5 : (Nat → Int32)) (c7 : (Nat → Int32)) (c8 : (Nat → Int32)) (H : Heap) (locs : List Loc) (ls : Array Slot), va_P (dC, dI) vwCl (wX11_findWay h0 h1 h2 h3 h4 h5 h6 h7 h8 kc1 kc2 kc3 kc4 kc5 kc6 kc7 kc8 V0 v0_rules v0_size v0_known v0_wayState v0_wayLong c1 c2 c3 c4 c5 c6 c7 c8) H → va_D A (wX11_findWay h0 h1 h2 h3 h4 h5 h6 h7 h8 kc1 kc2 kc3 kc4 kc5 kc6 kc7 kc8 V0 v0_rules v0_size v0_known v0_wayState v0_wayLong c1 c2 c3 c4 c5 c6 c7 c8) → va_S A s.heap H locs → lv_has ls 11 [(0, .ref h0), (2, .int y2), (3, .int y3), (4, .int y4), (5, .int y5)] → k53 y2 y3 y4 y5 v0_known v0_wayState v0_wayLong c2 c5 c7 c8 = some o → G 0 0 H locs (F0 m 53 ls [])), ∀ (y2 : Int32) (y3 : Int32) (y4 : Int32) (y5 : Int32) (v0_known : Int32) (v0_wayState : Int32) (v0_wayLong : Int32) (c2 : (Nat → Int32)) (c5 : (Nat → Int32)) (c7 : (Nat → Int32)) (c8 : (Nat → Int32)) (H : Heap) (locs : List Loc) (ls : Array Slot), va_P (dC, dI) vwCl (wX11_findWay h0 h1 h2 h3 h4 h5 h6 h7 h8 kc1 kc2 kc3 kc4 kc5 kc6 kc7 kc8 V0 v0_rules v0_size v0_known v0_wayState v0_wayLong c1 c2 c3 c4 c5 c6 c7 c8) H → va_D A (wX11_findWay h0 h1 h2 h3 h4 h5 h6 h7 h8 kc1 kc2 kc3 kc4 kc5 kc6 kc7 kc8 V0 v0_rules v0_size v0_known v0_wayState v0_wayLong c1 c2 c3 c4 c5 c6 c7 c8) → va_S A s.heap H locs → lv_has ls 11 [(0, .ref h0), (2, .int y2), (3, .int y3), (4, .int y4), (5, .int y5)] → fX11_findWay_p284 v0_rules v0_size c1 c3 c4 c6 k53 y2 y3 y4 y5 v0_known v0_wayState v0_wayLong c2 c5 c7 c8 = some o → G 0 0 H locs (F0 m 284 ls []) := by
    intro k53 hk53 y2 y3 y4 y5 v0_known v0_wayState v0_wayLong c2 c5 c7 c8 H locs ls hP hD hS hl hf
    refine (hG _ _ _ _ _).mpr ?_
    unfold fX11_findWay_p284 at hf
    obtain ⟨x1, e1⟩ : ∃ y : Int32, y = y5 + 1 := ⟨_, rfl⟩
    replace hf := nm_at hf e1
    refine lv_iinc (v := x1) (lv' := [(5, .int x1), (0, .ref h0), (2, .int y2), (3, .int y3), (4, .int y4)]) hx hb dX11_findWay_284 hl (k := 4) rfl (by rw [e1]; rfl) (by decide) rfl (fun ls hl => ?_)
    refine lv_goto (tgt := 53) hx hb dX11_findWay_287 (by decide) ?_
    exact (hG _ _ _ _ _).mp (hk53 y2 y3 y4 x1 v0_known v0_wayState v0_wayLong c2 c5 c7 c8 H locs ls (hP.sub [0, 1, 2, 3, 4, 5, 6, 7, 8] rfl) (hD.sub [0, 1, 2, 3, 4, 5, 6, 7, 8] (by decide) rfl) hS (lv_sub hl [1, 2, 3, 4, 0] rfl) hf)
  have J278 : ∀ (k53 : Int32 → Int32 → Int32 → Int32 → Int32 → Int32 → Int32 → (Nat → Int32) → (Nat → Int32) → (Nat → Int32) → (Nat → Int32) → Option (Int32 × Int32 × Int32 × (Nat → Int32) × (Nat → Int32) × (Nat → Int32) × (Nat → Int32))) (hk53 : ∀ (y2 : Int32) (y3 : Int32) (y4 : Int32) (y5 : Int32) (v0_known : Int32) (v0_wayState : Int32) (v0_wayLong : Int32) (c2 : (Nat → Int32)) (c5 : (Nat → Int32)) (c7 : (Nat → Int32)) (c8 : (Nat → Int32)) (H : Heap) (locs : List Loc) (ls : Array Slot), va_P (dC, dI) vwCl (wX11_findWay h0 h1 h2 h3 h4 h5 h6 h7 h8 kc1 kc2 kc3 kc4 kc5 kc6 kc7 kc8 V0 v0_rules v0_size v0_known v0_wayState v0_wayLong c1 c2 c3 c4 c5 c6 c7 c8) H → va_D A (wX11_findWay h0 h1 h2 h3 h4 h5 h6 h7 h8 kc1 kc2 kc3 kc4 kc5 kc6 kc7 kc8 V0 v0_rules v0_size v0_known v0_wayState v0_wayLong c1 c2 c3 c4 c5 c6 c7 c8) → va_S A s.heap H locs → lv_has ls 11 [(0, .ref h0), (2, .int y2), (3, .int y3), (4, .int y4), (5, .int y5)] → k53 y2 y3 y4 y5 v0_known v0_wayState v0_wayLong c2 c5 c7 c8 = some o → G 0 0 H locs (F0 m 53 ls [])) (k88 : Int32 → Int32 → Int32 → Int32 → Int32 → Int32 → Int32 → Int32 → Int32 → Int32 → (Nat → Int32) → (Nat → Int32) → (Nat → Int32) → (Nat → Int32) → Option (Int32 × Int32 × Int32 × (Nat → Int32) × (Nat → Int32) × (Nat → Int32) × (Nat → Int32))) (hk88 : ∀ (y2 : Int32) (y3 : Int32) (y4 : Int32) (y5 : Int32) (y6 : Int32) (y7 : Int32) (y8 : Int32) (v0_known : Int32) (v0_wayState : Int32) (v0_wayLong : Int32) (c2 : (Nat → Int32)) (c5 : (Nat → Int32)) (c7 : (Nat → Int32)) (c8 : (Nat → Int32)) (H : Heap) (locs : List Loc) (ls : Array Slot), va_P (dC, dI) vwCl (wX11_findWay h0 h1 h2 h3 h4 h5 h6 h7 h8 kc1 kc2 kc3 kc4 kc5 kc6 kc7 kc8 V0 v0_rules v0_size v0_known v0_wayState v0_wayLong c1 c2 c3 c4 c5 c6 c7 c8) H → va_D A (wX11_findWay h0 h1 h2 h3 h4 h5 h6 h7 h8 kc1 kc2 kc3 kc4 kc5 kc6 kc7 kc8 V0 v0_rules v0_size v0_known v0_wayState v0_wayLong c1 c2 c3 c4 c5 c6 c7 c8) → va_S A s.heap H locs → lv_has ls 11 [(0, .ref h0), (2, .int y2), (3, .int y3), (4, .int y4), (5, .int y5), (6, .int y6), (7, .int y7), (8, .int y8)] → k88 y2 y3 y4 y5 y6 y7 y8 v0_known v0_wayState v0_wayLong c2 c5 c7 c8 = some o → G 0 0 H locs (F0 m 88 ls [])), ∀ (y2 : Int32) (y3 : Int32) (y4 : Int32) (y5 : Int32) (y6 : Int32) (y7 : Int32) (y8 : Int32) (v0_known : Int32) (v0_wayState : Int32) (v0_wayLong : Int32) (c2 : (Nat → Int32)) (c5 : (Nat → Int32)) (c7 : (Nat → Int32)) (c8 : (Nat → Int32)) (H : Heap) (locs : List Loc) (ls : Array Slot), va_P (dC, dI) vwCl (wX11_findWay h0 h1 h2 h3 h4 h5 h6 h7 h8 kc1 kc2 kc3 kc4 kc5 kc6 kc7 kc8 V0 v0_rules v0_size v0_known v0_wayState v0_wayLong c1 c2 c3 c4 c5 c6 c7 c8) H → va_D A (wX11_findWay h0 h1 h2 h3 h4 h5 h6 h7 h8 kc1 kc2 kc3 kc4 kc5 kc6 kc7 kc8 V0 v0_rules v0_size v0_known v0_wayState v0_wayLong c1 c2 c3 c4 c5 c6 c7 c8) → va_S A s.heap H locs → lv_has ls 11 [(0, .ref h0), (2, .int y2), (3, .int y3), (4, .int y4), (5, .int y5), (6, .int y6), (7, .int y7), (8, .int y8)] → fX11_findWay_p278 v0_rules v0_size c1 c3 c4 c6 k53 k88 y2 y3 y4 y5 y6 y7 y8 v0_known v0_wayState v0_wayLong c2 c5 c7 c8 = some o → G 0 0 H locs (F0 m 278 ls []) := by
    intro k53 hk53 k88 hk88 y2 y3 y4 y5 y6 y7 y8 v0_known v0_wayState v0_wayLong c2 c5 c7 c8 H locs ls hP hD hS hl hf
    refine (hG _ _ _ _ _).mpr ?_
    unfold fX11_findWay_p278 at hf
    obtain ⟨x2, e2⟩ : ∃ y : Int32, y = y8 + 1 := ⟨_, rfl⟩
    replace hf := nm_at hf e2
    refine lv_iinc (v := x2) (lv' := [(8, .int x2), (0, .ref h0), (2, .int y2), (3, .int y3), (4, .int y4), (5, .int y5), (6, .int y6), (7, .int y7)]) hx hb dX11_findWay_278 hl (k := 7) rfl (by rw [e2]; rfl) (by decide) rfl (fun ls hl => ?_)
    refine lv_goto (tgt := 88) hx hb dX11_findWay_281 (by decide) ?_
    exact (hG _ _ _ _ _).mp (hk88 y2 y3 y4 y5 y6 y7 x2 v0_known v0_wayState v0_wayLong c2 c5 c7 c8 H locs ls (hP.sub [0, 1, 2, 3, 4, 5, 6, 7, 8] rfl) (hD.sub [0, 1, 2, 3, 4, 5, 6, 7, 8] (by decide) rfl) hS (lv_sub hl [1, 2, 3, 4, 5, 6, 7, 0] rfl) hf)
  have J232 : ∀ (k53 : Int32 → Int32 → Int32 → Int32 → Int32 → Int32 → Int32 → (Nat → Int32) → (Nat → Int32) → (Nat → Int32) → (Nat → Int32) → Option (Int32 × Int32 × Int32 × (Nat → Int32) × (Nat → Int32) × (Nat → Int32) × (Nat → Int32))) (hk53 : ∀ (y2 : Int32) (y3 : Int32) (y4 : Int32) (y5 : Int32) (v0_known : Int32) (v0_wayState : Int32) (v0_wayLong : Int32) (c2 : (Nat → Int32)) (c5 : (Nat → Int32)) (c7 : (Nat → Int32)) (c8 : (Nat → Int32)) (H : Heap) (locs : List Loc) (ls : Array Slot), va_P (dC, dI) vwCl (wX11_findWay h0 h1 h2 h3 h4 h5 h6 h7 h8 kc1 kc2 kc3 kc4 kc5 kc6 kc7 kc8 V0 v0_rules v0_size v0_known v0_wayState v0_wayLong c1 c2 c3 c4 c5 c6 c7 c8) H → va_D A (wX11_findWay h0 h1 h2 h3 h4 h5 h6 h7 h8 kc1 kc2 kc3 kc4 kc5 kc6 kc7 kc8 V0 v0_rules v0_size v0_known v0_wayState v0_wayLong c1 c2 c3 c4 c5 c6 c7 c8) → va_S A s.heap H locs → lv_has ls 11 [(0, .ref h0), (2, .int y2), (3, .int y3), (4, .int y4), (5, .int y5)] → k53 y2 y3 y4 y5 v0_known v0_wayState v0_wayLong c2 c5 c7 c8 = some o → G 0 0 H locs (F0 m 53 ls [])) (k88 : Int32 → Int32 → Int32 → Int32 → Int32 → Int32 → Int32 → Int32 → Int32 → Int32 → (Nat → Int32) → (Nat → Int32) → (Nat → Int32) → (Nat → Int32) → Option (Int32 × Int32 × Int32 × (Nat → Int32) × (Nat → Int32) × (Nat → Int32) × (Nat → Int32))) (hk88 : ∀ (y2 : Int32) (y3 : Int32) (y4 : Int32) (y5 : Int32) (y6 : Int32) (y7 : Int32) (y8 : Int32) (v0_known : Int32) (v0_wayState : Int32) (v0_wayLong : Int32) (c2 : (Nat → Int32)) (c5 : (Nat → Int32)) (c7 : (Nat → Int32)) (c8 : (Nat → Int32)) (H : Heap) (locs : List Loc) (ls : Array Slot), va_P (dC, dI) vwCl (wX11_findWay h0 h1 h2 h3 h4 h5 h6 h7 h8 kc1 kc2 kc3 kc4 kc5 kc6 kc7 kc8 V0 v0_rules v0_size v0_known v0_wayState v0_wayLong c1 c2 c3 c4 c5 c6 c7 c8) H → va_D A (wX11_findWay h0 h1 h2 h3 h4 h5 h6 h7 h8 kc1 kc2 kc3 kc4 kc5 kc6 kc7 kc8 V0 v0_rules v0_size v0_known v0_wayState v0_wayLong c1 c2 c3 c4 c5 c6 c7 c8) → va_S A s.heap H locs → lv_has ls 11 [(0, .ref h0), (2, .int y2), (3, .int y3), (4, .int y4), (5, .int y5), (6, .int y6), (7, .int y7), (8, .int y8)] → k88 y2 y3 y4 y5 y6 y7 y8 v0_known v0_wayState v0_wayLong c2 c5 c7 c8 = some o → G 0 0 H locs (F0 m 88 ls [])), ∀ (y2 : Int32) (y3 : Int32) (y4 : Int32) (y5 : Int32) (y7 : Int32) (y8 : Int32) (y9 : Int32) (y10 : Int32) (z0 : Int32) (v0_known : Int32) (v0_wayState : Int32) (v0_wayLong : Int32) (c2 : (Nat → Int32)) (c5 : (Nat → Int32)) (c7 : (Nat → Int32)) (c8 : (Nat → Int32)) (H : Heap) (locs : List Loc) (ls : Array Slot), va_P (dC, dI) vwCl (wX11_findWay h0 h1 h2 h3 h4 h5 h6 h7 h8 kc1 kc2 kc3 kc4 kc5 kc6 kc7 kc8 V0 v0_rules v0_size v0_known v0_wayState v0_wayLong c1 c2 c3 c4 c5 c6 c7 c8) H → va_D A (wX11_findWay h0 h1 h2 h3 h4 h5 h6 h7 h8 kc1 kc2 kc3 kc4 kc5 kc6 kc7 kc8 V0 v0_rules v0_size v0_known v0_wayState v0_wayLong c1 c2 c3 c4 c5 c6 c7 c8) → va_S A s.heap H locs → lv_has ls 11 [(0, .ref h0), (2, .int y2), (3, .int y3), (4, .int y4), (5, .int y5), (7, .int y7), (8, .int y8), (9, .int y9), (10, .int y10)] → fX11_findWay_p232 v0_rules v0_size c1 c3 c4 c6 k53 k88 y2 y3 y4 y5 y7 y8 y9 y10 z0 v0_known v0_wayState v0_wayLong c2 c5 c7 c8 = some o → G 0 0 H locs (F0 m 232 ls [.int z0]) := by
    intro k53 hk53 k88 hk88 y2 y3 y4 y5 y7 y8 y9 y10 z0 v0_known v0_wayState v0_wayLong c2 c5 c7 c8 H locs ls hP hD hS hl hf
    refine (hG _ _ _ _ _).mpr ?_
    unfold fX11_findWay_p232 at hf
    refine lv_istore (lv' := [(6, .int z0), (0, .ref h0), (2, .int y2), (3, .int y3), (4, .int y4), (5, .int y5), (7, .int y7), (8, .int y8), (9, .int y9), (10, .int y10)]) hx hb dX11_findWay_232 hl (by decide) rfl (fun ls hl => ?_)
    refine lv_iload hx hb dX11_findWay_234 (lv_at hl 0 rfl) ?_
    refine lv_if_eq (tgt := 268) hx hb dX11_findWay_236 (by decide) (fun cq3 => ?_) (fun cq3 => ?_)
    · replace hf := if_at hf cq3
      refine lv_aload_n hx hb dX11_findWay_268 rfl (lv_at hl 1 rfl) ?_
      refine lv_iload hx hb dX11_findWay_269 (lv_at hl 4 rfl) ?_
      refine lv_iconst (v := 1) hx hb dX11_findWay_271 (by decide +kernel) ?_
      refine lv_isub hx hb dX11_findWay_272 ?_
      refine lv_topi (fun x4 e4 => ?_)
      replace hf := nm_at hf e4
      refine lv_iload hx hb dX11_findWay_273 (lv_at hl 6 rfl) ?_
      obtain ⟨o5, e5, hf⟩ := ob_some hf
      refine kVv (As := [.int x4, .int y7]) (rest := []) ⟨hx, hb, hml, hown, hts⟩ (mX11_lay l dC dI h0 h7 h2 h5 kc7 kc2 kc5 H.size base x4 y7 c7 c2 c5 (fun k => match k with | 1 => .int v0_rules | 2 => .ref h3 | 4 => .ref h1 | 5 => .ref h4 | 6 => .int v0_size | 7 => .ref h6 | 8 => .int v0_known | 10 => .int v0_wayState | 11 => .int v0_wayLong | 12 => .ref h8 | k => V0 k) o5 e5) (cwV 2 hts (gTV q371 q372 q373 q5 q374) rfl rfl rfl (by decide +kernel) ⟨Nat.le_of_ble_eq_true rfl, Nat.le_of_ble_eq_true rfl⟩) hK hP hD hS hA hE hAB [0, 7, 2, 5] [1, 3, 4, 6, 8] [6, 1, 4] (wr := [(h1, .inl (kc1, 3072, .inl c1)), (h3, .inl (kc3, 288, .inl c3)), (h4, .inl (kc4, 16, .inl c4)), (h6, .inl (kc6, 30, .inl c6)), (h8, .inl (kc8, 2000, .inl c8))]) rfl rfl (by decide) (by decide) (by decide) rfl (ci := 11) (q0 := 0) rfl rfl rfl rfl hl.1 rfl (Nat.le_of_ble_eq_true rfl) dX11_findWay_275 ⟨Nat.zero_le _, Nat.zero_le _⟩ (fun u5 H locs hw5 hP hD hS => ?_)
      have hw51 : o5 = u5 := Eq.symm hw5
      subst hw51
      have hP : va_P (dC, dI) vwCl (wX11_findWay h0 h1 h2 h3 h4 h5 h6 h7 h8 kc1 kc2 kc3 kc4 kc5 kc6 kc7 kc8 V0 v0_rules v0_size v0_known v0_wayState v0_wayLong c1 c2 c3 c4 o5.2 c6 o5.1 c8) H := hP.sub [5, 0, 7, 1, 2, 8, 3, 6, 4] rfl
      have hD : va_D A (wX11_findWay h0 h1 h2 h3 h4 h5 h6 h7 h8 kc1 kc2 kc3 kc4 kc5 kc6 kc7 kc8 V0 v0_rules v0_size v0_known v0_wayState v0_wayLong c1 c2 c3 c4 o5.2 c6 o5.1 c8) := hD.sub [5, 0, 7, 1, 2, 8, 3, 6, 4] (by decide) rfl
      exact (hG _ _ _ _ _).mp (J278 k53 hk53 k88 hk88 y2 y3 y4 y5 z0 y7 y8 v0_known v0_wayState v0_wayLong c2 o5.2 o5.1 c8 H locs ls (hP.sub [0, 1, 2, 3, 4, 5, 6, 7, 8] rfl) (hD.sub [0, 1, 2, 3, 4, 5, 6, 7, 8] (by decide) rfl) hS (lv_sub hl [1, 2, 3, 4, 5, 0, 6, 7] rfl) hf)
    · replace hf := if_no hf cq3
      refine lv_aload_n hx hb dX11_findWay_239 rfl (lv_at hl 1 rfl) ?_
      refine va_get (D := (dC, dI)) (ci := 11) (v := .ref h8) (C := RX11) (T := TX11) (N := 71) hx hb hts inlX11 hown hK hP 0 rfl rfl 12 (by decide) w0_ (fun _ h9 => h9) rfl dX11_findWay_240 ?_
      refine lv_iload hx hb dX11_findWay_243 (lv_at hl 5 rfl) ?_
      refine lv_iload hx hb dX11_findWay_245 (lv_at hl 7 rfl) ?_
      have b6 := bd_in hf
      replace hf := bd_k hf
      obtain ⟨c6x, e6⟩ : ∃ y, y = upd c8 y5.toNatClampNeg y8 := ⟨_, rfl⟩
      replace hf := nm_at hf e6
      refine va_iast hx hb hK hP hD hS 8 7 rfl rfl b6 dX11_findWay_247 (fun H locs hP hD hS => ?_)
      have hP : va_P (dC, dI) vwCl (wX11_findWay h0 h1 h2 h3 h4 h5 h6 h7 h8 kc1 kc2 kc3 kc4 kc5 kc6 kc7 kc8 V0 v0_rules v0_size v0_known v0_wayState v0_wayLong c1 c2 c3 c4 c5 c6 c7 c6x) H := by rw [e6]; exact hP
      have hD : va_D A (wX11_findWay h0 h1 h2 h3 h4 h5 h6 h7 h8 kc1 kc2 kc3 kc4 kc5 kc6 kc7 kc8 V0 v0_rules v0_size v0_known v0_wayState v0_wayLong c1 c2 c3 c4 c5 c6 c7 c6x) := by rw [e6]; exact hD
      obtain ⟨x7, e7⟩ : ∃ y : Int32, y = y2 + (-1) := ⟨_, rfl⟩
      replace hf := nm_at hf e7
      refine lv_iinc (v := x7) (lv' := [(2, .int x7), (6, .int z0), (0, .ref h0), (3, .int y3), (4, .int y4), (5, .int y5), (7, .int y7), (8, .int y8), (9, .int y9), (10, .int y10)]) hx hb dX11_findWay_248 hl (k := 2) rfl (by rw [e7]; rfl) (by decide) rfl (fun ls hl => ?_)
      refine lv_aload_n hx hb dX11_findWay_251 rfl (lv_at hl 2 rfl) ?_
      refine va_get (D := (dC, dI)) (ci := 11) (v := .ref h3) (C := RX11) (T := TX11) (N := 71) hx hb hts inlX11 hown hK hP 0 rfl rfl 2 (by decide) w1_ (fun _ h9 => h9) rfl dX11_findWay_252 ?_
      refine lv_iload hx hb dX11_findWay_255 (lv_at hl 8 rfl) ?_
      refine lv_iconst (v := 2) hx hb dX11_findWay_257 (by decide +kernel) ?_
      refine lv_iadd hx hb dX11_findWay_258 ?_
      refine lv_topi (fun x8 e8 => ?_)
      replace hf := nm_at hf e8
      have b9 := bd_in hf
      replace hf := bd_k hf
      refine va_iald hx hb hK hP 3 2 rfl rfl b9 dX11_findWay_259 ?_
      refine lv_topi (fun x10 e10 => ?_)
      replace hf := nm_at hf e10
      refine lv_istore_n (lv' := [(3, .int x10), (2, .int x7), (6, .int z0), (0, .ref h0), (4, .int y4), (5, .int y5), (7, .int y7), (8, .int y8), (9, .int y9), (10, .int y10)]) hx hb dX11_findWay_260 rfl hl (by decide) rfl (fun ls hl => ?_)
      refine lv_iload hx hb dX11_findWay_261 (lv_at hl 9 rfl) ?_
      refine lv_istore (lv' := [(4, .int y10), (3, .int x10), (2, .int x7), (6, .int z0), (0, .ref h0), (5, .int y5), (7, .int y7), (8, .int y8), (9, .int y9), (10, .int y10)]) hx hb dX11_findWay_263 hl (by decide) rfl (fun ls hl => ?_)
      refine lv_goto (tgt := 278) hx hb dX11_findWay_265 (by decide) ?_
      exact (hG _ _ _ _ _).mp (J278 k53 hk53 k88 hk88 x7 x10 y10 y5 z0 y7 y8 v0_known v0_wayState v0_wayLong c2 c5 c7 c6x H locs ls (hP.sub [0, 1, 2, 3, 4, 5, 6, 7, 8] rfl) (hD.sub [0, 1, 2, 3, 4, 5, 6, 7, 8] (by decide) rfl) hS (lv_sub hl [4, 2, 1, 0, 5, 3, 6, 7] rfl) hf)
  have J201 : ∀ (k53 : Int32 → Int32 → Int32 → Int32 → Int32 → Int32 → Int32 → (Nat → Int32) → (Nat → Int32) → (Nat → Int32) → (Nat → Int32) → Option (Int32 × Int32 × Int32 × (Nat → Int32) × (Nat → Int32) × (Nat → Int32) × (Nat → Int32))) (hk53 : ∀ (y2 : Int32) (y3 : Int32) (y4 : Int32) (y5 : Int32) (v0_known : Int32) (v0_wayState : Int32) (v0_wayLong : Int32) (c2 : (Nat → Int32)) (c5 : (Nat → Int32)) (c7 : (Nat → Int32)) (c8 : (Nat → Int32)) (H : Heap) (locs : List Loc) (ls : Array Slot), va_P (dC, dI) vwCl (wX11_findWay h0 h1 h2 h3 h4 h5 h6 h7 h8 kc1 kc2 kc3 kc4 kc5 kc6 kc7 kc8 V0 v0_rules v0_size v0_known v0_wayState v0_wayLong c1 c2 c3 c4 c5 c6 c7 c8) H → va_D A (wX11_findWay h0 h1 h2 h3 h4 h5 h6 h7 h8 kc1 kc2 kc3 kc4 kc5 kc6 kc7 kc8 V0 v0_rules v0_size v0_known v0_wayState v0_wayLong c1 c2 c3 c4 c5 c6 c7 c8) → va_S A s.heap H locs → lv_has ls 11 [(0, .ref h0), (2, .int y2), (3, .int y3), (4, .int y4), (5, .int y5)] → k53 y2 y3 y4 y5 v0_known v0_wayState v0_wayLong c2 c5 c7 c8 = some o → G 0 0 H locs (F0 m 53 ls [])) (k88 : Int32 → Int32 → Int32 → Int32 → Int32 → Int32 → Int32 → Int32 → Int32 → Int32 → (Nat → Int32) → (Nat → Int32) → (Nat → Int32) → (Nat → Int32) → Option (Int32 × Int32 × Int32 × (Nat → Int32) × (Nat → Int32) × (Nat → Int32) × (Nat → Int32))) (hk88 : ∀ (y2 : Int32) (y3 : Int32) (y4 : Int32) (y5 : Int32) (y6 : Int32) (y7 : Int32) (y8 : Int32) (v0_known : Int32) (v0_wayState : Int32) (v0_wayLong : Int32) (c2 : (Nat → Int32)) (c5 : (Nat → Int32)) (c7 : (Nat → Int32)) (c8 : (Nat → Int32)) (H : Heap) (locs : List Loc) (ls : Array Slot), va_P (dC, dI) vwCl (wX11_findWay h0 h1 h2 h3 h4 h5 h6 h7 h8 kc1 kc2 kc3 kc4 kc5 kc6 kc7 kc8 V0 v0_rules v0_size v0_known v0_wayState v0_wayLong c1 c2 c3 c4 c5 c6 c7 c8) H → va_D A (wX11_findWay h0 h1 h2 h3 h4 h5 h6 h7 h8 kc1 kc2 kc3 kc4 kc5 kc6 kc7 kc8 V0 v0_rules v0_size v0_known v0_wayState v0_wayLong c1 c2 c3 c4 c5 c6 c7 c8) → va_S A s.heap H locs → lv_has ls 11 [(0, .ref h0), (2, .int y2), (3, .int y3), (4, .int y4), (5, .int y5), (6, .int y6), (7, .int y7), (8, .int y8)] → k88 y2 y3 y4 y5 y6 y7 y8 v0_known v0_wayState v0_wayLong c2 c5 c7 c8 = some o → G 0 0 H locs (F0 m 88 ls [])), ∀ (y2 : Int32) (y3 : Int32) (y4 : Int32) (y5 : Int32) (y7 : Int32) (y8 : Int32) (y9 : Int32) (y10 : Int32) (v0_known : Int32) (v0_wayState : Int32) (v0_wayLong : Int32) (c2 : (Nat → Int32)) (c5 : (Nat → Int32)) (c7 : (Nat → Int32)) (c8 : (Nat → Int32)) (H : Heap) (locs : List Loc) (ls : Array Slot), va_P (dC, dI) vwCl (wX11_findWay h0 h1 h2 h3 h4 h5 h6 h7 h8 kc1 kc2 kc3 kc4 kc5 kc6 kc7 kc8 V0 v0_rules v0_size v0_known v0_wayState v0_wayLong c1 c2 c3 c4 c5 c6 c7 c8) H → va_D A (wX11_findWay h0 h1 h2 h3 h4 h5 h6 h7 h8 kc1 kc2 kc3 kc4 kc5 kc6 kc7 kc8 V0 v0_rules v0_size v0_known v0_wayState v0_wayLong c1 c2 c3 c4 c5 c6 c7 c8) → va_S A s.heap H locs → lv_has ls 11 [(0, .ref h0), (2, .int y2), (3, .int y3), (4, .int y4), (5, .int y5), (7, .int y7), (8, .int y8), (9, .int y9), (10, .int y10)] → fX11_findWay_p201 v0_rules v0_size c1 c3 c4 c6 k53 k88 y2 y3 y4 y5 y7 y8 y9 y10 v0_known v0_wayState v0_wayLong c2 c5 c7 c8 = some o → G 0 0 H locs (F0 m 201 ls []) := by
    intro k53 hk53 k88 hk88 y2 y3 y4 y5 y7 y8 y9 y10 v0_known v0_wayState v0_wayLong c2 c5 c7 c8 H locs ls hP hD hS hl hf
    refine (hG _ _ _ _ _).mpr ?_
    unfold fX11_findWay_p201 at hf
    refine lv_aload_n hx hb dX11_findWay_201 rfl (lv_at hl 0 rfl) ?_
    refine va_get (D := (dC, dI)) (ci := 11) (v := .ref h5) (C := RX11) (T := TX11) (N := 71) hx hb hts inlX11 hown hK hP 0 rfl rfl 13 (by decide) w2_ (fun _ h9 => h9) rfl dX11_findWay_202 ?_
    refine lv_bipush (v := 16) hx hb dX11_findWay_205 (by decide +kernel) ?_
    refine lv_iload hx hb dX11_findWay_207 (lv_at hl 8 rfl) ?_
    refine lv_imul hx hb dX11_findWay_209 ?_
    refine lv_topi (fun x11 e11 => ?_)
    replace hf := nm_at hf e11
    refine lv_aload_n hx hb dX11_findWay_210 rfl (lv_at hl 0 rfl) ?_
    refine va_get (D := (dC, dI)) (ci := 11) (v := .ref h3) (C := RX11) (T := TX11) (N := 71) hx hb hts inlX11 hown hK hP 0 rfl rfl 2 (by decide) w1_ (fun _ h9 => h9) rfl dX11_findWay_211 ?_
    refine lv_iload hx hb dX11_findWay_214 (lv_at hl 7 rfl) ?_
    refine lv_iconst (v := 2) hx hb dX11_findWay_216 (by decide +kernel) ?_
    refine lv_iadd hx hb dX11_findWay_217 ?_
    refine lv_topi (fun x12 e12 => ?_)
    replace hf := nm_at hf e12
    have b13 := bd_in hf
    replace hf := bd_k hf
    refine va_iald hx hb hK hP 3 2 rfl rfl b13 dX11_findWay_218 ?_
    refine lv_topi (fun x14 e14 => ?_)
    replace hf := nm_at hf e14
    refine lv_iadd hx hb dX11_findWay_219 ?_
    refine lv_topi (fun x15 e15 => ?_)
    replace hf := nm_at hf e15
    have b16 := bd_in hf
    replace hf := bd_k hf
    refine va_iald hx hb hK hP 5 4 rfl rfl b16 dX11_findWay_220 ?_
    refine lv_topi (fun x17 e17 => ?_)
    replace hf := nm_at hf e17
    refine lv_iload_n hx hb dX11_findWay_221 rfl (lv_at hl 1 rfl) ?_
    refine lv_iconst (v := 1) hx hb dX11_findWay_222 (by decide +kernel) ?_
    refine lv_isub hx hb dX11_findWay_223 ?_
    refine lv_topi (fun x18 e18 => ?_)
    replace hf := nm_at hf e18
    refine lv_icmp_ne (tgt := 231) hx hb dX11_findWay_224 (by decide) (fun cq19 => ?_) (fun cq19 => ?_)
    · replace hf := if_no hf cq19
      refine lv_iconst (v := 0) hx hb dX11_findWay_231 (by decide +kernel) ?_
      exact (hG _ _ _ _ _).mp (J232 k53 hk53 k88 hk88 y2 y3 y4 y5 y7 y8 y9 y10 0 v0_known v0_wayState v0_wayLong c2 c5 c7 c8 H locs ls (hP.sub [0, 1, 2, 3, 4, 5, 6, 7, 8] rfl) (hD.sub [0, 1, 2, 3, 4, 5, 6, 7, 8] (by decide) rfl) hS (lv_sub hl [0, 1, 2, 3, 4, 5, 6, 7, 8] rfl) hf)
    · replace hf := if_at hf cq19
      refine lv_iconst (v := 1) hx hb dX11_findWay_227 (by decide +kernel) ?_
      refine lv_goto (tgt := 232) hx hb dX11_findWay_228 (by decide) ?_
      exact (hG _ _ _ _ _).mp (J232 k53 hk53 k88 hk88 y2 y3 y4 y5 y7 y8 y9 y10 1 v0_known v0_wayState v0_wayLong c2 c5 c7 c8 H locs ls (hP.sub [0, 1, 2, 3, 4, 5, 6, 7, 8] rfl) (hD.sub [0, 1, 2, 3, 4, 5, 6, 7, 8] (by decide) rfl) hS (lv_sub hl [0, 1, 2, 3, 4, 5, 6, 7, 8] rfl) hf)
  have J171 : ∀ (k53 : Int32 → Int32 → Int32 → Int32 → Int32 → Int32 → Int32 → (Nat → Int32) → (Nat → Int32) → (Nat → Int32) → (Nat → Int32) → Option (Int32 × Int32 × Int32 × (Nat → Int32) × (Nat → Int32) × (Nat → Int32) × (Nat → Int32))) (hk53 : ∀ (y2 : Int32) (y3 : Int32) (y4 : Int32) (y5 : Int32) (v0_known : Int32) (v0_wayState : Int32) (v0_wayLong : Int32) (c2 : (Nat → Int32)) (c5 : (Nat → Int32)) (c7 : (Nat → Int32)) (c8 : (Nat → Int32)) (H : Heap) (locs : List Loc) (ls : Array Slot), va_P (dC, dI) vwCl (wX11_findWay h0 h1 h2 h3 h4 h5 h6 h7 h8 kc1 kc2 kc3 kc4 kc5 kc6 kc7 kc8 V0 v0_rules v0_size v0_known v0_wayState v0_wayLong c1 c2 c3 c4 c5 c6 c7 c8) H → va_D A (wX11_findWay h0 h1 h2 h3 h4 h5 h6 h7 h8 kc1 kc2 kc3 kc4 kc5 kc6 kc7 kc8 V0 v0_rules v0_size v0_known v0_wayState v0_wayLong c1 c2 c3 c4 c5 c6 c7 c8) → va_S A s.heap H locs → lv_has ls 11 [(0, .ref h0), (2, .int y2), (3, .int y3), (4, .int y4), (5, .int y5)] → k53 y2 y3 y4 y5 v0_known v0_wayState v0_wayLong c2 c5 c7 c8 = some o → G 0 0 H locs (F0 m 53 ls [])) (k88 : Int32 → Int32 → Int32 → Int32 → Int32 → Int32 → Int32 → Int32 → Int32 → Int32 → (Nat → Int32) → (Nat → Int32) → (Nat → Int32) → (Nat → Int32) → Option (Int32 × Int32 × Int32 × (Nat → Int32) × (Nat → Int32) × (Nat → Int32) × (Nat → Int32))) (hk88 : ∀ (y2 : Int32) (y3 : Int32) (y4 : Int32) (y5 : Int32) (y6 : Int32) (y7 : Int32) (y8 : Int32) (v0_known : Int32) (v0_wayState : Int32) (v0_wayLong : Int32) (c2 : (Nat → Int32)) (c5 : (Nat → Int32)) (c7 : (Nat → Int32)) (c8 : (Nat → Int32)) (H : Heap) (locs : List Loc) (ls : Array Slot), va_P (dC, dI) vwCl (wX11_findWay h0 h1 h2 h3 h4 h5 h6 h7 h8 kc1 kc2 kc3 kc4 kc5 kc6 kc7 kc8 V0 v0_rules v0_size v0_known v0_wayState v0_wayLong c1 c2 c3 c4 c5 c6 c7 c8) H → va_D A (wX11_findWay h0 h1 h2 h3 h4 h5 h6 h7 h8 kc1 kc2 kc3 kc4 kc5 kc6 kc7 kc8 V0 v0_rules v0_size v0_known v0_wayState v0_wayLong c1 c2 c3 c4 c5 c6 c7 c8) → va_S A s.heap H locs → lv_has ls 11 [(0, .ref h0), (2, .int y2), (3, .int y3), (4, .int y4), (5, .int y5), (6, .int y6), (7, .int y7), (8, .int y8)] → k88 y2 y3 y4 y5 y6 y7 y8 v0_known v0_wayState v0_wayLong c2 c5 c7 c8 = some o → G 0 0 H locs (F0 m 88 ls [])), ∀ (y2 : Int32) (y3 : Int32) (y4 : Int32) (y5 : Int32) (y7 : Int32) (y8 : Int32) (y9 : Int32) (y10 : Int32) (v0_known : Int32) (v0_wayState : Int32) (v0_wayLong : Int32) (c2 : (Nat → Int32)) (c5 : (Nat → Int32)) (c7 : (Nat → Int32)) (c8 : (Nat → Int32)) (H : Heap) (locs : List Loc) (ls : Array Slot), va_P (dC, dI) vwCl (wX11_findWay h0 h1 h2 h3 h4 h5 h6 h7 h8 kc1 kc2 kc3 kc4 kc5 kc6 kc7 kc8 V0 v0_rules v0_size v0_known v0_wayState v0_wayLong c1 c2 c3 c4 c5 c6 c7 c8) H → va_D A (wX11_findWay h0 h1 h2 h3 h4 h5 h6 h7 h8 kc1 kc2 kc3 kc4 kc5 kc6 kc7 kc8 V0 v0_rules v0_size v0_known v0_wayState v0_wayLong c1 c2 c3 c4 c5 c6 c7 c8) → va_S A s.heap H locs → lv_has ls 11 [(0, .ref h0), (2, .int y2), (3, .int y3), (4, .int y4), (5, .int y5), (7, .int y7), (8, .int y8), (9, .int y9), (10, .int y10)] → fX11_findWay_p171 v0_rules v0_size c1 c3 c4 c6 k53 k88 y2 y3 y4 y5 y7 y8 y9 y10 v0_known v0_wayState v0_wayLong c2 c5 c7 c8 = some o → G 0 0 H locs (F0 m 171 ls []) := by
    intro k53 hk53 k88 hk88 y2 y3 y4 y5 y7 y8 y9 y10 v0_known v0_wayState v0_wayLong c2 c5 c7 c8 H locs ls hP hD hS hl hf
    refine (hG _ _ _ _ _).mpr ?_
    unfold fX11_findWay_p171 at hf
    refine lv_aload_n hx hb dX11_findWay_171 rfl (lv_at hl 0 rfl) ?_
    refine va_get (D := (dC, dI)) (ci := 11) (v := .ref h3) (C := RX11) (T := TX11) (N := 71) hx hb hts inlX11 hown hK hP 0 rfl rfl 2 (by decide) w1_ (fun _ h9 => h9) rfl dX11_findWay_172 ?_
    refine lv_iload hx hb dX11_findWay_175 (lv_at hl 7 rfl) ?_
    refine lv_iconst (v := 3) hx hb dX11_findWay_177 (by decide +kernel) ?_
    refine lv_iadd hx hb dX11_findWay_178 ?_
    refine lv_topi (fun x20 e20 => ?_)
    replace hf := nm_at hf e20
    have b21 := bd_in hf
    replace hf := bd_k hf
    refine va_iald hx hb hK hP 3 2 rfl rfl b21 dX11_findWay_179 ?_
    refine lv_topi (fun x22 e22 => ?_)
    replace hf := nm_at hf e22
    refine lv_if_le (tgt := 201) hx hb dX11_findWay_180 (by decide) (fun cq23 => ?_) (fun cq23 => ?_)
    · replace hf := if_at hf cq23
      exact (hG _ _ _ _ _).mp (J201 k53 hk53 k88 hk88 y2 y3 y4 y5 y7 y8 y9 y10 v0_known v0_wayState v0_wayLong c2 c5 c7 c8 H locs ls (hP.sub [0, 1, 2, 3, 4, 5, 6, 7, 8] rfl) (hD.sub [0, 1, 2, 3, 4, 5, 6, 7, 8] (by decide) rfl) hS (lv_sub hl [0, 1, 2, 3, 4, 5, 6, 7, 8] rfl) hf)
    · replace hf := if_no hf cq23
      refine lv_aload_n hx hb dX11_findWay_183 rfl (lv_at hl 0 rfl) ?_
      refine lv_iload hx hb dX11_findWay_184 (lv_at hl 8 rfl) ?_
      refine lv_aload_n hx hb dX11_findWay_186 rfl (lv_at hl 0 rfl) ?_
      refine va_get (D := (dC, dI)) (ci := 11) (v := .ref h3) (C := RX11) (T := TX11) (N := 71) hx hb hts inlX11 hown hK hP 0 rfl rfl 2 (by decide) w1_ (fun _ h9 => h9) rfl dX11_findWay_187 ?_
      refine lv_iload hx hb dX11_findWay_190 (lv_at hl 7 rfl) ?_
      refine lv_iconst (v := 4) hx hb dX11_findWay_192 (by decide +kernel) ?_
      refine lv_iadd hx hb dX11_findWay_193 ?_
      refine lv_topi (fun x24 e24 => ?_)
      replace hf := nm_at hf e24
      have b25 := bd_in hf
      replace hf := bd_k hf
      refine va_iald hx hb hK hP 3 2 rfl rfl b25 dX11_findWay_194 ?_
      refine lv_topi (fun x26 e26 => ?_)
      replace hf := nm_at hf e26
      obtain ⟨o27, e27, hf⟩ := ob_some hf
      refine kVv (As := [.int y10, .int x26]) (rest := []) ⟨hx, hb, hml, hown, hts⟩ (mX11_lay l dC dI h0 h7 h2 h5 kc7 kc2 kc5 H.size base y10 x26 c7 c2 c5 (fun k => match k with | 1 => .int v0_rules | 2 => .ref h3 | 4 => .ref h1 | 5 => .ref h4 | 6 => .int v0_size | 7 => .ref h6 | 8 => .int v0_known | 10 => .int v0_wayState | 11 => .int v0_wayLong | 12 => .ref h8 | k => V0 k) o27 e27) (cwV 2 hts (gTV q371 q372 q373 q5 q374) rfl rfl rfl (by decide +kernel) ⟨Nat.le_of_ble_eq_true rfl, Nat.le_of_ble_eq_true rfl⟩) hK hP hD hS hA hE hAB [0, 7, 2, 5] [1, 3, 4, 6, 8] [6, 1, 4] (wr := [(h1, .inl (kc1, 3072, .inl c1)), (h3, .inl (kc3, 288, .inl c3)), (h4, .inl (kc4, 16, .inl c4)), (h6, .inl (kc6, 30, .inl c6)), (h8, .inl (kc8, 2000, .inl c8))]) rfl rfl (by decide) (by decide) (by decide) rfl (ci := 11) (q0 := 0) rfl rfl rfl rfl hl.1 rfl (Nat.le_of_ble_eq_true rfl) dX11_findWay_195 ⟨Nat.zero_le _, Nat.zero_le _⟩ (fun u27 H locs hw27 hP hD hS => ?_)
      have hw271 : o27 = u27 := Eq.symm hw27
      subst hw271
      have hP : va_P (dC, dI) vwCl (wX11_findWay h0 h1 h2 h3 h4 h5 h6 h7 h8 kc1 kc2 kc3 kc4 kc5 kc6 kc7 kc8 V0 v0_rules v0_size v0_known v0_wayState v0_wayLong c1 c2 c3 c4 o27.2 c6 o27.1 c8) H := hP.sub [5, 0, 7, 1, 2, 8, 3, 6, 4] rfl
      have hD : va_D A (wX11_findWay h0 h1 h2 h3 h4 h5 h6 h7 h8 kc1 kc2 kc3 kc4 kc5 kc6 kc7 kc8 V0 v0_rules v0_size v0_known v0_wayState v0_wayLong c1 c2 c3 c4 o27.2 c6 o27.1 c8) := hD.sub [5, 0, 7, 1, 2, 8, 3, 6, 4] (by decide) rfl
      obtain ⟨x28, e28⟩ : ∃ y : Int32, y = y10 + 1 := ⟨_, rfl⟩
      replace hf := nm_at hf e28
      refine lv_iinc (v := x28) (lv' := [(10, .int x28), (0, .ref h0), (2, .int y2), (3, .int y3), (4, .int y4), (5, .int y5), (7, .int y7), (8, .int y8), (9, .int y9)]) hx hb dX11_findWay_198 hl (k := 8) rfl (by rw [e28]; rfl) (by decide) rfl (fun ls hl => ?_)
      exact (hG _ _ _ _ _).mp (J201 k53 hk53 k88 hk88 y2 y3 y4 y5 y7 y8 y9 x28 v0_known v0_wayState v0_wayLong c2 o27.2 o27.1 c8 H locs ls (hP.sub [0, 1, 2, 3, 4, 5, 6, 7, 8] rfl) (hD.sub [0, 1, 2, 3, 4, 5, 6, 7, 8] (by decide) rfl) hS (lv_sub hl [1, 2, 3, 4, 5, 6, 7, 8, 0] rfl) hf)
  have B88 : ∀ (k53 : Int32 → Int32 → Int32 → Int32 → Int32 → Int32 → Int32 → (Nat → Int32) → (Nat → Int32) → (Nat → Int32) → (Nat → Int32) → Option (Int32 × Int32 × Int32 × (Nat → Int32) × (Nat → Int32) × (Nat → Int32) × (Nat → Int32))) (hk53 : ∀ (y2 : Int32) (y3 : Int32) (y4 : Int32) (y5 : Int32) (v0_known : Int32) (v0_wayState : Int32) (v0_wayLong : Int32) (c2 : (Nat → Int32)) (c5 : (Nat → Int32)) (c7 : (Nat → Int32)) (c8 : (Nat → Int32)) (H : Heap) (locs : List Loc) (ls : Array Slot), va_P (dC, dI) vwCl (wX11_findWay h0 h1 h2 h3 h4 h5 h6 h7 h8 kc1 kc2 kc3 kc4 kc5 kc6 kc7 kc8 V0 v0_rules v0_size v0_known v0_wayState v0_wayLong c1 c2 c3 c4 c5 c6 c7 c8) H → va_D A (wX11_findWay h0 h1 h2 h3 h4 h5 h6 h7 h8 kc1 kc2 kc3 kc4 kc5 kc6 kc7 kc8 V0 v0_rules v0_size v0_known v0_wayState v0_wayLong c1 c2 c3 c4 c5 c6 c7 c8) → va_S A s.heap H locs → lv_has ls 11 [(0, .ref h0), (2, .int y2), (3, .int y3), (4, .int y4), (5, .int y5)] → k53 y2 y3 y4 y5 v0_known v0_wayState v0_wayLong c2 c5 c7 c8 = some o → G 0 0 H locs (F0 m 53 ls [])) (k88 : Int32 → Int32 → Int32 → Int32 → Int32 → Int32 → Int32 → Int32 → Int32 → Int32 → (Nat → Int32) → (Nat → Int32) → (Nat → Int32) → (Nat → Int32) → Option (Int32 × Int32 × Int32 × (Nat → Int32) × (Nat → Int32) × (Nat → Int32) × (Nat → Int32))) (hk88 : ∀ (y2 : Int32) (y3 : Int32) (y4 : Int32) (y5 : Int32) (y6 : Int32) (y7 : Int32) (y8 : Int32) (v0_known : Int32) (v0_wayState : Int32) (v0_wayLong : Int32) (c2 : (Nat → Int32)) (c5 : (Nat → Int32)) (c7 : (Nat → Int32)) (c8 : (Nat → Int32)) (H : Heap) (locs : List Loc) (ls : Array Slot), va_P (dC, dI) vwCl (wX11_findWay h0 h1 h2 h3 h4 h5 h6 h7 h8 kc1 kc2 kc3 kc4 kc5 kc6 kc7 kc8 V0 v0_rules v0_size v0_known v0_wayState v0_wayLong c1 c2 c3 c4 c5 c6 c7 c8) H → va_D A (wX11_findWay h0 h1 h2 h3 h4 h5 h6 h7 h8 kc1 kc2 kc3 kc4 kc5 kc6 kc7 kc8 V0 v0_rules v0_size v0_known v0_wayState v0_wayLong c1 c2 c3 c4 c5 c6 c7 c8) → va_S A s.heap H locs → lv_has ls 11 [(0, .ref h0), (2, .int y2), (3, .int y3), (4, .int y4), (5, .int y5), (6, .int y6), (7, .int y7), (8, .int y8)] → k88 y2 y3 y4 y5 y6 y7 y8 v0_known v0_wayState v0_wayLong c2 c5 c7 c8 = some o → G 0 0 H locs (F0 m 88 ls [])), ∀ (y2 : Int32) (y3 : Int32) (y4 : Int32) (y5 : Int32) (y6 : Int32) (y7 : Int32) (y8 : Int32) (v0_known : Int32) (v0_wayState : Int32) (v0_wayLong : Int32) (c2 : (Nat → Int32)) (c5 : (Nat → Int32)) (c7 : (Nat → Int32)) (c8 : (Nat → Int32)) (H : Heap) (locs : List Loc) (ls : Array Slot), va_P (dC, dI) vwCl (wX11_findWay h0 h1 h2 h3 h4 h5 h6 h7 h8 kc1 kc2 kc3 kc4 kc5 kc6 kc7 kc8 V0 v0_rules v0_size v0_known v0_wayState v0_wayLong c1 c2 c3 c4 c5 c6 c7 c8) H → va_D A (wX11_findWay h0 h1 h2 h3 h4 h5 h6 h7 h8 kc1 kc2 kc3 kc4 kc5 kc6 kc7 kc8 V0 v0_rules v0_size v0_known v0_wayState v0_wayLong c1 c2 c3 c4 c5 c6 c7 c8) → va_S A s.heap H locs → lv_has ls 11 [(0, .ref h0), (2, .int y2), (3, .int y3), (4, .int y4), (5, .int y5), (6, .int y6), (7, .int y7), (8, .int y8)] → fX11_findWay_b88 v0_rules v0_size c1 c3 c4 c6 k53 k88 y2 y3 y4 y5 y6 y7 y8 v0_known v0_wayState v0_wayLong c2 c5 c7 c8 = some o → G 0 0 H locs (F0 m 88 ls []) := by
    intro k53 hk53 k88 hk88 y2 y3 y4 y5 y6 y7 y8 v0_known v0_wayState v0_wayLong c2 c5 c7 c8 H locs ls hP hD hS hl hf
    refine (hG _ _ _ _ _).mpr ?_
    unfold fX11_findWay_b88 at hf
    refine lv_iload hx hb dX11_findWay_88 (lv_at hl 7 rfl) ?_
    refine lv_aload_n hx hb dX11_findWay_90 rfl (lv_at hl 0 rfl) ?_
    refine va_get (D := (dC, dI)) (ci := 11) (v := .int v0_rules) (C := RX11) (T := TX11) (N := 71) hx hb hts inlX11 hown hK hP 0 rfl rfl 1 (by decide) w3_ (fun _ h9 => h9) rfl dX11_findWay_91 ?_
    refine lv_icmp_ge (tgt := 284) hx hb dX11_findWay_94 (by decide) (fun cq29 => ?_) (fun cq29 => ?_)
    · replace hf := if_at hf cq29
      exact (hG _ _ _ _ _).mp (J284 k53 hk53 y2 y3 y4 y5 v0_known v0_wayState v0_wayLong c2 c5 c7 c8 H locs ls (hP.sub [0, 1, 2, 3, 4, 5, 6, 7, 8] rfl) (hD.sub [0, 1, 2, 3, 4, 5, 6, 7, 8] (by decide) rfl) hS (lv_sub hl [0, 1, 2, 3, 4] rfl) hf)
    · replace hf := if_no hf cq29
      refine lv_iload hx hb dX11_findWay_97 (lv_at hl 5 rfl) ?_
      refine lv_if_ne (tgt := 284) hx hb dX11_findWay_99 (by decide) (fun cq30 => ?_) (fun cq30 => ?_)
      · replace hf := if_no hf cq30
        exact (hG _ _ _ _ _).mp (J284 k53 hk53 y2 y3 y4 y5 v0_known v0_wayState v0_wayLong c2 c5 c7 c8 H locs ls (hP.sub [0, 1, 2, 3, 4, 5, 6, 7, 8] rfl) (hD.sub [0, 1, 2, 3, 4, 5, 6, 7, 8] (by decide) rfl) hS (lv_sub hl [0, 1, 2, 3, 4] rfl) hf)
      · replace hf := if_at hf cq30
        refine lv_bipush (v := 6) hx hb dX11_findWay_102 (by decide +kernel) ?_
        refine lv_iload hx hb dX11_findWay_104 (lv_at hl 7 rfl) ?_
        refine lv_imul hx hb dX11_findWay_106 ?_
        refine lv_topi (fun x31 e31 => ?_)
        replace hf := nm_at hf e31
        refine lv_istore (lv' := [(9, .int x31), (0, .ref h0), (2, .int y2), (3, .int y3), (4, .int y4), (5, .int y5), (6, .int y6), (7, .int y7), (8, .int y8)]) hx hb dX11_findWay_107 hl (by decide) rfl (fun ls hl => ?_)
        refine lv_aload_n hx hb dX11_findWay_109 rfl (lv_at hl 1 rfl) ?_
        refine va_get (D := (dC, dI)) (ci := 11) (v := .ref h3) (C := RX11) (T := TX11) (N := 71) hx hb hts inlX11 hown hK hP 0 rfl rfl 2 (by decide) w1_ (fun _ h9 => h9) rfl dX11_findWay_110 ?_
        refine lv_iload hx hb dX11_findWay_113 (lv_at hl 0 rfl) ?_
        have b32 := bd_in hf
        replace hf := bd_k hf
        refine va_iald hx hb hK hP 3 2 rfl rfl b32 dX11_findWay_115 ?_
        refine lv_topi (fun x33 e33 => ?_)
        replace hf := nm_at hf e33
        refine lv_iload_n hx hb dX11_findWay_116 rfl (lv_at hl 3 rfl) ?_
        refine lv_icmp_ne (tgt := 278) hx hb dX11_findWay_117 (by decide) (fun cq34 => ?_) (fun cq34 => ?_)
        · replace hf := if_no hf cq34
          exact (hG _ _ _ _ _).mp (J278 k53 hk53 k88 hk88 y2 y3 y4 y5 y6 y7 y8 v0_known v0_wayState v0_wayLong c2 c5 c7 c8 H locs ls (hP.sub [0, 1, 2, 3, 4, 5, 6, 7, 8] rfl) (hD.sub [0, 1, 2, 3, 4, 5, 6, 7, 8] (by decide) rfl) hS (lv_sub hl [1, 2, 3, 4, 5, 6, 7, 8] rfl) hf)
        · replace hf := if_at hf cq34
          refine lv_aload_n hx hb dX11_findWay_120 rfl (lv_at hl 1 rfl) ?_
          refine va_get (D := (dC, dI)) (ci := 11) (v := .ref h3) (C := RX11) (T := TX11) (N := 71) hx hb hts inlX11 hown hK hP 0 rfl rfl 2 (by decide) w1_ (fun _ h9 => h9) rfl dX11_findWay_121 ?_
          refine lv_iload hx hb dX11_findWay_124 (lv_at hl 0 rfl) ?_
          refine lv_iconst (v := 1) hx hb dX11_findWay_126 (by decide +kernel) ?_
          refine lv_iadd hx hb dX11_findWay_127 ?_
          refine lv_topi (fun x35 e35 => ?_)
          replace hf := nm_at hf e35
          have b36 := bd_in hf
          replace hf := bd_k hf
          refine va_iald hx hb hK hP 3 2 rfl rfl b36 dX11_findWay_128 ?_
          refine lv_topi (fun x37 e37 => ?_)
          replace hf := nm_at hf e37
          refine lv_iload hx hb dX11_findWay_129 (lv_at hl 7 rfl) ?_
          refine lv_icmp_ne (tgt := 278) hx hb dX11_findWay_131 (by decide) (fun cq38 => ?_) (fun cq38 => ?_)
          · replace hf := if_no hf cq38
            exact (hG _ _ _ _ _).mp (J278 k53 hk53 k88 hk88 y2 y3 y4 y5 y6 y7 y8 v0_known v0_wayState v0_wayLong c2 c5 c7 c8 H locs ls (hP.sub [0, 1, 2, 3, 4, 5, 6, 7, 8] rfl) (hD.sub [0, 1, 2, 3, 4, 5, 6, 7, 8] (by decide) rfl) hS (lv_sub hl [1, 2, 3, 4, 5, 6, 7, 8] rfl) hf)
          · replace hf := if_at hf cq38
            refine lv_iload hx hb dX11_findWay_134 (lv_at hl 4 rfl) ?_
            refine lv_iconst (v := 1) hx hb dX11_findWay_136 (by decide +kernel) ?_
            refine lv_isub hx hb dX11_findWay_137 ?_
            refine lv_topi (fun x39 e39 => ?_)
            replace hf := nm_at hf e39
            refine lv_istore (lv' := [(10, .int x39), (9, .int x31), (0, .ref h0), (2, .int y2), (3, .int y3), (4, .int y4), (5, .int y5), (6, .int y6), (7, .int y7), (8, .int y8)]) hx hb dX11_findWay_138 hl (by decide) rfl (fun ls hl => ?_)
            refine lv_aload_n hx hb dX11_findWay_140 rfl (lv_at hl 2 rfl) ?_
            refine va_get (D := (dC, dI)) (ci := 11) (v := .ref h3) (C := RX11) (T := TX11) (N := 71) hx hb hts inlX11 hown hK hP 0 rfl rfl 2 (by decide) w1_ (fun _ h9 => h9) rfl dX11_findWay_141 ?_
            refine lv_iload hx hb dX11_findWay_144 (lv_at hl 1 rfl) ?_
            refine lv_iconst (v := 3) hx hb dX11_findWay_146 (by decide +kernel) ?_
            refine lv_iadd hx hb dX11_findWay_147 ?_
            refine lv_topi (fun x40 e40 => ?_)
            replace hf := nm_at hf e40
            have b41 := bd_in hf
            replace hf := bd_k hf
            refine va_iald hx hb hK hP 3 2 rfl rfl b41 dX11_findWay_148 ?_
            refine lv_topi (fun x42 e42 => ?_)
            replace hf := nm_at hf e42
            refine lv_iconst (v := 2) hx hb dX11_findWay_149 (by decide +kernel) ?_
            refine lv_icmp_ne (tgt := 171) hx hb dX11_findWay_150 (by decide) (fun cq43 => ?_) (fun cq43 => ?_)
            · replace hf := if_no hf cq43
              exact (hG _ _ _ _ _).mp (J171 k53 hk53 k88 hk88 y2 y3 y4 y5 y7 y8 x31 x39 v0_known v0_wayState v0_wayLong c2 c5 c7 c8 H locs ls (hP.sub [0, 1, 2, 3, 4, 5, 6, 7, 8] rfl) (hD.sub [0, 1, 2, 3, 4, 5, 6, 7, 8] (by decide) rfl) hS (lv_sub hl [2, 3, 4, 5, 6, 8, 9, 1, 0] rfl) hf)
            · replace hf := if_at hf cq43
              refine lv_aload_n hx hb dX11_findWay_153 rfl (lv_at hl 2 rfl) ?_
              refine lv_iload hx hb dX11_findWay_154 (lv_at hl 0 rfl) ?_
              refine lv_aload_n hx hb dX11_findWay_156 rfl (lv_at hl 2 rfl) ?_
              refine va_get (D := (dC, dI)) (ci := 11) (v := .ref h3) (C := RX11) (T := TX11) (N := 71) hx hb hts inlX11 hown hK hP 0 rfl rfl 2 (by decide) w1_ (fun _ h9 => h9) rfl dX11_findWay_157 ?_
              refine lv_iload hx hb dX11_findWay_160 (lv_at hl 1 rfl) ?_
              refine lv_iconst (v := 5) hx hb dX11_findWay_162 (by decide +kernel) ?_
              refine lv_iadd hx hb dX11_findWay_163 ?_
              refine lv_topi (fun x44 e44 => ?_)
              replace hf := nm_at hf e44
              have b45 := bd_in hf
              replace hf := bd_k hf
              refine va_iald hx hb hK hP 3 2 rfl rfl b45 dX11_findWay_164 ?_
              refine lv_topi (fun x46 e46 => ?_)
              replace hf := nm_at hf e46
              obtain ⟨o47, e47, hf⟩ := ob_some hf
              refine kVv (As := [.int x39, .int x46]) (rest := []) ⟨hx, hb, hml, hown, hts⟩ (mX11_lay l dC dI h0 h7 h2 h5 kc7 kc2 kc5 H.size base x39 x46 c7 c2 c5 (fun k => match k with | 1 => .int v0_rules | 2 => .ref h3 | 4 => .ref h1 | 5 => .ref h4 | 6 => .int v0_size | 7 => .ref h6 | 8 => .int v0_known | 10 => .int v0_wayState | 11 => .int v0_wayLong | 12 => .ref h8 | k => V0 k) o47 e47) (cwV 2 hts (gTV q371 q372 q373 q5 q374) rfl rfl rfl (by decide +kernel) ⟨Nat.le_of_ble_eq_true rfl, Nat.le_of_ble_eq_true rfl⟩) hK hP hD hS hA hE hAB [0, 7, 2, 5] [1, 3, 4, 6, 8] [6, 1, 4] (wr := [(h1, .inl (kc1, 3072, .inl c1)), (h3, .inl (kc3, 288, .inl c3)), (h4, .inl (kc4, 16, .inl c4)), (h6, .inl (kc6, 30, .inl c6)), (h8, .inl (kc8, 2000, .inl c8))]) rfl rfl (by decide) (by decide) (by decide) rfl (ci := 11) (q0 := 0) rfl rfl rfl rfl hl.1 rfl (Nat.le_of_ble_eq_true rfl) dX11_findWay_165 ⟨Nat.zero_le _, Nat.zero_le _⟩ (fun u47 H locs hw47 hP hD hS => ?_)
              have hw471 : o47 = u47 := Eq.symm hw47
              subst hw471
              have hP : va_P (dC, dI) vwCl (wX11_findWay h0 h1 h2 h3 h4 h5 h6 h7 h8 kc1 kc2 kc3 kc4 kc5 kc6 kc7 kc8 V0 v0_rules v0_size v0_known v0_wayState v0_wayLong c1 c2 c3 c4 o47.2 c6 o47.1 c8) H := hP.sub [5, 0, 7, 1, 2, 8, 3, 6, 4] rfl
              have hD : va_D A (wX11_findWay h0 h1 h2 h3 h4 h5 h6 h7 h8 kc1 kc2 kc3 kc4 kc5 kc6 kc7 kc8 V0 v0_rules v0_size v0_known v0_wayState v0_wayLong c1 c2 c3 c4 o47.2 c6 o47.1 c8) := hD.sub [5, 0, 7, 1, 2, 8, 3, 6, 4] (by decide) rfl
              obtain ⟨x48, e48⟩ : ∃ y : Int32, y = x39 + 1 := ⟨_, rfl⟩
              replace hf := nm_at hf e48
              refine lv_iinc (v := x48) (lv' := [(10, .int x48), (9, .int x31), (0, .ref h0), (2, .int y2), (3, .int y3), (4, .int y4), (5, .int y5), (6, .int y6), (7, .int y7), (8, .int y8)]) hx hb dX11_findWay_168 hl (k := 0) rfl (by rw [e48]; rfl) (by decide) rfl (fun ls hl => ?_)
              exact (hG _ _ _ _ _).mp (J171 k53 hk53 k88 hk88 y2 y3 y4 y5 y7 y8 x31 x48 v0_known v0_wayState v0_wayLong c2 o47.2 o47.1 c8 H locs ls (hP.sub [0, 1, 2, 3, 4, 5, 6, 7, 8] rfl) (hD.sub [0, 1, 2, 3, 4, 5, 6, 7, 8] (by decide) rfl) hS (lv_sub hl [2, 3, 4, 5, 6, 8, 9, 1, 0] rfl) hf)
  have L88 : ∀ (k53 : Int32 → Int32 → Int32 → Int32 → Int32 → Int32 → Int32 → (Nat → Int32) → (Nat → Int32) → (Nat → Int32) → (Nat → Int32) → Option (Int32 × Int32 × Int32 × (Nat → Int32) × (Nat → Int32) × (Nat → Int32) × (Nat → Int32))) (hk53 : ∀ (y2 : Int32) (y3 : Int32) (y4 : Int32) (y5 : Int32) (v0_known : Int32) (v0_wayState : Int32) (v0_wayLong : Int32) (c2 : (Nat → Int32)) (c5 : (Nat → Int32)) (c7 : (Nat → Int32)) (c8 : (Nat → Int32)) (H : Heap) (locs : List Loc) (ls : Array Slot), va_P (dC, dI) vwCl (wX11_findWay h0 h1 h2 h3 h4 h5 h6 h7 h8 kc1 kc2 kc3 kc4 kc5 kc6 kc7 kc8 V0 v0_rules v0_size v0_known v0_wayState v0_wayLong c1 c2 c3 c4 c5 c6 c7 c8) H → va_D A (wX11_findWay h0 h1 h2 h3 h4 h5 h6 h7 h8 kc1 kc2 kc3 kc4 kc5 kc6 kc7 kc8 V0 v0_rules v0_size v0_known v0_wayState v0_wayLong c1 c2 c3 c4 c5 c6 c7 c8) → va_S A s.heap H locs → lv_has ls 11 [(0, .ref h0), (2, .int y2), (3, .int y3), (4, .int y4), (5, .int y5)] → k53 y2 y3 y4 y5 v0_known v0_wayState v0_wayLong c2 c5 c7 c8 = some o → G 0 0 H locs (F0 m 53 ls [])) (n : Nat), ∀ (y2 : Int32) (y3 : Int32) (y4 : Int32) (y5 : Int32) (y6 : Int32) (y7 : Int32) (y8 : Int32) (v0_known : Int32) (v0_wayState : Int32) (v0_wayLong : Int32) (c2 : (Nat → Int32)) (c5 : (Nat → Int32)) (c7 : (Nat → Int32)) (c8 : (Nat → Int32)) (H : Heap) (locs : List Loc) (ls : Array Slot), va_P (dC, dI) vwCl (wX11_findWay h0 h1 h2 h3 h4 h5 h6 h7 h8 kc1 kc2 kc3 kc4 kc5 kc6 kc7 kc8 V0 v0_rules v0_size v0_known v0_wayState v0_wayLong c1 c2 c3 c4 c5 c6 c7 c8) H → va_D A (wX11_findWay h0 h1 h2 h3 h4 h5 h6 h7 h8 kc1 kc2 kc3 kc4 kc5 kc6 kc7 kc8 V0 v0_rules v0_size v0_known v0_wayState v0_wayLong c1 c2 c3 c4 c5 c6 c7 c8) → va_S A s.heap H locs → lv_has ls 11 [(0, .ref h0), (2, .int y2), (3, .int y3), (4, .int y4), (5, .int y5), (6, .int y6), (7, .int y7), (8, .int y8)] → fX11_findWay_l88 v0_rules v0_size c1 c3 c4 c6 k53 n y2 y3 y4 y5 y6 y7 y8 v0_known v0_wayState v0_wayLong c2 c5 c7 c8 = some o → G 0 0 H locs (F0 m 88 ls []) := by
    intro k53 hk53 n
    induction n with
    | zero => intro y2 y3 y4 y5 y6 y7 y8 v0_known v0_wayState v0_wayLong c2 c5 c7 c8 H locs ls _ _ _ _ hf; cases hf
    | succ n ih => exact B88 k53 hk53 _ ih
  have J83 : ∀ (k53 : Int32 → Int32 → Int32 → Int32 → Int32 → Int32 → Int32 → (Nat → Int32) → (Nat → Int32) → (Nat → Int32) → (Nat → Int32) → Option (Int32 × Int32 × Int32 × (Nat → Int32) × (Nat → Int32) × (Nat → Int32) × (Nat → Int32))) (hk53 : ∀ (y2 : Int32) (y3 : Int32) (y4 : Int32) (y5 : Int32) (v0_known : Int32) (v0_wayState : Int32) (v0_wayLong : Int32) (c2 : (Nat → Int32)) (c5 : (Nat → Int32)) (c7 : (Nat → Int32)) (c8 : (Nat → Int32)) (H : Heap) (locs : List Loc) (ls : Array Slot), va_P (dC, dI) vwCl (wX11_findWay h0 h1 h2 h3 h4 h5 h6 h7 h8 kc1 kc2 kc3 kc4 kc5 kc6 kc7 kc8 V0 v0_rules v0_size v0_known v0_wayState v0_wayLong c1 c2 c3 c4 c5 c6 c7 c8) H → va_D A (wX11_findWay h0 h1 h2 h3 h4 h5 h6 h7 h8 kc1 kc2 kc3 kc4 kc5 kc6 kc7 kc8 V0 v0_rules v0_size v0_known v0_wayState v0_wayLong c1 c2 c3 c4 c5 c6 c7 c8) → va_S A s.heap H locs → lv_has ls 11 [(0, .ref h0), (2, .int y2), (3, .int y3), (4, .int y4), (5, .int y5)] → k53 y2 y3 y4 y5 v0_known v0_wayState v0_wayLong c2 c5 c7 c8 = some o → G 0 0 H locs (F0 m 53 ls [])), ∀ (y2 : Int32) (y3 : Int32) (y4 : Int32) (y5 : Int32) (y6 : Int32) (z0 : Int32) (v0_known : Int32) (v0_wayState : Int32) (v0_wayLong : Int32) (c2 : (Nat → Int32)) (c5 : (Nat → Int32)) (c7 : (Nat → Int32)) (c8 : (Nat → Int32)) (H : Heap) (locs : List Loc) (ls : Array Slot), va_P (dC, dI) vwCl (wX11_findWay h0 h1 h2 h3 h4 h5 h6 h7 h8 kc1 kc2 kc3 kc4 kc5 kc6 kc7 kc8 V0 v0_rules v0_size v0_known v0_wayState v0_wayLong c1 c2 c3 c4 c5 c6 c7 c8) H → va_D A (wX11_findWay h0 h1 h2 h3 h4 h5 h6 h7 h8 kc1 kc2 kc3 kc4 kc5 kc6 kc7 kc8 V0 v0_rules v0_size v0_known v0_wayState v0_wayLong c1 c2 c3 c4 c5 c6 c7 c8) → va_S A s.heap H locs → lv_has ls 11 [(0, .ref h0), (2, .int y2), (3, .int y3), (4, .int y4), (5, .int y5), (6, .int y6)] → fX11_findWay_p83 v0_rules v0_size c1 c3 c4 c6 k53 y2 y3 y4 y5 y6 z0 v0_known v0_wayState v0_wayLong c2 c5 c7 c8 = some o → G 0 0 H locs (F0 m 83 ls [.int z0]) := by
    intro k53 hk53 y2 y3 y4 y5 y6 z0 v0_known v0_wayState v0_wayLong c2 c5 c7 c8 H locs ls hP hD hS hl hf
    refine (hG _ _ _ _ _).mpr ?_
    unfold fX11_findWay_p83 at hf
    refine lv_istore (lv' := [(7, .int z0), (0, .ref h0), (2, .int y2), (3, .int y3), (4, .int y4), (5, .int y5), (6, .int y6)]) hx hb dX11_findWay_83 hl (by decide) rfl (fun ls hl => ?_)
    refine lv_iconst (v := 0) hx hb dX11_findWay_85 (by decide +kernel) ?_
    refine lv_istore (lv' := [(8, .int 0), (7, .int z0), (0, .ref h0), (2, .int y2), (3, .int y3), (4, .int y4), (5, .int y5), (6, .int y6)]) hx hb dX11_findWay_86 hl (by decide) rfl (fun ls hl => ?_)
    exact (hG _ _ _ _ _).mp (L88 k53 hk53 FU y2 y3 y4 y5 y6 z0 0 v0_known v0_wayState v0_wayLong c2 c5 c7 c8 H locs ls (hP.sub [0, 1, 2, 3, 4, 5, 6, 7, 8] rfl) (hD.sub [0, 1, 2, 3, 4, 5, 6, 7, 8] (by decide) rfl) hS (lv_sub hl [2, 3, 4, 5, 6, 7, 1, 0] rfl) hf)
  have B53 : ∀ (k53 : Int32 → Int32 → Int32 → Int32 → Int32 → Int32 → Int32 → (Nat → Int32) → (Nat → Int32) → (Nat → Int32) → (Nat → Int32) → Option (Int32 × Int32 × Int32 × (Nat → Int32) × (Nat → Int32) × (Nat → Int32) × (Nat → Int32))) (hk53 : ∀ (y2 : Int32) (y3 : Int32) (y4 : Int32) (y5 : Int32) (v0_known : Int32) (v0_wayState : Int32) (v0_wayLong : Int32) (c2 : (Nat → Int32)) (c5 : (Nat → Int32)) (c7 : (Nat → Int32)) (c8 : (Nat → Int32)) (H : Heap) (locs : List Loc) (ls : Array Slot), va_P (dC, dI) vwCl (wX11_findWay h0 h1 h2 h3 h4 h5 h6 h7 h8 kc1 kc2 kc3 kc4 kc5 kc6 kc7 kc8 V0 v0_rules v0_size v0_known v0_wayState v0_wayLong c1 c2 c3 c4 c5 c6 c7 c8) H → va_D A (wX11_findWay h0 h1 h2 h3 h4 h5 h6 h7 h8 kc1 kc2 kc3 kc4 kc5 kc6 kc7 kc8 V0 v0_rules v0_size v0_known v0_wayState v0_wayLong c1 c2 c3 c4 c5 c6 c7 c8) → va_S A s.heap H locs → lv_has ls 11 [(0, .ref h0), (2, .int y2), (3, .int y3), (4, .int y4), (5, .int y5)] → k53 y2 y3 y4 y5 v0_known v0_wayState v0_wayLong c2 c5 c7 c8 = some o → G 0 0 H locs (F0 m 53 ls [])), ∀ (y2 : Int32) (y3 : Int32) (y4 : Int32) (y5 : Int32) (v0_known : Int32) (v0_wayState : Int32) (v0_wayLong : Int32) (c2 : (Nat → Int32)) (c5 : (Nat → Int32)) (c7 : (Nat → Int32)) (c8 : (Nat → Int32)) (H : Heap) (locs : List Loc) (ls : Array Slot), va_P (dC, dI) vwCl (wX11_findWay h0 h1 h2 h3 h4 h5 h6 h7 h8 kc1 kc2 kc3 kc4 kc5 kc6 kc7 kc8 V0 v0_rules v0_size v0_known v0_wayState v0_wayLong c1 c2 c3 c4 c5 c6 c7 c8) H → va_D A (wX11_findWay h0 h1 h2 h3 h4 h5 h6 h7 h8 kc1 kc2 kc3 kc4 kc5 kc6 kc7 kc8 V0 v0_rules v0_size v0_known v0_wayState v0_wayLong c1 c2 c3 c4 c5 c6 c7 c8) → va_S A s.heap H locs → lv_has ls 11 [(0, .ref h0), (2, .int y2), (3, .int y3), (4, .int y4), (5, .int y5)] → fX11_findWay_b53 v0_rules v0_size c1 c3 c4 c6  k53 y2 y3 y4 y5 v0_known v0_wayState v0_wayLong c2 c5 c7 c8 = some o → G 0 0 H locs (F0 m 53 ls []) := by
    intro  k53 hk53 y2 y3 y4 y5 v0_known v0_wayState v0_wayLong c2 c5 c7 c8 H locs ls hP hD hS hl hf
    refine (hG _ _ _ _ _).mpr ?_
    unfold fX11_findWay_b53 at hf
    refine lv_iload hx hb dX11_findWay_53 (lv_at hl 4 rfl) ?_
    refine lv_aload_n hx hb dX11_findWay_55 rfl (lv_at hl 0 rfl) ?_
    refine va_get (D := (dC, dI)) (ci := 11) (v := .int v0_wayLong) (C := RX11) (T := TX11) (N := 71) hx hb hts inlX11 hown hK hP 0 rfl rfl 11 (by decide) w4_ (fun _ h9 => h9) rfl dX11_findWay_56 ?_
    refine lv_icmp_ge (tgt := 290) hx hb dX11_findWay_59 (by decide) (fun cq49 => ?_) (fun cq49 => ?_)
    · replace hf := if_at hf cq49
      have hf1 := Option.some.inj hf
      subst hf1
      have hP9 := hP.sub (ws' := (wX11_findWay h0 h1 h2 h3 h4 h5 h6 h7 h8 kc1 kc2 kc3 kc4 kc5 kc6 kc7 kc8 V0 v0_rules v0_size v0_known v0_wayState v0_wayLong c1 c2 c3 c4 c5 c6 c7 c8)) [0, 1, 2, 3, 4, 5, 6, 7, 8] rfl
      have hD9 := hD.sub (ws' := (wX11_findWay h0 h1 h2 h3 h4 h5 h6 h7 h8 kc1 kc2 kc3 kc4 kc5 kc6 kc7 kc8 V0 v0_rules v0_size v0_known v0_wayState v0_wayLong c1 c2 c3 c4 c5 c6 c7 c8)) [0, 1, 2, 3, 4, 5, 6, 7, 8] (by decide) rfl
      exact W.vret hx hb hr (fun t ht hW => ⟨⟨(v0_known, v0_wayState, v0_wayLong, c2, c5, c7, c8), rfl, rfl, by rw [ht]; exact hP9, va_K.moved hW.alike hK, hD9⟩, hS.F ht⟩) hS.2.2 dX11_findWay_290
    · replace hf := if_no hf cq49
      refine lv_iconst (v := 0) hx hb dX11_findWay_62 (by decide +kernel) ?_
      refine lv_istore (lv' := [(6, .int 0), (0, .ref h0), (2, .int y2), (3, .int y3), (4, .int y4), (5, .int y5)]) hx hb dX11_findWay_63 hl (by decide) rfl (fun ls hl => ?_)
      refine lv_iload hx hb dX11_findWay_65 (lv_at hl 4 rfl) ?_
      refine lv_if_le (tgt := 82) hx hb dX11_findWay_67 (by decide) (fun cq50 => ?_) (fun cq50 => ?_)
      · replace hf := if_at hf cq50
        refine lv_iconst (v := (-1)) hx hb dX11_findWay_82 (by decide +kernel) ?_
        exact (hG _ _ _ _ _).mp (J83 k53 hk53 y2 y3 y4 y5 0 (-1) v0_known v0_wayState v0_wayLong c2 c5 c7 c8 H locs ls (hP.sub [0, 1, 2, 3, 4, 5, 6, 7, 8] rfl) (hD.sub [0, 1, 2, 3, 4, 5, 6, 7, 8] (by decide) rfl) hS (lv_sub hl [1, 2, 3, 4, 5, 0] rfl) hf)
      · replace hf := if_no hf cq50
        refine lv_aload_n hx hb dX11_findWay_70 rfl (lv_at hl 1 rfl) ?_
        refine va_get (D := (dC, dI)) (ci := 11) (v := .ref h7) (C := RX11) (T := TX11) (N := 71) hx hb hts inlX11 hown hK hP 0 rfl rfl 14 (by decide) w5_ (fun _ h9 => h9) rfl dX11_findWay_71 ?_
        refine lv_iload hx hb dX11_findWay_74 (lv_at hl 4 rfl) ?_
        refine lv_iconst (v := 1) hx hb dX11_findWay_76 (by decide +kernel) ?_
        refine lv_isub hx hb dX11_findWay_77 ?_
        refine lv_topi (fun x51 e51 => ?_)
        replace hf := nm_at hf e51
        have b52 := bd_in hf
        replace hf := bd_k hf
        refine va_iald hx hb hK hP 7 6 rfl rfl b52 dX11_findWay_78 ?_
        refine lv_topi (fun x53 e53 => ?_)
        replace hf := nm_at hf e53
        refine lv_goto (tgt := 83) hx hb dX11_findWay_79 (by decide) ?_
        exact (hG _ _ _ _ _).mp (J83 k53 hk53 y2 y3 y4 y5 0 x53 v0_known v0_wayState v0_wayLong c2 c5 c7 c8 H locs ls (hP.sub [0, 1, 2, 3, 4, 5, 6, 7, 8] rfl) (hD.sub [0, 1, 2, 3, 4, 5, 6, 7, 8] (by decide) rfl) hS (lv_sub hl [1, 2, 3, 4, 5, 0] rfl) hf)
  have L53 : ∀ (n : Nat), ∀ (y2 : Int32) (y3 : Int32) (y4 : Int32) (y5 : Int32) (v0_known : Int32) (v0_wayState : Int32) (v0_wayLong : Int32) (c2 : (Nat → Int32)) (c5 : (Nat → Int32)) (c7 : (Nat → Int32)) (c8 : (Nat → Int32)) (H : Heap) (locs : List Loc) (ls : Array Slot), va_P (dC, dI) vwCl (wX11_findWay h0 h1 h2 h3 h4 h5 h6 h7 h8 kc1 kc2 kc3 kc4 kc5 kc6 kc7 kc8 V0 v0_rules v0_size v0_known v0_wayState v0_wayLong c1 c2 c3 c4 c5 c6 c7 c8) H → va_D A (wX11_findWay h0 h1 h2 h3 h4 h5 h6 h7 h8 kc1 kc2 kc3 kc4 kc5 kc6 kc7 kc8 V0 v0_rules v0_size v0_known v0_wayState v0_wayLong c1 c2 c3 c4 c5 c6 c7 c8) → va_S A s.heap H locs → lv_has ls 11 [(0, .ref h0), (2, .int y2), (3, .int y3), (4, .int y4), (5, .int y5)] → fX11_findWay_l53 v0_rules v0_size c1 c3 c4 c6  n y2 y3 y4 y5 v0_known v0_wayState v0_wayLong c2 c5 c7 c8 = some o → G 0 0 H locs (F0 m 53 ls []) := by
    intro  n
    induction n with
    | zero => intro y2 y3 y4 y5 v0_known v0_wayState v0_wayLong c2 c5 c7 c8 H locs ls _ _ _ _ hf; cases hf
    | succ n ih => exact B53  _ ih
  refine (hG _ _ _ _ _).mpr ?_
  obtain ⟨H, hH⟩ : ∃ H, H = s.heap := ⟨_, rfl⟩
  have hS : va_S A s.heap H [] := by rw [hH]; exact hS
  rw [← hH] at hP ⊢
  generalize ([] : List Loc) = locs at hS ⊢
  unfold fX11_findWay at hf
  refine lv_aload_n hx hb dX11_findWay_0 rfl (lv_at hl 0 rfl) ?_
  obtain ⟨o54, e54, hf⟩ := ob_some hf
  refine kVv (As := []) (rest := []) ⟨hx, hb, hml, hown, hts⟩ (mX11_layWord l dC dI h0 h1 h2 h3 h4 h5 h6 h7 kc1 kc2 kc3 kc4 kc5 kc6 kc7 H.size base v0_rules v0_size v0_known c1 c2 c3 c4 c5 c6 c7 (fun k => match k with | 10 => .int v0_wayState | 11 => .int v0_wayLong | 12 => .ref h8 | k => V0 k) o54 e54) (cwV 0 hts (gTV q355 q356 q357 q5 q358) rfl rfl rfl (by decide +kernel) ⟨Nat.le_of_ble_eq_true rfl, Nat.le_of_ble_eq_true rfl⟩) hK hP hD hS hA hE hAB [0, 1, 2, 3, 4, 5, 6, 7] [8] [0, 1, 2, 3, 4, 5, 6] (wr := [(h8, .inl (kc8, 2000, .inl c8))]) rfl rfl (by decide) (by decide) (by decide) rfl (ci := 11) (q0 := 0) rfl rfl rfl rfl hl.1 rfl (Nat.le_of_ble_eq_true rfl) dX11_findWay_1 ⟨Nat.zero_le _, Nat.zero_le _⟩ (fun u54 H locs hw54 hP hD hS => ?_)
  have hw541 : o54 = u54 := Eq.symm hw54
  subst hw541
  have hP : va_P (dC, dI) vwCl (wX11_findWay h0 h1 h2 h3 h4 h5 h6 h7 h8 kc1 kc2 kc3 kc4 kc5 kc6 kc7 kc8 V0 v0_rules v0_size o54.1 v0_wayState v0_wayLong c1 o54.2.1 c3 c4 o54.2.2.1 c6 o54.2.2.2 c8) H := hP.sub [1, 2, 3, 4, 5, 6, 7, 8, 0] rfl
  have hD : va_D A (wX11_findWay h0 h1 h2 h3 h4 h5 h6 h7 h8 kc1 kc2 kc3 kc4 kc5 kc6 kc7 kc8 V0 v0_rules v0_size o54.1 v0_wayState v0_wayLong c1 o54.2.1 c3 c4 o54.2.2.1 c6 o54.2.2.2 c8) := hD.sub [1, 2, 3, 4, 5, 6, 7, 8, 0] (by decide) rfl
  refine lv_aload_n hx hb dX11_findWay_4 rfl (lv_at hl 0 rfl) ?_
  refine lv_iload_n hx hb dX11_findWay_5 rfl (lv_at hl 1 rfl) ?_
  refine va_put (D := (dC, dI)) (ci := 11) (v := .int a0) (ty := .int) (C := RX11) (T := TX11) (N := 71) hx hb hts inlX11 tyX11 tyX11_ok nmX11 hown hK hP hD hS 0 rfl rfl 10 (by decide) w6_ (fun _ h9 => h9) rfl (by decide +kernel) rfl rfl (Nat.le_of_ble_eq_true rfl) dX11_findWay_6 (fun H locs hP hD hS => ?_)
  have hP : va_P (dC, dI) vwCl (wX11_findWay h0 h1 h2 h3 h4 h5 h6 h7 h8 kc1 kc2 kc3 kc4 kc5 kc6 kc7 kc8 V0 v0_rules v0_size o54.1 a0 v0_wayLong c1 o54.2.1 c3 c4 o54.2.2.1 c6 o54.2.2.2 c8) H := hP
  have hD : va_D A (wX11_findWay h0 h1 h2 h3 h4 h5 h6 h7 h8 kc1 kc2 kc3 kc4 kc5 kc6 kc7 kc8 V0 v0_rules v0_size o54.1 a0 v0_wayLong c1 o54.2.1 c3 c4 o54.2.2.1 c6 o54.2.2.2 c8) := hD
  refine lv_aload_n hx hb dX11_findWay_9 rfl (lv_at hl 0 rfl) ?_
  refine lv_iconst (v := 0) hx hb dX11_findWay_10 (by decide +kernel) ?_
  refine va_put (D := (dC, dI)) (ci := 11) (v := .int 0) (ty := .int) (C := RX11) (T := TX11) (N := 71) hx hb hts inlX11 tyX11 tyX11_ok nmX11 hown hK hP hD hS 0 rfl rfl 11 (by decide) w4_ (fun _ h9 => h9) rfl (by decide +kernel) rfl rfl (Nat.le_of_ble_eq_true rfl) dX11_findWay_11 (fun H locs hP hD hS => ?_)
  have hP : va_P (dC, dI) vwCl (wX11_findWay h0 h1 h2 h3 h4 h5 h6 h7 h8 kc1 kc2 kc3 kc4 kc5 kc6 kc7 kc8 V0 v0_rules v0_size o54.1 a0 0 c1 o54.2.1 c3 c4 o54.2.2.1 c6 o54.2.2.2 c8) H := hP
  have hD : va_D A (wX11_findWay h0 h1 h2 h3 h4 h5 h6 h7 h8 kc1 kc2 kc3 kc4 kc5 kc6 kc7 kc8 V0 v0_rules v0_size o54.1 a0 0 c1 o54.2.1 c3 c4 o54.2.2.1 c6 o54.2.2.2 c8) := hD
  refine lv_aload_n hx hb dX11_findWay_14 rfl (lv_at hl 0 rfl) ?_
  refine va_get (D := (dC, dI)) (ci := 11) (v := .ref h5) (C := RX11) (T := TX11) (N := 71) hx hb hts inlX11 hown hK hP 0 rfl rfl 13 (by decide) w2_ (fun _ h9 => h9) rfl dX11_findWay_15 ?_
  refine lv_bipush (v := 16) hx hb dX11_findWay_18 (by decide +kernel) ?_
  refine lv_aload_n hx hb dX11_findWay_20 rfl (lv_at hl 0 rfl) ?_
  refine va_get (D := (dC, dI)) (ci := 11) (v := .int v0_size) (C := RX11) (T := TX11) (N := 71) hx hb hts inlX11 hown hK hP 0 rfl rfl 6 (by decide) w7_ (fun _ h9 => h9) rfl dX11_findWay_21 ?_
  refine lv_imul hx hb dX11_findWay_24 ?_
  refine lv_topi (fun x55 e55 => ?_)
  replace hf := nm_at hf e55
  refine lv_iload_n hx hb dX11_findWay_25 rfl (lv_at hl 1 rfl) ?_
  refine lv_iadd hx hb dX11_findWay_26 ?_
  refine lv_topi (fun x56 e56 => ?_)
  replace hf := nm_at hf e56
  have b57 := bd_in hf
  replace hf := bd_k hf
  refine va_iald hx hb hK hP 5 4 rfl rfl b57 dX11_findWay_27 ?_
  refine lv_topi (fun x58 e58 => ?_)
  replace hf := nm_at hf e58
  refine lv_istore_n (lv' := [(2, .int x58), (0, .ref h0), (1, .int a0)]) hx hb dX11_findWay_28 rfl hl (by decide) rfl (fun ls hl => ?_)
  refine lv_iload_n hx hb dX11_findWay_29 rfl (lv_at hl 0 rfl) ?_
  refine lv_sipush (v := 2000) hx hb dX11_findWay_30 (by decide +kernel) ?_
  refine lv_icmp_le (tgt := 37) hx hb dX11_findWay_33 (by decide) (fun cq59 => ?_) (fun cq59 => ?_)
  · replace hf := if_at hf cq59
    refine lv_aload_n hx hb dX11_findWay_37 rfl (lv_at hl 1 rfl) ?_
    refine lv_iload_n hx hb dX11_findWay_38 rfl (lv_at hl 0 rfl) ?_
    refine va_put (D := (dC, dI)) (ci := 11) (v := .int x58) (ty := .int) (C := RX11) (T := TX11) (N := 71) hx hb hts inlX11 tyX11 tyX11_ok nmX11 hown hK hP hD hS 0 rfl rfl 11 (by decide) w4_ (fun _ h9 => h9) rfl (by decide +kernel) rfl rfl (Nat.le_of_ble_eq_true rfl) dX11_findWay_39 (fun H locs hP hD hS => ?_)
    have hP : va_P (dC, dI) vwCl (wX11_findWay h0 h1 h2 h3 h4 h5 h6 h7 h8 kc1 kc2 kc3 kc4 kc5 kc6 kc7 kc8 V0 v0_rules v0_size o54.1 a0 x58 c1 o54.2.1 c3 c4 o54.2.2.1 c6 o54.2.2.2 c8) H := hP
    have hD : va_D A (wX11_findWay h0 h1 h2 h3 h4 h5 h6 h7 h8 kc1 kc2 kc3 kc4 kc5 kc6 kc7 kc8 V0 v0_rules v0_size o54.1 a0 x58 c1 o54.2.1 c3 c4 o54.2.2.1 c6 o54.2.2.2 c8) := hD
    refine lv_iload_n hx hb dX11_findWay_42 rfl (lv_at hl 2 rfl) ?_
    refine lv_istore_n (lv' := [(3, .int a0), (2, .int x58), (0, .ref h0), (1, .int a0)]) hx hb dX11_findWay_43 rfl hl (by decide) rfl (fun ls hl => ?_)
    refine lv_aload_n hx hb dX11_findWay_44 rfl (lv_at hl 2 rfl) ?_
    refine va_get (D := (dC, dI)) (ci := 11) (v := .int v0_size) (C := RX11) (T := TX11) (N := 71) hx hb hts inlX11 hown hK hP 0 rfl rfl 6 (by decide) w7_ (fun _ h9 => h9) rfl dX11_findWay_45 ?_
    refine lv_istore (lv' := [(4, .int v0_size), (3, .int a0), (2, .int x58), (0, .ref h0), (1, .int a0)]) hx hb dX11_findWay_48 hl (by decide) rfl (fun ls hl => ?_)
    refine lv_iconst (v := 0) hx hb dX11_findWay_50 (by decide +kernel) ?_
    refine lv_istore (lv' := [(5, .int 0), (4, .int v0_size), (3, .int a0), (2, .int x58), (0, .ref h0), (1, .int a0)]) hx hb dX11_findWay_51 hl (by decide) rfl (fun ls hl => ?_)
    exact (hG _ _ _ _ _).mp (L53 FU x58 a0 v0_size 0 o54.1 a0 x58 o54.2.1 o54.2.2.1 o54.2.2.2 c8 H locs ls (hP.sub [0, 1, 2, 3, 4, 5, 6, 7, 8] rfl) (hD.sub [0, 1, 2, 3, 4, 5, 6, 7, 8] (by decide) rfl) hS (lv_sub hl [4, 3, 2, 1, 0] rfl) hf)
  · replace hf := if_no hf cq59
    have hf1 := Option.some.inj hf
    subst hf1
    have hP9 := hP.sub (ws' := (wX11_findWay h0 h1 h2 h3 h4 h5 h6 h7 h8 kc1 kc2 kc3 kc4 kc5 kc6 kc7 kc8 V0 v0_rules v0_size o54.1 a0 0 c1 o54.2.1 c3 c4 o54.2.2.1 c6 o54.2.2.2 c8)) [0, 1, 2, 3, 4, 5, 6, 7, 8] rfl
    have hD9 := hD.sub (ws' := (wX11_findWay h0 h1 h2 h3 h4 h5 h6 h7 h8 kc1 kc2 kc3 kc4 kc5 kc6 kc7 kc8 V0 v0_rules v0_size o54.1 a0 0 c1 o54.2.1 c3 c4 o54.2.2.1 c6 o54.2.2.2 c8)) [0, 1, 2, 3, 4, 5, 6, 7, 8] (by decide) rfl
    exact W.vret hx hb hr (fun t ht hW => ⟨⟨(o54.1, a0, 0, o54.2.1, o54.2.2.1, o54.2.2.2, c8), rfl, rfl, by rw [ht]; exact hP9, va_K.moved hW.alike hK, hD9⟩, hS.F ht⟩) hS.2.2 dX11_findWay_36
