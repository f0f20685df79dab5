abbrev wX4_addBytes (h0 h1 : Nat) (kc1 : ClassId) (V0 : Nat → Value) (v0_size : Int32) (c1 : Nat → Int32) : va_W := [(h0, .inr (4, [V0 0, V0 1, V0 2, V0 3, V0 4, .ref h1, .int v0_size, V0 7])), (h1, .inl (kc1, 600, .inl c1))]
set_option maxHeartbeats 4000000 in
set_option maxRecDepth 100000 in
theorem mX4_addBytes (l : Launch) (dC : Nat → ClassId) (dI : Nat → Nat → Nat) (h0 h1 : Nat) (kc1 : ClassId) (sz : Nat) (base : Nat × Nat × Nat) (a0 : Int64) (a1 : Int32) (v0_size : Int32) (c1 : Nat → Int32) (V0 : Nat → Value) (o : Int32 × Int32 × (Nat → Int32)) (hf : fX4_addBytes a0 a1 v0_size c1 = some o) : Met l yX4_addBytes (.code yX4_addBytes cX4_addBytes 5 (some .int) :: wsL_law) ({ frames := 0, cells := 0, slots := 0, locals := 0 }) (cPre (dC, dI) vwCl [.ref h0, .long a0, .int a1] sz base (wX4_addBytes h0 h1 kc1 V0 v0_size c1) [(kc1, .byte)]) (va_Qi (fun r u => r = o.1 ∧ u = o.2) (fun (u : Int32 × (Nat → Int32)) t => cPost (dC, dI) vwCl (va_A (wX4_addBytes h0 h1 kc1 V0 v0_size c1) sz) (wX4_addBytes h0 h1 kc1 V0 u.1 u.2) [(kc1, .byte)] t) (va_A (wX4_addBytes h0 h1 kc1 V0 v0_size c1) sz)) 0 0 (va_A (wX4_addBytes h0 h1 kc1 V0 v0_size c1) sz) := by
  refine Met.ofW (cc := cX4_addBytes) (maxL := 5) (ret := (some .int)) (by decide) rfl ?_
  intro p e s m args below meth c s₁ B hml hv
  obtain ⟨rfl, hsz, hP, hK, hD0, hE⟩ := hv
  have hx := B.exec
  have hb := B.bytes
  have hr := B.returns
  have hts : ∀ w ∈ wsL_law, _ := fun w h => atoms_spec (ws := .code yX4_addBytes cX4_addBytes 5 (some .int) :: wsL_law) B.pre w (List.mem_cons_of_mem _ h)
  have hown : s.vm.findClass RX4 = some m.cls := findClass_of_methodNamed B.named
  have hlocks := B.notSynchronized
  have w0_ := hts _ q525
  have w1_ := hts _ q45
  subst hsz
  have hD := hD0.self (sz := s.heap.size)
  generalize hAe : va_A (wX4_addBytes h0 h1 kc1 V0 v0_size c1) s.heap.size = A at hD ⊢
  have hA : ∀ q : Nat, s.heap.size ≤ q → A q := fun q h => by rw [← hAe]; exact Or.inr h
  have hAB : ∀ q : Nat, A q → base.1 ≤ q := fun q h => by rw [← hAe] at h; exact h.elim (fun ⟨k, e, hk⟩ => hD0.2 k _ hk) (fun hk => Nat.le_trans hE.1 hk)
  have hS : va_S A s.heap s.heap [] := va_S.rf
  have hl := lv_entry ([.ref h0, .long a0, .int a1]) (n := 5) (Nat.le_of_ble_eq_true rfl)
  rw [lg_entry_eq]
  generalize (lg_sl ([.ref h0, .long a0, .int a1]) ++ List.replicate (5 - (lg_sl ([.ref h0, .long a0, .int a1])).length) Slot.unset).toArray = ls at hl ⊢
  have hl : lv_has ls 5 [(0, .ref h0), (1, .long a0), (3, .int a1)] := hl
  have hP : va_P (dC, dI) vwCl (wX4_addBytes h0 h1 kc1 V0 v0_size c1) s.heap := hP
  refine gl_intro (fun G hG => ?_)
  have B18 : ∀ (k18 : Int64 → Int32 → Int32 → Int32 → (Nat → Int32) → Option (Int32 × Int32 × (Nat → Int32))) (hk18 : ∀ (y1 : Int64) (y3 : Int32) (y4 : Int32) (v0_size : Int32) (c1 : (Nat → Int32)) (H : Heap) (locs : List Loc) (ls : Array Slot), va_P (dC, dI) vwCl (wX4_addBytes h0 h1 kc1 V0 v0_size c1) H → va_D A (wX4_addBytes h0 h1 kc1 V0 v0_size c1) → va_S A s.heap H locs → lv_has ls 5 [(0, .ref h0), (1, .long y1), (3, .int y3), (4, .int y4)] → k18 y1 y3 y4 v0_size c1 = some o → G 0 0 H locs (F0 m 18 ls [])), ∀ (y1 : Int64) (y3 : Int32) (y4 : Int32) (v0_size : Int32) (c1 : (Nat → Int32)) (H : Heap) (locs : List Loc) (ls : Array Slot), va_P (dC, dI) vwCl (wX4_addBytes h0 h1 kc1 V0 v0_size c1) H → va_D A (wX4_addBytes h0 h1 kc1 V0 v0_size c1) → va_S A s.heap H locs → lv_has ls 5 [(0, .ref h0), (1, .long y1), (3, .int y3), (4, .int y4)] → fX4_addBytes_b18   k18 y1 y3 y4 v0_size c1 = some o → G 0 0 H locs (F0 m 18 ls []) := by
    intro  k18 hk18 y1 y3 y4 v0_size c1 H locs ls hP hD hS hl hf
    refine (hG _ _ _ _ _).mpr ?_
    unfold fX4_addBytes_b18 at hf
    refine lv_iload hx hb dX4_addBytes_18 (lv_at hl 3 rfl) ?_
    refine lv_iload_n hx hb dX4_addBytes_20 rfl (lv_at hl 2 rfl) ?_
    refine lv_icmp_ge (tgt := 58) hx hb dX4_addBytes_21 (by decide) (fun cq1 => ?_) (fun cq1 => ?_)
    · replace hf := if_at hf cq1
      refine lv_aload_n hx hb dX4_addBytes_58 rfl (lv_at hl 0 rfl) ?_
      refine va_get (D := (dC, dI)) (ci := 4) (v := .int v0_size) (C := RX4) (T := TX4) (N := 8) hx hb hts inlX4 hown hK hP 0 rfl rfl 6 (by decide) w0_ (fun _ h9 => h9) rfl dX4_addBytes_59 ?_
      have hf1 := Option.some.inj hf
      subst hf1
      have hP9 := hP.sub (ws' := (wX4_addBytes h0 h1 kc1 V0 v0_size c1)) [0, 1] rfl
      have hD9 := hD.sub (ws' := (wX4_addBytes h0 h1 kc1 V0 v0_size c1)) [0, 1] (by decide) rfl
      exact W.iret (v := v0_size) hx hb hr (fun t ht hW => ⟨⟨v0_size, (v0_size, c1), rfl, ⟨rfl, rfl⟩, by rw [ht]; exact hP9, va_K.moved hW.alike hK, hD9⟩, hS.F ht⟩) hS.2.2 dX4_addBytes_62
    · replace hf := if_no hf cq1
      refine lv_aload_n hx hb dX4_addBytes_24 rfl (lv_at hl 0 rfl) ?_
      refine va_get (D := (dC, dI)) (ci := 4) (v := .ref h1) (C := RX4) (T := TX4) (N := 8) hx hb hts inlX4 hown hK hP 0 rfl rfl 5 (by decide) w1_ (fun _ h9 => h9) rfl dX4_addBytes_25 ?_
      refine lv_aload_n hx hb dX4_addBytes_28 rfl (lv_at hl 0 rfl) ?_
      refine va_get (D := (dC, dI)) (ci := 4) (v := .int v0_size) (C := RX4) (T := TX4) (N := 8) hx hb hts inlX4 hown hK hP 0 rfl rfl 6 (by decide) w0_ (fun _ h9 => h9) rfl dX4_addBytes_29 ?_
      refine lv_lload_n hx hb dX4_addBytes_32 rfl (lv_at hl 1 rfl) ?_
      refine lv_bipush (v := 8) hx hb dX4_addBytes_33 (by decide +kernel) ?_
      refine lv_iload hx hb dX4_addBytes_35 (lv_at hl 3 rfl) ?_
      refine lv_imul hx hb dX4_addBytes_37 ?_
      refine lv_topi (fun x2 e2 => ?_)
      replace hf := nm_at hf e2
      refine lv_lushr hx hb dX4_addBytes_38 rfl ?_
      refine lv_topl (fun x3 e3 => ?_)
      replace hf := nm_at hf e3
      refine lv_l2i hx hb dX4_addBytes_39 rfl ?_
      refine lv_topi (fun x4 e4 => ?_)
      replace hf := nm_at hf e4
      refine lv_i2b hx hb dX4_addBytes_40 rfl ?_
      refine lv_topi (fun x5 e5 => ?_)
      replace hf := nm_at hf e5
      have b6 := bd_in hf
      replace hf := bd_k hf
      obtain ⟨c6x, e6⟩ : ∃ y, y = upd c1 v0_size.toNatClampNeg (vp_nar .byte x5) := ⟨_, rfl⟩
      replace hf := nm_at hf e6
      refine va_bast hx hb hK hP hD hS 1 0 rfl rfl b6 dX4_addBytes_41 (fun H locs hP hD hS => ?_)
      have hP : va_P (dC, dI) vwCl (wX4_addBytes h0 h1 kc1 V0 v0_size c6x) H := by rw [e6]; exact hP
      have hD : va_D A (wX4_addBytes h0 h1 kc1 V0 v0_size c6x) := by rw [e6]; exact hD
      refine lv_aload_n hx hb dX4_addBytes_42 rfl (lv_at hl 0 rfl) ?_
      refine lv_dup hx hb dX4_addBytes_43 rfl ?_
      refine va_get (D := (dC, dI)) (ci := 4) (v := .int v0_size) (C := RX4) (T := TX4) (N := 8) hx hb hts inlX4 hown hK hP 0 rfl rfl 6 (by decide) w0_ (fun _ h9 => h9) rfl dX4_addBytes_44 ?_
      refine lv_iconst (v := 1) hx hb dX4_addBytes_47 (by decide +kernel) ?_
      refine lv_iadd hx hb dX4_addBytes_48 ?_
      refine lv_topi (fun x7 e7 => ?_)
      replace hf := nm_at hf e7
      refine va_put (D := (dC, dI)) (ci := 4) (v := .int x7) (ty := .int) (C := RX4) (T := TX4) (N := 8) hx hb hts inlX4 tyX4 tyX4_ok nmX4 hown hK hP hD hS 0 rfl rfl 6 (by decide) w0_ (fun _ h9 => h9) rfl (by decide +kernel) rfl rfl (Nat.le_of_ble_eq_true rfl) dX4_addBytes_49 (fun H locs hP hD hS => ?_)
      have hP : va_P (dC, dI) vwCl (wX4_addBytes h0 h1 kc1 V0 x7 c6x) H := hP
      have hD : va_D A (wX4_addBytes h0 h1 kc1 V0 x7 c6x) := hD
      obtain ⟨x8, e8⟩ : ∃ y : Int32, y = y4 + 1 := ⟨_, rfl⟩
      replace hf := nm_at hf e8
      refine lv_iinc (v := x8) (lv' := [(4, .int x8), (0, .ref h0), (1, .long y1), (3, .int y3)]) hx hb dX4_addBytes_52 hl (k := 3) rfl (by rw [e8]; rfl) (by decide) rfl (fun ls hl => ?_)
      refine lv_goto (tgt := 18) hx hb dX4_addBytes_55 (by decide) ?_
      exact (hG _ _ _ _ _).mp (hk18 y1 y3 x8 x7 c6x H locs ls (hP.sub [0, 1] rfl) (hD.sub [0, 1] (by decide) rfl) hS (lv_sub hl [1, 2, 3, 0] rfl) hf)
  have L18 : ∀ (n : Nat), ∀ (y1 : Int64) (y3 : Int32) (y4 : Int32) (v0_size : Int32) (c1 : (Nat → Int32)) (H : Heap) (locs : List Loc) (ls : Array Slot), va_P (dC, dI) vwCl (wX4_addBytes h0 h1 kc1 V0 v0_size c1) H → va_D A (wX4_addBytes h0 h1 kc1 V0 v0_size c1) → va_S A s.heap H locs → lv_has ls 5 [(0, .ref h0), (1, .long y1), (3, .int y3), (4, .int y4)] → fX4_addBytes_l18   n y1 y3 y4 v0_size c1 = some o → G 0 0 H locs (F0 m 18 ls []) := by
    intro  n
    induction n with
    | zero => intro y1 y3 y4 v0_size c1 H locs ls _ _ _ _ hf; cases hf
    | succ n ih => exact B18  _ ih
  refine (hG _ _ _ _ _).mpr ?_
  obtain ⟨H, hH⟩ : ∃ H, H = s.heap := ⟨_, rfl⟩
  have hS : va_S A s.heap H [] := by rw [hH]; exact hS
  rw [← hH] at hP ⊢
  generalize ([] : List Loc) = locs at hS ⊢
  unfold fX4_addBytes at hf
  refine lv_aload_n hx hb dX4_addBytes_0 rfl (lv_at hl 0 rfl) ?_
  refine va_get (D := (dC, dI)) (ci := 4) (v := .int v0_size) (C := RX4) (T := TX4) (N := 8) hx hb hts inlX4 hown hK hP 0 rfl rfl 6 (by decide) w0_ (fun _ h9 => h9) rfl dX4_addBytes_1 ?_
  refine lv_iload_n hx hb dX4_addBytes_4 rfl (lv_at hl 2 rfl) ?_
  refine lv_iadd hx hb dX4_addBytes_5 ?_
  refine lv_topi (fun x9 e9 => ?_)
  replace hf := nm_at hf e9
  refine lv_sipush (v := 600) hx hb dX4_addBytes_6 (by decide +kernel) ?_
  refine lv_icmp_le (tgt := 15) hx hb dX4_addBytes_9 (by decide) (fun cq10 => ?_) (fun cq10 => ?_)
  · replace hf := if_at hf cq10
    refine lv_iconst (v := 0) hx hb dX4_addBytes_15 (by decide +kernel) ?_
    refine lv_istore (lv' := [(4, .int 0), (0, .ref h0), (1, .long a0), (3, .int a1)]) hx hb dX4_addBytes_16 hl (by decide) rfl (fun ls hl => ?_)
    exact (hG _ _ _ _ _).mp (L18 FU a0 a1 0 v0_size c1 H locs ls (hP.sub [0, 1] rfl) (hD.sub [0, 1] (by decide) rfl) hS (lv_sub hl [1, 2, 3, 0] rfl) hf)
  · replace hf := if_no hf cq10
    refine lv_bipush (v := (-3)) hx hb dX4_addBytes_12 (by decide +kernel) ?_
    have hf1 := Option.some.inj hf
    subst hf1
    have hP9 := hP.sub (ws' := (wX4_addBytes h0 h1 kc1 V0 v0_size c1)) [0, 1] rfl
    have hD9 := hD.sub (ws' := (wX4_addBytes h0 h1 kc1 V0 v0_size c1)) [0, 1] (by decide) rfl
    exact W.iret (v := (-3)) hx hb hr (fun t ht hW => ⟨⟨(-3), (v0_size, c1), rfl, ⟨rfl, rfl⟩, by rw [ht]; exact hP9, va_K.moved hW.alike hK, hD9⟩, hS.F ht⟩) hS.2.2 dX4_addBytes_14
set_option maxHeartbeats 4000000 in
set_option maxRecDepth 100000 in
theorem mX4_isLetter (l : Launch) (dC : Nat → ClassId) (dI : Nat → Nat → Nat) (sz : Nat) (base : Nat × Nat × Nat) (a0 : Int32) (o : Int32 × Unit) (hf : fX4_isLetter a0 = some o) : Met l yX4_isLetter (.code yX4_isLetter cX4_isLetter 1 (some .boolean) :: wsL_law) ({ frames := 0, cells := 0, slots := 0, locals := 0 }) (cPre (dC, dI) vwCl [.int a0] sz base [] []) (va_Qi (fun r u => r = o.1 ∧ u = o.2) (fun (u : Unit) t => cPost (dC, dI) vwCl (va_A [] sz) [] [] t) (va_A [] sz)) 0 0 (va_A [] sz) := by
  refine Met.ofW (cc := cX4_isLetter) (maxL := 1) (ret := (some .boolean)) (by decide) rfl ?_
  intro p e s m args below meth c s₁ B hml hv
  obtain ⟨rfl, hsz, hP, hK, hD0, hE⟩ := hv
  have hx := B.exec
  have hb := B.bytes
  have hr := B.returns
  have hts : ∀ w ∈ wsL_law, _ := fun w h => atoms_spec (ws := .code yX4_isLetter cX4_isLetter 1 (some .boolean) :: wsL_law) B.pre w (List.mem_cons_of_mem _ h)
  have hown : s.vm.findClass RX4 = some m.cls := findClass_of_methodNamed B.named
  have hlocks := B.notSynchronized
  skip
  subst hsz
  have hD := hD0.self (sz := s.heap.size)
  generalize hAe : va_A [] s.heap.size = A at hD ⊢
  have hA : ∀ q : Nat, s.heap.size ≤ q → A q := fun q h => by rw [← hAe]; exact Or.inr h
  have hAB : ∀ q : Nat, A q → base.1 ≤ q := fun q h => by rw [← hAe] at h; exact h.elim (fun ⟨k, e, hk⟩ => hD0.2 k _ hk) (fun hk => Nat.le_trans hE.1 hk)
  have hS : va_S A s.heap s.heap [] := va_S.rf
  have hl := lv_entry ([.int a0]) (n := 1) (Nat.le_of_ble_eq_true rfl)
  rw [lg_entry_eq]
  generalize (lg_sl ([.int a0]) ++ List.replicate (1 - (lg_sl ([.int a0])).length) Slot.unset).toArray = ls at hl ⊢
  have hl : lv_has ls 1 [(0, .int a0)] := hl
  have hP : va_P (dC, dI) vwCl [] s.heap := hP
  refine gl_intro (fun G hG => ?_)
  have J17 : ∀ (z0 : Int32) (H : Heap) (locs : List Loc) (ls : Array Slot), va_P (dC, dI) vwCl [] H → va_D A [] → va_S A s.heap H locs → lv_has ls 1 [] → fX4_isLetter_p17   z0 = some o → G 0 0 H locs (F0 m 17 ls [.int z0]) := by
    intro  z0 H locs ls hP hD hS hl hf
    refine (hG _ _ _ _ _).mpr ?_
    unfold fX4_isLetter_p17 at hf
    have b1 := bd_b hf
    replace hf := bd_k hf
    have hf1 := Option.some.inj hf
    subst hf1
    have hP9 := hP.sub (ws' := []) [] rfl
    have hD9 := hD.sub (ws' := []) [] (by decide) rfl
    exact W.zret (v := z0) (ty := .boolean) hx hb hr (bz_nar b1) (fun t ht hW => ⟨⟨z0, (), rfl, ⟨rfl, rfl⟩, by rw [ht]; exact hP9, va_K.moved hW.alike hK, hD9⟩, hS.F ht⟩) hS.2.2 dX4_isLetter_17
  have J16 : ∀ (H : Heap) (locs : List Loc) (ls : Array Slot), va_P (dC, dI) vwCl [] H → va_D A [] → va_S A s.heap H locs → lv_has ls 1 [] → fX4_isLetter_p16    = some o → G 0 0 H locs (F0 m 16 ls []) := by
    intro   H locs ls hP hD hS hl hf
    refine (hG _ _ _ _ _).mpr ?_
    unfold fX4_isLetter_p16 at hf
    refine lv_iconst (v := 0) hx hb dX4_isLetter_16 (by decide +kernel) ?_
    exact (hG _ _ _ _ _).mp (J17 0 H locs ls (hP.sub [] rfl) (hD.sub [] (by decide) rfl) hS (lv_sub hl [] rfl) hf)
  refine (hG _ _ _ _ _).mpr ?_
  obtain ⟨H, hH⟩ : ∃ H, H = s.heap := ⟨_, rfl⟩
  have hS : va_S A s.heap H [] := by rw [hH]; exact hS
  rw [← hH] at hP ⊢
  generalize ([] : List Loc) = locs at hS ⊢
  unfold fX4_isLetter at hf
  refine lv_iload_n hx hb dX4_isLetter_0 rfl (lv_at hl 0 rfl) ?_
  refine lv_bipush (v := 97) hx hb dX4_isLetter_1 (by decide +kernel) ?_
  refine lv_icmp_lt (tgt := 16) hx hb dX4_isLetter_3 (by decide) (fun cq2 => ?_) (fun cq2 => ?_)
  · replace hf := if_at hf cq2
    exact (hG _ _ _ _ _).mp (J16 H locs ls (hP.sub [] rfl) (hD.sub [] (by decide) rfl) hS (lv_sub hl [] rfl) hf)
  · replace hf := if_no hf cq2
    refine lv_iload_n hx hb dX4_isLetter_6 rfl (lv_at hl 0 rfl) ?_
    refine lv_bipush (v := 122) hx hb dX4_isLetter_7 (by decide +kernel) ?_
    refine lv_icmp_gt (tgt := 16) hx hb dX4_isLetter_9 (by decide) (fun cq3 => ?_) (fun cq3 => ?_)
    · replace hf := if_at hf cq3
      exact (hG _ _ _ _ _).mp (J16 H locs ls (hP.sub [] rfl) (hD.sub [] (by decide) rfl) hS (lv_sub hl [] rfl) hf)
    · replace hf := if_no hf cq3
      refine lv_iconst (v := 1) hx hb dX4_isLetter_12 (by decide +kernel) ?_
      refine lv_goto (tgt := 17) hx hb dX4_isLetter_13 (by decide) ?_
      exact (hG _ _ _ _ _).mp (J17 1 H locs ls (hP.sub [] rfl) (hD.sub [] (by decide) rfl) hS (lv_sub hl [] rfl) hf)
set_option maxHeartbeats 4000000 in
set_option maxRecDepth 100000 in
theorem mX4_isDigit (l : Launch) (dC : Nat → ClassId) (dI : Nat → Nat → Nat) (sz : Nat) (base : Nat × Nat × Nat) (a0 : Int32) (o : Int32 × Unit) (hf : fX4_isDigit a0 = some o) : Met l yX4_isDigit (.code yX4_isDigit cX4_isDigit 1 (some .boolean) :: wsL_law) ({ frames := 0, cells := 0, slots := 0, locals := 0 }) (cPre (dC, dI) vwCl [.int a0] sz base [] []) (va_Qi (fun r u => r = o.1 ∧ u = o.2) (fun (u : Unit) t => cPost (dC, dI) vwCl (va_A [] sz) [] [] t) (va_A [] sz)) 0 0 (va_A [] sz) := by
  refine Met.ofW (cc := cX4_isDigit) (maxL := 1) (ret := (some .boolean)) (by decide) rfl ?_
  intro p e s m args below meth c s₁ B hml hv
  obtain ⟨rfl, hsz, hP, hK, hD0, hE⟩ := hv
  have hx := B.exec
  have hb := B.bytes
  have hr := B.returns
  have hts : ∀ w ∈ wsL_law, _ := fun w h => atoms_spec (ws := .code yX4_isDigit cX4_isDigit 1 (some .boolean) :: wsL_law) B.pre w (List.mem_cons_of_mem _ h)
  have hown : s.vm.findClass RX4 = some m.cls := findClass_of_methodNamed B.named
  have hlocks := B.notSynchronized
  skip
  subst hsz
  have hD := hD0.self (sz := s.heap.size)
  generalize hAe : va_A [] s.heap.size = A at hD ⊢
  have hA : ∀ q : Nat, s.heap.size ≤ q → A q := fun q h => by rw [← hAe]; exact Or.inr h
  have hAB : ∀ q : Nat, A q → base.1 ≤ q := fun q h => by rw [← hAe] at h; exact h.elim (fun ⟨k, e, hk⟩ => hD0.2 k _ hk) (fun hk => Nat.le_trans hE.1 hk)
  have hS : va_S A s.heap s.heap [] := va_S.rf
  have hl := lv_entry ([.int a0]) (n := 1) (Nat.le_of_ble_eq_true rfl)
  rw [lg_entry_eq]
  generalize (lg_sl ([.int a0]) ++ List.replicate (1 - (lg_sl ([.int a0])).length) Slot.unset).toArray = ls at hl ⊢
  have hl : lv_has ls 1 [(0, .int a0)] := hl
  have hP : va_P (dC, dI) vwCl [] s.heap := hP
  refine gl_intro (fun G hG => ?_)
  have J17 : ∀ (z0 : Int32) (H : Heap) (locs : List Loc) (ls : Array Slot), va_P (dC, dI) vwCl [] H → va_D A [] → va_S A s.heap H locs → lv_has ls 1 [] → fX4_isDigit_p17   z0 = some o → G 0 0 H locs (F0 m 17 ls [.int z0]) := by
    intro  z0 H locs ls hP hD hS hl hf
    refine (hG _ _ _ _ _).mpr ?_
    unfold fX4_isDigit_p17 at hf
    have b1 := bd_b hf
    replace hf := bd_k hf
    have hf1 := Option.some.inj hf
    subst hf1
    have hP9 := hP.sub (ws' := []) [] rfl
    have hD9 := hD.sub (ws' := []) [] (by decide) rfl
    exact W.zret (v := z0) (ty := .boolean) hx hb hr (bz_nar b1) (fun t ht hW => ⟨⟨z0, (), rfl, ⟨rfl, rfl⟩, by rw [ht]; exact hP9, va_K.moved hW.alike hK, hD9⟩, hS.F ht⟩) hS.2.2 dX4_isDigit_17
  have J16 : ∀ (H : Heap) (locs : List Loc) (ls : Array Slot), va_P (dC, dI) vwCl [] H → va_D A [] → va_S A s.heap H locs → lv_has ls 1 [] → fX4_isDigit_p16    = some o → G 0 0 H locs (F0 m 16 ls []) := by
    intro   H locs ls hP hD hS hl hf
    refine (hG _ _ _ _ _).mpr ?_
    unfold fX4_isDigit_p16 at hf
    refine lv_iconst (v := 0) hx hb dX4_isDigit_16 (by decide +kernel) ?_
    exact (hG _ _ _ _ _).mp (J17 0 H locs ls (hP.sub [] rfl) (hD.sub [] (by decide) rfl) hS (lv_sub hl [] rfl) hf)
  refine (hG _ _ _ _ _).mpr ?_
  obtain ⟨H, hH⟩ : ∃ H, H = s.heap := ⟨_, rfl⟩
  have hS : va_S A s.heap H [] := by rw [hH]; exact hS
  rw [← hH] at hP ⊢
  generalize ([] : List Loc) = locs at hS ⊢
  unfold fX4_isDigit at hf
  refine lv_iload_n hx hb dX4_isDigit_0 rfl (lv_at hl 0 rfl) ?_
  refine lv_bipush (v := 48) hx hb dX4_isDigit_1 (by decide +kernel) ?_
  refine lv_icmp_lt (tgt := 16) hx hb dX4_isDigit_3 (by decide) (fun cq2 => ?_) (fun cq2 => ?_)
  · replace hf := if_at hf cq2
    exact (hG _ _ _ _ _).mp (J16 H locs ls (hP.sub [] rfl) (hD.sub [] (by decide) rfl) hS (lv_sub hl [] rfl) hf)
  · replace hf := if_no hf cq2
    refine lv_iload_n hx hb dX4_isDigit_6 rfl (lv_at hl 0 rfl) ?_
    refine lv_bipush (v := 57) hx hb dX4_isDigit_7 (by decide +kernel) ?_
    refine lv_icmp_gt (tgt := 16) hx hb dX4_isDigit_9 (by decide) (fun cq3 => ?_) (fun cq3 => ?_)
    · replace hf := if_at hf cq3
      exact (hG _ _ _ _ _).mp (J16 H locs ls (hP.sub [] rfl) (hD.sub [] (by decide) rfl) hS (lv_sub hl [] rfl) hf)
    · replace hf := if_no hf cq3
      refine lv_iconst (v := 1) hx hb dX4_isDigit_12 (by decide +kernel) ?_
      refine lv_goto (tgt := 17) hx hb dX4_isDigit_13 (by decide) ?_
      exact (hG _ _ _ _ _).mp (J17 1 H locs ls (hP.sub [] rfl) (hD.sub [] (by decide) rfl) hS (lv_sub hl [] rfl) hf)
set_option maxHeartbeats 4000000 in
set_option maxRecDepth 100000 in
theorem mX4_fail (l : Launch) (dC : Nat → ClassId) (dI : Nat → Nat → Nat) (h0 : Nat) (sz : Nat) (base : Nat × Nat × Nat) (a0 : Int32) (a1 : Int32) (v0_token : Int32) (v0_fault : Int32) (v0_faultAt : Int32) (V0 : Nat → Value) (o : Int32 × Int32 × Int32) (hf : fX4_fail a0 a1 v0_token v0_fault v0_faultAt = some o) : Met l yX4_fail (.code yX4_fail cX4_fail 3 none :: wsL_law) ({ frames := 0, cells := 0, slots := 0, locals := 0 }) (cPre (dC, dI) vwCl [.ref h0, .int a0, .int a1] sz base [(h0, .inr (4, [.int v0_token, V0 1, V0 2, .int v0_fault, .int v0_faultAt, V0 5, V0 6, V0 7]))] []) (va_Qv (fun u => u = o) (fun (u : Int32 × Int32 × Int32) t => cPost (dC, dI) vwCl (va_A [(h0, .inr (4, [.int v0_token, V0 1, V0 2, .int v0_fault, .int v0_faultAt, V0 5, V0 6, V0 7]))] sz) [(h0, .inr (4, [.int u.1, V0 1, V0 2, .int u.2.1, .int u.2.2, V0 5, V0 6, V0 7]))] [] t) (va_A [(h0, .inr (4, [.int v0_token, V0 1, V0 2, .int v0_fault, .int v0_faultAt, V0 5, V0 6, V0 7]))] sz)) 0 0 (va_A [(h0, .inr (4, [.int v0_token, V0 1, V0 2, .int v0_fault, .int v0_faultAt, V0 5, V0 6, V0 7]))] sz) := by
  refine Met.ofW (cc := cX4_fail) (maxL := 3) (ret := none) (by decide) rfl ?_
  intro p e s m args below meth c s₁ B hml hv
  obtain ⟨rfl, hsz, hP, hK, hD0, hE⟩ := hv
  have hx := B.exec
  have hb := B.bytes
  have hr := B.returns
  have hts : ∀ w ∈ wsL_law, _ := fun w h => atoms_spec (ws := .code yX4_fail cX4_fail 3 none :: wsL_law) B.pre w (List.mem_cons_of_mem _ h)
  have hown : s.vm.findClass RX4 = some m.cls := findClass_of_methodNamed B.named
  have hlocks := B.notSynchronized
  have w0_ := hts _ q566
  have w1_ := hts _ q560
  have w2_ := hts _ q583
  subst hsz
  have hD := hD0.self (sz := s.heap.size)
  generalize hAe : va_A [(h0, .inr (4, [.int v0_token, V0 1, V0 2, .int v0_fault, .int v0_faultAt, V0 5, V0 6, V0 7]))] s.heap.size = A at hD ⊢
  have hA : ∀ q : Nat, s.heap.size ≤ q → A q := fun q h => by rw [← hAe]; exact Or.inr h
  have hAB : ∀ q : Nat, A q → base.1 ≤ q := fun q h => by rw [← hAe] at h; exact h.elim (fun ⟨k, e, hk⟩ => hD0.2 k _ hk) (fun hk => Nat.le_trans hE.1 hk)
  have hS : va_S A s.heap s.heap [] := va_S.rf
  have hl := lv_entry ([.ref h0, .int a0, .int a1]) (n := 3) (Nat.le_of_ble_eq_true rfl)
  rw [lg_entry_eq]
  generalize (lg_sl ([.ref h0, .int a0, .int a1]) ++ List.replicate (3 - (lg_sl ([.ref h0, .int a0, .int a1])).length) Slot.unset).toArray = ls at hl ⊢
  have hl : lv_has ls 3 [(0, .ref h0), (1, .int a0), (2, .int a1)] := hl
  have hP : va_P (dC, dI) vwCl [(h0, .inr (4, [.int v0_token, V0 1, V0 2, .int v0_fault, .int v0_faultAt, V0 5, V0 6, V0 7]))] s.heap := hP
  refine gl_intro (fun G hG => ?_)
  have J17 : ∀ (v0_token : Int32) (v0_fault : Int32) (v0_faultAt : Int32) (H : Heap) (locs : List Loc) (ls : Array Slot), va_P (dC, dI) vwCl [(h0, .inr (4, [.int v0_token, V0 1, V0 2, .int v0_fault, .int v0_faultAt, V0 5, V0 6, V0 7]))] H → va_D A [(h0, .inr (4, [.int v0_token, V0 1, V0 2, .int v0_fault, .int v0_faultAt, V0 5, V0 6, V0 7]))] → va_S A s.heap H locs → lv_has ls 3 [(0, .ref h0)] → fX4_fail_p17   v0_token v0_fault v0_faultAt = some o → G 0 0 H locs (F0 m 17 ls []) := by
    intro  v0_token v0_fault v0_faultAt H locs ls hP hD hS hl hf
    refine (hG _ _ _ _ _).mpr ?_
    unfold fX4_fail_p17 at hf
    refine lv_aload_n hx hb dX4_fail_17 rfl (lv_at hl 0 rfl) ?_
    refine lv_sipush (v := 257) hx hb dX4_fail_18 (by decide +kernel) ?_
    refine va_put (D := (dC, dI)) (ci := 4) (v := .int 257) (ty := .int) (C := RX4) (T := TX4) (N := 8) hx hb hts inlX4 tyX4 tyX4_ok nmX4 hown hK hP hD hS 0 rfl rfl 0 (by decide) w0_ (fun _ h9 => h9) rfl (by decide +kernel) rfl rfl (Nat.le_of_ble_eq_true rfl) dX4_fail_21 (fun H locs hP hD hS => ?_)
    have hP : va_P (dC, dI) vwCl [(h0, .inr (4, [.int 257, V0 1, V0 2, .int v0_fault, .int v0_faultAt, V0 5, V0 6, V0 7]))] H := hP
    have hD : va_D A [(h0, .inr (4, [.int 257, V0 1, V0 2, .int v0_fault, .int v0_faultAt, V0 5, V0 6, V0 7]))] := hD
    have hf1 := Option.some.inj hf
    subst hf1
    have hP9 := hP.sub (ws' := [(h0, .inr (4, [.int 257, V0 1, V0 2, .int v0_fault, .int v0_faultAt, V0 5, V0 6, V0 7]))]) [0] rfl
    have hD9 := hD.sub (ws' := [(h0, .inr (4, [.int 257, V0 1, V0 2, .int v0_fault, .int v0_faultAt, V0 5, V0 6, V0 7]))]) [0] (by decide) rfl
    exact W.vret hx hb hr (fun t ht hW => ⟨⟨(257, v0_fault, v0_faultAt), rfl, rfl, by rw [ht]; exact hP9, va_K.moved hW.alike hK, hD9⟩, hS.F ht⟩) hS.2.2 dX4_fail_24
  refine (hG _ _ _ _ _).mpr ?_
  obtain ⟨H, hH⟩ : ∃ H, H = s.heap := ⟨_, rfl⟩
  have hS : va_S A s.heap H [] := by rw [hH]; exact hS
  rw [← hH] at hP ⊢
  generalize ([] : List Loc) = locs at hS ⊢
  unfold fX4_fail at hf
  refine lv_aload_n hx hb dX4_fail_0 rfl (lv_at hl 0 rfl) ?_
  refine va_get (D := (dC, dI)) (ci := 4) (v := .int v0_fault) (C := RX4) (T := TX4) (N := 8) hx hb hts inlX4 hown hK hP 0 rfl rfl 3 (by decide) w1_ (fun _ h9 => h9) rfl dX4_fail_1 ?_
  refine lv_if_ne (tgt := 17) hx hb dX4_fail_4 (by decide) (fun cq1 => ?_) (fun cq1 => ?_)
  · replace hf := if_no hf cq1
    exact (hG _ _ _ _ _).mp (J17 v0_token v0_fault v0_faultAt H locs ls (hP.sub [0] rfl) (hD.sub [0] (by decide) rfl) hS (lv_sub hl [0] rfl) hf)
  · replace hf := if_at hf cq1
    refine lv_aload_n hx hb dX4_fail_7 rfl (lv_at hl 0 rfl) ?_
    refine lv_iload_n hx hb dX4_fail_8 rfl (lv_at hl 1 rfl) ?_
    refine va_put (D := (dC, dI)) (ci := 4) (v := .int a0) (ty := .int) (C := RX4) (T := TX4) (N := 8) hx hb hts inlX4 tyX4 tyX4_ok nmX4 hown hK hP hD hS 0 rfl rfl 3 (by decide) w1_ (fun _ h9 => h9) rfl (by decide +kernel) rfl rfl (Nat.le_of_ble_eq_true rfl) dX4_fail_9 (fun H locs hP hD hS => ?_)
    have hP : va_P (dC, dI) vwCl [(h0, .inr (4, [.int v0_token, V0 1, V0 2, .int a0, .int v0_faultAt, V0 5, V0 6, V0 7]))] H := hP
    have hD : va_D A [(h0, .inr (4, [.int v0_token, V0 1, V0 2, .int a0, .int v0_faultAt, V0 5, V0 6, V0 7]))] := hD
    refine lv_aload_n hx hb dX4_fail_12 rfl (lv_at hl 0 rfl) ?_
    refine lv_iload_n hx hb dX4_fail_13 rfl (lv_at hl 2 rfl) ?_
    refine va_put (D := (dC, dI)) (ci := 4) (v := .int a1) (ty := .int) (C := RX4) (T := TX4) (N := 8) hx hb hts inlX4 tyX4 tyX4_ok nmX4 hown hK hP hD hS 0 rfl rfl 4 (by decide) w2_ (fun _ h9 => h9) rfl (by decide +kernel) rfl rfl (Nat.le_of_ble_eq_true rfl) dX4_fail_14 (fun H locs hP hD hS => ?_)
    have hP : va_P (dC, dI) vwCl [(h0, .inr (4, [.int v0_token, V0 1, V0 2, .int a0, .int a1, V0 5, V0 6, V0 7]))] H := hP
    have hD : va_D A [(h0, .inr (4, [.int v0_token, V0 1, V0 2, .int a0, .int a1, V0 5, V0 6, V0 7]))] := hD
    exact (hG _ _ _ _ _).mp (J17 v0_token a0 a1 H locs ls (hP.sub [0] rfl) (hD.sub [0] (by decide) rfl) hS (lv_sub hl [0] rfl) hf)
abbrev wX4_scanWord (h0 h1 : Nat) (kc1 : ClassId) (v0_token : Int32) (v0_tokenAt : Int32) (v0_name : Int64) (v0_fault : Int32) (v0_faultAt : Int32) (v0_size : Int32) (v0_next : Int32) (c1 : Nat → Int32) : va_W := [(h0, .inr (4, [.int v0_token, .int v0_tokenAt, .long v0_name, .int v0_fault, .int v0_faultAt, .ref h1, .int v0_size, .int v0_next])), (h1, .inl (kc1, 600, .inl c1))]
set_option maxHeartbeats 4000000 in
set_option maxRecDepth 100000 in
theorem mX4_scanWord (l : Launch) (dC : Nat → ClassId) (dI : Nat → Nat → Nat) (h0 h1 : Nat) (kc1 : ClassId) (sz : Nat) (base : Nat × Nat × Nat) (v0_token : Int32) (v0_tokenAt : Int32) (v0_name : Int64) (v0_fault : Int32) (v0_faultAt : Int32) (v0_size : Int32) (v0_next : Int32) (c1 : Nat → Int32) (o : Int32 × Int64 × Int32 × Int32 × Int32) (hf : fX4_scanWord v0_token v0_tokenAt v0_name v0_fault v0_faultAt v0_size v0_next c1 = some o) : Met l yX4_scanWord (.code yX4_scanWord cX4_scanWord 2 none :: wsL_law) ({ frames := 1, cells := 0, slots := 0, locals := 22 }) (cPre (dC, dI) vwCl [.ref h0] sz base (wX4_scanWord h0 h1 kc1 v0_token v0_tokenAt v0_name v0_fault v0_faultAt v0_size v0_next c1) [(kc1, .byte)]) (va_Qv (fun u => u = o) (fun (u : Int32 × Int64 × Int32 × Int32 × Int32) t => cPost (dC, dI) vwCl (va_A (wX4_scanWord h0 h1 kc1 v0_token v0_tokenAt v0_name v0_fault v0_faultAt v0_size v0_next c1) sz) (wX4_scanWord h0 h1 kc1 u.1 v0_tokenAt u.2.1 u.2.2.1 u.2.2.2.1 v0_size u.2.2.2.2 c1) [(kc1, .byte)] t) (va_A (wX4_scanWord h0 h1 kc1 v0_token v0_tokenAt v0_name v0_fault v0_faultAt v0_size v0_next c1) sz)) 0 0 (va_A (wX4_scanWord h0 h1 kc1 v0_token v0_tokenAt v0_name v0_fault v0_faultAt v0_size v0_next c1) sz) := by
  refine Met.ofW (cc := cX4_scanWord) (maxL := 2) (ret := none) (by decide) rfl ?_
  intro p e s m args below meth c s₁ B hml hv
  obtain ⟨rfl, hsz, hP, hK, hD0, hE⟩ := hv
  have hx := B.exec
  have hb := B.bytes
  have hr := B.returns
  have hts : ∀ w ∈ wsL_law, _ := fun w h => atoms_spec (ws := .code yX4_scanWord cX4_scanWord 2 none :: wsL_law) B.pre w (List.mem_cons_of_mem _ h)
  have hown : s.vm.findClass RX4 = some m.cls := findClass_of_methodNamed B.named
  have hlocks := B.notSynchronized
  obtain ⟨⟨tw, zw, uw⟩, ⟨tb, zb, ub⟩, -⟩ := id hE.2.2
  have w1_ := hts _ q575
  have w2_ := hts _ q574
  have w3_ := hts _ q566
  have w4_ := hts _ q559
  have w5_ := hts _ q565
  have w6_ := hts _ q45
  have w7_ := hts _ q525
  subst hsz
  have hD := hD0.self (sz := s.heap.size)
  generalize hAe : va_A (wX4_scanWord h0 h1 kc1 v0_token v0_tokenAt v0_name v0_fault v0_faultAt v0_size v0_next c1) s.heap.size = A at hD ⊢
  have hA : ∀ q : Nat, s.heap.size ≤ q → A q := fun q h => by rw [← hAe]; exact Or.inr h
  have hAB : ∀ q : Nat, A q → base.1 ≤ q := fun q h => by rw [← hAe] at h; exact h.elim (fun ⟨k, e, hk⟩ => hD0.2 k _ hk) (fun hk => Nat.le_trans hE.1 hk)
  have hS : va_S A s.heap s.heap [] := va_S.rf
  have hl := lv_entry ([.ref h0]) (n := 2) (Nat.le_of_ble_eq_true rfl)
  rw [lg_entry_eq]
  generalize (lg_sl ([.ref h0]) ++ List.replicate (2 - (lg_sl ([.ref h0])).length) Slot.unset).toArray = ls at hl ⊢
  have hl : lv_has ls 2 [(0, .ref h0)] := hl
  have hP : va_P (dC, dI) vwCl (wX4_scanWord h0 h1 kc1 v0_token v0_tokenAt v0_name v0_fault v0_faultAt v0_size v0_next c1) s.heap := hP
  refine gl_intro (fun G hG => ?_)
  have J162 : ∀ (k132 : Int32 → Int32 → Int64 → Int32 → Int32 → Int32 → Option (Int32 × Int64 × Int32 × Int32 × Int32)) (hk132 : ∀ (y1 : Int32) (v0_token : Int32) (v0_name : Int64) (v0_fault : Int32) (v0_faultAt : Int32) (v0_next : Int32) (H : Heap) (locs : List Loc) (ls : Array Slot), va_P (dC, dI) vwCl (wX4_scanWord h0 h1 kc1 v0_token v0_tokenAt v0_name v0_fault v0_faultAt v0_size v0_next c1) H → va_D A (wX4_scanWord h0 h1 kc1 v0_token v0_tokenAt v0_name v0_fault v0_faultAt v0_size v0_next c1) → va_S A s.heap H locs → lv_has ls 2 [(0, .ref h0), (1, .int y1)] → k132 y1 v0_token v0_name v0_fault v0_faultAt v0_next = some o → G 0 0 H locs (F0 m 132 ls [])), ∀ (y1 : Int32) (v0_token : Int32) (v0_name : Int64) (v0_fault : Int32) (v0_faultAt : Int32) (v0_next : Int32) (H : Heap) (locs : List Loc) (ls : Array Slot), va_P (dC, dI) vwCl (wX4_scanWord h0 h1 kc1 v0_token v0_tokenAt v0_name v0_fault v0_faultAt v0_size v0_next c1) H → va_D A (wX4_scanWord h0 h1 kc1 v0_token v0_tokenAt v0_name v0_fault v0_faultAt v0_size v0_next c1) → va_S A s.heap H locs → lv_has ls 2 [(0, .ref h0), (1, .int y1)] → fX4_scanWord_p162 v0_tokenAt v0_size c1 k132 y1 v0_token v0_name v0_fault v0_faultAt v0_next = some o → G 0 0 H locs (F0 m 162 ls []) := by
    intro k132 hk132 y1 v0_token v0_name v0_fault v0_faultAt v0_next H locs ls hP hD hS hl hf
    refine (hG _ _ _ _ _).mpr ?_
    unfold fX4_scanWord_p162 at hf
    obtain ⟨x1, e1⟩ : ∃ y : Int32, y = y1 + 1 := ⟨_, rfl⟩
    replace hf := nm_at hf e1
    refine lv_iinc (v := x1) (lv' := [(1, .int x1), (0, .ref h0)]) hx hb dX4_scanWord_162 hl (k := 1) rfl (by rw [e1]; rfl) (by decide) rfl (fun ls hl => ?_)
    refine lv_goto (tgt := 132) hx hb dX4_scanWord_165 (by decide) ?_
    exact (hG _ _ _ _ _).mp (hk132 x1 v0_token v0_name v0_fault v0_faultAt v0_next H locs ls (hP.sub [0, 1] rfl) (hD.sub [0, 1] (by decide) rfl) hS (lv_sub hl [1, 0] rfl) hf)
  have B132 : ∀ (k132 : Int32 → Int32 → Int64 → Int32 → Int32 → Int32 → Option (Int32 × Int64 × Int32 × Int32 × Int32)) (hk132 : ∀ (y1 : Int32) (v0_token : Int32) (v0_name : Int64) (v0_fault : Int32) (v0_faultAt : Int32) (v0_next : Int32) (H : Heap) (locs : List Loc) (ls : Array Slot), va_P (dC, dI) vwCl (wX4_scanWord h0 h1 kc1 v0_token v0_tokenAt v0_name v0_fault v0_faultAt v0_size v0_next c1) H → va_D A (wX4_scanWord h0 h1 kc1 v0_token v0_tokenAt v0_name v0_fault v0_faultAt v0_size v0_next c1) → va_S A s.heap H locs → lv_has ls 2 [(0, .ref h0), (1, .int y1)] → k132 y1 v0_token v0_name v0_fault v0_faultAt v0_next = some o → G 0 0 H locs (F0 m 132 ls [])), ∀ (y1 : Int32) (v0_token : Int32) (v0_name : Int64) (v0_fault : Int32) (v0_faultAt : Int32) (v0_next : Int32) (H : Heap) (locs : List Loc) (ls : Array Slot), va_P (dC, dI) vwCl (wX4_scanWord h0 h1 kc1 v0_token v0_tokenAt v0_name v0_fault v0_faultAt v0_size v0_next c1) H → va_D A (wX4_scanWord h0 h1 kc1 v0_token v0_tokenAt v0_name v0_fault v0_faultAt v0_size v0_next c1) → va_S A s.heap H locs → lv_has ls 2 [(0, .ref h0), (1, .int y1)] → fX4_scanWord_b132 v0_tokenAt v0_size c1  k132 y1 v0_token v0_name v0_fault v0_faultAt v0_next = some o → G 0 0 H locs (F0 m 132 ls []) := by
    intro  k132 hk132 y1 v0_token v0_name v0_fault v0_faultAt v0_next H locs ls hP hD hS hl hf
    refine (hG _ _ _ _ _).mpr ?_
    unfold fX4_scanWord_b132 at hf
    refine lv_iload_n hx hb dX4_scanWord_132 rfl (lv_at hl 1 rfl) ?_
    refine va_gets hx hb (zw.narrow hAB) hS hown w1_ (fun _ h9 => h9) dX4_scanWord_133 ?_
    refine va_tlen hx hb (uw.narrow hAB) hS (v := 10) rfl dX4_scanWord_136 ?_
    refine lv_icmp_ge (tgt := 168) hx hb dX4_scanWord_137 (by decide) (fun cq2 => ?_) (fun cq2 => ?_)
    · replace hf := if_at hf cq2
      have hf1 := Option.some.inj hf
      subst hf1
      have hP9 := hP.sub (ws' := (wX4_scanWord h0 h1 kc1 v0_token v0_tokenAt v0_name v0_fault v0_faultAt v0_size v0_next c1)) [0, 1] rfl
      have hD9 := hD.sub (ws' := (wX4_scanWord h0 h1 kc1 v0_token v0_tokenAt v0_name v0_fault v0_faultAt v0_size v0_next c1)) [0, 1] (by decide) rfl
      exact W.vret hx hb hr (fun t ht hW => ⟨⟨(v0_token, v0_name, v0_fault, v0_faultAt, v0_next), rfl, rfl, by rw [ht]; exact hP9, va_K.moved hW.alike hK, hD9⟩, hS.F ht⟩) hS.2.2 dX4_scanWord_168
    · replace hf := if_no hf cq2
      refine va_gets hx hb (zw.narrow hAB) hS hown w1_ (fun _ h9 => h9) dX4_scanWord_140 ?_
      refine lv_iload_n hx hb dX4_scanWord_143 rfl (lv_at hl 1 rfl) ?_
      have b3 := bd_in hf
      replace hf := bd_k hf
      refine va_tl hx hb (uw.narrow hAB) hS b3 (v := .long (xWords.getD y1.toNatClampNeg 0)) rfl dX4_scanWord_144 ?_
      refine lv_topl (fun x4 e4 => ?_)
      replace hf := nm_at hf e4
      refine lv_aload_n hx hb dX4_scanWord_145 rfl (lv_at hl 0 rfl) ?_
      refine va_get (D := (dC, dI)) (ci := 4) (v := .long v0_name) (C := RX4) (T := TX4) (N := 8) hx hb hts inlX4 hown hK hP 0 rfl rfl 2 (by decide) w2_ (fun _ h9 => h9) rfl dX4_scanWord_146 ?_
      refine W.lcmp hx hb dX4_scanWord_149 ?_
      refine lv_topi (fun x5 e5 => ?_)
      replace hf := nm_at hf e5
      refine lv_if_ne (tgt := 162) hx hb dX4_scanWord_150 (by decide) (fun cq6 => ?_) (fun cq6 => ?_)
      · replace hf := if_no hf cq6
        exact (hG _ _ _ _ _).mp (J162 k132 hk132 y1 v0_token v0_name v0_fault v0_faultAt v0_next H locs ls (hP.sub [0, 1] rfl) (hD.sub [0, 1] (by decide) rfl) hS (lv_sub hl [0, 1] rfl) hf)
      · replace hf := if_at hf cq6
        refine lv_aload_n hx hb dX4_scanWord_153 rfl (lv_at hl 0 rfl) ?_
        refine lv_sipush (v := 259) hx hb dX4_scanWord_154 (by decide +kernel) ?_
        refine lv_iload_n hx hb dX4_scanWord_157 rfl (lv_at hl 1 rfl) ?_
        refine lv_iadd hx hb dX4_scanWord_158 ?_
        refine lv_topi (fun x7 e7 => ?_)
        replace hf := nm_at hf e7
        refine va_put (D := (dC, dI)) (ci := 4) (v := .int x7) (ty := .int) (C := RX4) (T := TX4) (N := 8) hx hb hts inlX4 tyX4 tyX4_ok nmX4 hown hK hP hD hS 0 rfl rfl 0 (by decide) w3_ (fun _ h9 => h9) rfl (by decide +kernel) rfl rfl (Nat.le_of_ble_eq_true rfl) dX4_scanWord_159 (fun H locs hP hD hS => ?_)
        have hP : va_P (dC, dI) vwCl (wX4_scanWord h0 h1 kc1 x7 v0_tokenAt v0_name v0_fault v0_faultAt v0_size v0_next c1) H := hP
        have hD : va_D A (wX4_scanWord h0 h1 kc1 x7 v0_tokenAt v0_name v0_fault v0_faultAt v0_size v0_next c1) := hD
        exact (hG _ _ _ _ _).mp (J162 k132 hk132 y1 x7 v0_name v0_fault v0_faultAt v0_next H locs ls (hP.sub [0, 1] rfl) (hD.sub [0, 1] (by decide) rfl) hS (lv_sub hl [0, 1] rfl) hf)
  have L132 : ∀ (n : Nat), ∀ (y1 : Int32) (v0_token : Int32) (v0_name : Int64) (v0_fault : Int32) (v0_faultAt : Int32) (v0_next : Int32) (H : Heap) (locs : List Loc) (ls : Array Slot), va_P (dC, dI) vwCl (wX4_scanWord h0 h1 kc1 v0_token v0_tokenAt v0_name v0_fault v0_faultAt v0_size v0_next c1) H → va_D A (wX4_scanWord h0 h1 kc1 v0_token v0_tokenAt v0_name v0_fault v0_faultAt v0_size v0_next c1) → va_S A s.heap H locs → lv_has ls 2 [(0, .ref h0), (1, .int y1)] → fX4_scanWord_l132 v0_tokenAt v0_size c1  n y1 v0_token v0_name v0_fault v0_faultAt v0_next = some o → G 0 0 H locs (F0 m 132 ls []) := by
    intro  n
    induction n with
    | zero => intro y1 v0_token v0_name v0_fault v0_faultAt v0_next H locs ls _ _ _ _ hf; cases hf
    | succ n ih => exact B132  _ ih
  have J99 : ∀ (v0_token : Int32) (v0_name : Int64) (v0_fault : Int32) (v0_faultAt : Int32) (v0_next : Int32) (H : Heap) (locs : List Loc) (ls : Array Slot), va_P (dC, dI) vwCl (wX4_scanWord h0 h1 kc1 v0_token v0_tokenAt v0_name v0_fault v0_faultAt v0_size v0_next c1) H → va_D A (wX4_scanWord h0 h1 kc1 v0_token v0_tokenAt v0_name v0_fault v0_faultAt v0_size v0_next c1) → va_S A s.heap H locs → lv_has ls 2 [(0, .ref h0)] → fX4_scanWord_p99 v0_tokenAt v0_size c1  v0_token v0_name v0_fault v0_faultAt v0_next = some o → G 0 0 H locs (F0 m 99 ls []) := by
    intro  v0_token v0_name v0_fault v0_faultAt v0_next H locs ls hP hD hS hl hf
    refine (hG _ _ _ _ _).mpr ?_
    unfold fX4_scanWord_p99 at hf
    refine lv_aload_n hx hb dX4_scanWord_99 rfl (lv_at hl 0 rfl) ?_
    refine va_get (D := (dC, dI)) (ci := 4) (v := .int v0_next) (C := RX4) (T := TX4) (N := 8) hx hb hts inlX4 hown hK hP 0 rfl rfl 7 (by decide) w4_ (fun _ h9 => h9) rfl dX4_scanWord_100 ?_
    refine lv_aload_n hx hb dX4_scanWord_103 rfl (lv_at hl 0 rfl) ?_
    refine va_get (D := (dC, dI)) (ci := 4) (v := .int v0_tokenAt) (C := RX4) (T := TX4) (N := 8) hx hb hts inlX4 hown hK hP 0 rfl rfl 1 (by decide) w5_ (fun _ h9 => h9) rfl dX4_scanWord_104 ?_
    refine lv_isub hx hb dX4_scanWord_107 ?_
    refine lv_topi (fun x8 e8 => ?_)
    replace hf := nm_at hf e8
    refine lv_bipush (v := 8) hx hb dX4_scanWord_108 (by decide +kernel) ?_
    refine lv_icmp_le (tgt := 123) hx hb dX4_scanWord_110 (by decide) (fun cq9 => ?_) (fun cq9 => ?_)
    · replace hf := if_at hf cq9
      refine lv_aload_n hx hb dX4_scanWord_123 rfl (lv_at hl 0 rfl) ?_
      refine lv_sipush (v := 258) hx hb dX4_scanWord_124 (by decide +kernel) ?_
      refine va_put (D := (dC, dI)) (ci := 4) (v := .int 258) (ty := .int) (C := RX4) (T := TX4) (N := 8) hx hb hts inlX4 tyX4 tyX4_ok nmX4 hown hK hP hD hS 0 rfl rfl 0 (by decide) w3_ (fun _ h9 => h9) rfl (by decide +kernel) rfl rfl (Nat.le_of_ble_eq_true rfl) dX4_scanWord_127 (fun H locs hP hD hS => ?_)
      have hP : va_P (dC, dI) vwCl (wX4_scanWord h0 h1 kc1 258 v0_tokenAt v0_name v0_fault v0_faultAt v0_size v0_next c1) H := hP
      have hD : va_D A (wX4_scanWord h0 h1 kc1 258 v0_tokenAt v0_name v0_fault v0_faultAt v0_size v0_next c1) := hD
      refine lv_iconst (v := 0) hx hb dX4_scanWord_130 (by decide +kernel) ?_
      refine lv_istore_n (lv' := [(1, .int 0), (0, .ref h0)]) hx hb dX4_scanWord_131 rfl hl (by decide) rfl (fun ls hl => ?_)
      exact (hG _ _ _ _ _).mp (L132 FU 0 258 v0_name v0_fault v0_faultAt v0_next H locs ls (hP.sub [0, 1] rfl) (hD.sub [0, 1] (by decide) rfl) hS (lv_sub hl [1, 0] rfl) hf)
    · replace hf := if_no hf cq9
      refine lv_aload_n hx hb dX4_scanWord_113 rfl (lv_at hl 0 rfl) ?_
      refine lv_iconst (v := 1) hx hb dX4_scanWord_114 (by decide +kernel) ?_
      refine lv_aload_n hx hb dX4_scanWord_115 rfl (lv_at hl 0 rfl) ?_
      refine va_get (D := (dC, dI)) (ci := 4) (v := .int v0_tokenAt) (C := RX4) (T := TX4) (N := 8) hx hb hts inlX4 hown hK hP 0 rfl rfl 1 (by decide) w5_ (fun _ h9 => h9) rfl dX4_scanWord_116 ?_
      obtain ⟨o10, e10, hf⟩ := ob_some hf
      refine kVv (As := [.int 1, .int v0_tokenAt]) (rest := []) ⟨hx, hb, hml, hown, hts⟩ (mX4_fail l dC dI h0 H.size base 1 v0_tokenAt v0_token v0_fault v0_faultAt (fun k => match k with | 1 => .int v0_tokenAt | 2 => .long v0_name | 5 => .ref h1 | 6 => .int v0_size | 7 => .int v0_next | _ => .null) o10 e10) (cwV 2 hts (gTV q579 q580 q581 q19 q582) rfl rfl rfl (by decide +kernel) ⟨Nat.le_of_ble_eq_true rfl, Nat.le_of_ble_eq_true rfl⟩) hK hP hD hS hA hE hAB [0] [1] [] (wr := [(h1, .inl (kc1, 600, .inl c1))]) rfl rfl (by decide) (by decide) (by decide) rfl (ci := 4) (q0 := 0) rfl rfl rfl rfl hl.1 rfl (Nat.le_of_ble_eq_true rfl) dX4_scanWord_119 ⟨Nat.zero_le _, Nat.zero_le _⟩ (fun u10 H locs hw10 hP hD hS => ?_)
      have hw101 : o10 = u10 := Eq.symm hw10
      subst hw101
      have hP : va_P (dC, dI) vwCl (wX4_scanWord h0 h1 kc1 o10.1 v0_tokenAt v0_name o10.2.1 o10.2.2 v0_size v0_next c1) H := hP.sub [1, 0] rfl
      have hD : va_D A (wX4_scanWord h0 h1 kc1 o10.1 v0_tokenAt v0_name o10.2.1 o10.2.2 v0_size v0_next c1) := hD.sub [1, 0] (by decide) rfl
      have hf1 := Option.some.inj hf
      subst hf1
      have hP9 := hP.sub (ws' := (wX4_scanWord h0 h1 kc1 o10.1 v0_tokenAt v0_name o10.2.1 o10.2.2 v0_size v0_next c1)) [0, 1] rfl
      have hD9 := hD.sub (ws' := (wX4_scanWord h0 h1 kc1 o10.1 v0_tokenAt v0_name o10.2.1 o10.2.2 v0_size v0_next c1)) [0, 1] (by decide) rfl
      exact W.vret hx hb hr (fun t ht hW => ⟨⟨(o10.1, v0_name, o10.2.1, o10.2.2, v0_next), rfl, rfl, by rw [ht]; exact hP9, va_K.moved hW.alike hK, hD9⟩, hS.F ht⟩) hS.2.2 dX4_scanWord_122
  have J86 : ∀ (k5 : Int32 → Int64 → Int32 → Int32 → Int32 → Option (Int32 × Int64 × Int32 × Int32 × Int32)) (hk5 : ∀ (v0_token : Int32) (v0_name : Int64) (v0_fault : Int32) (v0_faultAt : Int32) (v0_next : Int32) (H : Heap) (locs : List Loc) (ls : Array Slot), va_P (dC, dI) vwCl (wX4_scanWord h0 h1 kc1 v0_token v0_tokenAt v0_name v0_fault v0_faultAt v0_size v0_next c1) H → va_D A (wX4_scanWord h0 h1 kc1 v0_token v0_tokenAt v0_name v0_fault v0_faultAt v0_size v0_next c1) → va_S A s.heap H locs → lv_has ls 2 [(0, .ref h0)] → k5 v0_token v0_name v0_fault v0_faultAt v0_next = some o → G 0 0 H locs (F0 m 5 ls [])), ∀ (v0_token : Int32) (v0_name : Int64) (v0_fault : Int32) (v0_faultAt : Int32) (v0_next : Int32) (H : Heap) (locs : List Loc) (ls : Array Slot), va_P (dC, dI) vwCl (wX4_scanWord h0 h1 kc1 v0_token v0_tokenAt v0_name v0_fault v0_faultAt v0_size v0_next c1) H → va_D A (wX4_scanWord h0 h1 kc1 v0_token v0_tokenAt v0_name v0_fault v0_faultAt v0_size v0_next c1) → va_S A s.heap H locs → lv_has ls 2 [(0, .ref h0)] → fX4_scanWord_p86 v0_tokenAt v0_size c1 k5 v0_token v0_name v0_fault v0_faultAt v0_next = some o → G 0 0 H locs (F0 m 86 ls []) := by
    intro k5 hk5 v0_token v0_name v0_fault v0_faultAt v0_next H locs ls hP hD hS hl hf
    refine (hG _ _ _ _ _).mpr ?_
    unfold fX4_scanWord_p86 at hf
    refine lv_aload_n hx hb dX4_scanWord_86 rfl (lv_at hl 0 rfl) ?_
    refine lv_dup hx hb dX4_scanWord_87 rfl ?_
    refine va_get (D := (dC, dI)) (ci := 4) (v := .int v0_next) (C := RX4) (T := TX4) (N := 8) hx hb hts inlX4 hown hK hP 0 rfl rfl 7 (by decide) w4_ (fun _ h9 => h9) rfl dX4_scanWord_88 ?_
    refine lv_iconst (v := 1) hx hb dX4_scanWord_91 (by decide +kernel) ?_
    refine lv_iadd hx hb dX4_scanWord_92 ?_
    refine lv_topi (fun x11 e11 => ?_)
    replace hf := nm_at hf e11
    refine va_put (D := (dC, dI)) (ci := 4) (v := .int x11) (ty := .int) (C := RX4) (T := TX4) (N := 8) hx hb hts inlX4 tyX4 tyX4_ok nmX4 hown hK hP hD hS 0 rfl rfl 7 (by decide) w4_ (fun _ h9 => h9) rfl (by decide +kernel) rfl rfl (Nat.le_of_ble_eq_true rfl) dX4_scanWord_93 (fun H locs hP hD hS => ?_)
    have hP : va_P (dC, dI) vwCl (wX4_scanWord h0 h1 kc1 v0_token v0_tokenAt v0_name v0_fault v0_faultAt v0_size x11 c1) H := hP
    have hD : va_D A (wX4_scanWord h0 h1 kc1 v0_token v0_tokenAt v0_name v0_fault v0_faultAt v0_size x11 c1) := hD
    refine lv_goto (tgt := 5) hx hb dX4_scanWord_96 (by decide) ?_
    exact (hG _ _ _ _ _).mp (hk5 v0_token v0_name v0_fault v0_faultAt x11 H locs ls (hP.sub [0, 1] rfl) (hD.sub [0, 1] (by decide) rfl) hS (lv_sub hl [0] rfl) hf)
  have J46 : ∀ (k5 : Int32 → Int64 → Int32 → Int32 → Int32 → Option (Int32 × Int64 × Int32 × Int32 × Int32)) (hk5 : ∀ (v0_token : Int32) (v0_name : Int64) (v0_fault : Int32) (v0_faultAt : Int32) (v0_next : Int32) (H : Heap) (locs : List Loc) (ls : Array Slot), va_P (dC, dI) vwCl (wX4_scanWord h0 h1 kc1 v0_token v0_tokenAt v0_name v0_fault v0_faultAt v0_size v0_next c1) H → va_D A (wX4_scanWord h0 h1 kc1 v0_token v0_tokenAt v0_name v0_fault v0_faultAt v0_size v0_next c1) → va_S A s.heap H locs → lv_has ls 2 [(0, .ref h0)] → k5 v0_token v0_name v0_fault v0_faultAt v0_next = some o → G 0 0 H locs (F0 m 5 ls [])), ∀ (v0_token : Int32) (v0_name : Int64) (v0_fault : Int32) (v0_faultAt : Int32) (v0_next : Int32) (H : Heap) (locs : List Loc) (ls : Array Slot), va_P (dC, dI) vwCl (wX4_scanWord h0 h1 kc1 v0_token v0_tokenAt v0_name v0_fault v0_faultAt v0_size v0_next c1) H → va_D A (wX4_scanWord h0 h1 kc1 v0_token v0_tokenAt v0_name v0_fault v0_faultAt v0_size v0_next c1) → va_S A s.heap H locs → lv_has ls 2 [(0, .ref h0)] → fX4_scanWord_p46 v0_tokenAt v0_size c1 k5 v0_token v0_name v0_fault v0_faultAt v0_next = some o → G 0 0 H locs (F0 m 46 ls []) := by
    intro k5 hk5 v0_token v0_name v0_fault v0_faultAt v0_next H locs ls hP hD hS hl hf
    refine (hG _ _ _ _ _).mpr ?_
    unfold fX4_scanWord_p46 at hf
    refine lv_aload_n hx hb dX4_scanWord_46 rfl (lv_at hl 0 rfl) ?_
    refine va_get (D := (dC, dI)) (ci := 4) (v := .int v0_next) (C := RX4) (T := TX4) (N := 8) hx hb hts inlX4 hown hK hP 0 rfl rfl 7 (by decide) w4_ (fun _ h9 => h9) rfl dX4_scanWord_47 ?_
    refine lv_aload_n hx hb dX4_scanWord_50 rfl (lv_at hl 0 rfl) ?_
    refine va_get (D := (dC, dI)) (ci := 4) (v := .int v0_tokenAt) (C := RX4) (T := TX4) (N := 8) hx hb hts inlX4 hown hK hP 0 rfl rfl 1 (by decide) w5_ (fun _ h9 => h9) rfl dX4_scanWord_51 ?_
    refine lv_isub hx hb dX4_scanWord_54 ?_
    refine lv_topi (fun x12 e12 => ?_)
    replace hf := nm_at hf e12
    refine lv_istore_n (lv' := [(1, .int x12), (0, .ref h0)]) hx hb dX4_scanWord_55 rfl hl (by decide) rfl (fun ls hl => ?_)
    refine lv_iload_n hx hb dX4_scanWord_56 rfl (lv_at hl 0 rfl) ?_
    refine lv_bipush (v := 8) hx hb dX4_scanWord_57 (by decide +kernel) ?_
    refine lv_icmp_ge (tgt := 86) hx hb dX4_scanWord_59 (by decide) (fun cq13 => ?_) (fun cq13 => ?_)
    · replace hf := if_at hf cq13
      exact (hG _ _ _ _ _).mp (J86 k5 hk5 v0_token v0_name v0_fault v0_faultAt v0_next H locs ls (hP.sub [0, 1] rfl) (hD.sub [0, 1] (by decide) rfl) hS (lv_sub hl [1] rfl) hf)
    · replace hf := if_no hf cq13
      refine lv_aload_n hx hb dX4_scanWord_62 rfl (lv_at hl 1 rfl) ?_
      refine lv_dup hx hb dX4_scanWord_63 rfl ?_
      refine va_get (D := (dC, dI)) (ci := 4) (v := .long v0_name) (C := RX4) (T := TX4) (N := 8) hx hb hts inlX4 hown hK hP 0 rfl rfl 2 (by decide) w2_ (fun _ h9 => h9) rfl dX4_scanWord_64 ?_
      refine lv_aload_n hx hb dX4_scanWord_67 rfl (lv_at hl 1 rfl) ?_
      refine va_get (D := (dC, dI)) (ci := 4) (v := .ref h1) (C := RX4) (T := TX4) (N := 8) hx hb hts inlX4 hown hK hP 0 rfl rfl 5 (by decide) w6_ (fun _ h9 => h9) rfl dX4_scanWord_68 ?_
      refine lv_aload_n hx hb dX4_scanWord_71 rfl (lv_at hl 1 rfl) ?_
      refine va_get (D := (dC, dI)) (ci := 4) (v := .int v0_next) (C := RX4) (T := TX4) (N := 8) hx hb hts inlX4 hown hK hP 0 rfl rfl 7 (by decide) w4_ (fun _ h9 => h9) rfl dX4_scanWord_72 ?_
      have b14 := bd_in hf
      replace hf := bd_k hf
      refine va_bald hx hb hK hP 1 0 rfl rfl b14 dX4_scanWord_75 ?_
      refine lv_topi (fun x15 e15 => ?_)
      replace hf := nm_at hf e15
      refine lv_i2l hx hb dX4_scanWord_76 rfl ?_
      refine lv_topl (fun x16 e16 => ?_)
      replace hf := nm_at hf e16
      refine lv_bipush (v := 8) hx hb dX4_scanWord_77 (by decide +kernel) ?_
      refine lv_iload_n hx hb dX4_scanWord_79 rfl (lv_at hl 0 rfl) ?_
      refine lv_imul hx hb dX4_scanWord_80 ?_
      refine lv_topi (fun x17 e17 => ?_)
      replace hf := nm_at hf e17
      refine lv_lshl hx hb dX4_scanWord_81 rfl ?_
      refine lv_topl (fun x18 e18 => ?_)
      replace hf := nm_at hf e18
      refine lv_lor hx hb dX4_scanWord_82 ?_
      refine lv_topl (fun x19 e19 => ?_)
      replace hf := nm_at hf e19
      refine va_put (D := (dC, dI)) (ci := 4) (v := .long x19) (ty := .long) (C := RX4) (T := TX4) (N := 8) hx hb hts inlX4 tyX4 tyX4_ok nmX4 hown hK hP hD hS 0 rfl rfl 2 (by decide) w2_ (fun _ h9 => h9) rfl (by decide +kernel) rfl rfl (Nat.le_of_ble_eq_true rfl) dX4_scanWord_83 (fun H locs hP hD hS => ?_)
      have hP : va_P (dC, dI) vwCl (wX4_scanWord h0 h1 kc1 v0_token v0_tokenAt x19 v0_fault v0_faultAt v0_size v0_next c1) H := hP
      have hD : va_D A (wX4_scanWord h0 h1 kc1 v0_token v0_tokenAt x19 v0_fault v0_faultAt v0_size v0_next c1) := hD
      exact (hG _ _ _ _ _).mp (J86 k5 hk5 v0_token x19 v0_fault v0_faultAt v0_next H locs ls (hP.sub [0, 1] rfl) (hD.sub [0, 1] (by decide) rfl) hS (lv_sub hl [1] rfl) hf)
  have B5 : ∀ (k5 : Int32 → Int64 → Int32 → Int32 → Int32 → Option (Int32 × Int64 × Int32 × Int32 × Int32)) (hk5 : ∀ (v0_token : Int32) (v0_name : Int64) (v0_fault : Int32) (v0_faultAt : Int32) (v0_next : Int32) (H : Heap) (locs : List Loc) (ls : Array Slot), va_P (dC, dI) vwCl (wX4_scanWord h0 h1 kc1 v0_token v0_tokenAt v0_name v0_fault v0_faultAt v0_size v0_next c1) H → va_D A (wX4_scanWord h0 h1 kc1 v0_token v0_tokenAt v0_name v0_fault v0_faultAt v0_size v0_next c1) → va_S A s.heap H locs → lv_has ls 2 [(0, .ref h0)] → k5 v0_token v0_name v0_fault v0_faultAt v0_next = some o → G 0 0 H locs (F0 m 5 ls [])), ∀ (v0_token : Int32) (v0_name : Int64) (v0_fault : Int32) (v0_faultAt : Int32) (v0_next : Int32) (H : Heap) (locs : List Loc) (ls : Array Slot), va_P (dC, dI) vwCl (wX4_scanWord h0 h1 kc1 v0_token v0_tokenAt v0_name v0_fault v0_faultAt v0_size v0_next c1) H → va_D A (wX4_scanWord h0 h1 kc1 v0_token v0_tokenAt v0_name v0_fault v0_faultAt v0_size v0_next c1) → va_S A s.heap H locs → lv_has ls 2 [(0, .ref h0)] → fX4_scanWord_b5 v0_tokenAt v0_size c1  k5 v0_token v0_name v0_fault v0_faultAt v0_next = some o → G 0 0 H locs (F0 m 5 ls []) := by
    intro  k5 hk5 v0_token v0_name v0_fault v0_faultAt v0_next H locs ls hP hD hS hl hf
    refine (hG _ _ _ _ _).mpr ?_
    unfold fX4_scanWord_b5 at hf
    refine lv_aload_n hx hb dX4_scanWord_5 rfl (lv_at hl 0 rfl) ?_
    refine va_get (D := (dC, dI)) (ci := 4) (v := .int v0_next) (C := RX4) (T := TX4) (N := 8) hx hb hts inlX4 hown hK hP 0 rfl rfl 7 (by decide) w4_ (fun _ h9 => h9) rfl dX4_scanWord_6 ?_
    refine lv_aload_n hx hb dX4_scanWord_9 rfl (lv_at hl 0 rfl) ?_
    refine va_get (D := (dC, dI)) (ci := 4) (v := .int v0_size) (C := RX4) (T := TX4) (N := 8) hx hb hts inlX4 hown hK hP 0 rfl rfl 6 (by decide) w7_ (fun _ h9 => h9) rfl dX4_scanWord_10 ?_
    refine lv_icmp_ge (tgt := 99) hx hb dX4_scanWord_13 (by decide) (fun cq20 => ?_) (fun cq20 => ?_)
    · replace hf := if_at hf cq20
      exact (hG _ _ _ _ _).mp (J99 v0_token v0_name v0_fault v0_faultAt v0_next H locs ls (hP.sub [0, 1] rfl) (hD.sub [0, 1] (by decide) rfl) hS (lv_sub hl [0] rfl) hf)
    · replace hf := if_no hf cq20
      refine lv_aload_n hx hb dX4_scanWord_16 rfl (lv_at hl 0 rfl) ?_
      refine va_get (D := (dC, dI)) (ci := 4) (v := .ref h1) (C := RX4) (T := TX4) (N := 8) hx hb hts inlX4 hown hK hP 0 rfl rfl 5 (by decide) w6_ (fun _ h9 => h9) rfl dX4_scanWord_17 ?_
      refine lv_aload_n hx hb dX4_scanWord_20 rfl (lv_at hl 0 rfl) ?_
      refine va_get (D := (dC, dI)) (ci := 4) (v := .int v0_next) (C := RX4) (T := TX4) (N := 8) hx hb hts inlX4 hown hK hP 0 rfl rfl 7 (by decide) w4_ (fun _ h9 => h9) rfl dX4_scanWord_21 ?_
      have b21 := bd_in hf
      replace hf := bd_k hf
      refine va_bald hx hb hK hP 1 0 rfl rfl b21 dX4_scanWord_24 ?_
      refine lv_topi (fun x22 e22 => ?_)
      replace hf := nm_at hf e22
      obtain ⟨o23, e23, hf⟩ := ob_some hf
      refine kSi (As := [.int x22]) (rest := []) ⟨hx, hb, hml, hown, hts⟩ (mX4_isLetter l dC dI H.size base x22 o23 e23) (va_cwS 1 hts (gTS q567 q568 q19 q569) rfl rfl rfl (by decide +kernel) ⟨Nat.le_of_ble_eq_true rfl, Nat.le_of_ble_eq_true rfl⟩) hK hP hD hS hA hE hAB [] [0, 1] [] (wr := (wX4_scanWord h0 h1 kc1 v0_token v0_tokenAt v0_name v0_fault v0_faultAt v0_size v0_next c1)) rfl rfl (by decide) (by decide) (by decide) rfl rfl hl.1 rfl (Nat.le_of_ble_eq_true rfl) dX4_scanWord_25 ⟨Nat.zero_le _, Nat.zero_le _⟩ (fun r23 u23 H locs hw23 hP hD hS => ?_)
      obtain ⟨hw231, hw232⟩ := hw23
      subst hw231 hw232
      have hP : va_P (dC, dI) vwCl (wX4_scanWord h0 h1 kc1 v0_token v0_tokenAt v0_name v0_fault v0_faultAt v0_size v0_next c1) H := hP.sub [0, 1] rfl
      have hD : va_D A (wX4_scanWord h0 h1 kc1 v0_token v0_tokenAt v0_name v0_fault v0_faultAt v0_size v0_next c1) := hD.sub [0, 1] (by decide) rfl
      refine lv_if_ne (tgt := 46) hx hb dX4_scanWord_28 (by decide) (fun cq24 => ?_) (fun cq24 => ?_)
      · replace hf := if_no hf cq24
        exact (hG _ _ _ _ _).mp (J46 k5 hk5 v0_token v0_name v0_fault v0_faultAt v0_next H locs ls (hP.sub [0, 1] rfl) (hD.sub [0, 1] (by decide) rfl) hS (lv_sub hl [0] rfl) hf)
      · replace hf := if_at hf cq24
        refine lv_aload_n hx hb dX4_scanWord_31 rfl (lv_at hl 0 rfl) ?_
        refine va_get (D := (dC, dI)) (ci := 4) (v := .ref h1) (C := RX4) (T := TX4) (N := 8) hx hb hts inlX4 hown hK hP 0 rfl rfl 5 (by decide) w6_ (fun _ h9 => h9) rfl dX4_scanWord_32 ?_
        refine lv_aload_n hx hb dX4_scanWord_35 rfl (lv_at hl 0 rfl) ?_
        refine va_get (D := (dC, dI)) (ci := 4) (v := .int v0_next) (C := RX4) (T := TX4) (N := 8) hx hb hts inlX4 hown hK hP 0 rfl rfl 7 (by decide) w4_ (fun _ h9 => h9) rfl dX4_scanWord_36 ?_
        have b25 := bd_in hf
        replace hf := bd_k hf
        refine va_bald hx hb hK hP 1 0 rfl rfl b25 dX4_scanWord_39 ?_
        refine lv_topi (fun x26 e26 => ?_)
        replace hf := nm_at hf e26
        obtain ⟨o27, e27, hf⟩ := ob_some hf
        refine kSi (As := [.int x26]) (rest := []) ⟨hx, hb, hml, hown, hts⟩ (mX4_isDigit l dC dI H.size base x26 o27 e27) (va_cwS 1 hts (gTS q576 q577 q19 q578) rfl rfl rfl (by decide +kernel) ⟨Nat.le_of_ble_eq_true rfl, Nat.le_of_ble_eq_true rfl⟩) hK hP hD hS hA hE hAB [] [0, 1] [] (wr := (wX4_scanWord h0 h1 kc1 v0_token v0_tokenAt v0_name v0_fault v0_faultAt v0_size v0_next c1)) rfl rfl (by decide) (by decide) (by decide) rfl rfl hl.1 rfl (Nat.le_of_ble_eq_true rfl) dX4_scanWord_40 ⟨Nat.zero_le _, Nat.zero_le _⟩ (fun r27 u27 H locs hw27 hP hD hS => ?_)
        obtain ⟨hw271, hw272⟩ := hw27
        subst hw271 hw272
        have hP : va_P (dC, dI) vwCl (wX4_scanWord h0 h1 kc1 v0_token v0_tokenAt v0_name v0_fault v0_faultAt v0_size v0_next c1) H := hP.sub [0, 1] rfl
        have hD : va_D A (wX4_scanWord h0 h1 kc1 v0_token v0_tokenAt v0_name v0_fault v0_faultAt v0_size v0_next c1) := hD.sub [0, 1] (by decide) rfl
        refine lv_if_eq (tgt := 99) hx hb dX4_scanWord_43 (by decide) (fun cq28 => ?_) (fun cq28 => ?_)
        · replace hf := if_at hf cq28
          exact (hG _ _ _ _ _).mp (J99 v0_token v0_name v0_fault v0_faultAt v0_next H locs ls (hP.sub [0, 1] rfl) (hD.sub [0, 1] (by decide) rfl) hS (lv_sub hl [0] rfl) hf)
        · replace hf := if_no hf cq28
          exact (hG _ _ _ _ _).mp (J46 k5 hk5 v0_token v0_name v0_fault v0_faultAt v0_next H locs ls (hP.sub [0, 1] rfl) (hD.sub [0, 1] (by decide) rfl) hS (lv_sub hl [0] rfl) hf)
  have L5 : ∀ (n : Nat), ∀ (v0_token : Int32) (v0_name : Int64) (v0_fault : Int32) (v0_faultAt : Int32) (v0_next : Int32) (H : Heap) (locs : List Loc) (ls : Array Slot), va_P (dC, dI) vwCl (wX4_scanWord h0 h1 kc1 v0_token v0_tokenAt v0_name v0_fault v0_faultAt v0_size v0_next c1) H → va_D A (wX4_scanWord h0 h1 kc1 v0_token v0_tokenAt v0_name v0_fault v0_faultAt v0_size v0_next c1) → va_S A s.heap H locs → lv_has ls 2 [(0, .ref h0)] → fX4_scanWord_l5 v0_tokenAt v0_size c1  n v0_token v0_name v0_fault v0_faultAt v0_next = some o → G 0 0 H locs (F0 m 5 ls []) := by
    intro  n
    induction n with
    | zero => intro v0_token v0_name v0_fault v0_faultAt v0_next H locs ls _ _ _ _ hf; cases hf
    | succ n ih => exact B5  _ ih
  refine (hG _ _ _ _ _).mpr ?_
  obtain ⟨H, hH⟩ : ∃ H, H = s.heap := ⟨_, rfl⟩
  have hS : va_S A s.heap H [] := by rw [hH]; exact hS
  rw [← hH] at hP ⊢
  generalize ([] : List Loc) = locs at hS ⊢
  unfold fX4_scanWord at hf
  refine lv_aload_n hx hb dX4_scanWord_0 rfl (lv_at hl 0 rfl) ?_
  refine lv_lconst (v := 0) hx hb dX4_scanWord_1 (by decide) ?_
  refine va_put (D := (dC, dI)) (ci := 4) (v := .long 0) (ty := .long) (C := RX4) (T := TX4) (N := 8) hx hb hts inlX4 tyX4 tyX4_ok nmX4 hown hK hP hD hS 0 rfl rfl 2 (by decide) w2_ (fun _ h9 => h9) rfl (by decide +kernel) rfl rfl (Nat.le_of_ble_eq_true rfl) dX4_scanWord_2 (fun H locs hP hD hS => ?_)
  have hP : va_P (dC, dI) vwCl (wX4_scanWord h0 h1 kc1 v0_token v0_tokenAt 0 v0_fault v0_faultAt v0_size v0_next c1) H := hP
  have hD : va_D A (wX4_scanWord h0 h1 kc1 v0_token v0_tokenAt 0 v0_fault v0_faultAt v0_size v0_next c1) := hD
  exact (hG _ _ _ _ _).mp (L5 FU v0_token 0 v0_fault v0_faultAt v0_next H locs ls (hP.sub [0, 1] rfl) (hD.sub [0, 1] (by decide) rfl) hS (lv_sub hl [0] rfl) hf)
abbrev wX4_advance (h0 h1 : Nat) (kc1 : ClassId) (v0_token : Int32) (v0_tokenAt : Int32) (v0_name : Int64) (v0_fault : Int32) (v0_faultAt : Int32) (v0_size : Int32) (v0_next : Int32) (c1 : Nat → Int32) : va_W := [(h0, .inr (4, [.int v0_token, .int v0_tokenAt, .long v0_name, .int v0_fault, .int v0_faultAt, .ref h1, .int v0_size, .int v0_next])), (h1, .inl (kc1, 600, .inl c1))]
set_option maxHeartbeats 4000000 in
set_option maxRecDepth 100000 in
theorem mX4_advance (l : Launch) (dC : Nat → ClassId) (dI : Nat → Nat → Nat) (h0 h1 : Nat) (kc1 : ClassId) (sz : Nat) (base : Nat × Nat × Nat) (v0_token : Int32) (v0_tokenAt : Int32) (v0_name : Int64) (v0_fault : Int32) (v0_faultAt : Int32) (v0_size : Int32) (v0_next : Int32) (c1 : Nat → Int32) (o : Int32 × Int32 × Int64 × Int32 × Int32 × Int32) (hf : fX4_advance v0_token v0_tokenAt v0_name v0_fault v0_faultAt v0_size v0_next c1 = some o) : Met l yX4_advance (.code yX4_advance cX4_advance 2 none :: wsL_law) ({ frames := 4, cells := 0, slots := 0, locals := 91 }) (cPre (dC, dI) vwCl [.ref h0] sz base (wX4_advance h0 h1 kc1 v0_token v0_tokenAt v0_name v0_fault v0_faultAt v0_size v0_next c1) [(kc1, .byte)]) (va_Qv (fun u => u = o) (fun (u : Int32 × Int32 × Int64 × Int32 × Int32 × Int32) t => cPost (dC, dI) vwCl (va_A (wX4_advance h0 h1 kc1 v0_token v0_tokenAt v0_name v0_fault v0_faultAt v0_size v0_next c1) sz) (wX4_advance h0 h1 kc1 u.1 u.2.1 u.2.2.1 u.2.2.2.1 u.2.2.2.2.1 v0_size u.2.2.2.2.2 c1) [(kc1, .byte)] t) (va_A (wX4_advance h0 h1 kc1 v0_token v0_tokenAt v0_name v0_fault v0_faultAt v0_size v0_next c1) sz)) 0 0 (va_A (wX4_advance h0 h1 kc1 v0_token v0_tokenAt v0_name v0_fault v0_faultAt v0_size v0_next c1) sz) := by
  refine Met.ofW (cc := cX4_advance) (maxL := 2) (ret := none) (by decide) rfl ?_
  intro p e s m args below meth c s₁ B hml hv
  obtain ⟨rfl, hsz, hP, hK, hD0, hE⟩ := hv
  have hx := B.exec
  have hb := B.bytes
  have hr := B.returns
  have hts : ∀ w ∈ wsL_law, _ := fun w h => atoms_spec (ws := .code yX4_advance cX4_advance 2 none :: wsL_law) B.pre w (List.mem_cons_of_mem _ h)
  have hown : s.vm.findClass RX4 = some m.cls := findClass_of_methodNamed B.named
  have hlocks := B.notSynchronized
  have w0_ := hts _ q559
  have w1_ := hts _ q565
  have w2_ := hts _ q525
  have w3_ := hts _ q45
  obtain ⟨-, -, hCm, hR, hSt⟩ := id hE.2.2
  obtain ⟨hSo, hSc, hSv, um⟩ := hSt.1 0 (by decide)
  have w5_ := hts _ q566
  have w6_ := hts _ q560
  subst hsz
  have hD := hD0.self (sz := s.heap.size)
  generalize hAe : va_A (wX4_advance h0 h1 kc1 v0_token v0_tokenAt v0_name v0_fault v0_faultAt v0_size v0_next c1) s.heap.size = A at hD ⊢
  have hA : ∀ q : Nat, s.heap.size ≤ q → A q := fun q h => by rw [← hAe]; exact Or.inr h
  have hAB : ∀ q : Nat, A q → base.1 ≤ q := fun q h => by rw [← hAe] at h; exact h.elim (fun ⟨k, e, hk⟩ => hD0.2 k _ hk) (fun hk => Nat.le_trans hE.1 hk)
  have hS : va_S A s.heap s.heap [] := va_S.rf
  have hl := lv_entry ([.ref h0]) (n := 2) (Nat.le_of_ble_eq_true rfl)
  rw [lg_entry_eq]
  generalize (lg_sl ([.ref h0]) ++ List.replicate (2 - (lg_sl ([.ref h0])).length) Slot.unset).toArray = ls at hl ⊢
  have hl : lv_has ls 2 [(0, .ref h0)] := hl
  have hP : va_P (dC, dI) vwCl (wX4_advance h0 h1 kc1 v0_token v0_tokenAt v0_name v0_fault v0_faultAt v0_size v0_next c1) s.heap := hP
  refine gl_intro (fun G hG => ?_)
  have J152 : ∀ (v0_token : Int32) (v0_tokenAt : Int32) (v0_name : Int64) (v0_fault : Int32) (v0_faultAt : Int32) (v0_next : Int32) (H : Heap) (locs : List Loc) (ls : Array Slot), va_P (dC, dI) vwCl (wX4_advance h0 h1 kc1 v0_token v0_tokenAt v0_name v0_fault v0_faultAt v0_size v0_next c1) H → va_D A (wX4_advance h0 h1 kc1 v0_token v0_tokenAt v0_name v0_fault v0_faultAt v0_size v0_next c1) → va_S A s.heap H locs → lv_has ls 2 [(0, .ref h0)] → fX4_advance_p152 v0_size c1  v0_token v0_tokenAt v0_name v0_fault v0_faultAt v0_next = some o → G 0 0 H locs (F0 m 152 ls []) := by
    intro  v0_token v0_tokenAt v0_name v0_fault v0_faultAt v0_next H locs ls hP hD hS hl hf
    refine (hG _ _ _ _ _).mpr ?_
    unfold fX4_advance_p152 at hf
    have hf1 := Option.some.inj hf
    subst hf1
    have hP9 := hP.sub (ws' := (wX4_advance h0 h1 kc1 v0_token v0_tokenAt v0_name v0_fault v0_faultAt v0_size v0_next c1)) [0, 1] rfl
    have hD9 := hD.sub (ws' := (wX4_advance h0 h1 kc1 v0_token v0_tokenAt v0_name v0_fault v0_faultAt v0_size v0_next c1)) [0, 1] (by decide) rfl
    exact W.vret hx hb hr (fun t ht hW => ⟨⟨(v0_token, v0_tokenAt, v0_name, v0_fault, v0_faultAt, v0_next), rfl, rfl, by rw [ht]; exact hP9, va_K.moved hW.alike hK, hD9⟩, hS.F ht⟩) hS.2.2 dX4_advance_152
  have J60 : ∀ (v0_token : Int32) (v0_tokenAt : Int32) (v0_name : Int64) (v0_fault : Int32) (v0_faultAt : Int32) (v0_next : Int32) (H : Heap) (locs : List Loc) (ls : Array Slot), va_P (dC, dI) vwCl (wX4_advance h0 h1 kc1 v0_token v0_tokenAt v0_name v0_fault v0_faultAt v0_size v0_next c1) H → va_D A (wX4_advance h0 h1 kc1 v0_token v0_tokenAt v0_name v0_fault v0_faultAt v0_size v0_next c1) → va_S A s.heap H locs → lv_has ls 2 [(0, .ref h0)] → fX4_advance_p60 v0_size c1  v0_token v0_tokenAt v0_name v0_fault v0_faultAt v0_next = some o → G 0 0 H locs (F0 m 60 ls []) := by
    intro  v0_token v0_tokenAt v0_name v0_fault v0_faultAt v0_next H locs ls hP hD hS hl hf
    refine (hG _ _ _ _ _).mpr ?_
    unfold fX4_advance_p60 at hf
    refine lv_aload_n hx hb dX4_advance_60 rfl (lv_at hl 0 rfl) ?_
    refine lv_aload_n hx hb dX4_advance_61 rfl (lv_at hl 0 rfl) ?_
    refine va_get (D := (dC, dI)) (ci := 4) (v := .int v0_next) (C := RX4) (T := TX4) (N := 8) hx hb hts inlX4 hown hK hP 0 rfl rfl 7 (by decide) w0_ (fun _ h9 => h9) rfl dX4_advance_62 ?_
    refine va_put (D := (dC, dI)) (ci := 4) (v := .int v0_next) (ty := .int) (C := RX4) (T := TX4) (N := 8) hx hb hts inlX4 tyX4 tyX4_ok nmX4 hown hK hP hD hS 0 rfl rfl 1 (by decide) w1_ (fun _ h9 => h9) rfl (by decide +kernel) rfl rfl (Nat.le_of_ble_eq_true rfl) dX4_advance_65 (fun H locs hP hD hS => ?_)
    have hP : va_P (dC, dI) vwCl (wX4_advance h0 h1 kc1 v0_token v0_next v0_name v0_fault v0_faultAt v0_size v0_next c1) H := hP
    have hD : va_D A (wX4_advance h0 h1 kc1 v0_token v0_next v0_name v0_fault v0_faultAt v0_size v0_next c1) := hD
    refine lv_aload_n hx hb dX4_advance_68 rfl (lv_at hl 0 rfl) ?_
    refine va_get (D := (dC, dI)) (ci := 4) (v := .int v0_next) (C := RX4) (T := TX4) (N := 8) hx hb hts inlX4 hown hK hP 0 rfl rfl 7 (by decide) w0_ (fun _ h9 => h9) rfl dX4_advance_69 ?_
    refine lv_aload_n hx hb dX4_advance_72 rfl (lv_at hl 0 rfl) ?_
    refine va_get (D := (dC, dI)) (ci := 4) (v := .int v0_size) (C := RX4) (T := TX4) (N := 8) hx hb hts inlX4 hown hK hP 0 rfl rfl 6 (by decide) w2_ (fun _ h9 => h9) rfl dX4_advance_73 ?_
    refine lv_icmp_lt (tgt := 87) hx hb dX4_advance_76 (by decide) (fun cq1 => ?_) (fun cq1 => ?_)
    · replace hf := if_at hf cq1
      refine lv_aload_n hx hb dX4_advance_87 rfl (lv_at hl 0 rfl) ?_
      refine va_get (D := (dC, dI)) (ci := 4) (v := .ref h1) (C := RX4) (T := TX4) (N := 8) hx hb hts inlX4 hown hK hP 0 rfl rfl 5 (by decide) w3_ (fun _ h9 => h9) rfl dX4_advance_88 ?_
      refine lv_aload_n hx hb dX4_advance_91 rfl (lv_at hl 0 rfl) ?_
      refine va_get (D := (dC, dI)) (ci := 4) (v := .int v0_next) (C := RX4) (T := TX4) (N := 8) hx hb hts inlX4 hown hK hP 0 rfl rfl 7 (by decide) w0_ (fun _ h9 => h9) rfl dX4_advance_92 ?_
      have b2 := bd_in hf
      replace hf := bd_k hf
      refine va_bald hx hb hK hP 1 0 rfl rfl b2 dX4_advance_95 ?_
      refine lv_topi (fun x3 e3 => ?_)
      replace hf := nm_at hf e3
      refine lv_sipush (v := 255) hx hb dX4_advance_96 (by decide +kernel) ?_
      refine lv_iand hx hb dX4_advance_99 ?_
      refine lv_topi (fun x4 e4 => ?_)
      replace hf := nm_at hf e4
      refine lv_istore_n (lv' := [(1, .int x4), (0, .ref h0)]) hx hb dX4_advance_100 rfl hl (by decide) rfl (fun ls hl => ?_)
      refine lv_iload_n hx hb dX4_advance_101 rfl (lv_at hl 0 rfl) ?_
      obtain ⟨o5, e5, hf⟩ := ob_some hf
      refine kSi (As := [.int x4]) (rest := []) ⟨hx, hb, hml, hown, hts⟩ (mX4_isLetter l dC dI H.size base x4 o5 e5) (va_cwS 1 hts (gTS q567 q568 q19 q569) rfl rfl rfl (by decide +kernel) ⟨Nat.le_of_ble_eq_true rfl, Nat.le_of_ble_eq_true rfl⟩) hK hP hD hS hA hE hAB [] [0, 1] [] (wr := (wX4_advance h0 h1 kc1 v0_token v0_next v0_name v0_fault v0_faultAt v0_size v0_next c1)) rfl rfl (by decide) (by decide) (by decide) rfl rfl hl.1 rfl (Nat.le_of_ble_eq_true rfl) dX4_advance_102 ⟨Nat.zero_le _, Nat.zero_le _⟩ (fun r5 u5 H locs hw5 hP hD hS => ?_)
      obtain ⟨hw51, hw52⟩ := hw5
      subst hw51 hw52
      have hP : va_P (dC, dI) vwCl (wX4_advance h0 h1 kc1 v0_token v0_next v0_name v0_fault v0_faultAt v0_size v0_next c1) H := hP.sub [0, 1] rfl
      have hD : va_D A (wX4_advance h0 h1 kc1 v0_token v0_next v0_name v0_fault v0_faultAt v0_size v0_next c1) := hD.sub [0, 1] (by decide) rfl
      refine lv_if_eq (tgt := 115) hx hb dX4_advance_105 (by decide) (fun cq6 => ?_) (fun cq6 => ?_)
      · replace hf := if_at hf cq6
        refine va_ldcS hx hb hown hR dX4_advance_115 ?_
        refine lv_iload_n hx hb dX4_advance_117 rfl (lv_at hl 0 rfl) ?_
        refine lv_i2c hx hb dX4_advance_118 rfl ?_
        refine lv_topi (fun x7 e7 => ?_)
        replace hf := nm_at hf e7
        obtain ⟨o8, e8, hf⟩ := ob_some hf
        refine kTi (As := [.int x7]) (rest := []) ⟨hx, hb, hml, hown, hts⟩ (mJ0_indexOf_0f7a4 l dC dI H.size base x7 o8 e8) (cwV 1 hts (gTV q584 q585 q586 q587 q588) rfl rfl rfl (by decide +kernel) ⟨Nat.le_of_ble_eq_true rfl, Nat.le_of_ble_eq_true rfl⟩) hK hP hD hS hA hE hAB [] [0, 1] [] (wr := (wX4_advance h0 h1 kc1 v0_token v0_next v0_name v0_fault v0_faultAt v0_size v0_next c1)) rfl rfl (by decide) (by decide) (by decide) rfl (va_Orecv (hSo.narrow hAB) hS) rfl hl.1 rfl (Nat.le_of_ble_eq_true rfl) dX4_advance_119 ⟨Nat.zero_le _, Nat.zero_le _⟩ (fun r8 u8 H locs hw8 hP hD hS => ?_)
        obtain ⟨hw81, hw82⟩ := hw8
        subst hw81 hw82
        have hP : va_P (dC, dI) vwCl (wX4_advance h0 h1 kc1 v0_token v0_next v0_name v0_fault v0_faultAt v0_size v0_next c1) H := hP.sub [0, 1] rfl
        have hD : va_D A (wX4_advance h0 h1 kc1 v0_token v0_next v0_name v0_fault v0_faultAt v0_size v0_next c1) := hD.sub [0, 1] (by decide) rfl
        refine lv_if_lt (tgt := 143) hx hb dX4_advance_122 (by decide) (fun cq9 => ?_) (fun cq9 => ?_)
        · replace hf := if_at hf cq9
          refine lv_aload_n hx hb dX4_advance_143 rfl (lv_at hl 1 rfl) ?_
          refine lv_iconst (v := 1) hx hb dX4_advance_144 (by decide +kernel) ?_
          refine lv_aload_n hx hb dX4_advance_145 rfl (lv_at hl 1 rfl) ?_
          refine va_get (D := (dC, dI)) (ci := 4) (v := .int v0_next) (C := RX4) (T := TX4) (N := 8) hx hb hts inlX4 hown hK hP 0 rfl rfl 1 (by decide) w1_ (fun _ h9 => h9) rfl dX4_advance_146 ?_
          obtain ⟨o10, e10, hf⟩ := ob_some hf
          refine kVv (As := [.int 1, .int v0_next]) (rest := []) ⟨hx, hb, hml, hown, hts⟩ (mX4_fail l dC dI h0 H.size base 1 v0_next v0_token v0_fault v0_faultAt (fun k => match k with | 1 => .int v0_next | 2 => .long v0_name | 5 => .ref h1 | 6 => .int v0_size | 7 => .int v0_next | _ => .null) o10 e10) (cwV 2 hts (gTV q579 q580 q581 q19 q582) rfl rfl rfl (by decide +kernel) ⟨Nat.le_of_ble_eq_true rfl, Nat.le_of_ble_eq_true rfl⟩) hK hP hD hS hA hE hAB [0] [1] [] (wr := [(h1, .inl (kc1, 600, .inl c1))]) rfl rfl (by decide) (by decide) (by decide) rfl (ci := 4) (q0 := 0) rfl rfl rfl rfl hl.1 rfl (Nat.le_of_ble_eq_true rfl) dX4_advance_149 ⟨Nat.zero_le _, Nat.zero_le _⟩ (fun u10 H locs hw10 hP hD hS => ?_)
          have hw101 : o10 = u10 := Eq.symm hw10
          subst hw101
          have hP : va_P (dC, dI) vwCl (wX4_advance h0 h1 kc1 o10.1 v0_next v0_name o10.2.1 o10.2.2 v0_size v0_next c1) H := hP.sub [1, 0] rfl
          have hD : va_D A (wX4_advance h0 h1 kc1 o10.1 v0_next v0_name o10.2.1 o10.2.2 v0_size v0_next c1) := hD.sub [1, 0] (by decide) rfl
          exact (hG _ _ _ _ _).mp (J152 o10.1 v0_next v0_name o10.2.1 o10.2.2 v0_next H locs ls (hP.sub [0, 1] rfl) (hD.sub [0, 1] (by decide) rfl) hS (lv_sub hl [1] rfl) hf)
        · replace hf := if_no hf cq9
          refine lv_aload_n hx hb dX4_advance_125 rfl (lv_at hl 1 rfl) ?_
          refine lv_iload_n hx hb dX4_advance_126 rfl (lv_at hl 0 rfl) ?_
          refine va_put (D := (dC, dI)) (ci := 4) (v := .int x4) (ty := .int) (C := RX4) (T := TX4) (N := 8) hx hb hts inlX4 tyX4 tyX4_ok nmX4 hown hK hP hD hS 0 rfl rfl 0 (by decide) w5_ (fun _ h9 => h9) rfl (by decide +kernel) rfl rfl (Nat.le_of_ble_eq_true rfl) dX4_advance_127 (fun H locs hP hD hS => ?_)
          have hP : va_P (dC, dI) vwCl (wX4_advance h0 h1 kc1 x4 v0_next v0_name v0_fault v0_faultAt v0_size v0_next c1) H := hP
          have hD : va_D A (wX4_advance h0 h1 kc1 x4 v0_next v0_name v0_fault v0_faultAt v0_size v0_next c1) := hD
          refine lv_aload_n hx hb dX4_advance_130 rfl (lv_at hl 1 rfl) ?_
          refine lv_dup hx hb dX4_advance_131 rfl ?_
          refine va_get (D := (dC, dI)) (ci := 4) (v := .int v0_next) (C := RX4) (T := TX4) (N := 8) hx hb hts inlX4 hown hK hP 0 rfl rfl 7 (by decide) w0_ (fun _ h9 => h9) rfl dX4_advance_132 ?_
          refine lv_iconst (v := 1) hx hb dX4_advance_135 (by decide +kernel) ?_
          refine lv_iadd hx hb dX4_advance_136 ?_
          refine lv_topi (fun x11 e11 => ?_)
          replace hf := nm_at hf e11
          refine va_put (D := (dC, dI)) (ci := 4) (v := .int x11) (ty := .int) (C := RX4) (T := TX4) (N := 8) hx hb hts inlX4 tyX4 tyX4_ok nmX4 hown hK hP hD hS 0 rfl rfl 7 (by decide) w0_ (fun _ h9 => h9) rfl (by decide +kernel) rfl rfl (Nat.le_of_ble_eq_true rfl) dX4_advance_137 (fun H locs hP hD hS => ?_)
          have hP : va_P (dC, dI) vwCl (wX4_advance h0 h1 kc1 x4 v0_next v0_name v0_fault v0_faultAt v0_size x11 c1) H := hP
          have hD : va_D A (wX4_advance h0 h1 kc1 x4 v0_next v0_name v0_fault v0_faultAt v0_size x11 c1) := hD
          refine lv_goto (tgt := 152) hx hb dX4_advance_140 (by decide) ?_
          exact (hG _ _ _ _ _).mp (J152 x4 v0_next v0_name v0_fault v0_faultAt x11 H locs ls (hP.sub [0, 1] rfl) (hD.sub [0, 1] (by decide) rfl) hS (lv_sub hl [1] rfl) hf)
      · replace hf := if_no hf cq6
        refine lv_aload_n hx hb dX4_advance_108 rfl (lv_at hl 1 rfl) ?_
        obtain ⟨o12, e12, hf⟩ := ob_some hf
        refine kVv (As := []) (rest := []) ⟨hx, hb, hml, hown, hts⟩ (mX4_scanWord l dC dI h0 h1 kc1 H.size base v0_token v0_next v0_name v0_fault v0_faultAt v0_size v0_next c1 o12 e12) (cwV 0 hts (gTV q570 q571 q572 q19 q573) rfl rfl rfl (by decide +kernel) ⟨Nat.le_of_ble_eq_true rfl, Nat.le_of_ble_eq_true rfl⟩) hK hP hD hS hA hE hAB [0, 1] [] [0] (wr := []) rfl rfl (by decide) (by decide) (by decide) rfl (ci := 4) (q0 := 0) rfl rfl rfl rfl hl.1 rfl (Nat.le_of_ble_eq_true rfl) dX4_advance_109 ⟨Nat.zero_le _, Nat.zero_le _⟩ (fun u12 H locs hw12 hP hD hS => ?_)
        have hw121 : o12 = u12 := Eq.symm hw12
        subst hw121
        have hP : va_P (dC, dI) vwCl (wX4_advance h0 h1 kc1 o12.1 v0_next o12.2.1 o12.2.2.1 o12.2.2.2.1 v0_size o12.2.2.2.2 c1) H := hP.sub [0, 1] rfl
        have hD : va_D A (wX4_advance h0 h1 kc1 o12.1 v0_next o12.2.1 o12.2.2.1 o12.2.2.2.1 v0_size o12.2.2.2.2 c1) := hD.sub [0, 1] (by decide) rfl
        refine lv_goto (tgt := 152) hx hb dX4_advance_112 (by decide) ?_
        exact (hG _ _ _ _ _).mp (J152 o12.1 v0_next o12.2.1 o12.2.2.1 o12.2.2.2.1 o12.2.2.2.2 H locs ls (hP.sub [0, 1] rfl) (hD.sub [0, 1] (by decide) rfl) hS (lv_sub hl [1] rfl) hf)
    · replace hf := if_no hf cq1
      refine lv_aload_n hx hb dX4_advance_79 rfl (lv_at hl 0 rfl) ?_
      refine lv_sipush (v := 256) hx hb dX4_advance_80 (by decide +kernel) ?_
      refine va_put (D := (dC, dI)) (ci := 4) (v := .int 256) (ty := .int) (C := RX4) (T := TX4) (N := 8) hx hb hts inlX4 tyX4 tyX4_ok nmX4 hown hK hP hD hS 0 rfl rfl 0 (by decide) w5_ (fun _ h9 => h9) rfl (by decide +kernel) rfl rfl (Nat.le_of_ble_eq_true rfl) dX4_advance_83 (fun H locs hP hD hS => ?_)
      have hP : va_P (dC, dI) vwCl (wX4_advance h0 h1 kc1 256 v0_next v0_name v0_fault v0_faultAt v0_size v0_next c1) H := hP
      have hD : va_D A (wX4_advance h0 h1 kc1 256 v0_next v0_name v0_fault v0_faultAt v0_size v0_next c1) := hD
      have hf1 := Option.some.inj hf
      subst hf1
      have hP9 := hP.sub (ws' := (wX4_advance h0 h1 kc1 256 v0_next v0_name v0_fault v0_faultAt v0_size v0_next c1)) [0, 1] rfl
      have hD9 := hD.sub (ws' := (wX4_advance h0 h1 kc1 256 v0_next v0_name v0_fault v0_faultAt v0_size v0_next c1)) [0, 1] (by decide) rfl
      exact W.vret hx hb hr (fun t ht hW => ⟨⟨(256, v0_next, v0_name, v0_fault, v0_faultAt, v0_next), rfl, rfl, by rw [ht]; exact hP9, va_K.moved hW.alike hK, hD9⟩, hS.F ht⟩) hS.2.2 dX4_advance_86
  have J47 : ∀ (k8 : Int32 → Int32 → Int64 → Int32 → Int32 → Int32 → Option (Int32 × Int32 × Int64 × Int32 × Int32 × Int32)) (hk8 : ∀ (v0_token : Int32) (v0_tokenAt : Int32) (v0_name : Int64) (v0_fault : Int32) (v0_faultAt : Int32) (v0_next : Int32) (H : Heap) (locs : List Loc) (ls : Array Slot), va_P (dC, dI) vwCl (wX4_advance h0 h1 kc1 v0_token v0_tokenAt v0_name v0_fault v0_faultAt v0_size v0_next c1) H → va_D A (wX4_advance h0 h1 kc1 v0_token v0_tokenAt v0_name v0_fault v0_faultAt v0_size v0_next c1) → va_S A s.heap H locs → lv_has ls 2 [(0, .ref h0)] → k8 v0_token v0_tokenAt v0_name v0_fault v0_faultAt v0_next = some o → G 0 0 H locs (F0 m 8 ls [])), ∀ (v0_token : Int32) (v0_tokenAt : Int32) (v0_name : Int64) (v0_fault : Int32) (v0_faultAt : Int32) (v0_next : Int32) (H : Heap) (locs : List Loc) (ls : Array Slot), va_P (dC, dI) vwCl (wX4_advance h0 h1 kc1 v0_token v0_tokenAt v0_name v0_fault v0_faultAt v0_size v0_next c1) H → va_D A (wX4_advance h0 h1 kc1 v0_token v0_tokenAt v0_name v0_fault v0_faultAt v0_size v0_next c1) → va_S A s.heap H locs → lv_has ls 2 [(0, .ref h0)] → fX4_advance_p47 v0_size c1 k8 v0_token v0_tokenAt v0_name v0_fault v0_faultAt v0_next = some o → G 0 0 H locs (F0 m 47 ls []) := by
    intro k8 hk8 v0_token v0_tokenAt v0_name v0_fault v0_faultAt v0_next H locs ls hP hD hS hl hf
    refine (hG _ _ _ _ _).mpr ?_
    unfold fX4_advance_p47 at hf
    refine lv_aload_n hx hb dX4_advance_47 rfl (lv_at hl 0 rfl) ?_
    refine lv_dup hx hb dX4_advance_48 rfl ?_
    refine va_get (D := (dC, dI)) (ci := 4) (v := .int v0_next) (C := RX4) (T := TX4) (N := 8) hx hb hts inlX4 hown hK hP 0 rfl rfl 7 (by decide) w0_ (fun _ h9 => h9) rfl dX4_advance_49 ?_
    refine lv_iconst (v := 1) hx hb dX4_advance_52 (by decide +kernel) ?_
    refine lv_iadd hx hb dX4_advance_53 ?_
    refine lv_topi (fun x13 e13 => ?_)
    replace hf := nm_at hf e13
    refine va_put (D := (dC, dI)) (ci := 4) (v := .int x13) (ty := .int) (C := RX4) (T := TX4) (N := 8) hx hb hts inlX4 tyX4 tyX4_ok nmX4 hown hK hP hD hS 0 rfl rfl 7 (by decide) w0_ (fun _ h9 => h9) rfl (by decide +kernel) rfl rfl (Nat.le_of_ble_eq_true rfl) dX4_advance_54 (fun H locs hP hD hS => ?_)
    have hP : va_P (dC, dI) vwCl (wX4_advance h0 h1 kc1 v0_token v0_tokenAt v0_name v0_fault v0_faultAt v0_size x13 c1) H := hP
    have hD : va_D A (wX4_advance h0 h1 kc1 v0_token v0_tokenAt v0_name v0_fault v0_faultAt v0_size x13 c1) := hD
    refine lv_goto (tgt := 8) hx hb dX4_advance_57 (by decide) ?_
    exact (hG _ _ _ _ _).mp (hk8 v0_token v0_tokenAt v0_name v0_fault v0_faultAt x13 H locs ls (hP.sub [0, 1] rfl) (hD.sub [0, 1] (by decide) rfl) hS (lv_sub hl [0] rfl) hf)
  have B8 : ∀ (k8 : Int32 → Int32 → Int64 → Int32 → Int32 → Int32 → Option (Int32 × Int32 × Int64 × Int32 × Int32 × Int32)) (hk8 : ∀ (v0_token : Int32) (v0_tokenAt : Int32) (v0_name : Int64) (v0_fault : Int32) (v0_faultAt : Int32) (v0_next : Int32) (H : Heap) (locs : List Loc) (ls : Array Slot), va_P (dC, dI) vwCl (wX4_advance h0 h1 kc1 v0_token v0_tokenAt v0_name v0_fault v0_faultAt v0_size v0_next c1) H → va_D A (wX4_advance h0 h1 kc1 v0_token v0_tokenAt v0_name v0_fault v0_faultAt v0_size v0_next c1) → va_S A s.heap H locs → lv_has ls 2 [(0, .ref h0)] → k8 v0_token v0_tokenAt v0_name v0_fault v0_faultAt v0_next = some o → G 0 0 H locs (F0 m 8 ls [])), ∀ (v0_token : Int32) (v0_tokenAt : Int32) (v0_name : Int64) (v0_fault : Int32) (v0_faultAt : Int32) (v0_next : Int32) (H : Heap) (locs : List Loc) (ls : Array Slot), va_P (dC, dI) vwCl (wX4_advance h0 h1 kc1 v0_token v0_tokenAt v0_name v0_fault v0_faultAt v0_size v0_next c1) H → va_D A (wX4_advance h0 h1 kc1 v0_token v0_tokenAt v0_name v0_fault v0_faultAt v0_size v0_next c1) → va_S A s.heap H locs → lv_has ls 2 [(0, .ref h0)] → fX4_advance_b8 v0_size c1  k8 v0_token v0_tokenAt v0_name v0_fault v0_faultAt v0_next = some o → G 0 0 H locs (F0 m 8 ls []) := by
    intro  k8 hk8 v0_token v0_tokenAt v0_name v0_fault v0_faultAt v0_next H locs ls hP hD hS hl hf
    refine (hG _ _ _ _ _).mpr ?_
    unfold fX4_advance_b8 at hf
    refine lv_aload_n hx hb dX4_advance_8 rfl (lv_at hl 0 rfl) ?_
    refine va_get (D := (dC, dI)) (ci := 4) (v := .int v0_next) (C := RX4) (T := TX4) (N := 8) hx hb hts inlX4 hown hK hP 0 rfl rfl 7 (by decide) w0_ (fun _ h9 => h9) rfl dX4_advance_9 ?_
    refine lv_aload_n hx hb dX4_advance_12 rfl (lv_at hl 0 rfl) ?_
    refine va_get (D := (dC, dI)) (ci := 4) (v := .int v0_size) (C := RX4) (T := TX4) (N := 8) hx hb hts inlX4 hown hK hP 0 rfl rfl 6 (by decide) w2_ (fun _ h9 => h9) rfl dX4_advance_13 ?_
    refine lv_icmp_ge (tgt := 60) hx hb dX4_advance_16 (by decide) (fun cq14 => ?_) (fun cq14 => ?_)
    · replace hf := if_at hf cq14
      exact (hG _ _ _ _ _).mp (J60 v0_token v0_tokenAt v0_name v0_fault v0_faultAt v0_next H locs ls (hP.sub [0, 1] rfl) (hD.sub [0, 1] (by decide) rfl) hS (lv_sub hl [0] rfl) hf)
    · replace hf := if_no hf cq14
      refine lv_aload_n hx hb dX4_advance_19 rfl (lv_at hl 0 rfl) ?_
      refine va_get (D := (dC, dI)) (ci := 4) (v := .ref h1) (C := RX4) (T := TX4) (N := 8) hx hb hts inlX4 hown hK hP 0 rfl rfl 5 (by decide) w3_ (fun _ h9 => h9) rfl dX4_advance_20 ?_
      refine lv_aload_n hx hb dX4_advance_23 rfl (lv_at hl 0 rfl) ?_
      refine va_get (D := (dC, dI)) (ci := 4) (v := .int v0_next) (C := RX4) (T := TX4) (N := 8) hx hb hts inlX4 hown hK hP 0 rfl rfl 7 (by decide) w0_ (fun _ h9 => h9) rfl dX4_advance_24 ?_
      have b15 := bd_in hf
      replace hf := bd_k hf
      refine va_bald hx hb hK hP 1 0 rfl rfl b15 dX4_advance_27 ?_
      refine lv_topi (fun x16 e16 => ?_)
      replace hf := nm_at hf e16
      refine lv_bipush (v := 32) hx hb dX4_advance_28 (by decide +kernel) ?_
      refine lv_icmp_eq (tgt := 47) hx hb dX4_advance_30 (by decide) (fun cq17 => ?_) (fun cq17 => ?_)
      · replace hf := if_at hf cq17
        exact (hG _ _ _ _ _).mp (J47 k8 hk8 v0_token v0_tokenAt v0_name v0_fault v0_faultAt v0_next H locs ls (hP.sub [0, 1] rfl) (hD.sub [0, 1] (by decide) rfl) hS (lv_sub hl [0] rfl) hf)
      · replace hf := if_no hf cq17
        refine lv_aload_n hx hb dX4_advance_33 rfl (lv_at hl 0 rfl) ?_
        refine va_get (D := (dC, dI)) (ci := 4) (v := .ref h1) (C := RX4) (T := TX4) (N := 8) hx hb hts inlX4 hown hK hP 0 rfl rfl 5 (by decide) w3_ (fun _ h9 => h9) rfl dX4_advance_34 ?_
        refine lv_aload_n hx hb dX4_advance_37 rfl (lv_at hl 0 rfl) ?_
        refine va_get (D := (dC, dI)) (ci := 4) (v := .int v0_next) (C := RX4) (T := TX4) (N := 8) hx hb hts inlX4 hown hK hP 0 rfl rfl 7 (by decide) w0_ (fun _ h9 => h9) rfl dX4_advance_38 ?_
        have b18 := bd_in hf
        replace hf := bd_k hf
        refine va_bald hx hb hK hP 1 0 rfl rfl b18 dX4_advance_41 ?_
        refine lv_topi (fun x19 e19 => ?_)
        replace hf := nm_at hf e19
        refine lv_bipush (v := 10) hx hb dX4_advance_42 (by decide +kernel) ?_
        refine lv_icmp_ne (tgt := 60) hx hb dX4_advance_44 (by decide) (fun cq20 => ?_) (fun cq20 => ?_)
        · replace hf := if_no hf cq20
          exact (hG _ _ _ _ _).mp (J60 v0_token v0_tokenAt v0_name v0_fault v0_faultAt v0_next H locs ls (hP.sub [0, 1] rfl) (hD.sub [0, 1] (by decide) rfl) hS (lv_sub hl [0] rfl) hf)
        · replace hf := if_at hf cq20
          exact (hG _ _ _ _ _).mp (J47 k8 hk8 v0_token v0_tokenAt v0_name v0_fault v0_faultAt v0_next H locs ls (hP.sub [0, 1] rfl) (hD.sub [0, 1] (by decide) rfl) hS (lv_sub hl [0] rfl) hf)
  have L8 : ∀ (n : Nat), ∀ (v0_token : Int32) (v0_tokenAt : Int32) (v0_name : Int64) (v0_fault : Int32) (v0_faultAt : Int32) (v0_next : Int32) (H : Heap) (locs : List Loc) (ls : Array Slot), va_P (dC, dI) vwCl (wX4_advance h0 h1 kc1 v0_token v0_tokenAt v0_name v0_fault v0_faultAt v0_size v0_next c1) H → va_D A (wX4_advance h0 h1 kc1 v0_token v0_tokenAt v0_name v0_fault v0_faultAt v0_size v0_next c1) → va_S A s.heap H locs → lv_has ls 2 [(0, .ref h0)] → fX4_advance_l8 v0_size c1  n v0_token v0_tokenAt v0_name v0_fault v0_faultAt v0_next = some o → G 0 0 H locs (F0 m 8 ls []) := by
    intro  n
    induction n with
    | zero => intro v0_token v0_tokenAt v0_name v0_fault v0_faultAt v0_next H locs ls _ _ _ _ hf; cases hf
    | succ n ih => exact B8  _ ih
  refine (hG _ _ _ _ _).mpr ?_
  obtain ⟨H, hH⟩ : ∃ H, H = s.heap := ⟨_, rfl⟩
  have hS : va_S A s.heap H [] := by rw [hH]; exact hS
  rw [← hH] at hP ⊢
  generalize ([] : List Loc) = locs at hS ⊢
  unfold fX4_advance at hf
  refine lv_aload_n hx hb dX4_advance_0 rfl (lv_at hl 0 rfl) ?_
  refine va_get (D := (dC, dI)) (ci := 4) (v := .int v0_fault) (C := RX4) (T := TX4) (N := 8) hx hb hts inlX4 hown hK hP 0 rfl rfl 3 (by decide) w6_ (fun _ h9 => h9) rfl dX4_advance_1 ?_
  refine lv_if_eq (tgt := 8) hx hb dX4_advance_4 (by decide) (fun cq21 => ?_) (fun cq21 => ?_)
  · replace hf := if_at hf cq21
    exact (hG _ _ _ _ _).mp (L8 FU v0_token v0_tokenAt v0_name v0_fault v0_faultAt v0_next H locs ls (hP.sub [0, 1] rfl) (hD.sub [0, 1] (by decide) rfl) hS (lv_sub hl [0] rfl) hf)
  · replace hf := if_no hf cq21
    have hf1 := Option.some.inj hf
    subst hf1
    have hP9 := hP.sub (ws' := (wX4_advance h0 h1 kc1 v0_token v0_tokenAt v0_name v0_fault v0_faultAt v0_size v0_next c1)) [0, 1] rfl
    have hD9 := hD.sub (ws' := (wX4_advance h0 h1 kc1 v0_token v0_tokenAt v0_name v0_fault v0_faultAt v0_size v0_next c1)) [0, 1] (by decide) rfl
    exact W.vret hx hb hr (fun t ht hW => ⟨⟨(v0_token, v0_tokenAt, v0_name, v0_fault, v0_faultAt, v0_next), rfl, rfl, by rw [ht]; exact hP9, va_K.moved hW.alike hK, hD9⟩, hS.F ht⟩) hS.2.2 dX4_advance_7
abbrev wX4_begin (h0 h1 : Nat) (kc1 : ClassId) (v0_token : Int32) (v0_tokenAt : Int32) (v0_name : Int64) (v0_fault : Int32) (v0_faultAt : Int32) (v0_size : Int32) (v0_next : Int32) (c1 : Nat → Int32) : va_W := [(h0, .inr (4, [.int v0_token, .int v0_tokenAt, .long v0_name, .int v0_fault, .int v0_faultAt, .ref h1, .int v0_size, .int v0_next])), (h1, .inl (kc1, 600, .inl c1))]
set_option maxHeartbeats 4000000 in
set_option maxRecDepth 100000 in
theorem mX4_begin (l : Launch) (dC : Nat → ClassId) (dI : Nat → Nat → Nat) (h0 h1 : Nat) (kc1 : ClassId) (sz : Nat) (base : Nat × Nat × Nat) (v0_token : Int32) (v0_tokenAt : Int32) (v0_name : Int64) (v0_fault : Int32) (v0_faultAt : Int32) (v0_size : Int32) (v0_next : Int32) (c1 : Nat → Int32) (o : Int32 × Int32 × Int64 × Int32 × Int32 × Int32) (hf : fX4_begin v0_token v0_tokenAt v0_name v0_fault v0_faultAt v0_size v0_next c1 = some o) : Met l yX4_begin (.code yX4_begin cX4_begin 1 none :: wsL_law) ({ frames := 5, cells := 0, slots := 0, locals := 112 }) (cPre (dC, dI) vwCl [.ref h0] sz base (wX4_begin h0 h1 kc1 v0_token v0_tokenAt v0_name v0_fault v0_faultAt v0_size v0_next c1) [(kc1, .byte)]) (va_Qv (fun u => u = o) (fun (u : Int32 × Int32 × Int64 × Int32 × Int32 × Int32) t => cPost (dC, dI) vwCl (va_A (wX4_begin h0 h1 kc1 v0_token v0_tokenAt v0_name v0_fault v0_faultAt v0_size v0_next c1) sz) (wX4_begin h0 h1 kc1 u.1 u.2.1 u.2.2.1 u.2.2.2.1 u.2.2.2.2.1 v0_size u.2.2.2.2.2 c1) [(kc1, .byte)] t) (va_A (wX4_begin h0 h1 kc1 v0_token v0_tokenAt v0_name v0_fault v0_faultAt v0_size v0_next c1) sz)) 0 0 (va_A (wX4_begin h0 h1 kc1 v0_token v0_tokenAt v0_name v0_fault v0_faultAt v0_size v0_next c1) sz) := by
  refine Met.ofW (cc := cX4_begin) (maxL := 1) (ret := none) (by decide) rfl ?_
  intro p e s m args below meth c s₁ B hml hv
  obtain ⟨rfl, hsz, hP, hK, hD0, hE⟩ := hv
  have hx := B.exec
  have hb := B.bytes
  have hr := B.returns
  have hts : ∀ w ∈ wsL_law, _ := fun w h => atoms_spec (ws := .code yX4_begin cX4_begin 1 none :: wsL_law) B.pre w (List.mem_cons_of_mem _ h)
  have hown : s.vm.findClass RX4 = some m.cls := findClass_of_methodNamed B.named
  have hlocks := B.notSynchronized
  have w0_ := hts _ q559
  have w1_ := hts _ q560
  subst hsz
  have hD := hD0.self (sz := s.heap.size)
  generalize hAe : va_A (wX4_begin h0 h1 kc1 v0_token v0_tokenAt v0_name v0_fault v0_faultAt v0_size v0_next c1) s.heap.size = A at hD ⊢
  have hA : ∀ q : Nat, s.heap.size ≤ q → A q := fun q h => by rw [← hAe]; exact Or.inr h
  have hAB : ∀ q : Nat, A q → base.1 ≤ q := fun q h => by rw [← hAe] at h; exact h.elim (fun ⟨k, e, hk⟩ => hD0.2 k _ hk) (fun hk => Nat.le_trans hE.1 hk)
  have hS : va_S A s.heap s.heap [] := va_S.rf
  have hl := lv_entry ([.ref h0]) (n := 1) (Nat.le_of_ble_eq_true rfl)
  rw [lg_entry_eq]
  generalize (lg_sl ([.ref h0]) ++ List.replicate (1 - (lg_sl ([.ref h0])).length) Slot.unset).toArray = ls at hl ⊢
  have hl : lv_has ls 1 [(0, .ref h0)] := hl
  have hP : va_P (dC, dI) vwCl (wX4_begin h0 h1 kc1 v0_token v0_tokenAt v0_name v0_fault v0_faultAt v0_size v0_next c1) s.heap := hP
  obtain ⟨H, hH⟩ : ∃ H, H = s.heap := ⟨_, rfl⟩
  have hS : va_S A s.heap H [] := by rw [hH]; exact hS
  rw [← hH] at hP ⊢
  generalize ([] : List Loc) = locs at hS ⊢
  unfold fX4_begin at hf
  refine lv_aload_n hx hb dX4_begin_0 rfl (lv_at hl 0 rfl) ?_
  refine lv_iconst (v := 0) hx hb dX4_begin_1 (by decide +kernel) ?_
  refine va_put (D := (dC, dI)) (ci := 4) (v := .int 0) (ty := .int) (C := RX4) (T := TX4) (N := 8) hx hb hts inlX4 tyX4 tyX4_ok nmX4 hown hK hP hD hS 0 rfl rfl 7 (by decide) w0_ (fun _ h9 => h9) rfl (by decide +kernel) rfl rfl (Nat.le_of_ble_eq_true rfl) dX4_begin_2 (fun H locs hP hD hS => ?_)
  have hP : va_P (dC, dI) vwCl (wX4_begin h0 h1 kc1 v0_token v0_tokenAt v0_name v0_fault v0_faultAt v0_size 0 c1) H := hP
  have hD : va_D A (wX4_begin h0 h1 kc1 v0_token v0_tokenAt v0_name v0_fault v0_faultAt v0_size 0 c1) := hD
  refine lv_aload_n hx hb dX4_begin_5 rfl (lv_at hl 0 rfl) ?_
  refine lv_iconst (v := 0) hx hb dX4_begin_6 (by decide +kernel) ?_
  refine va_put (D := (dC, dI)) (ci := 4) (v := .int 0) (ty := .int) (C := RX4) (T := TX4) (N := 8) hx hb hts inlX4 tyX4 tyX4_ok nmX4 hown hK hP hD hS 0 rfl rfl 3 (by decide) w1_ (fun _ h9 => h9) rfl (by decide +kernel) rfl rfl (Nat.le_of_ble_eq_true rfl) dX4_begin_7 (fun H locs hP hD hS => ?_)
  have hP : va_P (dC, dI) vwCl (wX4_begin h0 h1 kc1 v0_token v0_tokenAt v0_name 0 v0_faultAt v0_size 0 c1) H := hP
  have hD : va_D A (wX4_begin h0 h1 kc1 v0_token v0_tokenAt v0_name 0 v0_faultAt v0_size 0 c1) := hD
  refine lv_aload_n hx hb dX4_begin_10 rfl (lv_at hl 0 rfl) ?_
  obtain ⟨o1, e1, hf⟩ := ob_some hf
  refine kVv (As := []) (rest := []) ⟨hx, hb, hml, hown, hts⟩ (mX4_advance l dC dI h0 h1 kc1 H.size base v0_token v0_tokenAt v0_name 0 v0_faultAt v0_size 0 c1 o1 e1) (cwV 0 hts (gTV q561 q562 q563 q19 q564) rfl rfl rfl (by decide +kernel) ⟨Nat.le_of_ble_eq_true rfl, Nat.le_of_ble_eq_true rfl⟩) hK hP hD hS hA hE hAB [0, 1] [] [0] (wr := []) rfl rfl (by decide) (by decide) (by decide) rfl (ci := 4) (q0 := 0) rfl rfl rfl rfl hl.1 rfl (Nat.le_of_ble_eq_true rfl) dX4_begin_11 ⟨Nat.zero_le _, Nat.zero_le _⟩ (fun u1 H locs hw1 hP hD hS => ?_)
  have hw11 : o1 = u1 := Eq.symm hw1
  subst hw11
  have hP : va_P (dC, dI) vwCl (wX4_begin h0 h1 kc1 o1.1 o1.2.1 o1.2.2.1 o1.2.2.2.1 o1.2.2.2.2.1 v0_size o1.2.2.2.2.2 c1) H := hP.sub [0, 1] rfl
  have hD : va_D A (wX4_begin h0 h1 kc1 o1.1 o1.2.1 o1.2.2.1 o1.2.2.2.1 o1.2.2.2.2.1 v0_size o1.2.2.2.2.2 c1) := hD.sub [0, 1] (by decide) rfl
  have hf1 := Option.some.inj hf
  subst hf1
  have hP9 := hP.sub (ws' := (wX4_begin h0 h1 kc1 o1.1 o1.2.1 o1.2.2.1 o1.2.2.2.1 o1.2.2.2.2.1 v0_size o1.2.2.2.2.2 c1)) [0, 1] rfl
  have hD9 := hD.sub (ws' := (wX4_begin h0 h1 kc1 o1.1 o1.2.1 o1.2.2.1 o1.2.2.2.1 o1.2.2.2.2.1 v0_size o1.2.2.2.2.2 c1)) [0, 1] (by decide) rfl
  exact W.vret hx hb hr (fun t ht hW => ⟨⟨(o1.1, o1.2.1, o1.2.2.1, o1.2.2.2.1, o1.2.2.2.2.1, o1.2.2.2.2.2), rfl, rfl, by rw [ht]; exact hP9, va_K.moved hW.alike hK, hD9⟩, hS.F ht⟩) hS.2.2 dX4_begin_14
set_option maxHeartbeats 4000000 in
set_option maxRecDepth 100000 in
theorem mX4_emptyText (l : Launch) (dC : Nat → ClassId) (dI : Nat → Nat → Nat) (h0 : Nat) (sz : Nat) (base : Nat × Nat × Nat) (v0_size : Int32) (V0 : Nat → Value) (o : Int32) (hf : fX4_emptyText v0_size = some o) : Met l yX4_emptyText (.code yX4_emptyText cX4_emptyText 1 none :: wsL_law) ({ frames := 0, cells := 0, slots := 0, locals := 0 }) (cPre (dC, dI) vwCl [.ref h0] sz base [(h0, .inr (4, [V0 0, V0 1, V0 2, V0 3, V0 4, V0 5, .int v0_size, V0 7]))] []) (va_Qv (fun u => u = o) (fun (u : Int32) t => cPost (dC, dI) vwCl (va_A [(h0, .inr (4, [V0 0, V0 1, V0 2, V0 3, V0 4, V0 5, .int v0_size, V0 7]))] sz) [(h0, .inr (4, [V0 0, V0 1, V0 2, V0 3, V0 4, V0 5, .int u, V0 7]))] [] t) (va_A [(h0, .inr (4, [V0 0, V0 1, V0 2, V0 3, V0 4, V0 5, .int v0_size, V0 7]))] sz)) 0 0 (va_A [(h0, .inr (4, [V0 0, V0 1, V0 2, V0 3, V0 4, V0 5, .int v0_size, V0 7]))] sz) := by
  refine Met.ofW (cc := cX4_emptyText) (maxL := 1) (ret := none) (by decide) rfl ?_
  intro p e s m args below meth c s₁ B hml hv
  obtain ⟨rfl, hsz, hP, hK, hD0, hE⟩ := hv
  have hx := B.exec
  have hb := B.bytes
  have hr := B.returns
  have hts : ∀ w ∈ wsL_law, _ := fun w h => atoms_spec (ws := .code yX4_emptyText cX4_emptyText 1 none :: wsL_law) B.pre w (List.mem_cons_of_mem _ h)
  have hown : s.vm.findClass RX4 = some m.cls := findClass_of_methodNamed B.named
  have hlocks := B.notSynchronized
  have w0_ := hts _ q525
  subst hsz
  have hD := hD0.self (sz := s.heap.size)
  generalize hAe : va_A [(h0, .inr (4, [V0 0, V0 1, V0 2, V0 3, V0 4, V0 5, .int v0_size, V0 7]))] s.heap.size = A at hD ⊢
  have hA : ∀ q : Nat, s.heap.size ≤ q → A q := fun q h => by rw [← hAe]; exact Or.inr h
  have hAB : ∀ q : Nat, A q → base.1 ≤ q := fun q h => by rw [← hAe] at h; exact h.elim (fun ⟨k, e, hk⟩ => hD0.2 k _ hk) (fun hk => Nat.le_trans hE.1 hk)
  have hS : va_S A s.heap s.heap [] := va_S.rf
  have hl := lv_entry ([.ref h0]) (n := 1) (Nat.le_of_ble_eq_true rfl)
  rw [lg_entry_eq]
  generalize (lg_sl ([.ref h0]) ++ List.replicate (1 - (lg_sl ([.ref h0])).length) Slot.unset).toArray = ls at hl ⊢
  have hl : lv_has ls 1 [(0, .ref h0)] := hl
  have hP : va_P (dC, dI) vwCl [(h0, .inr (4, [V0 0, V0 1, V0 2, V0 3, V0 4, V0 5, .int v0_size, V0 7]))] s.heap := hP
  obtain ⟨H, hH⟩ : ∃ H, H = s.heap := ⟨_, rfl⟩
  have hS : va_S A s.heap H [] := by rw [hH]; exact hS
  rw [← hH] at hP ⊢
  generalize ([] : List Loc) = locs at hS ⊢
  unfold fX4_emptyText at hf
  refine lv_aload_n hx hb dX4_emptyText_0 rfl (lv_at hl 0 rfl) ?_
  refine lv_iconst (v := 0) hx hb dX4_emptyText_1 (by decide +kernel) ?_
  refine va_put (D := (dC, dI)) (ci := 4) (v := .int 0) (ty := .int) (C := RX4) (T := TX4) (N := 8) hx hb hts inlX4 tyX4 tyX4_ok nmX4 hown hK hP hD hS 0 rfl rfl 6 (by decide) w0_ (fun _ h9 => h9) rfl (by decide +kernel) rfl rfl (Nat.le_of_ble_eq_true rfl) dX4_emptyText_2 (fun H locs hP hD hS => ?_)
  have hP : va_P (dC, dI) vwCl [(h0, .inr (4, [V0 0, V0 1, V0 2, V0 3, V0 4, V0 5, .int 0, V0 7]))] H := hP
  have hD : va_D A [(h0, .inr (4, [V0 0, V0 1, V0 2, V0 3, V0 4, V0 5, .int 0, V0 7]))] := hD
  have hf1 := Option.some.inj hf
  subst hf1
  have hP9 := hP.sub (ws' := [(h0, .inr (4, [V0 0, V0 1, V0 2, V0 3, V0 4, V0 5, .int 0, V0 7]))]) [0] rfl
  have hD9 := hD.sub (ws' := [(h0, .inr (4, [V0 0, V0 1, V0 2, V0 3, V0 4, V0 5, .int 0, V0 7]))]) [0] (by decide) rfl
  exact W.vret hx hb hr (fun t ht hW => ⟨⟨0, rfl, rfl, by rw [ht]; exact hP9, va_K.moved hW.alike hK, hD9⟩, hS.F ht⟩) hS.2.2 dX4_emptyText_5
set_option maxHeartbeats 4000000 in
set_option maxRecDepth 100000 in
theorem mX4_failHere (l : Launch) (dC : Nat → ClassId) (dI : Nat → Nat → Nat) (h0 : Nat) (sz : Nat) (base : Nat × Nat × Nat) (a0 : Int32) (v0_token : Int32) (v0_tokenAt : Int32) (v0_fault : Int32) (v0_faultAt : Int32) (V0 : Nat → Value) (o : Int32 × Int32 × Int32) (hf : fX4_failHere a0 v0_token v0_tokenAt v0_fault v0_faultAt = some o) : Met l yX4_failHere (.code yX4_failHere cX4_failHere 2 none :: wsL_law) ({ frames := 1, cells := 0, slots := 0, locals := 22 }) (cPre (dC, dI) vwCl [.ref h0, .int a0] sz base [(h0, .inr (4, [.int v0_token, .int v0_tokenAt, V0 2, .int v0_fault, .int v0_faultAt, V0 5, V0 6, V0 7]))] []) (va_Qv (fun u => u = o) (fun (u : Int32 × Int32 × Int32) t => cPost (dC, dI) vwCl (va_A [(h0, .inr (4, [.int v0_token, .int v0_tokenAt, V0 2, .int v0_fault, .int v0_faultAt, V0 5, V0 6, V0 7]))] sz) [(h0, .inr (4, [.int u.1, .int v0_tokenAt, V0 2, .int u.2.1, .int u.2.2, V0 5, V0 6, V0 7]))] [] t) (va_A [(h0, .inr (4, [.int v0_token, .int v0_tokenAt, V0 2, .int v0_fault, .int v0_faultAt, V0 5, V0 6, V0 7]))] sz)) 0 0 (va_A [(h0, .inr (4, [.int v0_token, .int v0_tokenAt, V0 2, .int v0_fault, .int v0_faultAt, V0 5, V0 6, V0 7]))] sz) := by
  refine Met.ofW (cc := cX4_failHere) (maxL := 2) (ret := none) (by decide) rfl ?_
  intro p e s m args below meth c s₁ B hml hv
  obtain ⟨rfl, hsz, hP, hK, hD0, hE⟩ := hv
  have hx := B.exec
  have hb := B.bytes
  have hr := B.returns
  have hts : ∀ w ∈ wsL_law, _ := fun w h => atoms_spec (ws := .code yX4_failHere cX4_failHere 2 none :: wsL_law) B.pre w (List.mem_cons_of_mem _ h)
  have hown : s.vm.findClass RX4 = some m.cls := findClass_of_methodNamed B.named
  have hlocks := B.notSynchronized
  have w0_ := hts _ q565
  subst hsz
  have hD := hD0.self (sz := s.heap.size)
  generalize hAe : va_A [(h0, .inr (4, [.int v0_token, .int v0_tokenAt, V0 2, .int v0_fault, .int v0_faultAt, V0 5, V0 6, V0 7]))] s.heap.size = A at hD ⊢
  have hA : ∀ q : Nat, s.heap.size ≤ q → A q := fun q h => by rw [← hAe]; exact Or.inr h
  have hAB : ∀ q : Nat, A q → base.1 ≤ q := fun q h => by rw [← hAe] at h; exact h.elim (fun ⟨k, e, hk⟩ => hD0.2 k _ hk) (fun hk => Nat.le_trans hE.1 hk)
  have hS : va_S A s.heap s.heap [] := va_S.rf
  have hl := lv_entry ([.ref h0, .int a0]) (n := 2) (Nat.le_of_ble_eq_true rfl)
  rw [lg_entry_eq]
  generalize (lg_sl ([.ref h0, .int a0]) ++ List.replicate (2 - (lg_sl ([.ref h0, .int a0])).length) Slot.unset).toArray = ls at hl ⊢
  have hl : lv_has ls 2 [(0, .ref h0), (1, .int a0)] := hl
  have hP : va_P (dC, dI) vwCl [(h0, .inr (4, [.int v0_token, .int v0_tokenAt, V0 2, .int v0_fault, .int v0_faultAt, V0 5, V0 6, V0 7]))] s.heap := hP
  obtain ⟨H, hH⟩ : ∃ H, H = s.heap := ⟨_, rfl⟩
  have hS : va_S A s.heap H [] := by rw [hH]; exact hS
  rw [← hH] at hP ⊢
  generalize ([] : List Loc) = locs at hS ⊢
  unfold fX4_failHere at hf
  refine lv_aload_n hx hb dX4_failHere_0 rfl (lv_at hl 0 rfl) ?_
  refine lv_iload_n hx hb dX4_failHere_1 rfl (lv_at hl 1 rfl) ?_
  refine lv_aload_n hx hb dX4_failHere_2 rfl (lv_at hl 0 rfl) ?_
  refine va_get (D := (dC, dI)) (ci := 4) (v := .int v0_tokenAt) (C := RX4) (T := TX4) (N := 8) hx hb hts inlX4 hown hK hP 0 rfl rfl 1 (by decide) w0_ (fun _ h9 => h9) rfl dX4_failHere_3 ?_
  obtain ⟨o1, e1, hf⟩ := ob_some hf
  refine kVv (As := [.int a0, .int v0_tokenAt]) (rest := []) ⟨hx, hb, hml, hown, hts⟩ (mX4_fail l dC dI h0 H.size base a0 v0_tokenAt v0_token v0_fault v0_faultAt (fun k => match k with | 1 => .int v0_tokenAt | k => V0 k) o1 e1) (cwV 2 hts (gTV q579 q580 q581 q19 q582) rfl rfl rfl (by decide +kernel) ⟨Nat.le_of_ble_eq_true rfl, Nat.le_of_ble_eq_true rfl⟩) hK hP hD hS hA hE hAB [0] [] [] (wr := []) rfl rfl (by decide) (by decide) (by decide) rfl (ci := 4) (q0 := 0) rfl rfl rfl rfl hl.1 rfl (Nat.le_of_ble_eq_true rfl) dX4_failHere_6 ⟨Nat.zero_le _, Nat.zero_le _⟩ (fun u1 H locs hw1 hP hD hS => ?_)
  have hw11 : o1 = u1 := Eq.symm hw1
  subst hw11
  have hP : va_P (dC, dI) vwCl [(h0, .inr (4, [.int o1.1, .int v0_tokenAt, V0 2, .int o1.2.1, .int o1.2.2, V0 5, V0 6, V0 7]))] H := hP.sub [0] rfl
  have hD : va_D A [(h0, .inr (4, [.int o1.1, .int v0_tokenAt, V0 2, .int o1.2.1, .int o1.2.2, V0 5, V0 6, V0 7]))] := hD.sub [0] (by decide) rfl
  have hf1 := Option.some.inj hf
  subst hf1
  have hP9 := hP.sub (ws' := [(h0, .inr (4, [.int o1.1, .int v0_tokenAt, V0 2, .int o1.2.1, .int o1.2.2, V0 5, V0 6, V0 7]))]) [0] rfl
  have hD9 := hD.sub (ws' := [(h0, .inr (4, [.int o1.1, .int v0_tokenAt, V0 2, .int o1.2.1, .int o1.2.2, V0 5, V0 6, V0 7]))]) [0] (by decide) rfl
  exact W.vret hx hb hr (fun t ht hW => ⟨⟨(o1.1, o1.2.1, o1.2.2), rfl, rfl, by rw [ht]; exact hP9, va_K.moved hW.alike hK, hD9⟩, hS.F ht⟩) hS.2.2 dX4_failHere_9
abbrev wX4_skipToken (h0 h1 : Nat) (kc1 : ClassId) (v0_token : Int32) (v0_tokenAt : Int32) (v0_name : Int64) (v0_fault : Int32) (v0_faultAt : Int32) (v0_size : Int32) (v0_next : Int32) (c1 : Nat → Int32) : va_W := [(h0, .inr (4, [.int v0_token, .int v0_tokenAt, .long v0_name, .int v0_fault, .int v0_faultAt, .ref h1, .int v0_size, .int v0_next])), (h1, .inl (kc1, 600, .inl c1))]
set_option maxHeartbeats 4000000 in
set_option maxRecDepth 100000 in
theorem mX4_skipToken (l : Launch) (dC : Nat → ClassId) (dI : Nat → Nat → Nat) (h0 h1 : Nat) (kc1 : ClassId) (sz : Nat) (base : Nat × Nat × Nat) (a0 : Int32) (v0_token : Int32) (v0_tokenAt : Int32) (v0_name : Int64) (v0_fault : Int32) (v0_faultAt : Int32) (v0_size : Int32) (v0_next : Int32) (c1 : Nat → Int32) (o : Int32 × Int32 × Int32 × Int64 × Int32 × Int32 × Int32) (hf : fX4_skipToken a0 v0_token v0_tokenAt v0_name v0_fault v0_faultAt v0_size v0_next c1 = some o) : Met l yX4_skipToken (.code yX4_skipToken cX4_skipToken 2 (some .boolean) :: wsL_law) ({ frames := 5, cells := 0, slots := 0, locals := 112 }) (cPre (dC, dI) vwCl [.ref h0, .int a0] sz base (wX4_skipToken h0 h1 kc1 v0_token v0_tokenAt v0_name v0_fault v0_faultAt v0_size v0_next c1) [(kc1, .byte)]) (va_Qi (fun r u => r = o.1 ∧ u = o.2) (fun (u : Int32 × Int32 × Int64 × Int32 × Int32 × Int32) t => cPost (dC, dI) vwCl (va_A (wX4_skipToken h0 h1 kc1 v0_token v0_tokenAt v0_name v0_fault v0_faultAt v0_size v0_next c1) sz) (wX4_skipToken h0 h1 kc1 u.1 u.2.1 u.2.2.1 u.2.2.2.1 u.2.2.2.2.1 v0_size u.2.2.2.2.2 c1) [(kc1, .byte)] t) (va_A (wX4_skipToken h0 h1 kc1 v0_token v0_tokenAt v0_name v0_fault v0_faultAt v0_size v0_next c1) sz)) 0 0 (va_A (wX4_skipToken h0 h1 kc1 v0_token v0_tokenAt v0_name v0_fault v0_faultAt v0_size v0_next c1) sz) := by
  refine Met.ofW (cc := cX4_skipToken) (maxL := 2) (ret := (some .boolean)) (by decide) rfl ?_
  intro p e s m args below meth c s₁ B hml hv
  obtain ⟨rfl, hsz, hP, hK, hD0, hE⟩ := hv
  have hx := B.exec
  have hb := B.bytes
  have hr := B.returns
  have hts : ∀ w ∈ wsL_law, _ := fun w h => atoms_spec (ws := .code yX4_skipToken cX4_skipToken 2 (some .boolean) :: wsL_law) B.pre w (List.mem_cons_of_mem _ h)
  have hown : s.vm.findClass RX4 = some m.cls := findClass_of_methodNamed B.named
  have hlocks := B.notSynchronized
  have w0_ := hts _ q566
  subst hsz
  have hD := hD0.self (sz := s.heap.size)
  generalize hAe : va_A (wX4_skipToken h0 h1 kc1 v0_token v0_tokenAt v0_name v0_fault v0_faultAt v0_size v0_next c1) s.heap.size = A at hD ⊢
  have hA : ∀ q : Nat, s.heap.size ≤ q → A q := fun q h => by rw [← hAe]; exact Or.inr h
  have hAB : ∀ q : Nat, A q → base.1 ≤ q := fun q h => by rw [← hAe] at h; exact h.elim (fun ⟨k, e, hk⟩ => hD0.2 k _ hk) (fun hk => Nat.le_trans hE.1 hk)
  have hS : va_S A s.heap s.heap [] := va_S.rf
  have hl := lv_entry ([.ref h0, .int a0]) (n := 2) (Nat.le_of_ble_eq_true rfl)
  rw [lg_entry_eq]
  generalize (lg_sl ([.ref h0, .int a0]) ++ List.replicate (2 - (lg_sl ([.ref h0, .int a0])).length) Slot.unset).toArray = ls at hl ⊢
  have hl : lv_has ls 2 [(0, .ref h0), (1, .int a0)] := hl
  have hP : va_P (dC, dI) vwCl (wX4_skipToken h0 h1 kc1 v0_token v0_tokenAt v0_name v0_fault v0_faultAt v0_size v0_next c1) s.heap := hP
  obtain ⟨H, hH⟩ : ∃ H, H = s.heap := ⟨_, rfl⟩
  have hS : va_S A s.heap H [] := by rw [hH]; exact hS
  rw [← hH] at hP ⊢
  generalize ([] : List Loc) = locs at hS ⊢
  unfold fX4_skipToken at hf
  refine lv_aload_n hx hb dX4_skipToken_0 rfl (lv_at hl 0 rfl) ?_
  refine va_get (D := (dC, dI)) (ci := 4) (v := .int v0_token) (C := RX4) (T := TX4) (N := 8) hx hb hts inlX4 hown hK hP 0 rfl rfl 0 (by decide) w0_ (fun _ h9 => h9) rfl dX4_skipToken_1 ?_
  refine lv_iload_n hx hb dX4_skipToken_4 rfl (lv_at hl 1 rfl) ?_
  refine lv_icmp_eq (tgt := 15) hx hb dX4_skipToken_5 (by decide) (fun cq1 => ?_) (fun cq1 => ?_)
  · replace hf := if_at hf cq1
    refine lv_aload_n hx hb dX4_skipToken_15 rfl (lv_at hl 0 rfl) ?_
    obtain ⟨o2, e2, hf⟩ := ob_some hf
    refine kVv (As := []) (rest := []) ⟨hx, hb, hml, hown, hts⟩ (mX4_advance l dC dI h0 h1 kc1 H.size base v0_token v0_tokenAt v0_name v0_fault v0_faultAt v0_size v0_next c1 o2 e2) (cwV 0 hts (gTV q561 q562 q563 q19 q564) rfl rfl rfl (by decide +kernel) ⟨Nat.le_of_ble_eq_true rfl, Nat.le_of_ble_eq_true rfl⟩) hK hP hD hS hA hE hAB [0, 1] [] [0] (wr := []) rfl rfl (by decide) (by decide) (by decide) rfl (ci := 4) (q0 := 0) rfl rfl rfl rfl hl.1 rfl (Nat.le_of_ble_eq_true rfl) dX4_skipToken_16 ⟨Nat.zero_le _, Nat.zero_le _⟩ (fun u2 H locs hw2 hP hD hS => ?_)
    have hw21 : o2 = u2 := Eq.symm hw2
    subst hw21
    have hP : va_P (dC, dI) vwCl (wX4_skipToken h0 h1 kc1 o2.1 o2.2.1 o2.2.2.1 o2.2.2.2.1 o2.2.2.2.2.1 v0_size o2.2.2.2.2.2 c1) H := hP.sub [0, 1] rfl
    have hD : va_D A (wX4_skipToken h0 h1 kc1 o2.1 o2.2.1 o2.2.2.1 o2.2.2.2.1 o2.2.2.2.2.1 v0_size o2.2.2.2.2.2 c1) := hD.sub [0, 1] (by decide) rfl
    refine lv_iconst (v := 1) hx hb dX4_skipToken_19 (by decide +kernel) ?_
    have hf1 := Option.some.inj hf
    subst hf1
    have hP9 := hP.sub (ws' := (wX4_skipToken h0 h1 kc1 o2.1 o2.2.1 o2.2.2.1 o2.2.2.2.1 o2.2.2.2.2.1 v0_size o2.2.2.2.2.2 c1)) [0, 1] rfl
    have hD9 := hD.sub (ws' := (wX4_skipToken h0 h1 kc1 o2.1 o2.2.1 o2.2.2.1 o2.2.2.2.1 o2.2.2.2.2.1 v0_size o2.2.2.2.2.2 c1)) [0, 1] (by decide) rfl
    exact W.zret (v := 1) (ty := .boolean) hx hb hr rfl (fun t ht hW => ⟨⟨1, (o2.1, o2.2.1, o2.2.2.1, o2.2.2.2.1, o2.2.2.2.2.1, o2.2.2.2.2.2), rfl, ⟨rfl, rfl⟩, by rw [ht]; exact hP9, va_K.moved hW.alike hK, hD9⟩, hS.F ht⟩) hS.2.2 dX4_skipToken_20
  · replace hf := if_no hf cq1
    refine lv_aload_n hx hb dX4_skipToken_8 rfl (lv_at hl 0 rfl) ?_
    refine lv_iconst (v := 2) hx hb dX4_skipToken_9 (by decide +kernel) ?_
    obtain ⟨o3, e3, hf⟩ := ob_some hf
    refine kVv (As := [.int 2]) (rest := []) ⟨hx, hb, hml, hown, hts⟩ (mX4_failHere l dC dI h0 H.size base 2 v0_token v0_tokenAt v0_fault v0_faultAt (fun k => match k with | 2 => .long v0_name | 5 => .ref h1 | 6 => .int v0_size | 7 => .int v0_next | _ => .null) o3 e3) (cwV 1 hts (gTV q691 q680 q681 q19 q682) rfl rfl rfl (by decide +kernel) ⟨Nat.le_of_ble_eq_true rfl, Nat.le_of_ble_eq_true rfl⟩) hK hP hD hS hA hE hAB [0] [1] [] (wr := [(h1, .inl (kc1, 600, .inl c1))]) rfl rfl (by decide) (by decide) (by decide) rfl (ci := 4) (q0 := 0) rfl rfl rfl rfl hl.1 rfl (Nat.le_of_ble_eq_true rfl) dX4_skipToken_10 ⟨Nat.zero_le _, Nat.zero_le _⟩ (fun u3 H locs hw3 hP hD hS => ?_)
    have hw31 : o3 = u3 := Eq.symm hw3
    subst hw31
    have hP : va_P (dC, dI) vwCl (wX4_skipToken h0 h1 kc1 o3.1 v0_tokenAt v0_name o3.2.1 o3.2.2 v0_size v0_next c1) H := hP.sub [1, 0] rfl
    have hD : va_D A (wX4_skipToken h0 h1 kc1 o3.1 v0_tokenAt v0_name o3.2.1 o3.2.2 v0_size v0_next c1) := hD.sub [1, 0] (by decide) rfl
    refine lv_iconst (v := 0) hx hb dX4_skipToken_13 (by decide +kernel) ?_
    have hf1 := Option.some.inj hf
    subst hf1
    have hP9 := hP.sub (ws' := (wX4_skipToken h0 h1 kc1 o3.1 v0_tokenAt v0_name o3.2.1 o3.2.2 v0_size v0_next c1)) [0, 1] rfl
    have hD9 := hD.sub (ws' := (wX4_skipToken h0 h1 kc1 o3.1 v0_tokenAt v0_name o3.2.1 o3.2.2 v0_size v0_next c1)) [0, 1] (by decide) rfl
    exact W.zret (v := 0) (ty := .boolean) hx hb hr rfl (fun t ht hW => ⟨⟨0, (o3.1, v0_tokenAt, v0_name, o3.2.1, o3.2.2, v0_next), rfl, ⟨rfl, rfl⟩, by rw [ht]; exact hP9, va_K.moved hW.alike hK, hD9⟩, hS.F ht⟩) hS.2.2 dX4_skipToken_14
