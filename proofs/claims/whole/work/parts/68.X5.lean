abbrev wX5_addArcs (h0 h1 : Nat) (kc1 : ClassId) (V0 : Nat → Value) (c1 : Nat → Int64) : va_W := [(h0, .inr (5, [V0 0, .ref h1, V0 2, V0 3])), (h1, .inl (kc1, 768, .inr (.inl c1)))]
set_option maxHeartbeats 4000000 in
set_option maxRecDepth 100000 in
theorem mX5_addArcs (l : Launch) (dC : Nat → ClassId) (dI : Nat → Nat → Nat) (h0 h1 : Nat) (kc1 : ClassId) (sz : Nat) (base : Nat × Nat × Nat) (a0 : Int32) (a1 : Int64) (c1 : Nat → Int64) (V0 : Nat → Value) (o : Int32 × (Nat → Int64)) (hf : fX5_addArcs a0 a1 c1 = some o) : Met l yX5_addArcs (.code yX5_addArcs cX5_addArcs 6 (some .boolean) :: wsL_law) ({ frames := 0, cells := 0, slots := 0, locals := 0 }) (cPre (dC, dI) vwCl [.ref h0, .int a0, .long a1] sz base (wX5_addArcs h0 h1 kc1 V0 c1) [(kc1, .long)]) (va_Qi (fun r u => r = o.1 ∧ u = o.2) (fun (u : (Nat → Int64)) t => cPost (dC, dI) vwCl (va_A (wX5_addArcs h0 h1 kc1 V0 c1) sz) (wX5_addArcs h0 h1 kc1 V0 u) [(kc1, .long)] t) (va_A (wX5_addArcs h0 h1 kc1 V0 c1) sz)) 0 0 (va_A (wX5_addArcs h0 h1 kc1 V0 c1) sz) := by
  refine Met.ofW (cc := cX5_addArcs) (maxL := 6) (ret := (some .boolean)) (by decide) rfl ?_
  intro p e s m args below meth c s₁ B hml hv
  obtain ⟨rfl, hsz, hP, hK, hD0, hE⟩ := hv
  have hx := B.exec
  have hb := B.bytes
  have hr := B.returns
  have hts : ∀ w ∈ wsL_law, _ := fun w h => atoms_spec (ws := .code yX5_addArcs cX5_addArcs 6 (some .boolean) :: wsL_law) B.pre w (List.mem_cons_of_mem _ h)
  have hown : s.vm.findClass RX5 = some m.cls := findClass_of_methodNamed B.named
  have hlocks := B.notSynchronized
  have w0_ := hts _ q465
  subst hsz
  have hD := hD0.self (sz := s.heap.size)
  generalize hAe : va_A (wX5_addArcs h0 h1 kc1 V0 c1) s.heap.size = A at hD ⊢
  have hA : ∀ q : Nat, s.heap.size ≤ q → A q := fun q h => by rw [← hAe]; exact Or.inr h
  have hAB : ∀ q : Nat, A q → base.1 ≤ q := fun q h => by rw [← hAe] at h; exact h.elim (fun ⟨k, e, hk⟩ => hD0.2 k _ hk) (fun hk => Nat.le_trans hE.1 hk)
  have hS : va_S A s.heap s.heap [] := va_S.rf
  have hl := lv_entry ([.ref h0, .int a0, .long a1]) (n := 6) (Nat.le_of_ble_eq_true rfl)
  rw [lg_entry_eq]
  generalize (lg_sl ([.ref h0, .int a0, .long a1]) ++ List.replicate (6 - (lg_sl ([.ref h0, .int a0, .long a1])).length) Slot.unset).toArray = ls at hl ⊢
  have hl : lv_has ls 6 [(0, .ref h0), (1, .int a0), (2, .long a1)] := hl
  have hP : va_P (dC, dI) vwCl (wX5_addArcs h0 h1 kc1 V0 c1) s.heap := hP
  refine gl_intro (fun G hG => ?_)
  have J35 : ∀ (z0 : Int32) (c1 : (Nat → Int64)) (H : Heap) (locs : List Loc) (ls : Array Slot), va_P (dC, dI) vwCl (wX5_addArcs h0 h1 kc1 V0 c1) H → va_D A (wX5_addArcs h0 h1 kc1 V0 c1) → va_S A s.heap H locs → lv_has ls 6 [(0, .ref h0)] → fX5_addArcs_p35   z0 c1 = some o → G 0 0 H locs (F0 m 35 ls [.int z0]) := by
    intro  z0 c1 H locs ls hP hD hS hl hf
    refine (hG _ _ _ _ _).mpr ?_
    unfold fX5_addArcs_p35 at hf
    have b1 := bd_b hf
    replace hf := bd_k hf
    have hf1 := Option.some.inj hf
    subst hf1
    have hP9 := hP.sub (ws' := (wX5_addArcs h0 h1 kc1 V0 c1)) [0, 1] rfl
    have hD9 := hD.sub (ws' := (wX5_addArcs h0 h1 kc1 V0 c1)) [0, 1] (by decide) rfl
    exact W.zret (v := z0) (ty := .boolean) hx hb hr (bz_nar b1) (fun t ht hW => ⟨⟨z0, c1, rfl, ⟨rfl, rfl⟩, by rw [ht]; exact hP9, va_K.moved hW.alike hK, hD9⟩, hS.F ht⟩) hS.2.2 dX5_addArcs_35
  refine (hG _ _ _ _ _).mpr ?_
  obtain ⟨H, hH⟩ : ∃ H, H = s.heap := ⟨_, rfl⟩
  have hS : va_S A s.heap H [] := by rw [hH]; exact hS
  rw [← hH] at hP ⊢
  generalize ([] : List Loc) = locs at hS ⊢
  unfold fX5_addArcs at hf
  refine lv_aload_n hx hb dX5_addArcs_0 rfl (lv_at hl 0 rfl) ?_
  refine va_get (D := (dC, dI)) (ci := 5) (v := .ref h1) (C := RX5) (T := TX5) (N := 4) hx hb hts inlX5 hown hK hP 0 rfl rfl 1 (by decide) w0_ (fun _ h9 => h9) rfl dX5_addArcs_1 ?_
  refine lv_iload_n hx hb dX5_addArcs_4 rfl (lv_at hl 1 rfl) ?_
  have b2 := bd_in hf
  replace hf := bd_k hf
  refine va_lald hx hb hK hP 1 0 rfl rfl b2 dX5_addArcs_5 ?_
  refine lv_topl (fun x3 e3 => ?_)
  replace hf := nm_at hf e3
  refine lv_lstore (lv' := [(4, .long x3), (0, .ref h0), (1, .int a0), (2, .long a1)]) hx hb dX5_addArcs_6 hl (by decide) rfl (fun ls hl => ?_)
  refine lv_aload_n hx hb dX5_addArcs_8 rfl (lv_at hl 1 rfl) ?_
  refine va_get (D := (dC, dI)) (ci := 5) (v := .ref h1) (C := RX5) (T := TX5) (N := 4) hx hb hts inlX5 hown hK hP 0 rfl rfl 1 (by decide) w0_ (fun _ h9 => h9) rfl dX5_addArcs_9 ?_
  refine lv_iload_n hx hb dX5_addArcs_12 rfl (lv_at hl 2 rfl) ?_
  refine lv_dup2_11 hx hb dX5_addArcs_13 rfl rfl ?_
  have b4 := bd_in hf
  replace hf := bd_k hf
  refine va_lald hx hb hK hP 1 0 rfl rfl b4 dX5_addArcs_14 ?_
  refine lv_topl (fun x5 e5 => ?_)
  replace hf := nm_at hf e5
  refine lv_lload_n hx hb dX5_addArcs_15 rfl (lv_at hl 3 rfl) ?_
  refine lv_lor hx hb dX5_addArcs_16 ?_
  refine lv_topl (fun x6 e6 => ?_)
  replace hf := nm_at hf e6
  have b7 := bd_in hf
  replace hf := bd_k hf
  obtain ⟨c7x, e7⟩ : ∃ y, y = vp_updL c1 a0.toNatClampNeg x6 := ⟨_, rfl⟩
  replace hf := nm_at hf e7
  refine va_last hx hb hK hP hD hS 1 0 rfl rfl b7 dX5_addArcs_17 (fun H locs hP hD hS => ?_)
  have hP : va_P (dC, dI) vwCl (wX5_addArcs h0 h1 kc1 V0 c7x) H := by rw [e7]; exact hP
  have hD : va_D A (wX5_addArcs h0 h1 kc1 V0 c7x) := by rw [e7]; exact hD
  refine lv_aload_n hx hb dX5_addArcs_18 rfl (lv_at hl 1 rfl) ?_
  refine va_get (D := (dC, dI)) (ci := 5) (v := .ref h1) (C := RX5) (T := TX5) (N := 4) hx hb hts inlX5 hown hK hP 0 rfl rfl 1 (by decide) w0_ (fun _ h9 => h9) rfl dX5_addArcs_19 ?_
  refine lv_iload_n hx hb dX5_addArcs_22 rfl (lv_at hl 2 rfl) ?_
  have b8 := bd_in hf
  replace hf := bd_k hf
  refine va_lald hx hb hK hP 1 0 rfl rfl b8 dX5_addArcs_23 ?_
  refine lv_topl (fun x9 e9 => ?_)
  replace hf := nm_at hf e9
  refine lv_lload hx hb dX5_addArcs_24 (lv_at hl 0 rfl) ?_
  refine W.lcmp hx hb dX5_addArcs_26 ?_
  refine lv_topi (fun x10 e10 => ?_)
  replace hf := nm_at hf e10
  refine lv_if_eq (tgt := 34) hx hb dX5_addArcs_27 (by decide) (fun cq11 => ?_) (fun cq11 => ?_)
  · replace hf := if_at hf cq11
    refine lv_iconst (v := 0) hx hb dX5_addArcs_34 (by decide +kernel) ?_
    exact (hG _ _ _ _ _).mp (J35 0 c7x H locs ls (hP.sub [0, 1] rfl) (hD.sub [0, 1] (by decide) rfl) hS (lv_sub hl [1] rfl) hf)
  · replace hf := if_no hf cq11
    refine lv_iconst (v := 1) hx hb dX5_addArcs_30 (by decide +kernel) ?_
    refine lv_goto (tgt := 35) hx hb dX5_addArcs_31 (by decide) ?_
    exact (hG _ _ _ _ _).mp (J35 1 c7x H locs ls (hP.sub [0, 1] rfl) (hD.sub [0, 1] (by decide) rfl) hS (lv_sub hl [1] rfl) hf)
abbrev wX5_nodesBehind (h0 h1 : Nat) (kc1 : ClassId) (V0 : Nat → Value) (c1 : Nat → Int64) : va_W := [(h0, .inr (5, [V0 0, .ref h1, V0 2, V0 3])), (h1, .inl (kc1, 768, .inr (.inl c1)))]
set_option maxHeartbeats 4000000 in
set_option maxRecDepth 100000 in
theorem mX5_nodesBehind (l : Launch) (dC : Nat → ClassId) (dI : Nat → Nat → Nat) (h0 h1 : Nat) (kc1 : ClassId) (sz : Nat) (base : Nat × Nat × Nat) (a0 : Int64) (a1 : Int32) (c1 : Nat → Int64) (V0 : Nat → Value) (o : Int64 × Unit) (hf : fX5_nodesBehind a0 a1 c1 = some o) : Met l yX5_nodesBehind (.code yX5_nodesBehind cX5_nodesBehind 7 (some .long) :: wsL_law) ({ frames := 0, cells := 0, slots := 0, locals := 0 }) (cPre (dC, dI) vwCl [.ref h0, .long a0, .int a1] sz base (wX5_nodesBehind h0 h1 kc1 V0 c1) [(kc1, .long)]) (va_Ql (fun r u => r = o.1 ∧ u = o.2) (fun (u : Unit) t => cPost (dC, dI) vwCl (va_A (wX5_nodesBehind h0 h1 kc1 V0 c1) sz) (wX5_nodesBehind h0 h1 kc1 V0 c1) [(kc1, .long)] t) (va_A (wX5_nodesBehind h0 h1 kc1 V0 c1) sz)) 0 0 (va_A (wX5_nodesBehind h0 h1 kc1 V0 c1) sz) := by
  refine Met.ofW (cc := cX5_nodesBehind) (maxL := 7) (ret := (some .long)) (by decide) rfl ?_
  intro p e s m args below meth c s₁ B hml hv
  obtain ⟨rfl, hsz, hP, hK, hD0, hE⟩ := hv
  have hx := B.exec
  have hb := B.bytes
  have hr := B.returns
  have hts : ∀ w ∈ wsL_law, _ := fun w h => atoms_spec (ws := .code yX5_nodesBehind cX5_nodesBehind 7 (some .long) :: wsL_law) B.pre w (List.mem_cons_of_mem _ h)
  have hown : s.vm.findClass RX5 = some m.cls := findClass_of_methodNamed B.named
  have hlocks := B.notSynchronized
  have w0_ := hts _ q465
  subst hsz
  have hD := hD0.self (sz := s.heap.size)
  generalize hAe : va_A (wX5_nodesBehind h0 h1 kc1 V0 c1) s.heap.size = A at hD ⊢
  have hA : ∀ q : Nat, s.heap.size ≤ q → A q := fun q h => by rw [← hAe]; exact Or.inr h
  have hAB : ∀ q : Nat, A q → base.1 ≤ q := fun q h => by rw [← hAe] at h; exact h.elim (fun ⟨k, e, hk⟩ => hD0.2 k _ hk) (fun hk => Nat.le_trans hE.1 hk)
  have hS : va_S A s.heap s.heap [] := va_S.rf
  have hl := lv_entry ([.ref h0, .long a0, .int a1]) (n := 7) (Nat.le_of_ble_eq_true rfl)
  rw [lg_entry_eq]
  generalize (lg_sl ([.ref h0, .long a0, .int a1]) ++ List.replicate (7 - (lg_sl ([.ref h0, .long a0, .int a1])).length) Slot.unset).toArray = ls at hl ⊢
  have hl : lv_has ls 7 [(0, .ref h0), (1, .long a0), (3, .int a1)] := hl
  have hP : va_P (dC, dI) vwCl (wX5_nodesBehind h0 h1 kc1 V0 c1) s.heap := hP
  refine gl_intro (fun G hG => ?_)
  have J41 : ∀ (k6 : Int64 → Int32 → Int64 → Int32 → Option (Int64 × Unit)) (hk6 : ∀ (y1 : Int64) (y3 : Int32) (y4 : Int64) (y6 : Int32) (H : Heap) (locs : List Loc) (ls : Array Slot), va_P (dC, dI) vwCl (wX5_nodesBehind h0 h1 kc1 V0 c1) H → va_D A (wX5_nodesBehind h0 h1 kc1 V0 c1) → va_S A s.heap H locs → lv_has ls 7 [(0, .ref h0), (1, .long y1), (3, .int y3), (4, .long y4), (6, .int y6)] → k6 y1 y3 y4 y6 = some o → G 0 0 H locs (F0 m 6 ls [])), ∀ (y1 : Int64) (y3 : Int32) (y4 : Int64) (y6 : Int32) (H : Heap) (locs : List Loc) (ls : Array Slot), va_P (dC, dI) vwCl (wX5_nodesBehind h0 h1 kc1 V0 c1) H → va_D A (wX5_nodesBehind h0 h1 kc1 V0 c1) → va_S A s.heap H locs → lv_has ls 7 [(0, .ref h0), (1, .long y1), (3, .int y3), (4, .long y4), (6, .int y6)] → fX5_nodesBehind_p41 c1 k6 y1 y3 y4 y6 = some o → G 0 0 H locs (F0 m 41 ls []) := by
    intro k6 hk6 y1 y3 y4 y6 H locs ls hP hD hS hl hf
    refine (hG _ _ _ _ _).mpr ?_
    unfold fX5_nodesBehind_p41 at hf
    obtain ⟨x1, e1⟩ : ∃ y : Int32, y = y6 + 1 := ⟨_, rfl⟩
    replace hf := nm_at hf e1
    refine lv_iinc (v := x1) (lv' := [(6, .int x1), (0, .ref h0), (1, .long y1), (3, .int y3), (4, .long y4)]) hx hb dX5_nodesBehind_41 hl (k := 4) rfl (by rw [e1]; rfl) (by decide) rfl (fun ls hl => ?_)
    refine lv_goto (tgt := 6) hx hb dX5_nodesBehind_44 (by decide) ?_
    exact (hG _ _ _ _ _).mp (hk6 y1 y3 y4 x1 H locs ls (hP.sub [0, 1] rfl) (hD.sub [0, 1] (by decide) rfl) hS (lv_sub hl [1, 2, 3, 4, 0] rfl) hf)
  have B6 : ∀ (k6 : Int64 → Int32 → Int64 → Int32 → Option (Int64 × Unit)) (hk6 : ∀ (y1 : Int64) (y3 : Int32) (y4 : Int64) (y6 : Int32) (H : Heap) (locs : List Loc) (ls : Array Slot), va_P (dC, dI) vwCl (wX5_nodesBehind h0 h1 kc1 V0 c1) H → va_D A (wX5_nodesBehind h0 h1 kc1 V0 c1) → va_S A s.heap H locs → lv_has ls 7 [(0, .ref h0), (1, .long y1), (3, .int y3), (4, .long y4), (6, .int y6)] → k6 y1 y3 y4 y6 = some o → G 0 0 H locs (F0 m 6 ls [])), ∀ (y1 : Int64) (y3 : Int32) (y4 : Int64) (y6 : Int32) (H : Heap) (locs : List Loc) (ls : Array Slot), va_P (dC, dI) vwCl (wX5_nodesBehind h0 h1 kc1 V0 c1) H → va_D A (wX5_nodesBehind h0 h1 kc1 V0 c1) → va_S A s.heap H locs → lv_has ls 7 [(0, .ref h0), (1, .long y1), (3, .int y3), (4, .long y4), (6, .int y6)] → fX5_nodesBehind_b6 c1  k6 y1 y3 y4 y6 = some o → G 0 0 H locs (F0 m 6 ls []) := by
    intro  k6 hk6 y1 y3 y4 y6 H locs ls hP hD hS hl hf
    refine (hG _ _ _ _ _).mpr ?_
    unfold fX5_nodesBehind_b6 at hf
    refine lv_iload hx hb dX5_nodesBehind_6 (lv_at hl 4 rfl) ?_
    refine lv_bipush (v := 64) hx hb dX5_nodesBehind_8 (by decide +kernel) ?_
    refine lv_icmp_ge (tgt := 47) hx hb dX5_nodesBehind_10 (by decide) (fun cq2 => ?_) (fun cq2 => ?_)
    · replace hf := if_at hf cq2
      refine lv_lload hx hb dX5_nodesBehind_47 (lv_at hl 3 rfl) ?_
      have hf1 := Option.some.inj hf
      subst hf1
      have hP9 := hP.sub (ws' := (wX5_nodesBehind h0 h1 kc1 V0 c1)) [0, 1] rfl
      have hD9 := hD.sub (ws' := (wX5_nodesBehind h0 h1 kc1 V0 c1)) [0, 1] (by decide) rfl
      exact W.lret (v := y4) hx hb hr (fun t ht hW => ⟨⟨y4, (), rfl, ⟨rfl, rfl⟩, by rw [ht]; exact hP9, va_K.moved hW.alike hK, hD9⟩, hS.F ht⟩) hS.2.2 dX5_nodesBehind_49
    · replace hf := if_no hf cq2
      refine lv_lload_n hx hb dX5_nodesBehind_13 rfl (lv_at hl 1 rfl) ?_
      refine lv_iload hx hb dX5_nodesBehind_14 (lv_at hl 4 rfl) ?_
      refine lv_lushr hx hb dX5_nodesBehind_16 rfl ?_
      refine lv_topl (fun x3 e3 => ?_)
      replace hf := nm_at hf e3
      refine lv_lconst (v := 1) hx hb dX5_nodesBehind_17 (by decide) ?_
      refine lv_land hx hb dX5_nodesBehind_18 ?_
      refine lv_topl (fun x4 e4 => ?_)
      replace hf := nm_at hf e4
      refine lv_lconst (v := 0) hx hb dX5_nodesBehind_19 (by decide) ?_
      refine W.lcmp hx hb dX5_nodesBehind_20 ?_
      refine lv_topi (fun x5 e5 => ?_)
      replace hf := nm_at hf e5
      refine lv_if_eq (tgt := 41) hx hb dX5_nodesBehind_21 (by decide) (fun cq6 => ?_) (fun cq6 => ?_)
      · replace hf := if_at hf cq6
        exact (hG _ _ _ _ _).mp (J41 k6 hk6 y1 y3 y4 y6 H locs ls (hP.sub [0, 1] rfl) (hD.sub [0, 1] (by decide) rfl) hS (lv_sub hl [0, 1, 2, 3, 4] rfl) hf)
      · replace hf := if_no hf cq6
        refine lv_lload hx hb dX5_nodesBehind_24 (lv_at hl 3 rfl) ?_
        refine lv_aload_n hx hb dX5_nodesBehind_26 rfl (lv_at hl 0 rfl) ?_
        refine va_get (D := (dC, dI)) (ci := 5) (v := .ref h1) (C := RX5) (T := TX5) (N := 4) hx hb hts inlX5 hown hK hP 0 rfl rfl 1 (by decide) w0_ (fun _ h9 => h9) rfl dX5_nodesBehind_27 ?_
        refine lv_iload hx hb dX5_nodesBehind_30 (lv_at hl 4 rfl) ?_
        refine lv_bipush (v := 12) hx hb dX5_nodesBehind_32 (by decide +kernel) ?_
        refine lv_imul hx hb dX5_nodesBehind_34 ?_
        refine lv_topi (fun x7 e7 => ?_)
        replace hf := nm_at hf e7
        refine lv_iload_n hx hb dX5_nodesBehind_35 rfl (lv_at hl 2 rfl) ?_
        refine lv_iadd hx hb dX5_nodesBehind_36 ?_
        refine lv_topi (fun x8 e8 => ?_)
        replace hf := nm_at hf e8
        have b9 := bd_in hf
        replace hf := bd_k hf
        refine va_lald hx hb hK hP 1 0 rfl rfl b9 dX5_nodesBehind_37 ?_
        refine lv_topl (fun x10 e10 => ?_)
        replace hf := nm_at hf e10
        refine lv_lor hx hb dX5_nodesBehind_38 ?_
        refine lv_topl (fun x11 e11 => ?_)
        replace hf := nm_at hf e11
        refine lv_lstore (lv' := [(4, .long x11), (0, .ref h0), (1, .long y1), (3, .int y3), (6, .int y6)]) hx hb dX5_nodesBehind_39 hl (by decide) rfl (fun ls hl => ?_)
        exact (hG _ _ _ _ _).mp (J41 k6 hk6 y1 y3 x11 y6 H locs ls (hP.sub [0, 1] rfl) (hD.sub [0, 1] (by decide) rfl) hS (lv_sub hl [1, 2, 3, 0, 4] rfl) hf)
  have L6 : ∀ (n : Nat), ∀ (y1 : Int64) (y3 : Int32) (y4 : Int64) (y6 : Int32) (H : Heap) (locs : List Loc) (ls : Array Slot), va_P (dC, dI) vwCl (wX5_nodesBehind h0 h1 kc1 V0 c1) H → va_D A (wX5_nodesBehind h0 h1 kc1 V0 c1) → va_S A s.heap H locs → lv_has ls 7 [(0, .ref h0), (1, .long y1), (3, .int y3), (4, .long y4), (6, .int y6)] → fX5_nodesBehind_l6 c1  n y1 y3 y4 y6 = some o → G 0 0 H locs (F0 m 6 ls []) := by
    intro  n
    induction n with
    | zero => intro y1 y3 y4 y6 H locs ls _ _ _ _ hf; cases hf
    | succ n ih => exact B6  _ ih
  refine (hG _ _ _ _ _).mpr ?_
  obtain ⟨H, hH⟩ : ∃ H, H = s.heap := ⟨_, rfl⟩
  have hS : va_S A s.heap H [] := by rw [hH]; exact hS
  rw [← hH] at hP ⊢
  generalize ([] : List Loc) = locs at hS ⊢
  unfold fX5_nodesBehind at hf
  refine lv_lconst (v := 0) hx hb dX5_nodesBehind_0 (by decide) ?_
  refine lv_lstore (lv' := [(4, .long 0), (0, .ref h0), (1, .long a0), (3, .int a1)]) hx hb dX5_nodesBehind_1 hl (by decide) rfl (fun ls hl => ?_)
  refine lv_iconst (v := 0) hx hb dX5_nodesBehind_3 (by decide +kernel) ?_
  refine lv_istore (lv' := [(6, .int 0), (4, .long 0), (0, .ref h0), (1, .long a0), (3, .int a1)]) hx hb dX5_nodesBehind_4 hl (by decide) rfl (fun ls hl => ?_)
  exact (hG _ _ _ _ _).mp (L6 FU a0 a1 0 0 H locs ls (hP.sub [0, 1] rfl) (hD.sub [0, 1] (by decide) rfl) hS (lv_sub hl [2, 3, 4, 1, 0] rfl) hf)
abbrev wX5_useRule (h0 h1 h2 h3 h4 h5 h6 h7 h8 h9 : Nat) (kc2 kc3 kc4 kc5 kc6 kc7 kc8 kc9 : ClassId) (V0 : Nat → Value) (V1 : Nat → Value) (c2 : Nat → Int32) (c3 : Nat → Int64) (c4 : Nat → Int32) (c5 : Nat → Int64) (c6 : Nat → Int32) (c7 : Nat → Int32) (c8 : Nat → Int32) (c9 : Nat → Int32) : va_W := [(h0, .inr (5, [.ref h1, .ref h5, .ref h3, V0 3])), (h1, .inr (6, [.ref h2, .ref h4, .ref h6, .ref h7, .ref h8, .ref h9, V1 6, V1 7, V1 8, V1 9, V1 10, V1 11, V1 12, V1 13])), (h2, .inl (kc2, 48, .inl c2)), (h3, .inl (kc3, 8, .inr (.inl c3))), (h4, .inl (kc4, 48, .inl c4)), (h5, .inl (kc5, 768, .inr (.inl c5))), (h6, .inl (kc6, 48, .inl c6)), (h7, .inl (kc7, 48, .inl c7)), (h8, .inl (kc8, 48, .inl c8)), (h9, .inl (kc9, 48, .inl c9))]
set_option maxHeartbeats 4000000 in
set_option maxRecDepth 100000 in
theorem mX5_useRule (l : Launch) (dC : Nat → ClassId) (dI : Nat → Nat → Nat) (h0 h1 h2 h3 h4 h5 h6 h7 h8 h9 : Nat) (kc2 kc3 kc4 kc5 kc6 kc7 kc8 kc9 : ClassId) (sz : Nat) (base : Nat × Nat × Nat) (a0 : Int32) (c2 : Nat → Int32) (c3 : Nat → Int64) (c4 : Nat → Int32) (c5 : Nat → Int64) (c6 : Nat → Int32) (c7 : Nat → Int32) (c8 : Nat → Int32) (c9 : Nat → Int32) (V0 : Nat → Value) (V1 : Nat → Value) (o : Int32 × (Nat → Int64) × (Nat → Int64)) (hf : fX5_useRule a0 c2 c3 c4 c5 c6 c7 c8 c9 = some o) : Met l yX5_useRule (.code yX5_useRule cX5_useRule 9 (some .boolean) :: wsL_law) ({ frames := 1, cells := 0, slots := 0, locals := 26 }) (cPre (dC, dI) vwCl [.ref h0, .int a0] sz base (wX5_useRule h0 h1 h2 h3 h4 h5 h6 h7 h8 h9 kc2 kc3 kc4 kc5 kc6 kc7 kc8 kc9 V0 V1 c2 c3 c4 c5 c6 c7 c8 c9) [(kc2, .int), (kc3, .long), (kc4, .int), (kc5, .long), (kc6, .int), (kc7, .int), (kc8, .int), (kc9, .int)]) (va_Qi (fun r u => r = o.1 ∧ u = o.2) (fun (u : (Nat → Int64) × (Nat → Int64)) t => cPost (dC, dI) vwCl (va_A (wX5_useRule h0 h1 h2 h3 h4 h5 h6 h7 h8 h9 kc2 kc3 kc4 kc5 kc6 kc7 kc8 kc9 V0 V1 c2 c3 c4 c5 c6 c7 c8 c9) sz) (wX5_useRule h0 h1 h2 h3 h4 h5 h6 h7 h8 h9 kc2 kc3 kc4 kc5 kc6 kc7 kc8 kc9 V0 V1 c2 u.1 c4 u.2 c6 c7 c8 c9) [(kc2, .int), (kc3, .long), (kc4, .int), (kc5, .long), (kc6, .int), (kc7, .int), (kc8, .int), (kc9, .int)] t) (va_A (wX5_useRule h0 h1 h2 h3 h4 h5 h6 h7 h8 h9 kc2 kc3 kc4 kc5 kc6 kc7 kc8 kc9 V0 V1 c2 c3 c4 c5 c6 c7 c8 c9) sz)) 0 0 (va_A (wX5_useRule h0 h1 h2 h3 h4 h5 h6 h7 h8 h9 kc2 kc3 kc4 kc5 kc6 kc7 kc8 kc9 V0 V1 c2 c3 c4 c5 c6 c7 c8 c9) sz) := by
  refine Met.ofW (cc := cX5_useRule) (maxL := 9) (ret := (some .boolean)) (by decide) rfl ?_
  intro p e s m args below meth c s₁ B hml hv
  obtain ⟨rfl, hsz, hP, hK, hD0, hE⟩ := hv
  have hx := B.exec
  have hb := B.bytes
  have hr := B.returns
  have hts : ∀ w ∈ wsL_law, _ := fun w h => atoms_spec (ws := .code yX5_useRule cX5_useRule 9 (some .boolean) :: wsL_law) B.pre w (List.mem_cons_of_mem _ h)
  have hown : s.vm.findClass RX5 = some m.cls := findClass_of_methodNamed B.named
  have hlocks := B.notSynchronized
  have w0_ := hts _ q468
  have w1_ := hts _ q491
  have w2_ := hts _ q466
  have w3_ := hts _ q492
  have w4_ := hts _ q493
  have w5_ := hts _ q494
  have w6_ := hts _ q495
  have w7_ := hts _ q496
  subst hsz
  have hD := hD0.self (sz := s.heap.size)
  generalize hAe : va_A (wX5_useRule h0 h1 h2 h3 h4 h5 h6 h7 h8 h9 kc2 kc3 kc4 kc5 kc6 kc7 kc8 kc9 V0 V1 c2 c3 c4 c5 c6 c7 c8 c9) s.heap.size = A at hD ⊢
  have hA : ∀ q : Nat, s.heap.size ≤ q → A q := fun q h => by rw [← hAe]; exact Or.inr h
  have hAB : ∀ q : Nat, A q → base.1 ≤ q := fun q h => by rw [← hAe] at h; exact h.elim (fun ⟨k, e, hk⟩ => hD0.2 k _ hk) (fun hk => Nat.le_trans hE.1 hk)
  have hS : va_S A s.heap s.heap [] := va_S.rf
  have hl := lv_entry ([.ref h0, .int a0]) (n := 9) (Nat.le_of_ble_eq_true rfl)
  rw [lg_entry_eq]
  generalize (lg_sl ([.ref h0, .int a0]) ++ List.replicate (9 - (lg_sl ([.ref h0, .int a0])).length) Slot.unset).toArray = ls at hl ⊢
  have hl : lv_has ls 9 [(0, .ref h0), (1, .int a0)] := hl
  have hP : va_P (dC, dI) vwCl (wX5_useRule h0 h1 h2 h3 h4 h5 h6 h7 h8 h9 kc2 kc3 kc4 kc5 kc6 kc7 kc8 kc9 V0 V1 c2 c3 c4 c5 c6 c7 c8 c9) s.heap := hP
  refine gl_intro (fun G hG => ?_)
  have J193 : ∀ (z0 : Int32) (c3 : (Nat → Int64)) (c5 : (Nat → Int64)) (H : Heap) (locs : List Loc) (ls : Array Slot), va_P (dC, dI) vwCl (wX5_useRule h0 h1 h2 h3 h4 h5 h6 h7 h8 h9 kc2 kc3 kc4 kc5 kc6 kc7 kc8 kc9 V0 V1 c2 c3 c4 c5 c6 c7 c8 c9) H → va_D A (wX5_useRule h0 h1 h2 h3 h4 h5 h6 h7 h8 h9 kc2 kc3 kc4 kc5 kc6 kc7 kc8 kc9 V0 V1 c2 c3 c4 c5 c6 c7 c8 c9) → va_S A s.heap H locs → lv_has ls 9 [(0, .ref h0)] → fX5_useRule_p193 c2 c4 c6 c7 c8 c9  z0 c3 c5 = some o → G 0 0 H locs (F0 m 193 ls [.int z0]) := by
    intro  z0 c3 c5 H locs ls hP hD hS hl hf
    refine (hG _ _ _ _ _).mpr ?_
    unfold fX5_useRule_p193 at hf
    have b1 := bd_b hf
    replace hf := bd_k hf
    have hf1 := Option.some.inj hf
    subst hf1
    have hP9 := hP.sub (ws' := (wX5_useRule h0 h1 h2 h3 h4 h5 h6 h7 h8 h9 kc2 kc3 kc4 kc5 kc6 kc7 kc8 kc9 V0 V1 c2 c3 c4 c5 c6 c7 c8 c9)) [0, 1, 2, 3, 4, 5, 6, 7, 8, 9] rfl
    have hD9 := hD.sub (ws' := (wX5_useRule h0 h1 h2 h3 h4 h5 h6 h7 h8 h9 kc2 kc3 kc4 kc5 kc6 kc7 kc8 kc9 V0 V1 c2 c3 c4 c5 c6 c7 c8 c9)) [0, 1, 2, 3, 4, 5, 6, 7, 8, 9] (by decide) rfl
    exact W.zret (v := z0) (ty := .boolean) hx hb hr (bz_nar b1) (fun t ht hW => ⟨⟨z0, (c3, c5), rfl, ⟨rfl, rfl⟩, by rw [ht]; exact hP9, va_K.moved hW.alike hK, hD9⟩, hS.F ht⟩) hS.2.2 dX5_useRule_193
  have J188 : ∀ (c3 : (Nat → Int64)) (c5 : (Nat → Int64)) (H : Heap) (locs : List Loc) (ls : Array Slot), va_P (dC, dI) vwCl (wX5_useRule h0 h1 h2 h3 h4 h5 h6 h7 h8 h9 kc2 kc3 kc4 kc5 kc6 kc7 kc8 kc9 V0 V1 c2 c3 c4 c5 c6 c7 c8 c9) H → va_D A (wX5_useRule h0 h1 h2 h3 h4 h5 h6 h7 h8 h9 kc2 kc3 kc4 kc5 kc6 kc7 kc8 kc9 V0 V1 c2 c3 c4 c5 c6 c7 c8 c9) → va_S A s.heap H locs → lv_has ls 9 [(0, .ref h0)] → fX5_useRule_p188 c2 c4 c6 c7 c8 c9  c3 c5 = some o → G 0 0 H locs (F0 m 188 ls []) := by
    intro  c3 c5 H locs ls hP hD hS hl hf
    refine (hG _ _ _ _ _).mpr ?_
    unfold fX5_useRule_p188 at hf
    refine lv_iconst (v := 1) hx hb dX5_useRule_188 (by decide +kernel) ?_
    refine lv_goto (tgt := 193) hx hb dX5_useRule_189 (by decide) ?_
    exact (hG _ _ _ _ _).mp (J193 1 c3 c5 H locs ls (hP.sub [0, 1, 2, 3, 4, 5, 6, 7, 8, 9] rfl) (hD.sub [0, 1, 2, 3, 4, 5, 6, 7, 8, 9] (by decide) rfl) hS (lv_sub hl [0] rfl) hf)
  have J103 : ∀ (z0 : Int32) (c3 : (Nat → Int64)) (c5 : (Nat → Int64)) (H : Heap) (locs : List Loc) (ls : Array Slot), va_P (dC, dI) vwCl (wX5_useRule h0 h1 h2 h3 h4 h5 h6 h7 h8 h9 kc2 kc3 kc4 kc5 kc6 kc7 kc8 kc9 V0 V1 c2 c3 c4 c5 c6 c7 c8 c9) H → va_D A (wX5_useRule h0 h1 h2 h3 h4 h5 h6 h7 h8 h9 kc2 kc3 kc4 kc5 kc6 kc7 kc8 kc9 V0 V1 c2 c3 c4 c5 c6 c7 c8 c9) → va_S A s.heap H locs → lv_has ls 9 [(0, .ref h0)] → fX5_useRule_p103 c2 c4 c6 c7 c8 c9  z0 c3 c5 = some o → G 0 0 H locs (F0 m 103 ls [.int z0]) := by
    intro  z0 c3 c5 H locs ls hP hD hS hl hf
    refine (hG _ _ _ _ _).mpr ?_
    unfold fX5_useRule_p103 at hf
    have b2 := bd_b hf
    replace hf := bd_k hf
    have hf1 := Option.some.inj hf
    subst hf1
    have hP9 := hP.sub (ws' := (wX5_useRule h0 h1 h2 h3 h4 h5 h6 h7 h8 h9 kc2 kc3 kc4 kc5 kc6 kc7 kc8 kc9 V0 V1 c2 c3 c4 c5 c6 c7 c8 c9)) [0, 1, 2, 3, 4, 5, 6, 7, 8, 9] rfl
    have hD9 := hD.sub (ws' := (wX5_useRule h0 h1 h2 h3 h4 h5 h6 h7 h8 h9 kc2 kc3 kc4 kc5 kc6 kc7 kc8 kc9 V0 V1 c2 c3 c4 c5 c6 c7 c8 c9)) [0, 1, 2, 3, 4, 5, 6, 7, 8, 9] (by decide) rfl
    exact W.zret (v := z0) (ty := .boolean) hx hb hr (bz_nar b2) (fun t ht hW => ⟨⟨z0, (c3, c5), rfl, ⟨rfl, rfl⟩, by rw [ht]; exact hP9, va_K.moved hW.alike hK, hD9⟩, hS.F ht⟩) hS.2.2 dX5_useRule_103
  refine (hG _ _ _ _ _).mpr ?_
  obtain ⟨H, hH⟩ : ∃ H, H = s.heap := ⟨_, rfl⟩
  have hS : va_S A s.heap H [] := by rw [hH]; exact hS
  rw [← hH] at hP ⊢
  generalize ([] : List Loc) = locs at hS ⊢
  unfold fX5_useRule at hf
  refine lv_aload_n hx hb dX5_useRule_0 rfl (lv_at hl 0 rfl) ?_
  refine va_get (D := (dC, dI)) (ci := 5) (v := .ref h1) (C := RX5) (T := TX5) (N := 4) hx hb hts inlX5 hown hK hP 0 rfl rfl 0 (by decide) w0_ (fun _ h9 => h9) rfl dX5_useRule_1 ?_
  refine va_get (D := (dC, dI)) (ci := 6) (v := .ref h2) (C := RX6) (T := TX6) (N := 14) hx hb hts inlX6 hown hK hP 1 rfl rfl 0 (by decide) w1_ (fun _ h9 => h9) rfl dX5_useRule_4 ?_
  refine lv_iload_n hx hb dX5_useRule_7 rfl (lv_at hl 1 rfl) ?_
  have b3 := bd_in hf
  replace hf := bd_k hf
  refine va_iald hx hb hK hP 2 0 rfl rfl b3 dX5_useRule_8 ?_
  refine lv_topi (fun x4 e4 => ?_)
  replace hf := nm_at hf e4
  refine lv_istore_n (lv' := [(2, .int x4), (0, .ref h0), (1, .int a0)]) hx hb dX5_useRule_9 rfl hl (by decide) rfl (fun ls hl => ?_)
  refine lv_aload_n hx hb dX5_useRule_10 rfl (lv_at hl 1 rfl) ?_
  refine lv_lconst (v := 1) hx hb dX5_useRule_11 (by decide) ?_
  refine lv_iload_n hx hb dX5_useRule_12 rfl (lv_at hl 0 rfl) ?_
  refine lv_lshl hx hb dX5_useRule_13 rfl ?_
  refine lv_topl (fun x5 e5 => ?_)
  replace hf := nm_at hf e5
  refine lv_aload_n hx hb dX5_useRule_14 rfl (lv_at hl 1 rfl) ?_
  refine va_get (D := (dC, dI)) (ci := 5) (v := .ref h3) (C := RX5) (T := TX5) (N := 4) hx hb hts inlX5 hown hK hP 0 rfl rfl 2 (by decide) w2_ (fun _ h9 => h9) rfl dX5_useRule_15 ?_
  refine lv_iload_n hx hb dX5_useRule_18 rfl (lv_at hl 0 rfl) ?_
  have b6 := bd_in hf
  replace hf := bd_k hf
  refine va_lald hx hb hK hP 3 1 rfl rfl b6 dX5_useRule_19 ?_
  refine lv_topl (fun x7 e7 => ?_)
  replace hf := nm_at hf e7
  refine lv_lor hx hb dX5_useRule_20 ?_
  refine lv_topl (fun x8 e8 => ?_)
  replace hf := nm_at hf e8
  refine lv_aload_n hx hb dX5_useRule_21 rfl (lv_at hl 1 rfl) ?_
  refine va_get (D := (dC, dI)) (ci := 5) (v := .ref h1) (C := RX5) (T := TX5) (N := 4) hx hb hts inlX5 hown hK hP 0 rfl rfl 0 (by decide) w0_ (fun _ h9 => h9) rfl dX5_useRule_22 ?_
  refine va_get (D := (dC, dI)) (ci := 6) (v := .ref h4) (C := RX6) (T := TX6) (N := 14) hx hb hts inlX6 hown hK hP 1 rfl rfl 1 (by decide) w3_ (fun _ h9 => h9) rfl dX5_useRule_25 ?_
  refine lv_iload_n hx hb dX5_useRule_28 rfl (lv_at hl 2 rfl) ?_
  have b9 := bd_in hf
  replace hf := bd_k hf
  refine va_iald hx hb hK hP 4 2 rfl rfl b9 dX5_useRule_29 ?_
  refine lv_topi (fun x10 e10 => ?_)
  replace hf := nm_at hf e10
  obtain ⟨o11, e11, hf⟩ := ob_some hf
  refine kVl (As := [.long x8, .int x10]) (rest := []) ⟨hx, hb, hml, hown, hts⟩ (mX5_nodesBehind l dC dI h0 h5 kc5 H.size base x8 x10 c5 (fun k => match k with | 0 => .ref h1 | 2 => .ref h3 | k => V0 k) o11 e11) (cwV 2 hts (gTV q497 q498 q499 q460 q500) rfl rfl rfl (by decide +kernel) ⟨Nat.le_of_ble_eq_true rfl, Nat.le_of_ble_eq_true rfl⟩) hK hP hD hS hA hE hAB [0, 5] [1, 2, 3, 4, 6, 7, 8, 9] [3] (wr := [(h1, .inr (6, [.ref h2, .ref h4, .ref h6, .ref h7, .ref h8, .ref h9, V1 6, V1 7, V1 8, V1 9, V1 10, V1 11, V1 12, V1 13])), (h2, .inl (kc2, 48, .inl c2)), (h3, .inl (kc3, 8, .inr (.inl c3))), (h4, .inl (kc4, 48, .inl c4)), (h6, .inl (kc6, 48, .inl c6)), (h7, .inl (kc7, 48, .inl c7)), (h8, .inl (kc8, 48, .inl c8)), (h9, .inl (kc9, 48, .inl c9))]) rfl rfl (by decide) (by decide) (by decide) rfl (ci := 5) (q0 := 0) rfl rfl rfl rfl hl.1 rfl (Nat.le_of_ble_eq_true rfl) dX5_useRule_30 ⟨Nat.zero_le _, Nat.zero_le _⟩ (fun r11 u11 H locs hw11 hP hD hS => ?_)
  obtain ⟨hw111, hw112⟩ := hw11
  subst hw111 hw112
  have hP : va_P (dC, dI) vwCl (wX5_useRule h0 h1 h2 h3 h4 h5 h6 h7 h8 h9 kc2 kc3 kc4 kc5 kc6 kc7 kc8 kc9 V0 V1 c2 c3 c4 c5 c6 c7 c8 c9) H := hP.sub [8, 0, 1, 2, 3, 9, 4, 5, 6, 7] rfl
  have hD : va_D A (wX5_useRule h0 h1 h2 h3 h4 h5 h6 h7 h8 h9 kc2 kc3 kc4 kc5 kc6 kc7 kc8 kc9 V0 V1 c2 c3 c4 c5 c6 c7 c8 c9) := hD.sub [8, 0, 1, 2, 3, 9, 4, 5, 6, 7] (by decide) rfl
  refine lv_lstore_n (lv' := [(3, .long o11.1), (2, .int x4), (0, .ref h0), (1, .int a0)]) hx hb dX5_useRule_33 rfl hl (by decide) rfl (fun ls hl => ?_)
  refine lv_lload_n hx hb dX5_useRule_34 rfl (lv_at hl 0 rfl) ?_
  refine lv_lconst (v := 0) hx hb dX5_useRule_35 (by decide) ?_
  refine W.lcmp hx hb dX5_useRule_36 ?_
  refine lv_topi (fun x12 e12 => ?_)
  replace hf := nm_at hf e12
  refine lv_if_ne (tgt := 42) hx hb dX5_useRule_37 (by decide) (fun cq13 => ?_) (fun cq13 => ?_)
  · replace hf := if_no hf cq13
    refine lv_aload_n hx hb dX5_useRule_42 rfl (lv_at hl 2 rfl) ?_
    refine va_get (D := (dC, dI)) (ci := 5) (v := .ref h1) (C := RX5) (T := TX5) (N := 4) hx hb hts inlX5 hown hK hP 0 rfl rfl 0 (by decide) w0_ (fun _ h9 => h9) rfl dX5_useRule_43 ?_
    refine va_get (D := (dC, dI)) (ci := 6) (v := .ref h6) (C := RX6) (T := TX6) (N := 14) hx hb hts inlX6 hown hK hP 1 rfl rfl 2 (by decide) w4_ (fun _ h9 => h9) rfl dX5_useRule_46 ?_
    refine lv_iload_n hx hb dX5_useRule_49 rfl (lv_at hl 3 rfl) ?_
    have b14 := bd_in hf
    replace hf := bd_k hf
    refine va_iald hx hb hK hP 6 4 rfl rfl b14 dX5_useRule_50 ?_
    refine lv_topi (fun x15 e15 => ?_)
    replace hf := nm_at hf e15
    refine lv_istore (lv' := [(5, .int x15), (3, .long o11.1), (2, .int x4), (0, .ref h0), (1, .int a0)]) hx hb dX5_useRule_51 hl (by decide) rfl (fun ls hl => ?_)
    refine lv_aload_n hx hb dX5_useRule_53 rfl (lv_at hl 3 rfl) ?_
    refine va_get (D := (dC, dI)) (ci := 5) (v := .ref h1) (C := RX5) (T := TX5) (N := 4) hx hb hts inlX5 hown hK hP 0 rfl rfl 0 (by decide) w0_ (fun _ h9 => h9) rfl dX5_useRule_54 ?_
    refine va_get (D := (dC, dI)) (ci := 6) (v := .ref h7) (C := RX6) (T := TX6) (N := 14) hx hb hts inlX6 hown hK hP 1 rfl rfl 3 (by decide) w5_ (fun _ h9 => h9) rfl dX5_useRule_57 ?_
    refine lv_iload_n hx hb dX5_useRule_60 rfl (lv_at hl 4 rfl) ?_
    have b16 := bd_in hf
    replace hf := bd_k hf
    refine va_iald hx hb hK hP 7 5 rfl rfl b16 dX5_useRule_61 ?_
    refine lv_topi (fun x17 e17 => ?_)
    replace hf := nm_at hf e17
    refine lv_if_ne (tgt := 104) hx hb dX5_useRule_62 (by decide) (fun cq18 => ?_) (fun cq18 => ?_)
    · replace hf := if_no hf cq18
      refine lv_iload hx hb dX5_useRule_104 (lv_at hl 0 rfl) ?_
      refine lv_bipush (v := 12) hx hb dX5_useRule_106 (by decide +kernel) ?_
      refine lv_imul hx hb dX5_useRule_108 ?_
      refine lv_topi (fun x19 e19 => ?_)
      replace hf := nm_at hf e19
      refine lv_aload_n hx hb dX5_useRule_109 rfl (lv_at hl 3 rfl) ?_
      refine va_get (D := (dC, dI)) (ci := 5) (v := .ref h1) (C := RX5) (T := TX5) (N := 4) hx hb hts inlX5 hown hK hP 0 rfl rfl 0 (by decide) w0_ (fun _ h9 => h9) rfl dX5_useRule_110 ?_
      refine va_get (D := (dC, dI)) (ci := 6) (v := .ref h8) (C := RX6) (T := TX6) (N := 14) hx hb hts inlX6 hown hK hP 1 rfl rfl 4 (by decide) w6_ (fun _ h9 => h9) rfl dX5_useRule_113 ?_
      refine lv_iload_n hx hb dX5_useRule_116 rfl (lv_at hl 4 rfl) ?_
      have b20 := bd_in hf
      replace hf := bd_k hf
      refine va_iald hx hb hK hP 8 6 rfl rfl b20 dX5_useRule_117 ?_
      refine lv_topi (fun x21 e21 => ?_)
      replace hf := nm_at hf e21
      refine lv_iadd hx hb dX5_useRule_118 ?_
      refine lv_topi (fun x22 e22 => ?_)
      replace hf := nm_at hf e22
      refine lv_istore (lv' := [(6, .int x22), (5, .int x15), (3, .long o11.1), (2, .int x4), (0, .ref h0), (1, .int a0)]) hx hb dX5_useRule_119 hl (by decide) rfl (fun ls hl => ?_)
      refine lv_aload_n hx hb dX5_useRule_121 rfl (lv_at hl 4 rfl) ?_
      refine va_get (D := (dC, dI)) (ci := 5) (v := .ref h1) (C := RX5) (T := TX5) (N := 4) hx hb hts inlX5 hown hK hP 0 rfl rfl 0 (by decide) w0_ (fun _ h9 => h9) rfl dX5_useRule_122 ?_
      refine va_get (D := (dC, dI)) (ci := 6) (v := .ref h7) (C := RX6) (T := TX6) (N := 14) hx hb hts inlX6 hown hK hP 1 rfl rfl 3 (by decide) w5_ (fun _ h9 => h9) rfl dX5_useRule_125 ?_
      refine lv_iload_n hx hb dX5_useRule_128 rfl (lv_at hl 5 rfl) ?_
      have b23 := bd_in hf
      replace hf := bd_k hf
      refine va_iald hx hb hK hP 7 5 rfl rfl b23 dX5_useRule_129 ?_
      refine lv_topi (fun x24 e24 => ?_)
      replace hf := nm_at hf e24
      refine lv_iconst (v := 1) hx hb dX5_useRule_130 (by decide +kernel) ?_
      refine lv_icmp_ne (tgt := 142) hx hb dX5_useRule_131 (by decide) (fun cq25 => ?_) (fun cq25 => ?_)
      · replace hf := if_no hf cq25
        refine lv_bipush (v := 16) hx hb dX5_useRule_142 (by decide +kernel) ?_
        refine lv_iload_n hx hb dX5_useRule_144 rfl (lv_at hl 5 rfl) ?_
        refine lv_iadd hx hb dX5_useRule_145 ?_
        refine lv_topi (fun x26 e26 => ?_)
        replace hf := nm_at hf e26
        refine lv_istore (lv' := [(7, .int x26), (6, .int x22), (5, .int x15), (3, .long o11.1), (2, .int x4), (0, .ref h0), (1, .int a0)]) hx hb dX5_useRule_146 hl (by decide) rfl (fun ls hl => ?_)
        refine lv_aload_n hx hb dX5_useRule_148 rfl (lv_at hl 5 rfl) ?_
        refine lv_iload hx hb dX5_useRule_149 (lv_at hl 1 rfl) ?_
        refine lv_lconst (v := 1) hx hb dX5_useRule_151 (by decide) ?_
        refine lv_iload hx hb dX5_useRule_152 (lv_at hl 0 rfl) ?_
        refine lv_lshl hx hb dX5_useRule_154 rfl ?_
        refine lv_topl (fun x27 e27 => ?_)
        replace hf := nm_at hf e27
        obtain ⟨o28, e28, hf⟩ := ob_some hf
        refine kVi (As := [.int x22, .long x27]) (rest := []) ⟨hx, hb, hml, hown, hts⟩ (mX5_addArcs l dC dI h0 h5 kc5 H.size base x22 x27 c5 (fun k => match k with | 0 => .ref h1 | 2 => .ref h3 | k => V0 k) o28 e28) (cwV 2 hts (gTV q501 q502 q503 q460 q504) rfl rfl rfl (by decide +kernel) ⟨Nat.le_of_ble_eq_true rfl, Nat.le_of_ble_eq_true rfl⟩) hK hP hD hS hA hE hAB [0, 5] [1, 2, 3, 4, 6, 7, 8, 9] [3] (wr := [(h1, .inr (6, [.ref h2, .ref h4, .ref h6, .ref h7, .ref h8, .ref h9, V1 6, V1 7, V1 8, V1 9, V1 10, V1 11, V1 12, V1 13])), (h2, .inl (kc2, 48, .inl c2)), (h3, .inl (kc3, 8, .inr (.inl c3))), (h4, .inl (kc4, 48, .inl c4)), (h6, .inl (kc6, 48, .inl c6)), (h7, .inl (kc7, 48, .inl c7)), (h8, .inl (kc8, 48, .inl c8)), (h9, .inl (kc9, 48, .inl c9))]) rfl rfl (by decide) (by decide) (by decide) rfl (ci := 5) (q0 := 0) rfl rfl rfl rfl hl.1 rfl (Nat.le_of_ble_eq_true rfl) dX5_useRule_155 ⟨Nat.zero_le _, Nat.zero_le _⟩ (fun r28 u28 H locs hw28 hP hD hS => ?_)
        obtain ⟨hw281, hw282⟩ := hw28
        subst hw281 hw282
        have hP : va_P (dC, dI) vwCl (wX5_useRule h0 h1 h2 h3 h4 h5 h6 h7 h8 h9 kc2 kc3 kc4 kc5 kc6 kc7 kc8 kc9 V0 V1 c2 c3 c4 o28.2 c6 c7 c8 c9) H := hP.sub [8, 0, 1, 2, 3, 9, 4, 5, 6, 7] rfl
        have hD : va_D A (wX5_useRule h0 h1 h2 h3 h4 h5 h6 h7 h8 h9 kc2 kc3 kc4 kc5 kc6 kc7 kc8 kc9 V0 V1 c2 c3 c4 o28.2 c6 c7 c8 c9) := hD.sub [8, 0, 1, 2, 3, 9, 4, 5, 6, 7] (by decide) rfl
        refine lv_istore (lv' := [(8, .int o28.1), (7, .int x26), (6, .int x22), (5, .int x15), (3, .long o11.1), (2, .int x4), (0, .ref h0), (1, .int a0)]) hx hb dX5_useRule_158 hl (by decide) rfl (fun ls hl => ?_)
        refine lv_aload_n hx hb dX5_useRule_160 rfl (lv_at hl 6 rfl) ?_
        refine lv_iload hx hb dX5_useRule_161 (lv_at hl 1 rfl) ?_
        refine lv_bipush (v := 12) hx hb dX5_useRule_163 (by decide +kernel) ?_
        refine lv_imul hx hb dX5_useRule_165 ?_
        refine lv_topi (fun x29 e29 => ?_)
        replace hf := nm_at hf e29
        refine lv_aload_n hx hb dX5_useRule_166 rfl (lv_at hl 6 rfl) ?_
        refine va_get (D := (dC, dI)) (ci := 5) (v := .ref h1) (C := RX5) (T := TX5) (N := 4) hx hb hts inlX5 hown hK hP 0 rfl rfl 0 (by decide) w0_ (fun _ h9 => h9) rfl dX5_useRule_167 ?_
        refine va_get (D := (dC, dI)) (ci := 6) (v := .ref h9) (C := RX6) (T := TX6) (N := 14) hx hb hts inlX6 hown hK hP 1 rfl rfl 5 (by decide) w7_ (fun _ h9 => h9) rfl dX5_useRule_170 ?_
        refine lv_iload_n hx hb dX5_useRule_173 rfl (lv_at hl 7 rfl) ?_
        have b30 := bd_in hf
        replace hf := bd_k hf
        refine va_iald hx hb hK hP 9 7 rfl rfl b30 dX5_useRule_174 ?_
        refine lv_topi (fun x31 e31 => ?_)
        replace hf := nm_at hf e31
        refine lv_iadd hx hb dX5_useRule_175 ?_
        refine lv_topi (fun x32 e32 => ?_)
        replace hf := nm_at hf e32
        refine lv_lload_n hx hb dX5_useRule_176 rfl (lv_at hl 4 rfl) ?_
        obtain ⟨o33, e33, hf⟩ := ob_some hf
        refine kVi (As := [.int x32, .long o11.1]) (rest := []) ⟨hx, hb, hml, hown, hts⟩ (mX5_addArcs l dC dI h0 h5 kc5 H.size base x32 o11.1 o28.2 (fun k => match k with | 0 => .ref h1 | 2 => .ref h3 | k => V0 k) o33 e33) (cwV 2 hts (gTV q501 q502 q503 q460 q504) rfl rfl rfl (by decide +kernel) ⟨Nat.le_of_ble_eq_true rfl, Nat.le_of_ble_eq_true rfl⟩) hK hP hD hS hA hE hAB [0, 5] [1, 2, 3, 4, 6, 7, 8, 9] [3] (wr := [(h1, .inr (6, [.ref h2, .ref h4, .ref h6, .ref h7, .ref h8, .ref h9, V1 6, V1 7, V1 8, V1 9, V1 10, V1 11, V1 12, V1 13])), (h2, .inl (kc2, 48, .inl c2)), (h3, .inl (kc3, 8, .inr (.inl c3))), (h4, .inl (kc4, 48, .inl c4)), (h6, .inl (kc6, 48, .inl c6)), (h7, .inl (kc7, 48, .inl c7)), (h8, .inl (kc8, 48, .inl c8)), (h9, .inl (kc9, 48, .inl c9))]) rfl rfl (by decide) (by decide) (by decide) rfl (ci := 5) (q0 := 0) rfl rfl rfl rfl hl.1 rfl (Nat.le_of_ble_eq_true rfl) dX5_useRule_177 ⟨Nat.zero_le _, Nat.zero_le _⟩ (fun r33 u33 H locs hw33 hP hD hS => ?_)
        obtain ⟨hw331, hw332⟩ := hw33
        subst hw331 hw332
        have hP : va_P (dC, dI) vwCl (wX5_useRule h0 h1 h2 h3 h4 h5 h6 h7 h8 h9 kc2 kc3 kc4 kc5 kc6 kc7 kc8 kc9 V0 V1 c2 c3 c4 o33.2 c6 c7 c8 c9) H := hP.sub [8, 0, 1, 2, 3, 9, 4, 5, 6, 7] rfl
        have hD : va_D A (wX5_useRule h0 h1 h2 h3 h4 h5 h6 h7 h8 h9 kc2 kc3 kc4 kc5 kc6 kc7 kc8 kc9 V0 V1 c2 c3 c4 o33.2 c6 c7 c8 c9) := hD.sub [8, 0, 1, 2, 3, 9, 4, 5, 6, 7] (by decide) rfl
        refine lv_if_ne (tgt := 188) hx hb dX5_useRule_180 (by decide) (fun cq34 => ?_) (fun cq34 => ?_)
        · replace hf := if_no hf cq34
          exact (hG _ _ _ _ _).mp (J188 c3 o33.2 H locs ls (hP.sub [0, 1, 2, 3, 4, 5, 6, 7, 8, 9] rfl) (hD.sub [0, 1, 2, 3, 4, 5, 6, 7, 8, 9] (by decide) rfl) hS (lv_sub hl [6] rfl) hf)
        · replace hf := if_at hf cq34
          refine lv_iload hx hb dX5_useRule_183 (lv_at hl 0 rfl) ?_
          refine lv_if_eq (tgt := 192) hx hb dX5_useRule_185 (by decide) (fun cq35 => ?_) (fun cq35 => ?_)
          · replace hf := if_at hf cq35
            refine lv_iconst (v := 0) hx hb dX5_useRule_192 (by decide +kernel) ?_
            exact (hG _ _ _ _ _).mp (J193 0 c3 o33.2 H locs ls (hP.sub [0, 1, 2, 3, 4, 5, 6, 7, 8, 9] rfl) (hD.sub [0, 1, 2, 3, 4, 5, 6, 7, 8, 9] (by decide) rfl) hS (lv_sub hl [6] rfl) hf)
          · replace hf := if_no hf cq35
            exact (hG _ _ _ _ _).mp (J188 c3 o33.2 H locs ls (hP.sub [0, 1, 2, 3, 4, 5, 6, 7, 8, 9] rfl) (hD.sub [0, 1, 2, 3, 4, 5, 6, 7, 8, 9] (by decide) rfl) hS (lv_sub hl [6] rfl) hf)
      · replace hf := if_at hf cq25
        refine lv_aload_n hx hb dX5_useRule_134 rfl (lv_at hl 4 rfl) ?_
        refine lv_iload hx hb dX5_useRule_135 (lv_at hl 0 rfl) ?_
        refine lv_lload_n hx hb dX5_useRule_137 rfl (lv_at hl 2 rfl) ?_
        obtain ⟨o36, e36, hf⟩ := ob_some hf
        refine kVi (As := [.int x22, .long o11.1]) (rest := []) ⟨hx, hb, hml, hown, hts⟩ (mX5_addArcs l dC dI h0 h5 kc5 H.size base x22 o11.1 c5 (fun k => match k with | 0 => .ref h1 | 2 => .ref h3 | k => V0 k) o36 e36) (cwV 2 hts (gTV q501 q502 q503 q460 q504) rfl rfl rfl (by decide +kernel) ⟨Nat.le_of_ble_eq_true rfl, Nat.le_of_ble_eq_true rfl⟩) hK hP hD hS hA hE hAB [0, 5] [1, 2, 3, 4, 6, 7, 8, 9] [3] (wr := [(h1, .inr (6, [.ref h2, .ref h4, .ref h6, .ref h7, .ref h8, .ref h9, V1 6, V1 7, V1 8, V1 9, V1 10, V1 11, V1 12, V1 13])), (h2, .inl (kc2, 48, .inl c2)), (h3, .inl (kc3, 8, .inr (.inl c3))), (h4, .inl (kc4, 48, .inl c4)), (h6, .inl (kc6, 48, .inl c6)), (h7, .inl (kc7, 48, .inl c7)), (h8, .inl (kc8, 48, .inl c8)), (h9, .inl (kc9, 48, .inl c9))]) rfl rfl (by decide) (by decide) (by decide) rfl (ci := 5) (q0 := 0) rfl rfl rfl rfl hl.1 rfl (Nat.le_of_ble_eq_true rfl) dX5_useRule_138 ⟨Nat.zero_le _, Nat.zero_le _⟩ (fun r36 u36 H locs hw36 hP hD hS => ?_)
        obtain ⟨hw361, hw362⟩ := hw36
        subst hw361 hw362
        have hP : va_P (dC, dI) vwCl (wX5_useRule h0 h1 h2 h3 h4 h5 h6 h7 h8 h9 kc2 kc3 kc4 kc5 kc6 kc7 kc8 kc9 V0 V1 c2 c3 c4 o36.2 c6 c7 c8 c9) H := hP.sub [8, 0, 1, 2, 3, 9, 4, 5, 6, 7] rfl
        have hD : va_D A (wX5_useRule h0 h1 h2 h3 h4 h5 h6 h7 h8 h9 kc2 kc3 kc4 kc5 kc6 kc7 kc8 kc9 V0 V1 c2 c3 c4 o36.2 c6 c7 c8 c9) := hD.sub [8, 0, 1, 2, 3, 9, 4, 5, 6, 7] (by decide) rfl
        have b37 := bd_b hf
        replace hf := bd_k hf
        have hf1 := Option.some.inj hf
        subst hf1
        have hP9 := hP.sub (ws' := (wX5_useRule h0 h1 h2 h3 h4 h5 h6 h7 h8 h9 kc2 kc3 kc4 kc5 kc6 kc7 kc8 kc9 V0 V1 c2 c3 c4 o36.2 c6 c7 c8 c9)) [0, 1, 2, 3, 4, 5, 6, 7, 8, 9] rfl
        have hD9 := hD.sub (ws' := (wX5_useRule h0 h1 h2 h3 h4 h5 h6 h7 h8 h9 kc2 kc3 kc4 kc5 kc6 kc7 kc8 kc9 V0 V1 c2 c3 c4 o36.2 c6 c7 c8 c9)) [0, 1, 2, 3, 4, 5, 6, 7, 8, 9] (by decide) rfl
        exact W.zret (v := o36.1) (ty := .boolean) hx hb hr (bz_nar b37) (fun t ht hW => ⟨⟨o36.1, (c3, o36.2), rfl, ⟨rfl, rfl⟩, by rw [ht]; exact hP9, va_K.moved hW.alike hK, hD9⟩, hS.F ht⟩) hS.2.2 dX5_useRule_141
    · replace hf := if_at hf cq18
      refine lv_aload_n hx hb dX5_useRule_65 rfl (lv_at hl 3 rfl) ?_
      refine va_get (D := (dC, dI)) (ci := 5) (v := .ref h3) (C := RX5) (T := TX5) (N := 4) hx hb hts inlX5 hown hK hP 0 rfl rfl 2 (by decide) w2_ (fun _ h9 => h9) rfl dX5_useRule_66 ?_
      refine lv_iload hx hb dX5_useRule_69 (lv_at hl 0 rfl) ?_
      have b38 := bd_in hf
      replace hf := bd_k hf
      refine va_lald hx hb hK hP 3 1 rfl rfl b38 dX5_useRule_71 ?_
      refine lv_topl (fun x39 e39 => ?_)
      replace hf := nm_at hf e39
      refine lv_lstore (lv' := [(6, .long x39), (5, .int x15), (3, .long o11.1), (2, .int x4), (0, .ref h0), (1, .int a0)]) hx hb dX5_useRule_72 hl (by decide) rfl (fun ls hl => ?_)
      refine lv_aload_n hx hb dX5_useRule_74 rfl (lv_at hl 4 rfl) ?_
      refine va_get (D := (dC, dI)) (ci := 5) (v := .ref h3) (C := RX5) (T := TX5) (N := 4) hx hb hts inlX5 hown hK hP 0 rfl rfl 2 (by decide) w2_ (fun _ h9 => h9) rfl dX5_useRule_75 ?_
      refine lv_iload hx hb dX5_useRule_78 (lv_at hl 1 rfl) ?_
      refine lv_dup2_11 hx hb dX5_useRule_80 rfl rfl ?_
      have b40 := bd_in hf
      replace hf := bd_k hf
      refine va_lald hx hb hK hP 3 1 rfl rfl b40 dX5_useRule_81 ?_
      refine lv_topl (fun x41 e41 => ?_)
      replace hf := nm_at hf e41
      refine lv_lload_n hx hb dX5_useRule_82 rfl (lv_at hl 2 rfl) ?_
      refine lv_lor hx hb dX5_useRule_83 ?_
      refine lv_topl (fun x42 e42 => ?_)
      replace hf := nm_at hf e42
      have b43 := bd_in hf
      replace hf := bd_k hf
      obtain ⟨c43x, e43⟩ : ∃ y, y = vp_updL c3 x15.toNatClampNeg x42 := ⟨_, rfl⟩
      replace hf := nm_at hf e43
      refine va_last hx hb hK hP hD hS 3 1 rfl rfl b43 dX5_useRule_84 (fun H locs hP hD hS => ?_)
      have hP : va_P (dC, dI) vwCl (wX5_useRule h0 h1 h2 h3 h4 h5 h6 h7 h8 h9 kc2 kc3 kc4 kc5 kc6 kc7 kc8 kc9 V0 V1 c2 c43x c4 c5 c6 c7 c8 c9) H := by rw [e43]; exact hP
      have hD : va_D A (wX5_useRule h0 h1 h2 h3 h4 h5 h6 h7 h8 h9 kc2 kc3 kc4 kc5 kc6 kc7 kc8 kc9 V0 V1 c2 c43x c4 c5 c6 c7 c8 c9) := by rw [e43]; exact hD
      refine lv_aload_n hx hb dX5_useRule_85 rfl (lv_at hl 4 rfl) ?_
      refine va_get (D := (dC, dI)) (ci := 5) (v := .ref h3) (C := RX5) (T := TX5) (N := 4) hx hb hts inlX5 hown hK hP 0 rfl rfl 2 (by decide) w2_ (fun _ h9 => h9) rfl dX5_useRule_86 ?_
      refine lv_iload hx hb dX5_useRule_89 (lv_at hl 1 rfl) ?_
      have b44 := bd_in hf
      replace hf := bd_k hf
      refine va_lald hx hb hK hP 3 1 rfl rfl b44 dX5_useRule_91 ?_
      refine lv_topl (fun x45 e45 => ?_)
      replace hf := nm_at hf e45
      refine lv_lload hx hb dX5_useRule_92 (lv_at hl 0 rfl) ?_
      refine W.lcmp hx hb dX5_useRule_94 ?_
      refine lv_topi (fun x46 e46 => ?_)
      replace hf := nm_at hf e46
      refine lv_if_eq (tgt := 102) hx hb dX5_useRule_95 (by decide) (fun cq47 => ?_) (fun cq47 => ?_)
      · replace hf := if_at hf cq47
        refine lv_iconst (v := 0) hx hb dX5_useRule_102 (by decide +kernel) ?_
        exact (hG _ _ _ _ _).mp (J103 0 c43x c5 H locs ls (hP.sub [0, 1, 2, 3, 4, 5, 6, 7, 8, 9] rfl) (hD.sub [0, 1, 2, 3, 4, 5, 6, 7, 8, 9] (by decide) rfl) hS (lv_sub hl [4] rfl) hf)
      · replace hf := if_no hf cq47
        refine lv_iconst (v := 1) hx hb dX5_useRule_98 (by decide +kernel) ?_
        refine lv_goto (tgt := 103) hx hb dX5_useRule_99 (by decide) ?_
        exact (hG _ _ _ _ _).mp (J103 1 c43x c5 H locs ls (hP.sub [0, 1, 2, 3, 4, 5, 6, 7, 8, 9] rfl) (hD.sub [0, 1, 2, 3, 4, 5, 6, 7, 8, 9] (by decide) rfl) hS (lv_sub hl [4] rfl) hf)
  · replace hf := if_at hf cq13
    refine lv_iconst (v := 0) hx hb dX5_useRule_40 (by decide +kernel) ?_
    have hf1 := Option.some.inj hf
    subst hf1
    have hP9 := hP.sub (ws' := (wX5_useRule h0 h1 h2 h3 h4 h5 h6 h7 h8 h9 kc2 kc3 kc4 kc5 kc6 kc7 kc8 kc9 V0 V1 c2 c3 c4 c5 c6 c7 c8 c9)) [0, 1, 2, 3, 4, 5, 6, 7, 8, 9] rfl
    have hD9 := hD.sub (ws' := (wX5_useRule h0 h1 h2 h3 h4 h5 h6 h7 h8 h9 kc2 kc3 kc4 kc5 kc6 kc7 kc8 kc9 V0 V1 c2 c3 c4 c5 c6 c7 c8 c9)) [0, 1, 2, 3, 4, 5, 6, 7, 8, 9] (by decide) rfl
    exact W.zret (v := 0) (ty := .boolean) hx hb hr rfl (fun t ht hW => ⟨⟨0, (c3, c5), rfl, ⟨rfl, rfl⟩, by rw [ht]; exact hP9, va_K.moved hW.alike hK, hD9⟩, hS.F ht⟩) hS.2.2 dX5_useRule_41
abbrev wX5_bringUpToDate (h0 h1 h2 h3 h4 h5 h6 h7 h8 h9 h10 : Nat) (kc2 kc3 kc4 kc5 kc6 kc7 kc8 kc9 kc10 : ClassId) (V1 : Nat → Value) (v0_solvedAt : Int32) (v1_rules : Int32) (v1_systemChanges : Int32) (c2 : Nat → Int64) (c3 : Nat → Int64) (c4 : Nat → Int32) (c5 : Nat → Int32) (c6 : Nat → Int32) (c7 : Nat → Int32) (c8 : Nat → Int32) (c9 : Nat → Int32) (c10 : Nat → Int32) : va_W := [(h0, .inr (5, [.ref h1, .ref h2, .ref h3, .int v0_solvedAt])), (h1, .inr (6, [.ref h5, .ref h6, .ref h7, .ref h8, .ref h9, .ref h10, .int v1_rules, .ref h4, V1 8, V1 9, V1 10, .int v1_systemChanges, V1 12, V1 13])), (h2, .inl (kc2, 768, .inr (.inl c2))), (h3, .inl (kc3, 8, .inr (.inl c3))), (h4, .inl (kc4, 192, .inl c4)), (h5, .inl (kc5, 48, .inl c5)), (h6, .inl (kc6, 48, .inl c6)), (h7, .inl (kc7, 48, .inl c7)), (h8, .inl (kc8, 48, .inl c8)), (h9, .inl (kc9, 48, .inl c9)), (h10, .inl (kc10, 48, .inl c10))]
set_option maxHeartbeats 4000000 in
set_option maxRecDepth 100000 in
theorem mX5_bringUpToDate (l : Launch) (dC : Nat → ClassId) (dI : Nat → Nat → Nat) (h0 h1 h2 h3 h4 h5 h6 h7 h8 h9 h10 : Nat) (kc2 kc3 kc4 kc5 kc6 kc7 kc8 kc9 kc10 : ClassId) (sz : Nat) (base : Nat × Nat × Nat) (v0_solvedAt : Int32) (v1_rules : Int32) (v1_systemChanges : Int32) (c2 : Nat → Int64) (c3 : Nat → Int64) (c4 : Nat → Int32) (c5 : Nat → Int32) (c6 : Nat → Int32) (c7 : Nat → Int32) (c8 : Nat → Int32) (c9 : Nat → Int32) (c10 : Nat → Int32) (V1 : Nat → Value) (o : Int32 × (Nat → Int64) × (Nat → Int64)) (hf : fX5_bringUpToDate v0_solvedAt v1_rules v1_systemChanges c2 c3 c4 c5 c6 c7 c8 c9 c10 = some o) : Met l yX5_bringUpToDate (.code yX5_bringUpToDate cX5_bringUpToDate 4 none :: wsL_law) ({ frames := 2, cells := 0, slots := 0, locals := 54 }) (cPre (dC, dI) vwCl [.ref h0] sz base (wX5_bringUpToDate h0 h1 h2 h3 h4 h5 h6 h7 h8 h9 h10 kc2 kc3 kc4 kc5 kc6 kc7 kc8 kc9 kc10 V1 v0_solvedAt v1_rules v1_systemChanges c2 c3 c4 c5 c6 c7 c8 c9 c10) [(kc2, .long), (kc3, .long), (kc4, .int), (kc5, .int), (kc6, .int), (kc7, .int), (kc8, .int), (kc9, .int), (kc10, .int)]) (va_Qv (fun u => u = o) (fun (u : Int32 × (Nat → Int64) × (Nat → Int64)) t => cPost (dC, dI) vwCl (va_A (wX5_bringUpToDate h0 h1 h2 h3 h4 h5 h6 h7 h8 h9 h10 kc2 kc3 kc4 kc5 kc6 kc7 kc8 kc9 kc10 V1 v0_solvedAt v1_rules v1_systemChanges c2 c3 c4 c5 c6 c7 c8 c9 c10) sz) (wX5_bringUpToDate h0 h1 h2 h3 h4 h5 h6 h7 h8 h9 h10 kc2 kc3 kc4 kc5 kc6 kc7 kc8 kc9 kc10 V1 u.1 v1_rules v1_systemChanges u.2.1 u.2.2 c4 c5 c6 c7 c8 c9 c10) [(kc2, .long), (kc3, .long), (kc4, .int), (kc5, .int), (kc6, .int), (kc7, .int), (kc8, .int), (kc9, .int), (kc10, .int)] t) (va_A (wX5_bringUpToDate h0 h1 h2 h3 h4 h5 h6 h7 h8 h9 h10 kc2 kc3 kc4 kc5 kc6 kc7 kc8 kc9 kc10 V1 v0_solvedAt v1_rules v1_systemChanges c2 c3 c4 c5 c6 c7 c8 c9 c10) sz)) 0 0 (va_A (wX5_bringUpToDate h0 h1 h2 h3 h4 h5 h6 h7 h8 h9 h10 kc2 kc3 kc4 kc5 kc6 kc7 kc8 kc9 kc10 V1 v0_solvedAt v1_rules v1_systemChanges c2 c3 c4 c5 c6 c7 c8 c9 c10) sz) := by
  refine Met.ofW (cc := cX5_bringUpToDate) (maxL := 4) (ret := none) (by decide) rfl ?_
  intro p e s m args below meth c s₁ B hml hv
  obtain ⟨rfl, hsz, hP, hK, hD0, hE⟩ := hv
  have hx := B.exec
  have hb := B.bytes
  have hr := B.returns
  have hts : ∀ w ∈ wsL_law, _ := fun w h => atoms_spec (ws := .code yX5_bringUpToDate cX5_bringUpToDate 4 none :: wsL_law) B.pre w (List.mem_cons_of_mem _ h)
  have hown : s.vm.findClass RX5 = some m.cls := findClass_of_methodNamed B.named
  have hlocks := B.notSynchronized
  have w0_ := hts _ q468
  have w1_ := hts _ q483
  have w2_ := hts _ q482
  have w3_ := hts _ q465
  have w4_ := hts _ q481
  have w5_ := hts _ q467
  have w6_ := hts _ q480
  have w7_ := hts _ q466
  subst hsz
  have hD := hD0.self (sz := s.heap.size)
  generalize hAe : va_A (wX5_bringUpToDate h0 h1 h2 h3 h4 h5 h6 h7 h8 h9 h10 kc2 kc3 kc4 kc5 kc6 kc7 kc8 kc9 kc10 V1 v0_solvedAt v1_rules v1_systemChanges c2 c3 c4 c5 c6 c7 c8 c9 c10) s.heap.size = A at hD ⊢
  have hA : ∀ q : Nat, s.heap.size ≤ q → A q := fun q h => by rw [← hAe]; exact Or.inr h
  have hAB : ∀ q : Nat, A q → base.1 ≤ q := fun q h => by rw [← hAe] at h; exact h.elim (fun ⟨k, e, hk⟩ => hD0.2 k _ hk) (fun hk => Nat.le_trans hE.1 hk)
  have hS : va_S A s.heap s.heap [] := va_S.rf
  have hl := lv_entry ([.ref h0]) (n := 4) (Nat.le_of_ble_eq_true rfl)
  rw [lg_entry_eq]
  generalize (lg_sl ([.ref h0]) ++ List.replicate (4 - (lg_sl ([.ref h0])).length) Slot.unset).toArray = ls at hl ⊢
  have hl : lv_has ls 4 [(0, .ref h0)] := hl
  have hP : va_P (dC, dI) vwCl (wX5_bringUpToDate h0 h1 h2 h3 h4 h5 h6 h7 h8 h9 h10 kc2 kc3 kc4 kc5 kc6 kc7 kc8 kc9 kc10 V1 v0_solvedAt v1_rules v1_systemChanges c2 c3 c4 c5 c6 c7 c8 c9 c10) s.heap := hP
  refine gl_intro (fun G hG => ?_)
  have J122 : ∀ (v0_solvedAt : Int32) (c2 : (Nat → Int64)) (c3 : (Nat → Int64)) (H : Heap) (locs : List Loc) (ls : Array Slot), va_P (dC, dI) vwCl (wX5_bringUpToDate h0 h1 h2 h3 h4 h5 h6 h7 h8 h9 h10 kc2 kc3 kc4 kc5 kc6 kc7 kc8 kc9 kc10 V1 v0_solvedAt v1_rules v1_systemChanges c2 c3 c4 c5 c6 c7 c8 c9 c10) H → va_D A (wX5_bringUpToDate h0 h1 h2 h3 h4 h5 h6 h7 h8 h9 h10 kc2 kc3 kc4 kc5 kc6 kc7 kc8 kc9 kc10 V1 v0_solvedAt v1_rules v1_systemChanges c2 c3 c4 c5 c6 c7 c8 c9 c10) → va_S A s.heap H locs → lv_has ls 4 [(0, .ref h0)] → fX5_bringUpToDate_p122 v1_rules v1_systemChanges c4 c5 c6 c7 c8 c9 c10  v0_solvedAt c2 c3 = some o → G 0 0 H locs (F0 m 122 ls []) := by
    intro  v0_solvedAt c2 c3 H locs ls hP hD hS hl hf
    refine (hG _ _ _ _ _).mpr ?_
    unfold fX5_bringUpToDate_p122 at hf
    have hf1 := Option.some.inj hf
    subst hf1
    have hP9 := hP.sub (ws' := (wX5_bringUpToDate h0 h1 h2 h3 h4 h5 h6 h7 h8 h9 h10 kc2 kc3 kc4 kc5 kc6 kc7 kc8 kc9 kc10 V1 v0_solvedAt v1_rules v1_systemChanges c2 c3 c4 c5 c6 c7 c8 c9 c10)) [0, 1, 2, 3, 4, 5, 6, 7, 8, 9, 10] rfl
    have hD9 := hD.sub (ws' := (wX5_bringUpToDate h0 h1 h2 h3 h4 h5 h6 h7 h8 h9 h10 kc2 kc3 kc4 kc5 kc6 kc7 kc8 kc9 kc10 V1 v0_solvedAt v1_rules v1_systemChanges c2 c3 c4 c5 c6 c7 c8 c9 c10)) [0, 1, 2, 3, 4, 5, 6, 7, 8, 9, 10] (by decide) rfl
    exact W.vret hx hb hr (fun t ht hW => ⟨⟨(v0_solvedAt, c2, c3), rfl, rfl, by rw [ht]; exact hP9, va_K.moved hW.alike hK, hD9⟩, hS.F ht⟩) hS.2.2 dX5_bringUpToDate_122
  have B91 : ∀ (k77 : Int32 → Int32 → Int32 → (Nat → Int64) → (Nat → Int64) → Option (Int32 × (Nat → Int64) × (Nat → Int64))) (hk77 : ∀ (y1 : Int32) (y2 : Int32) (v0_solvedAt : Int32) (c2 : (Nat → Int64)) (c3 : (Nat → Int64)) (H : Heap) (locs : List Loc) (ls : Array Slot), va_P (dC, dI) vwCl (wX5_bringUpToDate h0 h1 h2 h3 h4 h5 h6 h7 h8 h9 h10 kc2 kc3 kc4 kc5 kc6 kc7 kc8 kc9 kc10 V1 v0_solvedAt v1_rules v1_systemChanges c2 c3 c4 c5 c6 c7 c8 c9 c10) H → va_D A (wX5_bringUpToDate h0 h1 h2 h3 h4 h5 h6 h7 h8 h9 h10 kc2 kc3 kc4 kc5 kc6 kc7 kc8 kc9 kc10 V1 v0_solvedAt v1_rules v1_systemChanges c2 c3 c4 c5 c6 c7 c8 c9 c10) → va_S A s.heap H locs → lv_has ls 4 [(0, .ref h0), (1, .int y1), (2, .int y2)] → k77 y1 y2 v0_solvedAt c2 c3 = some o → G 0 0 H locs (F0 m 77 ls [])) (k91 : Int32 → Int32 → Int32 → Int32 → (Nat → Int64) → (Nat → Int64) → Option (Int32 × (Nat → Int64) × (Nat → Int64))) (hk91 : ∀ (y1 : Int32) (y2 : Int32) (y3 : Int32) (v0_solvedAt : Int32) (c2 : (Nat → Int64)) (c3 : (Nat → Int64)) (H : Heap) (locs : List Loc) (ls : Array Slot), va_P (dC, dI) vwCl (wX5_bringUpToDate h0 h1 h2 h3 h4 h5 h6 h7 h8 h9 h10 kc2 kc3 kc4 kc5 kc6 kc7 kc8 kc9 kc10 V1 v0_solvedAt v1_rules v1_systemChanges c2 c3 c4 c5 c6 c7 c8 c9 c10) H → va_D A (wX5_bringUpToDate h0 h1 h2 h3 h4 h5 h6 h7 h8 h9 h10 kc2 kc3 kc4 kc5 kc6 kc7 kc8 kc9 kc10 V1 v0_solvedAt v1_rules v1_systemChanges c2 c3 c4 c5 c6 c7 c8 c9 c10) → va_S A s.heap H locs → lv_has ls 4 [(0, .ref h0), (1, .int y1), (2, .int y2), (3, .int y3)] → k91 y1 y2 y3 v0_solvedAt c2 c3 = some o → G 0 0 H locs (F0 m 91 ls [])), ∀ (y1 : Int32) (y2 : Int32) (y3 : Int32) (v0_solvedAt : Int32) (c2 : (Nat → Int64)) (c3 : (Nat → Int64)) (H : Heap) (locs : List Loc) (ls : Array Slot), va_P (dC, dI) vwCl (wX5_bringUpToDate h0 h1 h2 h3 h4 h5 h6 h7 h8 h9 h10 kc2 kc3 kc4 kc5 kc6 kc7 kc8 kc9 kc10 V1 v0_solvedAt v1_rules v1_systemChanges c2 c3 c4 c5 c6 c7 c8 c9 c10) H → va_D A (wX5_bringUpToDate h0 h1 h2 h3 h4 h5 h6 h7 h8 h9 h10 kc2 kc3 kc4 kc5 kc6 kc7 kc8 kc9 kc10 V1 v0_solvedAt v1_rules v1_systemChanges c2 c3 c4 c5 c6 c7 c8 c9 c10) → va_S A s.heap H locs → lv_has ls 4 [(0, .ref h0), (1, .int y1), (2, .int y2), (3, .int y3)] → fX5_bringUpToDate_b91 v1_rules v1_systemChanges c4 c5 c6 c7 c8 c9 c10 k77 k91 y1 y2 y3 v0_solvedAt c2 c3 = some o → G 0 0 H locs (F0 m 91 ls []) := by
    intro k77 hk77 k91 hk91 y1 y2 y3 v0_solvedAt c2 c3 H locs ls hP hD hS hl hf
    refine (hG _ _ _ _ _).mpr ?_
    unfold fX5_bringUpToDate_b91 at hf
    refine lv_iload_n hx hb dX5_bringUpToDate_91 rfl (lv_at hl 3 rfl) ?_
    refine lv_aload_n hx hb dX5_bringUpToDate_92 rfl (lv_at hl 0 rfl) ?_
    refine va_get (D := (dC, dI)) (ci := 5) (v := .ref h1) (C := RX5) (T := TX5) (N := 4) hx hb hts inlX5 hown hK hP 0 rfl rfl 0 (by decide) w0_ (fun _ h9 => h9) rfl dX5_bringUpToDate_93 ?_
    refine va_get (D := (dC, dI)) (ci := 6) (v := .int v1_rules) (C := RX6) (T := TX6) (N := 14) hx hb hts inlX6 hown hK hP 1 rfl rfl 6 (by decide) w1_ (fun _ h9 => h9) rfl dX5_bringUpToDate_96 ?_
    refine lv_icmp_ge (tgt := 116) hx hb dX5_bringUpToDate_99 (by decide) (fun cq1 => ?_) (fun cq1 => ?_)
    · replace hf := if_at hf cq1
      obtain ⟨x2, e2⟩ : ∃ y : Int32, y = y2 + 1 := ⟨_, rfl⟩
      replace hf := nm_at hf e2
      refine lv_iinc (v := x2) (lv' := [(2, .int x2), (0, .ref h0), (1, .int y1), (3, .int y3)]) hx hb dX5_bringUpToDate_116 hl (k := 2) rfl (by rw [e2]; rfl) (by decide) rfl (fun ls hl => ?_)
      refine lv_goto (tgt := 77) hx hb dX5_bringUpToDate_119 (by decide) ?_
      exact (hG _ _ _ _ _).mp (hk77 y1 x2 v0_solvedAt c2 c3 H locs ls (hP.sub [0, 1, 2, 3, 4, 5, 6, 7, 8, 9, 10] rfl) (hD.sub [0, 1, 2, 3, 4, 5, 6, 7, 8, 9, 10] (by decide) rfl) hS (lv_sub hl [1, 2, 0] rfl) hf)
    · replace hf := if_no hf cq1
      refine lv_iload_n hx hb dX5_bringUpToDate_102 rfl (lv_at hl 1 rfl) ?_
      refine lv_aload_n hx hb dX5_bringUpToDate_103 rfl (lv_at hl 0 rfl) ?_
      refine lv_iload_n hx hb dX5_bringUpToDate_104 rfl (lv_at hl 3 rfl) ?_
      obtain ⟨o3, e3, hf⟩ := ob_some hf
      refine kVi (As := [.int y3]) (rest := [.int y1]) ⟨hx, hb, hml, hown, hts⟩ (mX5_useRule l dC dI h0 h1 h5 h3 h6 h2 h7 h8 h9 h10 kc5 kc3 kc6 kc2 kc7 kc8 kc9 kc10 H.size base y3 c5 c3 c6 c2 c7 c8 c9 c10 (fun k => match k with | 3 => .int v0_solvedAt | _ => .null) (fun k => match k with | 6 => .int v1_rules | 7 => .ref h4 | 11 => .int v1_systemChanges | k => V1 k) o3 e3) (cwV 1 hts (gTV q487 q488 q489 q460 q490) rfl rfl rfl (by decide +kernel) ⟨Nat.le_of_ble_eq_true rfl, Nat.le_of_ble_eq_true rfl⟩) hK hP hD hS hA hE hAB [0, 1, 5, 3, 6, 2, 7, 8, 9, 10] [4] [3, 1, 4, 0, 5, 6, 7, 8] (wr := [(h4, .inl (kc4, 192, .inl c4))]) rfl rfl (by decide) (by decide) (by decide) rfl (ci := 5) (q0 := 0) rfl rfl rfl rfl hl.1 rfl (Nat.le_of_ble_eq_true rfl) dX5_bringUpToDate_105 ⟨Nat.zero_le _, Nat.zero_le _⟩ (fun r3 u3 H locs hw3 hP hD hS => ?_)
      obtain ⟨hw31, hw32⟩ := hw3
      subst hw31 hw32
      have hP : va_P (dC, dI) vwCl (wX5_bringUpToDate h0 h1 h2 h3 h4 h5 h6 h7 h8 h9 h10 kc2 kc3 kc4 kc5 kc6 kc7 kc8 kc9 kc10 V1 v0_solvedAt v1_rules v1_systemChanges o3.2.2 o3.2.1 c4 c5 c6 c7 c8 c9 c10) H := hP.sub [1, 2, 6, 4, 0, 3, 5, 7, 8, 9, 10] rfl
      have hD : va_D A (wX5_bringUpToDate h0 h1 h2 h3 h4 h5 h6 h7 h8 h9 h10 kc2 kc3 kc4 kc5 kc6 kc7 kc8 kc9 kc10 V1 v0_solvedAt v1_rules v1_systemChanges o3.2.2 o3.2.1 c4 c5 c6 c7 c8 c9 c10) := hD.sub [1, 2, 6, 4, 0, 3, 5, 7, 8, 9, 10] (by decide) rfl
      refine lv_ior hx hb dX5_bringUpToDate_108 ?_
      refine lv_topi (fun x4 e4 => ?_)
      replace hf := nm_at hf e4
      refine lv_istore_n (lv' := [(1, .int x4), (0, .ref h0), (2, .int y2), (3, .int y3)]) hx hb dX5_bringUpToDate_109 rfl hl (by decide) rfl (fun ls hl => ?_)
      obtain ⟨x5, e5⟩ : ∃ y : Int32, y = y3 + 1 := ⟨_, rfl⟩
      replace hf := nm_at hf e5
      refine lv_iinc (v := x5) (lv' := [(3, .int x5), (1, .int x4), (0, .ref h0), (2, .int y2)]) hx hb dX5_bringUpToDate_110 hl (k := 3) rfl (by rw [e5]; rfl) (by decide) rfl (fun ls hl => ?_)
      refine lv_goto (tgt := 91) hx hb dX5_bringUpToDate_113 (by decide) ?_
      exact (hG _ _ _ _ _).mp (hk91 x4 y2 x5 v0_solvedAt o3.2.2 o3.2.1 H locs ls (hP.sub [0, 1, 2, 3, 4, 5, 6, 7, 8, 9, 10] rfl) (hD.sub [0, 1, 2, 3, 4, 5, 6, 7, 8, 9, 10] (by decide) rfl) hS (lv_sub hl [2, 1, 3, 0] rfl) hf)
  have L91 : ∀ (k77 : Int32 → Int32 → Int32 → (Nat → Int64) → (Nat → Int64) → Option (Int32 × (Nat → Int64) × (Nat → Int64))) (hk77 : ∀ (y1 : Int32) (y2 : Int32) (v0_solvedAt : Int32) (c2 : (Nat → Int64)) (c3 : (Nat → Int64)) (H : Heap) (locs : List Loc) (ls : Array Slot), va_P (dC, dI) vwCl (wX5_bringUpToDate h0 h1 h2 h3 h4 h5 h6 h7 h8 h9 h10 kc2 kc3 kc4 kc5 kc6 kc7 kc8 kc9 kc10 V1 v0_solvedAt v1_rules v1_systemChanges c2 c3 c4 c5 c6 c7 c8 c9 c10) H → va_D A (wX5_bringUpToDate h0 h1 h2 h3 h4 h5 h6 h7 h8 h9 h10 kc2 kc3 kc4 kc5 kc6 kc7 kc8 kc9 kc10 V1 v0_solvedAt v1_rules v1_systemChanges c2 c3 c4 c5 c6 c7 c8 c9 c10) → va_S A s.heap H locs → lv_has ls 4 [(0, .ref h0), (1, .int y1), (2, .int y2)] → k77 y1 y2 v0_solvedAt c2 c3 = some o → G 0 0 H locs (F0 m 77 ls [])) (n : Nat), ∀ (y1 : Int32) (y2 : Int32) (y3 : Int32) (v0_solvedAt : Int32) (c2 : (Nat → Int64)) (c3 : (Nat → Int64)) (H : Heap) (locs : List Loc) (ls : Array Slot), va_P (dC, dI) vwCl (wX5_bringUpToDate h0 h1 h2 h3 h4 h5 h6 h7 h8 h9 h10 kc2 kc3 kc4 kc5 kc6 kc7 kc8 kc9 kc10 V1 v0_solvedAt v1_rules v1_systemChanges c2 c3 c4 c5 c6 c7 c8 c9 c10) H → va_D A (wX5_bringUpToDate h0 h1 h2 h3 h4 h5 h6 h7 h8 h9 h10 kc2 kc3 kc4 kc5 kc6 kc7 kc8 kc9 kc10 V1 v0_solvedAt v1_rules v1_systemChanges c2 c3 c4 c5 c6 c7 c8 c9 c10) → va_S A s.heap H locs → lv_has ls 4 [(0, .ref h0), (1, .int y1), (2, .int y2), (3, .int y3)] → fX5_bringUpToDate_l91 v1_rules v1_systemChanges c4 c5 c6 c7 c8 c9 c10 k77 n y1 y2 y3 v0_solvedAt c2 c3 = some o → G 0 0 H locs (F0 m 91 ls []) := by
    intro k77 hk77 n
    induction n with
    | zero => intro y1 y2 y3 v0_solvedAt c2 c3 H locs ls _ _ _ _ hf; cases hf
    | succ n ih => exact B91 k77 hk77 _ ih
  have B77 : ∀ (k77 : Int32 → Int32 → Int32 → (Nat → Int64) → (Nat → Int64) → Option (Int32 × (Nat → Int64) × (Nat → Int64))) (hk77 : ∀ (y1 : Int32) (y2 : Int32) (v0_solvedAt : Int32) (c2 : (Nat → Int64)) (c3 : (Nat → Int64)) (H : Heap) (locs : List Loc) (ls : Array Slot), va_P (dC, dI) vwCl (wX5_bringUpToDate h0 h1 h2 h3 h4 h5 h6 h7 h8 h9 h10 kc2 kc3 kc4 kc5 kc6 kc7 kc8 kc9 kc10 V1 v0_solvedAt v1_rules v1_systemChanges c2 c3 c4 c5 c6 c7 c8 c9 c10) H → va_D A (wX5_bringUpToDate h0 h1 h2 h3 h4 h5 h6 h7 h8 h9 h10 kc2 kc3 kc4 kc5 kc6 kc7 kc8 kc9 kc10 V1 v0_solvedAt v1_rules v1_systemChanges c2 c3 c4 c5 c6 c7 c8 c9 c10) → va_S A s.heap H locs → lv_has ls 4 [(0, .ref h0), (1, .int y1), (2, .int y2)] → k77 y1 y2 v0_solvedAt c2 c3 = some o → G 0 0 H locs (F0 m 77 ls [])), ∀ (y1 : Int32) (y2 : Int32) (v0_solvedAt : Int32) (c2 : (Nat → Int64)) (c3 : (Nat → Int64)) (H : Heap) (locs : List Loc) (ls : Array Slot), va_P (dC, dI) vwCl (wX5_bringUpToDate h0 h1 h2 h3 h4 h5 h6 h7 h8 h9 h10 kc2 kc3 kc4 kc5 kc6 kc7 kc8 kc9 kc10 V1 v0_solvedAt v1_rules v1_systemChanges c2 c3 c4 c5 c6 c7 c8 c9 c10) H → va_D A (wX5_bringUpToDate h0 h1 h2 h3 h4 h5 h6 h7 h8 h9 h10 kc2 kc3 kc4 kc5 kc6 kc7 kc8 kc9 kc10 V1 v0_solvedAt v1_rules v1_systemChanges c2 c3 c4 c5 c6 c7 c8 c9 c10) → va_S A s.heap H locs → lv_has ls 4 [(0, .ref h0), (1, .int y1), (2, .int y2)] → fX5_bringUpToDate_b77 v1_rules v1_systemChanges c4 c5 c6 c7 c8 c9 c10  k77 y1 y2 v0_solvedAt c2 c3 = some o → G 0 0 H locs (F0 m 77 ls []) := by
    intro  k77 hk77 y1 y2 v0_solvedAt c2 c3 H locs ls hP hD hS hl hf
    refine (hG _ _ _ _ _).mpr ?_
    unfold fX5_bringUpToDate_b77 at hf
    refine lv_iload_n hx hb dX5_bringUpToDate_77 rfl (lv_at hl 2 rfl) ?_
    refine lv_ldc (v := 1000000) hx hb hown w2_ dX5_bringUpToDate_78 ?_
    refine lv_icmp_ge (tgt := 122) hx hb dX5_bringUpToDate_80 (by decide) (fun cq6 => ?_) (fun cq6 => ?_)
    · replace hf := if_at hf cq6
      exact (hG _ _ _ _ _).mp (J122 v0_solvedAt c2 c3 H locs ls (hP.sub [0, 1, 2, 3, 4, 5, 6, 7, 8, 9, 10] rfl) (hD.sub [0, 1, 2, 3, 4, 5, 6, 7, 8, 9, 10] (by decide) rfl) hS (lv_sub hl [0] rfl) hf)
    · replace hf := if_no hf cq6
      refine lv_iload_n hx hb dX5_bringUpToDate_83 rfl (lv_at hl 1 rfl) ?_
      refine lv_if_eq (tgt := 122) hx hb dX5_bringUpToDate_84 (by decide) (fun cq7 => ?_) (fun cq7 => ?_)
      · replace hf := if_at hf cq7
        exact (hG _ _ _ _ _).mp (J122 v0_solvedAt c2 c3 H locs ls (hP.sub [0, 1, 2, 3, 4, 5, 6, 7, 8, 9, 10] rfl) (hD.sub [0, 1, 2, 3, 4, 5, 6, 7, 8, 9, 10] (by decide) rfl) hS (lv_sub hl [0] rfl) hf)
      · replace hf := if_no hf cq7
        refine lv_iconst (v := 0) hx hb dX5_bringUpToDate_87 (by decide +kernel) ?_
        refine lv_istore_n (lv' := [(1, .int 0), (0, .ref h0), (2, .int y2)]) hx hb dX5_bringUpToDate_88 rfl hl (by decide) rfl (fun ls hl => ?_)
        refine lv_iconst (v := 0) hx hb dX5_bringUpToDate_89 (by decide +kernel) ?_
        refine lv_istore_n (lv' := [(3, .int 0), (1, .int 0), (0, .ref h0), (2, .int y2)]) hx hb dX5_bringUpToDate_90 rfl hl (by decide) rfl (fun ls hl => ?_)
        exact (hG _ _ _ _ _).mp (L91 k77 hk77 FU 0 y2 0 v0_solvedAt c2 c3 H locs ls (hP.sub [0, 1, 2, 3, 4, 5, 6, 7, 8, 9, 10] rfl) (hD.sub [0, 1, 2, 3, 4, 5, 6, 7, 8, 9, 10] (by decide) rfl) hS (lv_sub hl [2, 1, 3, 0] rfl) hf)
  have L77 : ∀ (n : Nat), ∀ (y1 : Int32) (y2 : Int32) (v0_solvedAt : Int32) (c2 : (Nat → Int64)) (c3 : (Nat → Int64)) (H : Heap) (locs : List Loc) (ls : Array Slot), va_P (dC, dI) vwCl (wX5_bringUpToDate h0 h1 h2 h3 h4 h5 h6 h7 h8 h9 h10 kc2 kc3 kc4 kc5 kc6 kc7 kc8 kc9 kc10 V1 v0_solvedAt v1_rules v1_systemChanges c2 c3 c4 c5 c6 c7 c8 c9 c10) H → va_D A (wX5_bringUpToDate h0 h1 h2 h3 h4 h5 h6 h7 h8 h9 h10 kc2 kc3 kc4 kc5 kc6 kc7 kc8 kc9 kc10 V1 v0_solvedAt v1_rules v1_systemChanges c2 c3 c4 c5 c6 c7 c8 c9 c10) → va_S A s.heap H locs → lv_has ls 4 [(0, .ref h0), (1, .int y1), (2, .int y2)] → fX5_bringUpToDate_l77 v1_rules v1_systemChanges c4 c5 c6 c7 c8 c9 c10  n y1 y2 v0_solvedAt c2 c3 = some o → G 0 0 H locs (F0 m 77 ls []) := by
    intro  n
    induction n with
    | zero => intro y1 y2 v0_solvedAt c2 c3 H locs ls _ _ _ _ hf; cases hf
    | succ n ih => exact B77  _ ih
  have B44 : ∀ (k44 : Int32 → Int32 → (Nat → Int64) → (Nat → Int64) → Option (Int32 × (Nat → Int64) × (Nat → Int64))) (hk44 : ∀ (y1 : Int32) (v0_solvedAt : Int32) (c2 : (Nat → Int64)) (c3 : (Nat → Int64)) (H : Heap) (locs : List Loc) (ls : Array Slot), va_P (dC, dI) vwCl (wX5_bringUpToDate h0 h1 h2 h3 h4 h5 h6 h7 h8 h9 h10 kc2 kc3 kc4 kc5 kc6 kc7 kc8 kc9 kc10 V1 v0_solvedAt v1_rules v1_systemChanges c2 c3 c4 c5 c6 c7 c8 c9 c10) H → va_D A (wX5_bringUpToDate h0 h1 h2 h3 h4 h5 h6 h7 h8 h9 h10 kc2 kc3 kc4 kc5 kc6 kc7 kc8 kc9 kc10 V1 v0_solvedAt v1_rules v1_systemChanges c2 c3 c4 c5 c6 c7 c8 c9 c10) → va_S A s.heap H locs → lv_has ls 4 [(0, .ref h0), (1, .int y1)] → k44 y1 v0_solvedAt c2 c3 = some o → G 0 0 H locs (F0 m 44 ls [])), ∀ (y1 : Int32) (v0_solvedAt : Int32) (c2 : (Nat → Int64)) (c3 : (Nat → Int64)) (H : Heap) (locs : List Loc) (ls : Array Slot), va_P (dC, dI) vwCl (wX5_bringUpToDate h0 h1 h2 h3 h4 h5 h6 h7 h8 h9 h10 kc2 kc3 kc4 kc5 kc6 kc7 kc8 kc9 kc10 V1 v0_solvedAt v1_rules v1_systemChanges c2 c3 c4 c5 c6 c7 c8 c9 c10) H → va_D A (wX5_bringUpToDate h0 h1 h2 h3 h4 h5 h6 h7 h8 h9 h10 kc2 kc3 kc4 kc5 kc6 kc7 kc8 kc9 kc10 V1 v0_solvedAt v1_rules v1_systemChanges c2 c3 c4 c5 c6 c7 c8 c9 c10) → va_S A s.heap H locs → lv_has ls 4 [(0, .ref h0), (1, .int y1)] → fX5_bringUpToDate_b44 v1_rules v1_systemChanges c4 c5 c6 c7 c8 c9 c10  k44 y1 v0_solvedAt c2 c3 = some o → G 0 0 H locs (F0 m 44 ls []) := by
    intro  k44 hk44 y1 v0_solvedAt c2 c3 H locs ls hP hD hS hl hf
    refine (hG _ _ _ _ _).mpr ?_
    unfold fX5_bringUpToDate_b44 at hf
    refine lv_iload_n hx hb dX5_bringUpToDate_44 rfl (lv_at hl 1 rfl) ?_
    refine lv_sipush (v := 192) hx hb dX5_bringUpToDate_45 (by decide +kernel) ?_
    refine lv_icmp_ge (tgt := 73) hx hb dX5_bringUpToDate_48 (by decide) (fun cq8 => ?_) (fun cq8 => ?_)
    · replace hf := if_at hf cq8
      refine lv_iconst (v := 1) hx hb dX5_bringUpToDate_73 (by decide +kernel) ?_
      refine lv_istore_n (lv' := [(1, .int 1), (0, .ref h0)]) hx hb dX5_bringUpToDate_74 rfl hl (by decide) rfl (fun ls hl => ?_)
      refine lv_iconst (v := 0) hx hb dX5_bringUpToDate_75 (by decide +kernel) ?_
      refine lv_istore_n (lv' := [(2, .int 0), (1, .int 1), (0, .ref h0)]) hx hb dX5_bringUpToDate_76 rfl hl (by decide) rfl (fun ls hl => ?_)
      exact (hG _ _ _ _ _).mp (L77 FU 1 0 v0_solvedAt c2 c3 H locs ls (hP.sub [0, 1, 2, 3, 4, 5, 6, 7, 8, 9, 10] rfl) (hD.sub [0, 1, 2, 3, 4, 5, 6, 7, 8, 9, 10] (by decide) rfl) hS (lv_sub hl [2, 1, 0] rfl) hf)
    · replace hf := if_no hf cq8
      refine lv_aload_n hx hb dX5_bringUpToDate_51 rfl (lv_at hl 0 rfl) ?_
      refine va_get (D := (dC, dI)) (ci := 5) (v := .ref h2) (C := RX5) (T := TX5) (N := 4) hx hb hts inlX5 hown hK hP 0 rfl rfl 1 (by decide) w3_ (fun _ h9 => h9) rfl dX5_bringUpToDate_52 ?_
      refine lv_iload_n hx hb dX5_bringUpToDate_55 rfl (lv_at hl 1 rfl) ?_
      refine lv_aload_n hx hb dX5_bringUpToDate_56 rfl (lv_at hl 0 rfl) ?_
      refine va_get (D := (dC, dI)) (ci := 5) (v := .ref h1) (C := RX5) (T := TX5) (N := 4) hx hb hts inlX5 hown hK hP 0 rfl rfl 0 (by decide) w0_ (fun _ h9 => h9) rfl dX5_bringUpToDate_57 ?_
      refine va_get (D := (dC, dI)) (ci := 6) (v := .ref h4) (C := RX6) (T := TX6) (N := 14) hx hb hts inlX6 hown hK hP 1 rfl rfl 7 (by decide) w4_ (fun _ h9 => h9) rfl dX5_bringUpToDate_60 ?_
      refine lv_iload_n hx hb dX5_bringUpToDate_63 rfl (lv_at hl 1 rfl) ?_
      have b9 := bd_in hf
      replace hf := bd_k hf
      refine va_iald hx hb hK hP 4 2 rfl rfl b9 dX5_bringUpToDate_64 ?_
      refine lv_topi (fun x10 e10 => ?_)
      replace hf := nm_at hf e10
      refine lv_i2l hx hb dX5_bringUpToDate_65 rfl ?_
      refine lv_topl (fun x11 e11 => ?_)
      replace hf := nm_at hf e11
      have b12 := bd_in hf
      replace hf := bd_k hf
      obtain ⟨c12x, e12⟩ : ∃ y, y = vp_updL c2 y1.toNatClampNeg x11 := ⟨_, rfl⟩
      replace hf := nm_at hf e12
      refine va_last hx hb hK hP hD hS 2 0 rfl rfl b12 dX5_bringUpToDate_66 (fun H locs hP hD hS => ?_)
      have hP : va_P (dC, dI) vwCl (wX5_bringUpToDate h0 h1 h2 h3 h4 h5 h6 h7 h8 h9 h10 kc2 kc3 kc4 kc5 kc6 kc7 kc8 kc9 kc10 V1 v0_solvedAt v1_rules v1_systemChanges c12x c3 c4 c5 c6 c7 c8 c9 c10) H := by rw [e12]; exact hP
      have hD : va_D A (wX5_bringUpToDate h0 h1 h2 h3 h4 h5 h6 h7 h8 h9 h10 kc2 kc3 kc4 kc5 kc6 kc7 kc8 kc9 kc10 V1 v0_solvedAt v1_rules v1_systemChanges c12x c3 c4 c5 c6 c7 c8 c9 c10) := by rw [e12]; exact hD
      obtain ⟨x13, e13⟩ : ∃ y : Int32, y = y1 + 1 := ⟨_, rfl⟩
      replace hf := nm_at hf e13
      refine lv_iinc (v := x13) (lv' := [(1, .int x13), (0, .ref h0)]) hx hb dX5_bringUpToDate_67 hl (k := 1) rfl (by rw [e13]; rfl) (by decide) rfl (fun ls hl => ?_)
      refine lv_goto (tgt := 44) hx hb dX5_bringUpToDate_70 (by decide) ?_
      exact (hG _ _ _ _ _).mp (hk44 x13 v0_solvedAt c12x c3 H locs ls (hP.sub [0, 1, 2, 3, 4, 5, 6, 7, 8, 9, 10] rfl) (hD.sub [0, 1, 2, 3, 4, 5, 6, 7, 8, 9, 10] (by decide) rfl) hS (lv_sub hl [1, 0] rfl) hf)
  have L44 : ∀ (n : Nat), ∀ (y1 : Int32) (v0_solvedAt : Int32) (c2 : (Nat → Int64)) (c3 : (Nat → Int64)) (H : Heap) (locs : List Loc) (ls : Array Slot), va_P (dC, dI) vwCl (wX5_bringUpToDate h0 h1 h2 h3 h4 h5 h6 h7 h8 h9 h10 kc2 kc3 kc4 kc5 kc6 kc7 kc8 kc9 kc10 V1 v0_solvedAt v1_rules v1_systemChanges c2 c3 c4 c5 c6 c7 c8 c9 c10) H → va_D A (wX5_bringUpToDate h0 h1 h2 h3 h4 h5 h6 h7 h8 h9 h10 kc2 kc3 kc4 kc5 kc6 kc7 kc8 kc9 kc10 V1 v0_solvedAt v1_rules v1_systemChanges c2 c3 c4 c5 c6 c7 c8 c9 c10) → va_S A s.heap H locs → lv_has ls 4 [(0, .ref h0), (1, .int y1)] → fX5_bringUpToDate_l44 v1_rules v1_systemChanges c4 c5 c6 c7 c8 c9 c10  n y1 v0_solvedAt c2 c3 = some o → G 0 0 H locs (F0 m 44 ls []) := by
    intro  n
    induction n with
    | zero => intro y1 v0_solvedAt c2 c3 H locs ls _ _ _ _ hf; cases hf
    | succ n ih => exact B44  _ ih
  refine (hG _ _ _ _ _).mpr ?_
  obtain ⟨H, hH⟩ : ∃ H, H = s.heap := ⟨_, rfl⟩
  have hS : va_S A s.heap H [] := by rw [hH]; exact hS
  rw [← hH] at hP ⊢
  generalize ([] : List Loc) = locs at hS ⊢
  unfold fX5_bringUpToDate at hf
  refine lv_aload_n hx hb dX5_bringUpToDate_0 rfl (lv_at hl 0 rfl) ?_
  refine va_get (D := (dC, dI)) (ci := 5) (v := .int v0_solvedAt) (C := RX5) (T := TX5) (N := 4) hx hb hts inlX5 hown hK hP 0 rfl rfl 3 (by decide) w5_ (fun _ h9 => h9) rfl dX5_bringUpToDate_1 ?_
  refine lv_aload_n hx hb dX5_bringUpToDate_4 rfl (lv_at hl 0 rfl) ?_
  refine va_get (D := (dC, dI)) (ci := 5) (v := .ref h1) (C := RX5) (T := TX5) (N := 4) hx hb hts inlX5 hown hK hP 0 rfl rfl 0 (by decide) w0_ (fun _ h9 => h9) rfl dX5_bringUpToDate_5 ?_
  refine va_get (D := (dC, dI)) (ci := 6) (v := .int v1_systemChanges) (C := RX6) (T := TX6) (N := 14) hx hb hts inlX6 hown hK hP 1 rfl rfl 11 (by decide) w6_ (fun _ h9 => h9) rfl dX5_bringUpToDate_8 ?_
  refine lv_icmp_ne (tgt := 15) hx hb dX5_bringUpToDate_11 (by decide) (fun cq14 => ?_) (fun cq14 => ?_)
  · replace hf := if_no hf cq14
    refine lv_aload_n hx hb dX5_bringUpToDate_15 rfl (lv_at hl 0 rfl) ?_
    refine lv_aload_n hx hb dX5_bringUpToDate_16 rfl (lv_at hl 0 rfl) ?_
    refine va_get (D := (dC, dI)) (ci := 5) (v := .ref h1) (C := RX5) (T := TX5) (N := 4) hx hb hts inlX5 hown hK hP 0 rfl rfl 0 (by decide) w0_ (fun _ h9 => h9) rfl dX5_bringUpToDate_17 ?_
    refine va_get (D := (dC, dI)) (ci := 6) (v := .int v1_systemChanges) (C := RX6) (T := TX6) (N := 14) hx hb hts inlX6 hown hK hP 1 rfl rfl 11 (by decide) w6_ (fun _ h9 => h9) rfl dX5_bringUpToDate_20 ?_
    refine va_put (D := (dC, dI)) (ci := 5) (v := .int v1_systemChanges) (ty := .int) (C := RX5) (T := TX5) (N := 4) hx hb hts inlX5 tyX5 tyX5_ok nmX5 hown hK hP hD hS 0 rfl rfl 3 (by decide) w5_ (fun _ h9 => h9) rfl (by decide +kernel) rfl rfl (Nat.le_of_ble_eq_true rfl) dX5_bringUpToDate_23 (fun H locs hP hD hS => ?_)
    have hP : va_P (dC, dI) vwCl (wX5_bringUpToDate h0 h1 h2 h3 h4 h5 h6 h7 h8 h9 h10 kc2 kc3 kc4 kc5 kc6 kc7 kc8 kc9 kc10 V1 v1_systemChanges v1_rules v1_systemChanges c2 c3 c4 c5 c6 c7 c8 c9 c10) H := hP
    have hD : va_D A (wX5_bringUpToDate h0 h1 h2 h3 h4 h5 h6 h7 h8 h9 h10 kc2 kc3 kc4 kc5 kc6 kc7 kc8 kc9 kc10 V1 v1_systemChanges v1_rules v1_systemChanges c2 c3 c4 c5 c6 c7 c8 c9 c10) := hD
    refine lv_aload_n hx hb dX5_bringUpToDate_26 rfl (lv_at hl 0 rfl) ?_
    refine va_get (D := (dC, dI)) (ci := 5) (v := .ref h2) (C := RX5) (T := TX5) (N := 4) hx hb hts inlX5 hown hK hP 0 rfl rfl 1 (by decide) w3_ (fun _ h9 => h9) rfl dX5_bringUpToDate_27 ?_
    refine lv_lconst (v := 0) hx hb dX5_bringUpToDate_30 (by decide) ?_
    obtain ⟨o15, e15, hf⟩ := ob_some hf
    refine kSv (As := [.ref h2, .long 0]) (rest := []) ⟨hx, hb, hml, hown, hts⟩ (mJ7_fill_d0a16 l dC dI h2 kc2 H.size base 0 768 c2 o15 e15) (va_cwS 2 hts (gTS q484 q485 q196 q486) rfl rfl rfl (by decide +kernel) ⟨Nat.le_of_ble_eq_true rfl, Nat.le_of_ble_eq_true rfl⟩) hK hP hD hS hA hE hAB [2] [0, 1, 3, 4, 5, 6, 7, 8, 9, 10] [0] (wr := [(h0, .inr (5, [.ref h1, .ref h2, .ref h3, .int v1_systemChanges])), (h1, .inr (6, [.ref h5, .ref h6, .ref h7, .ref h8, .ref h9, .ref h10, .int v1_rules, .ref h4, V1 8, V1 9, V1 10, .int v1_systemChanges, V1 12, V1 13])), (h3, .inl (kc3, 8, .inr (.inl c3))), (h4, .inl (kc4, 192, .inl c4)), (h5, .inl (kc5, 48, .inl c5)), (h6, .inl (kc6, 48, .inl c6)), (h7, .inl (kc7, 48, .inl c7)), (h8, .inl (kc8, 48, .inl c8)), (h9, .inl (kc9, 48, .inl c9)), (h10, .inl (kc10, 48, .inl c10))]) rfl rfl (by decide) (by decide) (by decide) rfl rfl hl.1 rfl (Nat.le_of_ble_eq_true rfl) dX5_bringUpToDate_31 ⟨Nat.zero_le _, Nat.zero_le _⟩ (fun u15 H locs hw15 hP hD hS => ?_)
    have hw151 : o15 = u15 := Eq.symm hw15
    subst hw151
    have hP : va_P (dC, dI) vwCl (wX5_bringUpToDate h0 h1 h2 h3 h4 h5 h6 h7 h8 h9 h10 kc2 kc3 kc4 kc5 kc6 kc7 kc8 kc9 kc10 V1 v1_systemChanges v1_rules v1_systemChanges o15 c3 c4 c5 c6 c7 c8 c9 c10) H := hP.sub [0, 1, 10, 2, 3, 4, 5, 6, 7, 8, 9] rfl
    have hD : va_D A (wX5_bringUpToDate h0 h1 h2 h3 h4 h5 h6 h7 h8 h9 h10 kc2 kc3 kc4 kc5 kc6 kc7 kc8 kc9 kc10 V1 v1_systemChanges v1_rules v1_systemChanges o15 c3 c4 c5 c6 c7 c8 c9 c10) := hD.sub [0, 1, 10, 2, 3, 4, 5, 6, 7, 8, 9] (by decide) rfl
    refine lv_aload_n hx hb dX5_bringUpToDate_34 rfl (lv_at hl 0 rfl) ?_
    refine va_get (D := (dC, dI)) (ci := 5) (v := .ref h3) (C := RX5) (T := TX5) (N := 4) hx hb hts inlX5 hown hK hP 0 rfl rfl 2 (by decide) w7_ (fun _ h9 => h9) rfl dX5_bringUpToDate_35 ?_
    refine lv_lconst (v := 0) hx hb dX5_bringUpToDate_38 (by decide) ?_
    obtain ⟨o16, e16, hf⟩ := ob_some hf
    refine kSv (As := [.ref h3, .long 0]) (rest := []) ⟨hx, hb, hml, hown, hts⟩ (mJ7_fill_d0a16 l dC dI h3 kc3 H.size base 0 8 c3 o16 e16) (va_cwS 2 hts (gTS q484 q485 q196 q486) rfl rfl rfl (by decide +kernel) ⟨Nat.le_of_ble_eq_true rfl, Nat.le_of_ble_eq_true rfl⟩) hK hP hD hS hA hE hAB [3] [0, 1, 2, 4, 5, 6, 7, 8, 9, 10] [1] (wr := [(h0, .inr (5, [.ref h1, .ref h2, .ref h3, .int v1_systemChanges])), (h1, .inr (6, [.ref h5, .ref h6, .ref h7, .ref h8, .ref h9, .ref h10, .int v1_rules, .ref h4, V1 8, V1 9, V1 10, .int v1_systemChanges, V1 12, V1 13])), (h2, .inl (kc2, 768, .inr (.inl o15))), (h4, .inl (kc4, 192, .inl c4)), (h5, .inl (kc5, 48, .inl c5)), (h6, .inl (kc6, 48, .inl c6)), (h7, .inl (kc7, 48, .inl c7)), (h8, .inl (kc8, 48, .inl c8)), (h9, .inl (kc9, 48, .inl c9)), (h10, .inl (kc10, 48, .inl c10))]) rfl rfl (by decide) (by decide) (by decide) rfl rfl hl.1 rfl (Nat.le_of_ble_eq_true rfl) dX5_bringUpToDate_39 ⟨Nat.zero_le _, Nat.zero_le _⟩ (fun u16 H locs hw16 hP hD hS => ?_)
    have hw161 : o16 = u16 := Eq.symm hw16
    subst hw161
    have hP : va_P (dC, dI) vwCl (wX5_bringUpToDate h0 h1 h2 h3 h4 h5 h6 h7 h8 h9 h10 kc2 kc3 kc4 kc5 kc6 kc7 kc8 kc9 kc10 V1 v1_systemChanges v1_rules v1_systemChanges o15 o16 c4 c5 c6 c7 c8 c9 c10) H := hP.sub [0, 1, 2, 10, 3, 4, 5, 6, 7, 8, 9] rfl
    have hD : va_D A (wX5_bringUpToDate h0 h1 h2 h3 h4 h5 h6 h7 h8 h9 h10 kc2 kc3 kc4 kc5 kc6 kc7 kc8 kc9 kc10 V1 v1_systemChanges v1_rules v1_systemChanges o15 o16 c4 c5 c6 c7 c8 c9 c10) := hD.sub [0, 1, 2, 10, 3, 4, 5, 6, 7, 8, 9] (by decide) rfl
    refine lv_iconst (v := 0) hx hb dX5_bringUpToDate_42 (by decide +kernel) ?_
    refine lv_istore_n (lv' := [(1, .int 0), (0, .ref h0)]) hx hb dX5_bringUpToDate_43 rfl hl (by decide) rfl (fun ls hl => ?_)
    exact (hG _ _ _ _ _).mp (L44 FU 0 v1_systemChanges o15 o16 H locs ls (hP.sub [0, 1, 2, 3, 4, 5, 6, 7, 8, 9, 10] rfl) (hD.sub [0, 1, 2, 3, 4, 5, 6, 7, 8, 9, 10] (by decide) rfl) hS (lv_sub hl [1, 0] rfl) hf)
  · replace hf := if_at hf cq14
    have hf1 := Option.some.inj hf
    subst hf1
    have hP9 := hP.sub (ws' := (wX5_bringUpToDate h0 h1 h2 h3 h4 h5 h6 h7 h8 h9 h10 kc2 kc3 kc4 kc5 kc6 kc7 kc8 kc9 kc10 V1 v0_solvedAt v1_rules v1_systemChanges c2 c3 c4 c5 c6 c7 c8 c9 c10)) [0, 1, 2, 3, 4, 5, 6, 7, 8, 9, 10] rfl
    have hD9 := hD.sub (ws' := (wX5_bringUpToDate h0 h1 h2 h3 h4 h5 h6 h7 h8 h9 h10 kc2 kc3 kc4 kc5 kc6 kc7 kc8 kc9 kc10 V1 v0_solvedAt v1_rules v1_systemChanges c2 c3 c4 c5 c6 c7 c8 c9 c10)) [0, 1, 2, 3, 4, 5, 6, 7, 8, 9, 10] (by decide) rfl
    exact W.vret hx hb hr (fun t ht hW => ⟨⟨(v0_solvedAt, c2, c3), rfl, rfl, by rw [ht]; exact hP9, va_K.moved hW.alike hK, hD9⟩, hS.F ht⟩) hS.2.2 dX5_bringUpToDate_14
abbrev wX5_holdsWord (h0 h1 h2 h3 h4 h5 h6 h7 h8 h9 h10 h11 : Nat) (kc2 kc3 kc4 kc5 kc6 kc7 kc8 kc9 kc10 kc11 : ClassId) (V1 : Nat → Value) (v0_solvedAt : Int32) (v1_rules : Int32) (v1_ends : Int32) (v1_height : Int32) (v1_systemChanges : Int32) (c2 : Nat → Int64) (c3 : Nat → Int64) (c4 : Nat → Int32) (c5 : Nat → Int32) (c6 : Nat → Int32) (c7 : Nat → Int32) (c8 : Nat → Int32) (c9 : Nat → Int32) (c10 : Nat → Int32) (c11 : Nat → Int32) : va_W := [(h0, .inr (5, [.ref h1, .ref h2, .ref h3, .int v0_solvedAt])), (h1, .inr (6, [.ref h5, .ref h6, .ref h7, .ref h8, .ref h9, .ref h10, .int v1_rules, .ref h4, .int v1_ends, .ref h11, .int v1_height, .int v1_systemChanges, V1 12, V1 13])), (h2, .inl (kc2, 768, .inr (.inl c2))), (h3, .inl (kc3, 8, .inr (.inl c3))), (h4, .inl (kc4, 192, .inl c4)), (h5, .inl (kc5, 48, .inl c5)), (h6, .inl (kc6, 48, .inl c6)), (h7, .inl (kc7, 48, .inl c7)), (h8, .inl (kc8, 48, .inl c8)), (h9, .inl (kc9, 48, .inl c9)), (h10, .inl (kc10, 48, .inl c10)), (h11, .inl (kc11, 30, .inl c11))]
set_option maxHeartbeats 4000000 in
set_option maxRecDepth 100000 in
theorem mX5_holdsWord (l : Launch) (dC : Nat → ClassId) (dI : Nat → Nat → Nat) (h0 h1 h2 h3 h4 h5 h6 h7 h8 h9 h10 h11 : Nat) (kc2 kc3 kc4 kc5 kc6 kc7 kc8 kc9 kc10 kc11 : ClassId) (sz : Nat) (base : Nat × Nat × Nat) (a0 : Int32) (v0_solvedAt : Int32) (v1_rules : Int32) (v1_ends : Int32) (v1_height : Int32) (v1_systemChanges : Int32) (c2 : Nat → Int64) (c3 : Nat → Int64) (c4 : Nat → Int32) (c5 : Nat → Int32) (c6 : Nat → Int32) (c7 : Nat → Int32) (c8 : Nat → Int32) (c9 : Nat → Int32) (c10 : Nat → Int32) (c11 : Nat → Int32) (V1 : Nat → Value) (o : Int32 × Int32 × (Nat → Int64) × (Nat → Int64)) (hf : fX5_holdsWord a0 v0_solvedAt v1_rules v1_ends v1_height v1_systemChanges c2 c3 c4 c5 c6 c7 c8 c9 c10 c11 = some o) : Met l yX5_holdsWord (.code yX5_holdsWord cX5_holdsWord 5 (some .boolean) :: wsL_law) ({ frames := 3, cells := 0, slots := 0, locals := 77 }) (cPre (dC, dI) vwCl [.ref h0, .int a0] sz base (wX5_holdsWord h0 h1 h2 h3 h4 h5 h6 h7 h8 h9 h10 h11 kc2 kc3 kc4 kc5 kc6 kc7 kc8 kc9 kc10 kc11 V1 v0_solvedAt v1_rules v1_ends v1_height v1_systemChanges c2 c3 c4 c5 c6 c7 c8 c9 c10 c11) [(kc2, .long), (kc3, .long), (kc4, .int), (kc5, .int), (kc6, .int), (kc7, .int), (kc8, .int), (kc9, .int), (kc10, .int), (kc11, .int)]) (va_Qi (fun r u => r = o.1 ∧ u = o.2) (fun (u : Int32 × (Nat → Int64) × (Nat → Int64)) t => cPost (dC, dI) vwCl (va_A (wX5_holdsWord h0 h1 h2 h3 h4 h5 h6 h7 h8 h9 h10 h11 kc2 kc3 kc4 kc5 kc6 kc7 kc8 kc9 kc10 kc11 V1 v0_solvedAt v1_rules v1_ends v1_height v1_systemChanges c2 c3 c4 c5 c6 c7 c8 c9 c10 c11) sz) (wX5_holdsWord h0 h1 h2 h3 h4 h5 h6 h7 h8 h9 h10 h11 kc2 kc3 kc4 kc5 kc6 kc7 kc8 kc9 kc10 kc11 V1 u.1 v1_rules v1_ends v1_height v1_systemChanges u.2.1 u.2.2 c4 c5 c6 c7 c8 c9 c10 c11) [(kc2, .long), (kc3, .long), (kc4, .int), (kc5, .int), (kc6, .int), (kc7, .int), (kc8, .int), (kc9, .int), (kc10, .int), (kc11, .int)] t) (va_A (wX5_holdsWord h0 h1 h2 h3 h4 h5 h6 h7 h8 h9 h10 h11 kc2 kc3 kc4 kc5 kc6 kc7 kc8 kc9 kc10 kc11 V1 v0_solvedAt v1_rules v1_ends v1_height v1_systemChanges c2 c3 c4 c5 c6 c7 c8 c9 c10 c11) sz)) 0 0 (va_A (wX5_holdsWord h0 h1 h2 h3 h4 h5 h6 h7 h8 h9 h10 h11 kc2 kc3 kc4 kc5 kc6 kc7 kc8 kc9 kc10 kc11 V1 v0_solvedAt v1_rules v1_ends v1_height v1_systemChanges c2 c3 c4 c5 c6 c7 c8 c9 c10 c11) sz) := by
  refine Met.ofW (cc := cX5_holdsWord) (maxL := 5) (ret := (some .boolean)) (by decide) rfl ?_
  intro p e s m args below meth c s₁ B hml hv
  obtain ⟨rfl, hsz, hP, hK, hD0, hE⟩ := hv
  have hx := B.exec
  have hb := B.bytes
  have hr := B.returns
  have hts : ∀ w ∈ wsL_law, _ := fun w h => atoms_spec (ws := .code yX5_holdsWord cX5_holdsWord 5 (some .boolean) :: wsL_law) B.pre w (List.mem_cons_of_mem _ h)
  have hown : s.vm.findClass RX5 = some m.cls := findClass_of_methodNamed B.named
  have hlocks := B.notSynchronized
  have w0_ := hts _ q468
  have w1_ := hts _ q475
  have w2_ := hts _ q474
  have w3_ := hts _ q466
  have w4_ := hts _ q473
  subst hsz
  have hD := hD0.self (sz := s.heap.size)
  generalize hAe : va_A (wX5_holdsWord h0 h1 h2 h3 h4 h5 h6 h7 h8 h9 h10 h11 kc2 kc3 kc4 kc5 kc6 kc7 kc8 kc9 kc10 kc11 V1 v0_solvedAt v1_rules v1_ends v1_height v1_systemChanges c2 c3 c4 c5 c6 c7 c8 c9 c10 c11) s.heap.size = A at hD ⊢
  have hA : ∀ q : Nat, s.heap.size ≤ q → A q := fun q h => by rw [← hAe]; exact Or.inr h
  have hAB : ∀ q : Nat, A q → base.1 ≤ q := fun q h => by rw [← hAe] at h; exact h.elim (fun ⟨k, e, hk⟩ => hD0.2 k _ hk) (fun hk => Nat.le_trans hE.1 hk)
  have hS : va_S A s.heap s.heap [] := va_S.rf
  have hl := lv_entry ([.ref h0, .int a0]) (n := 5) (Nat.le_of_ble_eq_true rfl)
  rw [lg_entry_eq]
  generalize (lg_sl ([.ref h0, .int a0]) ++ List.replicate (5 - (lg_sl ([.ref h0, .int a0])).length) Slot.unset).toArray = ls at hl ⊢
  have hl : lv_has ls 5 [(0, .ref h0), (1, .int a0)] := hl
  have hP : va_P (dC, dI) vwCl (wX5_holdsWord h0 h1 h2 h3 h4 h5 h6 h7 h8 h9 h10 h11 kc2 kc3 kc4 kc5 kc6 kc7 kc8 kc9 kc10 kc11 V1 v0_solvedAt v1_rules v1_ends v1_height v1_systemChanges c2 c3 c4 c5 c6 c7 c8 c9 c10 c11) s.heap := hP
  refine gl_intro (fun G hG => ?_)
  have J73 : ∀ (z0 : Int32) (v0_solvedAt : Int32) (c2 : (Nat → Int64)) (c3 : (Nat → Int64)) (H : Heap) (locs : List Loc) (ls : Array Slot), va_P (dC, dI) vwCl (wX5_holdsWord h0 h1 h2 h3 h4 h5 h6 h7 h8 h9 h10 h11 kc2 kc3 kc4 kc5 kc6 kc7 kc8 kc9 kc10 kc11 V1 v0_solvedAt v1_rules v1_ends v1_height v1_systemChanges c2 c3 c4 c5 c6 c7 c8 c9 c10 c11) H → va_D A (wX5_holdsWord h0 h1 h2 h3 h4 h5 h6 h7 h8 h9 h10 h11 kc2 kc3 kc4 kc5 kc6 kc7 kc8 kc9 kc10 kc11 V1 v0_solvedAt v1_rules v1_ends v1_height v1_systemChanges c2 c3 c4 c5 c6 c7 c8 c9 c10 c11) → va_S A s.heap H locs → lv_has ls 5 [(0, .ref h0)] → fX5_holdsWord_p73 v1_rules v1_ends v1_height v1_systemChanges c4 c5 c6 c7 c8 c9 c10 c11  z0 v0_solvedAt c2 c3 = some o → G 0 0 H locs (F0 m 73 ls [.int z0]) := by
    intro  z0 v0_solvedAt c2 c3 H locs ls hP hD hS hl hf
    refine (hG _ _ _ _ _).mpr ?_
    unfold fX5_holdsWord_p73 at hf
    have b1 := bd_b hf
    replace hf := bd_k hf
    have hf1 := Option.some.inj hf
    subst hf1
    have hP9 := hP.sub (ws' := (wX5_holdsWord h0 h1 h2 h3 h4 h5 h6 h7 h8 h9 h10 h11 kc2 kc3 kc4 kc5 kc6 kc7 kc8 kc9 kc10 kc11 V1 v0_solvedAt v1_rules v1_ends v1_height v1_systemChanges c2 c3 c4 c5 c6 c7 c8 c9 c10 c11)) [0, 1, 2, 3, 4, 5, 6, 7, 8, 9, 10, 11] rfl
    have hD9 := hD.sub (ws' := (wX5_holdsWord h0 h1 h2 h3 h4 h5 h6 h7 h8 h9 h10 h11 kc2 kc3 kc4 kc5 kc6 kc7 kc8 kc9 kc10 kc11 V1 v0_solvedAt v1_rules v1_ends v1_height v1_systemChanges c2 c3 c4 c5 c6 c7 c8 c9 c10 c11)) [0, 1, 2, 3, 4, 5, 6, 7, 8, 9, 10, 11] (by decide) rfl
    exact W.zret (v := z0) (ty := .boolean) hx hb hr (bz_nar b1) (fun t ht hW => ⟨⟨z0, (v0_solvedAt, c2, c3), rfl, ⟨rfl, rfl⟩, by rw [ht]; exact hP9, va_K.moved hW.alike hK, hD9⟩, hS.F ht⟩) hS.2.2 dX5_holdsWord_73
  have B26 : ∀ (k26 : Int64 → Int32 → Int32 → (Nat → Int64) → (Nat → Int64) → Option (Int32 × Int32 × (Nat → Int64) × (Nat → Int64))) (hk26 : ∀ (y2 : Int64) (y4 : Int32) (v0_solvedAt : Int32) (c2 : (Nat → Int64)) (c3 : (Nat → Int64)) (H : Heap) (locs : List Loc) (ls : Array Slot), va_P (dC, dI) vwCl (wX5_holdsWord h0 h1 h2 h3 h4 h5 h6 h7 h8 h9 h10 h11 kc2 kc3 kc4 kc5 kc6 kc7 kc8 kc9 kc10 kc11 V1 v0_solvedAt v1_rules v1_ends v1_height v1_systemChanges c2 c3 c4 c5 c6 c7 c8 c9 c10 c11) H → va_D A (wX5_holdsWord h0 h1 h2 h3 h4 h5 h6 h7 h8 h9 h10 h11 kc2 kc3 kc4 kc5 kc6 kc7 kc8 kc9 kc10 kc11 V1 v0_solvedAt v1_rules v1_ends v1_height v1_systemChanges c2 c3 c4 c5 c6 c7 c8 c9 c10 c11) → va_S A s.heap H locs → lv_has ls 5 [(0, .ref h0), (2, .long y2), (4, .int y4)] → k26 y2 y4 v0_solvedAt c2 c3 = some o → G 0 0 H locs (F0 m 26 ls [])), ∀ (y2 : Int64) (y4 : Int32) (v0_solvedAt : Int32) (c2 : (Nat → Int64)) (c3 : (Nat → Int64)) (H : Heap) (locs : List Loc) (ls : Array Slot), va_P (dC, dI) vwCl (wX5_holdsWord h0 h1 h2 h3 h4 h5 h6 h7 h8 h9 h10 h11 kc2 kc3 kc4 kc5 kc6 kc7 kc8 kc9 kc10 kc11 V1 v0_solvedAt v1_rules v1_ends v1_height v1_systemChanges c2 c3 c4 c5 c6 c7 c8 c9 c10 c11) H → va_D A (wX5_holdsWord h0 h1 h2 h3 h4 h5 h6 h7 h8 h9 h10 h11 kc2 kc3 kc4 kc5 kc6 kc7 kc8 kc9 kc10 kc11 V1 v0_solvedAt v1_rules v1_ends v1_height v1_systemChanges c2 c3 c4 c5 c6 c7 c8 c9 c10 c11) → va_S A s.heap H locs → lv_has ls 5 [(0, .ref h0), (2, .long y2), (4, .int y4)] → fX5_holdsWord_b26 v1_rules v1_ends v1_height v1_systemChanges c4 c5 c6 c7 c8 c9 c10 c11  k26 y2 y4 v0_solvedAt c2 c3 = some o → G 0 0 H locs (F0 m 26 ls []) := by
    intro  k26 hk26 y2 y4 v0_solvedAt c2 c3 H locs ls hP hD hS hl hf
    refine (hG _ _ _ _ _).mpr ?_
    unfold fX5_holdsWord_b26 at hf
    refine lv_iload hx hb dX5_holdsWord_26 (lv_at hl 2 rfl) ?_
    refine lv_if_lt (tgt := 53) hx hb dX5_holdsWord_28 (by decide) (fun cq2 => ?_) (fun cq2 => ?_)
    · replace hf := if_at hf cq2
      refine lv_lload_n hx hb dX5_holdsWord_53 rfl (lv_at hl 1 rfl) ?_
      refine lv_aload_n hx hb dX5_holdsWord_54 rfl (lv_at hl 0 rfl) ?_
      refine va_get (D := (dC, dI)) (ci := 5) (v := .ref h1) (C := RX5) (T := TX5) (N := 4) hx hb hts inlX5 hown hK hP 0 rfl rfl 0 (by decide) w0_ (fun _ h9 => h9) rfl dX5_holdsWord_55 ?_
      refine va_get (D := (dC, dI)) (ci := 6) (v := .int v1_ends) (C := RX6) (T := TX6) (N := 14) hx hb hts inlX6 hown hK hP 1 rfl rfl 8 (by decide) w1_ (fun _ h9 => h9) rfl dX5_holdsWord_58 ?_
      refine lv_i2l hx hb dX5_holdsWord_61 rfl ?_
      refine lv_topl (fun x3 e3 => ?_)
      replace hf := nm_at hf e3
      refine lv_land hx hb dX5_holdsWord_62 ?_
      refine lv_topl (fun x4 e4 => ?_)
      replace hf := nm_at hf e4
      refine lv_lconst (v := 0) hx hb dX5_holdsWord_63 (by decide) ?_
      refine W.lcmp hx hb dX5_holdsWord_64 ?_
      refine lv_topi (fun x5 e5 => ?_)
      replace hf := nm_at hf e5
      refine lv_if_eq (tgt := 72) hx hb dX5_holdsWord_65 (by decide) (fun cq6 => ?_) (fun cq6 => ?_)
      · replace hf := if_at hf cq6
        refine lv_iconst (v := 0) hx hb dX5_holdsWord_72 (by decide +kernel) ?_
        exact (hG _ _ _ _ _).mp (J73 0 v0_solvedAt c2 c3 H locs ls (hP.sub [0, 1, 2, 3, 4, 5, 6, 7, 8, 9, 10, 11] rfl) (hD.sub [0, 1, 2, 3, 4, 5, 6, 7, 8, 9, 10, 11] (by decide) rfl) hS (lv_sub hl [0] rfl) hf)
      · replace hf := if_no hf cq6
        refine lv_iconst (v := 1) hx hb dX5_holdsWord_68 (by decide +kernel) ?_
        refine lv_goto (tgt := 73) hx hb dX5_holdsWord_69 (by decide) ?_
        exact (hG _ _ _ _ _).mp (J73 1 v0_solvedAt c2 c3 H locs ls (hP.sub [0, 1, 2, 3, 4, 5, 6, 7, 8, 9, 10, 11] rfl) (hD.sub [0, 1, 2, 3, 4, 5, 6, 7, 8, 9, 10, 11] (by decide) rfl) hS (lv_sub hl [0] rfl) hf)
    · replace hf := if_no hf cq2
      refine lv_aload_n hx hb dX5_holdsWord_31 rfl (lv_at hl 0 rfl) ?_
      refine lv_lload_n hx hb dX5_holdsWord_32 rfl (lv_at hl 1 rfl) ?_
      refine lv_aload_n hx hb dX5_holdsWord_33 rfl (lv_at hl 0 rfl) ?_
      refine va_get (D := (dC, dI)) (ci := 5) (v := .ref h1) (C := RX5) (T := TX5) (N := 4) hx hb hts inlX5 hown hK hP 0 rfl rfl 0 (by decide) w0_ (fun _ h9 => h9) rfl dX5_holdsWord_34 ?_
      refine va_get (D := (dC, dI)) (ci := 6) (v := .ref h11) (C := RX6) (T := TX6) (N := 14) hx hb hts inlX6 hown hK hP 1 rfl rfl 9 (by decide) w2_ (fun _ h9 => h9) rfl dX5_holdsWord_37 ?_
      refine lv_iload hx hb dX5_holdsWord_40 (lv_at hl 2 rfl) ?_
      have b7 := bd_in hf
      replace hf := bd_k hf
      refine va_iald hx hb hK hP 11 9 rfl rfl b7 dX5_holdsWord_42 ?_
      refine lv_topi (fun x8 e8 => ?_)
      replace hf := nm_at hf e8
      obtain ⟨o9, e9, hf⟩ := ob_some hf
      refine kVl (As := [.long y2, .int x8]) (rest := []) ⟨hx, hb, hml, hown, hts⟩ (mX5_nodesBehind l dC dI h0 h2 kc2 H.size base y2 x8 c2 (fun k => match k with | 0 => .ref h1 | 2 => .ref h3 | 3 => .int v0_solvedAt | _ => .null) o9 e9) (cwV 2 hts (gTV q497 q498 q499 q460 q500) rfl rfl rfl (by decide +kernel) ⟨Nat.le_of_ble_eq_true rfl, Nat.le_of_ble_eq_true rfl⟩) hK hP hD hS hA hE hAB [0, 2] [1, 3, 4, 5, 6, 7, 8, 9, 10, 11] [0] (wr := [(h1, .inr (6, [.ref h5, .ref h6, .ref h7, .ref h8, .ref h9, .ref h10, .int v1_rules, .ref h4, .int v1_ends, .ref h11, .int v1_height, .int v1_systemChanges, V1 12, V1 13])), (h3, .inl (kc3, 8, .inr (.inl c3))), (h4, .inl (kc4, 192, .inl c4)), (h5, .inl (kc5, 48, .inl c5)), (h6, .inl (kc6, 48, .inl c6)), (h7, .inl (kc7, 48, .inl c7)), (h8, .inl (kc8, 48, .inl c8)), (h9, .inl (kc9, 48, .inl c9)), (h10, .inl (kc10, 48, .inl c10)), (h11, .inl (kc11, 30, .inl c11))]) rfl rfl (by decide) (by decide) (by decide) rfl (ci := 5) (q0 := 0) rfl rfl rfl rfl hl.1 rfl (Nat.le_of_ble_eq_true rfl) dX5_holdsWord_43 ⟨Nat.zero_le _, Nat.zero_le _⟩ (fun r9 u9 H locs hw9 hP hD hS => ?_)
      obtain ⟨hw91, hw92⟩ := hw9
      subst hw91 hw92
      have hP : va_P (dC, dI) vwCl (wX5_holdsWord h0 h1 h2 h3 h4 h5 h6 h7 h8 h9 h10 h11 kc2 kc3 kc4 kc5 kc6 kc7 kc8 kc9 kc10 kc11 V1 v0_solvedAt v1_rules v1_ends v1_height v1_systemChanges c2 c3 c4 c5 c6 c7 c8 c9 c10 c11) H := hP.sub [10, 0, 11, 1, 2, 3, 4, 5, 6, 7, 8, 9] rfl
      have hD : va_D A (wX5_holdsWord h0 h1 h2 h3 h4 h5 h6 h7 h8 h9 h10 h11 kc2 kc3 kc4 kc5 kc6 kc7 kc8 kc9 kc10 kc11 V1 v0_solvedAt v1_rules v1_ends v1_height v1_systemChanges c2 c3 c4 c5 c6 c7 c8 c9 c10 c11) := hD.sub [10, 0, 11, 1, 2, 3, 4, 5, 6, 7, 8, 9] (by decide) rfl
      refine lv_lstore_n (lv' := [(2, .long o9.1), (0, .ref h0), (4, .int y4)]) hx hb dX5_holdsWord_46 rfl hl (by decide) rfl (fun ls hl => ?_)
      obtain ⟨x10, e10⟩ : ∃ y : Int32, y = y4 + (-1) := ⟨_, rfl⟩
      replace hf := nm_at hf e10
      refine lv_iinc (v := x10) (lv' := [(4, .int x10), (2, .long o9.1), (0, .ref h0)]) hx hb dX5_holdsWord_47 hl (k := 2) rfl (by rw [e10]; rfl) (by decide) rfl (fun ls hl => ?_)
      refine lv_goto (tgt := 26) hx hb dX5_holdsWord_50 (by decide) ?_
      exact (hG _ _ _ _ _).mp (hk26 o9.1 x10 v0_solvedAt c2 c3 H locs ls (hP.sub [0, 1, 2, 3, 4, 5, 6, 7, 8, 9, 10, 11] rfl) (hD.sub [0, 1, 2, 3, 4, 5, 6, 7, 8, 9, 10, 11] (by decide) rfl) hS (lv_sub hl [2, 1, 0] rfl) hf)
  have L26 : ∀ (n : Nat), ∀ (y2 : Int64) (y4 : Int32) (v0_solvedAt : Int32) (c2 : (Nat → Int64)) (c3 : (Nat → Int64)) (H : Heap) (locs : List Loc) (ls : Array Slot), va_P (dC, dI) vwCl (wX5_holdsWord h0 h1 h2 h3 h4 h5 h6 h7 h8 h9 h10 h11 kc2 kc3 kc4 kc5 kc6 kc7 kc8 kc9 kc10 kc11 V1 v0_solvedAt v1_rules v1_ends v1_height v1_systemChanges c2 c3 c4 c5 c6 c7 c8 c9 c10 c11) H → va_D A (wX5_holdsWord h0 h1 h2 h3 h4 h5 h6 h7 h8 h9 h10 h11 kc2 kc3 kc4 kc5 kc6 kc7 kc8 kc9 kc10 kc11 V1 v0_solvedAt v1_rules v1_ends v1_height v1_systemChanges c2 c3 c4 c5 c6 c7 c8 c9 c10 c11) → va_S A s.heap H locs → lv_has ls 5 [(0, .ref h0), (2, .long y2), (4, .int y4)] → fX5_holdsWord_l26 v1_rules v1_ends v1_height v1_systemChanges c4 c5 c6 c7 c8 c9 c10 c11  n y2 y4 v0_solvedAt c2 c3 = some o → G 0 0 H locs (F0 m 26 ls []) := by
    intro  n
    induction n with
    | zero => intro y2 y4 v0_solvedAt c2 c3 H locs ls _ _ _ _ hf; cases hf
    | succ n ih => exact B26  _ ih
  refine (hG _ _ _ _ _).mpr ?_
  obtain ⟨H, hH⟩ : ∃ H, H = s.heap := ⟨_, rfl⟩
  have hS : va_S A s.heap H [] := by rw [hH]; exact hS
  rw [← hH] at hP ⊢
  generalize ([] : List Loc) = locs at hS ⊢
  unfold fX5_holdsWord at hf
  refine lv_aload_n hx hb dX5_holdsWord_0 rfl (lv_at hl 0 rfl) ?_
  obtain ⟨o11, e11, hf⟩ := ob_some hf
  refine kVv (As := []) (rest := []) ⟨hx, hb, hml, hown, hts⟩ (mX5_bringUpToDate l dC dI h0 h1 h2 h3 h4 h5 h6 h7 h8 h9 h10 kc2 kc3 kc4 kc5 kc6 kc7 kc8 kc9 kc10 H.size base v0_solvedAt v1_rules v1_systemChanges c2 c3 c4 c5 c6 c7 c8 c9 c10 (fun k => match k with | 8 => .int v1_ends | 9 => .ref h11 | 10 => .int v1_height | k => V1 k) o11 e11) (cwV 0 hts (gTV q476 q477 q478 q460 q479) rfl rfl rfl (by decide +kernel) ⟨Nat.le_of_ble_eq_true rfl, Nat.le_of_ble_eq_true rfl⟩) hK hP hD hS hA hE hAB [0, 1, 2, 3, 4, 5, 6, 7, 8, 9, 10] [11] [0, 1, 2, 3, 4, 5, 6, 7, 8] (wr := [(h11, .inl (kc11, 30, .inl c11))]) rfl rfl (by decide) (by decide) (by decide) rfl (ci := 5) (q0 := 0) rfl rfl rfl rfl hl.1 rfl (Nat.le_of_ble_eq_true rfl) dX5_holdsWord_1 ⟨Nat.zero_le _, Nat.zero_le _⟩ (fun u11 H locs hw11 hP hD hS => ?_)
  have hw111 : o11 = u11 := Eq.symm hw11
  subst hw111
  have hP : va_P (dC, dI) vwCl (wX5_holdsWord h0 h1 h2 h3 h4 h5 h6 h7 h8 h9 h10 h11 kc2 kc3 kc4 kc5 kc6 kc7 kc8 kc9 kc10 kc11 V1 o11.1 v1_rules v1_ends v1_height v1_systemChanges o11.2.1 o11.2.2 c4 c5 c6 c7 c8 c9 c10 c11) H := hP.sub [1, 2, 3, 4, 5, 6, 7, 8, 9, 10, 11, 0] rfl
  have hD : va_D A (wX5_holdsWord h0 h1 h2 h3 h4 h5 h6 h7 h8 h9 h10 h11 kc2 kc3 kc4 kc5 kc6 kc7 kc8 kc9 kc10 kc11 V1 o11.1 v1_rules v1_ends v1_height v1_systemChanges o11.2.1 o11.2.2 c4 c5 c6 c7 c8 c9 c10 c11) := hD.sub [1, 2, 3, 4, 5, 6, 7, 8, 9, 10, 11, 0] (by decide) rfl
  refine lv_lconst (v := 1) hx hb dX5_holdsWord_4 (by decide) ?_
  refine lv_iload_n hx hb dX5_holdsWord_5 rfl (lv_at hl 1 rfl) ?_
  refine lv_lshl hx hb dX5_holdsWord_6 rfl ?_
  refine lv_topl (fun x12 e12 => ?_)
  replace hf := nm_at hf e12
  refine lv_aload_n hx hb dX5_holdsWord_7 rfl (lv_at hl 0 rfl) ?_
  refine va_get (D := (dC, dI)) (ci := 5) (v := .ref h3) (C := RX5) (T := TX5) (N := 4) hx hb hts inlX5 hown hK hP 0 rfl rfl 2 (by decide) w3_ (fun _ h9 => h9) rfl dX5_holdsWord_8 ?_
  refine lv_iload_n hx hb dX5_holdsWord_11 rfl (lv_at hl 1 rfl) ?_
  have b13 := bd_in hf
  replace hf := bd_k hf
  refine va_lald hx hb hK hP 3 1 rfl rfl b13 dX5_holdsWord_12 ?_
  refine lv_topl (fun x14 e14 => ?_)
  replace hf := nm_at hf e14
  refine lv_lor hx hb dX5_holdsWord_13 ?_
  refine lv_topl (fun x15 e15 => ?_)
  replace hf := nm_at hf e15
  refine lv_lstore_n (lv' := [(2, .long x15), (0, .ref h0), (1, .int a0)]) hx hb dX5_holdsWord_14 rfl hl (by decide) rfl (fun ls hl => ?_)
  refine lv_aload_n hx hb dX5_holdsWord_15 rfl (lv_at hl 1 rfl) ?_
  refine va_get (D := (dC, dI)) (ci := 5) (v := .ref h1) (C := RX5) (T := TX5) (N := 4) hx hb hts inlX5 hown hK hP 0 rfl rfl 0 (by decide) w0_ (fun _ h9 => h9) rfl dX5_holdsWord_16 ?_
  refine va_get (D := (dC, dI)) (ci := 6) (v := .int v1_height) (C := RX6) (T := TX6) (N := 14) hx hb hts inlX6 hown hK hP 1 rfl rfl 10 (by decide) w4_ (fun _ h9 => h9) rfl dX5_holdsWord_19 ?_
  refine lv_iconst (v := 1) hx hb dX5_holdsWord_22 (by decide +kernel) ?_
  refine lv_isub hx hb dX5_holdsWord_23 ?_
  refine lv_topi (fun x16 e16 => ?_)
  replace hf := nm_at hf e16
  refine lv_istore (lv' := [(4, .int x16), (2, .long x15), (0, .ref h0), (1, .int a0)]) hx hb dX5_holdsWord_24 hl (by decide) rfl (fun ls hl => ?_)
  exact (hG _ _ _ _ _).mp (L26 FU x15 x16 o11.1 o11.2.1 o11.2.2 H locs ls (hP.sub [0, 1, 2, 3, 4, 5, 6, 7, 8, 9, 10, 11] rfl) (hD.sub [0, 1, 2, 3, 4, 5, 6, 7, 8, 9, 10, 11] (by decide) rfl) hS (lv_sub hl [2, 1, 0] rfl) hf)
