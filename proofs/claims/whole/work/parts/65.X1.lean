abbrev wX1_startFromNet (h0 h1 h2 h3 : Nat) (kc2 kc3 : ClassId) (V0 : Nat → Value) (V1 : Nat → Value) (c2 : Nat → Int32) (c3 : Nat → Int32) : va_W := [(h0, .inr (1, [.ref h3, .ref h1, V0 2])), (h1, .inr (6, [V1 0, V1 1, V1 2, V1 3, V1 4, V1 5, V1 6, .ref h2, V1 8, V1 9, V1 10, V1 11, V1 12, V1 13])), (h2, .inl (kc2, 192, .inl c2)), (h3, .inl (kc3, 3072, .inl c3))]
set_option maxHeartbeats 4000000 in
set_option maxRecDepth 100000 in
theorem mX1_startFromNet (l : Launch) (dC : Nat → ClassId) (dI : Nat → Nat → Nat) (h0 h1 h2 h3 : Nat) (kc2 kc3 : ClassId) (sz : Nat) (base : Nat × Nat × Nat) (c2 : Nat → Int32) (c3 : Nat → Int32) (V0 : Nat → Value) (V1 : Nat → Value) (o : (Nat → Int32)) (hf : fX1_startFromNet c2 c3 = some o) : Met l yX1_startFromNet (.code yX1_startFromNet cX1_startFromNet 3 none :: wsL_law) ({ frames := 0, cells := 0, slots := 0, locals := 0 }) (cPre (dC, dI) vwCl [.ref h0] sz base (wX1_startFromNet h0 h1 h2 h3 kc2 kc3 V0 V1 c2 c3) [(kc2, .int), (kc3, .int)]) (va_Qv (fun u => u = o) (fun (u : (Nat → Int32)) t => cPost (dC, dI) vwCl (va_A (wX1_startFromNet h0 h1 h2 h3 kc2 kc3 V0 V1 c2 c3) sz) (wX1_startFromNet h0 h1 h2 h3 kc2 kc3 V0 V1 c2 u) [(kc2, .int), (kc3, .int)] t) (va_A (wX1_startFromNet h0 h1 h2 h3 kc2 kc3 V0 V1 c2 c3) sz)) 0 0 (va_A (wX1_startFromNet h0 h1 h2 h3 kc2 kc3 V0 V1 c2 c3) sz) := by
  refine Met.ofW (cc := cX1_startFromNet) (maxL := 3) (ret := none) (by decide) rfl ?_
  intro p e s m args below meth c s₁ B hml hv
  obtain ⟨rfl, hsz, hP, hK, hD0, hE⟩ := hv
  have hx := B.exec
  have hb := B.bytes
  have hr := B.returns
  have hts : ∀ w ∈ wsL_law, _ := fun w h => atoms_spec (ws := .code yX1_startFromNet cX1_startFromNet 3 none :: wsL_law) B.pre w (List.mem_cons_of_mem _ h)
  have hown : s.vm.findClass RX1 = some m.cls := findClass_of_methodNamed B.named
  have hlocks := B.notSynchronized
  have w0_ := hts _ q270
  have w1_ := hts _ q272
  have w2_ := hts _ q296
  have w3_ := hts _ q297
  subst hsz
  have hD := hD0.self (sz := s.heap.size)
  generalize hAe : va_A (wX1_startFromNet h0 h1 h2 h3 kc2 kc3 V0 V1 c2 c3) s.heap.size = A at hD ⊢
  have hA : ∀ q : Nat, s.heap.size ≤ q → A q := fun q h => by rw [← hAe]; exact Or.inr h
  have hAB : ∀ q : Nat, A q → base.1 ≤ q := fun q h => by rw [← hAe] at h; exact h.elim (fun ⟨k, e, hk⟩ => hD0.2 k _ hk) (fun hk => Nat.le_trans hE.1 hk)
  have hS : va_S A s.heap s.heap [] := va_S.rf
  have hl := lv_entry ([.ref h0]) (n := 3) (Nat.le_of_ble_eq_true rfl)
  rw [lg_entry_eq]
  generalize (lg_sl ([.ref h0]) ++ List.replicate (3 - (lg_sl ([.ref h0])).length) Slot.unset).toArray = ls at hl ⊢
  have hl : lv_has ls 3 [(0, .ref h0)] := hl
  have hP : va_P (dC, dI) vwCl (wX1_startFromNet h0 h1 h2 h3 kc2 kc3 V0 V1 c2 c3) s.heap := hP
  refine gl_intro (fun G hG => ?_)
  have J49 : ∀ (k2 : Int32 → (Nat → Int32) → Option ((Nat → Int32))) (hk2 : ∀ (y1 : Int32) (c3 : (Nat → Int32)) (H : Heap) (locs : List Loc) (ls : Array Slot), va_P (dC, dI) vwCl (wX1_startFromNet h0 h1 h2 h3 kc2 kc3 V0 V1 c2 c3) H → va_D A (wX1_startFromNet h0 h1 h2 h3 kc2 kc3 V0 V1 c2 c3) → va_S A s.heap H locs → lv_has ls 3 [(0, .ref h0), (1, .int y1)] → k2 y1 c3 = some o → G 0 0 H locs (F0 m 2 ls [])) (k11 : Int32 → Int32 → (Nat → Int32) → Option ((Nat → Int32))) (hk11 : ∀ (y1 : Int32) (y2 : Int32) (c3 : (Nat → Int32)) (H : Heap) (locs : List Loc) (ls : Array Slot), va_P (dC, dI) vwCl (wX1_startFromNet h0 h1 h2 h3 kc2 kc3 V0 V1 c2 c3) H → va_D A (wX1_startFromNet h0 h1 h2 h3 kc2 kc3 V0 V1 c2 c3) → va_S A s.heap H locs → lv_has ls 3 [(0, .ref h0), (1, .int y1), (2, .int y2)] → k11 y1 y2 c3 = some o → G 0 0 H locs (F0 m 11 ls [])), ∀ (y1 : Int32) (y2 : Int32) (z0 : Int32) (z1 : Int32) (c3 : (Nat → Int32)) (H : Heap) (locs : List Loc) (ls : Array Slot), va_P (dC, dI) vwCl (wX1_startFromNet h0 h1 h2 h3 kc2 kc3 V0 V1 c2 c3) H → va_D A (wX1_startFromNet h0 h1 h2 h3 kc2 kc3 V0 V1 c2 c3) → va_S A s.heap H locs → lv_has ls 3 [(0, .ref h0), (1, .int y1), (2, .int y2)] → fX1_startFromNet_p49 c2 k2 k11 y1 y2 z0 z1 c3 = some o → G 0 0 H locs (F0 m 49 ls [.int z0, .int z1, .ref h3]) := by
    intro k2 hk2 k11 hk11 y1 y2 z0 z1 c3 H locs ls hP hD hS hl hf
    refine (hG _ _ _ _ _).mpr ?_
    unfold fX1_startFromNet_p49 at hf
    have b1 := bd_in hf
    replace hf := bd_k hf
    obtain ⟨c1x, e1⟩ : ∃ y, y = upd c3 z1.toNatClampNeg z0 := ⟨_, rfl⟩
    replace hf := nm_at hf e1
    refine va_iast hx hb hK hP hD hS 3 1 rfl rfl b1 dX1_startFromNet_49 (fun H locs hP hD hS => ?_)
    have hP : va_P (dC, dI) vwCl (wX1_startFromNet h0 h1 h2 h3 kc2 kc3 V0 V1 c2 c1x) H := by rw [e1]; exact hP
    have hD : va_D A (wX1_startFromNet h0 h1 h2 h3 kc2 kc3 V0 V1 c2 c1x) := by rw [e1]; exact hD
    obtain ⟨x2, e2⟩ : ∃ y : Int32, y = y2 + 1 := ⟨_, rfl⟩
    replace hf := nm_at hf e2
    refine lv_iinc (v := x2) (lv' := [(2, .int x2), (0, .ref h0), (1, .int y1)]) hx hb dX1_startFromNet_50 hl (k := 2) rfl (by rw [e2]; rfl) (by decide) rfl (fun ls hl => ?_)
    refine lv_goto (tgt := 11) hx hb dX1_startFromNet_53 (by decide) ?_
    exact (hG _ _ _ _ _).mp (hk11 y1 x2 c1x H locs ls (hP.sub [0, 1, 2, 3] rfl) (hD.sub [0, 1, 2, 3] (by decide) rfl) hS (lv_sub hl [1, 2, 0] rfl) hf)
  have B11 : ∀ (k2 : Int32 → (Nat → Int32) → Option ((Nat → Int32))) (hk2 : ∀ (y1 : Int32) (c3 : (Nat → Int32)) (H : Heap) (locs : List Loc) (ls : Array Slot), va_P (dC, dI) vwCl (wX1_startFromNet h0 h1 h2 h3 kc2 kc3 V0 V1 c2 c3) H → va_D A (wX1_startFromNet h0 h1 h2 h3 kc2 kc3 V0 V1 c2 c3) → va_S A s.heap H locs → lv_has ls 3 [(0, .ref h0), (1, .int y1)] → k2 y1 c3 = some o → G 0 0 H locs (F0 m 2 ls [])) (k11 : Int32 → Int32 → (Nat → Int32) → Option ((Nat → Int32))) (hk11 : ∀ (y1 : Int32) (y2 : Int32) (c3 : (Nat → Int32)) (H : Heap) (locs : List Loc) (ls : Array Slot), va_P (dC, dI) vwCl (wX1_startFromNet h0 h1 h2 h3 kc2 kc3 V0 V1 c2 c3) H → va_D A (wX1_startFromNet h0 h1 h2 h3 kc2 kc3 V0 V1 c2 c3) → va_S A s.heap H locs → lv_has ls 3 [(0, .ref h0), (1, .int y1), (2, .int y2)] → k11 y1 y2 c3 = some o → G 0 0 H locs (F0 m 11 ls [])), ∀ (y1 : Int32) (y2 : Int32) (c3 : (Nat → Int32)) (H : Heap) (locs : List Loc) (ls : Array Slot), va_P (dC, dI) vwCl (wX1_startFromNet h0 h1 h2 h3 kc2 kc3 V0 V1 c2 c3) H → va_D A (wX1_startFromNet h0 h1 h2 h3 kc2 kc3 V0 V1 c2 c3) → va_S A s.heap H locs → lv_has ls 3 [(0, .ref h0), (1, .int y1), (2, .int y2)] → fX1_startFromNet_b11 c2 k2 k11 y1 y2 c3 = some o → G 0 0 H locs (F0 m 11 ls []) := by
    intro k2 hk2 k11 hk11 y1 y2 c3 H locs ls hP hD hS hl hf
    refine (hG _ _ _ _ _).mpr ?_
    unfold fX1_startFromNet_b11 at hf
    refine lv_iload_n hx hb dX1_startFromNet_11 rfl (lv_at hl 2 rfl) ?_
    refine lv_bipush (v := 16) hx hb dX1_startFromNet_12 (by decide +kernel) ?_
    refine lv_icmp_ge (tgt := 56) hx hb dX1_startFromNet_14 (by decide) (fun cq3 => ?_) (fun cq3 => ?_)
    · replace hf := if_at hf cq3
      obtain ⟨x4, e4⟩ : ∃ y : Int32, y = y1 + 1 := ⟨_, rfl⟩
      replace hf := nm_at hf e4
      refine lv_iinc (v := x4) (lv' := [(1, .int x4), (0, .ref h0), (2, .int y2)]) hx hb dX1_startFromNet_56 hl (k := 1) rfl (by rw [e4]; rfl) (by decide) rfl (fun ls hl => ?_)
      refine lv_goto (tgt := 2) hx hb dX1_startFromNet_59 (by decide) ?_
      exact (hG _ _ _ _ _).mp (hk2 x4 c3 H locs ls (hP.sub [0, 1, 2, 3] rfl) (hD.sub [0, 1, 2, 3] (by decide) rfl) hS (lv_sub hl [1, 0] rfl) hf)
    · replace hf := if_no hf cq3
      refine lv_aload_n hx hb dX1_startFromNet_17 rfl (lv_at hl 0 rfl) ?_
      refine va_get (D := (dC, dI)) (ci := 1) (v := .ref h3) (C := RX1) (T := TX1) (N := 3) hx hb hts inlX1 hown hK hP 0 rfl rfl 0 (by decide) w0_ (fun _ h9 => h9) rfl dX1_startFromNet_18 ?_
      refine lv_iload_n hx hb dX1_startFromNet_21 rfl (lv_at hl 1 rfl) ?_
      refine lv_bipush (v := 16) hx hb dX1_startFromNet_22 (by decide +kernel) ?_
      refine lv_imul hx hb dX1_startFromNet_24 ?_
      refine lv_topi (fun x5 e5 => ?_)
      replace hf := nm_at hf e5
      refine lv_iload_n hx hb dX1_startFromNet_25 rfl (lv_at hl 2 rfl) ?_
      refine lv_iadd hx hb dX1_startFromNet_26 ?_
      refine lv_topi (fun x6 e6 => ?_)
      replace hf := nm_at hf e6
      refine lv_aload_n hx hb dX1_startFromNet_27 rfl (lv_at hl 0 rfl) ?_
      refine va_get (D := (dC, dI)) (ci := 1) (v := .ref h1) (C := RX1) (T := TX1) (N := 3) hx hb hts inlX1 hown hK hP 0 rfl rfl 1 (by decide) w1_ (fun _ h9 => h9) rfl dX1_startFromNet_28 ?_
      refine va_get (D := (dC, dI)) (ci := 6) (v := .ref h2) (C := RX6) (T := TX6) (N := 14) hx hb hts inlX6 hown hK hP 1 rfl rfl 7 (by decide) w2_ (fun _ h9 => h9) rfl dX1_startFromNet_31 ?_
      refine lv_iload_n hx hb dX1_startFromNet_34 rfl (lv_at hl 1 rfl) ?_
      have b7 := bd_in hf
      replace hf := bd_k hf
      refine va_iald hx hb hK hP 2 0 rfl rfl b7 dX1_startFromNet_35 ?_
      refine lv_topi (fun x8 e8 => ?_)
      replace hf := nm_at hf e8
      refine lv_iload_n hx hb dX1_startFromNet_36 rfl (lv_at hl 2 rfl) ?_
      refine lv_iushr hx hb dX1_startFromNet_37 rfl ?_
      refine lv_topi (fun x9 e9 => ?_)
      replace hf := nm_at hf e9
      refine lv_iconst (v := 1) hx hb dX1_startFromNet_38 (by decide +kernel) ?_
      refine lv_iand hx hb dX1_startFromNet_39 ?_
      refine lv_topi (fun x10 e10 => ?_)
      replace hf := nm_at hf e10
      refine lv_if_eq (tgt := 47) hx hb dX1_startFromNet_40 (by decide) (fun cq11 => ?_) (fun cq11 => ?_)
      · replace hf := if_at hf cq11
        refine lv_ldc (v := 536870912) hx hb hown w3_ dX1_startFromNet_47 ?_
        exact (hG _ _ _ _ _).mp (J49 k2 hk2 k11 hk11 y1 y2 536870912 x6 c3 H locs ls (hP.sub [0, 1, 2, 3] rfl) (hD.sub [0, 1, 2, 3] (by decide) rfl) hS (lv_sub hl [0, 1, 2] rfl) hf)
      · replace hf := if_no hf cq11
        refine lv_iconst (v := 0) hx hb dX1_startFromNet_43 (by decide +kernel) ?_
        refine lv_goto (tgt := 49) hx hb dX1_startFromNet_44 (by decide) ?_
        exact (hG _ _ _ _ _).mp (J49 k2 hk2 k11 hk11 y1 y2 0 x6 c3 H locs ls (hP.sub [0, 1, 2, 3] rfl) (hD.sub [0, 1, 2, 3] (by decide) rfl) hS (lv_sub hl [0, 1, 2] rfl) hf)
  have L11 : ∀ (k2 : Int32 → (Nat → Int32) → Option ((Nat → Int32))) (hk2 : ∀ (y1 : Int32) (c3 : (Nat → Int32)) (H : Heap) (locs : List Loc) (ls : Array Slot), va_P (dC, dI) vwCl (wX1_startFromNet h0 h1 h2 h3 kc2 kc3 V0 V1 c2 c3) H → va_D A (wX1_startFromNet h0 h1 h2 h3 kc2 kc3 V0 V1 c2 c3) → va_S A s.heap H locs → lv_has ls 3 [(0, .ref h0), (1, .int y1)] → k2 y1 c3 = some o → G 0 0 H locs (F0 m 2 ls [])) (n : Nat), ∀ (y1 : Int32) (y2 : Int32) (c3 : (Nat → Int32)) (H : Heap) (locs : List Loc) (ls : Array Slot), va_P (dC, dI) vwCl (wX1_startFromNet h0 h1 h2 h3 kc2 kc3 V0 V1 c2 c3) H → va_D A (wX1_startFromNet h0 h1 h2 h3 kc2 kc3 V0 V1 c2 c3) → va_S A s.heap H locs → lv_has ls 3 [(0, .ref h0), (1, .int y1), (2, .int y2)] → fX1_startFromNet_l11 c2 k2 n y1 y2 c3 = some o → G 0 0 H locs (F0 m 11 ls []) := by
    intro k2 hk2 n
    induction n with
    | zero => intro y1 y2 c3 H locs ls _ _ _ _ hf; cases hf
    | succ n ih => exact B11 k2 hk2 _ ih
  have B2 : ∀ (k2 : Int32 → (Nat → Int32) → Option ((Nat → Int32))) (hk2 : ∀ (y1 : Int32) (c3 : (Nat → Int32)) (H : Heap) (locs : List Loc) (ls : Array Slot), va_P (dC, dI) vwCl (wX1_startFromNet h0 h1 h2 h3 kc2 kc3 V0 V1 c2 c3) H → va_D A (wX1_startFromNet h0 h1 h2 h3 kc2 kc3 V0 V1 c2 c3) → va_S A s.heap H locs → lv_has ls 3 [(0, .ref h0), (1, .int y1)] → k2 y1 c3 = some o → G 0 0 H locs (F0 m 2 ls [])), ∀ (y1 : Int32) (c3 : (Nat → Int32)) (H : Heap) (locs : List Loc) (ls : Array Slot), va_P (dC, dI) vwCl (wX1_startFromNet h0 h1 h2 h3 kc2 kc3 V0 V1 c2 c3) H → va_D A (wX1_startFromNet h0 h1 h2 h3 kc2 kc3 V0 V1 c2 c3) → va_S A s.heap H locs → lv_has ls 3 [(0, .ref h0), (1, .int y1)] → fX1_startFromNet_b2 c2  k2 y1 c3 = some o → G 0 0 H locs (F0 m 2 ls []) := by
    intro  k2 hk2 y1 c3 H locs ls hP hD hS hl hf
    refine (hG _ _ _ _ _).mpr ?_
    unfold fX1_startFromNet_b2 at hf
    refine lv_iload_n hx hb dX1_startFromNet_2 rfl (lv_at hl 1 rfl) ?_
    refine lv_sipush (v := 192) hx hb dX1_startFromNet_3 (by decide +kernel) ?_
    refine lv_icmp_ge (tgt := 62) hx hb dX1_startFromNet_6 (by decide) (fun cq12 => ?_) (fun cq12 => ?_)
    · replace hf := if_at hf cq12
      have hf1 := Option.some.inj hf
      subst hf1
      have hP9 := hP.sub (ws' := (wX1_startFromNet h0 h1 h2 h3 kc2 kc3 V0 V1 c2 c3)) [0, 1, 2, 3] rfl
      have hD9 := hD.sub (ws' := (wX1_startFromNet h0 h1 h2 h3 kc2 kc3 V0 V1 c2 c3)) [0, 1, 2, 3] (by decide) rfl
      exact W.vret hx hb hr (fun t ht hW => ⟨⟨c3, rfl, rfl, by rw [ht]; exact hP9, va_K.moved hW.alike hK, hD9⟩, hS.F ht⟩) hS.2.2 dX1_startFromNet_62
    · replace hf := if_no hf cq12
      refine lv_iconst (v := 0) hx hb dX1_startFromNet_9 (by decide +kernel) ?_
      refine lv_istore_n (lv' := [(2, .int 0), (0, .ref h0), (1, .int y1)]) hx hb dX1_startFromNet_10 rfl hl (by decide) rfl (fun ls hl => ?_)
      exact (hG _ _ _ _ _).mp (L11 k2 hk2 FU y1 0 c3 H locs ls (hP.sub [0, 1, 2, 3] rfl) (hD.sub [0, 1, 2, 3] (by decide) rfl) hS (lv_sub hl [1, 2, 0] rfl) hf)
  have L2 : ∀ (n : Nat), ∀ (y1 : Int32) (c3 : (Nat → Int32)) (H : Heap) (locs : List Loc) (ls : Array Slot), va_P (dC, dI) vwCl (wX1_startFromNet h0 h1 h2 h3 kc2 kc3 V0 V1 c2 c3) H → va_D A (wX1_startFromNet h0 h1 h2 h3 kc2 kc3 V0 V1 c2 c3) → va_S A s.heap H locs → lv_has ls 3 [(0, .ref h0), (1, .int y1)] → fX1_startFromNet_l2 c2  n y1 c3 = some o → G 0 0 H locs (F0 m 2 ls []) := by
    intro  n
    induction n with
    | zero => intro y1 c3 H locs ls _ _ _ _ hf; cases hf
    | succ n ih => exact B2  _ ih
  refine (hG _ _ _ _ _).mpr ?_
  obtain ⟨H, hH⟩ : ∃ H, H = s.heap := ⟨_, rfl⟩
  have hS : va_S A s.heap H [] := by rw [hH]; exact hS
  rw [← hH] at hP ⊢
  generalize ([] : List Loc) = locs at hS ⊢
  unfold fX1_startFromNet at hf
  refine lv_iconst (v := 0) hx hb dX1_startFromNet_0 (by decide +kernel) ?_
  refine lv_istore_n (lv' := [(1, .int 0), (0, .ref h0)]) hx hb dX1_startFromNet_1 rfl hl (by decide) rfl (fun ls hl => ?_)
  exact (hG _ _ _ _ _).mp (L2 FU 0 c3 H locs ls (hP.sub [0, 1, 2, 3] rfl) (hD.sub [0, 1, 2, 3] (by decide) rfl) hS (lv_sub hl [1, 0] rfl) hf)
set_option maxHeartbeats 4000000 in
set_option maxRecDepth 100000 in
theorem mX1_row (l : Launch) (dC : Nat → ClassId) (dI : Nat → Nat → Nat) (sz : Nat) (base : Nat × Nat × Nat) (a0 : Int32) (a1 : Int32) (o : Int32 × Unit) (hf : fX1_row a0 a1 = some o) : Met l yX1_row (.code yX1_row cX1_row 2 (some .int) :: wsL_law) ({ frames := 0, cells := 0, slots := 0, locals := 0 }) (cPre (dC, dI) vwCl [.int a0, .int a1] sz base [] []) (va_Qi (fun r u => r = o.1 ∧ u = o.2) (fun (u : Unit) t => cPost (dC, dI) vwCl (va_A [] sz) [] [] t) (va_A [] sz)) 0 0 (va_A [] sz) := by
  refine Met.ofW (cc := cX1_row) (maxL := 2) (ret := (some .int)) (by decide) rfl ?_
  intro p e s m args below meth c s₁ B hml hv
  obtain ⟨rfl, hsz, hP, hK, hD0, hE⟩ := hv
  have hx := B.exec
  have hb := B.bytes
  have hr := B.returns
  have hts : ∀ w ∈ wsL_law, _ := fun w h => atoms_spec (ws := .code yX1_row cX1_row 2 (some .int) :: wsL_law) B.pre w (List.mem_cons_of_mem _ h)
  have hown : s.vm.findClass RX1 = some m.cls := findClass_of_methodNamed B.named
  have hlocks := B.notSynchronized
  skip
  subst hsz
  have hD := hD0.self (sz := s.heap.size)
  generalize hAe : va_A [] s.heap.size = A at hD ⊢
  have hA : ∀ q : Nat, s.heap.size ≤ q → A q := fun q h => by rw [← hAe]; exact Or.inr h
  have hAB : ∀ q : Nat, A q → base.1 ≤ q := fun q h => by rw [← hAe] at h; exact h.elim (fun ⟨k, e, hk⟩ => hD0.2 k _ hk) (fun hk => Nat.le_trans hE.1 hk)
  have hS : va_S A s.heap s.heap [] := va_S.rf
  have hl := lv_entry ([.int a0, .int a1]) (n := 2) (Nat.le_of_ble_eq_true rfl)
  rw [lg_entry_eq]
  generalize (lg_sl ([.int a0, .int a1]) ++ List.replicate (2 - (lg_sl ([.int a0, .int a1])).length) Slot.unset).toArray = ls at hl ⊢
  have hl : lv_has ls 2 [(0, .int a0), (1, .int a1)] := hl
  have hP : va_P (dC, dI) vwCl [] s.heap := hP
  obtain ⟨H, hH⟩ : ∃ H, H = s.heap := ⟨_, rfl⟩
  have hS : va_S A s.heap H [] := by rw [hH]; exact hS
  rw [← hH] at hP ⊢
  generalize ([] : List Loc) = locs at hS ⊢
  unfold fX1_row at hf
  refine lv_iload_n hx hb dX1_row_0 rfl (lv_at hl 0 rfl) ?_
  refine lv_bipush (v := 12) hx hb dX1_row_1 (by decide +kernel) ?_
  refine lv_imul hx hb dX1_row_3 ?_
  refine lv_topi (fun x1 e1 => ?_)
  replace hf := nm_at hf e1
  refine lv_iload_n hx hb dX1_row_4 rfl (lv_at hl 1 rfl) ?_
  refine lv_iadd hx hb dX1_row_5 ?_
  refine lv_topi (fun x2 e2 => ?_)
  replace hf := nm_at hf e2
  refine lv_bipush (v := 16) hx hb dX1_row_6 (by decide +kernel) ?_
  refine lv_imul hx hb dX1_row_8 ?_
  refine lv_topi (fun x3 e3 => ?_)
  replace hf := nm_at hf e3
  have hf1 := Option.some.inj hf
  subst hf1
  have hP9 := hP.sub (ws' := []) [] rfl
  have hD9 := hD.sub (ws' := []) [] (by decide) rfl
  exact W.iret (v := x3) hx hb hr (fun t ht hW => ⟨⟨x3, (), rfl, ⟨rfl, rfl⟩, by rw [ht]; exact hP9, va_K.moved hW.alike hK, hD9⟩, hS.F ht⟩) hS.2.2 dX1_row_9
abbrev wX1_lower (h0 h1 : Nat) (kc1 : ClassId) (V0 : Nat → Value) (c1 : Nat → Int32) : va_W := [(h0, .inr (1, [.ref h1, V0 1, V0 2])), (h1, .inl (kc1, 3072, .inl c1))]
set_option maxHeartbeats 4000000 in
set_option maxRecDepth 100000 in
theorem mX1_lower (l : Launch) (dC : Nat → ClassId) (dI : Nat → Nat → Nat) (h0 h1 : Nat) (kc1 : ClassId) (sz : Nat) (base : Nat × Nat × Nat) (a0 : Int32) (a1 : Int32) (c1 : Nat → Int32) (V0 : Nat → Value) (o : Int32 × (Nat → Int32)) (hf : fX1_lower a0 a1 c1 = some o) : Met l yX1_lower (.code yX1_lower cX1_lower 4 (some .boolean) :: wsL_law) ({ frames := 1, cells := 0, slots := 0, locals := 21 }) (cPre (dC, dI) vwCl [.ref h0, .int a0, .int a1] sz base (wX1_lower h0 h1 kc1 V0 c1) [(kc1, .int)]) (va_Qi (fun r u => r = o.1 ∧ u = o.2) (fun (u : (Nat → Int32)) t => cPost (dC, dI) vwCl (va_A (wX1_lower h0 h1 kc1 V0 c1) sz) (wX1_lower h0 h1 kc1 V0 u) [(kc1, .int)] t) (va_A (wX1_lower h0 h1 kc1 V0 c1) sz)) 0 0 (va_A (wX1_lower h0 h1 kc1 V0 c1) sz) := by
  refine Met.ofW (cc := cX1_lower) (maxL := 4) (ret := (some .boolean)) (by decide) rfl ?_
  intro p e s m args below meth c s₁ B hml hv
  obtain ⟨rfl, hsz, hP, hK, hD0, hE⟩ := hv
  have hx := B.exec
  have hb := B.bytes
  have hr := B.returns
  have hts : ∀ w ∈ wsL_law, _ := fun w h => atoms_spec (ws := .code yX1_lower cX1_lower 4 (some .boolean) :: wsL_law) B.pre w (List.mem_cons_of_mem _ h)
  have hown : s.vm.findClass RX1 = some m.cls := findClass_of_methodNamed B.named
  have hlocks := B.notSynchronized
  have w0_ := hts _ q290
  have w1_ := hts _ q315
  have w2_ := hts _ q316
  have w3_ := hts _ q280
  have w4_ := hts _ q317
  have w5_ := hts _ q270
  subst hsz
  have hD := hD0.self (sz := s.heap.size)
  generalize hAe : va_A (wX1_lower h0 h1 kc1 V0 c1) s.heap.size = A at hD ⊢
  have hA : ∀ q : Nat, s.heap.size ≤ q → A q := fun q h => by rw [← hAe]; exact Or.inr h
  have hAB : ∀ q : Nat, A q → base.1 ≤ q := fun q h => by rw [← hAe] at h; exact h.elim (fun ⟨k, e, hk⟩ => hD0.2 k _ hk) (fun hk => Nat.le_trans hE.1 hk)
  have hS : va_S A s.heap s.heap [] := va_S.rf
  have hl := lv_entry ([.ref h0, .int a0, .int a1]) (n := 4) (Nat.le_of_ble_eq_true rfl)
  rw [lg_entry_eq]
  generalize (lg_sl ([.ref h0, .int a0, .int a1]) ++ List.replicate (4 - (lg_sl ([.ref h0, .int a0, .int a1])).length) Slot.unset).toArray = ls at hl ⊢
  have hl : lv_has ls 4 [(0, .ref h0), (1, .int a0), (2, .int a1)] := hl
  have hP : va_P (dC, dI) vwCl (wX1_lower h0 h1 kc1 V0 c1) s.heap := hP
  obtain ⟨H, hH⟩ : ∃ H, H = s.heap := ⟨_, rfl⟩
  have hS : va_S A s.heap H [] := by rw [hH]; exact hS
  rw [← hH] at hP ⊢
  generalize ([] : List Loc) = locs at hS ⊢
  unfold fX1_lower at hf
  refine lv_iload_n hx hb dX1_lower_0 rfl (lv_at hl 2 rfl) ?_
  refine lv_ldc (v := 1000000) hx hb hown w0_ dX1_lower_1 ?_
  refine va_mmin hx hb (by rw [hml]; exact hl.1.symm) hown w1_ w2_ w3_ w4_ (Nat.le_of_ble_eq_true rfl) (Nat.le_of_ble_eq_true rfl) (Nat.zero_le _) (Nat.zero_le _) dX1_lower_3 ?_
  refine lv_topi (fun x1 e1 => ?_)
  replace hf := nm_at hf e1
  refine lv_istore_n (lv' := [(3, .int x1), (0, .ref h0), (1, .int a0), (2, .int a1)]) hx hb dX1_lower_6 rfl hl (by decide) rfl (fun ls hl => ?_)
  refine lv_iload_n hx hb dX1_lower_7 rfl (lv_at hl 0 rfl) ?_
  refine lv_aload_n hx hb dX1_lower_8 rfl (lv_at hl 1 rfl) ?_
  refine va_get (D := (dC, dI)) (ci := 1) (v := .ref h1) (C := RX1) (T := TX1) (N := 3) hx hb hts inlX1 hown hK hP 0 rfl rfl 0 (by decide) w5_ (fun _ h9 => h9) rfl dX1_lower_9 ?_
  refine lv_iload_n hx hb dX1_lower_12 rfl (lv_at hl 2 rfl) ?_
  have b2 := bd_in hf
  replace hf := bd_k hf
  refine va_iald hx hb hK hP 1 0 rfl rfl b2 dX1_lower_13 ?_
  refine lv_topi (fun x3 e3 => ?_)
  replace hf := nm_at hf e3
  refine lv_icmp_lt (tgt := 19) hx hb dX1_lower_14 (by decide) (fun cq4 => ?_) (fun cq4 => ?_)
  · replace hf := if_at hf cq4
    refine lv_aload_n hx hb dX1_lower_19 rfl (lv_at hl 1 rfl) ?_
    refine va_get (D := (dC, dI)) (ci := 1) (v := .ref h1) (C := RX1) (T := TX1) (N := 3) hx hb hts inlX1 hown hK hP 0 rfl rfl 0 (by decide) w5_ (fun _ h9 => h9) rfl dX1_lower_20 ?_
    refine lv_iload_n hx hb dX1_lower_23 rfl (lv_at hl 2 rfl) ?_
    refine lv_iload_n hx hb dX1_lower_24 rfl (lv_at hl 0 rfl) ?_
    have b5 := bd_in hf
    replace hf := bd_k hf
    obtain ⟨c5x, e5⟩ : ∃ y, y = upd c1 a0.toNatClampNeg x1 := ⟨_, rfl⟩
    replace hf := nm_at hf e5
    refine va_iast hx hb hK hP hD hS 1 0 rfl rfl b5 dX1_lower_25 (fun H locs hP hD hS => ?_)
    have hP : va_P (dC, dI) vwCl (wX1_lower h0 h1 kc1 V0 c5x) H := by rw [e5]; exact hP
    have hD : va_D A (wX1_lower h0 h1 kc1 V0 c5x) := by rw [e5]; exact hD
    refine lv_iconst (v := 1) hx hb dX1_lower_26 (by decide +kernel) ?_
    have hf1 := Option.some.inj hf
    subst hf1
    have hP9 := hP.sub (ws' := (wX1_lower h0 h1 kc1 V0 c5x)) [0, 1] rfl
    have hD9 := hD.sub (ws' := (wX1_lower h0 h1 kc1 V0 c5x)) [0, 1] (by decide) rfl
    exact W.zret (v := 1) (ty := .boolean) hx hb hr rfl (fun t ht hW => ⟨⟨1, c5x, rfl, ⟨rfl, rfl⟩, by rw [ht]; exact hP9, va_K.moved hW.alike hK, hD9⟩, hS.F ht⟩) hS.2.2 dX1_lower_27
  · replace hf := if_no hf cq4
    refine lv_iconst (v := 0) hx hb dX1_lower_17 (by decide +kernel) ?_
    have hf1 := Option.some.inj hf
    subst hf1
    have hP9 := hP.sub (ws' := (wX1_lower h0 h1 kc1 V0 c1)) [0, 1] rfl
    have hD9 := hD.sub (ws' := (wX1_lower h0 h1 kc1 V0 c1)) [0, 1] (by decide) rfl
    exact W.zret (v := 0) (ty := .boolean) hx hb hr rfl (fun t ht hW => ⟨⟨0, c1, rfl, ⟨rfl, rfl⟩, by rw [ht]; exact hP9, va_K.moved hW.alike hK, hD9⟩, hS.F ht⟩) hS.2.2 dX1_lower_18
abbrev wX1_lowerRow (h0 h1 : Nat) (kc1 : ClassId) (V0 : Nat → Value) (c1 : Nat → Int32) : va_W := [(h0, .inr (1, [.ref h1, V0 1, V0 2])), (h1, .inl (kc1, 3072, .inl c1))]
set_option maxHeartbeats 4000000 in
set_option maxRecDepth 100000 in
theorem mX1_lowerRow (l : Launch) (dC : Nat → ClassId) (dI : Nat → Nat → Nat) (h0 h1 : Nat) (kc1 : ClassId) (sz : Nat) (base : Nat × Nat × Nat) (a0 : Int32) (a1 : Int32) (a2 : Int32) (c1 : Nat → Int32) (V0 : Nat → Value) (o : Int32 × (Nat → Int32)) (hf : fX1_lowerRow a0 a1 a2 c1 = some o) : Met l yX1_lowerRow (.code yX1_lowerRow cX1_lowerRow 6 (some .boolean) :: wsL_law) ({ frames := 2, cells := 0, slots := 0, locals := 44 }) (cPre (dC, dI) vwCl [.ref h0, .int a0, .int a1, .int a2] sz base (wX1_lowerRow h0 h1 kc1 V0 c1) [(kc1, .int)]) (va_Qi (fun r u => r = o.1 ∧ u = o.2) (fun (u : (Nat → Int32)) t => cPost (dC, dI) vwCl (va_A (wX1_lowerRow h0 h1 kc1 V0 c1) sz) (wX1_lowerRow h0 h1 kc1 V0 u) [(kc1, .int)] t) (va_A (wX1_lowerRow h0 h1 kc1 V0 c1) sz)) 0 0 (va_A (wX1_lowerRow h0 h1 kc1 V0 c1) sz) := by
  refine Met.ofW (cc := cX1_lowerRow) (maxL := 6) (ret := (some .boolean)) (by decide) rfl ?_
  intro p e s m args below meth c s₁ B hml hv
  obtain ⟨rfl, hsz, hP, hK, hD0, hE⟩ := hv
  have hx := B.exec
  have hb := B.bytes
  have hr := B.returns
  have hts : ∀ w ∈ wsL_law, _ := fun w h => atoms_spec (ws := .code yX1_lowerRow cX1_lowerRow 6 (some .boolean) :: wsL_law) B.pre w (List.mem_cons_of_mem _ h)
  have hown : s.vm.findClass RX1 = some m.cls := findClass_of_methodNamed B.named
  have hlocks := B.notSynchronized
  have w0_ := hts _ q270
  have w1_ := hts _ q297
  subst hsz
  have hD := hD0.self (sz := s.heap.size)
  generalize hAe : va_A (wX1_lowerRow h0 h1 kc1 V0 c1) s.heap.size = A at hD ⊢
  have hA : ∀ q : Nat, s.heap.size ≤ q → A q := fun q h => by rw [← hAe]; exact Or.inr h
  have hAB : ∀ q : Nat, A q → base.1 ≤ q := fun q h => by rw [← hAe] at h; exact h.elim (fun ⟨k, e, hk⟩ => hD0.2 k _ hk) (fun hk => Nat.le_trans hE.1 hk)
  have hS : va_S A s.heap s.heap [] := va_S.rf
  have hl := lv_entry ([.ref h0, .int a0, .int a1, .int a2]) (n := 6) (Nat.le_of_ble_eq_true rfl)
  rw [lg_entry_eq]
  generalize (lg_sl ([.ref h0, .int a0, .int a1, .int a2]) ++ List.replicate (6 - (lg_sl ([.ref h0, .int a0, .int a1, .int a2])).length) Slot.unset).toArray = ls at hl ⊢
  have hl : lv_has ls 6 [(0, .ref h0), (1, .int a0), (2, .int a1), (3, .int a2)] := hl
  have hP : va_P (dC, dI) vwCl (wX1_lowerRow h0 h1 kc1 V0 c1) s.heap := hP
  refine gl_intro (fun G hG => ?_)
  have J51 : ∀ (k6 : Int32 → Int32 → Int32 → Int32 → Int32 → (Nat → Int32) → Option (Int32 × (Nat → Int32))) (hk6 : ∀ (y1 : Int32) (y2 : Int32) (y3 : Int32) (y4 : Int32) (y5 : Int32) (c1 : (Nat → Int32)) (H : Heap) (locs : List Loc) (ls : Array Slot), va_P (dC, dI) vwCl (wX1_lowerRow h0 h1 kc1 V0 c1) H → va_D A (wX1_lowerRow h0 h1 kc1 V0 c1) → va_S A s.heap H locs → lv_has ls 6 [(0, .ref h0), (1, .int y1), (2, .int y2), (3, .int y3), (4, .int y4), (5, .int y5)] → k6 y1 y2 y3 y4 y5 c1 = some o → G 0 0 H locs (F0 m 6 ls [])), ∀ (y1 : Int32) (y2 : Int32) (y3 : Int32) (y4 : Int32) (y5 : Int32) (c1 : (Nat → Int32)) (H : Heap) (locs : List Loc) (ls : Array Slot), va_P (dC, dI) vwCl (wX1_lowerRow h0 h1 kc1 V0 c1) H → va_D A (wX1_lowerRow h0 h1 kc1 V0 c1) → va_S A s.heap H locs → lv_has ls 6 [(0, .ref h0), (1, .int y1), (2, .int y2), (3, .int y3), (4, .int y4), (5, .int y5)] → fX1_lowerRow_p51  k6 y1 y2 y3 y4 y5 c1 = some o → G 0 0 H locs (F0 m 51 ls []) := by
    intro k6 hk6 y1 y2 y3 y4 y5 c1 H locs ls hP hD hS hl hf
    refine (hG _ _ _ _ _).mpr ?_
    unfold fX1_lowerRow_p51 at hf
    obtain ⟨x1, e1⟩ : ∃ y : Int32, y = y5 + 1 := ⟨_, rfl⟩
    replace hf := nm_at hf e1
    refine lv_iinc (v := x1) (lv' := [(5, .int x1), (0, .ref h0), (1, .int y1), (2, .int y2), (3, .int y3), (4, .int y4)]) hx hb dX1_lowerRow_51 hl (k := 5) rfl (by rw [e1]; rfl) (by decide) rfl (fun ls hl => ?_)
    refine lv_goto (tgt := 6) hx hb dX1_lowerRow_54 (by decide) ?_
    exact (hG _ _ _ _ _).mp (hk6 y1 y2 y3 y4 x1 c1 H locs ls (hP.sub [0, 1] rfl) (hD.sub [0, 1] (by decide) rfl) hS (lv_sub hl [1, 2, 3, 4, 5, 0] rfl) hf)
  have B6 : ∀ (k6 : Int32 → Int32 → Int32 → Int32 → Int32 → (Nat → Int32) → Option (Int32 × (Nat → Int32))) (hk6 : ∀ (y1 : Int32) (y2 : Int32) (y3 : Int32) (y4 : Int32) (y5 : Int32) (c1 : (Nat → Int32)) (H : Heap) (locs : List Loc) (ls : Array Slot), va_P (dC, dI) vwCl (wX1_lowerRow h0 h1 kc1 V0 c1) H → va_D A (wX1_lowerRow h0 h1 kc1 V0 c1) → va_S A s.heap H locs → lv_has ls 6 [(0, .ref h0), (1, .int y1), (2, .int y2), (3, .int y3), (4, .int y4), (5, .int y5)] → k6 y1 y2 y3 y4 y5 c1 = some o → G 0 0 H locs (F0 m 6 ls [])), ∀ (y1 : Int32) (y2 : Int32) (y3 : Int32) (y4 : Int32) (y5 : Int32) (c1 : (Nat → Int32)) (H : Heap) (locs : List Loc) (ls : Array Slot), va_P (dC, dI) vwCl (wX1_lowerRow h0 h1 kc1 V0 c1) H → va_D A (wX1_lowerRow h0 h1 kc1 V0 c1) → va_S A s.heap H locs → lv_has ls 6 [(0, .ref h0), (1, .int y1), (2, .int y2), (3, .int y3), (4, .int y4), (5, .int y5)] → fX1_lowerRow_b6   k6 y1 y2 y3 y4 y5 c1 = some o → G 0 0 H locs (F0 m 6 ls []) := by
    intro  k6 hk6 y1 y2 y3 y4 y5 c1 H locs ls hP hD hS hl hf
    refine (hG _ _ _ _ _).mpr ?_
    unfold fX1_lowerRow_b6 at hf
    refine lv_iload hx hb dX1_lowerRow_6 (lv_at hl 5 rfl) ?_
    refine lv_bipush (v := 16) hx hb dX1_lowerRow_8 (by decide +kernel) ?_
    refine lv_icmp_ge (tgt := 57) hx hb dX1_lowerRow_10 (by decide) (fun cq2 => ?_) (fun cq2 => ?_)
    · replace hf := if_at hf cq2
      refine lv_iload hx hb dX1_lowerRow_57 (lv_at hl 4 rfl) ?_
      have b3 := bd_b hf
      replace hf := bd_k hf
      have hf1 := Option.some.inj hf
      subst hf1
      have hP9 := hP.sub (ws' := (wX1_lowerRow h0 h1 kc1 V0 c1)) [0, 1] rfl
      have hD9 := hD.sub (ws' := (wX1_lowerRow h0 h1 kc1 V0 c1)) [0, 1] (by decide) rfl
      exact W.zret (v := y4) (ty := .boolean) hx hb hr (bz_nar b3) (fun t ht hW => ⟨⟨y4, c1, rfl, ⟨rfl, rfl⟩, by rw [ht]; exact hP9, va_K.moved hW.alike hK, hD9⟩, hS.F ht⟩) hS.2.2 dX1_lowerRow_59
    · replace hf := if_no hf cq2
      refine lv_aload_n hx hb dX1_lowerRow_13 rfl (lv_at hl 0 rfl) ?_
      refine va_get (D := (dC, dI)) (ci := 1) (v := .ref h1) (C := RX1) (T := TX1) (N := 3) hx hb hts inlX1 hown hK hP 0 rfl rfl 0 (by decide) w0_ (fun _ h9 => h9) rfl dX1_lowerRow_14 ?_
      refine lv_iload_n hx hb dX1_lowerRow_17 rfl (lv_at hl 2 rfl) ?_
      refine lv_iload hx hb dX1_lowerRow_18 (lv_at hl 5 rfl) ?_
      refine lv_iadd hx hb dX1_lowerRow_20 ?_
      refine lv_topi (fun x4 e4 => ?_)
      replace hf := nm_at hf e4
      have b5 := bd_in hf
      replace hf := bd_k hf
      refine va_iald hx hb hK hP 1 0 rfl rfl b5 dX1_lowerRow_21 ?_
      refine lv_topi (fun x6 e6 => ?_)
      replace hf := nm_at hf e6
      refine lv_ldc (v := 536870912) hx hb hown w1_ dX1_lowerRow_22 ?_
      refine lv_icmp_ge (tgt := 51) hx hb dX1_lowerRow_24 (by decide) (fun cq7 => ?_) (fun cq7 => ?_)
      · replace hf := if_at hf cq7
        exact (hG _ _ _ _ _).mp (J51 k6 hk6 y1 y2 y3 y4 y5 c1 H locs ls (hP.sub [0, 1] rfl) (hD.sub [0, 1] (by decide) rfl) hS (lv_sub hl [0, 1, 2, 3, 4, 5] rfl) hf)
      · replace hf := if_no hf cq7
        refine lv_iload hx hb dX1_lowerRow_27 (lv_at hl 4 rfl) ?_
        refine lv_aload_n hx hb dX1_lowerRow_29 rfl (lv_at hl 0 rfl) ?_
        refine lv_iload_n hx hb dX1_lowerRow_30 rfl (lv_at hl 1 rfl) ?_
        refine lv_iload hx hb dX1_lowerRow_31 (lv_at hl 5 rfl) ?_
        refine lv_iadd hx hb dX1_lowerRow_33 ?_
        refine lv_topi (fun x8 e8 => ?_)
        replace hf := nm_at hf e8
        refine lv_aload_n hx hb dX1_lowerRow_34 rfl (lv_at hl 0 rfl) ?_
        refine va_get (D := (dC, dI)) (ci := 1) (v := .ref h1) (C := RX1) (T := TX1) (N := 3) hx hb hts inlX1 hown hK hP 0 rfl rfl 0 (by decide) w0_ (fun _ h9 => h9) rfl dX1_lowerRow_35 ?_
        refine lv_iload_n hx hb dX1_lowerRow_38 rfl (lv_at hl 2 rfl) ?_
        refine lv_iload hx hb dX1_lowerRow_39 (lv_at hl 5 rfl) ?_
        refine lv_iadd hx hb dX1_lowerRow_41 ?_
        refine lv_topi (fun x9 e9 => ?_)
        replace hf := nm_at hf e9
        have b10 := bd_in hf
        replace hf := bd_k hf
        refine va_iald hx hb hK hP 1 0 rfl rfl b10 dX1_lowerRow_42 ?_
        refine lv_topi (fun x11 e11 => ?_)
        replace hf := nm_at hf e11
        refine lv_iload_n hx hb dX1_lowerRow_43 rfl (lv_at hl 3 rfl) ?_
        refine lv_iadd hx hb dX1_lowerRow_44 ?_
        refine lv_topi (fun x12 e12 => ?_)
        replace hf := nm_at hf e12
        obtain ⟨o13, e13, hf⟩ := ob_some hf
        refine kVi (As := [.int x8, .int x12]) (rest := [.int y4]) ⟨hx, hb, hml, hown, hts⟩ (mX1_lower l dC dI h0 h1 kc1 H.size base x8 x12 c1 V0 o13 e13) (cwV 2 hts (gTV q311 q312 q313 q261 q314) rfl rfl rfl (by decide +kernel) ⟨Nat.le_of_ble_eq_true rfl, Nat.le_of_ble_eq_true rfl⟩) hK hP hD hS hA hE hAB [0, 1] [] [0] (wr := []) rfl rfl (by decide) (by decide) (by decide) rfl (ci := 1) (q0 := 0) rfl rfl rfl rfl hl.1 rfl (Nat.le_of_ble_eq_true rfl) dX1_lowerRow_45 ⟨Nat.zero_le _, Nat.zero_le _⟩ (fun r13 u13 H locs hw13 hP hD hS => ?_)
        obtain ⟨hw131, hw132⟩ := hw13
        subst hw131 hw132
        have hP : va_P (dC, dI) vwCl (wX1_lowerRow h0 h1 kc1 V0 o13.2) H := hP.sub [0, 1] rfl
        have hD : va_D A (wX1_lowerRow h0 h1 kc1 V0 o13.2) := hD.sub [0, 1] (by decide) rfl
        refine lv_ior hx hb dX1_lowerRow_48 ?_
        refine lv_topi (fun x14 e14 => ?_)
        replace hf := nm_at hf e14
        refine lv_istore (lv' := [(4, .int x14), (0, .ref h0), (1, .int y1), (2, .int y2), (3, .int y3), (5, .int y5)]) hx hb dX1_lowerRow_49 hl (by decide) rfl (fun ls hl => ?_)
        exact (hG _ _ _ _ _).mp (J51 k6 hk6 y1 y2 y3 x14 y5 o13.2 H locs ls (hP.sub [0, 1] rfl) (hD.sub [0, 1] (by decide) rfl) hS (lv_sub hl [1, 2, 3, 4, 0, 5] rfl) hf)
  have L6 : ∀ (n : Nat), ∀ (y1 : Int32) (y2 : Int32) (y3 : Int32) (y4 : Int32) (y5 : Int32) (c1 : (Nat → Int32)) (H : Heap) (locs : List Loc) (ls : Array Slot), va_P (dC, dI) vwCl (wX1_lowerRow h0 h1 kc1 V0 c1) H → va_D A (wX1_lowerRow h0 h1 kc1 V0 c1) → va_S A s.heap H locs → lv_has ls 6 [(0, .ref h0), (1, .int y1), (2, .int y2), (3, .int y3), (4, .int y4), (5, .int y5)] → fX1_lowerRow_l6   n y1 y2 y3 y4 y5 c1 = some o → G 0 0 H locs (F0 m 6 ls []) := by
    intro  n
    induction n with
    | zero => intro y1 y2 y3 y4 y5 c1 H locs ls _ _ _ _ hf; cases hf
    | succ n ih => exact B6  _ ih
  refine (hG _ _ _ _ _).mpr ?_
  obtain ⟨H, hH⟩ : ∃ H, H = s.heap := ⟨_, rfl⟩
  have hS : va_S A s.heap H [] := by rw [hH]; exact hS
  rw [← hH] at hP ⊢
  generalize ([] : List Loc) = locs at hS ⊢
  unfold fX1_lowerRow at hf
  refine lv_iconst (v := 0) hx hb dX1_lowerRow_0 (by decide +kernel) ?_
  refine lv_istore (lv' := [(4, .int 0), (0, .ref h0), (1, .int a0), (2, .int a1), (3, .int a2)]) hx hb dX1_lowerRow_1 hl (by decide) rfl (fun ls hl => ?_)
  refine lv_iconst (v := 0) hx hb dX1_lowerRow_3 (by decide +kernel) ?_
  refine lv_istore (lv' := [(5, .int 0), (4, .int 0), (0, .ref h0), (1, .int a0), (2, .int a1), (3, .int a2)]) hx hb dX1_lowerRow_4 hl (by decide) rfl (fun ls hl => ?_)
  exact (hG _ _ _ _ _).mp (L6 FU a0 a1 a2 0 0 c1 H locs ls (hP.sub [0, 1] rfl) (hD.sub [0, 1] (by decide) rfl) hS (lv_sub hl [2, 3, 4, 5, 1, 0] rfl) hf)
abbrev wX1_useRule (h0 h1 h2 h3 h4 h5 h6 h7 h8 : Nat) (kc2 kc3 kc4 kc5 kc6 kc7 kc8 : ClassId) (V0 : Nat → Value) (V1 : Nat → Value) (c2 : Nat → Int32) (c3 : Nat → Int32) (c4 : Nat → Int32) (c5 : Nat → Int32) (c6 : Nat → Int32) (c7 : Nat → Int32) (c8 : Nat → Int32) : va_W := [(h0, .inr (1, [.ref h6, .ref h1, V0 2])), (h1, .inr (6, [.ref h2, .ref h3, .ref h5, .ref h4, .ref h7, .ref h8, V1 6, V1 7, V1 8, V1 9, V1 10, V1 11, V1 12, V1 13])), (h2, .inl (kc2, 48, .inl c2)), (h3, .inl (kc3, 48, .inl c3)), (h4, .inl (kc4, 48, .inl c4)), (h5, .inl (kc5, 48, .inl c5)), (h6, .inl (kc6, 3072, .inl c6)), (h7, .inl (kc7, 48, .inl c7)), (h8, .inl (kc8, 48, .inl c8))]
set_option maxHeartbeats 4000000 in
set_option maxRecDepth 100000 in
theorem mX1_useRule (l : Launch) (dC : Nat → ClassId) (dI : Nat → Nat → Nat) (h0 h1 h2 h3 h4 h5 h6 h7 h8 : Nat) (kc2 kc3 kc4 kc5 kc6 kc7 kc8 : ClassId) (sz : Nat) (base : Nat × Nat × Nat) (a0 : Int32) (c2 : Nat → Int32) (c3 : Nat → Int32) (c4 : Nat → Int32) (c5 : Nat → Int32) (c6 : Nat → Int32) (c7 : Nat → Int32) (c8 : Nat → Int32) (V0 : Nat → Value) (V1 : Nat → Value) (o : Int32 × (Nat → Int32)) (hf : fX1_useRule a0 c2 c3 c4 c5 c6 c7 c8 = some o) : Met l yX1_useRule (.code yX1_useRule cX1_useRule 7 (some .boolean) :: wsL_law) ({ frames := 3, cells := 0, slots := 0, locals := 69 }) (cPre (dC, dI) vwCl [.ref h0, .int a0] sz base (wX1_useRule h0 h1 h2 h3 h4 h5 h6 h7 h8 kc2 kc3 kc4 kc5 kc6 kc7 kc8 V0 V1 c2 c3 c4 c5 c6 c7 c8) [(kc2, .int), (kc3, .int), (kc4, .int), (kc5, .int), (kc6, .int), (kc7, .int), (kc8, .int)]) (va_Qi (fun r u => r = o.1 ∧ u = o.2) (fun (u : (Nat → Int32)) t => cPost (dC, dI) vwCl (va_A (wX1_useRule h0 h1 h2 h3 h4 h5 h6 h7 h8 kc2 kc3 kc4 kc5 kc6 kc7 kc8 V0 V1 c2 c3 c4 c5 c6 c7 c8) sz) (wX1_useRule h0 h1 h2 h3 h4 h5 h6 h7 h8 kc2 kc3 kc4 kc5 kc6 kc7 kc8 V0 V1 c2 c3 c4 c5 u c7 c8) [(kc2, .int), (kc3, .int), (kc4, .int), (kc5, .int), (kc6, .int), (kc7, .int), (kc8, .int)] t) (va_A (wX1_useRule h0 h1 h2 h3 h4 h5 h6 h7 h8 kc2 kc3 kc4 kc5 kc6 kc7 kc8 V0 V1 c2 c3 c4 c5 c6 c7 c8) sz)) 0 0 (va_A (wX1_useRule h0 h1 h2 h3 h4 h5 h6 h7 h8 kc2 kc3 kc4 kc5 kc6 kc7 kc8 V0 V1 c2 c3 c4 c5 c6 c7 c8) sz) := by
  refine Met.ofW (cc := cX1_useRule) (maxL := 7) (ret := (some .boolean)) (by decide) rfl ?_
  intro p e s m args below meth c s₁ B hml hv
  obtain ⟨rfl, hsz, hP, hK, hD0, hE⟩ := hv
  have hx := B.exec
  have hb := B.bytes
  have hr := B.returns
  have hts : ∀ w ∈ wsL_law, _ := fun w h => atoms_spec (ws := .code yX1_useRule cX1_useRule 7 (some .boolean) :: wsL_law) B.pre w (List.mem_cons_of_mem _ h)
  have hown : s.vm.findClass RX1 = some m.cls := findClass_of_methodNamed B.named
  have hlocks := B.notSynchronized
  have w0_ := hts _ q270
  have w1_ := hts _ q297
  have w2_ := hts _ q272
  have w3_ := hts _ q307
  have w4_ := hts _ q302
  have w5_ := hts _ q303
  have w6_ := hts _ q304
  have w7_ := hts _ q305
  have w8_ := hts _ q306
  subst hsz
  have hD := hD0.self (sz := s.heap.size)
  generalize hAe : va_A (wX1_useRule h0 h1 h2 h3 h4 h5 h6 h7 h8 kc2 kc3 kc4 kc5 kc6 kc7 kc8 V0 V1 c2 c3 c4 c5 c6 c7 c8) s.heap.size = A at hD ⊢
  have hA : ∀ q : Nat, s.heap.size ≤ q → A q := fun q h => by rw [← hAe]; exact Or.inr h
  have hAB : ∀ q : Nat, A q → base.1 ≤ q := fun q h => by rw [← hAe] at h; exact h.elim (fun ⟨k, e, hk⟩ => hD0.2 k _ hk) (fun hk => Nat.le_trans hE.1 hk)
  have hS : va_S A s.heap s.heap [] := va_S.rf
  have hl := lv_entry ([.ref h0, .int a0]) (n := 7) (Nat.le_of_ble_eq_true rfl)
  rw [lg_entry_eq]
  generalize (lg_sl ([.ref h0, .int a0]) ++ List.replicate (7 - (lg_sl ([.ref h0, .int a0])).length) Slot.unset).toArray = ls at hl ⊢
  have hl : lv_has ls 7 [(0, .ref h0), (1, .int a0)] := hl
  have hP : va_P (dC, dI) vwCl (wX1_useRule h0 h1 h2 h3 h4 h5 h6 h7 h8 kc2 kc3 kc4 kc5 kc6 kc7 kc8 V0 V1 c2 c3 c4 c5 c6 c7 c8) s.heap := hP
  refine gl_intro (fun G hG => ?_)
  have J153 : ∀ (k100 : Int32 → Int32 → Int32 → Int32 → Int32 → (Nat → Int32) → Option (Int32 × (Nat → Int32))) (hk100 : ∀ (y1 : Int32) (y2 : Int32) (y3 : Int32) (y4 : Int32) (y5 : Int32) (c6 : (Nat → Int32)) (H : Heap) (locs : List Loc) (ls : Array Slot), va_P (dC, dI) vwCl (wX1_useRule h0 h1 h2 h3 h4 h5 h6 h7 h8 kc2 kc3 kc4 kc5 kc6 kc7 kc8 V0 V1 c2 c3 c4 c5 c6 c7 c8) H → va_D A (wX1_useRule h0 h1 h2 h3 h4 h5 h6 h7 h8 kc2 kc3 kc4 kc5 kc6 kc7 kc8 V0 V1 c2 c3 c4 c5 c6 c7 c8) → va_S A s.heap H locs → lv_has ls 7 [(0, .ref h0), (1, .int y1), (2, .int y2), (3, .int y3), (4, .int y4), (5, .int y5)] → k100 y1 y2 y3 y4 y5 c6 = some o → G 0 0 H locs (F0 m 100 ls [])), ∀ (y1 : Int32) (y2 : Int32) (y3 : Int32) (y4 : Int32) (y5 : Int32) (c6 : (Nat → Int32)) (H : Heap) (locs : List Loc) (ls : Array Slot), va_P (dC, dI) vwCl (wX1_useRule h0 h1 h2 h3 h4 h5 h6 h7 h8 kc2 kc3 kc4 kc5 kc6 kc7 kc8 V0 V1 c2 c3 c4 c5 c6 c7 c8) H → va_D A (wX1_useRule h0 h1 h2 h3 h4 h5 h6 h7 h8 kc2 kc3 kc4 kc5 kc6 kc7 kc8 V0 V1 c2 c3 c4 c5 c6 c7 c8) → va_S A s.heap H locs → lv_has ls 7 [(0, .ref h0), (1, .int y1), (2, .int y2), (3, .int y3), (4, .int y4), (5, .int y5)] → fX1_useRule_p153 c2 c3 c4 c5 c7 c8 k100 y1 y2 y3 y4 y5 c6 = some o → G 0 0 H locs (F0 m 153 ls []) := by
    intro k100 hk100 y1 y2 y3 y4 y5 c6 H locs ls hP hD hS hl hf
    refine (hG _ _ _ _ _).mpr ?_
    unfold fX1_useRule_p153 at hf
    obtain ⟨x1, e1⟩ : ∃ y : Int32, y = y5 + 1 := ⟨_, rfl⟩
    replace hf := nm_at hf e1
    refine lv_iinc (v := x1) (lv' := [(5, .int x1), (0, .ref h0), (1, .int y1), (2, .int y2), (3, .int y3), (4, .int y4)]) hx hb dX1_useRule_153 hl (k := 5) rfl (by rw [e1]; rfl) (by decide) rfl (fun ls hl => ?_)
    refine lv_goto (tgt := 100) hx hb dX1_useRule_156 (by decide) ?_
    exact (hG _ _ _ _ _).mp (hk100 y1 y2 y3 y4 x1 c6 H locs ls (hP.sub [0, 1, 2, 3, 4, 5, 6, 7, 8] rfl) (hD.sub [0, 1, 2, 3, 4, 5, 6, 7, 8] (by decide) rfl) hS (lv_sub hl [1, 2, 3, 4, 5, 0] rfl) hf)
  have B100 : ∀ (k100 : Int32 → Int32 → Int32 → Int32 → Int32 → (Nat → Int32) → Option (Int32 × (Nat → Int32))) (hk100 : ∀ (y1 : Int32) (y2 : Int32) (y3 : Int32) (y4 : Int32) (y5 : Int32) (c6 : (Nat → Int32)) (H : Heap) (locs : List Loc) (ls : Array Slot), va_P (dC, dI) vwCl (wX1_useRule h0 h1 h2 h3 h4 h5 h6 h7 h8 kc2 kc3 kc4 kc5 kc6 kc7 kc8 V0 V1 c2 c3 c4 c5 c6 c7 c8) H → va_D A (wX1_useRule h0 h1 h2 h3 h4 h5 h6 h7 h8 kc2 kc3 kc4 kc5 kc6 kc7 kc8 V0 V1 c2 c3 c4 c5 c6 c7 c8) → va_S A s.heap H locs → lv_has ls 7 [(0, .ref h0), (1, .int y1), (2, .int y2), (3, .int y3), (4, .int y4), (5, .int y5)] → k100 y1 y2 y3 y4 y5 c6 = some o → G 0 0 H locs (F0 m 100 ls [])), ∀ (y1 : Int32) (y2 : Int32) (y3 : Int32) (y4 : Int32) (y5 : Int32) (c6 : (Nat → Int32)) (H : Heap) (locs : List Loc) (ls : Array Slot), va_P (dC, dI) vwCl (wX1_useRule h0 h1 h2 h3 h4 h5 h6 h7 h8 kc2 kc3 kc4 kc5 kc6 kc7 kc8 V0 V1 c2 c3 c4 c5 c6 c7 c8) H → va_D A (wX1_useRule h0 h1 h2 h3 h4 h5 h6 h7 h8 kc2 kc3 kc4 kc5 kc6 kc7 kc8 V0 V1 c2 c3 c4 c5 c6 c7 c8) → va_S A s.heap H locs → lv_has ls 7 [(0, .ref h0), (1, .int y1), (2, .int y2), (3, .int y3), (4, .int y4), (5, .int y5)] → fX1_useRule_b100 c2 c3 c4 c5 c7 c8  k100 y1 y2 y3 y4 y5 c6 = some o → G 0 0 H locs (F0 m 100 ls []) := by
    intro  k100 hk100 y1 y2 y3 y4 y5 c6 H locs ls hP hD hS hl hf
    refine (hG _ _ _ _ _).mpr ?_
    unfold fX1_useRule_b100 at hf
    refine lv_iload hx hb dX1_useRule_100 (lv_at hl 5 rfl) ?_
    refine lv_bipush (v := 16) hx hb dX1_useRule_102 (by decide +kernel) ?_
    refine lv_icmp_ge (tgt := 159) hx hb dX1_useRule_104 (by decide) (fun cq2 => ?_) (fun cq2 => ?_)
    · replace hf := if_at hf cq2
      refine lv_iload hx hb dX1_useRule_159 (lv_at hl 4 rfl) ?_
      have b3 := bd_b hf
      replace hf := bd_k hf
      have hf1 := Option.some.inj hf
      subst hf1
      have hP9 := hP.sub (ws' := (wX1_useRule h0 h1 h2 h3 h4 h5 h6 h7 h8 kc2 kc3 kc4 kc5 kc6 kc7 kc8 V0 V1 c2 c3 c4 c5 c6 c7 c8)) [0, 1, 2, 3, 4, 5, 6, 7, 8] rfl
      have hD9 := hD.sub (ws' := (wX1_useRule h0 h1 h2 h3 h4 h5 h6 h7 h8 kc2 kc3 kc4 kc5 kc6 kc7 kc8 V0 V1 c2 c3 c4 c5 c6 c7 c8)) [0, 1, 2, 3, 4, 5, 6, 7, 8] (by decide) rfl
      exact W.zret (v := y4) (ty := .boolean) hx hb hr (bz_nar b3) (fun t ht hW => ⟨⟨y4, c6, rfl, ⟨rfl, rfl⟩, by rw [ht]; exact hP9, va_K.moved hW.alike hK, hD9⟩, hS.F ht⟩) hS.2.2 dX1_useRule_161
    · replace hf := if_no hf cq2
      refine lv_aload_n hx hb dX1_useRule_107 rfl (lv_at hl 0 rfl) ?_
      refine va_get (D := (dC, dI)) (ci := 1) (v := .ref h6) (C := RX1) (T := TX1) (N := 3) hx hb hts inlX1 hown hK hP 0 rfl rfl 0 (by decide) w0_ (fun _ h9 => h9) rfl dX1_useRule_108 ?_
      refine lv_iload_n hx hb dX1_useRule_111 rfl (lv_at hl 3 rfl) ?_
      refine lv_iload hx hb dX1_useRule_112 (lv_at hl 5 rfl) ?_
      refine lv_iadd hx hb dX1_useRule_114 ?_
      refine lv_topi (fun x4 e4 => ?_)
      replace hf := nm_at hf e4
      have b5 := bd_in hf
      replace hf := bd_k hf
      refine va_iald hx hb hK hP 6 4 rfl rfl b5 dX1_useRule_115 ?_
      refine lv_topi (fun x6 e6 => ?_)
      replace hf := nm_at hf e6
      refine lv_istore (lv' := [(6, .int x6), (0, .ref h0), (1, .int y1), (2, .int y2), (3, .int y3), (4, .int y4), (5, .int y5)]) hx hb dX1_useRule_116 hl (by decide) rfl (fun ls hl => ?_)
      refine lv_iload hx hb dX1_useRule_118 (lv_at hl 0 rfl) ?_
      refine lv_ldc (v := 536870912) hx hb hown w1_ dX1_useRule_120 ?_
      refine lv_icmp_ge (tgt := 153) hx hb dX1_useRule_122 (by decide) (fun cq7 => ?_) (fun cq7 => ?_)
      · replace hf := if_at hf cq7
        exact (hG _ _ _ _ _).mp (J153 k100 hk100 y1 y2 y3 y4 y5 c6 H locs ls (hP.sub [0, 1, 2, 3, 4, 5, 6, 7, 8] rfl) (hD.sub [0, 1, 2, 3, 4, 5, 6, 7, 8] (by decide) rfl) hS (lv_sub hl [1, 2, 3, 4, 5, 6] rfl) hf)
      · replace hf := if_no hf cq7
        refine lv_iload hx hb dX1_useRule_125 (lv_at hl 5 rfl) ?_
        refine lv_aload_n hx hb dX1_useRule_127 rfl (lv_at hl 1 rfl) ?_
        refine lv_iload_n hx hb dX1_useRule_128 rfl (lv_at hl 3 rfl) ?_
        refine lv_iload hx hb dX1_useRule_129 (lv_at hl 6 rfl) ?_
        refine lv_aload_n hx hb dX1_useRule_131 rfl (lv_at hl 1 rfl) ?_
        refine va_get (D := (dC, dI)) (ci := 1) (v := .ref h1) (C := RX1) (T := TX1) (N := 3) hx hb hts inlX1 hown hK hP 0 rfl rfl 1 (by decide) w2_ (fun _ h9 => h9) rfl dX1_useRule_132 ?_
        refine va_get (D := (dC, dI)) (ci := 6) (v := .ref h8) (C := RX6) (T := TX6) (N := 14) hx hb hts inlX6 hown hK hP 1 rfl rfl 5 (by decide) w3_ (fun _ h9 => h9) rfl dX1_useRule_135 ?_
        refine lv_iload_n hx hb dX1_useRule_138 rfl (lv_at hl 2 rfl) ?_
        have b8 := bd_in hf
        replace hf := bd_k hf
        refine va_iald hx hb hK hP 8 6 rfl rfl b8 dX1_useRule_139 ?_
        refine lv_topi (fun x9 e9 => ?_)
        replace hf := nm_at hf e9
        obtain ⟨o10, e10, hf⟩ := ob_some hf
        refine kSi (As := [.int y5, .int x9]) (rest := [.int y2, .ref h0, .int y4]) ⟨hx, hb, hml, hown, hts⟩ (mX1_row l dC dI H.size base y5 x9 o10 e10) (va_cwS 2 hts (gTS q308 q309 q261 q310) rfl rfl rfl (by decide +kernel) ⟨Nat.le_of_ble_eq_true rfl, Nat.le_of_ble_eq_true rfl⟩) hK hP hD hS hA hE hAB [] [0, 1, 2, 3, 4, 5, 6, 7, 8] [] (wr := (wX1_useRule h0 h1 h2 h3 h4 h5 h6 h7 h8 kc2 kc3 kc4 kc5 kc6 kc7 kc8 V0 V1 c2 c3 c4 c5 c6 c7 c8)) rfl rfl (by decide) (by decide) (by decide) rfl rfl hl.1 rfl (Nat.le_of_ble_eq_true rfl) dX1_useRule_140 ⟨Nat.zero_le _, Nat.zero_le _⟩ (fun r10 u10 H locs hw10 hP hD hS => ?_)
        obtain ⟨hw101, hw102⟩ := hw10
        subst hw101 hw102
        have hP : va_P (dC, dI) vwCl (wX1_useRule h0 h1 h2 h3 h4 h5 h6 h7 h8 kc2 kc3 kc4 kc5 kc6 kc7 kc8 V0 V1 c2 c3 c4 c5 c6 c7 c8) H := hP.sub [0, 1, 2, 3, 4, 5, 6, 7, 8] rfl
        have hD : va_D A (wX1_useRule h0 h1 h2 h3 h4 h5 h6 h7 h8 kc2 kc3 kc4 kc5 kc6 kc7 kc8 V0 V1 c2 c3 c4 c5 c6 c7 c8) := hD.sub [0, 1, 2, 3, 4, 5, 6, 7, 8] (by decide) rfl
        refine lv_iload hx hb dX1_useRule_143 (lv_at hl 0 rfl) ?_
        refine lv_iconst (v := 1) hx hb dX1_useRule_145 (by decide +kernel) ?_
        refine lv_iadd hx hb dX1_useRule_146 ?_
        refine lv_topi (fun x11 e11 => ?_)
        replace hf := nm_at hf e11
        obtain ⟨o12, e12, hf⟩ := ob_some hf
        refine kVi (As := [.int y2, .int o10.1, .int x11]) (rest := [.int y4]) ⟨hx, hb, hml, hown, hts⟩ (mX1_lowerRow l dC dI h0 h6 kc6 H.size base y2 o10.1 x11 c6 (fun k => match k with | 1 => .ref h1 | k => V0 k) o12 e12) (cwV 3 hts (gTV q318 q319 q320 q261 q321) rfl rfl rfl (by decide +kernel) ⟨Nat.le_of_ble_eq_true rfl, Nat.le_of_ble_eq_true rfl⟩) hK hP hD hS hA hE hAB [0, 6] [1, 2, 3, 4, 5, 7, 8] [4] (wr := [(h1, .inr (6, [.ref h2, .ref h3, .ref h5, .ref h4, .ref h7, .ref h8, V1 6, V1 7, V1 8, V1 9, V1 10, V1 11, V1 12, V1 13])), (h2, .inl (kc2, 48, .inl c2)), (h3, .inl (kc3, 48, .inl c3)), (h4, .inl (kc4, 48, .inl c4)), (h5, .inl (kc5, 48, .inl c5)), (h7, .inl (kc7, 48, .inl c7)), (h8, .inl (kc8, 48, .inl c8))]) rfl rfl (by decide) (by decide) (by decide) rfl (ci := 1) (q0 := 0) rfl rfl rfl rfl hl.1 rfl (Nat.le_of_ble_eq_true rfl) dX1_useRule_147 ⟨Nat.zero_le _, Nat.zero_le _⟩ (fun r12 u12 H locs hw12 hP hD hS => ?_)
        obtain ⟨hw121, hw122⟩ := hw12
        subst hw121 hw122
        have hP : va_P (dC, dI) vwCl (wX1_useRule h0 h1 h2 h3 h4 h5 h6 h7 h8 kc2 kc3 kc4 kc5 kc6 kc7 kc8 V0 V1 c2 c3 c4 c5 o12.2 c7 c8) H := hP.sub [7, 0, 1, 2, 3, 4, 8, 5, 6] rfl
        have hD : va_D A (wX1_useRule h0 h1 h2 h3 h4 h5 h6 h7 h8 kc2 kc3 kc4 kc5 kc6 kc7 kc8 V0 V1 c2 c3 c4 c5 o12.2 c7 c8) := hD.sub [7, 0, 1, 2, 3, 4, 8, 5, 6] (by decide) rfl
        refine lv_ior hx hb dX1_useRule_150 ?_
        refine lv_topi (fun x13 e13 => ?_)
        replace hf := nm_at hf e13
        refine lv_istore (lv' := [(4, .int x13), (6, .int x6), (0, .ref h0), (1, .int y1), (2, .int y2), (3, .int y3), (5, .int y5)]) hx hb dX1_useRule_151 hl (by decide) rfl (fun ls hl => ?_)
        exact (hG _ _ _ _ _).mp (J153 k100 hk100 y1 y2 y3 x13 y5 o12.2 H locs ls (hP.sub [0, 1, 2, 3, 4, 5, 6, 7, 8] rfl) (hD.sub [0, 1, 2, 3, 4, 5, 6, 7, 8] (by decide) rfl) hS (lv_sub hl [2, 3, 4, 5, 0, 6] rfl) hf)
  have L100 : ∀ (n : Nat), ∀ (y1 : Int32) (y2 : Int32) (y3 : Int32) (y4 : Int32) (y5 : Int32) (c6 : (Nat → Int32)) (H : Heap) (locs : List Loc) (ls : Array Slot), va_P (dC, dI) vwCl (wX1_useRule h0 h1 h2 h3 h4 h5 h6 h7 h8 kc2 kc3 kc4 kc5 kc6 kc7 kc8 V0 V1 c2 c3 c4 c5 c6 c7 c8) H → va_D A (wX1_useRule h0 h1 h2 h3 h4 h5 h6 h7 h8 kc2 kc3 kc4 kc5 kc6 kc7 kc8 V0 V1 c2 c3 c4 c5 c6 c7 c8) → va_S A s.heap H locs → lv_has ls 7 [(0, .ref h0), (1, .int y1), (2, .int y2), (3, .int y3), (4, .int y4), (5, .int y5)] → fX1_useRule_l100 c2 c3 c4 c5 c7 c8  n y1 y2 y3 y4 y5 c6 = some o → G 0 0 H locs (F0 m 100 ls []) := by
    intro  n
    induction n with
    | zero => intro y1 y2 y3 y4 y5 c6 H locs ls _ _ _ _ hf; cases hf
    | succ n ih => exact B100  _ ih
  refine (hG _ _ _ _ _).mpr ?_
  obtain ⟨H, hH⟩ : ∃ H, H = s.heap := ⟨_, rfl⟩
  have hS : va_S A s.heap H [] := by rw [hH]; exact hS
  rw [← hH] at hP ⊢
  generalize ([] : List Loc) = locs at hS ⊢
  unfold fX1_useRule at hf
  refine lv_aload_n hx hb dX1_useRule_0 rfl (lv_at hl 0 rfl) ?_
  refine va_get (D := (dC, dI)) (ci := 1) (v := .ref h1) (C := RX1) (T := TX1) (N := 3) hx hb hts inlX1 hown hK hP 0 rfl rfl 1 (by decide) w2_ (fun _ h9 => h9) rfl dX1_useRule_1 ?_
  refine va_get (D := (dC, dI)) (ci := 6) (v := .ref h2) (C := RX6) (T := TX6) (N := 14) hx hb hts inlX6 hown hK hP 1 rfl rfl 0 (by decide) w4_ (fun _ h9 => h9) rfl dX1_useRule_4 ?_
  refine lv_iload_n hx hb dX1_useRule_7 rfl (lv_at hl 1 rfl) ?_
  have b14 := bd_in hf
  replace hf := bd_k hf
  refine va_iald hx hb hK hP 2 0 rfl rfl b14 dX1_useRule_8 ?_
  refine lv_topi (fun x15 e15 => ?_)
  replace hf := nm_at hf e15
  refine lv_aload_n hx hb dX1_useRule_9 rfl (lv_at hl 0 rfl) ?_
  refine va_get (D := (dC, dI)) (ci := 1) (v := .ref h1) (C := RX1) (T := TX1) (N := 3) hx hb hts inlX1 hown hK hP 0 rfl rfl 1 (by decide) w2_ (fun _ h9 => h9) rfl dX1_useRule_10 ?_
  refine va_get (D := (dC, dI)) (ci := 6) (v := .ref h3) (C := RX6) (T := TX6) (N := 14) hx hb hts inlX6 hown hK hP 1 rfl rfl 1 (by decide) w5_ (fun _ h9 => h9) rfl dX1_useRule_13 ?_
  refine lv_iload_n hx hb dX1_useRule_16 rfl (lv_at hl 1 rfl) ?_
  have b16 := bd_in hf
  replace hf := bd_k hf
  refine va_iald hx hb hK hP 3 1 rfl rfl b16 dX1_useRule_17 ?_
  refine lv_topi (fun x17 e17 => ?_)
  replace hf := nm_at hf e17
  obtain ⟨o18, e18, hf⟩ := ob_some hf
  refine kSi (As := [.int x15, .int x17]) (rest := []) ⟨hx, hb, hml, hown, hts⟩ (mX1_row l dC dI H.size base x15 x17 o18 e18) (va_cwS 2 hts (gTS q308 q309 q261 q310) rfl rfl rfl (by decide +kernel) ⟨Nat.le_of_ble_eq_true rfl, Nat.le_of_ble_eq_true rfl⟩) hK hP hD hS hA hE hAB [] [0, 1, 2, 3, 4, 5, 6, 7, 8] [] (wr := (wX1_useRule h0 h1 h2 h3 h4 h5 h6 h7 h8 kc2 kc3 kc4 kc5 kc6 kc7 kc8 V0 V1 c2 c3 c4 c5 c6 c7 c8)) rfl rfl (by decide) (by decide) (by decide) rfl rfl hl.1 rfl (Nat.le_of_ble_eq_true rfl) dX1_useRule_18 ⟨Nat.zero_le _, Nat.zero_le _⟩ (fun r18 u18 H locs hw18 hP hD hS => ?_)
  obtain ⟨hw181, hw182⟩ := hw18
  subst hw181 hw182
  have hP : va_P (dC, dI) vwCl (wX1_useRule h0 h1 h2 h3 h4 h5 h6 h7 h8 kc2 kc3 kc4 kc5 kc6 kc7 kc8 V0 V1 c2 c3 c4 c5 c6 c7 c8) H := hP.sub [0, 1, 2, 3, 4, 5, 6, 7, 8] rfl
  have hD : va_D A (wX1_useRule h0 h1 h2 h3 h4 h5 h6 h7 h8 kc2 kc3 kc4 kc5 kc6 kc7 kc8 V0 V1 c2 c3 c4 c5 c6 c7 c8) := hD.sub [0, 1, 2, 3, 4, 5, 6, 7, 8] (by decide) rfl
  refine lv_istore_n (lv' := [(2, .int o18.1), (0, .ref h0), (1, .int a0)]) hx hb dX1_useRule_21 rfl hl (by decide) rfl (fun ls hl => ?_)
  refine lv_aload_n hx hb dX1_useRule_22 rfl (lv_at hl 1 rfl) ?_
  refine va_get (D := (dC, dI)) (ci := 1) (v := .ref h1) (C := RX1) (T := TX1) (N := 3) hx hb hts inlX1 hown hK hP 0 rfl rfl 1 (by decide) w2_ (fun _ h9 => h9) rfl dX1_useRule_23 ?_
  refine va_get (D := (dC, dI)) (ci := 6) (v := .ref h4) (C := RX6) (T := TX6) (N := 14) hx hb hts inlX6 hown hK hP 1 rfl rfl 3 (by decide) w6_ (fun _ h9 => h9) rfl dX1_useRule_26 ?_
  refine lv_iload_n hx hb dX1_useRule_29 rfl (lv_at hl 2 rfl) ?_
  have b19 := bd_in hf
  replace hf := bd_k hf
  refine va_iald hx hb hK hP 4 2 rfl rfl b19 dX1_useRule_30 ?_
  refine lv_topi (fun x20 e20 => ?_)
  replace hf := nm_at hf e20
  refine lv_if_ne (tgt := 51) hx hb dX1_useRule_31 (by decide) (fun cq21 => ?_) (fun cq21 => ?_)
  · replace hf := if_no hf cq21
    refine lv_aload_n hx hb dX1_useRule_51 rfl (lv_at hl 1 rfl) ?_
    refine va_get (D := (dC, dI)) (ci := 1) (v := .ref h1) (C := RX1) (T := TX1) (N := 3) hx hb hts inlX1 hown hK hP 0 rfl rfl 1 (by decide) w2_ (fun _ h9 => h9) rfl dX1_useRule_52 ?_
    refine va_get (D := (dC, dI)) (ci := 6) (v := .ref h5) (C := RX6) (T := TX6) (N := 14) hx hb hts inlX6 hown hK hP 1 rfl rfl 2 (by decide) w7_ (fun _ h9 => h9) rfl dX1_useRule_55 ?_
    refine lv_iload_n hx hb dX1_useRule_58 rfl (lv_at hl 2 rfl) ?_
    have b22 := bd_in hf
    replace hf := bd_k hf
    refine va_iald hx hb hK hP 5 3 rfl rfl b22 dX1_useRule_59 ?_
    refine lv_topi (fun x23 e23 => ?_)
    replace hf := nm_at hf e23
    refine lv_aload_n hx hb dX1_useRule_60 rfl (lv_at hl 1 rfl) ?_
    refine va_get (D := (dC, dI)) (ci := 1) (v := .ref h1) (C := RX1) (T := TX1) (N := 3) hx hb hts inlX1 hown hK hP 0 rfl rfl 1 (by decide) w2_ (fun _ h9 => h9) rfl dX1_useRule_61 ?_
    refine va_get (D := (dC, dI)) (ci := 6) (v := .ref h7) (C := RX6) (T := TX6) (N := 14) hx hb hts inlX6 hown hK hP 1 rfl rfl 4 (by decide) w8_ (fun _ h9 => h9) rfl dX1_useRule_64 ?_
    refine lv_iload_n hx hb dX1_useRule_67 rfl (lv_at hl 2 rfl) ?_
    have b24 := bd_in hf
    replace hf := bd_k hf
    refine va_iald hx hb hK hP 7 5 rfl rfl b24 dX1_useRule_68 ?_
    refine lv_topi (fun x25 e25 => ?_)
    replace hf := nm_at hf e25
    obtain ⟨o26, e26, hf⟩ := ob_some hf
    refine kSi (As := [.int x23, .int x25]) (rest := []) ⟨hx, hb, hml, hown, hts⟩ (mX1_row l dC dI H.size base x23 x25 o26 e26) (va_cwS 2 hts (gTS q308 q309 q261 q310) rfl rfl rfl (by decide +kernel) ⟨Nat.le_of_ble_eq_true rfl, Nat.le_of_ble_eq_true rfl⟩) hK hP hD hS hA hE hAB [] [0, 1, 2, 3, 4, 5, 6, 7, 8] [] (wr := (wX1_useRule h0 h1 h2 h3 h4 h5 h6 h7 h8 kc2 kc3 kc4 kc5 kc6 kc7 kc8 V0 V1 c2 c3 c4 c5 c6 c7 c8)) rfl rfl (by decide) (by decide) (by decide) rfl rfl hl.1 rfl (Nat.le_of_ble_eq_true rfl) dX1_useRule_69 ⟨Nat.zero_le _, Nat.zero_le _⟩ (fun r26 u26 H locs hw26 hP hD hS => ?_)
    obtain ⟨hw261, hw262⟩ := hw26
    subst hw261 hw262
    have hP : va_P (dC, dI) vwCl (wX1_useRule h0 h1 h2 h3 h4 h5 h6 h7 h8 kc2 kc3 kc4 kc5 kc6 kc7 kc8 V0 V1 c2 c3 c4 c5 c6 c7 c8) H := hP.sub [0, 1, 2, 3, 4, 5, 6, 7, 8] rfl
    have hD : va_D A (wX1_useRule h0 h1 h2 h3 h4 h5 h6 h7 h8 kc2 kc3 kc4 kc5 kc6 kc7 kc8 V0 V1 c2 c3 c4 c5 c6 c7 c8) := hD.sub [0, 1, 2, 3, 4, 5, 6, 7, 8] (by decide) rfl
    refine lv_istore_n (lv' := [(3, .int o26.1), (2, .int o18.1), (0, .ref h0), (1, .int a0)]) hx hb dX1_useRule_72 rfl hl (by decide) rfl (fun ls hl => ?_)
    refine lv_aload_n hx hb dX1_useRule_73 rfl (lv_at hl 2 rfl) ?_
    refine va_get (D := (dC, dI)) (ci := 1) (v := .ref h1) (C := RX1) (T := TX1) (N := 3) hx hb hts inlX1 hown hK hP 0 rfl rfl 1 (by decide) w2_ (fun _ h9 => h9) rfl dX1_useRule_74 ?_
    refine va_get (D := (dC, dI)) (ci := 6) (v := .ref h4) (C := RX6) (T := TX6) (N := 14) hx hb hts inlX6 hown hK hP 1 rfl rfl 3 (by decide) w6_ (fun _ h9 => h9) rfl dX1_useRule_77 ?_
    refine lv_iload_n hx hb dX1_useRule_80 rfl (lv_at hl 3 rfl) ?_
    have b27 := bd_in hf
    replace hf := bd_k hf
    refine va_iald hx hb hK hP 4 2 rfl rfl b27 dX1_useRule_81 ?_
    refine lv_topi (fun x28 e28 => ?_)
    replace hf := nm_at hf e28
    refine lv_iconst (v := 1) hx hb dX1_useRule_82 (by decide +kernel) ?_
    refine lv_icmp_ne (tgt := 94) hx hb dX1_useRule_83 (by decide) (fun cq29 => ?_) (fun cq29 => ?_)
    · replace hf := if_no hf cq29
      refine lv_iconst (v := 0) hx hb dX1_useRule_94 (by decide +kernel) ?_
      refine lv_istore (lv' := [(4, .int 0), (3, .int o26.1), (2, .int o18.1), (0, .ref h0), (1, .int a0)]) hx hb dX1_useRule_95 hl (by decide) rfl (fun ls hl => ?_)
      refine lv_iconst (v := 0) hx hb dX1_useRule_97 (by decide +kernel) ?_
      refine lv_istore (lv' := [(5, .int 0), (4, .int 0), (3, .int o26.1), (2, .int o18.1), (0, .ref h0), (1, .int a0)]) hx hb dX1_useRule_98 hl (by decide) rfl (fun ls hl => ?_)
      exact (hG _ _ _ _ _).mp (L100 FU a0 o18.1 o26.1 0 0 c6 H locs ls (hP.sub [0, 1, 2, 3, 4, 5, 6, 7, 8] rfl) (hD.sub [0, 1, 2, 3, 4, 5, 6, 7, 8] (by decide) rfl) hS (lv_sub hl [4, 5, 3, 2, 1, 0] rfl) hf)
    · replace hf := if_at hf cq29
      refine lv_aload_n hx hb dX1_useRule_86 rfl (lv_at hl 2 rfl) ?_
      refine lv_iload_n hx hb dX1_useRule_87 rfl (lv_at hl 1 rfl) ?_
      refine lv_iload_n hx hb dX1_useRule_88 rfl (lv_at hl 0 rfl) ?_
      refine lv_iconst (v := 1) hx hb dX1_useRule_89 (by decide +kernel) ?_
      obtain ⟨o30, e30, hf⟩ := ob_some hf
      refine kVi (As := [.int o18.1, .int o26.1, .int 1]) (rest := []) ⟨hx, hb, hml, hown, hts⟩ (mX1_lowerRow l dC dI h0 h6 kc6 H.size base o18.1 o26.1 1 c6 (fun k => match k with | 1 => .ref h1 | k => V0 k) o30 e30) (cwV 3 hts (gTV q318 q319 q320 q261 q321) rfl rfl rfl (by decide +kernel) ⟨Nat.le_of_ble_eq_true rfl, Nat.le_of_ble_eq_true rfl⟩) hK hP hD hS hA hE hAB [0, 6] [1, 2, 3, 4, 5, 7, 8] [4] (wr := [(h1, .inr (6, [.ref h2, .ref h3, .ref h5, .ref h4, .ref h7, .ref h8, V1 6, V1 7, V1 8, V1 9, V1 10, V1 11, V1 12, V1 13])), (h2, .inl (kc2, 48, .inl c2)), (h3, .inl (kc3, 48, .inl c3)), (h4, .inl (kc4, 48, .inl c4)), (h5, .inl (kc5, 48, .inl c5)), (h7, .inl (kc7, 48, .inl c7)), (h8, .inl (kc8, 48, .inl c8))]) rfl rfl (by decide) (by decide) (by decide) rfl (ci := 1) (q0 := 0) rfl rfl rfl rfl hl.1 rfl (Nat.le_of_ble_eq_true rfl) dX1_useRule_90 ⟨Nat.zero_le _, Nat.zero_le _⟩ (fun r30 u30 H locs hw30 hP hD hS => ?_)
      obtain ⟨hw301, hw302⟩ := hw30
      subst hw301 hw302
      have hP : va_P (dC, dI) vwCl (wX1_useRule h0 h1 h2 h3 h4 h5 h6 h7 h8 kc2 kc3 kc4 kc5 kc6 kc7 kc8 V0 V1 c2 c3 c4 c5 o30.2 c7 c8) H := hP.sub [7, 0, 1, 2, 3, 4, 8, 5, 6] rfl
      have hD : va_D A (wX1_useRule h0 h1 h2 h3 h4 h5 h6 h7 h8 kc2 kc3 kc4 kc5 kc6 kc7 kc8 V0 V1 c2 c3 c4 c5 o30.2 c7 c8) := hD.sub [7, 0, 1, 2, 3, 4, 8, 5, 6] (by decide) rfl
      have b31 := bd_b hf
      replace hf := bd_k hf
      have hf1 := Option.some.inj hf
      subst hf1
      have hP9 := hP.sub (ws' := (wX1_useRule h0 h1 h2 h3 h4 h5 h6 h7 h8 kc2 kc3 kc4 kc5 kc6 kc7 kc8 V0 V1 c2 c3 c4 c5 o30.2 c7 c8)) [0, 1, 2, 3, 4, 5, 6, 7, 8] rfl
      have hD9 := hD.sub (ws' := (wX1_useRule h0 h1 h2 h3 h4 h5 h6 h7 h8 kc2 kc3 kc4 kc5 kc6 kc7 kc8 V0 V1 c2 c3 c4 c5 o30.2 c7 c8)) [0, 1, 2, 3, 4, 5, 6, 7, 8] (by decide) rfl
      exact W.zret (v := o30.1) (ty := .boolean) hx hb hr (bz_nar b31) (fun t ht hW => ⟨⟨o30.1, o30.2, rfl, ⟨rfl, rfl⟩, by rw [ht]; exact hP9, va_K.moved hW.alike hK, hD9⟩, hS.F ht⟩) hS.2.2 dX1_useRule_93
  · replace hf := if_at hf cq21
    refine lv_aload_n hx hb dX1_useRule_34 rfl (lv_at hl 1 rfl) ?_
    refine lv_iload_n hx hb dX1_useRule_35 rfl (lv_at hl 0 rfl) ?_
    refine lv_aload_n hx hb dX1_useRule_36 rfl (lv_at hl 1 rfl) ?_
    refine va_get (D := (dC, dI)) (ci := 1) (v := .ref h1) (C := RX1) (T := TX1) (N := 3) hx hb hts inlX1 hown hK hP 0 rfl rfl 1 (by decide) w2_ (fun _ h9 => h9) rfl dX1_useRule_37 ?_
    refine va_get (D := (dC, dI)) (ci := 6) (v := .ref h5) (C := RX6) (T := TX6) (N := 14) hx hb hts inlX6 hown hK hP 1 rfl rfl 2 (by decide) w7_ (fun _ h9 => h9) rfl dX1_useRule_40 ?_
    refine lv_iload_n hx hb dX1_useRule_43 rfl (lv_at hl 2 rfl) ?_
    have b32 := bd_in hf
    replace hf := bd_k hf
    refine va_iald hx hb hK hP 5 3 rfl rfl b32 dX1_useRule_44 ?_
    refine lv_topi (fun x33 e33 => ?_)
    replace hf := nm_at hf e33
    refine lv_iadd hx hb dX1_useRule_45 ?_
    refine lv_topi (fun x34 e34 => ?_)
    replace hf := nm_at hf e34
    refine lv_iconst (v := 1) hx hb dX1_useRule_46 (by decide +kernel) ?_
    obtain ⟨o35, e35, hf⟩ := ob_some hf
    refine kVi (As := [.int x34, .int 1]) (rest := []) ⟨hx, hb, hml, hown, hts⟩ (mX1_lower l dC dI h0 h6 kc6 H.size base x34 1 c6 (fun k => match k with | 1 => .ref h1 | k => V0 k) o35 e35) (cwV 2 hts (gTV q311 q312 q313 q261 q314) rfl rfl rfl (by decide +kernel) ⟨Nat.le_of_ble_eq_true rfl, Nat.le_of_ble_eq_true rfl⟩) hK hP hD hS hA hE hAB [0, 6] [1, 2, 3, 4, 5, 7, 8] [4] (wr := [(h1, .inr (6, [.ref h2, .ref h3, .ref h5, .ref h4, .ref h7, .ref h8, V1 6, V1 7, V1 8, V1 9, V1 10, V1 11, V1 12, V1 13])), (h2, .inl (kc2, 48, .inl c2)), (h3, .inl (kc3, 48, .inl c3)), (h4, .inl (kc4, 48, .inl c4)), (h5, .inl (kc5, 48, .inl c5)), (h7, .inl (kc7, 48, .inl c7)), (h8, .inl (kc8, 48, .inl c8))]) rfl rfl (by decide) (by decide) (by decide) rfl (ci := 1) (q0 := 0) rfl rfl rfl rfl hl.1 rfl (Nat.le_of_ble_eq_true rfl) dX1_useRule_47 ⟨Nat.zero_le _, Nat.zero_le _⟩ (fun r35 u35 H locs hw35 hP hD hS => ?_)
    obtain ⟨hw351, hw352⟩ := hw35
    subst hw351 hw352
    have hP : va_P (dC, dI) vwCl (wX1_useRule h0 h1 h2 h3 h4 h5 h6 h7 h8 kc2 kc3 kc4 kc5 kc6 kc7 kc8 V0 V1 c2 c3 c4 c5 o35.2 c7 c8) H := hP.sub [7, 0, 1, 2, 3, 4, 8, 5, 6] rfl
    have hD : va_D A (wX1_useRule h0 h1 h2 h3 h4 h5 h6 h7 h8 kc2 kc3 kc4 kc5 kc6 kc7 kc8 V0 V1 c2 c3 c4 c5 o35.2 c7 c8) := hD.sub [7, 0, 1, 2, 3, 4, 8, 5, 6] (by decide) rfl
    have b36 := bd_b hf
    replace hf := bd_k hf
    have hf1 := Option.some.inj hf
    subst hf1
    have hP9 := hP.sub (ws' := (wX1_useRule h0 h1 h2 h3 h4 h5 h6 h7 h8 kc2 kc3 kc4 kc5 kc6 kc7 kc8 V0 V1 c2 c3 c4 c5 o35.2 c7 c8)) [0, 1, 2, 3, 4, 5, 6, 7, 8] rfl
    have hD9 := hD.sub (ws' := (wX1_useRule h0 h1 h2 h3 h4 h5 h6 h7 h8 kc2 kc3 kc4 kc5 kc6 kc7 kc8 V0 V1 c2 c3 c4 c5 o35.2 c7 c8)) [0, 1, 2, 3, 4, 5, 6, 7, 8] (by decide) rfl
    exact W.zret (v := o35.1) (ty := .boolean) hx hb hr (bz_nar b36) (fun t ht hW => ⟨⟨o35.1, o35.2, rfl, ⟨rfl, rfl⟩, by rw [ht]; exact hP9, va_K.moved hW.alike hK, hD9⟩, hS.F ht⟩) hS.2.2 dX1_useRule_50
abbrev wX1_bringUpToDate (h0 h1 h2 h3 h4 h5 h6 h7 h8 h9 : Nat) (kc2 kc3 kc4 kc5 kc6 kc7 kc8 kc9 : ClassId) (V1 : Nat → Value) (v0_solvedAt : Int32) (v1_rules : Int32) (v1_systemChanges : Int32) (c2 : Nat → Int32) (c3 : Nat → Int32) (c4 : Nat → Int32) (c5 : Nat → Int32) (c6 : Nat → Int32) (c7 : Nat → Int32) (c8 : Nat → Int32) (c9 : Nat → Int32) : va_W := [(h0, .inr (1, [.ref h3, .ref h1, .int v0_solvedAt])), (h1, .inr (6, [.ref h4, .ref h5, .ref h7, .ref h6, .ref h8, .ref h9, .int v1_rules, .ref h2, V1 8, V1 9, V1 10, .int v1_systemChanges, V1 12, V1 13])), (h2, .inl (kc2, 192, .inl c2)), (h3, .inl (kc3, 3072, .inl c3)), (h4, .inl (kc4, 48, .inl c4)), (h5, .inl (kc5, 48, .inl c5)), (h6, .inl (kc6, 48, .inl c6)), (h7, .inl (kc7, 48, .inl c7)), (h8, .inl (kc8, 48, .inl c8)), (h9, .inl (kc9, 48, .inl c9))]
set_option maxHeartbeats 4000000 in
set_option maxRecDepth 100000 in
theorem mX1_bringUpToDate (l : Launch) (dC : Nat → ClassId) (dI : Nat → Nat → Nat) (h0 h1 h2 h3 h4 h5 h6 h7 h8 h9 : Nat) (kc2 kc3 kc4 kc5 kc6 kc7 kc8 kc9 : ClassId) (sz : Nat) (base : Nat × Nat × Nat) (v0_solvedAt : Int32) (v1_rules : Int32) (v1_systemChanges : Int32) (c2 : Nat → Int32) (c3 : Nat → Int32) (c4 : Nat → Int32) (c5 : Nat → Int32) (c6 : Nat → Int32) (c7 : Nat → Int32) (c8 : Nat → Int32) (c9 : Nat → Int32) (V1 : Nat → Value) (o : Int32 × (Nat → Int32)) (hf : fX1_bringUpToDate v0_solvedAt v1_rules v1_systemChanges c2 c3 c4 c5 c6 c7 c8 c9 = some o) : Met l yX1_bringUpToDate (.code yX1_bringUpToDate cX1_bringUpToDate 4 none :: wsL_law) ({ frames := 4, cells := 0, slots := 0, locals := 95 }) (cPre (dC, dI) vwCl [.ref h0] sz base (wX1_bringUpToDate h0 h1 h2 h3 h4 h5 h6 h7 h8 h9 kc2 kc3 kc4 kc5 kc6 kc7 kc8 kc9 V1 v0_solvedAt v1_rules v1_systemChanges c2 c3 c4 c5 c6 c7 c8 c9) [(kc2, .int), (kc3, .int), (kc4, .int), (kc5, .int), (kc6, .int), (kc7, .int), (kc8, .int), (kc9, .int)]) (va_Qv (fun u => u = o) (fun (u : Int32 × (Nat → Int32)) t => cPost (dC, dI) vwCl (va_A (wX1_bringUpToDate h0 h1 h2 h3 h4 h5 h6 h7 h8 h9 kc2 kc3 kc4 kc5 kc6 kc7 kc8 kc9 V1 v0_solvedAt v1_rules v1_systemChanges c2 c3 c4 c5 c6 c7 c8 c9) sz) (wX1_bringUpToDate h0 h1 h2 h3 h4 h5 h6 h7 h8 h9 kc2 kc3 kc4 kc5 kc6 kc7 kc8 kc9 V1 u.1 v1_rules v1_systemChanges c2 u.2 c4 c5 c6 c7 c8 c9) [(kc2, .int), (kc3, .int), (kc4, .int), (kc5, .int), (kc6, .int), (kc7, .int), (kc8, .int), (kc9, .int)] t) (va_A (wX1_bringUpToDate h0 h1 h2 h3 h4 h5 h6 h7 h8 h9 kc2 kc3 kc4 kc5 kc6 kc7 kc8 kc9 V1 v0_solvedAt v1_rules v1_systemChanges c2 c3 c4 c5 c6 c7 c8 c9) sz)) 0 0 (va_A (wX1_bringUpToDate h0 h1 h2 h3 h4 h5 h6 h7 h8 h9 kc2 kc3 kc4 kc5 kc6 kc7 kc8 kc9 V1 v0_solvedAt v1_rules v1_systemChanges c2 c3 c4 c5 c6 c7 c8 c9) sz) := by
  refine Met.ofW (cc := cX1_bringUpToDate) (maxL := 4) (ret := none) (by decide) rfl ?_
  intro p e s m args below meth c s₁ B hml hv
  obtain ⟨rfl, hsz, hP, hK, hD0, hE⟩ := hv
  have hx := B.exec
  have hb := B.bytes
  have hr := B.returns
  have hts : ∀ w ∈ wsL_law, _ := fun w h => atoms_spec (ws := .code yX1_bringUpToDate cX1_bringUpToDate 4 none :: wsL_law) B.pre w (List.mem_cons_of_mem _ h)
  have hown : s.vm.findClass RX1 = some m.cls := findClass_of_methodNamed B.named
  have hlocks := B.notSynchronized
  have w0_ := hts _ q272
  have w1_ := hts _ q291
  have w2_ := hts _ q290
  have w3_ := hts _ q271
  have w4_ := hts _ q289
  subst hsz
  have hD := hD0.self (sz := s.heap.size)
  generalize hAe : va_A (wX1_bringUpToDate h0 h1 h2 h3 h4 h5 h6 h7 h8 h9 kc2 kc3 kc4 kc5 kc6 kc7 kc8 kc9 V1 v0_solvedAt v1_rules v1_systemChanges c2 c3 c4 c5 c6 c7 c8 c9) s.heap.size = A at hD ⊢
  have hA : ∀ q : Nat, s.heap.size ≤ q → A q := fun q h => by rw [← hAe]; exact Or.inr h
  have hAB : ∀ q : Nat, A q → base.1 ≤ q := fun q h => by rw [← hAe] at h; exact h.elim (fun ⟨k, e, hk⟩ => hD0.2 k _ hk) (fun hk => Nat.le_trans hE.1 hk)
  have hS : va_S A s.heap s.heap [] := va_S.rf
  have hl := lv_entry ([.ref h0]) (n := 4) (Nat.le_of_ble_eq_true rfl)
  rw [lg_entry_eq]
  generalize (lg_sl ([.ref h0]) ++ List.replicate (4 - (lg_sl ([.ref h0])).length) Slot.unset).toArray = ls at hl ⊢
  have hl : lv_has ls 4 [(0, .ref h0)] := hl
  have hP : va_P (dC, dI) vwCl (wX1_bringUpToDate h0 h1 h2 h3 h4 h5 h6 h7 h8 h9 kc2 kc3 kc4 kc5 kc6 kc7 kc8 kc9 V1 v0_solvedAt v1_rules v1_systemChanges c2 c3 c4 c5 c6 c7 c8 c9) s.heap := hP
  refine gl_intro (fun G hG => ?_)
  have J79 : ∀ (v0_solvedAt : Int32) (c3 : (Nat → Int32)) (H : Heap) (locs : List Loc) (ls : Array Slot), va_P (dC, dI) vwCl (wX1_bringUpToDate h0 h1 h2 h3 h4 h5 h6 h7 h8 h9 kc2 kc3 kc4 kc5 kc6 kc7 kc8 kc9 V1 v0_solvedAt v1_rules v1_systemChanges c2 c3 c4 c5 c6 c7 c8 c9) H → va_D A (wX1_bringUpToDate h0 h1 h2 h3 h4 h5 h6 h7 h8 h9 kc2 kc3 kc4 kc5 kc6 kc7 kc8 kc9 V1 v0_solvedAt v1_rules v1_systemChanges c2 c3 c4 c5 c6 c7 c8 c9) → va_S A s.heap H locs → lv_has ls 4 [(0, .ref h0)] → fX1_bringUpToDate_p79 v1_rules v1_systemChanges c2 c4 c5 c6 c7 c8 c9  v0_solvedAt c3 = some o → G 0 0 H locs (F0 m 79 ls []) := by
    intro  v0_solvedAt c3 H locs ls hP hD hS hl hf
    refine (hG _ _ _ _ _).mpr ?_
    unfold fX1_bringUpToDate_p79 at hf
    have hf1 := Option.some.inj hf
    subst hf1
    have hP9 := hP.sub (ws' := (wX1_bringUpToDate h0 h1 h2 h3 h4 h5 h6 h7 h8 h9 kc2 kc3 kc4 kc5 kc6 kc7 kc8 kc9 V1 v0_solvedAt v1_rules v1_systemChanges c2 c3 c4 c5 c6 c7 c8 c9)) [0, 1, 2, 3, 4, 5, 6, 7, 8, 9] rfl
    have hD9 := hD.sub (ws' := (wX1_bringUpToDate h0 h1 h2 h3 h4 h5 h6 h7 h8 h9 kc2 kc3 kc4 kc5 kc6 kc7 kc8 kc9 V1 v0_solvedAt v1_rules v1_systemChanges c2 c3 c4 c5 c6 c7 c8 c9)) [0, 1, 2, 3, 4, 5, 6, 7, 8, 9] (by decide) rfl
    exact W.vret hx hb hr (fun t ht hW => ⟨⟨(v0_solvedAt, c3), rfl, rfl, by rw [ht]; exact hP9, va_K.moved hW.alike hK, hD9⟩, hS.F ht⟩) hS.2.2 dX1_bringUpToDate_79
  have B48 : ∀ (k34 : Int32 → Int32 → Int32 → (Nat → Int32) → Option (Int32 × (Nat → Int32))) (hk34 : ∀ (y1 : Int32) (y2 : Int32) (v0_solvedAt : Int32) (c3 : (Nat → Int32)) (H : Heap) (locs : List Loc) (ls : Array Slot), va_P (dC, dI) vwCl (wX1_bringUpToDate h0 h1 h2 h3 h4 h5 h6 h7 h8 h9 kc2 kc3 kc4 kc5 kc6 kc7 kc8 kc9 V1 v0_solvedAt v1_rules v1_systemChanges c2 c3 c4 c5 c6 c7 c8 c9) H → va_D A (wX1_bringUpToDate h0 h1 h2 h3 h4 h5 h6 h7 h8 h9 kc2 kc3 kc4 kc5 kc6 kc7 kc8 kc9 V1 v0_solvedAt v1_rules v1_systemChanges c2 c3 c4 c5 c6 c7 c8 c9) → va_S A s.heap H locs → lv_has ls 4 [(0, .ref h0), (1, .int y1), (2, .int y2)] → k34 y1 y2 v0_solvedAt c3 = some o → G 0 0 H locs (F0 m 34 ls [])) (k48 : Int32 → Int32 → Int32 → Int32 → (Nat → Int32) → Option (Int32 × (Nat → Int32))) (hk48 : ∀ (y1 : Int32) (y2 : Int32) (y3 : Int32) (v0_solvedAt : Int32) (c3 : (Nat → Int32)) (H : Heap) (locs : List Loc) (ls : Array Slot), va_P (dC, dI) vwCl (wX1_bringUpToDate h0 h1 h2 h3 h4 h5 h6 h7 h8 h9 kc2 kc3 kc4 kc5 kc6 kc7 kc8 kc9 V1 v0_solvedAt v1_rules v1_systemChanges c2 c3 c4 c5 c6 c7 c8 c9) H → va_D A (wX1_bringUpToDate h0 h1 h2 h3 h4 h5 h6 h7 h8 h9 kc2 kc3 kc4 kc5 kc6 kc7 kc8 kc9 V1 v0_solvedAt v1_rules v1_systemChanges c2 c3 c4 c5 c6 c7 c8 c9) → va_S A s.heap H locs → lv_has ls 4 [(0, .ref h0), (1, .int y1), (2, .int y2), (3, .int y3)] → k48 y1 y2 y3 v0_solvedAt c3 = some o → G 0 0 H locs (F0 m 48 ls [])), ∀ (y1 : Int32) (y2 : Int32) (y3 : Int32) (v0_solvedAt : Int32) (c3 : (Nat → Int32)) (H : Heap) (locs : List Loc) (ls : Array Slot), va_P (dC, dI) vwCl (wX1_bringUpToDate h0 h1 h2 h3 h4 h5 h6 h7 h8 h9 kc2 kc3 kc4 kc5 kc6 kc7 kc8 kc9 V1 v0_solvedAt v1_rules v1_systemChanges c2 c3 c4 c5 c6 c7 c8 c9) H → va_D A (wX1_bringUpToDate h0 h1 h2 h3 h4 h5 h6 h7 h8 h9 kc2 kc3 kc4 kc5 kc6 kc7 kc8 kc9 V1 v0_solvedAt v1_rules v1_systemChanges c2 c3 c4 c5 c6 c7 c8 c9) → va_S A s.heap H locs → lv_has ls 4 [(0, .ref h0), (1, .int y1), (2, .int y2), (3, .int y3)] → fX1_bringUpToDate_b48 v1_rules v1_systemChanges c2 c4 c5 c6 c7 c8 c9 k34 k48 y1 y2 y3 v0_solvedAt c3 = some o → G 0 0 H locs (F0 m 48 ls []) := by
    intro k34 hk34 k48 hk48 y1 y2 y3 v0_solvedAt c3 H locs ls hP hD hS hl hf
    refine (hG _ _ _ _ _).mpr ?_
    unfold fX1_bringUpToDate_b48 at hf
    refine lv_iload_n hx hb dX1_bringUpToDate_48 rfl (lv_at hl 3 rfl) ?_
    refine lv_aload_n hx hb dX1_bringUpToDate_49 rfl (lv_at hl 0 rfl) ?_
    refine va_get (D := (dC, dI)) (ci := 1) (v := .ref h1) (C := RX1) (T := TX1) (N := 3) hx hb hts inlX1 hown hK hP 0 rfl rfl 1 (by decide) w0_ (fun _ h9 => h9) rfl dX1_bringUpToDate_50 ?_
    refine va_get (D := (dC, dI)) (ci := 6) (v := .int v1_rules) (C := RX6) (T := TX6) (N := 14) hx hb hts inlX6 hown hK hP 1 rfl rfl 6 (by decide) w1_ (fun _ h9 => h9) rfl dX1_bringUpToDate_53 ?_
    refine lv_icmp_ge (tgt := 73) hx hb dX1_bringUpToDate_56 (by decide) (fun cq1 => ?_) (fun cq1 => ?_)
    · replace hf := if_at hf cq1
      obtain ⟨x2, e2⟩ : ∃ y : Int32, y = y2 + 1 := ⟨_, rfl⟩
      replace hf := nm_at hf e2
      refine lv_iinc (v := x2) (lv' := [(2, .int x2), (0, .ref h0), (1, .int y1), (3, .int y3)]) hx hb dX1_bringUpToDate_73 hl (k := 2) rfl (by rw [e2]; rfl) (by decide) rfl (fun ls hl => ?_)
      refine lv_goto (tgt := 34) hx hb dX1_bringUpToDate_76 (by decide) ?_
      exact (hG _ _ _ _ _).mp (hk34 y1 x2 v0_solvedAt c3 H locs ls (hP.sub [0, 1, 2, 3, 4, 5, 6, 7, 8, 9] rfl) (hD.sub [0, 1, 2, 3, 4, 5, 6, 7, 8, 9] (by decide) rfl) hS (lv_sub hl [1, 2, 0] rfl) hf)
    · replace hf := if_no hf cq1
      refine lv_iload_n hx hb dX1_bringUpToDate_59 rfl (lv_at hl 1 rfl) ?_
      refine lv_aload_n hx hb dX1_bringUpToDate_60 rfl (lv_at hl 0 rfl) ?_
      refine lv_iload_n hx hb dX1_bringUpToDate_61 rfl (lv_at hl 3 rfl) ?_
      obtain ⟨o3, e3, hf⟩ := ob_some hf
      refine kVi (As := [.int y3]) (rest := [.int y1]) ⟨hx, hb, hml, hown, hts⟩ (mX1_useRule l dC dI h0 h1 h4 h5 h6 h7 h3 h8 h9 kc4 kc5 kc6 kc7 kc3 kc8 kc9 H.size base y3 c4 c5 c6 c7 c3 c8 c9 (fun k => match k with | 2 => .int v0_solvedAt | _ => .null) (fun k => match k with | 6 => .int v1_rules | 7 => .ref h2 | 11 => .int v1_systemChanges | k => V1 k) o3 e3) (cwV 1 hts (gTV q298 q299 q300 q261 q301) rfl rfl rfl (by decide +kernel) ⟨Nat.le_of_ble_eq_true rfl, Nat.le_of_ble_eq_true rfl⟩) hK hP hD hS hA hE hAB [0, 1, 4, 5, 6, 7, 3, 8, 9] [2] [2, 3, 4, 5, 1, 6, 7] (wr := [(h2, .inl (kc2, 192, .inl c2))]) rfl rfl (by decide) (by decide) (by decide) rfl (ci := 1) (q0 := 0) rfl rfl rfl rfl hl.1 rfl (Nat.le_of_ble_eq_true rfl) dX1_bringUpToDate_62 ⟨Nat.zero_le _, Nat.zero_le _⟩ (fun r3 u3 H locs hw3 hP hD hS => ?_)
      obtain ⟨hw31, hw32⟩ := hw3
      subst hw31 hw32
      have hP : va_P (dC, dI) vwCl (wX1_bringUpToDate h0 h1 h2 h3 h4 h5 h6 h7 h8 h9 kc2 kc3 kc4 kc5 kc6 kc7 kc8 kc9 V1 v0_solvedAt v1_rules v1_systemChanges c2 o3.2 c4 c5 c6 c7 c8 c9) H := hP.sub [1, 2, 0, 7, 3, 4, 5, 6, 8, 9] rfl
      have hD : va_D A (wX1_bringUpToDate h0 h1 h2 h3 h4 h5 h6 h7 h8 h9 kc2 kc3 kc4 kc5 kc6 kc7 kc8 kc9 V1 v0_solvedAt v1_rules v1_systemChanges c2 o3.2 c4 c5 c6 c7 c8 c9) := hD.sub [1, 2, 0, 7, 3, 4, 5, 6, 8, 9] (by decide) rfl
      refine lv_ior hx hb dX1_bringUpToDate_65 ?_
      refine lv_topi (fun x4 e4 => ?_)
      replace hf := nm_at hf e4
      refine lv_istore_n (lv' := [(1, .int x4), (0, .ref h0), (2, .int y2), (3, .int y3)]) hx hb dX1_bringUpToDate_66 rfl hl (by decide) rfl (fun ls hl => ?_)
      obtain ⟨x5, e5⟩ : ∃ y : Int32, y = y3 + 1 := ⟨_, rfl⟩
      replace hf := nm_at hf e5
      refine lv_iinc (v := x5) (lv' := [(3, .int x5), (1, .int x4), (0, .ref h0), (2, .int y2)]) hx hb dX1_bringUpToDate_67 hl (k := 3) rfl (by rw [e5]; rfl) (by decide) rfl (fun ls hl => ?_)
      refine lv_goto (tgt := 48) hx hb dX1_bringUpToDate_70 (by decide) ?_
      exact (hG _ _ _ _ _).mp (hk48 x4 y2 x5 v0_solvedAt o3.2 H locs ls (hP.sub [0, 1, 2, 3, 4, 5, 6, 7, 8, 9] rfl) (hD.sub [0, 1, 2, 3, 4, 5, 6, 7, 8, 9] (by decide) rfl) hS (lv_sub hl [2, 1, 3, 0] rfl) hf)
  have L48 : ∀ (k34 : Int32 → Int32 → Int32 → (Nat → Int32) → Option (Int32 × (Nat → Int32))) (hk34 : ∀ (y1 : Int32) (y2 : Int32) (v0_solvedAt : Int32) (c3 : (Nat → Int32)) (H : Heap) (locs : List Loc) (ls : Array Slot), va_P (dC, dI) vwCl (wX1_bringUpToDate h0 h1 h2 h3 h4 h5 h6 h7 h8 h9 kc2 kc3 kc4 kc5 kc6 kc7 kc8 kc9 V1 v0_solvedAt v1_rules v1_systemChanges c2 c3 c4 c5 c6 c7 c8 c9) H → va_D A (wX1_bringUpToDate h0 h1 h2 h3 h4 h5 h6 h7 h8 h9 kc2 kc3 kc4 kc5 kc6 kc7 kc8 kc9 V1 v0_solvedAt v1_rules v1_systemChanges c2 c3 c4 c5 c6 c7 c8 c9) → va_S A s.heap H locs → lv_has ls 4 [(0, .ref h0), (1, .int y1), (2, .int y2)] → k34 y1 y2 v0_solvedAt c3 = some o → G 0 0 H locs (F0 m 34 ls [])) (n : Nat), ∀ (y1 : Int32) (y2 : Int32) (y3 : Int32) (v0_solvedAt : Int32) (c3 : (Nat → Int32)) (H : Heap) (locs : List Loc) (ls : Array Slot), va_P (dC, dI) vwCl (wX1_bringUpToDate h0 h1 h2 h3 h4 h5 h6 h7 h8 h9 kc2 kc3 kc4 kc5 kc6 kc7 kc8 kc9 V1 v0_solvedAt v1_rules v1_systemChanges c2 c3 c4 c5 c6 c7 c8 c9) H → va_D A (wX1_bringUpToDate h0 h1 h2 h3 h4 h5 h6 h7 h8 h9 kc2 kc3 kc4 kc5 kc6 kc7 kc8 kc9 V1 v0_solvedAt v1_rules v1_systemChanges c2 c3 c4 c5 c6 c7 c8 c9) → va_S A s.heap H locs → lv_has ls 4 [(0, .ref h0), (1, .int y1), (2, .int y2), (3, .int y3)] → fX1_bringUpToDate_l48 v1_rules v1_systemChanges c2 c4 c5 c6 c7 c8 c9 k34 n y1 y2 y3 v0_solvedAt c3 = some o → G 0 0 H locs (F0 m 48 ls []) := by
    intro k34 hk34 n
    induction n with
    | zero => intro y1 y2 y3 v0_solvedAt c3 H locs ls _ _ _ _ hf; cases hf
    | succ n ih => exact B48 k34 hk34 _ ih
  have B34 : ∀ (k34 : Int32 → Int32 → Int32 → (Nat → Int32) → Option (Int32 × (Nat → Int32))) (hk34 : ∀ (y1 : Int32) (y2 : Int32) (v0_solvedAt : Int32) (c3 : (Nat → Int32)) (H : Heap) (locs : List Loc) (ls : Array Slot), va_P (dC, dI) vwCl (wX1_bringUpToDate h0 h1 h2 h3 h4 h5 h6 h7 h8 h9 kc2 kc3 kc4 kc5 kc6 kc7 kc8 kc9 V1 v0_solvedAt v1_rules v1_systemChanges c2 c3 c4 c5 c6 c7 c8 c9) H → va_D A (wX1_bringUpToDate h0 h1 h2 h3 h4 h5 h6 h7 h8 h9 kc2 kc3 kc4 kc5 kc6 kc7 kc8 kc9 V1 v0_solvedAt v1_rules v1_systemChanges c2 c3 c4 c5 c6 c7 c8 c9) → va_S A s.heap H locs → lv_has ls 4 [(0, .ref h0), (1, .int y1), (2, .int y2)] → k34 y1 y2 v0_solvedAt c3 = some o → G 0 0 H locs (F0 m 34 ls [])), ∀ (y1 : Int32) (y2 : Int32) (v0_solvedAt : Int32) (c3 : (Nat → Int32)) (H : Heap) (locs : List Loc) (ls : Array Slot), va_P (dC, dI) vwCl (wX1_bringUpToDate h0 h1 h2 h3 h4 h5 h6 h7 h8 h9 kc2 kc3 kc4 kc5 kc6 kc7 kc8 kc9 V1 v0_solvedAt v1_rules v1_systemChanges c2 c3 c4 c5 c6 c7 c8 c9) H → va_D A (wX1_bringUpToDate h0 h1 h2 h3 h4 h5 h6 h7 h8 h9 kc2 kc3 kc4 kc5 kc6 kc7 kc8 kc9 V1 v0_solvedAt v1_rules v1_systemChanges c2 c3 c4 c5 c6 c7 c8 c9) → va_S A s.heap H locs → lv_has ls 4 [(0, .ref h0), (1, .int y1), (2, .int y2)] → fX1_bringUpToDate_b34 v1_rules v1_systemChanges c2 c4 c5 c6 c7 c8 c9  k34 y1 y2 v0_solvedAt c3 = some o → G 0 0 H locs (F0 m 34 ls []) := by
    intro  k34 hk34 y1 y2 v0_solvedAt c3 H locs ls hP hD hS hl hf
    refine (hG _ _ _ _ _).mpr ?_
    unfold fX1_bringUpToDate_b34 at hf
    refine lv_iload_n hx hb dX1_bringUpToDate_34 rfl (lv_at hl 2 rfl) ?_
    refine lv_ldc (v := 1000000) hx hb hown w2_ dX1_bringUpToDate_35 ?_
    refine lv_icmp_ge (tgt := 79) hx hb dX1_bringUpToDate_37 (by decide) (fun cq6 => ?_) (fun cq6 => ?_)
    · replace hf := if_at hf cq6
      exact (hG _ _ _ _ _).mp (J79 v0_solvedAt c3 H locs ls (hP.sub [0, 1, 2, 3, 4, 5, 6, 7, 8, 9] rfl) (hD.sub [0, 1, 2, 3, 4, 5, 6, 7, 8, 9] (by decide) rfl) hS (lv_sub hl [0] rfl) hf)
    · replace hf := if_no hf cq6
      refine lv_iload_n hx hb dX1_bringUpToDate_40 rfl (lv_at hl 1 rfl) ?_
      refine lv_if_eq (tgt := 79) hx hb dX1_bringUpToDate_41 (by decide) (fun cq7 => ?_) (fun cq7 => ?_)
      · replace hf := if_at hf cq7
        exact (hG _ _ _ _ _).mp (J79 v0_solvedAt c3 H locs ls (hP.sub [0, 1, 2, 3, 4, 5, 6, 7, 8, 9] rfl) (hD.sub [0, 1, 2, 3, 4, 5, 6, 7, 8, 9] (by decide) rfl) hS (lv_sub hl [0] rfl) hf)
      · replace hf := if_no hf cq7
        refine lv_iconst (v := 0) hx hb dX1_bringUpToDate_44 (by decide +kernel) ?_
        refine lv_istore_n (lv' := [(1, .int 0), (0, .ref h0), (2, .int y2)]) hx hb dX1_bringUpToDate_45 rfl hl (by decide) rfl (fun ls hl => ?_)
        refine lv_iconst (v := 0) hx hb dX1_bringUpToDate_46 (by decide +kernel) ?_
        refine lv_istore_n (lv' := [(3, .int 0), (1, .int 0), (0, .ref h0), (2, .int y2)]) hx hb dX1_bringUpToDate_47 rfl hl (by decide) rfl (fun ls hl => ?_)
        exact (hG _ _ _ _ _).mp (L48 k34 hk34 FU 0 y2 0 v0_solvedAt c3 H locs ls (hP.sub [0, 1, 2, 3, 4, 5, 6, 7, 8, 9] rfl) (hD.sub [0, 1, 2, 3, 4, 5, 6, 7, 8, 9] (by decide) rfl) hS (lv_sub hl [2, 1, 3, 0] rfl) hf)
  have L34 : ∀ (n : Nat), ∀ (y1 : Int32) (y2 : Int32) (v0_solvedAt : Int32) (c3 : (Nat → Int32)) (H : Heap) (locs : List Loc) (ls : Array Slot), va_P (dC, dI) vwCl (wX1_bringUpToDate h0 h1 h2 h3 h4 h5 h6 h7 h8 h9 kc2 kc3 kc4 kc5 kc6 kc7 kc8 kc9 V1 v0_solvedAt v1_rules v1_systemChanges c2 c3 c4 c5 c6 c7 c8 c9) H → va_D A (wX1_bringUpToDate h0 h1 h2 h3 h4 h5 h6 h7 h8 h9 kc2 kc3 kc4 kc5 kc6 kc7 kc8 kc9 V1 v0_solvedAt v1_rules v1_systemChanges c2 c3 c4 c5 c6 c7 c8 c9) → va_S A s.heap H locs → lv_has ls 4 [(0, .ref h0), (1, .int y1), (2, .int y2)] → fX1_bringUpToDate_l34 v1_rules v1_systemChanges c2 c4 c5 c6 c7 c8 c9  n y1 y2 v0_solvedAt c3 = some o → G 0 0 H locs (F0 m 34 ls []) := by
    intro  n
    induction n with
    | zero => intro y1 y2 v0_solvedAt c3 H locs ls _ _ _ _ hf; cases hf
    | succ n ih => exact B34  _ ih
  refine (hG _ _ _ _ _).mpr ?_
  obtain ⟨H, hH⟩ : ∃ H, H = s.heap := ⟨_, rfl⟩
  have hS : va_S A s.heap H [] := by rw [hH]; exact hS
  rw [← hH] at hP ⊢
  generalize ([] : List Loc) = locs at hS ⊢
  unfold fX1_bringUpToDate at hf
  refine lv_aload_n hx hb dX1_bringUpToDate_0 rfl (lv_at hl 0 rfl) ?_
  refine va_get (D := (dC, dI)) (ci := 1) (v := .int v0_solvedAt) (C := RX1) (T := TX1) (N := 3) hx hb hts inlX1 hown hK hP 0 rfl rfl 2 (by decide) w3_ (fun _ h9 => h9) rfl dX1_bringUpToDate_1 ?_
  refine lv_aload_n hx hb dX1_bringUpToDate_4 rfl (lv_at hl 0 rfl) ?_
  refine va_get (D := (dC, dI)) (ci := 1) (v := .ref h1) (C := RX1) (T := TX1) (N := 3) hx hb hts inlX1 hown hK hP 0 rfl rfl 1 (by decide) w0_ (fun _ h9 => h9) rfl dX1_bringUpToDate_5 ?_
  refine va_get (D := (dC, dI)) (ci := 6) (v := .int v1_systemChanges) (C := RX6) (T := TX6) (N := 14) hx hb hts inlX6 hown hK hP 1 rfl rfl 11 (by decide) w4_ (fun _ h9 => h9) rfl dX1_bringUpToDate_8 ?_
  refine lv_icmp_ne (tgt := 15) hx hb dX1_bringUpToDate_11 (by decide) (fun cq8 => ?_) (fun cq8 => ?_)
  · replace hf := if_no hf cq8
    refine lv_aload_n hx hb dX1_bringUpToDate_15 rfl (lv_at hl 0 rfl) ?_
    refine lv_aload_n hx hb dX1_bringUpToDate_16 rfl (lv_at hl 0 rfl) ?_
    refine va_get (D := (dC, dI)) (ci := 1) (v := .ref h1) (C := RX1) (T := TX1) (N := 3) hx hb hts inlX1 hown hK hP 0 rfl rfl 1 (by decide) w0_ (fun _ h9 => h9) rfl dX1_bringUpToDate_17 ?_
    refine va_get (D := (dC, dI)) (ci := 6) (v := .int v1_systemChanges) (C := RX6) (T := TX6) (N := 14) hx hb hts inlX6 hown hK hP 1 rfl rfl 11 (by decide) w4_ (fun _ h9 => h9) rfl dX1_bringUpToDate_20 ?_
    refine va_put (D := (dC, dI)) (ci := 1) (v := .int v1_systemChanges) (ty := .int) (C := RX1) (T := TX1) (N := 3) hx hb hts inlX1 tyX1 tyX1_ok nmX1 hown hK hP hD hS 0 rfl rfl 2 (by decide) w3_ (fun _ h9 => h9) rfl (by decide +kernel) rfl rfl (Nat.le_of_ble_eq_true rfl) dX1_bringUpToDate_23 (fun H locs hP hD hS => ?_)
    have hP : va_P (dC, dI) vwCl (wX1_bringUpToDate h0 h1 h2 h3 h4 h5 h6 h7 h8 h9 kc2 kc3 kc4 kc5 kc6 kc7 kc8 kc9 V1 v1_systemChanges v1_rules v1_systemChanges c2 c3 c4 c5 c6 c7 c8 c9) H := hP
    have hD : va_D A (wX1_bringUpToDate h0 h1 h2 h3 h4 h5 h6 h7 h8 h9 kc2 kc3 kc4 kc5 kc6 kc7 kc8 kc9 V1 v1_systemChanges v1_rules v1_systemChanges c2 c3 c4 c5 c6 c7 c8 c9) := hD
    refine lv_aload_n hx hb dX1_bringUpToDate_26 rfl (lv_at hl 0 rfl) ?_
    obtain ⟨o9, e9, hf⟩ := ob_some hf
    refine kVv (As := []) (rest := []) ⟨hx, hb, hml, hown, hts⟩ (mX1_startFromNet l dC dI h0 h1 h2 h3 kc2 kc3 H.size base c2 c3 (fun k => match k with | 2 => .int v1_systemChanges | _ => .null) (fun k => match k with | 0 => .ref h4 | 1 => .ref h5 | 2 => .ref h7 | 3 => .ref h6 | 4 => .ref h8 | 5 => .ref h9 | 6 => .int v1_rules | 11 => .int v1_systemChanges | k => V1 k) o9 e9) (cwV 0 hts (gTV q292 q293 q294 q261 q295) rfl rfl rfl (by decide +kernel) ⟨Nat.le_of_ble_eq_true rfl, Nat.le_of_ble_eq_true rfl⟩) hK hP hD hS hA hE hAB [0, 1, 2, 3] [4, 5, 6, 7, 8, 9] [0, 1] (wr := [(h4, .inl (kc4, 48, .inl c4)), (h5, .inl (kc5, 48, .inl c5)), (h6, .inl (kc6, 48, .inl c6)), (h7, .inl (kc7, 48, .inl c7)), (h8, .inl (kc8, 48, .inl c8)), (h9, .inl (kc9, 48, .inl c9))]) rfl rfl (by decide) (by decide) (by decide) rfl (ci := 1) (q0 := 0) rfl rfl rfl rfl hl.1 rfl (Nat.le_of_ble_eq_true rfl) dX1_bringUpToDate_27 ⟨Nat.zero_le _, Nat.zero_le _⟩ (fun u9 H locs hw9 hP hD hS => ?_)
    have hw91 : o9 = u9 := Eq.symm hw9
    subst hw91
    have hP : va_P (dC, dI) vwCl (wX1_bringUpToDate h0 h1 h2 h3 h4 h5 h6 h7 h8 h9 kc2 kc3 kc4 kc5 kc6 kc7 kc8 kc9 V1 v1_systemChanges v1_rules v1_systemChanges c2 o9 c4 c5 c6 c7 c8 c9) H := hP.sub [6, 7, 8, 9, 0, 1, 2, 3, 4, 5] rfl
    have hD : va_D A (wX1_bringUpToDate h0 h1 h2 h3 h4 h5 h6 h7 h8 h9 kc2 kc3 kc4 kc5 kc6 kc7 kc8 kc9 V1 v1_systemChanges v1_rules v1_systemChanges c2 o9 c4 c5 c6 c7 c8 c9) := hD.sub [6, 7, 8, 9, 0, 1, 2, 3, 4, 5] (by decide) rfl
    refine lv_iconst (v := 1) hx hb dX1_bringUpToDate_30 (by decide +kernel) ?_
    refine lv_istore_n (lv' := [(1, .int 1), (0, .ref h0)]) hx hb dX1_bringUpToDate_31 rfl hl (by decide) rfl (fun ls hl => ?_)
    refine lv_iconst (v := 0) hx hb dX1_bringUpToDate_32 (by decide +kernel) ?_
    refine lv_istore_n (lv' := [(2, .int 0), (1, .int 1), (0, .ref h0)]) hx hb dX1_bringUpToDate_33 rfl hl (by decide) rfl (fun ls hl => ?_)
    exact (hG _ _ _ _ _).mp (L34 FU 1 0 v1_systemChanges o9 H locs ls (hP.sub [0, 1, 2, 3, 4, 5, 6, 7, 8, 9] rfl) (hD.sub [0, 1, 2, 3, 4, 5, 6, 7, 8, 9] (by decide) rfl) hS (lv_sub hl [2, 1, 0] rfl) hf)
  · replace hf := if_at hf cq8
    have hf1 := Option.some.inj hf
    subst hf1
    have hP9 := hP.sub (ws' := (wX1_bringUpToDate h0 h1 h2 h3 h4 h5 h6 h7 h8 h9 kc2 kc3 kc4 kc5 kc6 kc7 kc8 kc9 V1 v0_solvedAt v1_rules v1_systemChanges c2 c3 c4 c5 c6 c7 c8 c9)) [0, 1, 2, 3, 4, 5, 6, 7, 8, 9] rfl
    have hD9 := hD.sub (ws' := (wX1_bringUpToDate h0 h1 h2 h3 h4 h5 h6 h7 h8 h9 kc2 kc3 kc4 kc5 kc6 kc7 kc8 kc9 V1 v0_solvedAt v1_rules v1_systemChanges c2 c3 c4 c5 c6 c7 c8 c9)) [0, 1, 2, 3, 4, 5, 6, 7, 8, 9] (by decide) rfl
    exact W.vret hx hb hr (fun t ht hW => ⟨⟨(v0_solvedAt, c3), rfl, rfl, by rw [ht]; exact hP9, va_K.moved hW.alike hK, hD9⟩, hS.F ht⟩) hS.2.2 dX1_bringUpToDate_14
