abbrev wX7_stepsThrough (h0 h1 h2 h3 : Nat) (kc2 kc3 : ClassId) (n3 : Nat) (V0 : Nat → Value) (V1 : Nat → Value) (v0_height : Int32) (c2 : Nat → Int32) (c3 : Nat → Int32) : va_W := [(h0, .inr (7, [.ref h1, V0 1, V0 2, .ref h3, .int v0_height])), (h1, .inr (1, [.ref h2, V1 1, V1 2])), (h2, .inl (kc2, 3072, .inl c2)), (h3, .inl (kc3, n3, .inl c3))]
set_option maxHeartbeats 4000000 in
set_option maxRecDepth 100000 in
theorem mX7_stepsThrough (l : Launch) (dC : Nat → ClassId) (dI : Nat → Nat → Nat) (h0 h1 h2 h3 : Nat) (kc2 kc3 : ClassId) (sz : Nat) (base : Nat × Nat × Nat) (a0 : Int32) (a1 : Int32) (n3 : Nat) (v0_height : Int32) (c2 : Nat → Int32) (c3 : Nat → Int32) (V0 : Nat → Value) (V1 : Nat → Value) (o : Int32 × Unit) (hf : fX7_stepsThrough a0 a1 n3 v0_height c2 c3 = some o) : Met l yX7_stepsThrough (.code yX7_stepsThrough cX7_stepsThrough 7 (some .int) :: wsL_law) ({ frames := 2, cells := 0, slots := 0, locals := 42 }) (cPre (dC, dI) vwCl [.ref h0, .int a0, .int a1] sz base (wX7_stepsThrough h0 h1 h2 h3 kc2 kc3 n3 V0 V1 v0_height c2 c3) [(kc2, .int), (kc3, .int)]) (va_Qi (fun r u => r = o.1 ∧ u = o.2) (fun (u : Unit) t => cPost (dC, dI) vwCl (va_A (wX7_stepsThrough h0 h1 h2 h3 kc2 kc3 n3 V0 V1 v0_height c2 c3) sz) (wX7_stepsThrough h0 h1 h2 h3 kc2 kc3 n3 V0 V1 v0_height c2 c3) [(kc2, .int), (kc3, .int)] t) (va_A (wX7_stepsThrough h0 h1 h2 h3 kc2 kc3 n3 V0 V1 v0_height c2 c3) sz)) 0 0 (va_A (wX7_stepsThrough h0 h1 h2 h3 kc2 kc3 n3 V0 V1 v0_height c2 c3) sz) := by
  refine Met.ofW (cc := cX7_stepsThrough) (maxL := 7) (ret := (some .int)) (by decide) rfl ?_
  intro p e s m args below meth c s₁ B hml hv
  obtain ⟨rfl, hsz, hP, hK, hD0, hE⟩ := hv
  have hx := B.exec
  have hb := B.bytes
  have hr := B.returns
  have hts : ∀ w ∈ wsL_law, _ := fun w h => atoms_spec (ws := .code yX7_stepsThrough cX7_stepsThrough 7 (some .int) :: wsL_law) B.pre w (List.mem_cons_of_mem _ h)
  have hown : s.vm.findClass RX7 = some m.cls := findClass_of_methodNamed B.named
  have hlocks := B.notSynchronized
  have w0_ := hts _ q277
  have w1_ := hts _ q339
  have w2_ := hts _ q284
  have w3_ := hts _ q340
  have w4_ := hts _ q316
  have w5_ := hts _ q280
  have w6_ := hts _ q317
  have w7_ := hts _ q326
  have w8_ := hts _ q328
  subst hsz
  have hD := hD0.self (sz := s.heap.size)
  generalize hAe : va_A (wX7_stepsThrough h0 h1 h2 h3 kc2 kc3 n3 V0 V1 v0_height c2 c3) s.heap.size = A at hD ⊢
  have hA : ∀ q : Nat, s.heap.size ≤ q → A q := fun q h => by rw [← hAe]; exact Or.inr h
  have hAB : ∀ q : Nat, A q → base.1 ≤ q := fun q h => by rw [← hAe] at h; exact h.elim (fun ⟨k, e, hk⟩ => hD0.2 k _ hk) (fun hk => Nat.le_trans hE.1 hk)
  have hS : va_S A s.heap s.heap [] := va_S.rf
  have hl := lv_entry ([.ref h0, .int a0, .int a1]) (n := 7) (Nat.le_of_ble_eq_true rfl)
  rw [lg_entry_eq]
  generalize (lg_sl ([.ref h0, .int a0, .int a1]) ++ List.replicate (7 - (lg_sl ([.ref h0, .int a0, .int a1])).length) Slot.unset).toArray = ls at hl ⊢
  have hl : lv_has ls 7 [(0, .ref h0), (1, .int a0), (2, .int a1)] := hl
  have hP : va_P (dC, dI) vwCl (wX7_stepsThrough h0 h1 h2 h3 kc2 kc3 n3 V0 V1 v0_height c2 c3) s.heap := hP
  refine gl_intro (fun G hG => ?_)
  have J78 : ∀ (k22 : Int32 → Int32 → Int32 → Int32 → Option (Int32 × Unit)) (hk22 : ∀ (y3 : Int32) (y4 : Int32) (y5 : Int32) (y6 : Int32) (H : Heap) (locs : List Loc) (ls : Array Slot), va_P (dC, dI) vwCl (wX7_stepsThrough h0 h1 h2 h3 kc2 kc3 n3 V0 V1 v0_height c2 c3) H → va_D A (wX7_stepsThrough h0 h1 h2 h3 kc2 kc3 n3 V0 V1 v0_height c2 c3) → va_S A s.heap H locs → lv_has ls 7 [(0, .ref h0), (3, .int y3), (4, .int y4), (5, .int y5), (6, .int y6)] → k22 y3 y4 y5 y6 = some o → G 0 0 H locs (F0 m 22 ls [])), ∀ (y3 : Int32) (y4 : Int32) (y5 : Int32) (y6 : Int32) (H : Heap) (locs : List Loc) (ls : Array Slot), va_P (dC, dI) vwCl (wX7_stepsThrough h0 h1 h2 h3 kc2 kc3 n3 V0 V1 v0_height c2 c3) H → va_D A (wX7_stepsThrough h0 h1 h2 h3 kc2 kc3 n3 V0 V1 v0_height c2 c3) → va_S A s.heap H locs → lv_has ls 7 [(0, .ref h0), (3, .int y3), (4, .int y4), (5, .int y5), (6, .int y6)] → fX7_stepsThrough_p78 n3 v0_height c2 c3 k22 y3 y4 y5 y6 = some o → G 0 0 H locs (F0 m 78 ls []) := by
    intro k22 hk22 y3 y4 y5 y6 H locs ls hP hD hS hl hf
    refine (hG _ _ _ _ _).mpr ?_
    unfold fX7_stepsThrough_p78 at hf
    obtain ⟨x1, e1⟩ : ∃ y : Int32, y = y6 + 1 := ⟨_, rfl⟩
    replace hf := nm_at hf e1
    refine lv_iinc (v := x1) (lv' := [(6, .int x1), (0, .ref h0), (3, .int y3), (4, .int y4), (5, .int y5)]) hx hb dX7_stepsThrough_78 hl (k := 4) rfl (by rw [e1]; rfl) (by decide) rfl (fun ls hl => ?_)
    refine lv_goto (tgt := 22) hx hb dX7_stepsThrough_81 (by decide) ?_
    exact (hG _ _ _ _ _).mp (hk22 y3 y4 y5 x1 H locs ls (hP.sub [0, 1, 2, 3] rfl) (hD.sub [0, 1, 2, 3] (by decide) rfl) hS (lv_sub hl [1, 2, 3, 4, 0] rfl) hf)
  have B22 : ∀ (k22 : Int32 → Int32 → Int32 → Int32 → Option (Int32 × Unit)) (hk22 : ∀ (y3 : Int32) (y4 : Int32) (y5 : Int32) (y6 : Int32) (H : Heap) (locs : List Loc) (ls : Array Slot), va_P (dC, dI) vwCl (wX7_stepsThrough h0 h1 h2 h3 kc2 kc3 n3 V0 V1 v0_height c2 c3) H → va_D A (wX7_stepsThrough h0 h1 h2 h3 kc2 kc3 n3 V0 V1 v0_height c2 c3) → va_S A s.heap H locs → lv_has ls 7 [(0, .ref h0), (3, .int y3), (4, .int y4), (5, .int y5), (6, .int y6)] → k22 y3 y4 y5 y6 = some o → G 0 0 H locs (F0 m 22 ls [])), ∀ (y3 : Int32) (y4 : Int32) (y5 : Int32) (y6 : Int32) (H : Heap) (locs : List Loc) (ls : Array Slot), va_P (dC, dI) vwCl (wX7_stepsThrough h0 h1 h2 h3 kc2 kc3 n3 V0 V1 v0_height c2 c3) H → va_D A (wX7_stepsThrough h0 h1 h2 h3 kc2 kc3 n3 V0 V1 v0_height c2 c3) → va_S A s.heap H locs → lv_has ls 7 [(0, .ref h0), (3, .int y3), (4, .int y4), (5, .int y5), (6, .int y6)] → fX7_stepsThrough_b22 n3 v0_height c2 c3  k22 y3 y4 y5 y6 = some o → G 0 0 H locs (F0 m 22 ls []) := by
    intro  k22 hk22 y3 y4 y5 y6 H locs ls hP hD hS hl hf
    refine (hG _ _ _ _ _).mpr ?_
    unfold fX7_stepsThrough_b22 at hf
    refine lv_iload hx hb dX7_stepsThrough_22 (lv_at hl 4 rfl) ?_
    refine lv_bipush (v := 16) hx hb dX7_stepsThrough_24 (by decide +kernel) ?_
    refine lv_icmp_ge (tgt := 84) hx hb dX7_stepsThrough_26 (by decide) (fun cq2 => ?_) (fun cq2 => ?_)
    · replace hf := if_at hf cq2
      refine lv_iload hx hb dX7_stepsThrough_84 (lv_at hl 3 rfl) ?_
      have hf1 := Option.some.inj hf
      subst hf1
      have hP9 := hP.sub (ws' := (wX7_stepsThrough h0 h1 h2 h3 kc2 kc3 n3 V0 V1 v0_height c2 c3)) [0, 1, 2, 3] rfl
      have hD9 := hD.sub (ws' := (wX7_stepsThrough h0 h1 h2 h3 kc2 kc3 n3 V0 V1 v0_height c2 c3)) [0, 1, 2, 3] (by decide) rfl
      exact W.iret (v := y5) hx hb hr (fun t ht hW => ⟨⟨y5, (), rfl, ⟨rfl, rfl⟩, by rw [ht]; exact hP9, va_K.moved hW.alike hK, hD9⟩, hS.F ht⟩) hS.2.2 dX7_stepsThrough_86
    · replace hf := if_no hf cq2
      refine lv_aload_n hx hb dX7_stepsThrough_29 rfl (lv_at hl 0 rfl) ?_
      refine va_get (D := (dC, dI)) (ci := 7) (v := .ref h1) (C := RX7) (T := TX7) (N := 5) hx hb hts inlX7 hown hK hP 0 rfl rfl 0 (by decide) w0_ (fun _ h9 => h9) rfl dX7_stepsThrough_30 ?_
      refine va_get (D := (dC, dI)) (ci := 1) (v := .ref h2) (C := RX1) (T := TX1) (N := 3) hx hb hts inlX1 hown hK hP 1 rfl rfl 0 (by decide) w1_ (fun _ h9 => h9) rfl dX7_stepsThrough_33 ?_
      refine lv_iload_n hx hb dX7_stepsThrough_36 rfl (lv_at hl 1 rfl) ?_
      refine lv_iload hx hb dX7_stepsThrough_37 (lv_at hl 4 rfl) ?_
      refine lv_iadd hx hb dX7_stepsThrough_39 ?_
      refine lv_topi (fun x3 e3 => ?_)
      replace hf := nm_at hf e3
      have b4 := bd_in hf
      replace hf := bd_k hf
      refine va_iald hx hb hK hP 2 0 rfl rfl b4 dX7_stepsThrough_40 ?_
      refine lv_topi (fun x5 e5 => ?_)
      replace hf := nm_at hf e5
      refine lv_iload hx hb dX7_stepsThrough_41 (lv_at hl 3 rfl) ?_
      refine lv_icmp_ge (tgt := 78) hx hb dX7_stepsThrough_43 (by decide) (fun cq6 => ?_) (fun cq6 => ?_)
      · replace hf := if_at hf cq6
        exact (hG _ _ _ _ _).mp (J78 k22 hk22 y3 y4 y5 y6 H locs ls (hP.sub [0, 1, 2, 3] rfl) (hD.sub [0, 1, 2, 3] (by decide) rfl) hS (lv_sub hl [0, 1, 2, 3, 4] rfl) hf)
      · replace hf := if_no hf cq6
        refine lv_iload hx hb dX7_stepsThrough_46 (lv_at hl 3 rfl) ?_
        refine lv_aload_n hx hb dX7_stepsThrough_48 rfl (lv_at hl 0 rfl) ?_
        refine va_get (D := (dC, dI)) (ci := 7) (v := .ref h1) (C := RX7) (T := TX7) (N := 5) hx hb hts inlX7 hown hK hP 0 rfl rfl 0 (by decide) w0_ (fun _ h9 => h9) rfl dX7_stepsThrough_49 ?_
        refine va_get (D := (dC, dI)) (ci := 1) (v := .ref h2) (C := RX1) (T := TX1) (N := 3) hx hb hts inlX1 hown hK hP 1 rfl rfl 0 (by decide) w1_ (fun _ h9 => h9) rfl dX7_stepsThrough_52 ?_
        refine lv_iload_n hx hb dX7_stepsThrough_55 rfl (lv_at hl 1 rfl) ?_
        refine lv_iload hx hb dX7_stepsThrough_56 (lv_at hl 4 rfl) ?_
        refine lv_iadd hx hb dX7_stepsThrough_58 ?_
        refine lv_topi (fun x7 e7 => ?_)
        replace hf := nm_at hf e7
        have b8 := bd_in hf
        replace hf := bd_k hf
        refine va_iald hx hb hK hP 2 0 rfl rfl b8 dX7_stepsThrough_59 ?_
        refine lv_topi (fun x9 e9 => ?_)
        replace hf := nm_at hf e9
        refine lv_aload_n hx hb dX7_stepsThrough_60 rfl (lv_at hl 0 rfl) ?_
        refine va_get (D := (dC, dI)) (ci := 7) (v := .ref h3) (C := RX7) (T := TX7) (N := 5) hx hb hts inlX7 hown hK hP 0 rfl rfl 3 (by decide) w2_ (fun _ h9 => h9) rfl dX7_stepsThrough_61 ?_
        refine lv_iload hx hb dX7_stepsThrough_64 (lv_at hl 2 rfl) ?_
        refine lv_iload hx hb dX7_stepsThrough_66 (lv_at hl 4 rfl) ?_
        refine lv_iadd hx hb dX7_stepsThrough_68 ?_
        refine lv_topi (fun x10 e10 => ?_)
        replace hf := nm_at hf e10
        have b11 := bd_in hf
        replace hf := bd_k hf
        refine va_iald hx hb hK hP 3 1 rfl rfl b11 dX7_stepsThrough_69 ?_
        refine lv_topi (fun x12 e12 => ?_)
        replace hf := nm_at hf e12
        obtain ⟨o13, e13, hf⟩ := ob_some hf
        refine kSNi (As := [.int x9, .int x12]) (rest := [.int y5]) ⟨hx, hb, hml, hown, hts⟩ (mX10_sum l dC dI H.size base x9 x12 o13 e13) ⟨va_cnB 2 hts (gT q343) rfl rfl rfl hE.2.1.1 (hts _ q2) (by decide +kernel) ⟨Nat.le_of_ble_eq_true rfl, Nat.le_of_ble_eq_true rfl⟩, hts _ q342, trivial⟩ hK hP hD hS hA hE hAB [] [0, 1, 2, 3] [] (wr := (wX7_stepsThrough h0 h1 h2 h3 kc2 kc3 n3 V0 V1 v0_height c2 c3)) rfl rfl (by decide) (by decide) (by decide) rfl rfl hl.1 rfl (Nat.le_of_ble_eq_true rfl) dX7_stepsThrough_70 ⟨Nat.zero_le _, Nat.zero_le _⟩ (fun r13 u13 H locs hw13 hP hD hS => ?_)
        obtain ⟨hw131, hw132⟩ := hw13
        subst hw131 hw132
        have hP : va_P (dC, dI) vwCl (wX7_stepsThrough h0 h1 h2 h3 kc2 kc3 n3 V0 V1 v0_height c2 c3) H := hP.sub [0, 1, 2, 3] rfl
        have hD : va_D A (wX7_stepsThrough h0 h1 h2 h3 kc2 kc3 n3 V0 V1 v0_height c2 c3) := hD.sub [0, 1, 2, 3] (by decide) rfl
        refine va_mmin hx hb (by rw [hml]; exact hl.1.symm) hown w3_ w4_ w5_ w6_ (Nat.le_of_ble_eq_true rfl) (Nat.le_of_ble_eq_true rfl) (Nat.zero_le _) (Nat.zero_le _) dX7_stepsThrough_73 ?_
        refine lv_topi (fun x14 e14 => ?_)
        replace hf := nm_at hf e14
        refine lv_istore (lv' := [(5, .int x14), (0, .ref h0), (3, .int y3), (4, .int y4), (6, .int y6)]) hx hb dX7_stepsThrough_76 hl (by decide) rfl (fun ls hl => ?_)
        exact (hG _ _ _ _ _).mp (J78 k22 hk22 y3 y4 x14 y6 H locs ls (hP.sub [0, 1, 2, 3] rfl) (hD.sub [0, 1, 2, 3] (by decide) rfl) hS (lv_sub hl [1, 2, 3, 0, 4] rfl) hf)
  have L22 : ∀ (n : Nat), ∀ (y3 : Int32) (y4 : Int32) (y5 : Int32) (y6 : Int32) (H : Heap) (locs : List Loc) (ls : Array Slot), va_P (dC, dI) vwCl (wX7_stepsThrough h0 h1 h2 h3 kc2 kc3 n3 V0 V1 v0_height c2 c3) H → va_D A (wX7_stepsThrough h0 h1 h2 h3 kc2 kc3 n3 V0 V1 v0_height c2 c3) → va_S A s.heap H locs → lv_has ls 7 [(0, .ref h0), (3, .int y3), (4, .int y4), (5, .int y5), (6, .int y6)] → fX7_stepsThrough_l22 n3 v0_height c2 c3  n y3 y4 y5 y6 = some o → G 0 0 H locs (F0 m 22 ls []) := by
    intro  n
    induction n with
    | zero => intro y3 y4 y5 y6 H locs ls _ _ _ _ hf; cases hf
    | succ n ih => exact B22  _ ih
  refine (hG _ _ _ _ _).mpr ?_
  obtain ⟨H, hH⟩ : ∃ H, H = s.heap := ⟨_, rfl⟩
  have hS : va_S A s.heap H [] := by rw [hH]; exact hS
  rw [← hH] at hP ⊢
  generalize ([] : List Loc) = locs at hS ⊢
  unfold fX7_stepsThrough at hf
  refine lv_iload_n hx hb dX7_stepsThrough_0 rfl (lv_at hl 1 rfl) ?_
  refine lv_iload_n hx hb dX7_stepsThrough_1 rfl (lv_at hl 2 rfl) ?_
  obtain ⟨o15, e15, hf⟩ := ob_some hf
  refine kSi (As := [.int a0, .int a1]) (rest := []) ⟨hx, hb, hml, hown, hts⟩ (mX1_row l dC dI H.size base a0 a1 o15 e15) (va_cwS 2 hts (gTS q341 q309 q261 q310) rfl rfl rfl (by decide +kernel) ⟨Nat.le_of_ble_eq_true rfl, Nat.le_of_ble_eq_true rfl⟩) hK hP hD hS hA hE hAB [] [0, 1, 2, 3] [] (wr := (wX7_stepsThrough h0 h1 h2 h3 kc2 kc3 n3 V0 V1 v0_height c2 c3)) rfl rfl (by decide) (by decide) (by decide) rfl rfl hl.1 rfl (Nat.le_of_ble_eq_true rfl) dX7_stepsThrough_2 ⟨Nat.zero_le _, Nat.zero_le _⟩ (fun r15 u15 H locs hw15 hP hD hS => ?_)
  obtain ⟨hw151, hw152⟩ := hw15
  subst hw151 hw152
  have hP : va_P (dC, dI) vwCl (wX7_stepsThrough h0 h1 h2 h3 kc2 kc3 n3 V0 V1 v0_height c2 c3) H := hP.sub [0, 1, 2, 3] rfl
  have hD : va_D A (wX7_stepsThrough h0 h1 h2 h3 kc2 kc3 n3 V0 V1 v0_height c2 c3) := hD.sub [0, 1, 2, 3] (by decide) rfl
  refine lv_istore_n (lv' := [(3, .int o15.1), (0, .ref h0), (1, .int a0), (2, .int a1)]) hx hb dX7_stepsThrough_5 rfl hl (by decide) rfl (fun ls hl => ?_)
  refine lv_aload_n hx hb dX7_stepsThrough_6 rfl (lv_at hl 1 rfl) ?_
  refine va_get (D := (dC, dI)) (ci := 7) (v := .int v0_height) (C := RX7) (T := TX7) (N := 5) hx hb hts inlX7 hown hK hP 0 rfl rfl 4 (by decide) w7_ (fun _ h9 => h9) rfl dX7_stepsThrough_7 ?_
  refine lv_bipush (v := 16) hx hb dX7_stepsThrough_10 (by decide +kernel) ?_
  refine lv_imul hx hb dX7_stepsThrough_12 ?_
  refine lv_topi (fun x16 e16 => ?_)
  replace hf := nm_at hf e16
  refine lv_istore (lv' := [(4, .int x16), (3, .int o15.1), (0, .ref h0), (1, .int a0), (2, .int a1)]) hx hb dX7_stepsThrough_13 hl (by decide) rfl (fun ls hl => ?_)
  refine lv_ldc (v := 536870912) hx hb hown w8_ dX7_stepsThrough_15 ?_
  refine lv_istore (lv' := [(5, .int 536870912), (4, .int x16), (3, .int o15.1), (0, .ref h0), (1, .int a0), (2, .int a1)]) hx hb dX7_stepsThrough_17 hl (by decide) rfl (fun ls hl => ?_)
  refine lv_iconst (v := 0) hx hb dX7_stepsThrough_19 (by decide +kernel) ?_
  refine lv_istore (lv' := [(6, .int 0), (5, .int 536870912), (4, .int x16), (3, .int o15.1), (0, .ref h0), (1, .int a0), (2, .int a1)]) hx hb dX7_stepsThrough_20 hl (by decide) rfl (fun ls hl => ?_)
  exact (hG _ _ _ _ _).mp (L22 FU o15.1 x16 536870912 0 H locs ls (hP.sub [0, 1, 2, 3] rfl) (hD.sub [0, 1, 2, 3] (by decide) rfl) hS (lv_sub hl [4, 3, 2, 1, 0] rfl) hf)
abbrev wX7_pile (h0 h1 h2 h3 h4 : Nat) (kc2 kc3 kc4 : ClassId) (n3 : Nat) (n4 : Nat) (V1 : Nat → Value) (v0_most : Int32) (v0_height : Int32) (c2 : Nat → Int32) (c3 : Nat → Int32) (c4 : Nat → Int32) : va_W := [(h0, .inr (7, [.ref h1, .int v0_most, .ref h4, .ref h3, .int v0_height])), (h1, .inr (1, [.ref h2, V1 1, V1 2])), (h2, .inl (kc2, 3072, .inl c2)), (h3, .inl (kc3, n3, .inl c3)), (h4, .inl (kc4, n4, .inl c4))]
set_option maxHeartbeats 4000000 in
set_option maxRecDepth 100000 in
theorem mX7_pile (l : Launch) (dC : Nat → ClassId) (dI : Nat → Nat → Nat) (h0 h1 h2 h3 h4 : Nat) (kc2 kc3 kc4 : ClassId) (sz : Nat) (base : Nat × Nat × Nat) (a0 : Int32) (n3 : Nat) (n4 : Nat) (v0_most : Int32) (v0_height : Int32) (c2 : Nat → Int32) (c3 : Nat → Int32) (c4 : Nat → Int32) (V1 : Nat → Value) (o : Int32 × (Nat → Int32) × (Nat → Int32)) (hf : fX7_pile a0 n3 n4 v0_most v0_height c2 c3 c4 = some o) : Met l yX7_pile (.code yX7_pile cX7_pile 3 none :: wsL_law) ({ frames := 3, cells := 0, slots := 0, locals := 68 }) (cPre (dC, dI) vwCl [.ref h0, .int a0] sz base (wX7_pile h0 h1 h2 h3 h4 kc2 kc3 kc4 n3 n4 V1 v0_most v0_height c2 c3 c4) [(kc2, .int), (kc3, .int), (kc4, .int)]) (va_Qv (fun u => u = o) (fun (u : Int32 × (Nat → Int32) × (Nat → Int32)) t => cPost (dC, dI) vwCl (va_A (wX7_pile h0 h1 h2 h3 h4 kc2 kc3 kc4 n3 n4 V1 v0_most v0_height c2 c3 c4) sz) (wX7_pile h0 h1 h2 h3 h4 kc2 kc3 kc4 n3 n4 V1 v0_most u.1 c2 u.2.1 u.2.2) [(kc2, .int), (kc3, .int), (kc4, .int)] t) (va_A (wX7_pile h0 h1 h2 h3 h4 kc2 kc3 kc4 n3 n4 V1 v0_most v0_height c2 c3 c4) sz)) 0 0 (va_A (wX7_pile h0 h1 h2 h3 h4 kc2 kc3 kc4 n3 n4 V1 v0_most v0_height c2 c3 c4) sz) := by
  refine Met.ofW (cc := cX7_pile) (maxL := 3) (ret := none) (by decide) rfl ?_
  intro p e s m args below meth c s₁ B hml hv
  obtain ⟨rfl, hsz, hP, hK, hD0, hE⟩ := hv
  have hx := B.exec
  have hb := B.bytes
  have hr := B.returns
  have hts : ∀ w ∈ wsL_law, _ := fun w h => atoms_spec (ws := .code yX7_pile cX7_pile 3 none :: wsL_law) B.pre w (List.mem_cons_of_mem _ h)
  have hown : s.vm.findClass RX7 = some m.cls := findClass_of_methodNamed B.named
  have hlocks := B.notSynchronized
  have w0_ := hts _ q283
  have w1_ := hts _ q326
  have w2_ := hts _ q284
  have w3_ := hts _ q282
  subst hsz
  have hD := hD0.self (sz := s.heap.size)
  generalize hAe : va_A (wX7_pile h0 h1 h2 h3 h4 kc2 kc3 kc4 n3 n4 V1 v0_most v0_height c2 c3 c4) s.heap.size = A at hD ⊢
  have hA : ∀ q : Nat, s.heap.size ≤ q → A q := fun q h => by rw [← hAe]; exact Or.inr h
  have hAB : ∀ q : Nat, A q → base.1 ≤ q := fun q h => by rw [← hAe] at h; exact h.elim (fun ⟨k, e, hk⟩ => hD0.2 k _ hk) (fun hk => Nat.le_trans hE.1 hk)
  have hS : va_S A s.heap s.heap [] := va_S.rf
  have hl := lv_entry ([.ref h0, .int a0]) (n := 3) (Nat.le_of_ble_eq_true rfl)
  rw [lg_entry_eq]
  generalize (lg_sl ([.ref h0, .int a0]) ++ List.replicate (3 - (lg_sl ([.ref h0, .int a0])).length) Slot.unset).toArray = ls at hl ⊢
  have hl : lv_has ls 3 [(0, .ref h0), (1, .int a0)] := hl
  have hP : va_P (dC, dI) vwCl (wX7_pile h0 h1 h2 h3 h4 kc2 kc3 kc4 n3 n4 V1 v0_most v0_height c2 c3 c4) s.heap := hP
  refine gl_intro (fun G hG => ?_)
  have B14 : ∀ (k14 : Int32 → Int32 → Int32 → (Nat → Int32) → (Nat → Int32) → Option (Int32 × (Nat → Int32) × (Nat → Int32))) (hk14 : ∀ (y1 : Int32) (y2 : Int32) (v0_height : Int32) (c3 : (Nat → Int32)) (c4 : (Nat → Int32)) (H : Heap) (locs : List Loc) (ls : Array Slot), va_P (dC, dI) vwCl (wX7_pile h0 h1 h2 h3 h4 kc2 kc3 kc4 n3 n4 V1 v0_most v0_height c2 c3 c4) H → va_D A (wX7_pile h0 h1 h2 h3 h4 kc2 kc3 kc4 n3 n4 V1 v0_most v0_height c2 c3 c4) → va_S A s.heap H locs → lv_has ls 3 [(0, .ref h0), (1, .int y1), (2, .int y2)] → k14 y1 y2 v0_height c3 c4 = some o → G 0 0 H locs (F0 m 14 ls [])), ∀ (y1 : Int32) (y2 : Int32) (v0_height : Int32) (c3 : (Nat → Int32)) (c4 : (Nat → Int32)) (H : Heap) (locs : List Loc) (ls : Array Slot), va_P (dC, dI) vwCl (wX7_pile h0 h1 h2 h3 h4 kc2 kc3 kc4 n3 n4 V1 v0_most v0_height c2 c3 c4) H → va_D A (wX7_pile h0 h1 h2 h3 h4 kc2 kc3 kc4 n3 n4 V1 v0_most v0_height c2 c3 c4) → va_S A s.heap H locs → lv_has ls 3 [(0, .ref h0), (1, .int y1), (2, .int y2)] → fX7_pile_b14 n3 n4 v0_most c2  k14 y1 y2 v0_height c3 c4 = some o → G 0 0 H locs (F0 m 14 ls []) := by
    intro  k14 hk14 y1 y2 v0_height c3 c4 H locs ls hP hD hS hl hf
    refine (hG _ _ _ _ _).mpr ?_
    unfold fX7_pile_b14 at hf
    refine lv_iload_n hx hb dX7_pile_14 rfl (lv_at hl 2 rfl) ?_
    refine lv_bipush (v := 16) hx hb dX7_pile_15 (by decide +kernel) ?_
    refine lv_icmp_ge (tgt := 48) hx hb dX7_pile_17 (by decide) (fun cq1 => ?_) (fun cq1 => ?_)
    · replace hf := if_at hf cq1
      refine lv_aload_n hx hb dX7_pile_48 rfl (lv_at hl 0 rfl) ?_
      refine va_get (D := (dC, dI)) (ci := 7) (v := .ref h4) (C := RX7) (T := TX7) (N := 5) hx hb hts inlX7 hown hK hP 0 rfl rfl 2 (by decide) w0_ (fun _ h9 => h9) rfl dX7_pile_49 ?_
      refine lv_aload_n hx hb dX7_pile_52 rfl (lv_at hl 0 rfl) ?_
      refine va_get (D := (dC, dI)) (ci := 7) (v := .int v0_height) (C := RX7) (T := TX7) (N := 5) hx hb hts inlX7 hown hK hP 0 rfl rfl 4 (by decide) w1_ (fun _ h9 => h9) rfl dX7_pile_53 ?_
      refine lv_iload_n hx hb dX7_pile_56 rfl (lv_at hl 1 rfl) ?_
      have b2 := bd_in hf
      replace hf := bd_k hf
      obtain ⟨c2x, e2⟩ : ∃ y, y = upd c4 v0_height.toNatClampNeg y1 := ⟨_, rfl⟩
      replace hf := nm_at hf e2
      refine va_iast hx hb hK hP hD hS 4 2 rfl rfl b2 dX7_pile_57 (fun H locs hP hD hS => ?_)
      have hP : va_P (dC, dI) vwCl (wX7_pile h0 h1 h2 h3 h4 kc2 kc3 kc4 n3 n4 V1 v0_most v0_height c2 c3 c2x) H := by rw [e2]; exact hP
      have hD : va_D A (wX7_pile h0 h1 h2 h3 h4 kc2 kc3 kc4 n3 n4 V1 v0_most v0_height c2 c3 c2x) := by rw [e2]; exact hD
      refine lv_aload_n hx hb dX7_pile_58 rfl (lv_at hl 0 rfl) ?_
      refine lv_dup hx hb dX7_pile_59 rfl ?_
      refine va_get (D := (dC, dI)) (ci := 7) (v := .int v0_height) (C := RX7) (T := TX7) (N := 5) hx hb hts inlX7 hown hK hP 0 rfl rfl 4 (by decide) w1_ (fun _ h9 => h9) rfl dX7_pile_60 ?_
      refine lv_iconst (v := 1) hx hb dX7_pile_63 (by decide +kernel) ?_
      refine lv_iadd hx hb dX7_pile_64 ?_
      refine lv_topi (fun x3 e3 => ?_)
      replace hf := nm_at hf e3
      refine va_put (D := (dC, dI)) (ci := 7) (v := .int x3) (ty := .int) (C := RX7) (T := TX7) (N := 5) hx hb hts inlX7 tyX7 tyX7_ok nmX7 hown hK hP hD hS 0 rfl rfl 4 (by decide) w1_ (fun _ h9 => h9) rfl (by decide +kernel) rfl rfl (Nat.le_of_ble_eq_true rfl) dX7_pile_65 (fun H locs hP hD hS => ?_)
      have hP : va_P (dC, dI) vwCl (wX7_pile h0 h1 h2 h3 h4 kc2 kc3 kc4 n3 n4 V1 v0_most x3 c2 c3 c2x) H := hP
      have hD : va_D A (wX7_pile h0 h1 h2 h3 h4 kc2 kc3 kc4 n3 n4 V1 v0_most x3 c2 c3 c2x) := hD
      have hf1 := Option.some.inj hf
      subst hf1
      have hP9 := hP.sub (ws' := (wX7_pile h0 h1 h2 h3 h4 kc2 kc3 kc4 n3 n4 V1 v0_most x3 c2 c3 c2x)) [0, 1, 2, 3, 4] rfl
      have hD9 := hD.sub (ws' := (wX7_pile h0 h1 h2 h3 h4 kc2 kc3 kc4 n3 n4 V1 v0_most x3 c2 c3 c2x)) [0, 1, 2, 3, 4] (by decide) rfl
      exact W.vret hx hb hr (fun t ht hW => ⟨⟨(x3, c3, c2x), rfl, rfl, by rw [ht]; exact hP9, va_K.moved hW.alike hK, hD9⟩, hS.F ht⟩) hS.2.2 dX7_pile_68
    · replace hf := if_no hf cq1
      refine lv_aload_n hx hb dX7_pile_20 rfl (lv_at hl 0 rfl) ?_
      refine va_get (D := (dC, dI)) (ci := 7) (v := .ref h3) (C := RX7) (T := TX7) (N := 5) hx hb hts inlX7 hown hK hP 0 rfl rfl 3 (by decide) w2_ (fun _ h9 => h9) rfl dX7_pile_21 ?_
      refine lv_aload_n hx hb dX7_pile_24 rfl (lv_at hl 0 rfl) ?_
      refine va_get (D := (dC, dI)) (ci := 7) (v := .int v0_height) (C := RX7) (T := TX7) (N := 5) hx hb hts inlX7 hown hK hP 0 rfl rfl 4 (by decide) w1_ (fun _ h9 => h9) rfl dX7_pile_25 ?_
      refine lv_iconst (v := 1) hx hb dX7_pile_28 (by decide +kernel) ?_
      refine lv_iadd hx hb dX7_pile_29 ?_
      refine lv_topi (fun x4 e4 => ?_)
      replace hf := nm_at hf e4
      refine lv_bipush (v := 16) hx hb dX7_pile_30 (by decide +kernel) ?_
      refine lv_imul hx hb dX7_pile_32 ?_
      refine lv_topi (fun x5 e5 => ?_)
      replace hf := nm_at hf e5
      refine lv_iload_n hx hb dX7_pile_33 rfl (lv_at hl 2 rfl) ?_
      refine lv_iadd hx hb dX7_pile_34 ?_
      refine lv_topi (fun x6 e6 => ?_)
      replace hf := nm_at hf e6
      refine lv_aload_n hx hb dX7_pile_35 rfl (lv_at hl 0 rfl) ?_
      refine lv_iload_n hx hb dX7_pile_36 rfl (lv_at hl 2 rfl) ?_
      refine lv_iload_n hx hb dX7_pile_37 rfl (lv_at hl 1 rfl) ?_
      obtain ⟨o7, e7, hf⟩ := ob_some hf
      refine kVi (As := [.int y2, .int y1]) (rest := [.int x6, .ref h3]) ⟨hx, hb, hml, hown, hts⟩ (mX7_stepsThrough l dC dI h0 h1 h2 h3 kc2 kc3 H.size base y2 y1 n3 v0_height c2 c3 (fun k => match k with | 1 => .int v0_most | 2 => .ref h4 | _ => .null) V1 o7 e7) (cwV 2 hts (gTV q335 q336 q337 q265 q338) rfl rfl rfl (by decide +kernel) ⟨Nat.le_of_ble_eq_true rfl, Nat.le_of_ble_eq_true rfl⟩) hK hP hD hS hA hE hAB [0, 1, 2, 3] [4] [0, 1] (wr := [(h4, .inl (kc4, n4, .inl c4))]) rfl rfl (by decide) (by decide) (by decide) rfl (ci := 7) (q0 := 0) rfl rfl rfl rfl hl.1 rfl (Nat.le_of_ble_eq_true rfl) dX7_pile_38 ⟨Nat.zero_le _, Nat.zero_le _⟩ (fun r7 u7 H locs hw7 hP hD hS => ?_)
      obtain ⟨hw71, hw72⟩ := hw7
      subst hw71 hw72
      have hP : va_P (dC, dI) vwCl (wX7_pile h0 h1 h2 h3 h4 kc2 kc3 kc4 n3 n4 V1 v0_most v0_height c2 c3 c4) H := hP.sub [1, 2, 3, 4, 0] rfl
      have hD : va_D A (wX7_pile h0 h1 h2 h3 h4 kc2 kc3 kc4 n3 n4 V1 v0_most v0_height c2 c3 c4) := hD.sub [1, 2, 3, 4, 0] (by decide) rfl
      have b8 := bd_in hf
      replace hf := bd_k hf
      obtain ⟨c8x, e8⟩ : ∃ y, y = upd c3 x6.toNatClampNeg o7.1 := ⟨_, rfl⟩
      replace hf := nm_at hf e8
      refine va_iast hx hb hK hP hD hS 3 1 rfl rfl b8 dX7_pile_41 (fun H locs hP hD hS => ?_)
      have hP : va_P (dC, dI) vwCl (wX7_pile h0 h1 h2 h3 h4 kc2 kc3 kc4 n3 n4 V1 v0_most v0_height c2 c8x c4) H := by rw [e8]; exact hP
      have hD : va_D A (wX7_pile h0 h1 h2 h3 h4 kc2 kc3 kc4 n3 n4 V1 v0_most v0_height c2 c8x c4) := by rw [e8]; exact hD
      obtain ⟨x9, e9⟩ : ∃ y : Int32, y = y2 + 1 := ⟨_, rfl⟩
      replace hf := nm_at hf e9
      refine lv_iinc (v := x9) (lv' := [(2, .int x9), (0, .ref h0), (1, .int y1)]) hx hb dX7_pile_42 hl (k := 2) rfl (by rw [e9]; rfl) (by decide) rfl (fun ls hl => ?_)
      refine lv_goto (tgt := 14) hx hb dX7_pile_45 (by decide) ?_
      exact (hG _ _ _ _ _).mp (hk14 y1 x9 v0_height c8x c4 H locs ls (hP.sub [0, 1, 2, 3, 4] rfl) (hD.sub [0, 1, 2, 3, 4] (by decide) rfl) hS (lv_sub hl [1, 2, 0] rfl) hf)
  have L14 : ∀ (n : Nat), ∀ (y1 : Int32) (y2 : Int32) (v0_height : Int32) (c3 : (Nat → Int32)) (c4 : (Nat → Int32)) (H : Heap) (locs : List Loc) (ls : Array Slot), va_P (dC, dI) vwCl (wX7_pile h0 h1 h2 h3 h4 kc2 kc3 kc4 n3 n4 V1 v0_most v0_height c2 c3 c4) H → va_D A (wX7_pile h0 h1 h2 h3 h4 kc2 kc3 kc4 n3 n4 V1 v0_most v0_height c2 c3 c4) → va_S A s.heap H locs → lv_has ls 3 [(0, .ref h0), (1, .int y1), (2, .int y2)] → fX7_pile_l14 n3 n4 v0_most c2  n y1 y2 v0_height c3 c4 = some o → G 0 0 H locs (F0 m 14 ls []) := by
    intro  n
    induction n with
    | zero => intro y1 y2 v0_height c3 c4 H locs ls _ _ _ _ hf; cases hf
    | succ n ih => exact B14  _ ih
  refine (hG _ _ _ _ _).mpr ?_
  obtain ⟨H, hH⟩ : ∃ H, H = s.heap := ⟨_, rfl⟩
  have hS : va_S A s.heap H [] := by rw [hH]; exact hS
  rw [← hH] at hP ⊢
  generalize ([] : List Loc) = locs at hS ⊢
  unfold fX7_pile at hf
  refine lv_aload_n hx hb dX7_pile_0 rfl (lv_at hl 0 rfl) ?_
  refine va_get (D := (dC, dI)) (ci := 7) (v := .int v0_height) (C := RX7) (T := TX7) (N := 5) hx hb hts inlX7 hown hK hP 0 rfl rfl 4 (by decide) w1_ (fun _ h9 => h9) rfl dX7_pile_1 ?_
  refine lv_aload_n hx hb dX7_pile_4 rfl (lv_at hl 0 rfl) ?_
  refine va_get (D := (dC, dI)) (ci := 7) (v := .int v0_most) (C := RX7) (T := TX7) (N := 5) hx hb hts inlX7 hown hK hP 0 rfl rfl 1 (by decide) w3_ (fun _ h9 => h9) rfl dX7_pile_5 ?_
  refine lv_icmp_lt (tgt := 12) hx hb dX7_pile_8 (by decide) (fun cq10 => ?_) (fun cq10 => ?_)
  · replace hf := if_at hf cq10
    refine lv_iconst (v := 0) hx hb dX7_pile_12 (by decide +kernel) ?_
    refine lv_istore_n (lv' := [(2, .int 0), (0, .ref h0), (1, .int a0)]) hx hb dX7_pile_13 rfl hl (by decide) rfl (fun ls hl => ?_)
    exact (hG _ _ _ _ _).mp (L14 FU a0 0 v0_height c3 c4 H locs ls (hP.sub [0, 1, 2, 3, 4] rfl) (hD.sub [0, 1, 2, 3, 4] (by decide) rfl) hS (lv_sub hl [1, 2, 0] rfl) hf)
  · replace hf := if_no hf cq10
    have hf1 := Option.some.inj hf
    subst hf1
    have hP9 := hP.sub (ws' := (wX7_pile h0 h1 h2 h3 h4 kc2 kc3 kc4 n3 n4 V1 v0_most v0_height c2 c3 c4)) [0, 1, 2, 3, 4] rfl
    have hD9 := hD.sub (ws' := (wX7_pile h0 h1 h2 h3 h4 kc2 kc3 kc4 n3 n4 V1 v0_most v0_height c2 c3 c4)) [0, 1, 2, 3, 4] (by decide) rfl
    exact W.vret hx hb hr (fun t ht hW => ⟨⟨(v0_height, c3, c4), rfl, rfl, by rw [ht]; exact hP9, va_K.moved hW.alike hK, hD9⟩, hS.F ht⟩) hS.2.2 dX7_pile_11
abbrev wX7_buildWord (h0 h1 h2 h3 h4 h5 h6 : Nat) (kc2 kc3 kc5 kc6 : ClassId) (n2 : Nat) (n6 : Nat) (V1 : Nat → Value) (V4 : Nat → Value) (v0_most : Int32) (v0_height : Int32) (v1_ends : Int32) (v1_height : Int32) (c2 : Nat → Int32) (c3 : Nat → Int32) (c5 : Nat → Int32) (c6 : Nat → Int32) : va_W := [(h0, .inr (7, [.ref h4, .int v0_most, .ref h6, .ref h2, .int v0_height])), (h1, .inr (6, [V1 0, V1 1, V1 2, V1 3, V1 4, V1 5, V1 6, V1 7, .int v1_ends, .ref h3, .int v1_height, V1 11, V1 12, V1 13])), (h2, .inl (kc2, n2, .inl c2)), (h3, .inl (kc3, 30, .inl c3)), (h4, .inr (1, [.ref h5, V4 1, V4 2])), (h5, .inl (kc5, 3072, .inl c5)), (h6, .inl (kc6, n6, .inl c6))]
set_option maxHeartbeats 4000000 in
set_option maxRecDepth 100000 in
theorem mX7_buildWord (l : Launch) (dC : Nat → ClassId) (dI : Nat → Nat → Nat) (h0 h1 h2 h3 h4 h5 h6 : Nat) (kc2 kc3 kc5 kc6 : ClassId) (sz : Nat) (base : Nat × Nat × Nat) (n2 : Nat) (n6 : Nat) (v0_most : Int32) (v0_height : Int32) (v1_ends : Int32) (v1_height : Int32) (c2 : Nat → Int32) (c3 : Nat → Int32) (c5 : Nat → Int32) (c6 : Nat → Int32) (V1 : Nat → Value) (V4 : Nat → Value) (o : Int32 × (Nat → Int32) × (Nat → Int32)) (hf : fX7_buildWord n2 n6 v0_most v0_height v1_ends v1_height c2 c3 c5 c6 = some o) : Met l yX7_buildWord (.code yX7_buildWord cX7_buildWord 3 none :: wsL_law) ({ frames := 4, cells := 0, slots := 0, locals := 90 }) (cPre (dC, dI) vwCl [.ref h0, .ref h1] sz base (wX7_buildWord h0 h1 h2 h3 h4 h5 h6 kc2 kc3 kc5 kc6 n2 n6 V1 V4 v0_most v0_height v1_ends v1_height c2 c3 c5 c6) [(kc2, .int), (kc3, .int), (kc5, .int), (kc6, .int)]) (va_Qv (fun u => u = o) (fun (u : Int32 × (Nat → Int32) × (Nat → Int32)) t => cPost (dC, dI) vwCl (va_A (wX7_buildWord h0 h1 h2 h3 h4 h5 h6 kc2 kc3 kc5 kc6 n2 n6 V1 V4 v0_most v0_height v1_ends v1_height c2 c3 c5 c6) sz) (wX7_buildWord h0 h1 h2 h3 h4 h5 h6 kc2 kc3 kc5 kc6 n2 n6 V1 V4 v0_most u.1 v1_ends v1_height u.2.1 c3 c5 u.2.2) [(kc2, .int), (kc3, .int), (kc5, .int), (kc6, .int)] t) (va_A (wX7_buildWord h0 h1 h2 h3 h4 h5 h6 kc2 kc3 kc5 kc6 n2 n6 V1 V4 v0_most v0_height v1_ends v1_height c2 c3 c5 c6) sz)) 0 0 (va_A (wX7_buildWord h0 h1 h2 h3 h4 h5 h6 kc2 kc3 kc5 kc6 n2 n6 V1 V4 v0_most v0_height v1_ends v1_height c2 c3 c5 c6) sz) := by
  refine Met.ofW (cc := cX7_buildWord) (maxL := 3) (ret := none) (by decide) rfl ?_
  intro p e s m args below meth c s₁ B hml hv
  obtain ⟨rfl, hsz, hP, hK, hD0, hE⟩ := hv
  have hx := B.exec
  have hb := B.bytes
  have hr := B.returns
  have hts : ∀ w ∈ wsL_law, _ := fun w h => atoms_spec (ws := .code yX7_buildWord cX7_buildWord 3 none :: wsL_law) B.pre w (List.mem_cons_of_mem _ h)
  have hown : s.vm.findClass RX7 = some m.cls := findClass_of_methodNamed B.named
  have hlocks := B.notSynchronized
  have w0_ := hts _ q329
  have w1_ := hts _ q330
  have w2_ := hts _ q284
  have w3_ := hts _ q327
  have w4_ := hts _ q328
  have w5_ := hts _ q326
  subst hsz
  have hD := hD0.self (sz := s.heap.size)
  generalize hAe : va_A (wX7_buildWord h0 h1 h2 h3 h4 h5 h6 kc2 kc3 kc5 kc6 n2 n6 V1 V4 v0_most v0_height v1_ends v1_height c2 c3 c5 c6) s.heap.size = A at hD ⊢
  have hA : ∀ q : Nat, s.heap.size ≤ q → A q := fun q h => by rw [← hAe]; exact Or.inr h
  have hAB : ∀ q : Nat, A q → base.1 ≤ q := fun q h => by rw [← hAe] at h; exact h.elim (fun ⟨k, e, hk⟩ => hD0.2 k _ hk) (fun hk => Nat.le_trans hE.1 hk)
  have hS : va_S A s.heap s.heap [] := va_S.rf
  have hl := lv_entry ([.ref h0, .ref h1]) (n := 3) (Nat.le_of_ble_eq_true rfl)
  rw [lg_entry_eq]
  generalize (lg_sl ([.ref h0, .ref h1]) ++ List.replicate (3 - (lg_sl ([.ref h0, .ref h1])).length) Slot.unset).toArray = ls at hl ⊢
  have hl : lv_has ls 3 [(0, .ref h0), (1, .ref h1)] := hl
  have hP : va_P (dC, dI) vwCl (wX7_buildWord h0 h1 h2 h3 h4 h5 h6 kc2 kc3 kc5 kc6 n2 n6 V1 V4 v0_most v0_height v1_ends v1_height c2 c3 c5 c6) s.heap := hP
  refine gl_intro (fun G hG => ?_)
  have B44 : ∀ (k44 : Int32 → Int32 → (Nat → Int32) → (Nat → Int32) → Option (Int32 × (Nat → Int32) × (Nat → Int32))) (hk44 : ∀ (y2 : Int32) (v0_height : Int32) (c2 : (Nat → Int32)) (c6 : (Nat → Int32)) (H : Heap) (locs : List Loc) (ls : Array Slot), va_P (dC, dI) vwCl (wX7_buildWord h0 h1 h2 h3 h4 h5 h6 kc2 kc3 kc5 kc6 n2 n6 V1 V4 v0_most v0_height v1_ends v1_height c2 c3 c5 c6) H → va_D A (wX7_buildWord h0 h1 h2 h3 h4 h5 h6 kc2 kc3 kc5 kc6 n2 n6 V1 V4 v0_most v0_height v1_ends v1_height c2 c3 c5 c6) → va_S A s.heap H locs → lv_has ls 3 [(0, .ref h0), (1, .ref h1), (2, .int y2)] → k44 y2 v0_height c2 c6 = some o → G 0 0 H locs (F0 m 44 ls [])), ∀ (y2 : Int32) (v0_height : Int32) (c2 : (Nat → Int32)) (c6 : (Nat → Int32)) (H : Heap) (locs : List Loc) (ls : Array Slot), va_P (dC, dI) vwCl (wX7_buildWord h0 h1 h2 h3 h4 h5 h6 kc2 kc3 kc5 kc6 n2 n6 V1 V4 v0_most v0_height v1_ends v1_height c2 c3 c5 c6) H → va_D A (wX7_buildWord h0 h1 h2 h3 h4 h5 h6 kc2 kc3 kc5 kc6 n2 n6 V1 V4 v0_most v0_height v1_ends v1_height c2 c3 c5 c6) → va_S A s.heap H locs → lv_has ls 3 [(0, .ref h0), (1, .ref h1), (2, .int y2)] → fX7_buildWord_b44 n2 n6 v0_most v1_ends v1_height c3 c5  k44 y2 v0_height c2 c6 = some o → G 0 0 H locs (F0 m 44 ls []) := by
    intro  k44 hk44 y2 v0_height c2 c6 H locs ls hP hD hS hl hf
    refine (hG _ _ _ _ _).mpr ?_
    unfold fX7_buildWord_b44 at hf
    refine lv_iload_n hx hb dX7_buildWord_44 rfl (lv_at hl 2 rfl) ?_
    refine lv_aload_n hx hb dX7_buildWord_45 rfl (lv_at hl 1 rfl) ?_
    refine va_get (D := (dC, dI)) (ci := 6) (v := .int v1_height) (C := RX6) (T := TX6) (N := 14) hx hb hts inlX6 hown hK hP 1 rfl rfl 10 (by decide) w0_ (fun _ h9 => h9) rfl dX7_buildWord_46 ?_
    refine lv_icmp_ge (tgt := 68) hx hb dX7_buildWord_49 (by decide) (fun cq1 => ?_) (fun cq1 => ?_)
    · replace hf := if_at hf cq1
      have hf1 := Option.some.inj hf
      subst hf1
      have hP9 := hP.sub (ws' := (wX7_buildWord h0 h1 h2 h3 h4 h5 h6 kc2 kc3 kc5 kc6 n2 n6 V1 V4 v0_most v0_height v1_ends v1_height c2 c3 c5 c6)) [0, 1, 2, 3, 4, 5, 6] rfl
      have hD9 := hD.sub (ws' := (wX7_buildWord h0 h1 h2 h3 h4 h5 h6 kc2 kc3 kc5 kc6 n2 n6 V1 V4 v0_most v0_height v1_ends v1_height c2 c3 c5 c6)) [0, 1, 2, 3, 4, 5, 6] (by decide) rfl
      exact W.vret hx hb hr (fun t ht hW => ⟨⟨(v0_height, c2, c6), rfl, rfl, by rw [ht]; exact hP9, va_K.moved hW.alike hK, hD9⟩, hS.F ht⟩) hS.2.2 dX7_buildWord_68
    · replace hf := if_no hf cq1
      refine lv_aload_n hx hb dX7_buildWord_52 rfl (lv_at hl 0 rfl) ?_
      refine lv_aload_n hx hb dX7_buildWord_53 rfl (lv_at hl 1 rfl) ?_
      refine va_get (D := (dC, dI)) (ci := 6) (v := .ref h3) (C := RX6) (T := TX6) (N := 14) hx hb hts inlX6 hown hK hP 1 rfl rfl 9 (by decide) w1_ (fun _ h9 => h9) rfl dX7_buildWord_54 ?_
      refine lv_iload_n hx hb dX7_buildWord_57 rfl (lv_at hl 2 rfl) ?_
      have b2 := bd_in hf
      replace hf := bd_k hf
      refine va_iald hx hb hK hP 3 1 rfl rfl b2 dX7_buildWord_58 ?_
      refine lv_topi (fun x3 e3 => ?_)
      replace hf := nm_at hf e3
      obtain ⟨o4, e4, hf⟩ := ob_some hf
      refine kVv (As := [.int x3]) (rest := []) ⟨hx, hb, hml, hown, hts⟩ (mX7_pile l dC dI h0 h4 h5 h2 h6 kc5 kc2 kc6 H.size base x3 n2 n6 v0_most v0_height c5 c2 c6 V4 o4 e4) (cwV 1 hts (gTV q331 q332 q333 q265 q334) rfl rfl rfl (by decide +kernel) ⟨Nat.le_of_ble_eq_true rfl, Nat.le_of_ble_eq_true rfl⟩) hK hP hD hS hA hE hAB [0, 4, 5, 2, 6] [1, 3] [2, 0, 3] (wr := [(h1, .inr (6, [V1 0, V1 1, V1 2, V1 3, V1 4, V1 5, V1 6, V1 7, .int v1_ends, .ref h3, .int v1_height, V1 11, V1 12, V1 13])), (h3, .inl (kc3, 30, .inl c3))]) rfl rfl (by decide) (by decide) (by decide) rfl (ci := 7) (q0 := 0) rfl rfl rfl rfl hl.1 rfl (Nat.le_of_ble_eq_true rfl) dX7_buildWord_59 ⟨Nat.zero_le _, Nat.zero_le _⟩ (fun u4 H locs hw4 hP hD hS => ?_)
      have hw41 : o4 = u4 := Eq.symm hw4
      subst hw41
      have hP : va_P (dC, dI) vwCl (wX7_buildWord h0 h1 h2 h3 h4 h5 h6 kc2 kc3 kc5 kc6 n2 n6 V1 V4 v0_most o4.1 v1_ends v1_height o4.2.1 c3 c5 o4.2.2) H := hP.sub [2, 0, 5, 1, 3, 4, 6] rfl
      have hD : va_D A (wX7_buildWord h0 h1 h2 h3 h4 h5 h6 kc2 kc3 kc5 kc6 n2 n6 V1 V4 v0_most o4.1 v1_ends v1_height o4.2.1 c3 c5 o4.2.2) := hD.sub [2, 0, 5, 1, 3, 4, 6] (by decide) rfl
      obtain ⟨x5, e5⟩ : ∃ y : Int32, y = y2 + 1 := ⟨_, rfl⟩
      replace hf := nm_at hf e5
      refine lv_iinc (v := x5) (lv' := [(2, .int x5), (0, .ref h0), (1, .ref h1)]) hx hb dX7_buildWord_62 hl (k := 2) rfl (by rw [e5]; rfl) (by decide) rfl (fun ls hl => ?_)
      refine lv_goto (tgt := 44) hx hb dX7_buildWord_65 (by decide) ?_
      exact (hG _ _ _ _ _).mp (hk44 x5 o4.1 o4.2.1 o4.2.2 H locs ls (hP.sub [0, 1, 2, 3, 4, 5, 6] rfl) (hD.sub [0, 1, 2, 3, 4, 5, 6] (by decide) rfl) hS (lv_sub hl [1, 2, 0] rfl) hf)
  have L44 : ∀ (n : Nat), ∀ (y2 : Int32) (v0_height : Int32) (c2 : (Nat → Int32)) (c6 : (Nat → Int32)) (H : Heap) (locs : List Loc) (ls : Array Slot), va_P (dC, dI) vwCl (wX7_buildWord h0 h1 h2 h3 h4 h5 h6 kc2 kc3 kc5 kc6 n2 n6 V1 V4 v0_most v0_height v1_ends v1_height c2 c3 c5 c6) H → va_D A (wX7_buildWord h0 h1 h2 h3 h4 h5 h6 kc2 kc3 kc5 kc6 n2 n6 V1 V4 v0_most v0_height v1_ends v1_height c2 c3 c5 c6) → va_S A s.heap H locs → lv_has ls 3 [(0, .ref h0), (1, .ref h1), (2, .int y2)] → fX7_buildWord_l44 n2 n6 v0_most v1_ends v1_height c3 c5  n y2 v0_height c2 c6 = some o → G 0 0 H locs (F0 m 44 ls []) := by
    intro  n
    induction n with
    | zero => intro y2 v0_height c2 c6 H locs ls _ _ _ _ hf; cases hf
    | succ n ih => exact B44  _ ih
  have J35 : ∀ (k7 : Int32 → Int32 → (Nat → Int32) → (Nat → Int32) → Option (Int32 × (Nat → Int32) × (Nat → Int32))) (hk7 : ∀ (y2 : Int32) (v0_height : Int32) (c2 : (Nat → Int32)) (c6 : (Nat → Int32)) (H : Heap) (locs : List Loc) (ls : Array Slot), va_P (dC, dI) vwCl (wX7_buildWord h0 h1 h2 h3 h4 h5 h6 kc2 kc3 kc5 kc6 n2 n6 V1 V4 v0_most v0_height v1_ends v1_height c2 c3 c5 c6) H → va_D A (wX7_buildWord h0 h1 h2 h3 h4 h5 h6 kc2 kc3 kc5 kc6 n2 n6 V1 V4 v0_most v0_height v1_ends v1_height c2 c3 c5 c6) → va_S A s.heap H locs → lv_has ls 3 [(0, .ref h0), (1, .ref h1), (2, .int y2)] → k7 y2 v0_height c2 c6 = some o → G 0 0 H locs (F0 m 7 ls [])), ∀ (y2 : Int32) (z0 : Int32) (z1 : Int32) (v0_height : Int32) (c2 : (Nat → Int32)) (c6 : (Nat → Int32)) (H : Heap) (locs : List Loc) (ls : Array Slot), va_P (dC, dI) vwCl (wX7_buildWord h0 h1 h2 h3 h4 h5 h6 kc2 kc3 kc5 kc6 n2 n6 V1 V4 v0_most v0_height v1_ends v1_height c2 c3 c5 c6) H → va_D A (wX7_buildWord h0 h1 h2 h3 h4 h5 h6 kc2 kc3 kc5 kc6 n2 n6 V1 V4 v0_most v0_height v1_ends v1_height c2 c3 c5 c6) → va_S A s.heap H locs → lv_has ls 3 [(0, .ref h0), (1, .ref h1), (2, .int y2)] → fX7_buildWord_p35 n2 n6 v0_most v1_ends v1_height c3 c5 k7 y2 z0 z1 v0_height c2 c6 = some o → G 0 0 H locs (F0 m 35 ls [.int z0, .int z1, .ref h2]) := by
    intro k7 hk7 y2 z0 z1 v0_height c2 c6 H locs ls hP hD hS hl hf
    refine (hG _ _ _ _ _).mpr ?_
    unfold fX7_buildWord_p35 at hf
    have b6 := bd_in hf
    replace hf := bd_k hf
    obtain ⟨c6x, e6⟩ : ∃ y, y = upd c2 z1.toNatClampNeg z0 := ⟨_, rfl⟩
    replace hf := nm_at hf e6
    refine va_iast hx hb hK hP hD hS 2 0 rfl rfl b6 dX7_buildWord_35 (fun H locs hP hD hS => ?_)
    have hP : va_P (dC, dI) vwCl (wX7_buildWord h0 h1 h2 h3 h4 h5 h6 kc2 kc3 kc5 kc6 n2 n6 V1 V4 v0_most v0_height v1_ends v1_height c6x c3 c5 c6) H := by rw [e6]; exact hP
    have hD : va_D A (wX7_buildWord h0 h1 h2 h3 h4 h5 h6 kc2 kc3 kc5 kc6 n2 n6 V1 V4 v0_most v0_height v1_ends v1_height c6x c3 c5 c6) := by rw [e6]; exact hD
    obtain ⟨x7, e7⟩ : ∃ y : Int32, y = y2 + 1 := ⟨_, rfl⟩
    replace hf := nm_at hf e7
    refine lv_iinc (v := x7) (lv' := [(2, .int x7), (0, .ref h0), (1, .ref h1)]) hx hb dX7_buildWord_36 hl (k := 2) rfl (by rw [e7]; rfl) (by decide) rfl (fun ls hl => ?_)
    refine lv_goto (tgt := 7) hx hb dX7_buildWord_39 (by decide) ?_
    exact (hG _ _ _ _ _).mp (hk7 x7 v0_height c6x c6 H locs ls (hP.sub [0, 1, 2, 3, 4, 5, 6] rfl) (hD.sub [0, 1, 2, 3, 4, 5, 6] (by decide) rfl) hS (lv_sub hl [1, 2, 0] rfl) hf)
  have B7 : ∀ (k7 : Int32 → Int32 → (Nat → Int32) → (Nat → Int32) → Option (Int32 × (Nat → Int32) × (Nat → Int32))) (hk7 : ∀ (y2 : Int32) (v0_height : Int32) (c2 : (Nat → Int32)) (c6 : (Nat → Int32)) (H : Heap) (locs : List Loc) (ls : Array Slot), va_P (dC, dI) vwCl (wX7_buildWord h0 h1 h2 h3 h4 h5 h6 kc2 kc3 kc5 kc6 n2 n6 V1 V4 v0_most v0_height v1_ends v1_height c2 c3 c5 c6) H → va_D A (wX7_buildWord h0 h1 h2 h3 h4 h5 h6 kc2 kc3 kc5 kc6 n2 n6 V1 V4 v0_most v0_height v1_ends v1_height c2 c3 c5 c6) → va_S A s.heap H locs → lv_has ls 3 [(0, .ref h0), (1, .ref h1), (2, .int y2)] → k7 y2 v0_height c2 c6 = some o → G 0 0 H locs (F0 m 7 ls [])), ∀ (y2 : Int32) (v0_height : Int32) (c2 : (Nat → Int32)) (c6 : (Nat → Int32)) (H : Heap) (locs : List Loc) (ls : Array Slot), va_P (dC, dI) vwCl (wX7_buildWord h0 h1 h2 h3 h4 h5 h6 kc2 kc3 kc5 kc6 n2 n6 V1 V4 v0_most v0_height v1_ends v1_height c2 c3 c5 c6) H → va_D A (wX7_buildWord h0 h1 h2 h3 h4 h5 h6 kc2 kc3 kc5 kc6 n2 n6 V1 V4 v0_most v0_height v1_ends v1_height c2 c3 c5 c6) → va_S A s.heap H locs → lv_has ls 3 [(0, .ref h0), (1, .ref h1), (2, .int y2)] → fX7_buildWord_b7 n2 n6 v0_most v1_ends v1_height c3 c5  k7 y2 v0_height c2 c6 = some o → G 0 0 H locs (F0 m 7 ls []) := by
    intro  k7 hk7 y2 v0_height c2 c6 H locs ls hP hD hS hl hf
    refine (hG _ _ _ _ _).mpr ?_
    unfold fX7_buildWord_b7 at hf
    refine lv_iload_n hx hb dX7_buildWord_7 rfl (lv_at hl 2 rfl) ?_
    refine lv_bipush (v := 16) hx hb dX7_buildWord_8 (by decide +kernel) ?_
    refine lv_icmp_ge (tgt := 42) hx hb dX7_buildWord_10 (by decide) (fun cq8 => ?_) (fun cq8 => ?_)
    · replace hf := if_at hf cq8
      refine lv_iconst (v := 0) hx hb dX7_buildWord_42 (by decide +kernel) ?_
      refine lv_istore_n (lv' := [(2, .int 0), (0, .ref h0), (1, .ref h1)]) hx hb dX7_buildWord_43 rfl hl (by decide) rfl (fun ls hl => ?_)
      exact (hG _ _ _ _ _).mp (L44 FU 0 v0_height c2 c6 H locs ls (hP.sub [0, 1, 2, 3, 4, 5, 6] rfl) (hD.sub [0, 1, 2, 3, 4, 5, 6] (by decide) rfl) hS (lv_sub hl [1, 2, 0] rfl) hf)
    · replace hf := if_no hf cq8
      refine lv_aload_n hx hb dX7_buildWord_13 rfl (lv_at hl 0 rfl) ?_
      refine va_get (D := (dC, dI)) (ci := 7) (v := .ref h2) (C := RX7) (T := TX7) (N := 5) hx hb hts inlX7 hown hK hP 0 rfl rfl 3 (by decide) w2_ (fun _ h9 => h9) rfl dX7_buildWord_14 ?_
      refine lv_iload_n hx hb dX7_buildWord_17 rfl (lv_at hl 2 rfl) ?_
      refine lv_aload_n hx hb dX7_buildWord_18 rfl (lv_at hl 1 rfl) ?_
      refine va_get (D := (dC, dI)) (ci := 6) (v := .int v1_ends) (C := RX6) (T := TX6) (N := 14) hx hb hts inlX6 hown hK hP 1 rfl rfl 8 (by decide) w3_ (fun _ h9 => h9) rfl dX7_buildWord_19 ?_
      refine lv_iload_n hx hb dX7_buildWord_22 rfl (lv_at hl 2 rfl) ?_
      refine lv_iushr hx hb dX7_buildWord_23 rfl ?_
      refine lv_topi (fun x9 e9 => ?_)
      replace hf := nm_at hf e9
      refine lv_iconst (v := 1) hx hb dX7_buildWord_24 (by decide +kernel) ?_
      refine lv_iand hx hb dX7_buildWord_25 ?_
      refine lv_topi (fun x10 e10 => ?_)
      replace hf := nm_at hf e10
      refine lv_if_eq (tgt := 33) hx hb dX7_buildWord_26 (by decide) (fun cq11 => ?_) (fun cq11 => ?_)
      · replace hf := if_at hf cq11
        refine lv_ldc (v := 536870912) hx hb hown w4_ dX7_buildWord_33 ?_
        exact (hG _ _ _ _ _).mp (J35 k7 hk7 y2 536870912 y2 v0_height c2 c6 H locs ls (hP.sub [0, 1, 2, 3, 4, 5, 6] rfl) (hD.sub [0, 1, 2, 3, 4, 5, 6] (by decide) rfl) hS (lv_sub hl [0, 1, 2] rfl) hf)
      · replace hf := if_no hf cq11
        refine lv_iconst (v := 0) hx hb dX7_buildWord_29 (by decide +kernel) ?_
        refine lv_goto (tgt := 35) hx hb dX7_buildWord_30 (by decide) ?_
        exact (hG _ _ _ _ _).mp (J35 k7 hk7 y2 0 y2 v0_height c2 c6 H locs ls (hP.sub [0, 1, 2, 3, 4, 5, 6] rfl) (hD.sub [0, 1, 2, 3, 4, 5, 6] (by decide) rfl) hS (lv_sub hl [0, 1, 2] rfl) hf)
  have L7 : ∀ (n : Nat), ∀ (y2 : Int32) (v0_height : Int32) (c2 : (Nat → Int32)) (c6 : (Nat → Int32)) (H : Heap) (locs : List Loc) (ls : Array Slot), va_P (dC, dI) vwCl (wX7_buildWord h0 h1 h2 h3 h4 h5 h6 kc2 kc3 kc5 kc6 n2 n6 V1 V4 v0_most v0_height v1_ends v1_height c2 c3 c5 c6) H → va_D A (wX7_buildWord h0 h1 h2 h3 h4 h5 h6 kc2 kc3 kc5 kc6 n2 n6 V1 V4 v0_most v0_height v1_ends v1_height c2 c3 c5 c6) → va_S A s.heap H locs → lv_has ls 3 [(0, .ref h0), (1, .ref h1), (2, .int y2)] → fX7_buildWord_l7 n2 n6 v0_most v1_ends v1_height c3 c5  n y2 v0_height c2 c6 = some o → G 0 0 H locs (F0 m 7 ls []) := by
    intro  n
    induction n with
    | zero => intro y2 v0_height c2 c6 H locs ls _ _ _ _ hf; cases hf
    | succ n ih => exact B7  _ ih
  refine (hG _ _ _ _ _).mpr ?_
  obtain ⟨H, hH⟩ : ∃ H, H = s.heap := ⟨_, rfl⟩
  have hS : va_S A s.heap H [] := by rw [hH]; exact hS
  rw [← hH] at hP ⊢
  generalize ([] : List Loc) = locs at hS ⊢
  unfold fX7_buildWord at hf
  refine lv_aload_n hx hb dX7_buildWord_0 rfl (lv_at hl 0 rfl) ?_
  refine lv_iconst (v := 0) hx hb dX7_buildWord_1 (by decide +kernel) ?_
  refine va_put (D := (dC, dI)) (ci := 7) (v := .int 0) (ty := .int) (C := RX7) (T := TX7) (N := 5) hx hb hts inlX7 tyX7 tyX7_ok nmX7 hown hK hP hD hS 0 rfl rfl 4 (by decide) w5_ (fun _ h9 => h9) rfl (by decide +kernel) rfl rfl (Nat.le_of_ble_eq_true rfl) dX7_buildWord_2 (fun H locs hP hD hS => ?_)
  have hP : va_P (dC, dI) vwCl (wX7_buildWord h0 h1 h2 h3 h4 h5 h6 kc2 kc3 kc5 kc6 n2 n6 V1 V4 v0_most 0 v1_ends v1_height c2 c3 c5 c6) H := hP
  have hD : va_D A (wX7_buildWord h0 h1 h2 h3 h4 h5 h6 kc2 kc3 kc5 kc6 n2 n6 V1 V4 v0_most 0 v1_ends v1_height c2 c3 c5 c6) := hD
  refine lv_iconst (v := 0) hx hb dX7_buildWord_5 (by decide +kernel) ?_
  refine lv_istore_n (lv' := [(2, .int 0), (0, .ref h0), (1, .ref h1)]) hx hb dX7_buildWord_6 rfl hl (by decide) rfl (fun ls hl => ?_)
  exact (hG _ _ _ _ _).mp (L7 FU 0 0 c2 c6 H locs ls (hP.sub [0, 1, 2, 3, 4, 5, 6] rfl) (hD.sub [0, 1, 2, 3, 4, 5, 6] (by decide) rfl) hS (lv_sub hl [1, 2, 0] rfl) hf)
abbrev wX7_stepsFrom (h0 h1 : Nat) (kc1 : ClassId) (n1 : Nat) (V0 : Nat → Value) (v0_height : Int32) (c1 : Nat → Int32) : va_W := [(h0, .inr (7, [V0 0, V0 1, V0 2, .ref h1, .int v0_height])), (h1, .inl (kc1, n1, .inl c1))]
set_option maxHeartbeats 4000000 in
set_option maxRecDepth 100000 in
theorem mX7_stepsFrom (l : Launch) (dC : Nat → ClassId) (dI : Nat → Nat → Nat) (h0 h1 : Nat) (kc1 : ClassId) (sz : Nat) (base : Nat × Nat × Nat) (a0 : Int32) (n1 : Nat) (v0_height : Int32) (c1 : Nat → Int32) (V0 : Nat → Value) (o : Int32 × Unit) (hf : fX7_stepsFrom a0 n1 v0_height c1 = some o) : Met l yX7_stepsFrom (.code yX7_stepsFrom cX7_stepsFrom 2 (some .int) :: wsL_law) ({ frames := 0, cells := 0, slots := 0, locals := 0 }) (cPre (dC, dI) vwCl [.ref h0, .int a0] sz base (wX7_stepsFrom h0 h1 kc1 n1 V0 v0_height c1) [(kc1, .int)]) (va_Qi (fun r u => r = o.1 ∧ u = o.2) (fun (u : Unit) t => cPost (dC, dI) vwCl (va_A (wX7_stepsFrom h0 h1 kc1 n1 V0 v0_height c1) sz) (wX7_stepsFrom h0 h1 kc1 n1 V0 v0_height c1) [(kc1, .int)] t) (va_A (wX7_stepsFrom h0 h1 kc1 n1 V0 v0_height c1) sz)) 0 0 (va_A (wX7_stepsFrom h0 h1 kc1 n1 V0 v0_height c1) sz) := by
  refine Met.ofW (cc := cX7_stepsFrom) (maxL := 2) (ret := (some .int)) (by decide) rfl ?_
  intro p e s m args below meth c s₁ B hml hv
  obtain ⟨rfl, hsz, hP, hK, hD0, hE⟩ := hv
  have hx := B.exec
  have hb := B.bytes
  have hr := B.returns
  have hts : ∀ w ∈ wsL_law, _ := fun w h => atoms_spec (ws := .code yX7_stepsFrom cX7_stepsFrom 2 (some .int) :: wsL_law) B.pre w (List.mem_cons_of_mem _ h)
  have hown : s.vm.findClass RX7 = some m.cls := findClass_of_methodNamed B.named
  have hlocks := B.notSynchronized
  have w0_ := hts _ q284
  have w1_ := hts _ q326
  subst hsz
  have hD := hD0.self (sz := s.heap.size)
  generalize hAe : va_A (wX7_stepsFrom h0 h1 kc1 n1 V0 v0_height c1) s.heap.size = A at hD ⊢
  have hA : ∀ q : Nat, s.heap.size ≤ q → A q := fun q h => by rw [← hAe]; exact Or.inr h
  have hAB : ∀ q : Nat, A q → base.1 ≤ q := fun q h => by rw [← hAe] at h; exact h.elim (fun ⟨k, e, hk⟩ => hD0.2 k _ hk) (fun hk => Nat.le_trans hE.1 hk)
  have hS : va_S A s.heap s.heap [] := va_S.rf
  have hl := lv_entry ([.ref h0, .int a0]) (n := 2) (Nat.le_of_ble_eq_true rfl)
  rw [lg_entry_eq]
  generalize (lg_sl ([.ref h0, .int a0]) ++ List.replicate (2 - (lg_sl ([.ref h0, .int a0])).length) Slot.unset).toArray = ls at hl ⊢
  have hl : lv_has ls 2 [(0, .ref h0), (1, .int a0)] := hl
  have hP : va_P (dC, dI) vwCl (wX7_stepsFrom h0 h1 kc1 n1 V0 v0_height c1) s.heap := hP
  obtain ⟨H, hH⟩ : ∃ H, H = s.heap := ⟨_, rfl⟩
  have hS : va_S A s.heap H [] := by rw [hH]; exact hS
  rw [← hH] at hP ⊢
  generalize ([] : List Loc) = locs at hS ⊢
  unfold fX7_stepsFrom at hf
  refine lv_aload_n hx hb dX7_stepsFrom_0 rfl (lv_at hl 0 rfl) ?_
  refine va_get (D := (dC, dI)) (ci := 7) (v := .ref h1) (C := RX7) (T := TX7) (N := 5) hx hb hts inlX7 hown hK hP 0 rfl rfl 3 (by decide) w0_ (fun _ h9 => h9) rfl dX7_stepsFrom_1 ?_
  refine lv_aload_n hx hb dX7_stepsFrom_4 rfl (lv_at hl 0 rfl) ?_
  refine va_get (D := (dC, dI)) (ci := 7) (v := .int v0_height) (C := RX7) (T := TX7) (N := 5) hx hb hts inlX7 hown hK hP 0 rfl rfl 4 (by decide) w1_ (fun _ h9 => h9) rfl dX7_stepsFrom_5 ?_
  refine lv_bipush (v := 16) hx hb dX7_stepsFrom_8 (by decide +kernel) ?_
  refine lv_imul hx hb dX7_stepsFrom_10 ?_
  refine lv_topi (fun x1 e1 => ?_)
  replace hf := nm_at hf e1
  refine lv_iload_n hx hb dX7_stepsFrom_11 rfl (lv_at hl 1 rfl) ?_
  refine lv_iadd hx hb dX7_stepsFrom_12 ?_
  refine lv_topi (fun x2 e2 => ?_)
  replace hf := nm_at hf e2
  have b3 := bd_in hf
  replace hf := bd_k hf
  refine va_iald hx hb hK hP 1 0 rfl rfl b3 dX7_stepsFrom_13 ?_
  refine lv_topi (fun x4 e4 => ?_)
  replace hf := nm_at hf e4
  have hf1 := Option.some.inj hf
  subst hf1
  have hP9 := hP.sub (ws' := (wX7_stepsFrom h0 h1 kc1 n1 V0 v0_height c1)) [0, 1] rfl
  have hD9 := hD.sub (ws' := (wX7_stepsFrom h0 h1 kc1 n1 V0 v0_height c1)) [0, 1] (by decide) rfl
  exact W.iret (v := x4) hx hb hr (fun t ht hW => ⟨⟨x4, (), rfl, ⟨rfl, rfl⟩, by rw [ht]; exact hP9, va_K.moved hW.alike hK, hD9⟩, hS.F ht⟩) hS.2.2 dX7_stepsFrom_14
abbrev wX7_stepsByRule (h0 h1 h2 h3 h4 h5 h6 h7 h8 : Nat) (kc2 kc3 kc4 kc5 kc7 kc8 : ClassId) (n4 : Nat) (V0 : Nat → Value) (V1 : Nat → Value) (V6 : Nat → Value) (v0_height : Int32) (c2 : Nat → Int32) (c3 : Nat → Int32) (c4 : Nat → Int32) (c5 : Nat → Int32) (c7 : Nat → Int32) (c8 : Nat → Int32) : va_W := [(h0, .inr (7, [.ref h6, V0 1, V0 2, .ref h4, .int v0_height])), (h1, .inr (6, [V1 0, V1 1, .ref h2, .ref h3, .ref h5, .ref h8, V1 6, V1 7, V1 8, V1 9, V1 10, V1 11, V1 12, V1 13])), (h2, .inl (kc2, 48, .inl c2)), (h3, .inl (kc3, 48, .inl c3)), (h4, .inl (kc4, n4, .inl c4)), (h5, .inl (kc5, 48, .inl c5)), (h6, .inr (1, [.ref h7, V6 1, V6 2])), (h7, .inl (kc7, 3072, .inl c7)), (h8, .inl (kc8, 48, .inl c8))]
set_option maxHeartbeats 4000000 in
set_option maxRecDepth 100000 in
theorem mX7_stepsByRule (l : Launch) (dC : Nat → ClassId) (dI : Nat → Nat → Nat) (h0 h1 h2 h3 h4 h5 h6 h7 h8 : Nat) (kc2 kc3 kc4 kc5 kc7 kc8 : ClassId) (sz : Nat) (base : Nat × Nat × Nat) (a1 : Int32) (n4 : Nat) (v0_height : Int32) (c2 : Nat → Int32) (c3 : Nat → Int32) (c4 : Nat → Int32) (c5 : Nat → Int32) (c7 : Nat → Int32) (c8 : Nat → Int32) (V0 : Nat → Value) (V1 : Nat → Value) (V6 : Nat → Value) (o : Int32 × Unit) (hf : fX7_stepsByRule a1 n4 v0_height c2 c3 c4 c5 c7 c8 = some o) : Met l yX7_stepsByRule (.code yX7_stepsByRule cX7_stepsByRule 8 (some .int) :: wsL_law) ({ frames := 3, cells := 0, slots := 0, locals := 68 }) (cPre (dC, dI) vwCl [.ref h0, .ref h1, .int a1] sz base (wX7_stepsByRule h0 h1 h2 h3 h4 h5 h6 h7 h8 kc2 kc3 kc4 kc5 kc7 kc8 n4 V0 V1 V6 v0_height c2 c3 c4 c5 c7 c8) [(kc2, .int), (kc3, .int), (kc4, .int), (kc5, .int), (kc7, .int), (kc8, .int)]) (va_Qi (fun r u => r = o.1 ∧ u = o.2) (fun (u : Unit) t => cPost (dC, dI) vwCl (va_A (wX7_stepsByRule h0 h1 h2 h3 h4 h5 h6 h7 h8 kc2 kc3 kc4 kc5 kc7 kc8 n4 V0 V1 V6 v0_height c2 c3 c4 c5 c7 c8) sz) (wX7_stepsByRule h0 h1 h2 h3 h4 h5 h6 h7 h8 kc2 kc3 kc4 kc5 kc7 kc8 n4 V0 V1 V6 v0_height c2 c3 c4 c5 c7 c8) [(kc2, .int), (kc3, .int), (kc4, .int), (kc5, .int), (kc7, .int), (kc8, .int)] t) (va_A (wX7_stepsByRule h0 h1 h2 h3 h4 h5 h6 h7 h8 kc2 kc3 kc4 kc5 kc7 kc8 n4 V0 V1 V6 v0_height c2 c3 c4 c5 c7 c8) sz)) 0 0 (va_A (wX7_stepsByRule h0 h1 h2 h3 h4 h5 h6 h7 h8 kc2 kc3 kc4 kc5 kc7 kc8 n4 V0 V1 V6 v0_height c2 c3 c4 c5 c7 c8) sz) := by
  refine Met.ofW (cc := cX7_stepsByRule) (maxL := 8) (ret := (some .int)) (by decide) rfl ?_
  intro p e s m args below meth c s₁ B hml hv
  obtain ⟨rfl, hsz, hP, hK, hD0, hE⟩ := hv
  have hx := B.exec
  have hb := B.bytes
  have hr := B.returns
  have hts : ∀ w ∈ wsL_law, _ := fun w h => atoms_spec (ws := .code yX7_stepsByRule cX7_stepsByRule 8 (some .int) :: wsL_law) B.pre w (List.mem_cons_of_mem _ h)
  have hown : s.vm.findClass RX7 = some m.cls := findClass_of_methodNamed B.named
  have hlocks := B.notSynchronized
  have w0_ := hts _ q277
  have w1_ := hts _ q339
  have w2_ := hts _ q430
  have w3_ := hts _ q340
  have w4_ := hts _ q316
  have w5_ := hts _ q280
  have w6_ := hts _ q317
  have w7_ := hts _ q427
  have w8_ := hts _ q428
  have w9_ := hts _ q429
  have w10_ := hts _ q328
  subst hsz
  have hD := hD0.self (sz := s.heap.size)
  generalize hAe : va_A (wX7_stepsByRule h0 h1 h2 h3 h4 h5 h6 h7 h8 kc2 kc3 kc4 kc5 kc7 kc8 n4 V0 V1 V6 v0_height c2 c3 c4 c5 c7 c8) s.heap.size = A at hD ⊢
  have hA : ∀ q : Nat, s.heap.size ≤ q → A q := fun q h => by rw [← hAe]; exact Or.inr h
  have hAB : ∀ q : Nat, A q → base.1 ≤ q := fun q h => by rw [← hAe] at h; exact h.elim (fun ⟨k, e, hk⟩ => hD0.2 k _ hk) (fun hk => Nat.le_trans hE.1 hk)
  have hS : va_S A s.heap s.heap [] := va_S.rf
  have hl := lv_entry ([.ref h0, .ref h1, .int a1]) (n := 8) (Nat.le_of_ble_eq_true rfl)
  rw [lg_entry_eq]
  generalize (lg_sl ([.ref h0, .ref h1, .int a1]) ++ List.replicate (8 - (lg_sl ([.ref h0, .ref h1, .int a1])).length) Slot.unset).toArray = ls at hl ⊢
  have hl : lv_has ls 8 [(0, .ref h0), (1, .ref h1), (2, .int a1)] := hl
  have hP : va_P (dC, dI) vwCl (wX7_stepsByRule h0 h1 h2 h3 h4 h5 h6 h7 h8 kc2 kc3 kc4 kc5 kc7 kc8 n4 V0 V1 V6 v0_height c2 c3 c4 c5 c7 c8) s.heap := hP
  refine gl_intro (fun G hG => ?_)
  have J116 : ∀ (k63 : Int32 → Int32 → Int32 → Int32 → Option (Int32 × Unit)) (hk63 : ∀ (y2 : Int32) (y4 : Int32) (y5 : Int32) (y6 : Int32) (H : Heap) (locs : List Loc) (ls : Array Slot), va_P (dC, dI) vwCl (wX7_stepsByRule h0 h1 h2 h3 h4 h5 h6 h7 h8 kc2 kc3 kc4 kc5 kc7 kc8 n4 V0 V1 V6 v0_height c2 c3 c4 c5 c7 c8) H → va_D A (wX7_stepsByRule h0 h1 h2 h3 h4 h5 h6 h7 h8 kc2 kc3 kc4 kc5 kc7 kc8 n4 V0 V1 V6 v0_height c2 c3 c4 c5 c7 c8) → va_S A s.heap H locs → lv_has ls 8 [(0, .ref h0), (1, .ref h1), (2, .int y2), (4, .int y4), (5, .int y5), (6, .int y6)] → k63 y2 y4 y5 y6 = some o → G 0 0 H locs (F0 m 63 ls [])), ∀ (y2 : Int32) (y4 : Int32) (y5 : Int32) (y6 : Int32) (H : Heap) (locs : List Loc) (ls : Array Slot), va_P (dC, dI) vwCl (wX7_stepsByRule h0 h1 h2 h3 h4 h5 h6 h7 h8 kc2 kc3 kc4 kc5 kc7 kc8 n4 V0 V1 V6 v0_height c2 c3 c4 c5 c7 c8) H → va_D A (wX7_stepsByRule h0 h1 h2 h3 h4 h5 h6 h7 h8 kc2 kc3 kc4 kc5 kc7 kc8 n4 V0 V1 V6 v0_height c2 c3 c4 c5 c7 c8) → va_S A s.heap H locs → lv_has ls 8 [(0, .ref h0), (1, .ref h1), (2, .int y2), (4, .int y4), (5, .int y5), (6, .int y6)] → fX7_stepsByRule_p116 n4 v0_height c2 c3 c4 c5 c7 c8 k63 y2 y4 y5 y6 = some o → G 0 0 H locs (F0 m 116 ls []) := by
    intro k63 hk63 y2 y4 y5 y6 H locs ls hP hD hS hl hf
    refine (hG _ _ _ _ _).mpr ?_
    unfold fX7_stepsByRule_p116 at hf
    obtain ⟨x1, e1⟩ : ∃ y : Int32, y = y6 + 1 := ⟨_, rfl⟩
    replace hf := nm_at hf e1
    refine lv_iinc (v := x1) (lv' := [(6, .int x1), (0, .ref h0), (1, .ref h1), (2, .int y2), (4, .int y4), (5, .int y5)]) hx hb dX7_stepsByRule_116 hl (k := 5) rfl (by rw [e1]; rfl) (by decide) rfl (fun ls hl => ?_)
    refine lv_goto (tgt := 63) hx hb dX7_stepsByRule_119 (by decide) ?_
    exact (hG _ _ _ _ _).mp (hk63 y2 y4 y5 x1 H locs ls (hP.sub [0, 1, 2, 3, 4, 5, 6, 7, 8] rfl) (hD.sub [0, 1, 2, 3, 4, 5, 6, 7, 8] (by decide) rfl) hS (lv_sub hl [1, 2, 3, 4, 5, 0] rfl) hf)
  have B63 : ∀ (k63 : Int32 → Int32 → Int32 → Int32 → Option (Int32 × Unit)) (hk63 : ∀ (y2 : Int32) (y4 : Int32) (y5 : Int32) (y6 : Int32) (H : Heap) (locs : List Loc) (ls : Array Slot), va_P (dC, dI) vwCl (wX7_stepsByRule h0 h1 h2 h3 h4 h5 h6 h7 h8 kc2 kc3 kc4 kc5 kc7 kc8 n4 V0 V1 V6 v0_height c2 c3 c4 c5 c7 c8) H → va_D A (wX7_stepsByRule h0 h1 h2 h3 h4 h5 h6 h7 h8 kc2 kc3 kc4 kc5 kc7 kc8 n4 V0 V1 V6 v0_height c2 c3 c4 c5 c7 c8) → va_S A s.heap H locs → lv_has ls 8 [(0, .ref h0), (1, .ref h1), (2, .int y2), (4, .int y4), (5, .int y5), (6, .int y6)] → k63 y2 y4 y5 y6 = some o → G 0 0 H locs (F0 m 63 ls [])), ∀ (y2 : Int32) (y4 : Int32) (y5 : Int32) (y6 : Int32) (H : Heap) (locs : List Loc) (ls : Array Slot), va_P (dC, dI) vwCl (wX7_stepsByRule h0 h1 h2 h3 h4 h5 h6 h7 h8 kc2 kc3 kc4 kc5 kc7 kc8 n4 V0 V1 V6 v0_height c2 c3 c4 c5 c7 c8) H → va_D A (wX7_stepsByRule h0 h1 h2 h3 h4 h5 h6 h7 h8 kc2 kc3 kc4 kc5 kc7 kc8 n4 V0 V1 V6 v0_height c2 c3 c4 c5 c7 c8) → va_S A s.heap H locs → lv_has ls 8 [(0, .ref h0), (1, .ref h1), (2, .int y2), (4, .int y4), (5, .int y5), (6, .int y6)] → fX7_stepsByRule_b63 n4 v0_height c2 c3 c4 c5 c7 c8  k63 y2 y4 y5 y6 = some o → G 0 0 H locs (F0 m 63 ls []) := by
    intro  k63 hk63 y2 y4 y5 y6 H locs ls hP hD hS hl hf
    refine (hG _ _ _ _ _).mpr ?_
    unfold fX7_stepsByRule_b63 at hf
    refine lv_iload hx hb dX7_stepsByRule_63 (lv_at hl 5 rfl) ?_
    refine lv_bipush (v := 16) hx hb dX7_stepsByRule_65 (by decide +kernel) ?_
    refine lv_icmp_ge (tgt := 122) hx hb dX7_stepsByRule_67 (by decide) (fun cq2 => ?_) (fun cq2 => ?_)
    · replace hf := if_at hf cq2
      refine lv_iload hx hb dX7_stepsByRule_122 (lv_at hl 4 rfl) ?_
      have hf1 := Option.some.inj hf
      subst hf1
      have hP9 := hP.sub (ws' := (wX7_stepsByRule h0 h1 h2 h3 h4 h5 h6 h7 h8 kc2 kc3 kc4 kc5 kc7 kc8 n4 V0 V1 V6 v0_height c2 c3 c4 c5 c7 c8)) [0, 1, 2, 3, 4, 5, 6, 7, 8] rfl
      have hD9 := hD.sub (ws' := (wX7_stepsByRule h0 h1 h2 h3 h4 h5 h6 h7 h8 kc2 kc3 kc4 kc5 kc7 kc8 n4 V0 V1 V6 v0_height c2 c3 c4 c5 c7 c8)) [0, 1, 2, 3, 4, 5, 6, 7, 8] (by decide) rfl
      exact W.iret (v := y5) hx hb hr (fun t ht hW => ⟨⟨y5, (), rfl, ⟨rfl, rfl⟩, by rw [ht]; exact hP9, va_K.moved hW.alike hK, hD9⟩, hS.F ht⟩) hS.2.2 dX7_stepsByRule_124
    · replace hf := if_no hf cq2
      refine lv_aload_n hx hb dX7_stepsByRule_70 rfl (lv_at hl 0 rfl) ?_
      refine va_get (D := (dC, dI)) (ci := 7) (v := .ref h6) (C := RX7) (T := TX7) (N := 5) hx hb hts inlX7 hown hK hP 0 rfl rfl 0 (by decide) w0_ (fun _ h9 => h9) rfl dX7_stepsByRule_71 ?_
      refine va_get (D := (dC, dI)) (ci := 1) (v := .ref h7) (C := RX1) (T := TX1) (N := 3) hx hb hts inlX1 hown hK hP 6 rfl rfl 0 (by decide) w1_ (fun _ h9 => h9) rfl dX7_stepsByRule_74 ?_
      refine lv_iload hx hb dX7_stepsByRule_77 (lv_at hl 3 rfl) ?_
      refine lv_iload hx hb dX7_stepsByRule_79 (lv_at hl 5 rfl) ?_
      refine lv_iadd hx hb dX7_stepsByRule_81 ?_
      refine lv_topi (fun x3 e3 => ?_)
      replace hf := nm_at hf e3
      have b4 := bd_in hf
      replace hf := bd_k hf
      refine va_iald hx hb hK hP 7 4 rfl rfl b4 dX7_stepsByRule_82 ?_
      refine lv_topi (fun x5 e5 => ?_)
      replace hf := nm_at hf e5
      refine lv_istore (lv' := [(7, .int x5), (0, .ref h0), (1, .ref h1), (2, .int y2), (4, .int y4), (5, .int y5), (6, .int y6)]) hx hb dX7_stepsByRule_83 hl (by decide) rfl (fun ls hl => ?_)
      refine lv_iload hx hb dX7_stepsByRule_85 (lv_at hl 0 rfl) ?_
      refine lv_iload hx hb dX7_stepsByRule_87 (lv_at hl 5 rfl) ?_
      refine lv_icmp_ge (tgt := 116) hx hb dX7_stepsByRule_89 (by decide) (fun cq6 => ?_) (fun cq6 => ?_)
      · replace hf := if_at hf cq6
        exact (hG _ _ _ _ _).mp (J116 k63 hk63 y2 y4 y5 y6 H locs ls (hP.sub [0, 1, 2, 3, 4, 5, 6, 7, 8] rfl) (hD.sub [0, 1, 2, 3, 4, 5, 6, 7, 8] (by decide) rfl) hS (lv_sub hl [1, 2, 3, 4, 5, 6] rfl) hf)
      · replace hf := if_no hf cq6
        refine lv_iload hx hb dX7_stepsByRule_92 (lv_at hl 5 rfl) ?_
        refine lv_iload hx hb dX7_stepsByRule_94 (lv_at hl 0 rfl) ?_
        refine lv_aload_n hx hb dX7_stepsByRule_96 rfl (lv_at hl 1 rfl) ?_
        refine lv_iload hx hb dX7_stepsByRule_97 (lv_at hl 6 rfl) ?_
        refine lv_aload_n hx hb dX7_stepsByRule_99 rfl (lv_at hl 2 rfl) ?_
        refine va_get (D := (dC, dI)) (ci := 6) (v := .ref h8) (C := RX6) (T := TX6) (N := 14) hx hb hts inlX6 hown hK hP 1 rfl rfl 5 (by decide) w2_ (fun _ h9 => h9) rfl dX7_stepsByRule_100 ?_
        refine lv_iload_n hx hb dX7_stepsByRule_103 rfl (lv_at hl 3 rfl) ?_
        have b7 := bd_in hf
        replace hf := bd_k hf
        refine va_iald hx hb hK hP 8 5 rfl rfl b7 dX7_stepsByRule_104 ?_
        refine lv_topi (fun x8 e8 => ?_)
        replace hf := nm_at hf e8
        obtain ⟨o9, e9, hf⟩ := ob_some hf
        refine kVi (As := [.int y6, .int x8]) (rest := [.int x5, .int y5]) ⟨hx, hb, hml, hown, hts⟩ (mX7_stepsThrough l dC dI h0 h6 h7 h4 kc7 kc4 H.size base y6 x8 n4 v0_height c7 c4 V0 V6 o9 e9) (cwV 2 hts (gTV q335 q336 q337 q265 q338) rfl rfl rfl (by decide +kernel) ⟨Nat.le_of_ble_eq_true rfl, Nat.le_of_ble_eq_true rfl⟩) hK hP hD hS hA hE hAB [0, 6, 7, 4] [1, 2, 3, 5, 8] [4, 2] (wr := [(h1, .inr (6, [V1 0, V1 1, .ref h2, .ref h3, .ref h5, .ref h8, V1 6, V1 7, V1 8, V1 9, V1 10, V1 11, V1 12, V1 13])), (h2, .inl (kc2, 48, .inl c2)), (h3, .inl (kc3, 48, .inl c3)), (h5, .inl (kc5, 48, .inl c5)), (h8, .inl (kc8, 48, .inl c8))]) rfl rfl (by decide) (by decide) (by decide) rfl (ci := 7) (q0 := 0) rfl rfl rfl rfl hl.1 rfl (Nat.le_of_ble_eq_true rfl) dX7_stepsByRule_105 ⟨Nat.zero_le _, Nat.zero_le _⟩ (fun r9 u9 H locs hw9 hP hD hS => ?_)
        obtain ⟨hw91, hw92⟩ := hw9
        subst hw91 hw92
        have hP : va_P (dC, dI) vwCl (wX7_stepsByRule h0 h1 h2 h3 h4 h5 h6 h7 h8 kc2 kc3 kc4 kc5 kc7 kc8 n4 V0 V1 V6 v0_height c2 c3 c4 c5 c7 c8) H := hP.sub [5, 0, 1, 2, 8, 3, 6, 7, 4] rfl
        have hD : va_D A (wX7_stepsByRule h0 h1 h2 h3 h4 h5 h6 h7 h8 kc2 kc3 kc4 kc5 kc7 kc8 n4 V0 V1 V6 v0_height c2 c3 c4 c5 c7 c8) := hD.sub [5, 0, 1, 2, 8, 3, 6, 7, 4] (by decide) rfl
        obtain ⟨o10, e10, hf⟩ := ob_some hf
        refine kSNi (As := [.int x5, .int o9.1]) (rest := [.int y5]) ⟨hx, hb, hml, hown, hts⟩ (mX10_sum l dC dI H.size base x5 o9.1 o10 e10) ⟨va_cnB 2 hts (gT q343) rfl rfl rfl hE.2.1.1 (hts _ q2) (by decide +kernel) ⟨Nat.le_of_ble_eq_true rfl, Nat.le_of_ble_eq_true rfl⟩, hts _ q342, trivial⟩ hK hP hD hS hA hE hAB [] [0, 1, 2, 3, 4, 5, 6, 7, 8] [] (wr := (wX7_stepsByRule h0 h1 h2 h3 h4 h5 h6 h7 h8 kc2 kc3 kc4 kc5 kc7 kc8 n4 V0 V1 V6 v0_height c2 c3 c4 c5 c7 c8)) rfl rfl (by decide) (by decide) (by decide) rfl rfl hl.1 rfl (Nat.le_of_ble_eq_true rfl) dX7_stepsByRule_108 ⟨Nat.zero_le _, Nat.zero_le _⟩ (fun r10 u10 H locs hw10 hP hD hS => ?_)
        obtain ⟨hw101, hw102⟩ := hw10
        subst hw101 hw102
        have hP : va_P (dC, dI) vwCl (wX7_stepsByRule h0 h1 h2 h3 h4 h5 h6 h7 h8 kc2 kc3 kc4 kc5 kc7 kc8 n4 V0 V1 V6 v0_height c2 c3 c4 c5 c7 c8) H := hP.sub [0, 1, 2, 3, 4, 5, 6, 7, 8] rfl
        have hD : va_D A (wX7_stepsByRule h0 h1 h2 h3 h4 h5 h6 h7 h8 kc2 kc3 kc4 kc5 kc7 kc8 n4 V0 V1 V6 v0_height c2 c3 c4 c5 c7 c8) := hD.sub [0, 1, 2, 3, 4, 5, 6, 7, 8] (by decide) rfl
        refine va_mmin hx hb (by rw [hml]; exact hl.1.symm) hown w3_ w4_ w5_ w6_ (Nat.le_of_ble_eq_true rfl) (Nat.le_of_ble_eq_true rfl) (Nat.zero_le _) (Nat.zero_le _) dX7_stepsByRule_111 ?_
        refine lv_topi (fun x11 e11 => ?_)
        replace hf := nm_at hf e11
        refine lv_istore (lv' := [(5, .int x11), (7, .int x5), (0, .ref h0), (1, .ref h1), (2, .int y2), (4, .int y4), (6, .int y6)]) hx hb dX7_stepsByRule_114 hl (by decide) rfl (fun ls hl => ?_)
        exact (hG _ _ _ _ _).mp (J116 k63 hk63 y2 y4 x11 y6 H locs ls (hP.sub [0, 1, 2, 3, 4, 5, 6, 7, 8] rfl) (hD.sub [0, 1, 2, 3, 4, 5, 6, 7, 8] (by decide) rfl) hS (lv_sub hl [2, 3, 4, 5, 0, 6] rfl) hf)
  have L63 : ∀ (n : Nat), ∀ (y2 : Int32) (y4 : Int32) (y5 : Int32) (y6 : Int32) (H : Heap) (locs : List Loc) (ls : Array Slot), va_P (dC, dI) vwCl (wX7_stepsByRule h0 h1 h2 h3 h4 h5 h6 h7 h8 kc2 kc3 kc4 kc5 kc7 kc8 n4 V0 V1 V6 v0_height c2 c3 c4 c5 c7 c8) H → va_D A (wX7_stepsByRule h0 h1 h2 h3 h4 h5 h6 h7 h8 kc2 kc3 kc4 kc5 kc7 kc8 n4 V0 V1 V6 v0_height c2 c3 c4 c5 c7 c8) → va_S A s.heap H locs → lv_has ls 8 [(0, .ref h0), (1, .ref h1), (2, .int y2), (4, .int y4), (5, .int y5), (6, .int y6)] → fX7_stepsByRule_l63 n4 v0_height c2 c3 c4 c5 c7 c8  n y2 y4 y5 y6 = some o → G 0 0 H locs (F0 m 63 ls []) := by
    intro  n
    induction n with
    | zero => intro y2 y4 y5 y6 H locs ls _ _ _ _ hf; cases hf
    | succ n ih => exact B63  _ ih
  refine (hG _ _ _ _ _).mpr ?_
  obtain ⟨H, hH⟩ : ∃ H, H = s.heap := ⟨_, rfl⟩
  have hS : va_S A s.heap H [] := by rw [hH]; exact hS
  rw [← hH] at hP ⊢
  generalize ([] : List Loc) = locs at hS ⊢
  unfold fX7_stepsByRule at hf
  refine lv_aload_n hx hb dX7_stepsByRule_0 rfl (lv_at hl 1 rfl) ?_
  refine va_get (D := (dC, dI)) (ci := 6) (v := .ref h2) (C := RX6) (T := TX6) (N := 14) hx hb hts inlX6 hown hK hP 1 rfl rfl 2 (by decide) w7_ (fun _ h9 => h9) rfl dX7_stepsByRule_1 ?_
  refine lv_iload_n hx hb dX7_stepsByRule_4 rfl (lv_at hl 2 rfl) ?_
  have b12 := bd_in hf
  replace hf := bd_k hf
  refine va_iald hx hb hK hP 2 0 rfl rfl b12 dX7_stepsByRule_5 ?_
  refine lv_topi (fun x13 e13 => ?_)
  replace hf := nm_at hf e13
  refine lv_istore_n (lv' := [(3, .int x13), (0, .ref h0), (1, .ref h1), (2, .int a1)]) hx hb dX7_stepsByRule_6 rfl hl (by decide) rfl (fun ls hl => ?_)
  refine lv_aload_n hx hb dX7_stepsByRule_7 rfl (lv_at hl 2 rfl) ?_
  refine va_get (D := (dC, dI)) (ci := 6) (v := .ref h3) (C := RX6) (T := TX6) (N := 14) hx hb hts inlX6 hown hK hP 1 rfl rfl 3 (by decide) w8_ (fun _ h9 => h9) rfl dX7_stepsByRule_8 ?_
  refine lv_iload_n hx hb dX7_stepsByRule_11 rfl (lv_at hl 3 rfl) ?_
  have b14 := bd_in hf
  replace hf := bd_k hf
  refine va_iald hx hb hK hP 3 1 rfl rfl b14 dX7_stepsByRule_12 ?_
  refine lv_topi (fun x15 e15 => ?_)
  replace hf := nm_at hf e15
  refine lv_if_ne (tgt := 22) hx hb dX7_stepsByRule_13 (by decide) (fun cq16 => ?_) (fun cq16 => ?_)
  · replace hf := if_no hf cq16
    refine lv_aload_n hx hb dX7_stepsByRule_22 rfl (lv_at hl 2 rfl) ?_
    refine va_get (D := (dC, dI)) (ci := 6) (v := .ref h3) (C := RX6) (T := TX6) (N := 14) hx hb hts inlX6 hown hK hP 1 rfl rfl 3 (by decide) w8_ (fun _ h9 => h9) rfl dX7_stepsByRule_23 ?_
    refine lv_iload_n hx hb dX7_stepsByRule_26 rfl (lv_at hl 3 rfl) ?_
    have b17 := bd_in hf
    replace hf := bd_k hf
    refine va_iald hx hb hK hP 3 1 rfl rfl b17 dX7_stepsByRule_27 ?_
    refine lv_topi (fun x18 e18 => ?_)
    replace hf := nm_at hf e18
    refine lv_iconst (v := 1) hx hb dX7_stepsByRule_28 (by decide +kernel) ?_
    refine lv_icmp_ne (tgt := 44) hx hb dX7_stepsByRule_29 (by decide) (fun cq19 => ?_) (fun cq19 => ?_)
    · replace hf := if_no hf cq19
      refine lv_iload_n hx hb dX7_stepsByRule_44 rfl (lv_at hl 0 rfl) ?_
      refine lv_aload_n hx hb dX7_stepsByRule_45 rfl (lv_at hl 2 rfl) ?_
      refine va_get (D := (dC, dI)) (ci := 6) (v := .ref h5) (C := RX6) (T := TX6) (N := 14) hx hb hts inlX6 hown hK hP 1 rfl rfl 4 (by decide) w9_ (fun _ h9 => h9) rfl dX7_stepsByRule_46 ?_
      refine lv_iload_n hx hb dX7_stepsByRule_49 rfl (lv_at hl 3 rfl) ?_
      have b20 := bd_in hf
      replace hf := bd_k hf
      refine va_iald hx hb hK hP 5 3 rfl rfl b20 dX7_stepsByRule_50 ?_
      refine lv_topi (fun x21 e21 => ?_)
      replace hf := nm_at hf e21
      obtain ⟨o22, e22, hf⟩ := ob_some hf
      refine kSi (As := [.int x13, .int x21]) (rest := []) ⟨hx, hb, hml, hown, hts⟩ (mX1_row l dC dI H.size base x13 x21 o22 e22) (va_cwS 2 hts (gTS q341 q309 q261 q310) rfl rfl rfl (by decide +kernel) ⟨Nat.le_of_ble_eq_true rfl, Nat.le_of_ble_eq_true rfl⟩) hK hP hD hS hA hE hAB [] [0, 1, 2, 3, 4, 5, 6, 7, 8] [] (wr := (wX7_stepsByRule h0 h1 h2 h3 h4 h5 h6 h7 h8 kc2 kc3 kc4 kc5 kc7 kc8 n4 V0 V1 V6 v0_height c2 c3 c4 c5 c7 c8)) rfl rfl (by decide) (by decide) (by decide) rfl rfl hl.1 rfl (Nat.le_of_ble_eq_true rfl) dX7_stepsByRule_51 ⟨Nat.zero_le _, Nat.zero_le _⟩ (fun r22 u22 H locs hw22 hP hD hS => ?_)
      obtain ⟨hw221, hw222⟩ := hw22
      subst hw221 hw222
      have hP : va_P (dC, dI) vwCl (wX7_stepsByRule h0 h1 h2 h3 h4 h5 h6 h7 h8 kc2 kc3 kc4 kc5 kc7 kc8 n4 V0 V1 V6 v0_height c2 c3 c4 c5 c7 c8) H := hP.sub [0, 1, 2, 3, 4, 5, 6, 7, 8] rfl
      have hD : va_D A (wX7_stepsByRule h0 h1 h2 h3 h4 h5 h6 h7 h8 kc2 kc3 kc4 kc5 kc7 kc8 n4 V0 V1 V6 v0_height c2 c3 c4 c5 c7 c8) := hD.sub [0, 1, 2, 3, 4, 5, 6, 7, 8] (by decide) rfl
      refine lv_istore (lv' := [(4, .int o22.1), (3, .int x13), (0, .ref h0), (1, .ref h1), (2, .int a1)]) hx hb dX7_stepsByRule_54 hl (by decide) rfl (fun ls hl => ?_)
      refine lv_ldc (v := 536870912) hx hb hown w10_ dX7_stepsByRule_56 ?_
      refine lv_istore (lv' := [(5, .int 536870912), (4, .int o22.1), (3, .int x13), (0, .ref h0), (1, .ref h1), (2, .int a1)]) hx hb dX7_stepsByRule_58 hl (by decide) rfl (fun ls hl => ?_)
      refine lv_iconst (v := 0) hx hb dX7_stepsByRule_60 (by decide +kernel) ?_
      refine lv_istore (lv' := [(6, .int 0), (5, .int 536870912), (4, .int o22.1), (3, .int x13), (0, .ref h0), (1, .ref h1), (2, .int a1)]) hx hb dX7_stepsByRule_61 hl (by decide) rfl (fun ls hl => ?_)
      exact (hG _ _ _ _ _).mp (L63 FU a1 o22.1 536870912 0 H locs ls (hP.sub [0, 1, 2, 3, 4, 5, 6, 7, 8] rfl) (hD.sub [0, 1, 2, 3, 4, 5, 6, 7, 8] (by decide) rfl) hS (lv_sub hl [4, 5, 6, 2, 1, 0] rfl) hf)
    · replace hf := if_at hf cq19
      refine lv_aload_n hx hb dX7_stepsByRule_32 rfl (lv_at hl 1 rfl) ?_
      refine lv_iload_n hx hb dX7_stepsByRule_33 rfl (lv_at hl 0 rfl) ?_
      refine lv_aload_n hx hb dX7_stepsByRule_34 rfl (lv_at hl 2 rfl) ?_
      refine va_get (D := (dC, dI)) (ci := 6) (v := .ref h5) (C := RX6) (T := TX6) (N := 14) hx hb hts inlX6 hown hK hP 1 rfl rfl 4 (by decide) w9_ (fun _ h9 => h9) rfl dX7_stepsByRule_35 ?_
      refine lv_iload_n hx hb dX7_stepsByRule_38 rfl (lv_at hl 3 rfl) ?_
      have b23 := bd_in hf
      replace hf := bd_k hf
      refine va_iald hx hb hK hP 5 3 rfl rfl b23 dX7_stepsByRule_39 ?_
      refine lv_topi (fun x24 e24 => ?_)
      replace hf := nm_at hf e24
      obtain ⟨o25, e25, hf⟩ := ob_some hf
      refine kVi (As := [.int x13, .int x24]) (rest := []) ⟨hx, hb, hml, hown, hts⟩ (mX7_stepsThrough l dC dI h0 h6 h7 h4 kc7 kc4 H.size base x13 x24 n4 v0_height c7 c4 V0 V6 o25 e25) (cwV 2 hts (gTV q335 q336 q337 q265 q338) rfl rfl rfl (by decide +kernel) ⟨Nat.le_of_ble_eq_true rfl, Nat.le_of_ble_eq_true rfl⟩) hK hP hD hS hA hE hAB [0, 6, 7, 4] [1, 2, 3, 5, 8] [4, 2] (wr := [(h1, .inr (6, [V1 0, V1 1, .ref h2, .ref h3, .ref h5, .ref h8, V1 6, V1 7, V1 8, V1 9, V1 10, V1 11, V1 12, V1 13])), (h2, .inl (kc2, 48, .inl c2)), (h3, .inl (kc3, 48, .inl c3)), (h5, .inl (kc5, 48, .inl c5)), (h8, .inl (kc8, 48, .inl c8))]) rfl rfl (by decide) (by decide) (by decide) rfl (ci := 7) (q0 := 0) rfl rfl rfl rfl hl.1 rfl (Nat.le_of_ble_eq_true rfl) dX7_stepsByRule_40 ⟨Nat.zero_le _, Nat.zero_le _⟩ (fun r25 u25 H locs hw25 hP hD hS => ?_)
      obtain ⟨hw251, hw252⟩ := hw25
      subst hw251 hw252
      have hP : va_P (dC, dI) vwCl (wX7_stepsByRule h0 h1 h2 h3 h4 h5 h6 h7 h8 kc2 kc3 kc4 kc5 kc7 kc8 n4 V0 V1 V6 v0_height c2 c3 c4 c5 c7 c8) H := hP.sub [5, 0, 1, 2, 8, 3, 6, 7, 4] rfl
      have hD : va_D A (wX7_stepsByRule h0 h1 h2 h3 h4 h5 h6 h7 h8 kc2 kc3 kc4 kc5 kc7 kc8 n4 V0 V1 V6 v0_height c2 c3 c4 c5 c7 c8) := hD.sub [5, 0, 1, 2, 8, 3, 6, 7, 4] (by decide) rfl
      have hf1 := Option.some.inj hf
      subst hf1
      have hP9 := hP.sub (ws' := (wX7_stepsByRule h0 h1 h2 h3 h4 h5 h6 h7 h8 kc2 kc3 kc4 kc5 kc7 kc8 n4 V0 V1 V6 v0_height c2 c3 c4 c5 c7 c8)) [0, 1, 2, 3, 4, 5, 6, 7, 8] rfl
      have hD9 := hD.sub (ws' := (wX7_stepsByRule h0 h1 h2 h3 h4 h5 h6 h7 h8 kc2 kc3 kc4 kc5 kc7 kc8 n4 V0 V1 V6 v0_height c2 c3 c4 c5 c7 c8)) [0, 1, 2, 3, 4, 5, 6, 7, 8] (by decide) rfl
      exact W.iret (v := o25.1) hx hb hr (fun t ht hW => ⟨⟨o25.1, (), rfl, ⟨rfl, rfl⟩, by rw [ht]; exact hP9, va_K.moved hW.alike hK, hD9⟩, hS.F ht⟩) hS.2.2 dX7_stepsByRule_43
  · replace hf := if_at hf cq16
    refine lv_aload_n hx hb dX7_stepsByRule_16 rfl (lv_at hl 1 rfl) ?_
    refine lv_iload_n hx hb dX7_stepsByRule_17 rfl (lv_at hl 0 rfl) ?_
    obtain ⟨o26, e26, hf⟩ := ob_some hf
    refine kVi (As := [.int x13]) (rest := []) ⟨hx, hb, hml, hown, hts⟩ (mX7_stepsFrom l dC dI h0 h4 kc4 H.size base x13 n4 v0_height c4 (fun k => match k with | 0 => .ref h6 | k => V0 k) o26 e26) (cwV 1 hts (gTV q431 q347 q348 q265 q349) rfl rfl rfl (by decide +kernel) ⟨Nat.le_of_ble_eq_true rfl, Nat.le_of_ble_eq_true rfl⟩) hK hP hD hS hA hE hAB [0, 4] [1, 2, 3, 5, 6, 7, 8] [2] (wr := [(h1, .inr (6, [V1 0, V1 1, .ref h2, .ref h3, .ref h5, .ref h8, V1 6, V1 7, V1 8, V1 9, V1 10, V1 11, V1 12, V1 13])), (h2, .inl (kc2, 48, .inl c2)), (h3, .inl (kc3, 48, .inl c3)), (h5, .inl (kc5, 48, .inl c5)), (h6, .inr (1, [.ref h7, V6 1, V6 2])), (h7, .inl (kc7, 3072, .inl c7)), (h8, .inl (kc8, 48, .inl c8))]) rfl rfl (by decide) (by decide) (by decide) rfl (ci := 7) (q0 := 0) rfl rfl rfl rfl hl.1 rfl (Nat.le_of_ble_eq_true rfl) dX7_stepsByRule_18 ⟨Nat.zero_le _, Nat.zero_le _⟩ (fun r26 u26 H locs hw26 hP hD hS => ?_)
    obtain ⟨hw261, hw262⟩ := hw26
    subst hw261 hw262
    have hP : va_P (dC, dI) vwCl (wX7_stepsByRule h0 h1 h2 h3 h4 h5 h6 h7 h8 kc2 kc3 kc4 kc5 kc7 kc8 n4 V0 V1 V6 v0_height c2 c3 c4 c5 c7 c8) H := hP.sub [7, 0, 1, 2, 8, 3, 4, 5, 6] rfl
    have hD : va_D A (wX7_stepsByRule h0 h1 h2 h3 h4 h5 h6 h7 h8 kc2 kc3 kc4 kc5 kc7 kc8 n4 V0 V1 V6 v0_height c2 c3 c4 c5 c7 c8) := hD.sub [7, 0, 1, 2, 8, 3, 4, 5, 6] (by decide) rfl
    have hf1 := Option.some.inj hf
    subst hf1
    have hP9 := hP.sub (ws' := (wX7_stepsByRule h0 h1 h2 h3 h4 h5 h6 h7 h8 kc2 kc3 kc4 kc5 kc7 kc8 n4 V0 V1 V6 v0_height c2 c3 c4 c5 c7 c8)) [0, 1, 2, 3, 4, 5, 6, 7, 8] rfl
    have hD9 := hD.sub (ws' := (wX7_stepsByRule h0 h1 h2 h3 h4 h5 h6 h7 h8 kc2 kc3 kc4 kc5 kc7 kc8 n4 V0 V1 V6 v0_height c2 c3 c4 c5 c7 c8)) [0, 1, 2, 3, 4, 5, 6, 7, 8] (by decide) rfl
    exact W.iret (v := o26.1) hx hb hr (fun t ht hW => ⟨⟨o26.1, (), rfl, ⟨rfl, rfl⟩, by rw [ht]; exact hP9, va_K.moved hW.alike hK, hD9⟩, hS.F ht⟩) hS.2.2 dX7_stepsByRule_21
abbrev wX7_takeTop (h0 h1 : Nat) (kc1 : ClassId) (n1 : Nat) (V0 : Nat → Value) (v0_height : Int32) (c1 : Nat → Int32) : va_W := [(h0, .inr (7, [V0 0, V0 1, .ref h1, V0 3, .int v0_height])), (h1, .inl (kc1, n1, .inl c1))]
set_option maxHeartbeats 4000000 in
set_option maxRecDepth 100000 in
theorem mX7_takeTop (l : Launch) (dC : Nat → ClassId) (dI : Nat → Nat → Nat) (h0 h1 : Nat) (kc1 : ClassId) (sz : Nat) (base : Nat × Nat × Nat) (n1 : Nat) (v0_height : Int32) (c1 : Nat → Int32) (V0 : Nat → Value) (o : Int32 × Int32) (hf : fX7_takeTop n1 v0_height c1 = some o) : Met l yX7_takeTop (.code yX7_takeTop cX7_takeTop 1 (some .int) :: wsL_law) ({ frames := 0, cells := 0, slots := 0, locals := 0 }) (cPre (dC, dI) vwCl [.ref h0] sz base (wX7_takeTop h0 h1 kc1 n1 V0 v0_height c1) [(kc1, .int)]) (va_Qi (fun r u => r = o.1 ∧ u = o.2) (fun (u : Int32) t => cPost (dC, dI) vwCl (va_A (wX7_takeTop h0 h1 kc1 n1 V0 v0_height c1) sz) (wX7_takeTop h0 h1 kc1 n1 V0 u c1) [(kc1, .int)] t) (va_A (wX7_takeTop h0 h1 kc1 n1 V0 v0_height c1) sz)) 0 0 (va_A (wX7_takeTop h0 h1 kc1 n1 V0 v0_height c1) sz) := by
  refine Met.ofW (cc := cX7_takeTop) (maxL := 1) (ret := (some .int)) (by decide) rfl ?_
  intro p e s m args below meth c s₁ B hml hv
  obtain ⟨rfl, hsz, hP, hK, hD0, hE⟩ := hv
  have hx := B.exec
  have hb := B.bytes
  have hr := B.returns
  have hts : ∀ w ∈ wsL_law, _ := fun w h => atoms_spec (ws := .code yX7_takeTop cX7_takeTop 1 (some .int) :: wsL_law) B.pre w (List.mem_cons_of_mem _ h)
  have hown : s.vm.findClass RX7 = some m.cls := findClass_of_methodNamed B.named
  have hlocks := B.notSynchronized
  have w0_ := hts _ q326
  have w1_ := hts _ q283
  subst hsz
  have hD := hD0.self (sz := s.heap.size)
  generalize hAe : va_A (wX7_takeTop h0 h1 kc1 n1 V0 v0_height c1) s.heap.size = A at hD ⊢
  have hA : ∀ q : Nat, s.heap.size ≤ q → A q := fun q h => by rw [← hAe]; exact Or.inr h
  have hAB : ∀ q : Nat, A q → base.1 ≤ q := fun q h => by rw [← hAe] at h; exact h.elim (fun ⟨k, e, hk⟩ => hD0.2 k _ hk) (fun hk => Nat.le_trans hE.1 hk)
  have hS : va_S A s.heap s.heap [] := va_S.rf
  have hl := lv_entry ([.ref h0]) (n := 1) (Nat.le_of_ble_eq_true rfl)
  rw [lg_entry_eq]
  generalize (lg_sl ([.ref h0]) ++ List.replicate (1 - (lg_sl ([.ref h0])).length) Slot.unset).toArray = ls at hl ⊢
  have hl : lv_has ls 1 [(0, .ref h0)] := hl
  have hP : va_P (dC, dI) vwCl (wX7_takeTop h0 h1 kc1 n1 V0 v0_height c1) s.heap := hP
  obtain ⟨H, hH⟩ : ∃ H, H = s.heap := ⟨_, rfl⟩
  have hS : va_S A s.heap H [] := by rw [hH]; exact hS
  rw [← hH] at hP ⊢
  generalize ([] : List Loc) = locs at hS ⊢
  unfold fX7_takeTop at hf
  refine lv_aload_n hx hb dX7_takeTop_0 rfl (lv_at hl 0 rfl) ?_
  refine va_get (D := (dC, dI)) (ci := 7) (v := .int v0_height) (C := RX7) (T := TX7) (N := 5) hx hb hts inlX7 hown hK hP 0 rfl rfl 4 (by decide) w0_ (fun _ h9 => h9) rfl dX7_takeTop_1 ?_
  refine lv_if_gt (tgt := 9) hx hb dX7_takeTop_4 (by decide) (fun cq1 => ?_) (fun cq1 => ?_)
  · replace hf := if_at hf cq1
    refine lv_aload_n hx hb dX7_takeTop_9 rfl (lv_at hl 0 rfl) ?_
    refine lv_dup hx hb dX7_takeTop_10 rfl ?_
    refine va_get (D := (dC, dI)) (ci := 7) (v := .int v0_height) (C := RX7) (T := TX7) (N := 5) hx hb hts inlX7 hown hK hP 0 rfl rfl 4 (by decide) w0_ (fun _ h9 => h9) rfl dX7_takeTop_11 ?_
    refine lv_iconst (v := 1) hx hb dX7_takeTop_14 (by decide +kernel) ?_
    refine lv_isub hx hb dX7_takeTop_15 ?_
    refine lv_topi (fun x2 e2 => ?_)
    replace hf := nm_at hf e2
    refine va_put (D := (dC, dI)) (ci := 7) (v := .int x2) (ty := .int) (C := RX7) (T := TX7) (N := 5) hx hb hts inlX7 tyX7 tyX7_ok nmX7 hown hK hP hD hS 0 rfl rfl 4 (by decide) w0_ (fun _ h9 => h9) rfl (by decide +kernel) rfl rfl (Nat.le_of_ble_eq_true rfl) dX7_takeTop_16 (fun H locs hP hD hS => ?_)
    have hP : va_P (dC, dI) vwCl (wX7_takeTop h0 h1 kc1 n1 V0 x2 c1) H := hP
    have hD : va_D A (wX7_takeTop h0 h1 kc1 n1 V0 x2 c1) := hD
    refine lv_aload_n hx hb dX7_takeTop_19 rfl (lv_at hl 0 rfl) ?_
    refine va_get (D := (dC, dI)) (ci := 7) (v := .ref h1) (C := RX7) (T := TX7) (N := 5) hx hb hts inlX7 hown hK hP 0 rfl rfl 2 (by decide) w1_ (fun _ h9 => h9) rfl dX7_takeTop_20 ?_
    refine lv_aload_n hx hb dX7_takeTop_23 rfl (lv_at hl 0 rfl) ?_
    refine va_get (D := (dC, dI)) (ci := 7) (v := .int x2) (C := RX7) (T := TX7) (N := 5) hx hb hts inlX7 hown hK hP 0 rfl rfl 4 (by decide) w0_ (fun _ h9 => h9) rfl dX7_takeTop_24 ?_
    have b3 := bd_in hf
    replace hf := bd_k hf
    refine va_iald hx hb hK hP 1 0 rfl rfl b3 dX7_takeTop_27 ?_
    refine lv_topi (fun x4 e4 => ?_)
    replace hf := nm_at hf e4
    have hf1 := Option.some.inj hf
    subst hf1
    have hP9 := hP.sub (ws' := (wX7_takeTop h0 h1 kc1 n1 V0 x2 c1)) [0, 1] rfl
    have hD9 := hD.sub (ws' := (wX7_takeTop h0 h1 kc1 n1 V0 x2 c1)) [0, 1] (by decide) rfl
    exact W.iret (v := x4) hx hb hr (fun t ht hW => ⟨⟨x4, x2, rfl, ⟨rfl, rfl⟩, by rw [ht]; exact hP9, va_K.moved hW.alike hK, hD9⟩, hS.F ht⟩) hS.2.2 dX7_takeTop_28
  · replace hf := if_no hf cq1
    refine lv_iconst (v := (-1)) hx hb dX7_takeTop_7 (by decide +kernel) ?_
    have hf1 := Option.some.inj hf
    subst hf1
    have hP9 := hP.sub (ws' := (wX7_takeTop h0 h1 kc1 n1 V0 v0_height c1)) [0, 1] rfl
    have hD9 := hD.sub (ws' := (wX7_takeTop h0 h1 kc1 n1 V0 v0_height c1)) [0, 1] (by decide) rfl
    exact W.iret (v := (-1)) hx hb hr (fun t ht hW => ⟨⟨(-1), v0_height, rfl, ⟨rfl, rfl⟩, by rw [ht]; exact hP9, va_K.moved hW.alike hK, hD9⟩, hS.F ht⟩) hS.2.2 dX7_takeTop_8
