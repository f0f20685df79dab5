abbrev wX11_costOf (h0 h1 h2 h3 : Nat) (kc1 kc2 kc3 : ClassId) (V0 : Nat → Value) (v0_calls : Int32) (c1 : Nat → Int32) (c2 : Nat → Int32) (c3 : Nat → Int32) : va_W := [(h0, .inr (11, [V0 0, V0 1, V0 2, V0 3, V0 4, V0 5, V0 6, V0 7, V0 8, V0 9, V0 10, V0 11, V0 12, V0 13, V0 14, V0 15, V0 16, V0 17, V0 18, V0 19, V0 20, V0 21, V0 22, V0 23, V0 24, V0 25, V0 26, V0 27, V0 28, V0 29, V0 30, V0 31, V0 32, V0 33, V0 34, V0 35, V0 36, V0 37, V0 38, V0 39, V0 40, V0 41, V0 42, V0 43, V0 44, V0 45, V0 46, V0 47, V0 48, V0 49, V0 50, V0 51, V0 52, V0 53, V0 54, V0 55, V0 56, V0 57, V0 58, V0 59, .ref h3, .ref h2, V0 62, V0 63, V0 64, V0 65, V0 66, .int v0_calls, V0 68, V0 69, .ref h1])), (h1, .inl (kc1, 16016, .inl c1)), (h2, .inl (kc2, 1280, .inl c2)), (h3, .inl (kc3, 10240, .inl c3))]
set_option maxHeartbeats 4000000 in
set_option maxRecDepth 100000 in
theorem mX11_costOf (l : Launch) (dC : Nat → ClassId) (dI : Nat → Nat → Nat) (h0 h1 h2 h3 : Nat) (kc1 kc2 kc3 : ClassId) (sz : Nat) (base : Nat × Nat × Nat) (a0 : Int32) (a1 : Int32) (a2 : Int32) (v0_calls : Int32) (c1 : Nat → Int32) (c2 : Nat → Int32) (c3 : Nat → Int32) (V0 : Nat → Value) (o : Int32 × Unit) (hf : fX11_costOf a0 a1 a2 v0_calls c1 c2 c3 = some o) : Met l yX11_costOf (.code yX11_costOf cX11_costOf 7 (some .int) :: wsL_law) ({ frames := 1, cells := 0, slots := 0, locals := 22 }) (cPre (dC, dI) vwCl [.ref h0, .int a0, .int a1, .int a2] sz base (wX11_costOf h0 h1 h2 h3 kc1 kc2 kc3 V0 v0_calls c1 c2 c3) [(kc1, .int), (kc2, .int), (kc3, .int)]) (va_Qi (fun r u => r = o.1 ∧ u = o.2) (fun (u : Unit) t => cPost (dC, dI) vwCl (va_A (wX11_costOf h0 h1 h2 h3 kc1 kc2 kc3 V0 v0_calls c1 c2 c3) sz) (wX11_costOf h0 h1 h2 h3 kc1 kc2 kc3 V0 v0_calls c1 c2 c3) [(kc1, .int), (kc2, .int), (kc3, .int)] t) (va_A (wX11_costOf h0 h1 h2 h3 kc1 kc2 kc3 V0 v0_calls c1 c2 c3) sz)) 0 0 (va_A (wX11_costOf h0 h1 h2 h3 kc1 kc2 kc3 V0 v0_calls c1 c2 c3) sz) := by
  refine Met.ofW (cc := cX11_costOf) (maxL := 7) (ret := (some .int)) (by decide) rfl ?_
  intro p e s m args below meth c s₁ B hml hv
  obtain ⟨rfl, hsz, hP, hK, hD0, hE⟩ := hv
  have hx := B.exec
  have hb := B.bytes
  have hr := B.returns
  have hts : ∀ w ∈ wsL_law, _ := fun w h => atoms_spec (ws := .code yX11_costOf cX11_costOf 7 (some .int) :: wsL_law) B.pre w (List.mem_cons_of_mem _ h)
  have hown : s.vm.findClass RX11 = some m.cls := findClass_of_methodNamed B.named
  have hlocks := B.notSynchronized
  have w0_ := hts _ q1146
  have w1_ := hts _ q120
  have w2_ := hts _ q125
  have w3_ := hts _ q121
  have w4_ := hts _ q354
  subst hsz
  have hD := hD0.self (sz := s.heap.size)
  generalize hAe : va_A (wX11_costOf h0 h1 h2 h3 kc1 kc2 kc3 V0 v0_calls c1 c2 c3) s.heap.size = A at hD ⊢
  have hA : ∀ q : Nat, s.heap.size ≤ q → A q := fun q h => by rw [← hAe]; exact Or.inr h
  have hAB : ∀ q : Nat, A q → base.1 ≤ q := fun q h => by rw [← hAe] at h; exact h.elim (fun ⟨k, e, hk⟩ => hD0.2 k _ hk) (fun hk => Nat.le_trans hE.1 hk)
  have hS : va_S A s.heap s.heap [] := va_S.rf
  have hl := lv_entry ([.ref h0, .int a0, .int a1, .int a2]) (n := 7) (Nat.le_of_ble_eq_true rfl)
  rw [lg_entry_eq]
  generalize (lg_sl ([.ref h0, .int a0, .int a1, .int a2]) ++ List.replicate (7 - (lg_sl ([.ref h0, .int a0, .int a1, .int a2])).length) Slot.unset).toArray = ls at hl ⊢
  have hl : lv_has ls 7 [(0, .ref h0), (1, .int a0), (2, .int a1), (3, .int a2)] := hl
  have hP : va_P (dC, dI) vwCl (wX11_costOf h0 h1 h2 h3 kc1 kc2 kc3 V0 v0_calls c1 c2 c3) s.heap := hP
  refine gl_intro (fun G hG => ?_)
  have J125 : ∀ (y4 : Int32) (H : Heap) (locs : List Loc) (ls : Array Slot), va_P (dC, dI) vwCl (wX11_costOf h0 h1 h2 h3 kc1 kc2 kc3 V0 v0_calls c1 c2 c3) H → va_D A (wX11_costOf h0 h1 h2 h3 kc1 kc2 kc3 V0 v0_calls c1 c2 c3) → va_S A s.heap H locs → lv_has ls 7 [(0, .ref h0), (4, .int y4)] → fX11_costOf_p125 v0_calls c1 c2 c3  y4 = some o → G 0 0 H locs (F0 m 125 ls []) := by
    intro  y4 H locs ls hP hD hS hl hf
    refine (hG _ _ _ _ _).mpr ?_
    unfold fX11_costOf_p125 at hf
    refine lv_iload hx hb dX11_costOf_125 (lv_at hl 1 rfl) ?_
    have hf1 := Option.some.inj hf
    subst hf1
    have hP9 := hP.sub (ws' := (wX11_costOf h0 h1 h2 h3 kc1 kc2 kc3 V0 v0_calls c1 c2 c3)) [0, 1, 2, 3] rfl
    have hD9 := hD.sub (ws' := (wX11_costOf h0 h1 h2 h3 kc1 kc2 kc3 V0 v0_calls c1 c2 c3)) [0, 1, 2, 3] (by decide) rfl
    exact W.iret (v := y4) hx hb hr (fun t ht hW => ⟨⟨y4, (), rfl, ⟨rfl, rfl⟩, by rw [ht]; exact hP9, va_K.moved hW.alike hK, hD9⟩, hS.F ht⟩) hS.2.2 dX11_costOf_127
  have J117 : ∀ (k50 : Int32 → Int32 → Int32 → Int32 → Int32 → Option (Int32 × Unit)) (hk50 : ∀ (y1 : Int32) (y2 : Int32) (y3 : Int32) (y4 : Int32) (y5 : Int32) (H : Heap) (locs : List Loc) (ls : Array Slot), va_P (dC, dI) vwCl (wX11_costOf h0 h1 h2 h3 kc1 kc2 kc3 V0 v0_calls c1 c2 c3) H → va_D A (wX11_costOf h0 h1 h2 h3 kc1 kc2 kc3 V0 v0_calls c1 c2 c3) → va_S A s.heap H locs → lv_has ls 7 [(0, .ref h0), (1, .int y1), (2, .int y2), (3, .int y3), (4, .int y4), (5, .int y5)] → k50 y1 y2 y3 y4 y5 = some o → G 0 0 H locs (F0 m 50 ls [])), ∀ (y1 : Int32) (y2 : Int32) (y3 : Int32) (y5 : Int32) (z0 : Int32) (H : Heap) (locs : List Loc) (ls : Array Slot), va_P (dC, dI) vwCl (wX11_costOf h0 h1 h2 h3 kc1 kc2 kc3 V0 v0_calls c1 c2 c3) H → va_D A (wX11_costOf h0 h1 h2 h3 kc1 kc2 kc3 V0 v0_calls c1 c2 c3) → va_S A s.heap H locs → lv_has ls 7 [(0, .ref h0), (1, .int y1), (2, .int y2), (3, .int y3), (5, .int y5)] → fX11_costOf_p117 v0_calls c1 c2 c3 k50 y1 y2 y3 y5 z0 = some o → G 0 0 H locs (F0 m 117 ls [.int z0]) := by
    intro k50 hk50 y1 y2 y3 y5 z0 H locs ls hP hD hS hl hf
    refine (hG _ _ _ _ _).mpr ?_
    unfold fX11_costOf_p117 at hf
    refine lv_istore (lv' := [(4, .int z0), (0, .ref h0), (1, .int y1), (2, .int y2), (3, .int y3), (5, .int y5)]) hx hb dX11_costOf_117 hl (by decide) rfl (fun ls hl => ?_)
    obtain ⟨x1, e1⟩ : ∃ y : Int32, y = y5 + 1 := ⟨_, rfl⟩
    replace hf := nm_at hf e1
    refine lv_iinc (v := x1) (lv' := [(5, .int x1), (4, .int z0), (0, .ref h0), (1, .int y1), (2, .int y2), (3, .int y3)]) hx hb dX11_costOf_119 hl (k := 5) rfl (by rw [e1]; rfl) (by decide) rfl (fun ls hl => ?_)
    refine lv_goto (tgt := 50) hx hb dX11_costOf_122 (by decide) ?_
    exact (hG _ _ _ _ _).mp (hk50 y1 y2 y3 z0 x1 H locs ls (hP.sub [0, 1, 2, 3] rfl) (hD.sub [0, 1, 2, 3] (by decide) rfl) hS (lv_sub hl [2, 3, 4, 5, 1, 0] rfl) hf)
  have B50 : ∀ (k50 : Int32 → Int32 → Int32 → Int32 → Int32 → Option (Int32 × Unit)) (hk50 : ∀ (y1 : Int32) (y2 : Int32) (y3 : Int32) (y4 : Int32) (y5 : Int32) (H : Heap) (locs : List Loc) (ls : Array Slot), va_P (dC, dI) vwCl (wX11_costOf h0 h1 h2 h3 kc1 kc2 kc3 V0 v0_calls c1 c2 c3) H → va_D A (wX11_costOf h0 h1 h2 h3 kc1 kc2 kc3 V0 v0_calls c1 c2 c3) → va_S A s.heap H locs → lv_has ls 7 [(0, .ref h0), (1, .int y1), (2, .int y2), (3, .int y3), (4, .int y4), (5, .int y5)] → k50 y1 y2 y3 y4 y5 = some o → G 0 0 H locs (F0 m 50 ls [])), ∀ (y1 : Int32) (y2 : Int32) (y3 : Int32) (y4 : Int32) (y5 : Int32) (H : Heap) (locs : List Loc) (ls : Array Slot), va_P (dC, dI) vwCl (wX11_costOf h0 h1 h2 h3 kc1 kc2 kc3 V0 v0_calls c1 c2 c3) H → va_D A (wX11_costOf h0 h1 h2 h3 kc1 kc2 kc3 V0 v0_calls c1 c2 c3) → va_S A s.heap H locs → lv_has ls 7 [(0, .ref h0), (1, .int y1), (2, .int y2), (3, .int y3), (4, .int y4), (5, .int y5)] → fX11_costOf_b50 v0_calls c1 c2 c3  k50 y1 y2 y3 y4 y5 = some o → G 0 0 H locs (F0 m 50 ls []) := by
    intro  k50 hk50 y1 y2 y3 y4 y5 H locs ls hP hD hS hl hf
    refine (hG _ _ _ _ _).mpr ?_
    unfold fX11_costOf_b50 at hf
    refine lv_iload hx hb dX11_costOf_50 (lv_at hl 5 rfl) ?_
    refine lv_bipush (v := 8) hx hb dX11_costOf_52 (by decide +kernel) ?_
    refine lv_icmp_ge (tgt := 125) hx hb dX11_costOf_54 (by decide) (fun cq2 => ?_) (fun cq2 => ?_)
    · replace hf := if_at hf cq2
      exact (hG _ _ _ _ _).mp (J125 y4 H locs ls (hP.sub [0, 1, 2, 3] rfl) (hD.sub [0, 1, 2, 3] (by decide) rfl) hS (lv_sub hl [0, 4] rfl) hf)
    · replace hf := if_no hf cq2
      refine lv_aload_n hx hb dX11_costOf_57 rfl (lv_at hl 0 rfl) ?_
      refine va_get (D := (dC, dI)) (ci := 11) (v := .int v0_calls) (C := RX11) (T := TX11) (N := 71) hx hb hts inlX11 hown hK hP 0 rfl rfl 67 (by decide) w0_ (fun _ h9 => h9) rfl dX11_costOf_58 ?_
      refine lv_if_le (tgt := 125) hx hb dX11_costOf_61 (by decide) (fun cq3 => ?_) (fun cq3 => ?_)
      · replace hf := if_at hf cq3
        exact (hG _ _ _ _ _).mp (J125 y4 H locs ls (hP.sub [0, 1, 2, 3] rfl) (hD.sub [0, 1, 2, 3] (by decide) rfl) hS (lv_sub hl [0, 4] rfl) hf)
      · replace hf := if_no hf cq3
        refine lv_aload_n hx hb dX11_costOf_64 rfl (lv_at hl 0 rfl) ?_
        refine va_get (D := (dC, dI)) (ci := 11) (v := .ref h3) (C := RX11) (T := TX11) (N := 71) hx hb hts inlX11 hown hK hP 0 rfl rfl 60 (by decide) w1_ (fun _ h9 => h9) rfl dX11_costOf_65 ?_
        refine lv_bipush (v := 8) hx hb dX11_costOf_68 (by decide +kernel) ?_
        refine lv_iload_n hx hb dX11_costOf_70 rfl (lv_at hl 1 rfl) ?_
        refine lv_iload_n hx hb dX11_costOf_71 rfl (lv_at hl 2 rfl) ?_
        refine lv_iload_n hx hb dX11_costOf_72 rfl (lv_at hl 3 rfl) ?_
        obtain ⟨o4, e4, hf⟩ := ob_some hf
        refine kSi (As := [.int y1, .int y2, .int y3]) (rest := [.int 8, .ref h3]) ⟨hx, hb, hml, hown, hts⟩ (mX11_at l dC dI H.size base y1 y2 y3 o4 e4) (va_cwS 3 hts (gTS q1112 q1113 q5 q1114) rfl rfl rfl (by decide +kernel) ⟨Nat.le_of_ble_eq_true rfl, Nat.le_of_ble_eq_true rfl⟩) hK hP hD hS hA hE hAB [] [0, 1, 2, 3] [] (wr := (wX11_costOf h0 h1 h2 h3 kc1 kc2 kc3 V0 v0_calls c1 c2 c3)) rfl rfl (by decide) (by decide) (by decide) rfl rfl hl.1 rfl (Nat.le_of_ble_eq_true rfl) dX11_costOf_73 ⟨Nat.zero_le _, Nat.zero_le _⟩ (fun r4 u4 H locs hw4 hP hD hS => ?_)
        obtain ⟨hw41, hw42⟩ := hw4
        subst hw41 hw42
        have hP : va_P (dC, dI) vwCl (wX11_costOf h0 h1 h2 h3 kc1 kc2 kc3 V0 v0_calls c1 c2 c3) H := hP.sub [0, 1, 2, 3] rfl
        have hD : va_D A (wX11_costOf h0 h1 h2 h3 kc1 kc2 kc3 V0 v0_calls c1 c2 c3) := hD.sub [0, 1, 2, 3] (by decide) rfl
        refine lv_imul hx hb dX11_costOf_76 ?_
        refine lv_topi (fun x5 e5 => ?_)
        replace hf := nm_at hf e5
        refine lv_iload hx hb dX11_costOf_77 (lv_at hl 5 rfl) ?_
        refine lv_iadd hx hb dX11_costOf_79 ?_
        refine lv_topi (fun x6 e6 => ?_)
        replace hf := nm_at hf e6
        have b7 := bd_in hf
        replace hf := bd_k hf
        refine va_iald hx hb hK hP 3 2 rfl rfl b7 dX11_costOf_80 ?_
        refine lv_topi (fun x8 e8 => ?_)
        replace hf := nm_at hf e8
        refine lv_aload_n hx hb dX11_costOf_81 rfl (lv_at hl 0 rfl) ?_
        refine va_get (D := (dC, dI)) (ci := 11) (v := .ref h1) (C := RX11) (T := TX11) (N := 71) hx hb hts inlX11 hown hK hP 0 rfl rfl 70 (by decide) w2_ (fun _ h9 => h9) rfl dX11_costOf_82 ?_
        refine lv_bipush (v := 8) hx hb dX11_costOf_85 (by decide +kernel) ?_
        refine lv_aload_n hx hb dX11_costOf_87 rfl (lv_at hl 0 rfl) ?_
        refine va_get (D := (dC, dI)) (ci := 11) (v := .int v0_calls) (C := RX11) (T := TX11) (N := 71) hx hb hts inlX11 hown hK hP 0 rfl rfl 67 (by decide) w0_ (fun _ h9 => h9) rfl dX11_costOf_88 ?_
        refine lv_iconst (v := 1) hx hb dX11_costOf_91 (by decide +kernel) ?_
        refine lv_isub hx hb dX11_costOf_92 ?_
        refine lv_topi (fun x9 e9 => ?_)
        replace hf := nm_at hf e9
        refine lv_imul hx hb dX11_costOf_93 ?_
        refine lv_topi (fun x10 e10 => ?_)
        replace hf := nm_at hf e10
        refine lv_iload hx hb dX11_costOf_94 (lv_at hl 5 rfl) ?_
        refine lv_iadd hx hb dX11_costOf_96 ?_
        refine lv_topi (fun x11 e11 => ?_)
        replace hf := nm_at hf e11
        have b12 := bd_in hf
        replace hf := bd_k hf
        refine va_iald hx hb hK hP 1 0 rfl rfl b12 dX11_costOf_97 ?_
        refine lv_topi (fun x13 e13 => ?_)
        replace hf := nm_at hf e13
        obtain ⟨o14, e14, hf⟩ := ob_some hf
        refine kSi (As := [.int x8, .int x13]) (rest := []) ⟨hx, hb, hml, hown, hts⟩ (mX11_sum l dC dI H.size base x8 x13 o14 e14) (va_cwS 2 hts (gTS q367 q368 q5 q369) rfl rfl rfl (by decide +kernel) ⟨Nat.le_of_ble_eq_true rfl, Nat.le_of_ble_eq_true rfl⟩) hK hP hD hS hA hE hAB [] [0, 1, 2, 3] [] (wr := (wX11_costOf h0 h1 h2 h3 kc1 kc2 kc3 V0 v0_calls c1 c2 c3)) rfl rfl (by decide) (by decide) (by decide) rfl rfl hl.1 rfl (Nat.le_of_ble_eq_true rfl) dX11_costOf_98 ⟨Nat.zero_le _, Nat.zero_le _⟩ (fun r14 u14 H locs hw14 hP hD hS => ?_)
        obtain ⟨hw141, hw142⟩ := hw14
        subst hw141 hw142
        have hP : va_P (dC, dI) vwCl (wX11_costOf h0 h1 h2 h3 kc1 kc2 kc3 V0 v0_calls c1 c2 c3) H := hP.sub [0, 1, 2, 3] rfl
        have hD : va_D A (wX11_costOf h0 h1 h2 h3 kc1 kc2 kc3 V0 v0_calls c1 c2 c3) := hD.sub [0, 1, 2, 3] (by decide) rfl
        refine lv_istore (lv' := [(6, .int o14.1), (0, .ref h0), (1, .int y1), (2, .int y2), (3, .int y3), (4, .int y4), (5, .int y5)]) hx hb dX11_costOf_101 hl (by decide) rfl (fun ls hl => ?_)
        refine lv_iload hx hb dX11_costOf_103 (lv_at hl 0 rfl) ?_
        refine lv_iload hx hb dX11_costOf_105 (lv_at hl 5 rfl) ?_
        refine lv_icmp_ge (tgt := 115) hx hb dX11_costOf_107 (by decide) (fun cq15 => ?_) (fun cq15 => ?_)
        · replace hf := if_at hf cq15
          refine lv_iload hx hb dX11_costOf_115 (lv_at hl 5 rfl) ?_
          exact (hG _ _ _ _ _).mp (J117 k50 hk50 y1 y2 y3 y5 y4 H locs ls (hP.sub [0, 1, 2, 3] rfl) (hD.sub [0, 1, 2, 3] (by decide) rfl) hS (lv_sub hl [1, 2, 3, 4, 6] rfl) hf)
        · replace hf := if_no hf cq15
          refine lv_iload hx hb dX11_costOf_110 (lv_at hl 0 rfl) ?_
          refine lv_goto (tgt := 117) hx hb dX11_costOf_112 (by decide) ?_
          exact (hG _ _ _ _ _).mp (J117 k50 hk50 y1 y2 y3 y5 o14.1 H locs ls (hP.sub [0, 1, 2, 3] rfl) (hD.sub [0, 1, 2, 3] (by decide) rfl) hS (lv_sub hl [1, 2, 3, 4, 6] rfl) hf)
  have L50 : ∀ (n : Nat), ∀ (y1 : Int32) (y2 : Int32) (y3 : Int32) (y4 : Int32) (y5 : Int32) (H : Heap) (locs : List Loc) (ls : Array Slot), va_P (dC, dI) vwCl (wX11_costOf h0 h1 h2 h3 kc1 kc2 kc3 V0 v0_calls c1 c2 c3) H → va_D A (wX11_costOf h0 h1 h2 h3 kc1 kc2 kc3 V0 v0_calls c1 c2 c3) → va_S A s.heap H locs → lv_has ls 7 [(0, .ref h0), (1, .int y1), (2, .int y2), (3, .int y3), (4, .int y4), (5, .int y5)] → fX11_costOf_l50 v0_calls c1 c2 c3  n y1 y2 y3 y4 y5 = some o → G 0 0 H locs (F0 m 50 ls []) := by
    intro  n
    induction n with
    | zero => intro y1 y2 y3 y4 y5 H locs ls _ _ _ _ hf; cases hf
    | succ n ih => exact B50  _ ih
  have J33 : ∀ (z0 : Int32) (H : Heap) (locs : List Loc) (ls : Array Slot), va_P (dC, dI) vwCl (wX11_costOf h0 h1 h2 h3 kc1 kc2 kc3 V0 v0_calls c1 c2 c3) H → va_D A (wX11_costOf h0 h1 h2 h3 kc1 kc2 kc3 V0 v0_calls c1 c2 c3) → va_S A s.heap H locs → lv_has ls 7 [(0, .ref h0)] → fX11_costOf_p33 v0_calls c1 c2 c3  z0 = some o → G 0 0 H locs (F0 m 33 ls [.int z0]) := by
    intro  z0 H locs ls hP hD hS hl hf
    refine (hG _ _ _ _ _).mpr ?_
    unfold fX11_costOf_p33 at hf
    have hf1 := Option.some.inj hf
    subst hf1
    have hP9 := hP.sub (ws' := (wX11_costOf h0 h1 h2 h3 kc1 kc2 kc3 V0 v0_calls c1 c2 c3)) [0, 1, 2, 3] rfl
    have hD9 := hD.sub (ws' := (wX11_costOf h0 h1 h2 h3 kc1 kc2 kc3 V0 v0_calls c1 c2 c3)) [0, 1, 2, 3] (by decide) rfl
    exact W.iret (v := z0) hx hb hr (fun t ht hW => ⟨⟨z0, (), rfl, ⟨rfl, rfl⟩, by rw [ht]; exact hP9, va_K.moved hW.alike hK, hD9⟩, hS.F ht⟩) hS.2.2 dX11_costOf_33
  refine (hG _ _ _ _ _).mpr ?_
  obtain ⟨H, hH⟩ : ∃ H, H = s.heap := ⟨_, rfl⟩
  have hS : va_S A s.heap H [] := by rw [hH]; exact hS
  rw [← hH] at hP ⊢
  generalize ([] : List Loc) = locs at hS ⊢
  unfold fX11_costOf at hf
  refine lv_iload_n hx hb dX11_costOf_0 rfl (lv_at hl 2 rfl) ?_
  refine lv_iconst (v := (-1)) hx hb dX11_costOf_1 (by decide +kernel) ?_
  refine lv_icmp_ne (tgt := 34) hx hb dX11_costOf_2 (by decide) (fun cq16 => ?_) (fun cq16 => ?_)
  · replace hf := if_no hf cq16
    refine lv_aload_n hx hb dX11_costOf_34 rfl (lv_at hl 0 rfl) ?_
    refine va_get (D := (dC, dI)) (ci := 11) (v := .ref h2) (C := RX11) (T := TX11) (N := 71) hx hb hts inlX11 hown hK hP 0 rfl rfl 61 (by decide) w3_ (fun _ h9 => h9) rfl dX11_costOf_35 ?_
    refine lv_iload_n hx hb dX11_costOf_38 rfl (lv_at hl 1 rfl) ?_
    refine lv_iload_n hx hb dX11_costOf_39 rfl (lv_at hl 2 rfl) ?_
    refine lv_iload_n hx hb dX11_costOf_40 rfl (lv_at hl 3 rfl) ?_
    obtain ⟨o17, e17, hf⟩ := ob_some hf
    refine kSi (As := [.int a0, .int a1, .int a2]) (rest := [.ref h2]) ⟨hx, hb, hml, hown, hts⟩ (mX11_at l dC dI H.size base a0 a1 a2 o17 e17) (va_cwS 3 hts (gTS q1112 q1113 q5 q1114) rfl rfl rfl (by decide +kernel) ⟨Nat.le_of_ble_eq_true rfl, Nat.le_of_ble_eq_true rfl⟩) hK hP hD hS hA hE hAB [] [0, 1, 2, 3] [] (wr := (wX11_costOf h0 h1 h2 h3 kc1 kc2 kc3 V0 v0_calls c1 c2 c3)) rfl rfl (by decide) (by decide) (by decide) rfl rfl hl.1 rfl (Nat.le_of_ble_eq_true rfl) dX11_costOf_41 ⟨Nat.zero_le _, Nat.zero_le _⟩ (fun r17 u17 H locs hw17 hP hD hS => ?_)
    obtain ⟨hw171, hw172⟩ := hw17
    subst hw171 hw172
    have hP : va_P (dC, dI) vwCl (wX11_costOf h0 h1 h2 h3 kc1 kc2 kc3 V0 v0_calls c1 c2 c3) H := hP.sub [0, 1, 2, 3] rfl
    have hD : va_D A (wX11_costOf h0 h1 h2 h3 kc1 kc2 kc3 V0 v0_calls c1 c2 c3) := hD.sub [0, 1, 2, 3] (by decide) rfl
    have b18 := bd_in hf
    replace hf := bd_k hf
    refine va_iald hx hb hK hP 2 1 rfl rfl b18 dX11_costOf_44 ?_
    refine lv_topi (fun x19 e19 => ?_)
    replace hf := nm_at hf e19
    refine lv_istore (lv' := [(4, .int x19), (0, .ref h0), (1, .int a0), (2, .int a1), (3, .int a2)]) hx hb dX11_costOf_45 hl (by decide) rfl (fun ls hl => ?_)
    refine lv_iconst (v := 0) hx hb dX11_costOf_47 (by decide +kernel) ?_
    refine lv_istore (lv' := [(5, .int 0), (4, .int x19), (0, .ref h0), (1, .int a0), (2, .int a1), (3, .int a2)]) hx hb dX11_costOf_48 hl (by decide) rfl (fun ls hl => ?_)
    exact (hG _ _ _ _ _).mp (L50 FU a0 a1 a2 x19 0 H locs ls (hP.sub [0, 1, 2, 3] rfl) (hD.sub [0, 1, 2, 3] (by decide) rfl) hS (lv_sub hl [2, 3, 4, 5, 1, 0] rfl) hf)
  · replace hf := if_at hf cq16
    refine lv_aload_n hx hb dX11_costOf_5 rfl (lv_at hl 0 rfl) ?_
    refine va_get (D := (dC, dI)) (ci := 11) (v := .int v0_calls) (C := RX11) (T := TX11) (N := 71) hx hb hts inlX11 hown hK hP 0 rfl rfl 67 (by decide) w0_ (fun _ h9 => h9) rfl dX11_costOf_6 ?_
    refine lv_if_ne (tgt := 17) hx hb dX11_costOf_9 (by decide) (fun cq20 => ?_) (fun cq20 => ?_)
    · replace hf := if_no hf cq20
      refine lv_aload_n hx hb dX11_costOf_17 rfl (lv_at hl 0 rfl) ?_
      refine va_get (D := (dC, dI)) (ci := 11) (v := .ref h1) (C := RX11) (T := TX11) (N := 71) hx hb hts inlX11 hown hK hP 0 rfl rfl 70 (by decide) w2_ (fun _ h9 => h9) rfl dX11_costOf_18 ?_
      refine lv_bipush (v := 8) hx hb dX11_costOf_21 (by decide +kernel) ?_
      refine lv_aload_n hx hb dX11_costOf_23 rfl (lv_at hl 0 rfl) ?_
      refine va_get (D := (dC, dI)) (ci := 11) (v := .int v0_calls) (C := RX11) (T := TX11) (N := 71) hx hb hts inlX11 hown hK hP 0 rfl rfl 67 (by decide) w0_ (fun _ h9 => h9) rfl dX11_costOf_24 ?_
      refine lv_iconst (v := 1) hx hb dX11_costOf_27 (by decide +kernel) ?_
      refine lv_isub hx hb dX11_costOf_28 ?_
      refine lv_topi (fun x21 e21 => ?_)
      replace hf := nm_at hf e21
      refine lv_imul hx hb dX11_costOf_29 ?_
      refine lv_topi (fun x22 e22 => ?_)
      replace hf := nm_at hf e22
      refine lv_iload_n hx hb dX11_costOf_30 rfl (lv_at hl 1 rfl) ?_
      refine lv_iadd hx hb dX11_costOf_31 ?_
      refine lv_topi (fun x23 e23 => ?_)
      replace hf := nm_at hf e23
      have b24 := bd_in hf
      replace hf := bd_k hf
      refine va_iald hx hb hK hP 1 0 rfl rfl b24 dX11_costOf_32 ?_
      refine lv_topi (fun x25 e25 => ?_)
      replace hf := nm_at hf e25
      exact (hG _ _ _ _ _).mp (J33 x25 H locs ls (hP.sub [0, 1, 2, 3] rfl) (hD.sub [0, 1, 2, 3] (by decide) rfl) hS (lv_sub hl [0] rfl) hf)
    · replace hf := if_at hf cq20
      refine lv_ldc (v := 2000000) hx hb hown w4_ dX11_costOf_12 ?_
      refine lv_goto (tgt := 33) hx hb dX11_costOf_14 (by decide) ?_
      exact (hG _ _ _ _ _).mp (J33 2000000 H locs ls (hP.sub [0, 1, 2, 3] rfl) (hD.sub [0, 1, 2, 3] (by decide) rfl) hS (lv_sub hl [0] rfl) hf)
abbrev wX11_chooses (h0 h1 : Nat) (kc1 : ClassId) (V0 : Nat → Value) (c1 : Nat → Int32) : va_W := [(h0, .inr (11, [V0 0, V0 1, V0 2, V0 3, V0 4, V0 5, V0 6, V0 7, V0 8, V0 9, V0 10, V0 11, V0 12, V0 13, V0 14, V0 15, V0 16, V0 17, V0 18, V0 19, V0 20, V0 21, V0 22, V0 23, V0 24, V0 25, V0 26, V0 27, V0 28, V0 29, V0 30, V0 31, V0 32, V0 33, V0 34, V0 35, .ref h1, V0 37, V0 38, V0 39, V0 40, V0 41, V0 42, V0 43, V0 44, V0 45, V0 46, V0 47, V0 48, V0 49, V0 50, V0 51, V0 52, V0 53, V0 54, V0 55, V0 56, V0 57, V0 58, V0 59, V0 60, V0 61, V0 62, V0 63, V0 64, V0 65, V0 66, V0 67, V0 68, V0 69, V0 70])), (h1, .inl (kc1, 40, .inl c1))]
set_option maxHeartbeats 4000000 in
set_option maxRecDepth 100000 in
theorem mX11_chooses (l : Launch) (dC : Nat → ClassId) (dI : Nat → Nat → Nat) (h0 h1 : Nat) (kc1 : ClassId) (sz : Nat) (base : Nat × Nat × Nat) (a0 : Int32) (c1 : Nat → Int32) (V0 : Nat → Value) (o : Int32 × Unit) (hf : fX11_chooses a0 c1 = some o) : Met l yX11_chooses (.code yX11_chooses cX11_chooses 2 (some .boolean) :: wsL_law) ({ frames := 0, cells := 0, slots := 0, locals := 0 }) (cPre (dC, dI) vwCl [.ref h0, .int a0] sz base (wX11_chooses h0 h1 kc1 V0 c1) [(kc1, .int)]) (va_Qi (fun r u => r = o.1 ∧ u = o.2) (fun (u : Unit) t => cPost (dC, dI) vwCl (va_A (wX11_chooses h0 h1 kc1 V0 c1) sz) (wX11_chooses h0 h1 kc1 V0 c1) [(kc1, .int)] t) (va_A (wX11_chooses h0 h1 kc1 V0 c1) sz)) 0 0 (va_A (wX11_chooses h0 h1 kc1 V0 c1) sz) := by
  refine Met.ofW (cc := cX11_chooses) (maxL := 2) (ret := (some .boolean)) (by decide) rfl ?_
  intro p e s m args below meth c s₁ B hml hv
  obtain ⟨rfl, hsz, hP, hK, hD0, hE⟩ := hv
  have hx := B.exec
  have hb := B.bytes
  have hr := B.returns
  have hts : ∀ w ∈ wsL_law, _ := fun w h => atoms_spec (ws := .code yX11_chooses cX11_chooses 2 (some .boolean) :: wsL_law) B.pre w (List.mem_cons_of_mem _ h)
  have hown : s.vm.findClass RX11 = some m.cls := findClass_of_methodNamed B.named
  have hlocks := B.notSynchronized
  have w0_ := hts _ q101
  subst hsz
  have hD := hD0.self (sz := s.heap.size)
  generalize hAe : va_A (wX11_chooses h0 h1 kc1 V0 c1) s.heap.size = A at hD ⊢
  have hA : ∀ q : Nat, s.heap.size ≤ q → A q := fun q h => by rw [← hAe]; exact Or.inr h
  have hAB : ∀ q : Nat, A q → base.1 ≤ q := fun q h => by rw [← hAe] at h; exact h.elim (fun ⟨k, e, hk⟩ => hD0.2 k _ hk) (fun hk => Nat.le_trans hE.1 hk)
  have hS : va_S A s.heap s.heap [] := va_S.rf
  have hl := lv_entry ([.ref h0, .int a0]) (n := 2) (Nat.le_of_ble_eq_true rfl)
  rw [lg_entry_eq]
  generalize (lg_sl ([.ref h0, .int a0]) ++ List.replicate (2 - (lg_sl ([.ref h0, .int a0])).length) Slot.unset).toArray = ls at hl ⊢
  have hl : lv_has ls 2 [(0, .ref h0), (1, .int a0)] := hl
  have hP : va_P (dC, dI) vwCl (wX11_chooses h0 h1 kc1 V0 c1) s.heap := hP
  refine gl_intro (fun G hG => ?_)
  have J35 : ∀ (z0 : Int32) (H : Heap) (locs : List Loc) (ls : Array Slot), va_P (dC, dI) vwCl (wX11_chooses h0 h1 kc1 V0 c1) H → va_D A (wX11_chooses h0 h1 kc1 V0 c1) → va_S A s.heap H locs → lv_has ls 2 [(0, .ref h0)] → fX11_chooses_p35 c1  z0 = some o → G 0 0 H locs (F0 m 35 ls [.int z0]) := by
    intro  z0 H locs ls hP hD hS hl hf
    refine (hG _ _ _ _ _).mpr ?_
    unfold fX11_chooses_p35 at hf
    have b1 := bd_b hf
    replace hf := bd_k hf
    have hf1 := Option.some.inj hf
    subst hf1
    have hP9 := hP.sub (ws' := (wX11_chooses h0 h1 kc1 V0 c1)) [0, 1] rfl
    have hD9 := hD.sub (ws' := (wX11_chooses h0 h1 kc1 V0 c1)) [0, 1] (by decide) rfl
    exact W.zret (v := z0) (ty := .boolean) hx hb hr (bz_nar b1) (fun t ht hW => ⟨⟨z0, (), rfl, ⟨rfl, rfl⟩, by rw [ht]; exact hP9, va_K.moved hW.alike hK, hD9⟩, hS.F ht⟩) hS.2.2 dX11_chooses_35
  have J30 : ∀ (H : Heap) (locs : List Loc) (ls : Array Slot), va_P (dC, dI) vwCl (wX11_chooses h0 h1 kc1 V0 c1) H → va_D A (wX11_chooses h0 h1 kc1 V0 c1) → va_S A s.heap H locs → lv_has ls 2 [(0, .ref h0)] → fX11_chooses_p30 c1   = some o → G 0 0 H locs (F0 m 30 ls []) := by
    intro   H locs ls hP hD hS hl hf
    refine (hG _ _ _ _ _).mpr ?_
    unfold fX11_chooses_p30 at hf
    refine lv_iconst (v := 1) hx hb dX11_chooses_30 (by decide +kernel) ?_
    refine lv_goto (tgt := 35) hx hb dX11_chooses_31 (by decide) ?_
    exact (hG _ _ _ _ _).mp (J35 1 H locs ls (hP.sub [0, 1] rfl) (hD.sub [0, 1] (by decide) rfl) hS (lv_sub hl [0] rfl) hf)
  refine (hG _ _ _ _ _).mpr ?_
  obtain ⟨H, hH⟩ : ∃ H, H = s.heap := ⟨_, rfl⟩
  have hS : va_S A s.heap H [] := by rw [hH]; exact hS
  rw [← hH] at hP ⊢
  generalize ([] : List Loc) = locs at hS ⊢
  unfold fX11_chooses at hf
  refine lv_aload_n hx hb dX11_chooses_0 rfl (lv_at hl 0 rfl) ?_
  refine va_get (D := (dC, dI)) (ci := 11) (v := .ref h1) (C := RX11) (T := TX11) (N := 71) hx hb hts inlX11 hown hK hP 0 rfl rfl 36 (by decide) w0_ (fun _ h9 => h9) rfl dX11_chooses_1 ?_
  refine lv_iload_n hx hb dX11_chooses_4 rfl (lv_at hl 1 rfl) ?_
  have b2 := bd_in hf
  replace hf := bd_k hf
  refine va_iald hx hb hK hP 1 0 rfl rfl b2 dX11_chooses_5 ?_
  refine lv_topi (fun x3 e3 => ?_)
  replace hf := nm_at hf e3
  refine lv_iconst (v := 3) hx hb dX11_chooses_6 (by decide +kernel) ?_
  refine lv_icmp_lt (tgt := 30) hx hb dX11_chooses_7 (by decide) (fun cq4 => ?_) (fun cq4 => ?_)
  · replace hf := if_at hf cq4
    exact (hG _ _ _ _ _).mp (J30 H locs ls (hP.sub [0, 1] rfl) (hD.sub [0, 1] (by decide) rfl) hS (lv_sub hl [0] rfl) hf)
  · replace hf := if_no hf cq4
    refine lv_aload_n hx hb dX11_chooses_10 rfl (lv_at hl 0 rfl) ?_
    refine va_get (D := (dC, dI)) (ci := 11) (v := .ref h1) (C := RX11) (T := TX11) (N := 71) hx hb hts inlX11 hown hK hP 0 rfl rfl 36 (by decide) w0_ (fun _ h9 => h9) rfl dX11_chooses_11 ?_
    refine lv_iload_n hx hb dX11_chooses_14 rfl (lv_at hl 1 rfl) ?_
    have b5 := bd_in hf
    replace hf := bd_k hf
    refine va_iald hx hb hK hP 1 0 rfl rfl b5 dX11_chooses_15 ?_
    refine lv_topi (fun x6 e6 => ?_)
    replace hf := nm_at hf e6
    refine lv_iconst (v := 4) hx hb dX11_chooses_16 (by decide +kernel) ?_
    refine lv_icmp_eq (tgt := 30) hx hb dX11_chooses_17 (by decide) (fun cq7 => ?_) (fun cq7 => ?_)
    · replace hf := if_at hf cq7
      exact (hG _ _ _ _ _).mp (J30 H locs ls (hP.sub [0, 1] rfl) (hD.sub [0, 1] (by decide) rfl) hS (lv_sub hl [0] rfl) hf)
    · replace hf := if_no hf cq7
      refine lv_aload_n hx hb dX11_chooses_20 rfl (lv_at hl 0 rfl) ?_
      refine va_get (D := (dC, dI)) (ci := 11) (v := .ref h1) (C := RX11) (T := TX11) (N := 71) hx hb hts inlX11 hown hK hP 0 rfl rfl 36 (by decide) w0_ (fun _ h9 => h9) rfl dX11_chooses_21 ?_
      refine lv_iload_n hx hb dX11_chooses_24 rfl (lv_at hl 1 rfl) ?_
      have b8 := bd_in hf
      replace hf := bd_k hf
      refine va_iald hx hb hK hP 1 0 rfl rfl b8 dX11_chooses_25 ?_
      refine lv_topi (fun x9 e9 => ?_)
      replace hf := nm_at hf e9
      refine lv_iconst (v := 5) hx hb dX11_chooses_26 (by decide +kernel) ?_
      refine lv_icmp_ne (tgt := 34) hx hb dX11_chooses_27 (by decide) (fun cq10 => ?_) (fun cq10 => ?_)
      · replace hf := if_no hf cq10
        refine lv_iconst (v := 0) hx hb dX11_chooses_34 (by decide +kernel) ?_
        exact (hG _ _ _ _ _).mp (J35 0 H locs ls (hP.sub [0, 1] rfl) (hD.sub [0, 1] (by decide) rfl) hS (lv_sub hl [0] rfl) hf)
      · replace hf := if_at hf cq10
        exact (hG _ _ _ _ _).mp (J30 H locs ls (hP.sub [0, 1] rfl) (hD.sub [0, 1] (by decide) rfl) hS (lv_sub hl [0] rfl) hf)
abbrev wX11_takes (h0 h1 h2 h3 h4 h5 h6 h7 h8 h9 h10 h11 : Nat) (kc1 kc2 kc3 kc4 kc5 kc6 kc7 kc8 kc9 kc10 kc11 : ClassId) (V0 : Nat → Value) (v0_newG : Int32) (v0_newL : Int32) (v0_newS : Int32) (v0_calls : Int32) (c1 : Nat → Int32) (c2 : Nat → Int32) (c3 : Nat → Int32) (c4 : Nat → Int32) (c5 : Nat → Int32) (c6 : Nat → Int32) (c7 : Nat → Int32) (c8 : Nat → Int32) (c9 : Nat → Int32) (c10 : Nat → Int32) (c11 : Nat → Int32) : va_W := [(h0, .inr (11, [V0 0, V0 1, V0 2, V0 3, V0 4, V0 5, V0 6, V0 7, V0 8, V0 9, V0 10, V0 11, V0 12, V0 13, V0 14, V0 15, V0 16, V0 17, V0 18, V0 19, V0 20, V0 21, V0 22, V0 23, V0 24, V0 25, V0 26, V0 27, V0 28, V0 29, V0 30, V0 31, V0 32, V0 33, V0 34, V0 35, .ref h5, V0 37, V0 38, .ref h7, .ref h8, .ref h6, V0 42, V0 43, .ref h1, .ref h2, .ref h3, V0 47, V0 48, V0 49, V0 50, V0 51, V0 52, V0 53, V0 54, V0 55, V0 56, V0 57, V0 58, .ref h4, .ref h11, .ref h10, .int v0_newG, .int v0_newL, .int v0_newS, V0 65, V0 66, .int v0_calls, V0 68, V0 69, .ref h9])), (h1, .inl (kc1, 40, .inl c1)), (h2, .inl (kc2, 40, .inl c2)), (h3, .inl (kc3, 700, .inl c3)), (h4, .inl (kc4, 700, .inl c4)), (h5, .inl (kc5, 40, .inl c5)), (h6, .inl (kc6, 40, .inl c6)), (h7, .inl (kc7, 40, .inl c7)), (h8, .inl (kc8, 80, .inl c8)), (h9, .inl (kc9, 16016, .inl c9)), (h10, .inl (kc10, 1280, .inl c10)), (h11, .inl (kc11, 10240, .inl c11))]
set_option maxHeartbeats 4000000 in
set_option maxRecDepth 100000 in
theorem mX11_takes (l : Launch) (dC : Nat → ClassId) (dI : Nat → Nat → Nat) (h0 h1 h2 h3 h4 h5 h6 h7 h8 h9 h10 h11 : Nat) (kc1 kc2 kc3 kc4 kc5 kc6 kc7 kc8 kc9 kc10 kc11 : ClassId) (sz : Nat) (base : Nat × Nat × Nat) (a0 : Int32) (a1 : Int32) (a2 : Int32) (a3 : Int32) (v0_newG : Int32) (v0_newL : Int32) (v0_newS : Int32) (v0_calls : Int32) (c1 : Nat → Int32) (c2 : Nat → Int32) (c3 : Nat → Int32) (c4 : Nat → Int32) (c5 : Nat → Int32) (c6 : Nat → Int32) (c7 : Nat → Int32) (c8 : Nat → Int32) (c9 : Nat → Int32) (c10 : Nat → Int32) (c11 : Nat → Int32) (V0 : Nat → Value) (o : Int32 × Int32 × Int32 × Int32 × (Nat → Int32)) (hf : fX11_takes a0 a1 a2 a3 v0_newG v0_newL v0_newS v0_calls c1 c2 c3 c4 c5 c6 c7 c8 c9 c10 c11 = some o) : Met l yX11_takes (.code yX11_takes cX11_takes 6 (some .int) :: wsL_law) ({ frames := 2, cells := 0, slots := 0, locals := 48 }) (cPre (dC, dI) vwCl [.ref h0, .int a0, .int a1, .int a2, .int a3] sz base (wX11_takes h0 h1 h2 h3 h4 h5 h6 h7 h8 h9 h10 h11 kc1 kc2 kc3 kc4 kc5 kc6 kc7 kc8 kc9 kc10 kc11 V0 v0_newG v0_newL v0_newS v0_calls c1 c2 c3 c4 c5 c6 c7 c8 c9 c10 c11) [(kc1, .int), (kc2, .int), (kc3, .int), (kc4, .int), (kc5, .int), (kc6, .int), (kc7, .int), (kc8, .int), (kc9, .int), (kc10, .int), (kc11, .int)]) (va_Qi (fun r u => r = o.1 ∧ u = o.2) (fun (u : Int32 × Int32 × Int32 × (Nat → Int32)) t => cPost (dC, dI) vwCl (va_A (wX11_takes h0 h1 h2 h3 h4 h5 h6 h7 h8 h9 h10 h11 kc1 kc2 kc3 kc4 kc5 kc6 kc7 kc8 kc9 kc10 kc11 V0 v0_newG v0_newL v0_newS v0_calls c1 c2 c3 c4 c5 c6 c7 c8 c9 c10 c11) sz) (wX11_takes h0 h1 h2 h3 h4 h5 h6 h7 h8 h9 h10 h11 kc1 kc2 kc3 kc4 kc5 kc6 kc7 kc8 kc9 kc10 kc11 V0 u.1 u.2.1 u.2.2.1 v0_calls c1 c2 c3 u.2.2.2 c5 c6 c7 c8 c9 c10 c11) [(kc1, .int), (kc2, .int), (kc3, .int), (kc4, .int), (kc5, .int), (kc6, .int), (kc7, .int), (kc8, .int), (kc9, .int), (kc10, .int), (kc11, .int)] t) (va_A (wX11_takes h0 h1 h2 h3 h4 h5 h6 h7 h8 h9 h10 h11 kc1 kc2 kc3 kc4 kc5 kc6 kc7 kc8 kc9 kc10 kc11 V0 v0_newG v0_newL v0_newS v0_calls c1 c2 c3 c4 c5 c6 c7 c8 c9 c10 c11) sz)) 0 0 (va_A (wX11_takes h0 h1 h2 h3 h4 h5 h6 h7 h8 h9 h10 h11 kc1 kc2 kc3 kc4 kc5 kc6 kc7 kc8 kc9 kc10 kc11 V0 v0_newG v0_newL v0_newS v0_calls c1 c2 c3 c4 c5 c6 c7 c8 c9 c10 c11) sz) := by
  refine Met.ofW (cc := cX11_takes) (maxL := 6) (ret := (some .int)) (by decide) rfl ?_
  intro p e s m args below meth c s₁ B hml hv
  obtain ⟨rfl, hsz, hP, hK, hD0, hE⟩ := hv
  have hx := B.exec
  have hb := B.bytes
  have hr := B.returns
  have hts : ∀ w ∈ wsL_law, _ := fun w h => atoms_spec (ws := .code yX11_takes cX11_takes 6 (some .int) :: wsL_law) B.pre w (List.mem_cons_of_mem _ h)
  have hown : s.vm.findClass RX11 = some m.cls := findClass_of_methodNamed B.named
  have hlocks := B.notSynchronized
  have w0_ := hts _ q101
  have w1_ := hts _ q1119
  have w2_ := hts _ q1120
  have w3_ := hts _ q1121
  subst hsz
  have hD := hD0.self (sz := s.heap.size)
  generalize hAe : va_A (wX11_takes h0 h1 h2 h3 h4 h5 h6 h7 h8 h9 h10 h11 kc1 kc2 kc3 kc4 kc5 kc6 kc7 kc8 kc9 kc10 kc11 V0 v0_newG v0_newL v0_newS v0_calls c1 c2 c3 c4 c5 c6 c7 c8 c9 c10 c11) s.heap.size = A at hD ⊢
  have hA : ∀ q : Nat, s.heap.size ≤ q → A q := fun q h => by rw [← hAe]; exact Or.inr h
  have hAB : ∀ q : Nat, A q → base.1 ≤ q := fun q h => by rw [← hAe] at h; exact h.elim (fun ⟨k, e, hk⟩ => hD0.2 k _ hk) (fun hk => Nat.le_trans hE.1 hk)
  have hS : va_S A s.heap s.heap [] := va_S.rf
  have hl := lv_entry ([.ref h0, .int a0, .int a1, .int a2, .int a3]) (n := 6) (Nat.le_of_ble_eq_true rfl)
  rw [lg_entry_eq]
  generalize (lg_sl ([.ref h0, .int a0, .int a1, .int a2, .int a3]) ++ List.replicate (6 - (lg_sl ([.ref h0, .int a0, .int a1, .int a2, .int a3])).length) Slot.unset).toArray = ls at hl ⊢
  have hl : lv_has ls 6 [(0, .ref h0), (1, .int a0), (2, .int a1), (3, .int a2), (4, .int a3)] := hl
  have hP : va_P (dC, dI) vwCl (wX11_takes h0 h1 h2 h3 h4 h5 h6 h7 h8 h9 h10 h11 kc1 kc2 kc3 kc4 kc5 kc6 kc7 kc8 kc9 kc10 kc11 V0 v0_newG v0_newL v0_newS v0_calls c1 c2 c3 c4 c5 c6 c7 c8 c9 c10 c11) s.heap := hP
  refine gl_intro (fun G hG => ?_)
  have J88 : ∀ (z0 : Int32) (v0_newG : Int32) (v0_newL : Int32) (v0_newS : Int32) (c4 : (Nat → Int32)) (H : Heap) (locs : List Loc) (ls : Array Slot), va_P (dC, dI) vwCl (wX11_takes h0 h1 h2 h3 h4 h5 h6 h7 h8 h9 h10 h11 kc1 kc2 kc3 kc4 kc5 kc6 kc7 kc8 kc9 kc10 kc11 V0 v0_newG v0_newL v0_newS v0_calls c1 c2 c3 c4 c5 c6 c7 c8 c9 c10 c11) H → va_D A (wX11_takes h0 h1 h2 h3 h4 h5 h6 h7 h8 h9 h10 h11 kc1 kc2 kc3 kc4 kc5 kc6 kc7 kc8 kc9 kc10 kc11 V0 v0_newG v0_newL v0_newS v0_calls c1 c2 c3 c4 c5 c6 c7 c8 c9 c10 c11) → va_S A s.heap H locs → lv_has ls 6 [(0, .ref h0)] → fX11_takes_p88 v0_calls c1 c2 c3 c5 c6 c7 c8 c9 c10 c11  z0 v0_newG v0_newL v0_newS c4 = some o → G 0 0 H locs (F0 m 88 ls [.int z0]) := by
    intro  z0 v0_newG v0_newL v0_newS c4 H locs ls hP hD hS hl hf
    refine (hG _ _ _ _ _).mpr ?_
    unfold fX11_takes_p88 at hf
    have hf1 := Option.some.inj hf
    subst hf1
    have hP9 := hP.sub (ws' := (wX11_takes h0 h1 h2 h3 h4 h5 h6 h7 h8 h9 h10 h11 kc1 kc2 kc3 kc4 kc5 kc6 kc7 kc8 kc9 kc10 kc11 V0 v0_newG v0_newL v0_newS v0_calls c1 c2 c3 c4 c5 c6 c7 c8 c9 c10 c11)) [0, 1, 2, 3, 4, 5, 6, 7, 8, 9, 10, 11] rfl
    have hD9 := hD.sub (ws' := (wX11_takes h0 h1 h2 h3 h4 h5 h6 h7 h8 h9 h10 h11 kc1 kc2 kc3 kc4 kc5 kc6 kc7 kc8 kc9 kc10 kc11 V0 v0_newG v0_newL v0_newS v0_calls c1 c2 c3 c4 c5 c6 c7 c8 c9 c10 c11)) [0, 1, 2, 3, 4, 5, 6, 7, 8, 9, 10, 11] (by decide) rfl
    exact W.iret (v := z0) hx hb hr (fun t ht hW => ⟨⟨z0, (v0_newG, v0_newL, v0_newS, c4), rfl, ⟨rfl, rfl⟩, by rw [ht]; exact hP9, va_K.moved hW.alike hK, hD9⟩, hS.F ht⟩) hS.2.2 dX11_takes_88
  have J39 : ∀ (z0 : Int32) (v0_newG : Int32) (v0_newL : Int32) (v0_newS : Int32) (c4 : (Nat → Int32)) (H : Heap) (locs : List Loc) (ls : Array Slot), va_P (dC, dI) vwCl (wX11_takes h0 h1 h2 h3 h4 h5 h6 h7 h8 h9 h10 h11 kc1 kc2 kc3 kc4 kc5 kc6 kc7 kc8 kc9 kc10 kc11 V0 v0_newG v0_newL v0_newS v0_calls c1 c2 c3 c4 c5 c6 c7 c8 c9 c10 c11) H → va_D A (wX11_takes h0 h1 h2 h3 h4 h5 h6 h7 h8 h9 h10 h11 kc1 kc2 kc3 kc4 kc5 kc6 kc7 kc8 kc9 kc10 kc11 V0 v0_newG v0_newL v0_newS v0_calls c1 c2 c3 c4 c5 c6 c7 c8 c9 c10 c11) → va_S A s.heap H locs → lv_has ls 6 [(0, .ref h0)] → fX11_takes_p39 v0_calls c1 c2 c3 c5 c6 c7 c8 c9 c10 c11  z0 v0_newG v0_newL v0_newS c4 = some o → G 0 0 H locs (F0 m 39 ls [.int z0]) := by
    intro  z0 v0_newG v0_newL v0_newS c4 H locs ls hP hD hS hl hf
    refine (hG _ _ _ _ _).mpr ?_
    unfold fX11_takes_p39 at hf
    have hf1 := Option.some.inj hf
    subst hf1
    have hP9 := hP.sub (ws' := (wX11_takes h0 h1 h2 h3 h4 h5 h6 h7 h8 h9 h10 h11 kc1 kc2 kc3 kc4 kc5 kc6 kc7 kc8 kc9 kc10 kc11 V0 v0_newG v0_newL v0_newS v0_calls c1 c2 c3 c4 c5 c6 c7 c8 c9 c10 c11)) [0, 1, 2, 3, 4, 5, 6, 7, 8, 9, 10, 11] rfl
    have hD9 := hD.sub (ws' := (wX11_takes h0 h1 h2 h3 h4 h5 h6 h7 h8 h9 h10 h11 kc1 kc2 kc3 kc4 kc5 kc6 kc7 kc8 kc9 kc10 kc11 V0 v0_newG v0_newL v0_newS v0_calls c1 c2 c3 c4 c5 c6 c7 c8 c9 c10 c11)) [0, 1, 2, 3, 4, 5, 6, 7, 8, 9, 10, 11] (by decide) rfl
    exact W.iret (v := z0) hx hb hr (fun t ht hW => ⟨⟨z0, (v0_newG, v0_newL, v0_newS, c4), rfl, ⟨rfl, rfl⟩, by rw [ht]; exact hP9, va_K.moved hW.alike hK, hD9⟩, hS.F ht⟩) hS.2.2 dX11_takes_39
  refine (hG _ _ _ _ _).mpr ?_
  obtain ⟨H, hH⟩ : ∃ H, H = s.heap := ⟨_, rfl⟩
  have hS : va_S A s.heap H [] := by rw [hH]; exact hS
  rw [← hH] at hP ⊢
  generalize ([] : List Loc) = locs at hS ⊢
  unfold fX11_takes at hf
  refine lv_aload_n hx hb dX11_takes_0 rfl (lv_at hl 0 rfl) ?_
  refine lv_iload_n hx hb dX11_takes_1 rfl (lv_at hl 1 rfl) ?_
  refine lv_iload_n hx hb dX11_takes_2 rfl (lv_at hl 2 rfl) ?_
  refine lv_iload_n hx hb dX11_takes_3 rfl (lv_at hl 3 rfl) ?_
  obtain ⟨o1, e1, hf⟩ := ob_some hf
  refine kVi (As := [.int a0, .int a1, .int a2]) (rest := []) ⟨hx, hb, hml, hown, hts⟩ (mX11_can l dC dI h0 h1 h2 h3 h4 kc1 kc2 kc3 kc4 H.size base a0 a1 a2 c1 c2 c3 c4 (fun k => match k with | 36 => .ref h5 | 39 => .ref h7 | 40 => .ref h8 | 41 => .ref h6 | 60 => .ref h11 | 61 => .ref h10 | 62 => .int v0_newG | 63 => .int v0_newL | 64 => .int v0_newS | 67 => .int v0_calls | 70 => .ref h9 | k => V0 k) o1 e1) (cwV 3 hts (gTV q1126 q1127 q1128 q5 q1129) rfl rfl rfl (by decide +kernel) ⟨Nat.le_of_ble_eq_true rfl, Nat.le_of_ble_eq_true rfl⟩) hK hP hD hS hA hE hAB [0, 1, 2, 3, 4] [5, 6, 7, 8, 9, 10, 11] [0, 1, 2, 3] (wr := [(h5, .inl (kc5, 40, .inl c5)), (h6, .inl (kc6, 40, .inl c6)), (h7, .inl (kc7, 40, .inl c7)), (h8, .inl (kc8, 80, .inl c8)), (h9, .inl (kc9, 16016, .inl c9)), (h10, .inl (kc10, 1280, .inl c10)), (h11, .inl (kc11, 10240, .inl c11))]) rfl rfl (by decide) (by decide) (by decide) rfl (ci := 11) (q0 := 0) rfl rfl rfl rfl hl.1 rfl (Nat.le_of_ble_eq_true rfl) dX11_takes_4 ⟨Nat.zero_le _, Nat.zero_le _⟩ (fun r1 u1 H locs hw1 hP hD hS => ?_)
  obtain ⟨hw11, hw12⟩ := hw1
  subst hw11 hw12
  have hP : va_P (dC, dI) vwCl (wX11_takes h0 h1 h2 h3 h4 h5 h6 h7 h8 h9 h10 h11 kc1 kc2 kc3 kc4 kc5 kc6 kc7 kc8 kc9 kc10 kc11 V0 v0_newG v0_newL v0_newS v0_calls c1 c2 c3 o1.2 c5 c6 c7 c8 c9 c10 c11) H := hP.sub [7, 8, 9, 10, 11, 0, 1, 2, 3, 4, 5, 6] rfl
  have hD : va_D A (wX11_takes h0 h1 h2 h3 h4 h5 h6 h7 h8 h9 h10 h11 kc1 kc2 kc3 kc4 kc5 kc6 kc7 kc8 kc9 kc10 kc11 V0 v0_newG v0_newL v0_newS v0_calls c1 c2 c3 o1.2 c5 c6 c7 c8 c9 c10 c11) := hD.sub [7, 8, 9, 10, 11, 0, 1, 2, 3, 4, 5, 6] (by decide) rfl
  refine lv_istore (lv' := [(5, .int o1.1), (0, .ref h0), (1, .int a0), (2, .int a1), (3, .int a2), (4, .int a3)]) hx hb dX11_takes_7 hl (by decide) rfl (fun ls hl => ?_)
  refine lv_iload hx hb dX11_takes_9 (lv_at hl 0 rfl) ?_
  refine lv_iconst (v := 1) hx hb dX11_takes_11 (by decide +kernel) ?_
  refine lv_iand hx hb dX11_takes_12 ?_
  refine lv_topi (fun x2 e2 => ?_)
  replace hf := nm_at hf e2
  refine lv_if_ne (tgt := 18) hx hb dX11_takes_13 (by decide) (fun cq3 => ?_) (fun cq3 => ?_)
  · replace hf := if_no hf cq3
    refine lv_aload_n hx hb dX11_takes_18 rfl (lv_at hl 1 rfl) ?_
    refine va_get (D := (dC, dI)) (ci := 11) (v := .ref h5) (C := RX11) (T := TX11) (N := 71) hx hb hts inlX11 hown hK hP 0 rfl rfl 36 (by decide) w0_ (fun _ h9 => h9) rfl dX11_takes_19 ?_
    refine lv_iload_n hx hb dX11_takes_22 rfl (lv_at hl 2 rfl) ?_
    have b4 := bd_in hf
    replace hf := bd_k hf
    refine va_iald hx hb hK hP 5 4 rfl rfl b4 dX11_takes_23 ?_
    refine lv_topi (fun x5 e5 => ?_)
    replace hf := nm_at hf e5
    refine lv_iconst (v := 4) hx hb dX11_takes_24 (by decide +kernel) ?_
    refine lv_icmp_ne (tgt := 40) hx hb dX11_takes_25 (by decide) (fun cq6 => ?_) (fun cq6 => ?_)
    · replace hf := if_no hf cq6
      refine lv_aload_n hx hb dX11_takes_40 rfl (lv_at hl 1 rfl) ?_
      refine va_get (D := (dC, dI)) (ci := 11) (v := .ref h5) (C := RX11) (T := TX11) (N := 71) hx hb hts inlX11 hown hK hP 0 rfl rfl 36 (by decide) w0_ (fun _ h9 => h9) rfl dX11_takes_41 ?_
      refine lv_iload_n hx hb dX11_takes_44 rfl (lv_at hl 2 rfl) ?_
      have b7 := bd_in hf
      replace hf := bd_k hf
      refine va_iald hx hb hK hP 5 4 rfl rfl b7 dX11_takes_45 ?_
      refine lv_topi (fun x8 e8 => ?_)
      replace hf := nm_at hf e8
      refine lv_iconst (v := 5) hx hb dX11_takes_46 (by decide +kernel) ?_
      refine lv_icmp_ne (tgt := 52) hx hb dX11_takes_47 (by decide) (fun cq9 => ?_) (fun cq9 => ?_)
      · replace hf := if_no hf cq9
        refine lv_aload_n hx hb dX11_takes_52 rfl (lv_at hl 1 rfl) ?_
        refine lv_iload_n hx hb dX11_takes_53 rfl (lv_at hl 2 rfl) ?_
        refine lv_iload_n hx hb dX11_takes_54 rfl (lv_at hl 3 rfl) ?_
        refine lv_iload_n hx hb dX11_takes_55 rfl (lv_at hl 4 rfl) ?_
        refine lv_iconst (v := 0) hx hb dX11_takes_56 (by decide +kernel) ?_
        obtain ⟨o10, e10, hf⟩ := ob_some hf
        refine kVv (As := [.int a0, .int a1, .int a2, .int 0]) (rest := []) ⟨hx, hb, hml, hown, hts⟩ (mX11_go l dC dI h0 h6 h5 h7 h8 kc6 kc5 kc7 kc8 H.size base a0 a1 a2 0 v0_newG v0_newL v0_newS c6 c5 c7 c8 (fun k => match k with | 44 => .ref h1 | 45 => .ref h2 | 46 => .ref h3 | 59 => .ref h4 | 60 => .ref h11 | 61 => .ref h10 | 67 => .int v0_calls | 70 => .ref h9 | k => V0 k) o10 e10) (cwV 4 hts (gTV q1130 q1131 q1132 q5 q1133) rfl rfl rfl (by decide +kernel) ⟨Nat.le_of_ble_eq_true rfl, Nat.le_of_ble_eq_true rfl⟩) hK hP hD hS hA hE hAB [0, 6, 5, 7, 8] [1, 2, 3, 4, 9, 10, 11] [5, 4, 6, 7] (wr := [(h1, .inl (kc1, 40, .inl c1)), (h2, .inl (kc2, 40, .inl c2)), (h3, .inl (kc3, 700, .inl c3)), (h4, .inl (kc4, 700, .inl o1.2)), (h9, .inl (kc9, 16016, .inl c9)), (h10, .inl (kc10, 1280, .inl c10)), (h11, .inl (kc11, 10240, .inl c11))]) rfl rfl (by decide) (by decide) (by decide) rfl (ci := 11) (q0 := 0) rfl rfl rfl rfl hl.1 rfl (Nat.le_of_ble_eq_true rfl) dX11_takes_57 ⟨Nat.zero_le _, Nat.zero_le _⟩ (fun u10 H locs hw10 hP hD hS => ?_)
        have hw101 : o10 = u10 := Eq.symm hw10
        subst hw101
        have hP : va_P (dC, dI) vwCl (wX11_takes h0 h1 h2 h3 h4 h5 h6 h7 h8 h9 h10 h11 kc1 kc2 kc3 kc4 kc5 kc6 kc7 kc8 kc9 kc10 kc11 V0 o10.1 o10.2.1 o10.2.2 v0_calls c1 c2 c3 o1.2 c5 c6 c7 c8 c9 c10 c11) H := hP.sub [7, 0, 1, 2, 3, 9, 8, 10, 11, 4, 5, 6] rfl
        have hD : va_D A (wX11_takes h0 h1 h2 h3 h4 h5 h6 h7 h8 h9 h10 h11 kc1 kc2 kc3 kc4 kc5 kc6 kc7 kc8 kc9 kc10 kc11 V0 o10.1 o10.2.1 o10.2.2 v0_calls c1 c2 c3 o1.2 c5 c6 c7 c8 c9 c10 c11) := hD.sub [7, 0, 1, 2, 3, 9, 8, 10, 11, 4, 5, 6] (by decide) rfl
        refine lv_aload_n hx hb dX11_takes_60 rfl (lv_at hl 1 rfl) ?_
        refine lv_aload_n hx hb dX11_takes_61 rfl (lv_at hl 1 rfl) ?_
        refine va_get (D := (dC, dI)) (ci := 11) (v := .int o10.1) (C := RX11) (T := TX11) (N := 71) hx hb hts inlX11 hown hK hP 0 rfl rfl 62 (by decide) w1_ (fun _ h9 => h9) rfl dX11_takes_62 ?_
        refine lv_aload_n hx hb dX11_takes_65 rfl (lv_at hl 1 rfl) ?_
        refine va_get (D := (dC, dI)) (ci := 11) (v := .int o10.2.2) (C := RX11) (T := TX11) (N := 71) hx hb hts inlX11 hown hK hP 0 rfl rfl 64 (by decide) w2_ (fun _ h9 => h9) rfl dX11_takes_66 ?_
        refine lv_aload_n hx hb dX11_takes_69 rfl (lv_at hl 1 rfl) ?_
        refine va_get (D := (dC, dI)) (ci := 11) (v := .int o10.2.1) (C := RX11) (T := TX11) (N := 71) hx hb hts inlX11 hown hK hP 0 rfl rfl 63 (by decide) w3_ (fun _ h9 => h9) rfl dX11_takes_70 ?_
        obtain ⟨o11, e11, hf⟩ := ob_some hf
        refine kVi (As := [.int o10.1, .int o10.2.2, .int o10.2.1]) (rest := []) ⟨hx, hb, hml, hown, hts⟩ (mX11_costOf l dC dI h0 h9 h10 h11 kc9 kc10 kc11 H.size base o10.1 o10.2.2 o10.2.1 v0_calls c9 c10 c11 (fun k => match k with | 36 => .ref h5 | 39 => .ref h7 | 40 => .ref h8 | 41 => .ref h6 | 44 => .ref h1 | 45 => .ref h2 | 46 => .ref h3 | 59 => .ref h4 | 62 => .int o10.1 | 63 => .int o10.2.1 | 64 => .int o10.2.2 | k => V0 k) o11 e11) (cwV 3 hts (gTV q1147 q1148 q1149 q5 q1150) rfl rfl rfl (by decide +kernel) ⟨Nat.le_of_ble_eq_true rfl, Nat.le_of_ble_eq_true rfl⟩) hK hP hD hS hA hE hAB [0, 9, 10, 11] [1, 2, 3, 4, 5, 6, 7, 8] [8, 9, 10] (wr := [(h1, .inl (kc1, 40, .inl c1)), (h2, .inl (kc2, 40, .inl c2)), (h3, .inl (kc3, 700, .inl c3)), (h4, .inl (kc4, 700, .inl o1.2)), (h5, .inl (kc5, 40, .inl c5)), (h6, .inl (kc6, 40, .inl c6)), (h7, .inl (kc7, 40, .inl c7)), (h8, .inl (kc8, 80, .inl c8))]) rfl rfl (by decide) (by decide) (by decide) rfl (ci := 11) (q0 := 0) rfl rfl rfl rfl hl.1 rfl (Nat.le_of_ble_eq_true rfl) dX11_takes_73 ⟨Nat.zero_le _, Nat.zero_le _⟩ (fun r11 u11 H locs hw11 hP hD hS => ?_)
        obtain ⟨hw111, hw112⟩ := hw11
        subst hw111 hw112
        have hP : va_P (dC, dI) vwCl (wX11_takes h0 h1 h2 h3 h4 h5 h6 h7 h8 h9 h10 h11 kc1 kc2 kc3 kc4 kc5 kc6 kc7 kc8 kc9 kc10 kc11 V0 o10.1 o10.2.1 o10.2.2 v0_calls c1 c2 c3 o1.2 c5 c6 c7 c8 c9 c10 c11) H := hP.sub [8, 0, 1, 2, 3, 4, 5, 6, 7, 9, 10, 11] rfl
        have hD : va_D A (wX11_takes h0 h1 h2 h3 h4 h5 h6 h7 h8 h9 h10 h11 kc1 kc2 kc3 kc4 kc5 kc6 kc7 kc8 kc9 kc10 kc11 V0 o10.1 o10.2.1 o10.2.2 v0_calls c1 c2 c3 o1.2 c5 c6 c7 c8 c9 c10 c11) := hD.sub [8, 0, 1, 2, 3, 4, 5, 6, 7, 9, 10, 11] (by decide) rfl
        refine lv_iload hx hb dX11_takes_76 (lv_at hl 5 rfl) ?_
        refine lv_iconst (v := 1) hx hb dX11_takes_78 (by decide +kernel) ?_
        refine lv_isub hx hb dX11_takes_79 ?_
        refine lv_topi (fun x12 e12 => ?_)
        replace hf := nm_at hf e12
        refine lv_icmp_ne (tgt := 87) hx hb dX11_takes_80 (by decide) (fun cq13 => ?_) (fun cq13 => ?_)
        · replace hf := if_no hf cq13
          refine lv_iconst (v := 1) hx hb dX11_takes_87 (by decide +kernel) ?_
          exact (hG _ _ _ _ _).mp (J88 1 o10.1 o10.2.1 o10.2.2 o1.2 H locs ls (hP.sub [0, 1, 2, 3, 4, 5, 6, 7, 8, 9, 10, 11] rfl) (hD.sub [0, 1, 2, 3, 4, 5, 6, 7, 8, 9, 10, 11] (by decide) rfl) hS (lv_sub hl [1] rfl) hf)
        · replace hf := if_at hf cq13
          refine lv_iconst (v := 0) hx hb dX11_takes_83 (by decide +kernel) ?_
          refine lv_goto (tgt := 88) hx hb dX11_takes_84 (by decide) ?_
          exact (hG _ _ _ _ _).mp (J88 0 o10.1 o10.2.1 o10.2.2 o1.2 H locs ls (hP.sub [0, 1, 2, 3, 4, 5, 6, 7, 8, 9, 10, 11] rfl) (hD.sub [0, 1, 2, 3, 4, 5, 6, 7, 8, 9, 10, 11] (by decide) rfl) hS (lv_sub hl [1] rfl) hf)
      · replace hf := if_at hf cq9
        refine lv_iconst (v := 1) hx hb dX11_takes_50 (by decide +kernel) ?_
        have hf1 := Option.some.inj hf
        subst hf1
        have hP9 := hP.sub (ws' := (wX11_takes h0 h1 h2 h3 h4 h5 h6 h7 h8 h9 h10 h11 kc1 kc2 kc3 kc4 kc5 kc6 kc7 kc8 kc9 kc10 kc11 V0 v0_newG v0_newL v0_newS v0_calls c1 c2 c3 o1.2 c5 c6 c7 c8 c9 c10 c11)) [0, 1, 2, 3, 4, 5, 6, 7, 8, 9, 10, 11] rfl
        have hD9 := hD.sub (ws' := (wX11_takes h0 h1 h2 h3 h4 h5 h6 h7 h8 h9 h10 h11 kc1 kc2 kc3 kc4 kc5 kc6 kc7 kc8 kc9 kc10 kc11 V0 v0_newG v0_newL v0_newS v0_calls c1 c2 c3 o1.2 c5 c6 c7 c8 c9 c10 c11)) [0, 1, 2, 3, 4, 5, 6, 7, 8, 9, 10, 11] (by decide) rfl
        exact W.iret (v := 1) hx hb hr (fun t ht hW => ⟨⟨1, (v0_newG, v0_newL, v0_newS, o1.2), rfl, ⟨rfl, rfl⟩, by rw [ht]; exact hP9, va_K.moved hW.alike hK, hD9⟩, hS.F ht⟩) hS.2.2 dX11_takes_51
    · replace hf := if_at hf cq6
      refine lv_iload hx hb dX11_takes_28 (lv_at hl 5 rfl) ?_
      refine lv_iconst (v := 1) hx hb dX11_takes_30 (by decide +kernel) ?_
      refine lv_icmp_ne (tgt := 38) hx hb dX11_takes_31 (by decide) (fun cq14 => ?_) (fun cq14 => ?_)
      · replace hf := if_no hf cq14
        refine lv_iconst (v := 1) hx hb dX11_takes_38 (by decide +kernel) ?_
        exact (hG _ _ _ _ _).mp (J39 1 v0_newG v0_newL v0_newS o1.2 H locs ls (hP.sub [0, 1, 2, 3, 4, 5, 6, 7, 8, 9, 10, 11] rfl) (hD.sub [0, 1, 2, 3, 4, 5, 6, 7, 8, 9, 10, 11] (by decide) rfl) hS (lv_sub hl [1] rfl) hf)
      · replace hf := if_at hf cq14
        refine lv_iconst (v := 0) hx hb dX11_takes_34 (by decide +kernel) ?_
        refine lv_goto (tgt := 39) hx hb dX11_takes_35 (by decide) ?_
        exact (hG _ _ _ _ _).mp (J39 0 v0_newG v0_newL v0_newS o1.2 H locs ls (hP.sub [0, 1, 2, 3, 4, 5, 6, 7, 8, 9, 10, 11] rfl) (hD.sub [0, 1, 2, 3, 4, 5, 6, 7, 8, 9, 10, 11] (by decide) rfl) hS (lv_sub hl [1] rfl) hf)
  · replace hf := if_at hf cq3
    refine lv_iconst (v := 1) hx hb dX11_takes_16 (by decide +kernel) ?_
    have hf1 := Option.some.inj hf
    subst hf1
    have hP9 := hP.sub (ws' := (wX11_takes h0 h1 h2 h3 h4 h5 h6 h7 h8 h9 h10 h11 kc1 kc2 kc3 kc4 kc5 kc6 kc7 kc8 kc9 kc10 kc11 V0 v0_newG v0_newL v0_newS v0_calls c1 c2 c3 o1.2 c5 c6 c7 c8 c9 c10 c11)) [0, 1, 2, 3, 4, 5, 6, 7, 8, 9, 10, 11] rfl
    have hD9 := hD.sub (ws' := (wX11_takes h0 h1 h2 h3 h4 h5 h6 h7 h8 h9 h10 h11 kc1 kc2 kc3 kc4 kc5 kc6 kc7 kc8 kc9 kc10 kc11 V0 v0_newG v0_newL v0_newS v0_calls c1 c2 c3 o1.2 c5 c6 c7 c8 c9 c10 c11)) [0, 1, 2, 3, 4, 5, 6, 7, 8, 9, 10, 11] (by decide) rfl
    exact W.iret (v := 1) hx hb hr (fun t ht hW => ⟨⟨1, (v0_newG, v0_newL, v0_newS, o1.2), rfl, ⟨rfl, rfl⟩, by rw [ht]; exact hP9, va_K.moved hW.alike hK, hD9⟩, hS.F ht⟩) hS.2.2 dX11_takes_17
abbrev wX11_follow (h0 h1 h2 h3 h4 h5 h6 h7 h8 h9 h10 h11 h12 h13 h14 h15 : Nat) (kc1 kc2 kc3 kc4 kc5 kc6 kc7 kc8 kc9 kc10 kc11 kc12 kc13 kc14 kc15 : ClassId) (V0 : Nat → Value) (v0_newG : Int32) (v0_newL : Int32) (v0_newS : Int32) (v0_traceLong : Int32) (v0_calls : Int32) (c1 : Nat → Int32) (c2 : Nat → Int32) (c3 : Nat → Int32) (c4 : Nat → Int32) (c5 : Nat → Int32) (c6 : Nat → Int32) (c7 : Nat → Int32) (c8 : Nat → Int32) (c9 : Nat → Int32) (c10 : Nat → Int32) (c11 : Nat → Int32) (c12 : Nat → Int32) (c13 : Nat → Int32) (c14 : Nat → Int32) (c15 : Nat → Int32) : va_W := [(h0, .inr (11, [V0 0, V0 1, V0 2, V0 3, V0 4, V0 5, V0 6, V0 7, V0 8, V0 9, V0 10, V0 11, V0 12, V0 13, V0 14, V0 15, V0 16, V0 17, V0 18, V0 19, V0 20, V0 21, V0 22, V0 23, V0 24, V0 25, V0 26, V0 27, V0 28, V0 29, V0 30, V0 31, V0 32, V0 33, V0 34, .ref h1, .ref h4, V0 37, V0 38, .ref h10, .ref h15, .ref h3, V0 42, V0 43, .ref h11, .ref h12, .ref h13, V0 47, V0 48, V0 49, V0 50, V0 51, V0 52, V0 53, V0 54, V0 55, V0 56, V0 57, V0 58, .ref h14, .ref h7, .ref h6, .int v0_newG, .int v0_newL, .int v0_newS, .int v0_traceLong, .ref h2, .int v0_calls, .ref h8, .ref h9, .ref h5])), (h1, .inl (kc1, 6, .inl c1)), (h2, .inl (kc2, 10000, .inl c2)), (h3, .inl (kc3, 40, .inl c3)), (h4, .inl (kc4, 40, .inl c4)), (h5, .inl (kc5, 16016, .inl c5)), (h6, .inl (kc6, 1280, .inl c6)), (h7, .inl (kc7, 10240, .inl c7)), (h8, .inl (kc8, 2002, .inl c8)), (h9, .inl (kc9, 2002, .inl c9)), (h10, .inl (kc10, 40, .inl c10)), (h11, .inl (kc11, 40, .inl c11)), (h12, .inl (kc12, 40, .inl c12)), (h13, .inl (kc13, 700, .inl c13)), (h14, .inl (kc14, 700, .inl c14)), (h15, .inl (kc15, 80, .inl c15))]
set_option maxHeartbeats 4000000 in
set_option maxRecDepth 100000 in
theorem mX11_follow (l : Launch) (dC : Nat → ClassId) (dI : Nat → Nat → Nat) (h0 h1 h2 h3 h4 h5 h6 h7 h8 h9 h10 h11 h12 h13 h14 h15 : Nat) (kc1 kc2 kc3 kc4 kc5 kc6 kc7 kc8 kc9 kc10 kc11 kc12 kc13 kc14 kc15 : ClassId) (sz : Nat) (base : Nat × Nat × Nat) (a0 : Int32) (v0_newG : Int32) (v0_newL : Int32) (v0_newS : Int32) (v0_traceLong : Int32) (v0_calls : Int32) (c1 : Nat → Int32) (c2 : Nat → Int32) (c3 : Nat → Int32) (c4 : Nat → Int32) (c5 : Nat → Int32) (c6 : Nat → Int32) (c7 : Nat → Int32) (c8 : Nat → Int32) (c9 : Nat → Int32) (c10 : Nat → Int32) (c11 : Nat → Int32) (c12 : Nat → Int32) (c13 : Nat → Int32) (c14 : Nat → Int32) (c15 : Nat → Int32) (V0 : Nat → Value) (o : Int32 × Int32 × Int32 × Int32 × Int32 × (Nat → Int32) × (Nat → Int32) × (Nat → Int32) × (Nat → Int32) × (Nat → Int32)) (hf : fX11_follow a0 v0_newG v0_newL v0_newS v0_traceLong v0_calls c1 c2 c3 c4 c5 c6 c7 c8 c9 c10 c11 c12 c13 c14 c15 = some o) : Met l yX11_follow (.code yX11_follow cX11_follow 8 none :: wsL_law) ({ frames := 3, cells := 0, slots := 0, locals := 73 }) (cPre (dC, dI) vwCl [.ref h0, .int a0] sz base (wX11_follow h0 h1 h2 h3 h4 h5 h6 h7 h8 h9 h10 h11 h12 h13 h14 h15 kc1 kc2 kc3 kc4 kc5 kc6 kc7 kc8 kc9 kc10 kc11 kc12 kc13 kc14 kc15 V0 v0_newG v0_newL v0_newS v0_traceLong v0_calls c1 c2 c3 c4 c5 c6 c7 c8 c9 c10 c11 c12 c13 c14 c15) [(kc1, .int), (kc2, .int), (kc3, .int), (kc4, .int), (kc5, .int), (kc6, .int), (kc7, .int), (kc8, .int), (kc9, .int), (kc10, .int), (kc11, .int), (kc12, .int), (kc13, .int), (kc14, .int), (kc15, .int)]) (va_Qv (fun u => u = o) (fun (u : Int32 × Int32 × Int32 × Int32 × Int32 × (Nat → Int32) × (Nat → Int32) × (Nat → Int32) × (Nat → Int32) × (Nat → Int32)) t => cPost (dC, dI) vwCl (va_A (wX11_follow h0 h1 h2 h3 h4 h5 h6 h7 h8 h9 h10 h11 h12 h13 h14 h15 kc1 kc2 kc3 kc4 kc5 kc6 kc7 kc8 kc9 kc10 kc11 kc12 kc13 kc14 kc15 V0 v0_newG v0_newL v0_newS v0_traceLong v0_calls c1 c2 c3 c4 c5 c6 c7 c8 c9 c10 c11 c12 c13 c14 c15) sz) (wX11_follow h0 h1 h2 h3 h4 h5 h6 h7 h8 h9 h10 h11 h12 h13 h14 h15 kc1 kc2 kc3 kc4 kc5 kc6 kc7 kc8 kc9 kc10 kc11 kc12 kc13 kc14 kc15 V0 u.1 u.2.1 u.2.2.1 u.2.2.2.1 u.2.2.2.2.1 c1 u.2.2.2.2.2.1 c3 c4 u.2.2.2.2.2.2.1 c6 c7 u.2.2.2.2.2.2.2.1 u.2.2.2.2.2.2.2.2.1 c10 c11 c12 c13 u.2.2.2.2.2.2.2.2.2 c15) [(kc1, .int), (kc2, .int), (kc3, .int), (kc4, .int), (kc5, .int), (kc6, .int), (kc7, .int), (kc8, .int), (kc9, .int), (kc10, .int), (kc11, .int), (kc12, .int), (kc13, .int), (kc14, .int), (kc15, .int)] t) (va_A (wX11_follow h0 h1 h2 h3 h4 h5 h6 h7 h8 h9 h10 h11 h12 h13 h14 h15 kc1 kc2 kc3 kc4 kc5 kc6 kc7 kc8 kc9 kc10 kc11 kc12 kc13 kc14 kc15 V0 v0_newG v0_newL v0_newS v0_traceLong v0_calls c1 c2 c3 c4 c5 c6 c7 c8 c9 c10 c11 c12 c13 c14 c15) sz)) 0 0 (va_A (wX11_follow h0 h1 h2 h3 h4 h5 h6 h7 h8 h9 h10 h11 h12 h13 h14 h15 kc1 kc2 kc3 kc4 kc5 kc6 kc7 kc8 kc9 kc10 kc11 kc12 kc13 kc14 kc15 V0 v0_newG v0_newL v0_newS v0_traceLong v0_calls c1 c2 c3 c4 c5 c6 c7 c8 c9 c10 c11 c12 c13 c14 c15) sz) := by
  refine Met.ofW (cc := cX11_follow) (maxL := 8) (ret := none) (by decide) rfl ?_
  intro p e s m args below meth c s₁ B hml hv
  obtain ⟨rfl, hsz, hP, hK, hD0, hE⟩ := hv
  have hx := B.exec
  have hb := B.bytes
  have hr := B.returns
  have hts : ∀ w ∈ wsL_law, _ := fun w h => atoms_spec (ws := .code yX11_follow cX11_follow 8 none :: wsL_law) B.pre w (List.mem_cons_of_mem _ h)
  have hown : s.vm.findClass RX11 = some m.cls := findClass_of_methodNamed B.named
  have hlocks := B.notSynchronized
  have w0_ := hts _ q1146
  have w1_ := hts _ q123
  have w2_ := hts _ q124
  have w3_ := hts _ q1120
  have w4_ := hts _ q1119
  have w5_ := hts _ q1121
  have w6_ := hts _ q106
  have w7_ := hts _ q100
  have w8_ := hts _ q104
  have w9_ := hts _ q125
  have w10_ := hts _ q122
  have w11_ := hts _ q101
  have w12_ := hts _ q1107
  subst hsz
  have hD := hD0.self (sz := s.heap.size)
  generalize hAe : va_A (wX11_follow h0 h1 h2 h3 h4 h5 h6 h7 h8 h9 h10 h11 h12 h13 h14 h15 kc1 kc2 kc3 kc4 kc5 kc6 kc7 kc8 kc9 kc10 kc11 kc12 kc13 kc14 kc15 V0 v0_newG v0_newL v0_newS v0_traceLong v0_calls c1 c2 c3 c4 c5 c6 c7 c8 c9 c10 c11 c12 c13 c14 c15) s.heap.size = A at hD ⊢
  have hA : ∀ q : Nat, s.heap.size ≤ q → A q := fun q h => by rw [← hAe]; exact Or.inr h
  have hAB : ∀ q : Nat, A q → base.1 ≤ q := fun q h => by rw [← hAe] at h; exact h.elim (fun ⟨k, e, hk⟩ => hD0.2 k _ hk) (fun hk => Nat.le_trans hE.1 hk)
  have hS : va_S A s.heap s.heap [] := va_S.rf
  have hl := lv_entry ([.ref h0, .int a0]) (n := 8) (Nat.le_of_ble_eq_true rfl)
  rw [lg_entry_eq]
  generalize (lg_sl ([.ref h0, .int a0]) ++ List.replicate (8 - (lg_sl ([.ref h0, .int a0])).length) Slot.unset).toArray = ls at hl ⊢
  have hl : lv_has ls 8 [(0, .ref h0), (1, .int a0)] := hl
  have hP : va_P (dC, dI) vwCl (wX11_follow h0 h1 h2 h3 h4 h5 h6 h7 h8 h9 h10 h11 h12 h13 h14 h15 kc1 kc2 kc3 kc4 kc5 kc6 kc7 kc8 kc9 kc10 kc11 kc12 kc13 kc14 kc15 V0 v0_newG v0_newL v0_newS v0_traceLong v0_calls c1 c2 c3 c4 c5 c6 c7 c8 c9 c10 c11 c12 c13 c14 c15) s.heap := hP
  refine gl_intro (fun G hG => ?_)
  have J360 : ∀ (k25 : Int32 → Int32 → Int32 → Int32 → Int32 → Int32 → Int32 → Int32 → Int32 → Int32 → (Nat → Int32) → (Nat → Int32) → (Nat → Int32) → (Nat → Int32) → (Nat → Int32) → Option (Int32 × Int32 × Int32 × Int32 × Int32 × (Nat → Int32) × (Nat → Int32) × (Nat → Int32) × (Nat → Int32) × (Nat → Int32))) (hk25 : ∀ (y1 : Int32) (y2 : Int32) (y3 : Int32) (y4 : Int32) (y5 : Int32) (v0_newG : Int32) (v0_newL : Int32) (v0_newS : Int32) (v0_traceLong : Int32) (v0_calls : Int32) (c2 : (Nat → Int32)) (c5 : (Nat → Int32)) (c8 : (Nat → Int32)) (c9 : (Nat → Int32)) (c14 : (Nat → Int32)) (H : Heap) (locs : List Loc) (ls : Array Slot), va_P (dC, dI) vwCl (wX11_follow h0 h1 h2 h3 h4 h5 h6 h7 h8 h9 h10 h11 h12 h13 h14 h15 kc1 kc2 kc3 kc4 kc5 kc6 kc7 kc8 kc9 kc10 kc11 kc12 kc13 kc14 kc15 V0 v0_newG v0_newL v0_newS v0_traceLong v0_calls c1 c2 c3 c4 c5 c6 c7 c8 c9 c10 c11 c12 c13 c14 c15) H → va_D A (wX11_follow h0 h1 h2 h3 h4 h5 h6 h7 h8 h9 h10 h11 h12 h13 h14 h15 kc1 kc2 kc3 kc4 kc5 kc6 kc7 kc8 kc9 kc10 kc11 kc12 kc13 kc14 kc15 V0 v0_newG v0_newL v0_newS v0_traceLong v0_calls c1 c2 c3 c4 c5 c6 c7 c8 c9 c10 c11 c12 c13 c14 c15) → va_S A s.heap H locs → lv_has ls 8 [(0, .ref h0), (1, .int y1), (2, .int y2), (3, .int y3), (4, .int y4), (5, .int y5)] → k25 y1 y2 y3 y4 y5 v0_newG v0_newL v0_newS v0_traceLong v0_calls c2 c5 c8 c9 c14 = some o → G 0 0 H locs (F0 m 25 ls [])), ∀ (y1 : Int32) (y2 : Int32) (y3 : Int32) (y4 : Int32) (y5 : Int32) (v0_newG : Int32) (v0_newL : Int32) (v0_newS : Int32) (v0_traceLong : Int32) (v0_calls : Int32) (c2 : (Nat → Int32)) (c5 : (Nat → Int32)) (c8 : (Nat → Int32)) (c9 : (Nat → Int32)) (c14 : (Nat → Int32)) (H : Heap) (locs : List Loc) (ls : Array Slot), va_P (dC, dI) vwCl (wX11_follow h0 h1 h2 h3 h4 h5 h6 h7 h8 h9 h10 h11 h12 h13 h14 h15 kc1 kc2 kc3 kc4 kc5 kc6 kc7 kc8 kc9 kc10 kc11 kc12 kc13 kc14 kc15 V0 v0_newG v0_newL v0_newS v0_traceLong v0_calls c1 c2 c3 c4 c5 c6 c7 c8 c9 c10 c11 c12 c13 c14 c15) H → va_D A (wX11_follow h0 h1 h2 h3 h4 h5 h6 h7 h8 h9 h10 h11 h12 h13 h14 h15 kc1 kc2 kc3 kc4 kc5 kc6 kc7 kc8 kc9 kc10 kc11 kc12 kc13 kc14 kc15 V0 v0_newG v0_newL v0_newS v0_traceLong v0_calls c1 c2 c3 c4 c5 c6 c7 c8 c9 c10 c11 c12 c13 c14 c15) → va_S A s.heap H locs → lv_has ls 8 [(0, .ref h0), (1, .int y1), (2, .int y2), (3, .int y3), (4, .int y4), (5, .int y5)] → fX11_follow_p360 c1 c3 c4 c6 c7 c10 c11 c12 c13 c15 k25 y1 y2 y3 y4 y5 v0_newG v0_newL v0_newS v0_traceLong v0_calls c2 c5 c8 c9 c14 = some o → G 0 0 H locs (F0 m 360 ls []) := by
    intro k25 hk25 y1 y2 y3 y4 y5 v0_newG v0_newL v0_newS v0_traceLong v0_calls c2 c5 c8 c9 c14 H locs ls hP hD hS hl hf
    refine (hG _ _ _ _ _).mpr ?_
    unfold fX11_follow_p360 at hf
    obtain ⟨x1, e1⟩ : ∃ y : Int32, y = y5 + 1 := ⟨_, rfl⟩
    replace hf := nm_at hf e1
    refine lv_iinc (v := x1) (lv' := [(5, .int x1), (0, .ref h0), (1, .int y1), (2, .int y2), (3, .int y3), (4, .int y4)]) hx hb dX11_follow_360 hl (k := 5) rfl (by rw [e1]; rfl) (by decide) rfl (fun ls hl => ?_)
    refine lv_goto (tgt := 25) hx hb dX11_follow_363 (by decide) ?_
    exact (hG _ _ _ _ _).mp (hk25 y1 y2 y3 y4 x1 v0_newG v0_newL v0_newS v0_traceLong v0_calls c2 c5 c8 c9 c14 H locs ls (hP.sub [0, 1, 2, 3, 4, 5, 6, 7, 8, 9, 10, 11, 12, 13, 14, 15] rfl) (hD.sub [0, 1, 2, 3, 4, 5, 6, 7, 8, 9, 10, 11, 12, 13, 14, 15] (by decide) rfl) hS (lv_sub hl [1, 2, 3, 4, 5, 0] rfl) hf)
  have B314 : ∀ (k25 : Int32 → Int32 → Int32 → Int32 → Int32 → Int32 → Int32 → Int32 → Int32 → Int32 → (Nat → Int32) → (Nat → Int32) → (Nat → Int32) → (Nat → Int32) → (Nat → Int32) → Option (Int32 × Int32 × Int32 × Int32 × Int32 × (Nat → Int32) × (Nat → Int32) × (Nat → Int32) × (Nat → Int32) × (Nat → Int32))) (hk25 : ∀ (y1 : Int32) (y2 : Int32) (y3 : Int32) (y4 : Int32) (y5 : Int32) (v0_newG : Int32) (v0_newL : Int32) (v0_newS : Int32) (v0_traceLong : Int32) (v0_calls : Int32) (c2 : (Nat → Int32)) (c5 : (Nat → Int32)) (c8 : (Nat → Int32)) (c9 : (Nat → Int32)) (c14 : (Nat → Int32)) (H : Heap) (locs : List Loc) (ls : Array Slot), va_P (dC, dI) vwCl (wX11_follow h0 h1 h2 h3 h4 h5 h6 h7 h8 h9 h10 h11 h12 h13 h14 h15 kc1 kc2 kc3 kc4 kc5 kc6 kc7 kc8 kc9 kc10 kc11 kc12 kc13 kc14 kc15 V0 v0_newG v0_newL v0_newS v0_traceLong v0_calls c1 c2 c3 c4 c5 c6 c7 c8 c9 c10 c11 c12 c13 c14 c15) H → va_D A (wX11_follow h0 h1 h2 h3 h4 h5 h6 h7 h8 h9 h10 h11 h12 h13 h14 h15 kc1 kc2 kc3 kc4 kc5 kc6 kc7 kc8 kc9 kc10 kc11 kc12 kc13 kc14 kc15 V0 v0_newG v0_newL v0_newS v0_traceLong v0_calls c1 c2 c3 c4 c5 c6 c7 c8 c9 c10 c11 c12 c13 c14 c15) → va_S A s.heap H locs → lv_has ls 8 [(0, .ref h0), (1, .int y1), (2, .int y2), (3, .int y3), (4, .int y4), (5, .int y5)] → k25 y1 y2 y3 y4 y5 v0_newG v0_newL v0_newS v0_traceLong v0_calls c2 c5 c8 c9 c14 = some o → G 0 0 H locs (F0 m 25 ls [])) (k314 : Int32 → Int32 → Int32 → Int32 → Int32 → Int32 → Int32 → Int32 → Int32 → Int32 → (Nat → Int32) → (Nat → Int32) → (Nat → Int32) → (Nat → Int32) → (Nat → Int32) → Option (Int32 × Int32 × Int32 × Int32 × Int32 × (Nat → Int32) × (Nat → Int32) × (Nat → Int32) × (Nat → Int32) × (Nat → Int32))) (hk314 : ∀ (y1 : Int32) (y2 : Int32) (y3 : Int32) (y4 : Int32) (y5 : Int32) (v0_newG : Int32) (v0_newL : Int32) (v0_newS : Int32) (v0_traceLong : Int32) (v0_calls : Int32) (c2 : (Nat → Int32)) (c5 : (Nat → Int32)) (c8 : (Nat → Int32)) (c9 : (Nat → Int32)) (c14 : (Nat → Int32)) (H : Heap) (locs : List Loc) (ls : Array Slot), va_P (dC, dI) vwCl (wX11_follow h0 h1 h2 h3 h4 h5 h6 h7 h8 h9 h10 h11 h12 h13 h14 h15 kc1 kc2 kc3 kc4 kc5 kc6 kc7 kc8 kc9 kc10 kc11 kc12 kc13 kc14 kc15 V0 v0_newG v0_newL v0_newS v0_traceLong v0_calls c1 c2 c3 c4 c5 c6 c7 c8 c9 c10 c11 c12 c13 c14 c15) H → va_D A (wX11_follow h0 h1 h2 h3 h4 h5 h6 h7 h8 h9 h10 h11 h12 h13 h14 h15 kc1 kc2 kc3 kc4 kc5 kc6 kc7 kc8 kc9 kc10 kc11 kc12 kc13 kc14 kc15 V0 v0_newG v0_newL v0_newS v0_traceLong v0_calls c1 c2 c3 c4 c5 c6 c7 c8 c9 c10 c11 c12 c13 c14 c15) → va_S A s.heap H locs → lv_has ls 8 [(0, .ref h0), (1, .int y1), (2, .int y2), (3, .int y3), (4, .int y4), (5, .int y5)] → k314 y1 y2 y3 y4 y5 v0_newG v0_newL v0_newS v0_traceLong v0_calls c2 c5 c8 c9 c14 = some o → G 0 0 H locs (F0 m 314 ls [])), ∀ (y1 : Int32) (y2 : Int32) (y3 : Int32) (y4 : Int32) (y5 : Int32) (v0_newG : Int32) (v0_newL : Int32) (v0_newS : Int32) (v0_traceLong : Int32) (v0_calls : Int32) (c2 : (Nat → Int32)) (c5 : (Nat → Int32)) (c8 : (Nat → Int32)) (c9 : (Nat → Int32)) (c14 : (Nat → Int32)) (H : Heap) (locs : List Loc) (ls : Array Slot), va_P (dC, dI) vwCl (wX11_follow h0 h1 h2 h3 h4 h5 h6 h7 h8 h9 h10 h11 h12 h13 h14 h15 kc1 kc2 kc3 kc4 kc5 kc6 kc7 kc8 kc9 kc10 kc11 kc12 kc13 kc14 kc15 V0 v0_newG v0_newL v0_newS v0_traceLong v0_calls c1 c2 c3 c4 c5 c6 c7 c8 c9 c10 c11 c12 c13 c14 c15) H → va_D A (wX11_follow h0 h1 h2 h3 h4 h5 h6 h7 h8 h9 h10 h11 h12 h13 h14 h15 kc1 kc2 kc3 kc4 kc5 kc6 kc7 kc8 kc9 kc10 kc11 kc12 kc13 kc14 kc15 V0 v0_newG v0_newL v0_newS v0_traceLong v0_calls c1 c2 c3 c4 c5 c6 c7 c8 c9 c10 c11 c12 c13 c14 c15) → va_S A s.heap H locs → lv_has ls 8 [(0, .ref h0), (1, .int y1), (2, .int y2), (3, .int y3), (4, .int y4), (5, .int y5)] → fX11_follow_b314 c1 c3 c4 c6 c7 c10 c11 c12 c13 c15 k25 k314 y1 y2 y3 y4 y5 v0_newG v0_newL v0_newS v0_traceLong v0_calls c2 c5 c8 c9 c14 = some o → G 0 0 H locs (F0 m 314 ls []) := by
    intro k25 hk25 k314 hk314 y1 y2 y3 y4 y5 v0_newG v0_newL v0_newS v0_traceLong v0_calls c2 c5 c8 c9 c14 H locs ls hP hD hS hl hf
    refine (hG _ _ _ _ _).mpr ?_
    unfold fX11_follow_b314 at hf
    refine lv_iload_n hx hb dX11_follow_314 rfl (lv_at hl 2 rfl) ?_
    refine lv_iconst (v := (-1)) hx hb dX11_follow_315 (by decide +kernel) ?_
    refine lv_icmp_ne (tgt := 360) hx hb dX11_follow_316 (by decide) (fun cq2 => ?_) (fun cq2 => ?_)
    · replace hf := if_no hf cq2
      exact (hG _ _ _ _ _).mp (J360 k25 hk25 y1 y2 y3 y4 y5 v0_newG v0_newL v0_newS v0_traceLong v0_calls c2 c5 c8 c9 c14 H locs ls (hP.sub [0, 1, 2, 3, 4, 5, 6, 7, 8, 9, 10, 11, 12, 13, 14, 15] rfl) (hD.sub [0, 1, 2, 3, 4, 5, 6, 7, 8, 9, 10, 11, 12, 13, 14, 15] (by decide) rfl) hS (lv_sub hl [0, 1, 2, 3, 4, 5] rfl) hf)
    · replace hf := if_at hf cq2
      refine lv_aload_n hx hb dX11_follow_319 rfl (lv_at hl 0 rfl) ?_
      refine va_get (D := (dC, dI)) (ci := 11) (v := .int v0_calls) (C := RX11) (T := TX11) (N := 71) hx hb hts inlX11 hown hK hP 0 rfl rfl 67 (by decide) w0_ (fun _ h9 => h9) rfl dX11_follow_320 ?_
      refine lv_if_le (tgt := 360) hx hb dX11_follow_323 (by decide) (fun cq3 => ?_) (fun cq3 => ?_)
      · replace hf := if_at hf cq3
        exact (hG _ _ _ _ _).mp (J360 k25 hk25 y1 y2 y3 y4 y5 v0_newG v0_newL v0_newS v0_traceLong v0_calls c2 c5 c8 c9 c14 H locs ls (hP.sub [0, 1, 2, 3, 4, 5, 6, 7, 8, 9, 10, 11, 12, 13, 14, 15] rfl) (hD.sub [0, 1, 2, 3, 4, 5, 6, 7, 8, 9, 10, 11, 12, 13, 14, 15] (by decide) rfl) hS (lv_sub hl [0, 1, 2, 3, 4, 5] rfl) hf)
      · replace hf := if_no hf cq3
        refine lv_aload_n hx hb dX11_follow_326 rfl (lv_at hl 0 rfl) ?_
        refine lv_dup hx hb dX11_follow_327 rfl ?_
        refine va_get (D := (dC, dI)) (ci := 11) (v := .int v0_calls) (C := RX11) (T := TX11) (N := 71) hx hb hts inlX11 hown hK hP 0 rfl rfl 67 (by decide) w0_ (fun _ h9 => h9) rfl dX11_follow_328 ?_
        refine lv_iconst (v := 1) hx hb dX11_follow_331 (by decide +kernel) ?_
        refine lv_isub hx hb dX11_follow_332 ?_
        refine lv_topi (fun x4 e4 => ?_)
        replace hf := nm_at hf e4
        refine va_put (D := (dC, dI)) (ci := 11) (v := .int x4) (ty := .int) (C := RX11) (T := TX11) (N := 71) hx hb hts inlX11 tyX11 tyX11_ok nmX11 hown hK hP hD hS 0 rfl rfl 67 (by decide) w0_ (fun _ h9 => h9) rfl (by decide +kernel) rfl rfl (Nat.le_of_ble_eq_true rfl) dX11_follow_333 (fun H locs hP hD hS => ?_)
        have hP : va_P (dC, dI) vwCl (wX11_follow h0 h1 h2 h3 h4 h5 h6 h7 h8 h9 h10 h11 h12 h13 h14 h15 kc1 kc2 kc3 kc4 kc5 kc6 kc7 kc8 kc9 kc10 kc11 kc12 kc13 kc14 kc15 V0 v0_newG v0_newL v0_newS v0_traceLong x4 c1 c2 c3 c4 c5 c6 c7 c8 c9 c10 c11 c12 c13 c14 c15) H := hP
        have hD : va_D A (wX11_follow h0 h1 h2 h3 h4 h5 h6 h7 h8 h9 h10 h11 h12 h13 h14 h15 kc1 kc2 kc3 kc4 kc5 kc6 kc7 kc8 kc9 kc10 kc11 kc12 kc13 kc14 kc15 V0 v0_newG v0_newL v0_newS v0_traceLong x4 c1 c2 c3 c4 c5 c6 c7 c8 c9 c10 c11 c12 c13 c14 c15) := hD
        refine lv_aload_n hx hb dX11_follow_336 rfl (lv_at hl 0 rfl) ?_
        refine va_get (D := (dC, dI)) (ci := 11) (v := .ref h8) (C := RX11) (T := TX11) (N := 71) hx hb hts inlX11 hown hK hP 0 rfl rfl 68 (by decide) w1_ (fun _ h9 => h9) rfl dX11_follow_337 ?_
        refine lv_aload_n hx hb dX11_follow_340 rfl (lv_at hl 0 rfl) ?_
        refine va_get (D := (dC, dI)) (ci := 11) (v := .int x4) (C := RX11) (T := TX11) (N := 71) hx hb hts inlX11 hown hK hP 0 rfl rfl 67 (by decide) w0_ (fun _ h9 => h9) rfl dX11_follow_341 ?_
        have b5 := bd_in hf
        replace hf := bd_k hf
        refine va_iald hx hb hK hP 8 7 rfl rfl b5 dX11_follow_344 ?_
        refine lv_topi (fun x6 e6 => ?_)
        replace hf := nm_at hf e6
        refine lv_istore_n (lv' := [(2, .int x6), (0, .ref h0), (1, .int y1), (3, .int y3), (4, .int y4), (5, .int y5)]) hx hb dX11_follow_345 rfl hl (by decide) rfl (fun ls hl => ?_)
        refine lv_aload_n hx hb dX11_follow_346 rfl (lv_at hl 1 rfl) ?_
        refine va_get (D := (dC, dI)) (ci := 11) (v := .ref h9) (C := RX11) (T := TX11) (N := 71) hx hb hts inlX11 hown hK hP 0 rfl rfl 69 (by decide) w2_ (fun _ h9 => h9) rfl dX11_follow_347 ?_
        refine lv_aload_n hx hb dX11_follow_350 rfl (lv_at hl 1 rfl) ?_
        refine va_get (D := (dC, dI)) (ci := 11) (v := .int x4) (C := RX11) (T := TX11) (N := 71) hx hb hts inlX11 hown hK hP 0 rfl rfl 67 (by decide) w0_ (fun _ h9 => h9) rfl dX11_follow_351 ?_
        have b7 := bd_in hf
        replace hf := bd_k hf
        refine va_iald hx hb hK hP 9 8 rfl rfl b7 dX11_follow_354 ?_
        refine lv_topi (fun x8 e8 => ?_)
        replace hf := nm_at hf e8
        refine lv_istore (lv' := [(4, .int x8), (2, .int x6), (0, .ref h0), (1, .int y1), (3, .int y3), (5, .int y5)]) hx hb dX11_follow_355 hl (by decide) rfl (fun ls hl => ?_)
        refine lv_goto (tgt := 314) hx hb dX11_follow_357 (by decide) ?_
        exact (hG _ _ _ _ _).mp (hk314 y1 x6 y3 x8 y5 v0_newG v0_newL v0_newS v0_traceLong x4 c2 c5 c8 c9 c14 H locs ls (hP.sub [0, 1, 2, 3, 4, 5, 6, 7, 8, 9, 10, 11, 12, 13, 14, 15] rfl) (hD.sub [0, 1, 2, 3, 4, 5, 6, 7, 8, 9, 10, 11, 12, 13, 14, 15] (by decide) rfl) hS (lv_sub hl [2, 3, 1, 4, 0, 5] rfl) hf)
  have L314 : ∀ (k25 : Int32 → Int32 → Int32 → Int32 → Int32 → Int32 → Int32 → Int32 → Int32 → Int32 → (Nat → Int32) → (Nat → Int32) → (Nat → Int32) → (Nat → Int32) → (Nat → Int32) → Option (Int32 × Int32 × Int32 × Int32 × Int32 × (Nat → Int32) × (Nat → Int32) × (Nat → Int32) × (Nat → Int32) × (Nat → Int32))) (hk25 : ∀ (y1 : Int32) (y2 : Int32) (y3 : Int32) (y4 : Int32) (y5 : Int32) (v0_newG : Int32) (v0_newL : Int32) (v0_newS : Int32) (v0_traceLong : Int32) (v0_calls : Int32) (c2 : (Nat → Int32)) (c5 : (Nat → Int32)) (c8 : (Nat → Int32)) (c9 : (Nat → Int32)) (c14 : (Nat → Int32)) (H : Heap) (locs : List Loc) (ls : Array Slot), va_P (dC, dI) vwCl (wX11_follow h0 h1 h2 h3 h4 h5 h6 h7 h8 h9 h10 h11 h12 h13 h14 h15 kc1 kc2 kc3 kc4 kc5 kc6 kc7 kc8 kc9 kc10 kc11 kc12 kc13 kc14 kc15 V0 v0_newG v0_newL v0_newS v0_traceLong v0_calls c1 c2 c3 c4 c5 c6 c7 c8 c9 c10 c11 c12 c13 c14 c15) H → va_D A (wX11_follow h0 h1 h2 h3 h4 h5 h6 h7 h8 h9 h10 h11 h12 h13 h14 h15 kc1 kc2 kc3 kc4 kc5 kc6 kc7 kc8 kc9 kc10 kc11 kc12 kc13 kc14 kc15 V0 v0_newG v0_newL v0_newS v0_traceLong v0_calls c1 c2 c3 c4 c5 c6 c7 c8 c9 c10 c11 c12 c13 c14 c15) → va_S A s.heap H locs → lv_has ls 8 [(0, .ref h0), (1, .int y1), (2, .int y2), (3, .int y3), (4, .int y4), (5, .int y5)] → k25 y1 y2 y3 y4 y5 v0_newG v0_newL v0_newS v0_traceLong v0_calls c2 c5 c8 c9 c14 = some o → G 0 0 H locs (F0 m 25 ls [])) (n : Nat), ∀ (y1 : Int32) (y2 : Int32) (y3 : Int32) (y4 : Int32) (y5 : Int32) (v0_newG : Int32) (v0_newL : Int32) (v0_newS : Int32) (v0_traceLong : Int32) (v0_calls : Int32) (c2 : (Nat → Int32)) (c5 : (Nat → Int32)) (c8 : (Nat → Int32)) (c9 : (Nat → Int32)) (c14 : (Nat → Int32)) (H : Heap) (locs : List Loc) (ls : Array Slot), va_P (dC, dI) vwCl (wX11_follow h0 h1 h2 h3 h4 h5 h6 h7 h8 h9 h10 h11 h12 h13 h14 h15 kc1 kc2 kc3 kc4 kc5 kc6 kc7 kc8 kc9 kc10 kc11 kc12 kc13 kc14 kc15 V0 v0_newG v0_newL v0_newS v0_traceLong v0_calls c1 c2 c3 c4 c5 c6 c7 c8 c9 c10 c11 c12 c13 c14 c15) H → va_D A (wX11_follow h0 h1 h2 h3 h4 h5 h6 h7 h8 h9 h10 h11 h12 h13 h14 h15 kc1 kc2 kc3 kc4 kc5 kc6 kc7 kc8 kc9 kc10 kc11 kc12 kc13 kc14 kc15 V0 v0_newG v0_newL v0_newS v0_traceLong v0_calls c1 c2 c3 c4 c5 c6 c7 c8 c9 c10 c11 c12 c13 c14 c15) → va_S A s.heap H locs → lv_has ls 8 [(0, .ref h0), (1, .int y1), (2, .int y2), (3, .int y3), (4, .int y4), (5, .int y5)] → fX11_follow_l314 c1 c3 c4 c6 c7 c10 c11 c12 c13 c15 k25 n y1 y2 y3 y4 y5 v0_newG v0_newL v0_newS v0_traceLong v0_calls c2 c5 c8 c9 c14 = some o → G 0 0 H locs (F0 m 314 ls []) := by
    intro k25 hk25 n
    induction n with
    | zero => intro y1 y2 y3 y4 y5 v0_newG v0_newL v0_newS v0_traceLong v0_calls c2 c5 c8 c9 c14 H locs ls _ _ _ _ hf; cases hf
    | succ n ih => exact B314 k25 hk25 _ ih
  have J298 : ∀ (k25 : Int32 → Int32 → Int32 → Int32 → Int32 → Int32 → Int32 → Int32 → Int32 → Int32 → (Nat → Int32) → (Nat → Int32) → (Nat → Int32) → (Nat → Int32) → (Nat → Int32) → Option (Int32 × Int32 × Int32 × Int32 × Int32 × (Nat → Int32) × (Nat → Int32) × (Nat → Int32) × (Nat → Int32) × (Nat → Int32))) (hk25 : ∀ (y1 : Int32) (y2 : Int32) (y3 : Int32) (y4 : Int32) (y5 : Int32) (v0_newG : Int32) (v0_newL : Int32) (v0_newS : Int32) (v0_traceLong : Int32) (v0_calls : Int32) (c2 : (Nat → Int32)) (c5 : (Nat → Int32)) (c8 : (Nat → Int32)) (c9 : (Nat → Int32)) (c14 : (Nat → Int32)) (H : Heap) (locs : List Loc) (ls : Array Slot), va_P (dC, dI) vwCl (wX11_follow h0 h1 h2 h3 h4 h5 h6 h7 h8 h9 h10 h11 h12 h13 h14 h15 kc1 kc2 kc3 kc4 kc5 kc6 kc7 kc8 kc9 kc10 kc11 kc12 kc13 kc14 kc15 V0 v0_newG v0_newL v0_newS v0_traceLong v0_calls c1 c2 c3 c4 c5 c6 c7 c8 c9 c10 c11 c12 c13 c14 c15) H → va_D A (wX11_follow h0 h1 h2 h3 h4 h5 h6 h7 h8 h9 h10 h11 h12 h13 h14 h15 kc1 kc2 kc3 kc4 kc5 kc6 kc7 kc8 kc9 kc10 kc11 kc12 kc13 kc14 kc15 V0 v0_newG v0_newL v0_newS v0_traceLong v0_calls c1 c2 c3 c4 c5 c6 c7 c8 c9 c10 c11 c12 c13 c14 c15) → va_S A s.heap H locs → lv_has ls 8 [(0, .ref h0), (1, .int y1), (2, .int y2), (3, .int y3), (4, .int y4), (5, .int y5)] → k25 y1 y2 y3 y4 y5 v0_newG v0_newL v0_newS v0_traceLong v0_calls c2 c5 c8 c9 c14 = some o → G 0 0 H locs (F0 m 25 ls [])), ∀ (y1 : Int32) (y5 : Int32) (v0_newG : Int32) (v0_newL : Int32) (v0_newS : Int32) (v0_traceLong : Int32) (v0_calls : Int32) (c2 : (Nat → Int32)) (c5 : (Nat → Int32)) (c8 : (Nat → Int32)) (c9 : (Nat → Int32)) (c14 : (Nat → Int32)) (H : Heap) (locs : List Loc) (ls : Array Slot), va_P (dC, dI) vwCl (wX11_follow h0 h1 h2 h3 h4 h5 h6 h7 h8 h9 h10 h11 h12 h13 h14 h15 kc1 kc2 kc3 kc4 kc5 kc6 kc7 kc8 kc9 kc10 kc11 kc12 kc13 kc14 kc15 V0 v0_newG v0_newL v0_newS v0_traceLong v0_calls c1 c2 c3 c4 c5 c6 c7 c8 c9 c10 c11 c12 c13 c14 c15) H → va_D A (wX11_follow h0 h1 h2 h3 h4 h5 h6 h7 h8 h9 h10 h11 h12 h13 h14 h15 kc1 kc2 kc3 kc4 kc5 kc6 kc7 kc8 kc9 kc10 kc11 kc12 kc13 kc14 kc15 V0 v0_newG v0_newL v0_newS v0_traceLong v0_calls c1 c2 c3 c4 c5 c6 c7 c8 c9 c10 c11 c12 c13 c14 c15) → va_S A s.heap H locs → lv_has ls 8 [(0, .ref h0), (1, .int y1), (5, .int y5)] → fX11_follow_p298 c1 c3 c4 c6 c7 c10 c11 c12 c13 c15 k25 y1 y5 v0_newG v0_newL v0_newS v0_traceLong v0_calls c2 c5 c8 c9 c14 = some o → G 0 0 H locs (F0 m 298 ls []) := by
    intro k25 hk25 y1 y5 v0_newG v0_newL v0_newS v0_traceLong v0_calls c2 c5 c8 c9 c14 H locs ls hP hD hS hl hf
    refine (hG _ _ _ _ _).mpr ?_
    unfold fX11_follow_p298 at hf
    refine lv_aload_n hx hb dX11_follow_298 rfl (lv_at hl 0 rfl) ?_
    refine va_get (D := (dC, dI)) (ci := 11) (v := .int v0_newS) (C := RX11) (T := TX11) (N := 71) hx hb hts inlX11 hown hK hP 0 rfl rfl 64 (by decide) w3_ (fun _ h9 => h9) rfl dX11_follow_299 ?_
    refine lv_istore_n (lv' := [(2, .int v0_newS), (0, .ref h0), (1, .int y1), (5, .int y5)]) hx hb dX11_follow_302 rfl hl (by decide) rfl (fun ls hl => ?_)
    refine lv_aload_n hx hb dX11_follow_303 rfl (lv_at hl 1 rfl) ?_
    refine va_get (D := (dC, dI)) (ci := 11) (v := .int v0_newG) (C := RX11) (T := TX11) (N := 71) hx hb hts inlX11 hown hK hP 0 rfl rfl 62 (by decide) w4_ (fun _ h9 => h9) rfl dX11_follow_304 ?_
    refine lv_istore_n (lv' := [(3, .int v0_newG), (2, .int v0_newS), (0, .ref h0), (1, .int y1), (5, .int y5)]) hx hb dX11_follow_307 rfl hl (by decide) rfl (fun ls hl => ?_)
    refine lv_aload_n hx hb dX11_follow_308 rfl (lv_at hl 2 rfl) ?_
    refine va_get (D := (dC, dI)) (ci := 11) (v := .int v0_newL) (C := RX11) (T := TX11) (N := 71) hx hb hts inlX11 hown hK hP 0 rfl rfl 63 (by decide) w5_ (fun _ h9 => h9) rfl dX11_follow_309 ?_
    refine lv_istore (lv' := [(4, .int v0_newL), (3, .int v0_newG), (2, .int v0_newS), (0, .ref h0), (1, .int y1), (5, .int y5)]) hx hb dX11_follow_312 hl (by decide) rfl (fun ls hl => ?_)
    exact (hG _ _ _ _ _).mp (L314 k25 hk25 FU y1 v0_newS v0_newG v0_newL y5 v0_newG v0_newL v0_newS v0_traceLong v0_calls c2 c5 c8 c9 c14 H locs ls (hP.sub [0, 1, 2, 3, 4, 5, 6, 7, 8, 9, 10, 11, 12, 13, 14, 15] rfl) (hD.sub [0, 1, 2, 3, 4, 5, 6, 7, 8, 9, 10, 11, 12, 13, 14, 15] (by decide) rfl) hS (lv_sub hl [3, 4, 2, 1, 0, 5] rfl) hf)
  have B135 : ∀ (k25 : Int32 → Int32 → Int32 → Int32 → Int32 → Int32 → Int32 → Int32 → Int32 → Int32 → (Nat → Int32) → (Nat → Int32) → (Nat → Int32) → (Nat → Int32) → (Nat → Int32) → Option (Int32 × Int32 × Int32 × Int32 × Int32 × (Nat → Int32) × (Nat → Int32) × (Nat → Int32) × (Nat → Int32) × (Nat → Int32))) (hk25 : ∀ (y1 : Int32) (y2 : Int32) (y3 : Int32) (y4 : Int32) (y5 : Int32) (v0_newG : Int32) (v0_newL : Int32) (v0_newS : Int32) (v0_traceLong : Int32) (v0_calls : Int32) (c2 : (Nat → Int32)) (c5 : (Nat → Int32)) (c8 : (Nat → Int32)) (c9 : (Nat → Int32)) (c14 : (Nat → Int32)) (H : Heap) (locs : List Loc) (ls : Array Slot), va_P (dC, dI) vwCl (wX11_follow h0 h1 h2 h3 h4 h5 h6 h7 h8 h9 h10 h11 h12 h13 h14 h15 kc1 kc2 kc3 kc4 kc5 kc6 kc7 kc8 kc9 kc10 kc11 kc12 kc13 kc14 kc15 V0 v0_newG v0_newL v0_newS v0_traceLong v0_calls c1 c2 c3 c4 c5 c6 c7 c8 c9 c10 c11 c12 c13 c14 c15) H → va_D A (wX11_follow h0 h1 h2 h3 h4 h5 h6 h7 h8 h9 h10 h11 h12 h13 h14 h15 kc1 kc2 kc3 kc4 kc5 kc6 kc7 kc8 kc9 kc10 kc11 kc12 kc13 kc14 kc15 V0 v0_newG v0_newL v0_newS v0_traceLong v0_calls c1 c2 c3 c4 c5 c6 c7 c8 c9 c10 c11 c12 c13 c14 c15) → va_S A s.heap H locs → lv_has ls 8 [(0, .ref h0), (1, .int y1), (2, .int y2), (3, .int y3), (4, .int y4), (5, .int y5)] → k25 y1 y2 y3 y4 y5 v0_newG v0_newL v0_newS v0_traceLong v0_calls c2 c5 c8 c9 c14 = some o → G 0 0 H locs (F0 m 25 ls [])) (k135 : Int32 → Int32 → Int32 → Int32 → Int32 → Int32 → Int32 → Int32 → Int32 → Int32 → (Nat → Int32) → (Nat → Int32) → (Nat → Int32) → (Nat → Int32) → (Nat → Int32) → Option (Int32 × Int32 × Int32 × Int32 × Int32 × (Nat → Int32) × (Nat → Int32) × (Nat → Int32) × (Nat → Int32) × (Nat → Int32))) (hk135 : ∀ (y1 : Int32) (y2 : Int32) (y4 : Int32) (y5 : Int32) (y7 : Int32) (v0_newG : Int32) (v0_newL : Int32) (v0_newS : Int32) (v0_traceLong : Int32) (v0_calls : Int32) (c2 : (Nat → Int32)) (c5 : (Nat → Int32)) (c8 : (Nat → Int32)) (c9 : (Nat → Int32)) (c14 : (Nat → Int32)) (H : Heap) (locs : List Loc) (ls : Array Slot), va_P (dC, dI) vwCl (wX11_follow h0 h1 h2 h3 h4 h5 h6 h7 h8 h9 h10 h11 h12 h13 h14 h15 kc1 kc2 kc3 kc4 kc5 kc6 kc7 kc8 kc9 kc10 kc11 kc12 kc13 kc14 kc15 V0 v0_newG v0_newL v0_newS v0_traceLong v0_calls c1 c2 c3 c4 c5 c6 c7 c8 c9 c10 c11 c12 c13 c14 c15) H → va_D A (wX11_follow h0 h1 h2 h3 h4 h5 h6 h7 h8 h9 h10 h11 h12 h13 h14 h15 kc1 kc2 kc3 kc4 kc5 kc6 kc7 kc8 kc9 kc10 kc11 kc12 kc13 kc14 kc15 V0 v0_newG v0_newL v0_newS v0_traceLong v0_calls c1 c2 c3 c4 c5 c6 c7 c8 c9 c10 c11 c12 c13 c14 c15) → va_S A s.heap H locs → lv_has ls 8 [(0, .ref h0), (1, .int y1), (2, .int y2), (4, .int y4), (5, .int y5), (7, .int y7)] → k135 y1 y2 y4 y5 y7 v0_newG v0_newL v0_newS v0_traceLong v0_calls c2 c5 c8 c9 c14 = some o → G 0 0 H locs (F0 m 135 ls [])), ∀ (y1 : Int32) (y2 : Int32) (y4 : Int32) (y5 : Int32) (y7 : Int32) (v0_newG : Int32) (v0_newL : Int32) (v0_newS : Int32) (v0_traceLong : Int32) (v0_calls : Int32) (c2 : (Nat → Int32)) (c5 : (Nat → Int32)) (c8 : (Nat → Int32)) (c9 : (Nat → Int32)) (c14 : (Nat → Int32)) (H : Heap) (locs : List Loc) (ls : Array Slot), va_P (dC, dI) vwCl (wX11_follow h0 h1 h2 h3 h4 h5 h6 h7 h8 h9 h10 h11 h12 h13 h14 h15 kc1 kc2 kc3 kc4 kc5 kc6 kc7 kc8 kc9 kc10 kc11 kc12 kc13 kc14 kc15 V0 v0_newG v0_newL v0_newS v0_traceLong v0_calls c1 c2 c3 c4 c5 c6 c7 c8 c9 c10 c11 c12 c13 c14 c15) H → va_D A (wX11_follow h0 h1 h2 h3 h4 h5 h6 h7 h8 h9 h10 h11 h12 h13 h14 h15 kc1 kc2 kc3 kc4 kc5 kc6 kc7 kc8 kc9 kc10 kc11 kc12 kc13 kc14 kc15 V0 v0_newG v0_newL v0_newS v0_traceLong v0_calls c1 c2 c3 c4 c5 c6 c7 c8 c9 c10 c11 c12 c13 c14 c15) → va_S A s.heap H locs → lv_has ls 8 [(0, .ref h0), (1, .int y1), (2, .int y2), (4, .int y4), (5, .int y5), (7, .int y7)] → fX11_follow_b135 c1 c3 c4 c6 c7 c10 c11 c12 c13 c15 k25 k135 y1 y2 y4 y5 y7 v0_newG v0_newL v0_newS v0_traceLong v0_calls c2 c5 c8 c9 c14 = some o → G 0 0 H locs (F0 m 135 ls []) := by
    intro k25 hk25 k135 hk135 y1 y2 y4 y5 y7 v0_newG v0_newL v0_newS v0_traceLong v0_calls c2 c5 c8 c9 c14 H locs ls hP hD hS hl hf
    refine (hG _ _ _ _ _).mpr ?_
    unfold fX11_follow_b135 at hf
    refine lv_iload hx hb dX11_follow_135 (lv_at hl 5 rfl) ?_
    refine lv_bipush (v := 8) hx hb dX11_follow_137 (by decide +kernel) ?_
    refine lv_icmp_ge (tgt := 177) hx hb dX11_follow_139 (by decide) (fun cq9 => ?_) (fun cq9 => ?_)
    · replace hf := if_at hf cq9
      refine lv_aload_n hx hb dX11_follow_177 rfl (lv_at hl 0 rfl) ?_
      refine va_get (D := (dC, dI)) (ci := 11) (v := .ref h8) (C := RX11) (T := TX11) (N := 71) hx hb hts inlX11 hown hK hP 0 rfl rfl 68 (by decide) w1_ (fun _ h9 => h9) rfl dX11_follow_178 ?_
      refine lv_aload_n hx hb dX11_follow_181 rfl (lv_at hl 0 rfl) ?_
      refine va_get (D := (dC, dI)) (ci := 11) (v := .int v0_calls) (C := RX11) (T := TX11) (N := 71) hx hb hts inlX11 hown hK hP 0 rfl rfl 67 (by decide) w0_ (fun _ h9 => h9) rfl dX11_follow_182 ?_
      refine lv_aload_n hx hb dX11_follow_185 rfl (lv_at hl 0 rfl) ?_
      refine va_get (D := (dC, dI)) (ci := 11) (v := .ref h3) (C := RX11) (T := TX11) (N := 71) hx hb hts inlX11 hown hK hP 0 rfl rfl 41 (by decide) w6_ (fun _ h9 => h9) rfl dX11_follow_186 ?_
      refine lv_iload_n hx hb dX11_follow_189 rfl (lv_at hl 2 rfl) ?_
      have b10 := bd_in hf
      replace hf := bd_k hf
      refine va_iald hx hb hK hP 3 2 rfl rfl b10 dX11_follow_190 ?_
      refine lv_topi (fun x11 e11 => ?_)
      replace hf := nm_at hf e11
      have b12 := bd_in hf
      replace hf := bd_k hf
      obtain ⟨c12x, e12⟩ : ∃ y, y = upd c8 v0_calls.toNatClampNeg x11 := ⟨_, rfl⟩
      replace hf := nm_at hf e12
      refine va_iast hx hb hK hP hD hS 8 7 rfl rfl b12 dX11_follow_191 (fun H locs hP hD hS => ?_)
      have hP : va_P (dC, dI) vwCl (wX11_follow h0 h1 h2 h3 h4 h5 h6 h7 h8 h9 h10 h11 h12 h13 h14 h15 kc1 kc2 kc3 kc4 kc5 kc6 kc7 kc8 kc9 kc10 kc11 kc12 kc13 kc14 kc15 V0 v0_newG v0_newL v0_newS v0_traceLong v0_calls c1 c2 c3 c4 c5 c6 c7 c12x c9 c10 c11 c12 c13 c14 c15) H := by rw [e12]; exact hP
      have hD : va_D A (wX11_follow h0 h1 h2 h3 h4 h5 h6 h7 h8 h9 h10 h11 h12 h13 h14 h15 kc1 kc2 kc3 kc4 kc5 kc6 kc7 kc8 kc9 kc10 kc11 kc12 kc13 kc14 kc15 V0 v0_newG v0_newL v0_newS v0_traceLong v0_calls c1 c2 c3 c4 c5 c6 c7 c12x c9 c10 c11 c12 c13 c14 c15) := by rw [e12]; exact hD
      refine lv_aload_n hx hb dX11_follow_192 rfl (lv_at hl 0 rfl) ?_
      refine va_get (D := (dC, dI)) (ci := 11) (v := .ref h9) (C := RX11) (T := TX11) (N := 71) hx hb hts inlX11 hown hK hP 0 rfl rfl 69 (by decide) w2_ (fun _ h9 => h9) rfl dX11_follow_193 ?_
      refine lv_aload_n hx hb dX11_follow_196 rfl (lv_at hl 0 rfl) ?_
      refine va_get (D := (dC, dI)) (ci := 11) (v := .int v0_calls) (C := RX11) (T := TX11) (N := 71) hx hb hts inlX11 hown hK hP 0 rfl rfl 67 (by decide) w0_ (fun _ h9 => h9) rfl dX11_follow_197 ?_
      refine lv_iload hx hb dX11_follow_200 (lv_at hl 3 rfl) ?_
      have b13 := bd_in hf
      replace hf := bd_k hf
      obtain ⟨c13x, e13⟩ : ∃ y, y = upd c9 v0_calls.toNatClampNeg y4 := ⟨_, rfl⟩
      replace hf := nm_at hf e13
      refine va_iast hx hb hK hP hD hS 9 8 rfl rfl b13 dX11_follow_202 (fun H locs hP hD hS => ?_)
      have hP : va_P (dC, dI) vwCl (wX11_follow h0 h1 h2 h3 h4 h5 h6 h7 h8 h9 h10 h11 h12 h13 h14 h15 kc1 kc2 kc3 kc4 kc5 kc6 kc7 kc8 kc9 kc10 kc11 kc12 kc13 kc14 kc15 V0 v0_newG v0_newL v0_newS v0_traceLong v0_calls c1 c2 c3 c4 c5 c6 c7 c12x c13x c10 c11 c12 c13 c14 c15) H := by rw [e13]; exact hP
      have hD : va_D A (wX11_follow h0 h1 h2 h3 h4 h5 h6 h7 h8 h9 h10 h11 h12 h13 h14 h15 kc1 kc2 kc3 kc4 kc5 kc6 kc7 kc8 kc9 kc10 kc11 kc12 kc13 kc14 kc15 V0 v0_newG v0_newL v0_newS v0_traceLong v0_calls c1 c2 c3 c4 c5 c6 c7 c12x c13x c10 c11 c12 c13 c14 c15) := by rw [e13]; exact hD
      refine lv_aload_n hx hb dX11_follow_203 rfl (lv_at hl 0 rfl) ?_
      refine lv_dup hx hb dX11_follow_204 rfl ?_
      refine va_get (D := (dC, dI)) (ci := 11) (v := .int v0_calls) (C := RX11) (T := TX11) (N := 71) hx hb hts inlX11 hown hK hP 0 rfl rfl 67 (by decide) w0_ (fun _ h9 => h9) rfl dX11_follow_205 ?_
      refine lv_iconst (v := 1) hx hb dX11_follow_208 (by decide +kernel) ?_
      refine lv_iadd hx hb dX11_follow_209 ?_
      refine lv_topi (fun x14 e14 => ?_)
      replace hf := nm_at hf e14
      refine va_put (D := (dC, dI)) (ci := 11) (v := .int x14) (ty := .int) (C := RX11) (T := TX11) (N := 71) hx hb hts inlX11 tyX11 tyX11_ok nmX11 hown hK hP hD hS 0 rfl rfl 67 (by decide) w0_ (fun _ h9 => h9) rfl (by decide +kernel) rfl rfl (Nat.le_of_ble_eq_true rfl) dX11_follow_210 (fun H locs hP hD hS => ?_)
      have hP : va_P (dC, dI) vwCl (wX11_follow h0 h1 h2 h3 h4 h5 h6 h7 h8 h9 h10 h11 h12 h13 h14 h15 kc1 kc2 kc3 kc4 kc5 kc6 kc7 kc8 kc9 kc10 kc11 kc12 kc13 kc14 kc15 V0 v0_newG v0_newL v0_newS v0_traceLong x14 c1 c2 c3 c4 c5 c6 c7 c12x c13x c10 c11 c12 c13 c14 c15) H := hP
      have hD : va_D A (wX11_follow h0 h1 h2 h3 h4 h5 h6 h7 h8 h9 h10 h11 h12 h13 h14 h15 kc1 kc2 kc3 kc4 kc5 kc6 kc7 kc8 kc9 kc10 kc11 kc12 kc13 kc14 kc15 V0 v0_newG v0_newL v0_newS v0_traceLong x14 c1 c2 c3 c4 c5 c6 c7 c12x c13x c10 c11 c12 c13 c14 c15) := hD
      refine lv_aload_n hx hb dX11_follow_213 rfl (lv_at hl 0 rfl) ?_
      refine lv_aload_n hx hb dX11_follow_214 rfl (lv_at hl 0 rfl) ?_
      refine va_get (D := (dC, dI)) (ci := 11) (v := .ref h1) (C := RX11) (T := TX11) (N := 71) hx hb hts inlX11 hown hK hP 0 rfl rfl 35 (by decide) w7_ (fun _ h9 => h9) rfl dX11_follow_215 ?_
      refine lv_aload_n hx hb dX11_follow_218 rfl (lv_at hl 0 rfl) ?_
      refine va_get (D := (dC, dI)) (ci := 11) (v := .ref h10) (C := RX11) (T := TX11) (N := 71) hx hb hts inlX11 hown hK hP 0 rfl rfl 39 (by decide) w8_ (fun _ h9 => h9) rfl dX11_follow_219 ?_
      refine lv_iload_n hx hb dX11_follow_222 rfl (lv_at hl 2 rfl) ?_
      have b15 := bd_in hf
      replace hf := bd_k hf
      refine va_iald hx hb hK hP 10 9 rfl rfl b15 dX11_follow_223 ?_
      refine lv_topi (fun x16 e16 => ?_)
      replace hf := nm_at hf e16
      have b17 := bd_in hf
      replace hf := bd_k hf
      refine va_iald hx hb hK hP 1 0 rfl rfl b17 dX11_follow_224 ?_
      refine lv_topi (fun x18 e18 => ?_)
      replace hf := nm_at hf e18
      refine va_put (D := (dC, dI)) (ci := 11) (v := .int x18) (ty := .int) (C := RX11) (T := TX11) (N := 71) hx hb hts inlX11 tyX11 tyX11_ok nmX11 hown hK hP hD hS 0 rfl rfl 64 (by decide) w3_ (fun _ h9 => h9) rfl (by decide +kernel) rfl rfl (Nat.le_of_ble_eq_true rfl) dX11_follow_225 (fun H locs hP hD hS => ?_)
      have hP : va_P (dC, dI) vwCl (wX11_follow h0 h1 h2 h3 h4 h5 h6 h7 h8 h9 h10 h11 h12 h13 h14 h15 kc1 kc2 kc3 kc4 kc5 kc6 kc7 kc8 kc9 kc10 kc11 kc12 kc13 kc14 kc15 V0 v0_newG v0_newL x18 v0_traceLong x14 c1 c2 c3 c4 c5 c6 c7 c12x c13x c10 c11 c12 c13 c14 c15) H := hP
      have hD : va_D A (wX11_follow h0 h1 h2 h3 h4 h5 h6 h7 h8 h9 h10 h11 h12 h13 h14 h15 kc1 kc2 kc3 kc4 kc5 kc6 kc7 kc8 kc9 kc10 kc11 kc12 kc13 kc14 kc15 V0 v0_newG v0_newL x18 v0_traceLong x14 c1 c2 c3 c4 c5 c6 c7 c12x c13x c10 c11 c12 c13 c14 c15) := hD
      refine lv_aload_n hx hb dX11_follow_228 rfl (lv_at hl 0 rfl) ?_
      refine lv_iconst (v := 0) hx hb dX11_follow_229 (by decide +kernel) ?_
      refine va_put (D := (dC, dI)) (ci := 11) (v := .int 0) (ty := .int) (C := RX11) (T := TX11) (N := 71) hx hb hts inlX11 tyX11 tyX11_ok nmX11 hown hK hP hD hS 0 rfl rfl 63 (by decide) w5_ (fun _ h9 => h9) rfl (by decide +kernel) rfl rfl (Nat.le_of_ble_eq_true rfl) dX11_follow_230 (fun H locs hP hD hS => ?_)
      have hP : va_P (dC, dI) vwCl (wX11_follow h0 h1 h2 h3 h4 h5 h6 h7 h8 h9 h10 h11 h12 h13 h14 h15 kc1 kc2 kc3 kc4 kc5 kc6 kc7 kc8 kc9 kc10 kc11 kc12 kc13 kc14 kc15 V0 v0_newG 0 x18 v0_traceLong x14 c1 c2 c3 c4 c5 c6 c7 c12x c13x c10 c11 c12 c13 c14 c15) H := hP
      have hD : va_D A (wX11_follow h0 h1 h2 h3 h4 h5 h6 h7 h8 h9 h10 h11 h12 h13 h14 h15 kc1 kc2 kc3 kc4 kc5 kc6 kc7 kc8 kc9 kc10 kc11 kc12 kc13 kc14 kc15 V0 v0_newG 0 x18 v0_traceLong x14 c1 c2 c3 c4 c5 c6 c7 c12x c13x c10 c11 c12 c13 c14 c15) := hD
      refine lv_goto (tgt := 298) hx hb dX11_follow_233 (by decide) ?_
      exact (hG _ _ _ _ _).mp (J298 k25 hk25 y1 y5 v0_newG 0 x18 v0_traceLong x14 c2 c5 c12x c13x c14 H locs ls (hP.sub [0, 1, 2, 3, 4, 5, 6, 7, 8, 9, 10, 11, 12, 13, 14, 15] rfl) (hD.sub [0, 1, 2, 3, 4, 5, 6, 7, 8, 9, 10, 11, 12, 13, 14, 15] (by decide) rfl) hS (lv_sub hl [0, 1, 4] rfl) hf)
    · replace hf := if_no hf cq9
      refine lv_aload_n hx hb dX11_follow_142 rfl (lv_at hl 0 rfl) ?_
      refine va_get (D := (dC, dI)) (ci := 11) (v := .ref h5) (C := RX11) (T := TX11) (N := 71) hx hb hts inlX11 hown hK hP 0 rfl rfl 70 (by decide) w9_ (fun _ h9 => h9) rfl dX11_follow_143 ?_
      refine lv_bipush (v := 8) hx hb dX11_follow_146 (by decide +kernel) ?_
      refine lv_aload_n hx hb dX11_follow_148 rfl (lv_at hl 0 rfl) ?_
      refine va_get (D := (dC, dI)) (ci := 11) (v := .int v0_calls) (C := RX11) (T := TX11) (N := 71) hx hb hts inlX11 hown hK hP 0 rfl rfl 67 (by decide) w0_ (fun _ h9 => h9) rfl dX11_follow_149 ?_
      refine lv_imul hx hb dX11_follow_152 ?_
      refine lv_topi (fun x19 e19 => ?_)
      replace hf := nm_at hf e19
      refine lv_iload hx hb dX11_follow_153 (lv_at hl 5 rfl) ?_
      refine lv_iadd hx hb dX11_follow_155 ?_
      refine lv_topi (fun x20 e20 => ?_)
      replace hf := nm_at hf e20
      refine lv_aload_n hx hb dX11_follow_156 rfl (lv_at hl 0 rfl) ?_
      refine lv_iload hx hb dX11_follow_157 (lv_at hl 5 rfl) ?_
      refine lv_aload_n hx hb dX11_follow_159 rfl (lv_at hl 0 rfl) ?_
      refine va_get (D := (dC, dI)) (ci := 11) (v := .ref h3) (C := RX11) (T := TX11) (N := 71) hx hb hts inlX11 hown hK hP 0 rfl rfl 41 (by decide) w6_ (fun _ h9 => h9) rfl dX11_follow_160 ?_
      refine lv_iload_n hx hb dX11_follow_163 rfl (lv_at hl 2 rfl) ?_
      have b21 := bd_in hf
      replace hf := bd_k hf
      refine va_iald hx hb hK hP 3 2 rfl rfl b21 dX11_follow_164 ?_
      refine lv_topi (fun x22 e22 => ?_)
      replace hf := nm_at hf e22
      refine lv_iload hx hb dX11_follow_165 (lv_at hl 3 rfl) ?_
      obtain ⟨o23, e23, hf⟩ := ob_some hf
      refine kVi (As := [.int y7, .int x22, .int y4]) (rest := [.int x20, .ref h5]) ⟨hx, hb, hml, hown, hts⟩ (mX11_costOf l dC dI h0 h5 h6 h7 kc5 kc6 kc7 H.size base y7 x22 y4 v0_calls c5 c6 c7 (fun k => match k with | 35 => .ref h1 | 36 => .ref h4 | 39 => .ref h10 | 40 => .ref h15 | 41 => .ref h3 | 44 => .ref h11 | 45 => .ref h12 | 46 => .ref h13 | 59 => .ref h14 | 62 => .int v0_newG | 63 => .int v0_newL | 64 => .int v0_newS | 65 => .int v0_traceLong | 66 => .ref h2 | 68 => .ref h8 | 69 => .ref h9 | k => V0 k) o23 e23) (cwV 3 hts (gTV q1147 q1148 q1149 q5 q1150) rfl rfl rfl (by decide +kernel) ⟨Nat.le_of_ble_eq_true rfl, Nat.le_of_ble_eq_true rfl⟩) hK hP hD hS hA hE hAB [0, 5, 6, 7] [1, 2, 3, 4, 8, 9, 10, 11, 12, 13, 14, 15] [4, 5, 6] (wr := [(h1, .inl (kc1, 6, .inl c1)), (h2, .inl (kc2, 10000, .inl c2)), (h3, .inl (kc3, 40, .inl c3)), (h4, .inl (kc4, 40, .inl c4)), (h8, .inl (kc8, 2002, .inl c8)), (h9, .inl (kc9, 2002, .inl c9)), (h10, .inl (kc10, 40, .inl c10)), (h11, .inl (kc11, 40, .inl c11)), (h12, .inl (kc12, 40, .inl c12)), (h13, .inl (kc13, 700, .inl c13)), (h14, .inl (kc14, 700, .inl c14)), (h15, .inl (kc15, 80, .inl c15))]) rfl rfl (by decide) (by decide) (by decide) rfl (ci := 11) (q0 := 0) rfl rfl rfl rfl hl.1 rfl (Nat.le_of_ble_eq_true rfl) dX11_follow_167 ⟨Nat.zero_le _, Nat.zero_le _⟩ (fun r23 u23 H locs hw23 hP hD hS => ?_)
      obtain ⟨hw231, hw232⟩ := hw23
      subst hw231 hw232
      have hP : va_P (dC, dI) vwCl (wX11_follow h0 h1 h2 h3 h4 h5 h6 h7 h8 h9 h10 h11 h12 h13 h14 h15 kc1 kc2 kc3 kc4 kc5 kc6 kc7 kc8 kc9 kc10 kc11 kc12 kc13 kc14 kc15 V0 v0_newG v0_newL v0_newS v0_traceLong v0_calls c1 c2 c3 c4 c5 c6 c7 c8 c9 c10 c11 c12 c13 c14 c15) H := hP.sub [12, 0, 1, 2, 3, 13, 14, 15, 4, 5, 6, 7, 8, 9, 10, 11] rfl
      have hD : va_D A (wX11_follow h0 h1 h2 h3 h4 h5 h6 h7 h8 h9 h10 h11 h12 h13 h14 h15 kc1 kc2 kc3 kc4 kc5 kc6 kc7 kc8 kc9 kc10 kc11 kc12 kc13 kc14 kc15 V0 v0_newG v0_newL v0_newS v0_traceLong v0_calls c1 c2 c3 c4 c5 c6 c7 c8 c9 c10 c11 c12 c13 c14 c15) := hD.sub [12, 0, 1, 2, 3, 13, 14, 15, 4, 5, 6, 7, 8, 9, 10, 11] (by decide) rfl
      have b24 := bd_in hf
      replace hf := bd_k hf
      obtain ⟨c24x, e24⟩ : ∃ y, y = upd c5 x20.toNatClampNeg o23.1 := ⟨_, rfl⟩
      replace hf := nm_at hf e24
      refine va_iast hx hb hK hP hD hS 5 4 rfl rfl b24 dX11_follow_170 (fun H locs hP hD hS => ?_)
      have hP : va_P (dC, dI) vwCl (wX11_follow h0 h1 h2 h3 h4 h5 h6 h7 h8 h9 h10 h11 h12 h13 h14 h15 kc1 kc2 kc3 kc4 kc5 kc6 kc7 kc8 kc9 kc10 kc11 kc12 kc13 kc14 kc15 V0 v0_newG v0_newL v0_newS v0_traceLong v0_calls c1 c2 c3 c4 c24x c6 c7 c8 c9 c10 c11 c12 c13 c14 c15) H := by rw [e24]; exact hP
      have hD : va_D A (wX11_follow h0 h1 h2 h3 h4 h5 h6 h7 h8 h9 h10 h11 h12 h13 h14 h15 kc1 kc2 kc3 kc4 kc5 kc6 kc7 kc8 kc9 kc10 kc11 kc12 kc13 kc14 kc15 V0 v0_newG v0_newL v0_newS v0_traceLong v0_calls c1 c2 c3 c4 c24x c6 c7 c8 c9 c10 c11 c12 c13 c14 c15) := by rw [e24]; exact hD
      obtain ⟨x25, e25⟩ : ∃ y : Int32, y = y7 + 1 := ⟨_, rfl⟩
      replace hf := nm_at hf e25
      refine lv_iinc (v := x25) (lv' := [(7, .int x25), (0, .ref h0), (1, .int y1), (2, .int y2), (4, .int y4), (5, .int y5)]) hx hb dX11_follow_171 hl (k := 5) rfl (by rw [e25]; rfl) (by decide) rfl (fun ls hl => ?_)
      refine lv_goto (tgt := 135) hx hb dX11_follow_174 (by decide) ?_
      exact (hG _ _ _ _ _).mp (hk135 y1 y2 y4 y5 x25 v0_newG v0_newL v0_newS v0_traceLong v0_calls c2 c24x c8 c9 c14 H locs ls (hP.sub [0, 1, 2, 3, 4, 5, 6, 7, 8, 9, 10, 11, 12, 13, 14, 15] rfl) (hD.sub [0, 1, 2, 3, 4, 5, 6, 7, 8, 9, 10, 11, 12, 13, 14, 15] (by decide) rfl) hS (lv_sub hl [1, 2, 3, 4, 5, 0] rfl) hf)
  have L135 : ∀ (k25 : Int32 → Int32 → Int32 → Int32 → Int32 → Int32 → Int32 → Int32 → Int32 → Int32 → (Nat → Int32) → (Nat → Int32) → (Nat → Int32) → (Nat → Int32) → (Nat → Int32) → Option (Int32 × Int32 × Int32 × Int32 × Int32 × (Nat → Int32) × (Nat → Int32) × (Nat → Int32) × (Nat → Int32) × (Nat → Int32))) (hk25 : ∀ (y1 : Int32) (y2 : Int32) (y3 : Int32) (y4 : Int32) (y5 : Int32) (v0_newG : Int32) (v0_newL : Int32) (v0_newS : Int32) (v0_traceLong : Int32) (v0_calls : Int32) (c2 : (Nat → Int32)) (c5 : (Nat → Int32)) (c8 : (Nat → Int32)) (c9 : (Nat → Int32)) (c14 : (Nat → Int32)) (H : Heap) (locs : List Loc) (ls : Array Slot), va_P (dC, dI) vwCl (wX11_follow h0 h1 h2 h3 h4 h5 h6 h7 h8 h9 h10 h11 h12 h13 h14 h15 kc1 kc2 kc3 kc4 kc5 kc6 kc7 kc8 kc9 kc10 kc11 kc12 kc13 kc14 kc15 V0 v0_newG v0_newL v0_newS v0_traceLong v0_calls c1 c2 c3 c4 c5 c6 c7 c8 c9 c10 c11 c12 c13 c14 c15) H → va_D A (wX11_follow h0 h1 h2 h3 h4 h5 h6 h7 h8 h9 h10 h11 h12 h13 h14 h15 kc1 kc2 kc3 kc4 kc5 kc6 kc7 kc8 kc9 kc10 kc11 kc12 kc13 kc14 kc15 V0 v0_newG v0_newL v0_newS v0_traceLong v0_calls c1 c2 c3 c4 c5 c6 c7 c8 c9 c10 c11 c12 c13 c14 c15) → va_S A s.heap H locs → lv_has ls 8 [(0, .ref h0), (1, .int y1), (2, .int y2), (3, .int y3), (4, .int y4), (5, .int y5)] → k25 y1 y2 y3 y4 y5 v0_newG v0_newL v0_newS v0_traceLong v0_calls c2 c5 c8 c9 c14 = some o → G 0 0 H locs (F0 m 25 ls [])) (n : Nat), ∀ (y1 : Int32) (y2 : Int32) (y4 : Int32) (y5 : Int32) (y7 : Int32) (v0_newG : Int32) (v0_newL : Int32) (v0_newS : Int32) (v0_traceLong : Int32) (v0_calls : Int32) (c2 : (Nat → Int32)) (c5 : (Nat → Int32)) (c8 : (Nat → Int32)) (c9 : (Nat → Int32)) (c14 : (Nat → Int32)) (H : Heap) (locs : List Loc) (ls : Array Slot), va_P (dC, dI) vwCl (wX11_follow h0 h1 h2 h3 h4 h5 h6 h7 h8 h9 h10 h11 h12 h13 h14 h15 kc1 kc2 kc3 kc4 kc5 kc6 kc7 kc8 kc9 kc10 kc11 kc12 kc13 kc14 kc15 V0 v0_newG v0_newL v0_newS v0_traceLong v0_calls c1 c2 c3 c4 c5 c6 c7 c8 c9 c10 c11 c12 c13 c14 c15) H → va_D A (wX11_follow h0 h1 h2 h3 h4 h5 h6 h7 h8 h9 h10 h11 h12 h13 h14 h15 kc1 kc2 kc3 kc4 kc5 kc6 kc7 kc8 kc9 kc10 kc11 kc12 kc13 kc14 kc15 V0 v0_newG v0_newL v0_newS v0_traceLong v0_calls c1 c2 c3 c4 c5 c6 c7 c8 c9 c10 c11 c12 c13 c14 c15) → va_S A s.heap H locs → lv_has ls 8 [(0, .ref h0), (1, .int y1), (2, .int y2), (4, .int y4), (5, .int y5), (7, .int y7)] → fX11_follow_l135 c1 c3 c4 c6 c7 c10 c11 c12 c13 c15 k25 n y1 y2 y4 y5 y7 v0_newG v0_newL v0_newS v0_traceLong v0_calls c2 c5 c8 c9 c14 = some o → G 0 0 H locs (F0 m 135 ls []) := by
    intro k25 hk25 n
    induction n with
    | zero => intro y1 y2 y4 y5 y7 v0_newG v0_newL v0_newS v0_traceLong v0_calls c2 c5 c8 c9 c14 H locs ls _ _ _ _ hf; cases hf
    | succ n ih => exact B135 k25 hk25 _ ih
  have B25 : ∀ (k25 : Int32 → Int32 → Int32 → Int32 → Int32 → Int32 → Int32 → Int32 → Int32 → Int32 → (Nat → Int32) → (Nat → Int32) → (Nat → Int32) → (Nat → Int32) → (Nat → Int32) → Option (Int32 × Int32 × Int32 × Int32 × Int32 × (Nat → Int32) × (Nat → Int32) × (Nat → Int32) × (Nat → Int32) × (Nat → Int32))) (hk25 : ∀ (y1 : Int32) (y2 : Int32) (y3 : Int32) (y4 : Int32) (y5 : Int32) (v0_newG : Int32) (v0_newL : Int32) (v0_newS : Int32) (v0_traceLong : Int32) (v0_calls : Int32) (c2 : (Nat → Int32)) (c5 : (Nat → Int32)) (c8 : (Nat → Int32)) (c9 : (Nat → Int32)) (c14 : (Nat → Int32)) (H : Heap) (locs : List Loc) (ls : Array Slot), va_P (dC, dI) vwCl (wX11_follow h0 h1 h2 h3 h4 h5 h6 h7 h8 h9 h10 h11 h12 h13 h14 h15 kc1 kc2 kc3 kc4 kc5 kc6 kc7 kc8 kc9 kc10 kc11 kc12 kc13 kc14 kc15 V0 v0_newG v0_newL v0_newS v0_traceLong v0_calls c1 c2 c3 c4 c5 c6 c7 c8 c9 c10 c11 c12 c13 c14 c15) H → va_D A (wX11_follow h0 h1 h2 h3 h4 h5 h6 h7 h8 h9 h10 h11 h12 h13 h14 h15 kc1 kc2 kc3 kc4 kc5 kc6 kc7 kc8 kc9 kc10 kc11 kc12 kc13 kc14 kc15 V0 v0_newG v0_newL v0_newS v0_traceLong v0_calls c1 c2 c3 c4 c5 c6 c7 c8 c9 c10 c11 c12 c13 c14 c15) → va_S A s.heap H locs → lv_has ls 8 [(0, .ref h0), (1, .int y1), (2, .int y2), (3, .int y3), (4, .int y4), (5, .int y5)] → k25 y1 y2 y3 y4 y5 v0_newG v0_newL v0_newS v0_traceLong v0_calls c2 c5 c8 c9 c14 = some o → G 0 0 H locs (F0 m 25 ls [])), ∀ (y1 : Int32) (y2 : Int32) (y3 : Int32) (y4 : Int32) (y5 : Int32) (v0_newG : Int32) (v0_newL : Int32) (v0_newS : Int32) (v0_traceLong : Int32) (v0_calls : Int32) (c2 : (Nat → Int32)) (c5 : (Nat → Int32)) (c8 : (Nat → Int32)) (c9 : (Nat → Int32)) (c14 : (Nat → Int32)) (H : Heap) (locs : List Loc) (ls : Array Slot), va_P (dC, dI) vwCl (wX11_follow h0 h1 h2 h3 h4 h5 h6 h7 h8 h9 h10 h11 h12 h13 h14 h15 kc1 kc2 kc3 kc4 kc5 kc6 kc7 kc8 kc9 kc10 kc11 kc12 kc13 kc14 kc15 V0 v0_newG v0_newL v0_newS v0_traceLong v0_calls c1 c2 c3 c4 c5 c6 c7 c8 c9 c10 c11 c12 c13 c14 c15) H → va_D A (wX11_follow h0 h1 h2 h3 h4 h5 h6 h7 h8 h9 h10 h11 h12 h13 h14 h15 kc1 kc2 kc3 kc4 kc5 kc6 kc7 kc8 kc9 kc10 kc11 kc12 kc13 kc14 kc15 V0 v0_newG v0_newL v0_newS v0_traceLong v0_calls c1 c2 c3 c4 c5 c6 c7 c8 c9 c10 c11 c12 c13 c14 c15) → va_S A s.heap H locs → lv_has ls 8 [(0, .ref h0), (1, .int y1), (2, .int y2), (3, .int y3), (4, .int y4), (5, .int y5)] → fX11_follow_b25 c1 c3 c4 c6 c7 c10 c11 c12 c13 c15  k25 y1 y2 y3 y4 y5 v0_newG v0_newL v0_newS v0_traceLong v0_calls c2 c5 c8 c9 c14 = some o → G 0 0 H locs (F0 m 25 ls []) := by
    intro  k25 hk25 y1 y2 y3 y4 y5 v0_newG v0_newL v0_newS v0_traceLong v0_calls c2 c5 c8 c9 c14 H locs ls hP hD hS hl hf
    refine (hG _ _ _ _ _).mpr ?_
    unfold fX11_follow_b25 at hf
    refine lv_iload hx hb dX11_follow_25 (lv_at hl 5 rfl) ?_
    refine lv_iload_n hx hb dX11_follow_27 rfl (lv_at hl 1 rfl) ?_
    refine lv_icmp_ge (tgt := 366) hx hb dX11_follow_28 (by decide) (fun cq26 => ?_) (fun cq26 => ?_)
    · replace hf := if_at hf cq26
      have hf1 := Option.some.inj hf
      subst hf1
      have hP9 := hP.sub (ws' := (wX11_follow h0 h1 h2 h3 h4 h5 h6 h7 h8 h9 h10 h11 h12 h13 h14 h15 kc1 kc2 kc3 kc4 kc5 kc6 kc7 kc8 kc9 kc10 kc11 kc12 kc13 kc14 kc15 V0 v0_newG v0_newL v0_newS v0_traceLong v0_calls c1 c2 c3 c4 c5 c6 c7 c8 c9 c10 c11 c12 c13 c14 c15)) [0, 1, 2, 3, 4, 5, 6, 7, 8, 9, 10, 11, 12, 13, 14, 15] rfl
      have hD9 := hD.sub (ws' := (wX11_follow h0 h1 h2 h3 h4 h5 h6 h7 h8 h9 h10 h11 h12 h13 h14 h15 kc1 kc2 kc3 kc4 kc5 kc6 kc7 kc8 kc9 kc10 kc11 kc12 kc13 kc14 kc15 V0 v0_newG v0_newL v0_newS v0_traceLong v0_calls c1 c2 c3 c4 c5 c6 c7 c8 c9 c10 c11 c12 c13 c14 c15)) [0, 1, 2, 3, 4, 5, 6, 7, 8, 9, 10, 11, 12, 13, 14, 15] (by decide) rfl
      exact W.vret hx hb hr (fun t ht hW => ⟨⟨(v0_newG, v0_newL, v0_newS, v0_traceLong, v0_calls, c2, c5, c8, c9, c14), rfl, rfl, by rw [ht]; exact hP9, va_K.moved hW.alike hK, hD9⟩, hS.F ht⟩) hS.2.2 dX11_follow_366
    · replace hf := if_no hf cq26
      refine lv_iload_n hx hb dX11_follow_31 rfl (lv_at hl 1 rfl) ?_
      refine lv_iload hx hb dX11_follow_32 (lv_at hl 5 rfl) ?_
      refine lv_isub hx hb dX11_follow_34 ?_
      refine lv_topi (fun x27 e27 => ?_)
      replace hf := nm_at hf e27
      refine lv_istore (lv' := [(6, .int x27), (0, .ref h0), (1, .int y1), (2, .int y2), (3, .int y3), (4, .int y4), (5, .int y5)]) hx hb dX11_follow_35 hl (by decide) rfl (fun ls hl => ?_)
      refine lv_aload_n hx hb dX11_follow_37 rfl (lv_at hl 1 rfl) ?_
      refine va_get (D := (dC, dI)) (ci := 11) (v := .ref h2) (C := RX11) (T := TX11) (N := 71) hx hb hts inlX11 hown hK hP 0 rfl rfl 66 (by decide) w10_ (fun _ h9 => h9) rfl dX11_follow_38 ?_
      refine lv_iconst (v := 5) hx hb dX11_follow_41 (by decide +kernel) ?_
      refine lv_iload hx hb dX11_follow_42 (lv_at hl 6 rfl) ?_
      refine lv_imul hx hb dX11_follow_44 ?_
      refine lv_topi (fun x28 e28 => ?_)
      replace hf := nm_at hf e28
      refine lv_iload_n hx hb dX11_follow_45 rfl (lv_at hl 3 rfl) ?_
      have b29 := bd_in hf
      replace hf := bd_k hf
      obtain ⟨c29x, e29⟩ : ∃ y, y = upd c2 x28.toNatClampNeg y2 := ⟨_, rfl⟩
      replace hf := nm_at hf e29
      refine va_iast hx hb hK hP hD hS 2 1 rfl rfl b29 dX11_follow_46 (fun H locs hP hD hS => ?_)
      have hP : va_P (dC, dI) vwCl (wX11_follow h0 h1 h2 h3 h4 h5 h6 h7 h8 h9 h10 h11 h12 h13 h14 h15 kc1 kc2 kc3 kc4 kc5 kc6 kc7 kc8 kc9 kc10 kc11 kc12 kc13 kc14 kc15 V0 v0_newG v0_newL v0_newS v0_traceLong v0_calls c1 c29x c3 c4 c5 c6 c7 c8 c9 c10 c11 c12 c13 c14 c15) H := by rw [e29]; exact hP
      have hD : va_D A (wX11_follow h0 h1 h2 h3 h4 h5 h6 h7 h8 h9 h10 h11 h12 h13 h14 h15 kc1 kc2 kc3 kc4 kc5 kc6 kc7 kc8 kc9 kc10 kc11 kc12 kc13 kc14 kc15 V0 v0_newG v0_newL v0_newS v0_traceLong v0_calls c1 c29x c3 c4 c5 c6 c7 c8 c9 c10 c11 c12 c13 c14 c15) := by rw [e29]; exact hD
      refine lv_aload_n hx hb dX11_follow_47 rfl (lv_at hl 1 rfl) ?_
      refine va_get (D := (dC, dI)) (ci := 11) (v := .ref h2) (C := RX11) (T := TX11) (N := 71) hx hb hts inlX11 hown hK hP 0 rfl rfl 66 (by decide) w10_ (fun _ h9 => h9) rfl dX11_follow_48 ?_
      refine lv_iconst (v := 5) hx hb dX11_follow_51 (by decide +kernel) ?_
      refine lv_iload hx hb dX11_follow_52 (lv_at hl 6 rfl) ?_
      refine lv_imul hx hb dX11_follow_54 ?_
      refine lv_topi (fun x30 e30 => ?_)
      replace hf := nm_at hf e30
      refine lv_iconst (v := 1) hx hb dX11_follow_55 (by decide +kernel) ?_
      refine lv_iadd hx hb dX11_follow_56 ?_
      refine lv_topi (fun x31 e31 => ?_)
      replace hf := nm_at hf e31
      refine lv_aload_n hx hb dX11_follow_57 rfl (lv_at hl 1 rfl) ?_
      refine va_get (D := (dC, dI)) (ci := 11) (v := .int v0_calls) (C := RX11) (T := TX11) (N := 71) hx hb hts inlX11 hown hK hP 0 rfl rfl 67 (by decide) w0_ (fun _ h9 => h9) rfl dX11_follow_58 ?_
      refine lv_iconst (v := 1) hx hb dX11_follow_61 (by decide +kernel) ?_
      refine lv_iadd hx hb dX11_follow_62 ?_
      refine lv_topi (fun x32 e32 => ?_)
      replace hf := nm_at hf e32
      have b33 := bd_in hf
      replace hf := bd_k hf
      obtain ⟨c33x, e33⟩ : ∃ y, y = upd c29x x31.toNatClampNeg x32 := ⟨_, rfl⟩
      replace hf := nm_at hf e33
      refine va_iast hx hb hK hP hD hS 2 1 rfl rfl b33 dX11_follow_63 (fun H locs hP hD hS => ?_)
      have hP : va_P (dC, dI) vwCl (wX11_follow h0 h1 h2 h3 h4 h5 h6 h7 h8 h9 h10 h11 h12 h13 h14 h15 kc1 kc2 kc3 kc4 kc5 kc6 kc7 kc8 kc9 kc10 kc11 kc12 kc13 kc14 kc15 V0 v0_newG v0_newL v0_newS v0_traceLong v0_calls c1 c33x c3 c4 c5 c6 c7 c8 c9 c10 c11 c12 c13 c14 c15) H := by rw [e33]; exact hP
      have hD : va_D A (wX11_follow h0 h1 h2 h3 h4 h5 h6 h7 h8 h9 h10 h11 h12 h13 h14 h15 kc1 kc2 kc3 kc4 kc5 kc6 kc7 kc8 kc9 kc10 kc11 kc12 kc13 kc14 kc15 V0 v0_newG v0_newL v0_newS v0_traceLong v0_calls c1 c33x c3 c4 c5 c6 c7 c8 c9 c10 c11 c12 c13 c14 c15) := by rw [e33]; exact hD
      refine lv_aload_n hx hb dX11_follow_64 rfl (lv_at hl 1 rfl) ?_
      refine va_get (D := (dC, dI)) (ci := 11) (v := .ref h2) (C := RX11) (T := TX11) (N := 71) hx hb hts inlX11 hown hK hP 0 rfl rfl 66 (by decide) w10_ (fun _ h9 => h9) rfl dX11_follow_65 ?_
      refine lv_iconst (v := 5) hx hb dX11_follow_68 (by decide +kernel) ?_
      refine lv_iload hx hb dX11_follow_69 (lv_at hl 6 rfl) ?_
      refine lv_imul hx hb dX11_follow_71 ?_
      refine lv_topi (fun x34 e34 => ?_)
      replace hf := nm_at hf e34
      refine lv_iconst (v := 2) hx hb dX11_follow_72 (by decide +kernel) ?_
      refine lv_iadd hx hb dX11_follow_73 ?_
      refine lv_topi (fun x35 e35 => ?_)
      replace hf := nm_at hf e35
      refine lv_iload_n hx hb dX11_follow_74 rfl (lv_at hl 4 rfl) ?_
      have b36 := bd_in hf
      replace hf := bd_k hf
      obtain ⟨c36x, e36⟩ : ∃ y, y = upd c33x x35.toNatClampNeg y3 := ⟨_, rfl⟩
      replace hf := nm_at hf e36
      refine va_iast hx hb hK hP hD hS 2 1 rfl rfl b36 dX11_follow_75 (fun H locs hP hD hS => ?_)
      have hP : va_P (dC, dI) vwCl (wX11_follow h0 h1 h2 h3 h4 h5 h6 h7 h8 h9 h10 h11 h12 h13 h14 h15 kc1 kc2 kc3 kc4 kc5 kc6 kc7 kc8 kc9 kc10 kc11 kc12 kc13 kc14 kc15 V0 v0_newG v0_newL v0_newS v0_traceLong v0_calls c1 c36x c3 c4 c5 c6 c7 c8 c9 c10 c11 c12 c13 c14 c15) H := by rw [e36]; exact hP
      have hD : va_D A (wX11_follow h0 h1 h2 h3 h4 h5 h6 h7 h8 h9 h10 h11 h12 h13 h14 h15 kc1 kc2 kc3 kc4 kc5 kc6 kc7 kc8 kc9 kc10 kc11 kc12 kc13 kc14 kc15 V0 v0_newG v0_newL v0_newS v0_traceLong v0_calls c1 c36x c3 c4 c5 c6 c7 c8 c9 c10 c11 c12 c13 c14 c15) := by rw [e36]; exact hD
      refine lv_aload_n hx hb dX11_follow_76 rfl (lv_at hl 1 rfl) ?_
      refine va_get (D := (dC, dI)) (ci := 11) (v := .ref h2) (C := RX11) (T := TX11) (N := 71) hx hb hts inlX11 hown hK hP 0 rfl rfl 66 (by decide) w10_ (fun _ h9 => h9) rfl dX11_follow_77 ?_
      refine lv_iconst (v := 5) hx hb dX11_follow_80 (by decide +kernel) ?_
      refine lv_iload hx hb dX11_follow_81 (lv_at hl 6 rfl) ?_
      refine lv_imul hx hb dX11_follow_83 ?_
      refine lv_topi (fun x37 e37 => ?_)
      replace hf := nm_at hf e37
      refine lv_iconst (v := 3) hx hb dX11_follow_84 (by decide +kernel) ?_
      refine lv_iadd hx hb dX11_follow_85 ?_
      refine lv_topi (fun x38 e38 => ?_)
      replace hf := nm_at hf e38
      refine lv_iload hx hb dX11_follow_86 (lv_at hl 5 rfl) ?_
      have b39 := bd_in hf
      replace hf := bd_k hf
      obtain ⟨c39x, e39⟩ : ∃ y, y = upd c36x x38.toNatClampNeg y4 := ⟨_, rfl⟩
      replace hf := nm_at hf e39
      refine va_iast hx hb hK hP hD hS 2 1 rfl rfl b39 dX11_follow_88 (fun H locs hP hD hS => ?_)
      have hP : va_P (dC, dI) vwCl (wX11_follow h0 h1 h2 h3 h4 h5 h6 h7 h8 h9 h10 h11 h12 h13 h14 h15 kc1 kc2 kc3 kc4 kc5 kc6 kc7 kc8 kc9 kc10 kc11 kc12 kc13 kc14 kc15 V0 v0_newG v0_newL v0_newS v0_traceLong v0_calls c1 c39x c3 c4 c5 c6 c7 c8 c9 c10 c11 c12 c13 c14 c15) H := by rw [e39]; exact hP
      have hD : va_D A (wX11_follow h0 h1 h2 h3 h4 h5 h6 h7 h8 h9 h10 h11 h12 h13 h14 h15 kc1 kc2 kc3 kc4 kc5 kc6 kc7 kc8 kc9 kc10 kc11 kc12 kc13 kc14 kc15 V0 v0_newG v0_newL v0_newS v0_traceLong v0_calls c1 c39x c3 c4 c5 c6 c7 c8 c9 c10 c11 c12 c13 c14 c15) := by rw [e39]; exact hD
      refine lv_aload_n hx hb dX11_follow_89 rfl (lv_at hl 1 rfl) ?_
      refine va_get (D := (dC, dI)) (ci := 11) (v := .ref h2) (C := RX11) (T := TX11) (N := 71) hx hb hts inlX11 hown hK hP 0 rfl rfl 66 (by decide) w10_ (fun _ h9 => h9) rfl dX11_follow_90 ?_
      refine lv_iconst (v := 5) hx hb dX11_follow_93 (by decide +kernel) ?_
      refine lv_iload hx hb dX11_follow_94 (lv_at hl 6 rfl) ?_
      refine lv_imul hx hb dX11_follow_96 ?_
      refine lv_topi (fun x40 e40 => ?_)
      replace hf := nm_at hf e40
      refine lv_iconst (v := 4) hx hb dX11_follow_97 (by decide +kernel) ?_
      refine lv_iadd hx hb dX11_follow_98 ?_
      refine lv_topi (fun x41 e41 => ?_)
      replace hf := nm_at hf e41
      refine lv_iconst (v := (-1)) hx hb dX11_follow_99 (by decide +kernel) ?_
      have b42 := bd_in hf
      replace hf := bd_k hf
      obtain ⟨c42x, e42⟩ : ∃ y, y = upd c39x x41.toNatClampNeg (-1) := ⟨_, rfl⟩
      replace hf := nm_at hf e42
      refine va_iast hx hb hK hP hD hS 2 1 rfl rfl b42 dX11_follow_100 (fun H locs hP hD hS => ?_)
      have hP : va_P (dC, dI) vwCl (wX11_follow h0 h1 h2 h3 h4 h5 h6 h7 h8 h9 h10 h11 h12 h13 h14 h15 kc1 kc2 kc3 kc4 kc5 kc6 kc7 kc8 kc9 kc10 kc11 kc12 kc13 kc14 kc15 V0 v0_newG v0_newL v0_newS v0_traceLong v0_calls c1 c42x c3 c4 c5 c6 c7 c8 c9 c10 c11 c12 c13 c14 c15) H := by rw [e42]; exact hP
      have hD : va_D A (wX11_follow h0 h1 h2 h3 h4 h5 h6 h7 h8 h9 h10 h11 h12 h13 h14 h15 kc1 kc2 kc3 kc4 kc5 kc6 kc7 kc8 kc9 kc10 kc11 kc12 kc13 kc14 kc15 V0 v0_newG v0_newL v0_newS v0_traceLong v0_calls c1 c42x c3 c4 c5 c6 c7 c8 c9 c10 c11 c12 c13 c14 c15) := by rw [e42]; exact hD
      refine lv_aload_n hx hb dX11_follow_101 rfl (lv_at hl 1 rfl) ?_
      refine lv_iload_n hx hb dX11_follow_102 rfl (lv_at hl 4 rfl) ?_
      refine va_put (D := (dC, dI)) (ci := 11) (v := .int y3) (ty := .int) (C := RX11) (T := TX11) (N := 71) hx hb hts inlX11 tyX11 tyX11_ok nmX11 hown hK hP hD hS 0 rfl rfl 62 (by decide) w4_ (fun _ h9 => h9) rfl (by decide +kernel) rfl rfl (Nat.le_of_ble_eq_true rfl) dX11_follow_103 (fun H locs hP hD hS => ?_)
      have hP : va_P (dC, dI) vwCl (wX11_follow h0 h1 h2 h3 h4 h5 h6 h7 h8 h9 h10 h11 h12 h13 h14 h15 kc1 kc2 kc3 kc4 kc5 kc6 kc7 kc8 kc9 kc10 kc11 kc12 kc13 kc14 kc15 V0 y3 v0_newL v0_newS v0_traceLong v0_calls c1 c42x c3 c4 c5 c6 c7 c8 c9 c10 c11 c12 c13 c14 c15) H := hP
      have hD : va_D A (wX11_follow h0 h1 h2 h3 h4 h5 h6 h7 h8 h9 h10 h11 h12 h13 h14 h15 kc1 kc2 kc3 kc4 kc5 kc6 kc7 kc8 kc9 kc10 kc11 kc12 kc13 kc14 kc15 V0 y3 v0_newL v0_newS v0_traceLong v0_calls c1 c42x c3 c4 c5 c6 c7 c8 c9 c10 c11 c12 c13 c14 c15) := hD
      refine lv_aload_n hx hb dX11_follow_106 rfl (lv_at hl 1 rfl) ?_
      refine lv_iload hx hb dX11_follow_107 (lv_at hl 5 rfl) ?_
      refine va_put (D := (dC, dI)) (ci := 11) (v := .int y4) (ty := .int) (C := RX11) (T := TX11) (N := 71) hx hb hts inlX11 tyX11 tyX11_ok nmX11 hown hK hP hD hS 0 rfl rfl 63 (by decide) w5_ (fun _ h9 => h9) rfl (by decide +kernel) rfl rfl (Nat.le_of_ble_eq_true rfl) dX11_follow_109 (fun H locs hP hD hS => ?_)
      have hP : va_P (dC, dI) vwCl (wX11_follow h0 h1 h2 h3 h4 h5 h6 h7 h8 h9 h10 h11 h12 h13 h14 h15 kc1 kc2 kc3 kc4 kc5 kc6 kc7 kc8 kc9 kc10 kc11 kc12 kc13 kc14 kc15 V0 y3 y4 v0_newS v0_traceLong v0_calls c1 c42x c3 c4 c5 c6 c7 c8 c9 c10 c11 c12 c13 c14 c15) H := hP
      have hD : va_D A (wX11_follow h0 h1 h2 h3 h4 h5 h6 h7 h8 h9 h10 h11 h12 h13 h14 h15 kc1 kc2 kc3 kc4 kc5 kc6 kc7 kc8 kc9 kc10 kc11 kc12 kc13 kc14 kc15 V0 y3 y4 v0_newS v0_traceLong v0_calls c1 c42x c3 c4 c5 c6 c7 c8 c9 c10 c11 c12 c13 c14 c15) := hD
      refine lv_aload_n hx hb dX11_follow_112 rfl (lv_at hl 1 rfl) ?_
      refine lv_aload_n hx hb dX11_follow_113 rfl (lv_at hl 1 rfl) ?_
      refine va_get (D := (dC, dI)) (ci := 11) (v := .ref h3) (C := RX11) (T := TX11) (N := 71) hx hb hts inlX11 hown hK hP 0 rfl rfl 41 (by decide) w6_ (fun _ h9 => h9) rfl dX11_follow_114 ?_
      refine lv_iload_n hx hb dX11_follow_117 rfl (lv_at hl 3 rfl) ?_
      have b43 := bd_in hf
      replace hf := bd_k hf
      refine va_iald hx hb hK hP 3 2 rfl rfl b43 dX11_follow_118 ?_
      refine lv_topi (fun x44 e44 => ?_)
      replace hf := nm_at hf e44
      refine va_put (D := (dC, dI)) (ci := 11) (v := .int x44) (ty := .int) (C := RX11) (T := TX11) (N := 71) hx hb hts inlX11 tyX11 tyX11_ok nmX11 hown hK hP hD hS 0 rfl rfl 64 (by decide) w3_ (fun _ h9 => h9) rfl (by decide +kernel) rfl rfl (Nat.le_of_ble_eq_true rfl) dX11_follow_119 (fun H locs hP hD hS => ?_)
      have hP : va_P (dC, dI) vwCl (wX11_follow h0 h1 h2 h3 h4 h5 h6 h7 h8 h9 h10 h11 h12 h13 h14 h15 kc1 kc2 kc3 kc4 kc5 kc6 kc7 kc8 kc9 kc10 kc11 kc12 kc13 kc14 kc15 V0 y3 y4 x44 v0_traceLong v0_calls c1 c42x c3 c4 c5 c6 c7 c8 c9 c10 c11 c12 c13 c14 c15) H := hP
      have hD : va_D A (wX11_follow h0 h1 h2 h3 h4 h5 h6 h7 h8 h9 h10 h11 h12 h13 h14 h15 kc1 kc2 kc3 kc4 kc5 kc6 kc7 kc8 kc9 kc10 kc11 kc12 kc13 kc14 kc15 V0 y3 y4 x44 v0_traceLong v0_calls c1 c42x c3 c4 c5 c6 c7 c8 c9 c10 c11 c12 c13 c14 c15) := hD
      refine lv_aload_n hx hb dX11_follow_122 rfl (lv_at hl 1 rfl) ?_
      refine va_get (D := (dC, dI)) (ci := 11) (v := .ref h4) (C := RX11) (T := TX11) (N := 71) hx hb hts inlX11 hown hK hP 0 rfl rfl 36 (by decide) w11_ (fun _ h9 => h9) rfl dX11_follow_123 ?_
      refine lv_iload_n hx hb dX11_follow_126 rfl (lv_at hl 3 rfl) ?_
      have b45 := bd_in hf
      replace hf := bd_k hf
      refine va_iald hx hb hK hP 4 3 rfl rfl b45 dX11_follow_127 ?_
      refine lv_topi (fun x46 e46 => ?_)
      replace hf := nm_at hf e46
      refine lv_iconst (v := 3) hx hb dX11_follow_128 (by decide +kernel) ?_
      refine lv_icmp_ne (tgt := 236) hx hb dX11_follow_129 (by decide) (fun cq47 => ?_) (fun cq47 => ?_)
      · replace hf := if_no hf cq47
        refine lv_aload_n hx hb dX11_follow_236 rfl (lv_at hl 1 rfl) ?_
        refine va_get (D := (dC, dI)) (ci := 11) (v := .ref h4) (C := RX11) (T := TX11) (N := 71) hx hb hts inlX11 hown hK hP 0 rfl rfl 36 (by decide) w11_ (fun _ h9 => h9) rfl dX11_follow_237 ?_
        refine lv_iload_n hx hb dX11_follow_240 rfl (lv_at hl 3 rfl) ?_
        have b48 := bd_in hf
        replace hf := bd_k hf
        refine va_iald hx hb hK hP 4 3 rfl rfl b48 dX11_follow_241 ?_
        refine lv_topi (fun x49 e49 => ?_)
        replace hf := nm_at hf e49
        refine lv_bipush (v := 6) hx hb dX11_follow_242 (by decide +kernel) ?_
        refine lv_icmp_ne (tgt := 255) hx hb dX11_follow_244 (by decide) (fun cq50 => ?_) (fun cq50 => ?_)
        · replace hf := if_no hf cq50
          refine lv_aload_n hx hb dX11_follow_255 rfl (lv_at hl 1 rfl) ?_
          refine lv_iload_n hx hb dX11_follow_256 rfl (lv_at hl 3 rfl) ?_
          obtain ⟨o51, e51, hf⟩ := ob_some hf
          refine kVi (As := [.int y2]) (rest := []) ⟨hx, hb, hml, hown, hts⟩ (mX11_chooses l dC dI h0 h4 kc4 H.size base y2 c4 (fun k => match k with | 35 => .ref h1 | 39 => .ref h10 | 40 => .ref h15 | 41 => .ref h3 | 44 => .ref h11 | 45 => .ref h12 | 46 => .ref h13 | 59 => .ref h14 | 60 => .ref h7 | 61 => .ref h6 | 62 => .int y3 | 63 => .int y4 | 64 => .int x44 | 65 => .int v0_traceLong | 66 => .ref h2 | 67 => .int v0_calls | 68 => .ref h8 | 69 => .ref h9 | 70 => .ref h5 | k => V0 k) o51 e51) (cwV 1 hts (gTV q1151 q1152 q1153 q5 q1154) rfl rfl rfl (by decide +kernel) ⟨Nat.le_of_ble_eq_true rfl, Nat.le_of_ble_eq_true rfl⟩) hK hP hD hS hA hE hAB [0, 4] [1, 2, 3, 5, 6, 7, 8, 9, 10, 11, 12, 13, 14, 15] [3] (wr := [(h1, .inl (kc1, 6, .inl c1)), (h2, .inl (kc2, 10000, .inl c42x)), (h3, .inl (kc3, 40, .inl c3)), (h5, .inl (kc5, 16016, .inl c5)), (h6, .inl (kc6, 1280, .inl c6)), (h7, .inl (kc7, 10240, .inl c7)), (h8, .inl (kc8, 2002, .inl c8)), (h9, .inl (kc9, 2002, .inl c9)), (h10, .inl (kc10, 40, .inl c10)), (h11, .inl (kc11, 40, .inl c11)), (h12, .inl (kc12, 40, .inl c12)), (h13, .inl (kc13, 700, .inl c13)), (h14, .inl (kc14, 700, .inl c14)), (h15, .inl (kc15, 80, .inl c15))]) rfl rfl (by decide) (by decide) (by decide) rfl (ci := 11) (q0 := 0) rfl rfl rfl rfl hl.1 rfl (Nat.le_of_ble_eq_true rfl) dX11_follow_257 ⟨Nat.zero_le _, Nat.zero_le _⟩ (fun r51 u51 H locs hw51 hP hD hS => ?_)
          obtain ⟨hw511, hw512⟩ := hw51
          subst hw511 hw512
          have hP : va_P (dC, dI) vwCl (wX11_follow h0 h1 h2 h3 h4 h5 h6 h7 h8 h9 h10 h11 h12 h13 h14 h15 kc1 kc2 kc3 kc4 kc5 kc6 kc7 kc8 kc9 kc10 kc11 kc12 kc13 kc14 kc15 V0 y3 y4 x44 v0_traceLong v0_calls c1 c42x c3 c4 c5 c6 c7 c8 c9 c10 c11 c12 c13 c14 c15) H := hP.sub [14, 0, 1, 2, 15, 3, 4, 5, 6, 7, 8, 9, 10, 11, 12, 13] rfl
          have hD : va_D A (wX11_follow h0 h1 h2 h3 h4 h5 h6 h7 h8 h9 h10 h11 h12 h13 h14 h15 kc1 kc2 kc3 kc4 kc5 kc6 kc7 kc8 kc9 kc10 kc11 kc12 kc13 kc14 kc15 V0 y3 y4 x44 v0_traceLong v0_calls c1 c42x c3 c4 c5 c6 c7 c8 c9 c10 c11 c12 c13 c14 c15) := hD.sub [14, 0, 1, 2, 15, 3, 4, 5, 6, 7, 8, 9, 10, 11, 12, 13] (by decide) rfl
          refine lv_if_eq (tgt := 298) hx hb dX11_follow_260 (by decide) (fun cq52 => ?_) (fun cq52 => ?_)
          · replace hf := if_at hf cq52
            exact (hG _ _ _ _ _).mp (J298 k25 hk25 y1 y5 y3 y4 x44 v0_traceLong v0_calls c42x c5 c8 c9 c14 H locs ls (hP.sub [0, 1, 2, 3, 4, 5, 6, 7, 8, 9, 10, 11, 12, 13, 14, 15] rfl) (hD.sub [0, 1, 2, 3, 4, 5, 6, 7, 8, 9, 10, 11, 12, 13, 14, 15] (by decide) rfl) hS (lv_sub hl [1, 2, 6] rfl) hf)
          · replace hf := if_no hf cq52
            refine lv_aload_n hx hb dX11_follow_263 rfl (lv_at hl 1 rfl) ?_
            refine lv_iload_n hx hb dX11_follow_264 rfl (lv_at hl 3 rfl) ?_
            refine lv_iload_n hx hb dX11_follow_265 rfl (lv_at hl 4 rfl) ?_
            refine lv_iload hx hb dX11_follow_266 (lv_at hl 5 rfl) ?_
            refine lv_iload hx hb dX11_follow_268 (lv_at hl 0 rfl) ?_
            obtain ⟨o53, e53, hf⟩ := ob_some hf
            refine kVi (As := [.int y2, .int y3, .int y4, .int x27]) (rest := []) ⟨hx, hb, hml, hown, hts⟩ (mX11_takes l dC dI h0 h11 h12 h13 h14 h4 h3 h10 h15 h5 h6 h7 kc11 kc12 kc13 kc14 kc4 kc3 kc10 kc15 kc5 kc6 kc7 H.size base y2 y3 y4 x27 y3 y4 x44 v0_calls c11 c12 c13 c14 c4 c3 c10 c15 c5 c6 c7 (fun k => match k with | 35 => .ref h1 | 65 => .int v0_traceLong | 66 => .ref h2 | 68 => .ref h8 | 69 => .ref h9 | k => V0 k) o53 e53) (cwV 4 hts (gTV q1155 q1156 q1157 q5 q1158) rfl rfl rfl (by decide +kernel) ⟨Nat.le_of_ble_eq_true rfl, Nat.le_of_ble_eq_true rfl⟩) hK hP hD hS hA hE hAB [0, 11, 12, 13, 14, 4, 3, 10, 15, 5, 6, 7] [1, 2, 8, 9] [10, 11, 12, 13, 3, 2, 9, 14, 4, 5, 6] (wr := [(h1, .inl (kc1, 6, .inl c1)), (h2, .inl (kc2, 10000, .inl c42x)), (h8, .inl (kc8, 2002, .inl c8)), (h9, .inl (kc9, 2002, .inl c9))]) rfl rfl (by decide) (by decide) (by decide) rfl (ci := 11) (q0 := 0) rfl rfl rfl rfl hl.1 rfl (Nat.le_of_ble_eq_true rfl) dX11_follow_270 ⟨Nat.zero_le _, Nat.zero_le _⟩ (fun r53 u53 H locs hw53 hP hD hS => ?_)
            obtain ⟨hw531, hw532⟩ := hw53
            subst hw531 hw532
            have hP : va_P (dC, dI) vwCl (wX11_follow h0 h1 h2 h3 h4 h5 h6 h7 h8 h9 h10 h11 h12 h13 h14 h15 kc1 kc2 kc3 kc4 kc5 kc6 kc7 kc8 kc9 kc10 kc11 kc12 kc13 kc14 kc15 V0 o53.2.1 o53.2.2.1 o53.2.2.2.1 v0_traceLong v0_calls c1 c42x c3 c4 c5 c6 c7 c8 c9 c10 c11 c12 c13 o53.2.2.2.2 c15) H := hP.sub [4, 0, 1, 10, 9, 13, 14, 15, 2, 3, 11, 5, 6, 7, 8, 12] rfl
            have hD : va_D A (wX11_follow h0 h1 h2 h3 h4 h5 h6 h7 h8 h9 h10 h11 h12 h13 h14 h15 kc1 kc2 kc3 kc4 kc5 kc6 kc7 kc8 kc9 kc10 kc11 kc12 kc13 kc14 kc15 V0 o53.2.1 o53.2.2.1 o53.2.2.2.1 v0_traceLong v0_calls c1 c42x c3 c4 c5 c6 c7 c8 c9 c10 c11 c12 c13 o53.2.2.2.2 c15) := hD.sub [4, 0, 1, 10, 9, 13, 14, 15, 2, 3, 11, 5, 6, 7, 8, 12] (by decide) rfl
            refine lv_istore (lv' := [(7, .int o53.1), (6, .int x27), (0, .ref h0), (1, .int y1), (2, .int y2), (3, .int y3), (4, .int y4), (5, .int y5)]) hx hb dX11_follow_273 hl (by decide) rfl (fun ls hl => ?_)
            refine lv_aload_n hx hb dX11_follow_275 rfl (lv_at hl 2 rfl) ?_
            refine va_get (D := (dC, dI)) (ci := 11) (v := .ref h2) (C := RX11) (T := TX11) (N := 71) hx hb hts inlX11 hown hK hP 0 rfl rfl 66 (by decide) w10_ (fun _ h9 => h9) rfl dX11_follow_276 ?_
            refine lv_iconst (v := 5) hx hb dX11_follow_279 (by decide +kernel) ?_
            refine lv_iload hx hb dX11_follow_280 (lv_at hl 7 rfl) ?_
            refine lv_imul hx hb dX11_follow_282 ?_
            refine lv_topi (fun x54 e54 => ?_)
            replace hf := nm_at hf e54
            refine lv_iconst (v := 4) hx hb dX11_follow_283 (by decide +kernel) ?_
            refine lv_iadd hx hb dX11_follow_284 ?_
            refine lv_topi (fun x55 e55 => ?_)
            replace hf := nm_at hf e55
            refine lv_iload hx hb dX11_follow_285 (lv_at hl 0 rfl) ?_
            have b56 := bd_in hf
            replace hf := bd_k hf
            obtain ⟨c56x, e56⟩ : ∃ y, y = upd c42x x55.toNatClampNeg o53.1 := ⟨_, rfl⟩
            replace hf := nm_at hf e56
            refine va_iast hx hb hK hP hD hS 2 1 rfl rfl b56 dX11_follow_287 (fun H locs hP hD hS => ?_)
            have hP : va_P (dC, dI) vwCl (wX11_follow h0 h1 h2 h3 h4 h5 h6 h7 h8 h9 h10 h11 h12 h13 h14 h15 kc1 kc2 kc3 kc4 kc5 kc6 kc7 kc8 kc9 kc10 kc11 kc12 kc13 kc14 kc15 V0 o53.2.1 o53.2.2.1 o53.2.2.2.1 v0_traceLong v0_calls c1 c56x c3 c4 c5 c6 c7 c8 c9 c10 c11 c12 c13 o53.2.2.2.2 c15) H := by rw [e56]; exact hP
            have hD : va_D A (wX11_follow h0 h1 h2 h3 h4 h5 h6 h7 h8 h9 h10 h11 h12 h13 h14 h15 kc1 kc2 kc3 kc4 kc5 kc6 kc7 kc8 kc9 kc10 kc11 kc12 kc13 kc14 kc15 V0 o53.2.1 o53.2.2.1 o53.2.2.2.1 v0_traceLong v0_calls c1 c56x c3 c4 c5 c6 c7 c8 c9 c10 c11 c12 c13 o53.2.2.2.2 c15) := by rw [e56]; exact hD
            refine lv_aload_n hx hb dX11_follow_288 rfl (lv_at hl 2 rfl) ?_
            refine lv_iload_n hx hb dX11_follow_289 rfl (lv_at hl 4 rfl) ?_
            refine lv_iload_n hx hb dX11_follow_290 rfl (lv_at hl 5 rfl) ?_
            refine lv_iload hx hb dX11_follow_291 (lv_at hl 6 rfl) ?_
            refine lv_iload hx hb dX11_follow_293 (lv_at hl 0 rfl) ?_
            obtain ⟨o57, e57, hf⟩ := ob_some hf
            refine kVv (As := [.int y2, .int y3, .int y4, .int o53.1]) (rest := []) ⟨hx, hb, hml, hown, hts⟩ (mX11_go l dC dI h0 h3 h4 h10 h15 kc3 kc4 kc10 kc15 H.size base y2 y3 y4 o53.1 o53.2.1 o53.2.2.1 o53.2.2.2.1 c3 c4 c10 c15 (fun k => match k with | 35 => .ref h1 | 44 => .ref h11 | 45 => .ref h12 | 46 => .ref h13 | 59 => .ref h14 | 60 => .ref h7 | 61 => .ref h6 | 65 => .int v0_traceLong | 66 => .ref h2 | 67 => .int v0_calls | 68 => .ref h8 | 69 => .ref h9 | 70 => .ref h5 | k => V0 k) o57 e57) (cwV 4 hts (gTV q1130 q1131 q1132 q5 q1133) rfl rfl rfl (by decide +kernel) ⟨Nat.le_of_ble_eq_true rfl, Nat.le_of_ble_eq_true rfl⟩) hK hP hD hS hA hE hAB [0, 3, 4, 10, 15] [1, 2, 5, 6, 7, 8, 9, 11, 12, 13, 14] [2, 3, 9, 14] (wr := [(h1, .inl (kc1, 6, .inl c1)), (h2, .inl (kc2, 10000, .inl c56x)), (h5, .inl (kc5, 16016, .inl c5)), (h6, .inl (kc6, 1280, .inl c6)), (h7, .inl (kc7, 10240, .inl c7)), (h8, .inl (kc8, 2002, .inl c8)), (h9, .inl (kc9, 2002, .inl c9)), (h11, .inl (kc11, 40, .inl c11)), (h12, .inl (kc12, 40, .inl c12)), (h13, .inl (kc13, 700, .inl c13)), (h14, .inl (kc14, 700, .inl o53.2.2.2.2))]) rfl rfl (by decide) (by decide) (by decide) rfl (ci := 11) (q0 := 0) rfl rfl rfl rfl hl.1 rfl (Nat.le_of_ble_eq_true rfl) dX11_follow_295 ⟨Nat.zero_le _, Nat.zero_le _⟩ (fun u57 H locs hw57 hP hD hS => ?_)
            have hw571 : o57 = u57 := Eq.symm hw57
            subst hw571
            have hP : va_P (dC, dI) vwCl (wX11_follow h0 h1 h2 h3 h4 h5 h6 h7 h8 h9 h10 h11 h12 h13 h14 h15 kc1 kc2 kc3 kc4 kc5 kc6 kc7 kc8 kc9 kc10 kc11 kc12 kc13 kc14 kc15 V0 o57.1 o57.2.1 o57.2.2 v0_traceLong v0_calls c1 c56x c3 c4 c5 c6 c7 c8 c9 c10 c11 c12 c13 o53.2.2.2.2 c15) H := hP.sub [11, 0, 1, 12, 13, 2, 3, 4, 5, 6, 14, 7, 8, 9, 10, 15] rfl
            have hD : va_D A (wX11_follow h0 h1 h2 h3 h4 h5 h6 h7 h8 h9 h10 h11 h12 h13 h14 h15 kc1 kc2 kc3 kc4 kc5 kc6 kc7 kc8 kc9 kc10 kc11 kc12 kc13 kc14 kc15 V0 o57.1 o57.2.1 o57.2.2 v0_traceLong v0_calls c1 c56x c3 c4 c5 c6 c7 c8 c9 c10 c11 c12 c13 o53.2.2.2.2 c15) := hD.sub [11, 0, 1, 12, 13, 2, 3, 4, 5, 6, 14, 7, 8, 9, 10, 15] (by decide) rfl
            exact (hG _ _ _ _ _).mp (J298 k25 hk25 y1 y5 o57.1 o57.2.1 o57.2.2 v0_traceLong v0_calls c56x c5 c8 c9 o53.2.2.2.2 H locs ls (hP.sub [0, 1, 2, 3, 4, 5, 6, 7, 8, 9, 10, 11, 12, 13, 14, 15] rfl) (hD.sub [0, 1, 2, 3, 4, 5, 6, 7, 8, 9, 10, 11, 12, 13, 14, 15] (by decide) rfl) hS (lv_sub hl [2, 3, 7] rfl) hf)
        · replace hf := if_at hf cq50
          refine lv_aload_n hx hb dX11_follow_247 rfl (lv_at hl 1 rfl) ?_
          refine lv_iconst (v := (-1)) hx hb dX11_follow_248 (by decide +kernel) ?_
          refine va_put (D := (dC, dI)) (ci := 11) (v := .int (-1)) (ty := .int) (C := RX11) (T := TX11) (N := 71) hx hb hts inlX11 tyX11 tyX11_ok nmX11 hown hK hP hD hS 0 rfl rfl 64 (by decide) w3_ (fun _ h9 => h9) rfl (by decide +kernel) rfl rfl (Nat.le_of_ble_eq_true rfl) dX11_follow_249 (fun H locs hP hD hS => ?_)
          have hP : va_P (dC, dI) vwCl (wX11_follow h0 h1 h2 h3 h4 h5 h6 h7 h8 h9 h10 h11 h12 h13 h14 h15 kc1 kc2 kc3 kc4 kc5 kc6 kc7 kc8 kc9 kc10 kc11 kc12 kc13 kc14 kc15 V0 y3 y4 (-1) v0_traceLong v0_calls c1 c42x c3 c4 c5 c6 c7 c8 c9 c10 c11 c12 c13 c14 c15) H := hP
          have hD : va_D A (wX11_follow h0 h1 h2 h3 h4 h5 h6 h7 h8 h9 h10 h11 h12 h13 h14 h15 kc1 kc2 kc3 kc4 kc5 kc6 kc7 kc8 kc9 kc10 kc11 kc12 kc13 kc14 kc15 V0 y3 y4 (-1) v0_traceLong v0_calls c1 c42x c3 c4 c5 c6 c7 c8 c9 c10 c11 c12 c13 c14 c15) := hD
          refine lv_goto (tgt := 298) hx hb dX11_follow_252 (by decide) ?_
          exact (hG _ _ _ _ _).mp (J298 k25 hk25 y1 y5 y3 y4 (-1) v0_traceLong v0_calls c42x c5 c8 c9 c14 H locs ls (hP.sub [0, 1, 2, 3, 4, 5, 6, 7, 8, 9, 10, 11, 12, 13, 14, 15] rfl) (hD.sub [0, 1, 2, 3, 4, 5, 6, 7, 8, 9, 10, 11, 12, 13, 14, 15] (by decide) rfl) hS (lv_sub hl [1, 2, 6] rfl) hf)
      · replace hf := if_at hf cq47
        refine lv_iconst (v := 0) hx hb dX11_follow_132 (by decide +kernel) ?_
        refine lv_istore (lv' := [(7, .int 0), (6, .int x27), (0, .ref h0), (1, .int y1), (2, .int y2), (3, .int y3), (4, .int y4), (5, .int y5)]) hx hb dX11_follow_133 hl (by decide) rfl (fun ls hl => ?_)
        exact (hG _ _ _ _ _).mp (L135 k25 hk25 FU y1 y2 y4 y5 0 y3 y4 x44 v0_traceLong v0_calls c42x c5 c8 c9 c14 H locs ls (hP.sub [0, 1, 2, 3, 4, 5, 6, 7, 8, 9, 10, 11, 12, 13, 14, 15] rfl) (hD.sub [0, 1, 2, 3, 4, 5, 6, 7, 8, 9, 10, 11, 12, 13, 14, 15] (by decide) rfl) hS (lv_sub hl [2, 3, 4, 6, 7, 0] rfl) hf)
  have L25 : ∀ (n : Nat), ∀ (y1 : Int32) (y2 : Int32) (y3 : Int32) (y4 : Int32) (y5 : Int32) (v0_newG : Int32) (v0_newL : Int32) (v0_newS : Int32) (v0_traceLong : Int32) (v0_calls : Int32) (c2 : (Nat → Int32)) (c5 : (Nat → Int32)) (c8 : (Nat → Int32)) (c9 : (Nat → Int32)) (c14 : (Nat → Int32)) (H : Heap) (locs : List Loc) (ls : Array Slot), va_P (dC, dI) vwCl (wX11_follow h0 h1 h2 h3 h4 h5 h6 h7 h8 h9 h10 h11 h12 h13 h14 h15 kc1 kc2 kc3 kc4 kc5 kc6 kc7 kc8 kc9 kc10 kc11 kc12 kc13 kc14 kc15 V0 v0_newG v0_newL v0_newS v0_traceLong v0_calls c1 c2 c3 c4 c5 c6 c7 c8 c9 c10 c11 c12 c13 c14 c15) H → va_D A (wX11_follow h0 h1 h2 h3 h4 h5 h6 h7 h8 h9 h10 h11 h12 h13 h14 h15 kc1 kc2 kc3 kc4 kc5 kc6 kc7 kc8 kc9 kc10 kc11 kc12 kc13 kc14 kc15 V0 v0_newG v0_newL v0_newS v0_traceLong v0_calls c1 c2 c3 c4 c5 c6 c7 c8 c9 c10 c11 c12 c13 c14 c15) → va_S A s.heap H locs → lv_has ls 8 [(0, .ref h0), (1, .int y1), (2, .int y2), (3, .int y3), (4, .int y4), (5, .int y5)] → fX11_follow_l25 c1 c3 c4 c6 c7 c10 c11 c12 c13 c15  n y1 y2 y3 y4 y5 v0_newG v0_newL v0_newS v0_traceLong v0_calls c2 c5 c8 c9 c14 = some o → G 0 0 H locs (F0 m 25 ls []) := by
    intro  n
    induction n with
    | zero => intro y1 y2 y3 y4 y5 v0_newG v0_newL v0_newS v0_traceLong v0_calls c2 c5 c8 c9 c14 H locs ls _ _ _ _ hf; cases hf
    | succ n ih => exact B25  _ ih
  refine (hG _ _ _ _ _).mpr ?_
  obtain ⟨H, hH⟩ : ∃ H, H = s.heap := ⟨_, rfl⟩
  have hS : va_S A s.heap H [] := by rw [hH]; exact hS
  rw [← hH] at hP ⊢
  generalize ([] : List Loc) = locs at hS ⊢
  unfold fX11_follow at hf
  refine lv_aload_n hx hb dX11_follow_0 rfl (lv_at hl 0 rfl) ?_
  refine va_get (D := (dC, dI)) (ci := 11) (v := .ref h1) (C := RX11) (T := TX11) (N := 71) hx hb hts inlX11 hown hK hP 0 rfl rfl 35 (by decide) w7_ (fun _ h9 => h9) rfl dX11_follow_1 ?_
  refine lv_iconst (v := 0) hx hb dX11_follow_4 (by decide +kernel) ?_
  have b58 := bd_in hf
  replace hf := bd_k hf
  refine va_iald hx hb hK hP 1 0 rfl rfl b58 dX11_follow_5 ?_
  refine lv_topi (fun x59 e59 => ?_)
  replace hf := nm_at hf e59
  refine lv_istore_n (lv' := [(2, .int x59), (0, .ref h0), (1, .int a0)]) hx hb dX11_follow_6 rfl hl (by decide) rfl (fun ls hl => ?_)
  refine lv_iconst (v := 0) hx hb dX11_follow_7 (by decide +kernel) ?_
  refine lv_istore_n (lv' := [(3, .int 0), (2, .int x59), (0, .ref h0), (1, .int a0)]) hx hb dX11_follow_8 rfl hl (by decide) rfl (fun ls hl => ?_)
  refine lv_iconst (v := 0) hx hb dX11_follow_9 (by decide +kernel) ?_
  refine lv_istore (lv' := [(4, .int 0), (3, .int 0), (2, .int x59), (0, .ref h0), (1, .int a0)]) hx hb dX11_follow_10 hl (by decide) rfl (fun ls hl => ?_)
  refine lv_aload_n hx hb dX11_follow_12 rfl (lv_at hl 3 rfl) ?_
  refine lv_iconst (v := 0) hx hb dX11_follow_13 (by decide +kernel) ?_
  refine va_put (D := (dC, dI)) (ci := 11) (v := .int 0) (ty := .int) (C := RX11) (T := TX11) (N := 71) hx hb hts inlX11 tyX11 tyX11_ok nmX11 hown hK hP hD hS 0 rfl rfl 67 (by decide) w0_ (fun _ h9 => h9) rfl (by decide +kernel) rfl rfl (Nat.le_of_ble_eq_true rfl) dX11_follow_14 (fun H locs hP hD hS => ?_)
  have hP : va_P (dC, dI) vwCl (wX11_follow h0 h1 h2 h3 h4 h5 h6 h7 h8 h9 h10 h11 h12 h13 h14 h15 kc1 kc2 kc3 kc4 kc5 kc6 kc7 kc8 kc9 kc10 kc11 kc12 kc13 kc14 kc15 V0 v0_newG v0_newL v0_newS v0_traceLong 0 c1 c2 c3 c4 c5 c6 c7 c8 c9 c10 c11 c12 c13 c14 c15) H := hP
  have hD : va_D A (wX11_follow h0 h1 h2 h3 h4 h5 h6 h7 h8 h9 h10 h11 h12 h13 h14 h15 kc1 kc2 kc3 kc4 kc5 kc6 kc7 kc8 kc9 kc10 kc11 kc12 kc13 kc14 kc15 V0 v0_newG v0_newL v0_newS v0_traceLong 0 c1 c2 c3 c4 c5 c6 c7 c8 c9 c10 c11 c12 c13 c14 c15) := hD
  refine lv_aload_n hx hb dX11_follow_17 rfl (lv_at hl 3 rfl) ?_
  refine lv_iload_n hx hb dX11_follow_18 rfl (lv_at hl 4 rfl) ?_
  refine va_put (D := (dC, dI)) (ci := 11) (v := .int a0) (ty := .int) (C := RX11) (T := TX11) (N := 71) hx hb hts inlX11 tyX11 tyX11_ok nmX11 hown hK hP hD hS 0 rfl rfl 65 (by decide) w12_ (fun _ h9 => h9) rfl (by decide +kernel) rfl rfl (Nat.le_of_ble_eq_true rfl) dX11_follow_19 (fun H locs hP hD hS => ?_)
  have hP : va_P (dC, dI) vwCl (wX11_follow h0 h1 h2 h3 h4 h5 h6 h7 h8 h9 h10 h11 h12 h13 h14 h15 kc1 kc2 kc3 kc4 kc5 kc6 kc7 kc8 kc9 kc10 kc11 kc12 kc13 kc14 kc15 V0 v0_newG v0_newL v0_newS a0 0 c1 c2 c3 c4 c5 c6 c7 c8 c9 c10 c11 c12 c13 c14 c15) H := hP
  have hD : va_D A (wX11_follow h0 h1 h2 h3 h4 h5 h6 h7 h8 h9 h10 h11 h12 h13 h14 h15 kc1 kc2 kc3 kc4 kc5 kc6 kc7 kc8 kc9 kc10 kc11 kc12 kc13 kc14 kc15 V0 v0_newG v0_newL v0_newS a0 0 c1 c2 c3 c4 c5 c6 c7 c8 c9 c10 c11 c12 c13 c14 c15) := hD
  refine lv_iconst (v := 0) hx hb dX11_follow_22 (by decide +kernel) ?_
  refine lv_istore (lv' := [(5, .int 0), (4, .int 0), (3, .int 0), (2, .int x59), (0, .ref h0), (1, .int a0)]) hx hb dX11_follow_23 hl (by decide) rfl (fun ls hl => ?_)
  exact (hG _ _ _ _ _).mp (L25 FU a0 x59 0 0 0 v0_newG v0_newL v0_newS a0 0 c2 c5 c8 c9 c14 H locs ls (hP.sub [0, 1, 2, 3, 4, 5, 6, 7, 8, 9, 10, 11, 12, 13, 14, 15] rfl) (hD.sub [0, 1, 2, 3, 4, 5, 6, 7, 8, 9, 10, 11, 12, 13, 14, 15] (by decide) rfl) hS (lv_sub hl [4, 5, 3, 2, 1, 0] rfl) hf)
abbrev wX11_check (h0 h1 h2 h3 h4 h5 h6 h7 h8 h9 h10 h11 h12 h13 h14 h15 : Nat) (kc1 kc2 kc3 kc4 kc5 kc6 kc7 kc8 kc9 kc10 kc11 kc12 kc13 kc14 kc15 : ClassId) (V0 : Nat → Value) (v0_thrown : Int32) (v0_has : Int32) (v0_statements : Int32) (v0_newG : Int32) (v0_newL : Int32) (v0_newS : Int32) (v0_traceLong : Int32) (v0_calls : Int32) (c1 : Nat → Int32) (c2 : Nat → Int32) (c3 : Nat → Int32) (c4 : Nat → Int32) (c5 : Nat → Int32) (c6 : Nat → Int32) (c7 : Nat → Int32) (c8 : Nat → Int32) (c9 : Nat → Int32) (c10 : Nat → Int32) (c11 : Nat → Int32) (c12 : Nat → Int32) (c13 : Nat → Int32) (c14 : Nat → Int32) (c15 : Nat → Int32) : va_W := [(h0, .inr (11, [.int v0_thrown, V0 1, V0 2, V0 3, V0 4, V0 5, V0 6, V0 7, V0 8, V0 9, V0 10, V0 11, V0 12, V0 13, V0 14, V0 15, V0 16, V0 17, V0 18, V0 19, V0 20, V0 21, V0 22, V0 23, V0 24, V0 25, V0 26, .int v0_has, V0 28, V0 29, .int v0_statements, V0 31, V0 32, V0 33, V0 34, .ref h6, .ref h3, V0 37, V0 38, .ref h5, .ref h11, .ref h4, V0 42, V0 43, .ref h7, .ref h8, .ref h9, V0 47, V0 48, V0 49, V0 50, V0 51, V0 52, V0 53, V0 54, V0 55, V0 56, V0 57, V0 58, .ref h10, .ref h1, .ref h2, .int v0_newG, .int v0_newL, .int v0_newS, .int v0_traceLong, .ref h12, .int v0_calls, .ref h14, .ref h15, .ref h13])), (h1, .inl (kc1, 10240, .inl c1)), (h2, .inl (kc2, 1280, .inl c2)), (h3, .inl (kc3, 40, .inl c3)), (h4, .inl (kc4, 40, .inl c4)), (h5, .inl (kc5, 40, .inl c5)), (h6, .inl (kc6, 6, .inl c6)), (h7, .inl (kc7, 40, .inl c7)), (h8, .inl (kc8, 40, .inl c8)), (h9, .inl (kc9, 700, .inl c9)), (h10, .inl (kc10, 700, .inl c10)), (h11, .inl (kc11, 80, .inl c11)), (h12, .inl (kc12, 10000, .inl c12)), (h13, .inl (kc13, 16016, .inl c13)), (h14, .inl (kc14, 2002, .inl c14)), (h15, .inl (kc15, 2002, .inl c15))]
set_option maxHeartbeats 4000000 in
set_option maxRecDepth 100000 in
theorem mX11_check (l : Launch) (dC : Nat → ClassId) (dI : Nat → Nat → Nat) (h0 h1 h2 h3 h4 h5 h6 h7 h8 h9 h10 h11 h12 h13 h14 h15 : Nat) (kc1 kc2 kc3 kc4 kc5 kc6 kc7 kc8 kc9 kc10 kc11 kc12 kc13 kc14 kc15 : ClassId) (sz : Nat) (base : Nat × Nat × Nat) (v0_thrown : Int32) (v0_has : Int32) (v0_statements : Int32) (v0_newG : Int32) (v0_newL : Int32) (v0_newS : Int32) (v0_traceLong : Int32) (v0_calls : Int32) (c1 : Nat → Int32) (c2 : Nat → Int32) (c3 : Nat → Int32) (c4 : Nat → Int32) (c5 : Nat → Int32) (c6 : Nat → Int32) (c7 : Nat → Int32) (c8 : Nat → Int32) (c9 : Nat → Int32) (c10 : Nat → Int32) (c11 : Nat → Int32) (c12 : Nat → Int32) (c13 : Nat → Int32) (c14 : Nat → Int32) (c15 : Nat → Int32) (V0 : Nat → Value) (o : Int32 × Int32 × Int32 × Int32 × Int32 × Int32 × Int32 × (Nat → Int32) × (Nat → Int32) × (Nat → Int32) × (Nat → Int32) × (Nat → Int32) × (Nat → Int32) × (Nat → Int32)) (hf : fX11_check v0_thrown v0_has v0_statements v0_newG v0_newL v0_newS v0_traceLong v0_calls c1 c2 c3 c4 c5 c6 c7 c8 c9 c10 c11 c12 c13 c14 c15 = some o) : Met l yX11_check (.code yX11_check cX11_check 2 (some .int) :: wsL_law) ({ frames := 4, cells := 0, slots := 0, locals := 100 }) (cPre (dC, dI) vwCl [.ref h0] sz base (wX11_check h0 h1 h2 h3 h4 h5 h6 h7 h8 h9 h10 h11 h12 h13 h14 h15 kc1 kc2 kc3 kc4 kc5 kc6 kc7 kc8 kc9 kc10 kc11 kc12 kc13 kc14 kc15 V0 v0_thrown v0_has v0_statements v0_newG v0_newL v0_newS v0_traceLong v0_calls c1 c2 c3 c4 c5 c6 c7 c8 c9 c10 c11 c12 c13 c14 c15) [(kc1, .int), (kc2, .int), (kc3, .int), (kc4, .int), (kc5, .int), (kc6, .int), (kc7, .int), (kc8, .int), (kc9, .int), (kc10, .int), (kc11, .int), (kc12, .int), (kc13, .int), (kc14, .int), (kc15, .int)]) (va_Qi (fun r u => r = o.1 ∧ u = o.2) (fun (u : Int32 × Int32 × Int32 × Int32 × Int32 × Int32 × (Nat → Int32) × (Nat → Int32) × (Nat → Int32) × (Nat → Int32) × (Nat → Int32) × (Nat → Int32) × (Nat → Int32)) t => cPost (dC, dI) vwCl (va_A (wX11_check h0 h1 h2 h3 h4 h5 h6 h7 h8 h9 h10 h11 h12 h13 h14 h15 kc1 kc2 kc3 kc4 kc5 kc6 kc7 kc8 kc9 kc10 kc11 kc12 kc13 kc14 kc15 V0 v0_thrown v0_has v0_statements v0_newG v0_newL v0_newS v0_traceLong v0_calls c1 c2 c3 c4 c5 c6 c7 c8 c9 c10 c11 c12 c13 c14 c15) sz) (wX11_check h0 h1 h2 h3 h4 h5 h6 h7 h8 h9 h10 h11 h12 h13 h14 h15 kc1 kc2 kc3 kc4 kc5 kc6 kc7 kc8 kc9 kc10 kc11 kc12 kc13 kc14 kc15 V0 u.1 v0_has v0_statements u.2.1 u.2.2.1 u.2.2.2.1 u.2.2.2.2.1 u.2.2.2.2.2.1 u.2.2.2.2.2.2.1 u.2.2.2.2.2.2.2.1 c3 c4 c5 c6 c7 c8 c9 u.2.2.2.2.2.2.2.2.1 c11 u.2.2.2.2.2.2.2.2.2.1 u.2.2.2.2.2.2.2.2.2.2.1 u.2.2.2.2.2.2.2.2.2.2.2.1 u.2.2.2.2.2.2.2.2.2.2.2.2) [(kc1, .int), (kc2, .int), (kc3, .int), (kc4, .int), (kc5, .int), (kc6, .int), (kc7, .int), (kc8, .int), (kc9, .int), (kc10, .int), (kc11, .int), (kc12, .int), (kc13, .int), (kc14, .int), (kc15, .int)] t) (va_A (wX11_check h0 h1 h2 h3 h4 h5 h6 h7 h8 h9 h10 h11 h12 h13 h14 h15 kc1 kc2 kc3 kc4 kc5 kc6 kc7 kc8 kc9 kc10 kc11 kc12 kc13 kc14 kc15 V0 v0_thrown v0_has v0_statements v0_newG v0_newL v0_newS v0_traceLong v0_calls c1 c2 c3 c4 c5 c6 c7 c8 c9 c10 c11 c12 c13 c14 c15) sz)) 0 0 (va_A (wX11_check h0 h1 h2 h3 h4 h5 h6 h7 h8 h9 h10 h11 h12 h13 h14 h15 kc1 kc2 kc3 kc4 kc5 kc6 kc7 kc8 kc9 kc10 kc11 kc12 kc13 kc14 kc15 V0 v0_thrown v0_has v0_statements v0_newG v0_newL v0_newS v0_traceLong v0_calls c1 c2 c3 c4 c5 c6 c7 c8 c9 c10 c11 c12 c13 c14 c15) sz) := by
  refine Met.ofW (cc := cX11_check) (maxL := 2) (ret := (some .int)) (by decide) rfl ?_
  intro p e s m args below meth c s₁ B hml hv
  obtain ⟨rfl, hsz, hP, hK, hD0, hE⟩ := hv
  have hx := B.exec
  have hb := B.bytes
  have hr := B.returns
  have hts : ∀ w ∈ wsL_law, _ := fun w h => atoms_spec (ws := .code yX11_check cX11_check 2 (some .int) :: wsL_law) B.pre w (List.mem_cons_of_mem _ h)
  have hown : s.vm.findClass RX11 = some m.cls := findClass_of_methodNamed B.named
  have hlocks := B.notSynchronized
  have w0_ := hts _ q354
  have w1_ := hts _ q1107
  have w2_ := hts _ q146
  have w3_ := hts _ q795
  have w4_ := hts _ q100
  have w5_ := hts _ q121
  subst hsz
  have hD := hD0.self (sz := s.heap.size)
  generalize hAe : va_A (wX11_check h0 h1 h2 h3 h4 h5 h6 h7 h8 h9 h10 h11 h12 h13 h14 h15 kc1 kc2 kc3 kc4 kc5 kc6 kc7 kc8 kc9 kc10 kc11 kc12 kc13 kc14 kc15 V0 v0_thrown v0_has v0_statements v0_newG v0_newL v0_newS v0_traceLong v0_calls c1 c2 c3 c4 c5 c6 c7 c8 c9 c10 c11 c12 c13 c14 c15) s.heap.size = A at hD ⊢
  have hA : ∀ q : Nat, s.heap.size ≤ q → A q := fun q h => by rw [← hAe]; exact Or.inr h
  have hAB : ∀ q : Nat, A q → base.1 ≤ q := fun q h => by rw [← hAe] at h; exact h.elim (fun ⟨k, e, hk⟩ => hD0.2 k _ hk) (fun hk => Nat.le_trans hE.1 hk)
  have hS : va_S A s.heap s.heap [] := va_S.rf
  have hl := lv_entry ([.ref h0]) (n := 2) (Nat.le_of_ble_eq_true rfl)
  rw [lg_entry_eq]
  generalize (lg_sl ([.ref h0]) ++ List.replicate (2 - (lg_sl ([.ref h0])).length) Slot.unset).toArray = ls at hl ⊢
  have hl : lv_has ls 2 [(0, .ref h0)] := hl
  have hP : va_P (dC, dI) vwCl (wX11_check h0 h1 h2 h3 h4 h5 h6 h7 h8 h9 h10 h11 h12 h13 h14 h15 kc1 kc2 kc3 kc4 kc5 kc6 kc7 kc8 kc9 kc10 kc11 kc12 kc13 kc14 kc15 V0 v0_thrown v0_has v0_statements v0_newG v0_newL v0_newS v0_traceLong v0_calls c1 c2 c3 c4 c5 c6 c7 c8 c9 c10 c11 c12 c13 c14 c15) s.heap := hP
  refine gl_intro (fun G hG => ?_)
  have J79 : ∀ (z0 : Int32) (v0_thrown : Int32) (v0_newG : Int32) (v0_newL : Int32) (v0_newS : Int32) (v0_traceLong : Int32) (v0_calls : Int32) (c1 : (Nat → Int32)) (c2 : (Nat → Int32)) (c10 : (Nat → Int32)) (c12 : (Nat → Int32)) (c13 : (Nat → Int32)) (c14 : (Nat → Int32)) (c15 : (Nat → Int32)) (H : Heap) (locs : List Loc) (ls : Array Slot), va_P (dC, dI) vwCl (wX11_check h0 h1 h2 h3 h4 h5 h6 h7 h8 h9 h10 h11 h12 h13 h14 h15 kc1 kc2 kc3 kc4 kc5 kc6 kc7 kc8 kc9 kc10 kc11 kc12 kc13 kc14 kc15 V0 v0_thrown v0_has v0_statements v0_newG v0_newL v0_newS v0_traceLong v0_calls c1 c2 c3 c4 c5 c6 c7 c8 c9 c10 c11 c12 c13 c14 c15) H → va_D A (wX11_check h0 h1 h2 h3 h4 h5 h6 h7 h8 h9 h10 h11 h12 h13 h14 h15 kc1 kc2 kc3 kc4 kc5 kc6 kc7 kc8 kc9 kc10 kc11 kc12 kc13 kc14 kc15 V0 v0_thrown v0_has v0_statements v0_newG v0_newL v0_newS v0_traceLong v0_calls c1 c2 c3 c4 c5 c6 c7 c8 c9 c10 c11 c12 c13 c14 c15) → va_S A s.heap H locs → lv_has ls 2 [(0, .ref h0)] → fX11_check_p79 v0_has v0_statements c3 c4 c5 c6 c7 c8 c9 c11  z0 v0_thrown v0_newG v0_newL v0_newS v0_traceLong v0_calls c1 c2 c10 c12 c13 c14 c15 = some o → G 0 0 H locs (F0 m 79 ls [.int z0]) := by
    intro  z0 v0_thrown v0_newG v0_newL v0_newS v0_traceLong v0_calls c1 c2 c10 c12 c13 c14 c15 H locs ls hP hD hS hl hf
    refine (hG _ _ _ _ _).mpr ?_
    unfold fX11_check_p79 at hf
    have hf1 := Option.some.inj hf
    subst hf1
    have hP9 := hP.sub (ws' := (wX11_check h0 h1 h2 h3 h4 h5 h6 h7 h8 h9 h10 h11 h12 h13 h14 h15 kc1 kc2 kc3 kc4 kc5 kc6 kc7 kc8 kc9 kc10 kc11 kc12 kc13 kc14 kc15 V0 v0_thrown v0_has v0_statements v0_newG v0_newL v0_newS v0_traceLong v0_calls c1 c2 c3 c4 c5 c6 c7 c8 c9 c10 c11 c12 c13 c14 c15)) [0, 1, 2, 3, 4, 5, 6, 7, 8, 9, 10, 11, 12, 13, 14, 15] rfl
    have hD9 := hD.sub (ws' := (wX11_check h0 h1 h2 h3 h4 h5 h6 h7 h8 h9 h10 h11 h12 h13 h14 h15 kc1 kc2 kc3 kc4 kc5 kc6 kc7 kc8 kc9 kc10 kc11 kc12 kc13 kc14 kc15 V0 v0_thrown v0_has v0_statements v0_newG v0_newL v0_newS v0_traceLong v0_calls c1 c2 c3 c4 c5 c6 c7 c8 c9 c10 c11 c12 c13 c14 c15)) [0, 1, 2, 3, 4, 5, 6, 7, 8, 9, 10, 11, 12, 13, 14, 15] (by decide) rfl
    exact W.iret (v := z0) hx hb hr (fun t ht hW => ⟨⟨z0, (v0_thrown, v0_newG, v0_newL, v0_newS, v0_traceLong, v0_calls, c1, c2, c10, c12, c13, c14, c15), rfl, ⟨rfl, rfl⟩, by rw [ht]; exact hP9, va_K.moved hW.alike hK, hD9⟩, hS.F ht⟩) hS.2.2 dX11_check_79
  have J68 : ∀ (y1 : Int32) (v0_thrown : Int32) (v0_newG : Int32) (v0_newL : Int32) (v0_newS : Int32) (v0_traceLong : Int32) (v0_calls : Int32) (c1 : (Nat → Int32)) (c2 : (Nat → Int32)) (c10 : (Nat → Int32)) (c12 : (Nat → Int32)) (c13 : (Nat → Int32)) (c14 : (Nat → Int32)) (c15 : (Nat → Int32)) (H : Heap) (locs : List Loc) (ls : Array Slot), va_P (dC, dI) vwCl (wX11_check h0 h1 h2 h3 h4 h5 h6 h7 h8 h9 h10 h11 h12 h13 h14 h15 kc1 kc2 kc3 kc4 kc5 kc6 kc7 kc8 kc9 kc10 kc11 kc12 kc13 kc14 kc15 V0 v0_thrown v0_has v0_statements v0_newG v0_newL v0_newS v0_traceLong v0_calls c1 c2 c3 c4 c5 c6 c7 c8 c9 c10 c11 c12 c13 c14 c15) H → va_D A (wX11_check h0 h1 h2 h3 h4 h5 h6 h7 h8 h9 h10 h11 h12 h13 h14 h15 kc1 kc2 kc3 kc4 kc5 kc6 kc7 kc8 kc9 kc10 kc11 kc12 kc13 kc14 kc15 V0 v0_thrown v0_has v0_statements v0_newG v0_newL v0_newS v0_traceLong v0_calls c1 c2 c3 c4 c5 c6 c7 c8 c9 c10 c11 c12 c13 c14 c15) → va_S A s.heap H locs → lv_has ls 2 [(0, .ref h0), (1, .int y1)] → fX11_check_p68 v0_has v0_statements c3 c4 c5 c6 c7 c8 c9 c11  y1 v0_thrown v0_newG v0_newL v0_newS v0_traceLong v0_calls c1 c2 c10 c12 c13 c14 c15 = some o → G 0 0 H locs (F0 m 68 ls []) := by
    intro  y1 v0_thrown v0_newG v0_newL v0_newS v0_traceLong v0_calls c1 c2 c10 c12 c13 c14 c15 H locs ls hP hD hS hl hf
    refine (hG _ _ _ _ _).mpr ?_
    unfold fX11_check_p68 at hf
    refine lv_iload_n hx hb dX11_check_68 rfl (lv_at hl 1 rfl) ?_
    refine lv_ldc (v := 2000000) hx hb hown w0_ dX11_check_69 ?_
    refine lv_icmp_ne (tgt := 78) hx hb dX11_check_71 (by decide) (fun cq1 => ?_) (fun cq1 => ?_)
    · replace hf := if_no hf cq1
      refine lv_iload_n hx hb dX11_check_78 rfl (lv_at hl 1 rfl) ?_
      exact (hG _ _ _ _ _).mp (J79 y1 v0_thrown v0_newG v0_newL v0_newS v0_traceLong v0_calls c1 c2 c10 c12 c13 c14 c15 H locs ls (hP.sub [0, 1, 2, 3, 4, 5, 6, 7, 8, 9, 10, 11, 12, 13, 14, 15] rfl) (hD.sub [0, 1, 2, 3, 4, 5, 6, 7, 8, 9, 10, 11, 12, 13, 14, 15] (by decide) rfl) hS (lv_sub hl [0] rfl) hf)
    · replace hf := if_at hf cq1
      refine lv_iconst (v := (-1)) hx hb dX11_check_74 (by decide +kernel) ?_
      refine lv_goto (tgt := 79) hx hb dX11_check_75 (by decide) ?_
      exact (hG _ _ _ _ _).mp (J79 (-1) v0_thrown v0_newG v0_newL v0_newS v0_traceLong v0_calls c1 c2 c10 c12 c13 c14 c15 H locs ls (hP.sub [0, 1, 2, 3, 4, 5, 6, 7, 8, 9, 10, 11, 12, 13, 14, 15] rfl) (hD.sub [0, 1, 2, 3, 4, 5, 6, 7, 8, 9, 10, 11, 12, 13, 14, 15] (by decide) rfl) hS (lv_sub hl [0] rfl) hf)
  have J50 : ∀ (z0 : Int32) (v0_thrown : Int32) (v0_newG : Int32) (v0_newL : Int32) (v0_newS : Int32) (v0_traceLong : Int32) (v0_calls : Int32) (c1 : (Nat → Int32)) (c2 : (Nat → Int32)) (c10 : (Nat → Int32)) (c12 : (Nat → Int32)) (c13 : (Nat → Int32)) (c14 : (Nat → Int32)) (c15 : (Nat → Int32)) (H : Heap) (locs : List Loc) (ls : Array Slot), va_P (dC, dI) vwCl (wX11_check h0 h1 h2 h3 h4 h5 h6 h7 h8 h9 h10 h11 h12 h13 h14 h15 kc1 kc2 kc3 kc4 kc5 kc6 kc7 kc8 kc9 kc10 kc11 kc12 kc13 kc14 kc15 V0 v0_thrown v0_has v0_statements v0_newG v0_newL v0_newS v0_traceLong v0_calls c1 c2 c3 c4 c5 c6 c7 c8 c9 c10 c11 c12 c13 c14 c15) H → va_D A (wX11_check h0 h1 h2 h3 h4 h5 h6 h7 h8 h9 h10 h11 h12 h13 h14 h15 kc1 kc2 kc3 kc4 kc5 kc6 kc7 kc8 kc9 kc10 kc11 kc12 kc13 kc14 kc15 V0 v0_thrown v0_has v0_statements v0_newG v0_newL v0_newS v0_traceLong v0_calls c1 c2 c3 c4 c5 c6 c7 c8 c9 c10 c11 c12 c13 c14 c15) → va_S A s.heap H locs → lv_has ls 2 [(0, .ref h0)] → fX11_check_p50 v0_has v0_statements c3 c4 c5 c6 c7 c8 c9 c11  z0 v0_thrown v0_newG v0_newL v0_newS v0_traceLong v0_calls c1 c2 c10 c12 c13 c14 c15 = some o → G 0 0 H locs (F0 m 50 ls [.int z0]) := by
    intro  z0 v0_thrown v0_newG v0_newL v0_newS v0_traceLong v0_calls c1 c2 c10 c12 c13 c14 c15 H locs ls hP hD hS hl hf
    refine (hG _ _ _ _ _).mpr ?_
    unfold fX11_check_p50 at hf
    refine lv_istore_n (lv' := [(1, .int z0), (0, .ref h0)]) hx hb dX11_check_50 rfl hl (by decide) rfl (fun ls hl => ?_)
    refine lv_aload_n hx hb dX11_check_51 rfl (lv_at hl 1 rfl) ?_
    refine lv_iconst (v := 0) hx hb dX11_check_52 (by decide +kernel) ?_
    refine va_put (D := (dC, dI)) (ci := 11) (v := .int 0) (ty := .int) (C := RX11) (T := TX11) (N := 71) hx hb hts inlX11 tyX11 tyX11_ok nmX11 hown hK hP hD hS 0 rfl rfl 65 (by decide) w1_ (fun _ h9 => h9) rfl (by decide +kernel) rfl rfl (Nat.le_of_ble_eq_true rfl) dX11_check_53 (fun H locs hP hD hS => ?_)
    have hP : va_P (dC, dI) vwCl (wX11_check h0 h1 h2 h3 h4 h5 h6 h7 h8 h9 h10 h11 h12 h13 h14 h15 kc1 kc2 kc3 kc4 kc5 kc6 kc7 kc8 kc9 kc10 kc11 kc12 kc13 kc14 kc15 V0 v0_thrown v0_has v0_statements v0_newG v0_newL v0_newS 0 v0_calls c1 c2 c3 c4 c5 c6 c7 c8 c9 c10 c11 c12 c13 c14 c15) H := hP
    have hD : va_D A (wX11_check h0 h1 h2 h3 h4 h5 h6 h7 h8 h9 h10 h11 h12 h13 h14 h15 kc1 kc2 kc3 kc4 kc5 kc6 kc7 kc8 kc9 kc10 kc11 kc12 kc13 kc14 kc15 V0 v0_thrown v0_has v0_statements v0_newG v0_newL v0_newS 0 v0_calls c1 c2 c3 c4 c5 c6 c7 c8 c9 c10 c11 c12 c13 c14 c15) := hD
    refine lv_iload_n hx hb dX11_check_56 rfl (lv_at hl 0 rfl) ?_
    refine lv_sipush (v := 2000) hx hb dX11_check_57 (by decide +kernel) ?_
    refine lv_icmp_gt (tgt := 68) hx hb dX11_check_60 (by decide) (fun cq2 => ?_) (fun cq2 => ?_)
    · replace hf := if_at hf cq2
      exact (hG _ _ _ _ _).mp (J68 z0 v0_thrown v0_newG v0_newL v0_newS 0 v0_calls c1 c2 c10 c12 c13 c14 c15 H locs ls (hP.sub [0, 1, 2, 3, 4, 5, 6, 7, 8, 9, 10, 11, 12, 13, 14, 15] rfl) (hD.sub [0, 1, 2, 3, 4, 5, 6, 7, 8, 9, 10, 11, 12, 13, 14, 15] (by decide) rfl) hS (lv_sub hl [1, 0] rfl) hf)
    · replace hf := if_no hf cq2
      refine lv_aload_n hx hb dX11_check_63 rfl (lv_at hl 1 rfl) ?_
      refine lv_iload_n hx hb dX11_check_64 rfl (lv_at hl 0 rfl) ?_
      obtain ⟨o3, e3, hf⟩ := ob_some hf
      refine kVv (As := [.int z0]) (rest := []) ⟨hx, hb, hml, hown, hts⟩ (mX11_follow l dC dI h0 h6 h12 h4 h3 h13 h2 h1 h14 h15 h5 h7 h8 h9 h10 h11 kc6 kc12 kc4 kc3 kc13 kc2 kc1 kc14 kc15 kc5 kc7 kc8 kc9 kc10 kc11 H.size base z0 v0_newG v0_newL v0_newS 0 v0_calls c6 c12 c4 c3 c13 c2 c1 c14 c15 c5 c7 c8 c9 c10 c11 (fun k => match k with | 0 => .int v0_thrown | 27 => .int v0_has | 30 => .int v0_statements | k => V0 k) o3 e3) (cwV 1 hts (gTV q1142 q1143 q1144 q5 q1145) rfl rfl rfl (by decide +kernel) ⟨Nat.le_of_ble_eq_true rfl, Nat.le_of_ble_eq_true rfl⟩) hK hP hD hS hA hE hAB [0, 6, 12, 4, 3, 13, 2, 1, 14, 15, 5, 7, 8, 9, 10, 11] [] [5, 11, 3, 2, 12, 1, 0, 13, 14, 4, 6, 7, 8, 9, 10] (wr := []) rfl rfl (by decide) (by decide) (by decide) rfl (ci := 11) (q0 := 0) rfl rfl rfl rfl hl.1 rfl (Nat.le_of_ble_eq_true rfl) dX11_check_65 ⟨Nat.zero_le _, Nat.zero_le _⟩ (fun u3 H locs hw3 hP hD hS => ?_)
      have hw31 : o3 = u3 := Eq.symm hw3
      subst hw31
      have hP : va_P (dC, dI) vwCl (wX11_check h0 h1 h2 h3 h4 h5 h6 h7 h8 h9 h10 h11 h12 h13 h14 h15 kc1 kc2 kc3 kc4 kc5 kc6 kc7 kc8 kc9 kc10 kc11 kc12 kc13 kc14 kc15 V0 v0_thrown v0_has v0_statements o3.1 o3.2.1 o3.2.2.1 o3.2.2.2.1 o3.2.2.2.2.1 c1 c2 c3 c4 c5 c6 c7 c8 c9 o3.2.2.2.2.2.2.2.2.2 c11 o3.2.2.2.2.2.1 o3.2.2.2.2.2.2.1 o3.2.2.2.2.2.2.2.1 o3.2.2.2.2.2.2.2.2.1) H := hP.sub [0, 7, 6, 4, 3, 10, 1, 11, 12, 13, 14, 15, 2, 5, 8, 9] rfl
      have hD : va_D A (wX11_check h0 h1 h2 h3 h4 h5 h6 h7 h8 h9 h10 h11 h12 h13 h14 h15 kc1 kc2 kc3 kc4 kc5 kc6 kc7 kc8 kc9 kc10 kc11 kc12 kc13 kc14 kc15 V0 v0_thrown v0_has v0_statements o3.1 o3.2.1 o3.2.2.1 o3.2.2.2.1 o3.2.2.2.2.1 c1 c2 c3 c4 c5 c6 c7 c8 c9 o3.2.2.2.2.2.2.2.2.2 c11 o3.2.2.2.2.2.1 o3.2.2.2.2.2.2.1 o3.2.2.2.2.2.2.2.1 o3.2.2.2.2.2.2.2.2.1) := hD.sub [0, 7, 6, 4, 3, 10, 1, 11, 12, 13, 14, 15, 2, 5, 8, 9] (by decide) rfl
      exact (hG _ _ _ _ _).mp (J68 z0 v0_thrown o3.1 o3.2.1 o3.2.2.1 o3.2.2.2.1 o3.2.2.2.2.1 c1 c2 o3.2.2.2.2.2.2.2.2.2 o3.2.2.2.2.2.1 o3.2.2.2.2.2.2.1 o3.2.2.2.2.2.2.2.1 o3.2.2.2.2.2.2.2.2.1 H locs ls (hP.sub [0, 1, 2, 3, 4, 5, 6, 7, 8, 9, 10, 11, 12, 13, 14, 15] rfl) (hD.sub [0, 1, 2, 3, 4, 5, 6, 7, 8, 9, 10, 11, 12, 13, 14, 15] (by decide) rfl) hS (lv_sub hl [1, 0] rfl) hf)
  refine (hG _ _ _ _ _).mpr ?_
  obtain ⟨H, hH⟩ : ∃ H, H = s.heap := ⟨_, rfl⟩
  have hS : va_S A s.heap H [] := by rw [hH]; exact hS
  rw [← hH] at hP ⊢
  generalize ([] : List Loc) = locs at hS ⊢
  unfold fX11_check at hf
  refine lv_aload_n hx hb dX11_check_0 rfl (lv_at hl 0 rfl) ?_
  refine lv_iconst (v := 0) hx hb dX11_check_1 (by decide +kernel) ?_
  refine va_put (D := (dC, dI)) (ci := 11) (v := .int 0) (ty := .int) (C := RX11) (T := TX11) (N := 71) hx hb hts inlX11 tyX11 tyX11_ok nmX11 hown hK hP hD hS 0 rfl rfl 0 (by decide) w2_ (fun _ h9 => h9) rfl (by decide +kernel) rfl rfl (Nat.le_of_ble_eq_true rfl) dX11_check_2 (fun H locs hP hD hS => ?_)
  have hP : va_P (dC, dI) vwCl (wX11_check h0 h1 h2 h3 h4 h5 h6 h7 h8 h9 h10 h11 h12 h13 h14 h15 kc1 kc2 kc3 kc4 kc5 kc6 kc7 kc8 kc9 kc10 kc11 kc12 kc13 kc14 kc15 V0 0 v0_has v0_statements v0_newG v0_newL v0_newS v0_traceLong v0_calls c1 c2 c3 c4 c5 c6 c7 c8 c9 c10 c11 c12 c13 c14 c15) H := hP
  have hD : va_D A (wX11_check h0 h1 h2 h3 h4 h5 h6 h7 h8 h9 h10 h11 h12 h13 h14 h15 kc1 kc2 kc3 kc4 kc5 kc6 kc7 kc8 kc9 kc10 kc11 kc12 kc13 kc14 kc15 V0 0 v0_has v0_statements v0_newG v0_newL v0_newS v0_traceLong v0_calls c1 c2 c3 c4 c5 c6 c7 c8 c9 c10 c11 c12 c13 c14 c15) := hD
  refine lv_aload_n hx hb dX11_check_5 rfl (lv_at hl 0 rfl) ?_
  refine va_get (D := (dC, dI)) (ci := 11) (v := .int v0_has) (C := RX11) (T := TX11) (N := 71) hx hb hts inlX11 hown hK hP 0 rfl rfl 27 (by decide) w3_ (fun _ h9 => h9) rfl dX11_check_6 ?_
  refine lv_if_ne (tgt := 15) hx hb dX11_check_9 (by decide) (fun cq4 => ?_) (fun cq4 => ?_)
  · replace hf := if_no hf cq4
    refine lv_aload_n hx hb dX11_check_15 rfl (lv_at hl 0 rfl) ?_
    obtain ⟨o5, e5, hf⟩ := ob_some hf
    refine kVv (As := []) (rest := []) ⟨hx, hb, hml, hown, hts⟩ (mX11_solve l dC dI h0 h1 h2 h3 h4 h5 h6 h7 h8 h9 h10 h11 kc1 kc2 kc3 kc4 kc5 kc6 kc7 kc8 kc9 kc10 kc11 H.size base v0_statements v0_newG v0_newL v0_newS c1 c2 c3 c4 c5 c6 c7 c8 c9 c10 c11 (fun k => match k with | 0 => .int 0 | 27 => .int v0_has | 65 => .int v0_traceLong | 66 => .ref h12 | 67 => .int v0_calls | 68 => .ref h14 | 69 => .ref h15 | 70 => .ref h13 | k => V0 k) o5 e5) (cwV 0 hts (gTV q1108 q1109 q1110 q5 q1111) rfl rfl rfl (by decide +kernel) ⟨Nat.le_of_ble_eq_true rfl, Nat.le_of_ble_eq_true rfl⟩) hK hP hD hS hA hE hAB [0, 1, 2, 3, 4, 5, 6, 7, 8, 9, 10, 11] [12, 13, 14, 15] [0, 1, 2, 3, 4, 5, 6, 7, 8, 9, 10] (wr := [(h12, .inl (kc12, 10000, .inl c12)), (h13, .inl (kc13, 16016, .inl c13)), (h14, .inl (kc14, 2002, .inl c14)), (h15, .inl (kc15, 2002, .inl c15))]) rfl rfl (by decide) (by decide) (by decide) rfl (ci := 11) (q0 := 0) rfl rfl rfl rfl hl.1 rfl (Nat.le_of_ble_eq_true rfl) dX11_check_16 ⟨Nat.zero_le _, Nat.zero_le _⟩ (fun u5 H locs hw5 hP hD hS => ?_)
    have hw51 : o5 = u5 := Eq.symm hw5
    subst hw51
    have hP : va_P (dC, dI) vwCl (wX11_check h0 h1 h2 h3 h4 h5 h6 h7 h8 h9 h10 h11 h12 h13 h14 h15 kc1 kc2 kc3 kc4 kc5 kc6 kc7 kc8 kc9 kc10 kc11 kc12 kc13 kc14 kc15 V0 0 v0_has v0_statements o5.1 o5.2.1 o5.2.2.1 v0_traceLong v0_calls o5.2.2.2.1 o5.2.2.2.2.1 c3 c4 c5 c6 c7 c8 c9 o5.2.2.2.2.2 c11 c12 c13 c14 c15) H := hP.sub [4, 5, 6, 7, 8, 9, 10, 11, 12, 13, 14, 15, 0, 1, 2, 3] rfl
    have hD : va_D A (wX11_check h0 h1 h2 h3 h4 h5 h6 h7 h8 h9 h10 h11 h12 h13 h14 h15 kc1 kc2 kc3 kc4 kc5 kc6 kc7 kc8 kc9 kc10 kc11 kc12 kc13 kc14 kc15 V0 0 v0_has v0_statements o5.1 o5.2.1 o5.2.2.1 v0_traceLong v0_calls o5.2.2.2.1 o5.2.2.2.2.1 c3 c4 c5 c6 c7 c8 c9 o5.2.2.2.2.2 c11 c12 c13 c14 c15) := hD.sub [4, 5, 6, 7, 8, 9, 10, 11, 12, 13, 14, 15, 0, 1, 2, 3] (by decide) rfl
    refine lv_aload_n hx hb dX11_check_19 rfl (lv_at hl 0 rfl) ?_
    refine va_get (D := (dC, dI)) (ci := 11) (v := .ref h6) (C := RX11) (T := TX11) (N := 71) hx hb hts inlX11 hown hK hP 0 rfl rfl 35 (by decide) w4_ (fun _ h9 => h9) rfl dX11_check_20 ?_
    refine lv_iconst (v := 0) hx hb dX11_check_23 (by decide +kernel) ?_
    have b6 := bd_in hf
    replace hf := bd_k hf
    refine va_iald hx hb hK hP 6 5 rfl rfl b6 dX11_check_24 ?_
    refine lv_topi (fun x7 e7 => ?_)
    replace hf := nm_at hf e7
    refine lv_iconst (v := (-1)) hx hb dX11_check_25 (by decide +kernel) ?_
    refine lv_icmp_ne (tgt := 34) hx hb dX11_check_26 (by decide) (fun cq8 => ?_) (fun cq8 => ?_)
    · replace hf := if_no hf cq8
      refine lv_aload_n hx hb dX11_check_34 rfl (lv_at hl 0 rfl) ?_
      refine va_get (D := (dC, dI)) (ci := 11) (v := .ref h2) (C := RX11) (T := TX11) (N := 71) hx hb hts inlX11 hown hK hP 0 rfl rfl 61 (by decide) w5_ (fun _ h9 => h9) rfl dX11_check_35 ?_
      refine lv_iconst (v := 0) hx hb dX11_check_38 (by decide +kernel) ?_
      refine lv_aload_n hx hb dX11_check_39 rfl (lv_at hl 0 rfl) ?_
      refine va_get (D := (dC, dI)) (ci := 11) (v := .ref h6) (C := RX11) (T := TX11) (N := 71) hx hb hts inlX11 hown hK hP 0 rfl rfl 35 (by decide) w4_ (fun _ h9 => h9) rfl dX11_check_40 ?_
      refine lv_iconst (v := 0) hx hb dX11_check_43 (by decide +kernel) ?_
      have b9 := bd_in hf
      replace hf := bd_k hf
      refine va_iald hx hb hK hP 6 5 rfl rfl b9 dX11_check_44 ?_
      refine lv_topi (fun x10 e10 => ?_)
      replace hf := nm_at hf e10
      refine lv_iconst (v := 0) hx hb dX11_check_45 (by decide +kernel) ?_
      obtain ⟨o11, e11, hf⟩ := ob_some hf
      refine kSi (As := [.int 0, .int x10, .int 0]) (rest := [.ref h2]) ⟨hx, hb, hml, hown, hts⟩ (mX11_at l dC dI H.size base 0 x10 0 o11 e11) (va_cwS 3 hts (gTS q1112 q1113 q5 q1114) rfl rfl rfl (by decide +kernel) ⟨Nat.le_of_ble_eq_true rfl, Nat.le_of_ble_eq_true rfl⟩) hK hP hD hS hA hE hAB [] [0, 1, 2, 3, 4, 5, 6, 7, 8, 9, 10, 11, 12, 13, 14, 15] [] (wr := (wX11_check h0 h1 h2 h3 h4 h5 h6 h7 h8 h9 h10 h11 h12 h13 h14 h15 kc1 kc2 kc3 kc4 kc5 kc6 kc7 kc8 kc9 kc10 kc11 kc12 kc13 kc14 kc15 V0 0 v0_has v0_statements o5.1 o5.2.1 o5.2.2.1 v0_traceLong v0_calls o5.2.2.2.1 o5.2.2.2.2.1 c3 c4 c5 c6 c7 c8 c9 o5.2.2.2.2.2 c11 c12 c13 c14 c15)) rfl rfl (by decide) (by decide) (by decide) rfl rfl hl.1 rfl (Nat.le_of_ble_eq_true rfl) dX11_check_46 ⟨Nat.zero_le _, Nat.zero_le _⟩ (fun r11 u11 H locs hw11 hP hD hS => ?_)
      obtain ⟨hw111, hw112⟩ := hw11
      subst hw111 hw112
      have hP : va_P (dC, dI) vwCl (wX11_check h0 h1 h2 h3 h4 h5 h6 h7 h8 h9 h10 h11 h12 h13 h14 h15 kc1 kc2 kc3 kc4 kc5 kc6 kc7 kc8 kc9 kc10 kc11 kc12 kc13 kc14 kc15 V0 0 v0_has v0_statements o5.1 o5.2.1 o5.2.2.1 v0_traceLong v0_calls o5.2.2.2.1 o5.2.2.2.2.1 c3 c4 c5 c6 c7 c8 c9 o5.2.2.2.2.2 c11 c12 c13 c14 c15) H := hP.sub [0, 1, 2, 3, 4, 5, 6, 7, 8, 9, 10, 11, 12, 13, 14, 15] rfl
      have hD : va_D A (wX11_check h0 h1 h2 h3 h4 h5 h6 h7 h8 h9 h10 h11 h12 h13 h14 h15 kc1 kc2 kc3 kc4 kc5 kc6 kc7 kc8 kc9 kc10 kc11 kc12 kc13 kc14 kc15 V0 0 v0_has v0_statements o5.1 o5.2.1 o5.2.2.1 v0_traceLong v0_calls o5.2.2.2.1 o5.2.2.2.2.1 c3 c4 c5 c6 c7 c8 c9 o5.2.2.2.2.2 c11 c12 c13 c14 c15) := hD.sub [0, 1, 2, 3, 4, 5, 6, 7, 8, 9, 10, 11, 12, 13, 14, 15] (by decide) rfl
      have b12 := bd_in hf
      replace hf := bd_k hf
      refine va_iald hx hb hK hP 2 1 rfl rfl b12 dX11_check_49 ?_
      refine lv_topi (fun x13 e13 => ?_)
      replace hf := nm_at hf e13
      exact (hG _ _ _ _ _).mp (J50 x13 0 o5.1 o5.2.1 o5.2.2.1 v0_traceLong v0_calls o5.2.2.2.1 o5.2.2.2.2.1 o5.2.2.2.2.2 c12 c13 c14 c15 H locs ls (hP.sub [0, 1, 2, 3, 4, 5, 6, 7, 8, 9, 10, 11, 12, 13, 14, 15] rfl) (hD.sub [0, 1, 2, 3, 4, 5, 6, 7, 8, 9, 10, 11, 12, 13, 14, 15] (by decide) rfl) hS (lv_sub hl [0] rfl) hf)
    · replace hf := if_at hf cq8
      refine lv_ldc (v := 2000000) hx hb hown w0_ dX11_check_29 ?_
      refine lv_goto (tgt := 50) hx hb dX11_check_31 (by decide) ?_
      exact (hG _ _ _ _ _).mp (J50 2000000 0 o5.1 o5.2.1 o5.2.2.1 v0_traceLong v0_calls o5.2.2.2.1 o5.2.2.2.2.1 o5.2.2.2.2.2 c12 c13 c14 c15 H locs ls (hP.sub [0, 1, 2, 3, 4, 5, 6, 7, 8, 9, 10, 11, 12, 13, 14, 15] rfl) (hD.sub [0, 1, 2, 3, 4, 5, 6, 7, 8, 9, 10, 11, 12, 13, 14, 15] (by decide) rfl) hS (lv_sub hl [0] rfl) hf)
  · replace hf := if_at hf cq4
    refine lv_bipush (v := (-2)) hx hb dX11_check_12 (by decide +kernel) ?_
    have hf1 := Option.some.inj hf
    subst hf1
    have hP9 := hP.sub (ws' := (wX11_check h0 h1 h2 h3 h4 h5 h6 h7 h8 h9 h10 h11 h12 h13 h14 h15 kc1 kc2 kc3 kc4 kc5 kc6 kc7 kc8 kc9 kc10 kc11 kc12 kc13 kc14 kc15 V0 0 v0_has v0_statements v0_newG v0_newL v0_newS v0_traceLong v0_calls c1 c2 c3 c4 c5 c6 c7 c8 c9 c10 c11 c12 c13 c14 c15)) [0, 1, 2, 3, 4, 5, 6, 7, 8, 9, 10, 11, 12, 13, 14, 15] rfl
    have hD9 := hD.sub (ws' := (wX11_check h0 h1 h2 h3 h4 h5 h6 h7 h8 h9 h10 h11 h12 h13 h14 h15 kc1 kc2 kc3 kc4 kc5 kc6 kc7 kc8 kc9 kc10 kc11 kc12 kc13 kc14 kc15 V0 0 v0_has v0_statements v0_newG v0_newL v0_newS v0_traceLong v0_calls c1 c2 c3 c4 c5 c6 c7 c8 c9 c10 c11 c12 c13 c14 c15)) [0, 1, 2, 3, 4, 5, 6, 7, 8, 9, 10, 11, 12, 13, 14, 15] (by decide) rfl
    exact W.iret (v := (-2)) hx hb hr (fun t ht hW => ⟨⟨(-2), (0, v0_newG, v0_newL, v0_newS, v0_traceLong, v0_calls, c1, c2, c10, c12, c13, c14, c15), rfl, ⟨rfl, rfl⟩, by rw [ht]; exact hP9, va_K.moved hW.alike hK, hD9⟩, hS.F ht⟩) hS.2.2 dX11_check_14
abbrev wX11_clear (h0 h1 h2 : Nat) (kc1 kc2 : ClassId) (V0 : Nat → Value) (v0_thrown : Int32) (v0_rules : Int32) (v0_arcs : Int32) (v0_known : Int32) (v0_wayState : Int32) (c1 : Nat → Int32) (c2 : Nat → Int32) : va_W := [(h0, .inr (11, [.int v0_thrown, .int v0_rules, V0 2, .int v0_arcs, .ref h1, .ref h2, V0 6, V0 7, .int v0_known, V0 9, .int v0_wayState, V0 11, V0 12, V0 13, V0 14, V0 15, V0 16, V0 17, V0 18, V0 19, V0 20, V0 21, V0 22, V0 23, V0 24, V0 25, V0 26, V0 27, V0 28, V0 29, V0 30, V0 31, V0 32, V0 33, V0 34, V0 35, V0 36, V0 37, V0 38, V0 39, V0 40, V0 41, V0 42, V0 43, V0 44, V0 45, V0 46, V0 47, V0 48, V0 49, V0 50, V0 51, V0 52, V0 53, V0 54, V0 55, V0 56, V0 57, V0 58, V0 59, V0 60, V0 61, V0 62, V0 63, V0 64, V0 65, V0 66, V0 67, V0 68, V0 69, V0 70])), (h1, .inl (kc1, 3072, .inl c1)), (h2, .inl (kc2, 16, .inl c2))]
set_option maxHeartbeats 4000000 in
set_option maxRecDepth 100000 in
theorem mX11_clear (l : Launch) (dC : Nat → ClassId) (dI : Nat → Nat → Nat) (h0 h1 h2 : Nat) (kc1 kc2 : ClassId) (sz : Nat) (base : Nat × Nat × Nat) (v0_thrown : Int32) (v0_rules : Int32) (v0_arcs : Int32) (v0_known : Int32) (v0_wayState : Int32) (c1 : Nat → Int32) (c2 : Nat → Int32) (V0 : Nat → Value) (o : Int32 × Int32 × Int32 × Int32 × Int32 × Int32 × (Nat → Int32) × (Nat → Int32)) (hf : fX11_clear v0_thrown v0_rules v0_arcs v0_known v0_wayState c1 c2 = some o) : Met l yX11_clear (.code yX11_clear cX11_clear 3 (some .int) :: wsL_law) ({ frames := 1, cells := 0, slots := 0, locals := 20 }) (cPre (dC, dI) vwCl [.ref h0] sz base (wX11_clear h0 h1 h2 kc1 kc2 V0 v0_thrown v0_rules v0_arcs v0_known v0_wayState c1 c2) [(kc1, .boolean), (kc2, .boolean)]) (va_Qi (fun r u => r = o.1 ∧ u = o.2) (fun (u : Int32 × Int32 × Int32 × Int32 × Int32 × (Nat → Int32) × (Nat → Int32)) t => cPost (dC, dI) vwCl (va_A (wX11_clear h0 h1 h2 kc1 kc2 V0 v0_thrown v0_rules v0_arcs v0_known v0_wayState c1 c2) sz) (wX11_clear h0 h1 h2 kc1 kc2 V0 u.1 u.2.1 u.2.2.1 u.2.2.2.1 u.2.2.2.2.1 u.2.2.2.2.2.1 u.2.2.2.2.2.2) [(kc1, .boolean), (kc2, .boolean)] t) (va_A (wX11_clear h0 h1 h2 kc1 kc2 V0 v0_thrown v0_rules v0_arcs v0_known v0_wayState c1 c2) sz)) 0 0 (va_A (wX11_clear h0 h1 h2 kc1 kc2 V0 v0_thrown v0_rules v0_arcs v0_known v0_wayState c1 c2) sz) := by
  refine Met.ofW (cc := cX11_clear) (maxL := 3) (ret := (some .int)) (by decide) rfl ?_
  intro p e s m args below meth c s₁ B hml hv
  obtain ⟨rfl, hsz, hP, hK, hD0, hE⟩ := hv
  have hx := B.exec
  have hb := B.bytes
  have hr := B.returns
  have hts : ∀ w ∈ wsL_law, _ := fun w h => atoms_spec (ws := .code yX11_clear cX11_clear 3 (some .int) :: wsL_law) B.pre w (List.mem_cons_of_mem _ h)
  have hown : s.vm.findClass RX11 = some m.cls := findClass_of_methodNamed B.named
  have hlocks := B.notSynchronized
  have w0_ := hts _ q81
  have w1_ := hts _ q80
  have w2_ := hts _ q146
  have w3_ := hts _ q147
  have w4_ := hts _ q172
  subst hsz
  have hD := hD0.self (sz := s.heap.size)
  generalize hAe : va_A (wX11_clear h0 h1 h2 kc1 kc2 V0 v0_thrown v0_rules v0_arcs v0_known v0_wayState c1 c2) s.heap.size = A at hD ⊢
  have hA : ∀ q : Nat, s.heap.size ≤ q → A q := fun q h => by rw [← hAe]; exact Or.inr h
  have hAB : ∀ q : Nat, A q → base.1 ≤ q := fun q h => by rw [← hAe] at h; exact h.elim (fun ⟨k, e, hk⟩ => hD0.2 k _ hk) (fun hk => Nat.le_trans hE.1 hk)
  have hS : va_S A s.heap s.heap [] := va_S.rf
  have hl := lv_entry ([.ref h0]) (n := 3) (Nat.le_of_ble_eq_true rfl)
  rw [lg_entry_eq]
  generalize (lg_sl ([.ref h0]) ++ List.replicate (3 - (lg_sl ([.ref h0])).length) Slot.unset).toArray = ls at hl ⊢
  have hl : lv_has ls 3 [(0, .ref h0)] := hl
  have hP : va_P (dC, dI) vwCl (wX11_clear h0 h1 h2 kc1 kc2 V0 v0_thrown v0_rules v0_arcs v0_known v0_wayState c1 c2) s.heap := hP
  refine gl_intro (fun G hG => ?_)
  have B44 : ∀ (k44 : Int32 → Int32 → Int32 → Int32 → Int32 → Int32 → Int32 → (Nat → Int32) → (Nat → Int32) → Option (Int32 × Int32 × Int32 × Int32 × Int32 × Int32 × (Nat → Int32) × (Nat → Int32))) (hk44 : ∀ (y1 : Int32) (y2 : Int32) (v0_thrown : Int32) (v0_rules : Int32) (v0_arcs : Int32) (v0_known : Int32) (v0_wayState : Int32) (c1 : (Nat → Int32)) (c2 : (Nat → Int32)) (H : Heap) (locs : List Loc) (ls : Array Slot), va_P (dC, dI) vwCl (wX11_clear h0 h1 h2 kc1 kc2 V0 v0_thrown v0_rules v0_arcs v0_known v0_wayState c1 c2) H → va_D A (wX11_clear h0 h1 h2 kc1 kc2 V0 v0_thrown v0_rules v0_arcs v0_known v0_wayState c1 c2) → va_S A s.heap H locs → lv_has ls 3 [(0, .ref h0), (1, .int y1), (2, .int y2)] → k44 y1 y2 v0_thrown v0_rules v0_arcs v0_known v0_wayState c1 c2 = some o → G 0 0 H locs (F0 m 44 ls [])), ∀ (y1 : Int32) (y2 : Int32) (v0_thrown : Int32) (v0_rules : Int32) (v0_arcs : Int32) (v0_known : Int32) (v0_wayState : Int32) (c1 : (Nat → Int32)) (c2 : (Nat → Int32)) (H : Heap) (locs : List Loc) (ls : Array Slot), va_P (dC, dI) vwCl (wX11_clear h0 h1 h2 kc1 kc2 V0 v0_thrown v0_rules v0_arcs v0_known v0_wayState c1 c2) H → va_D A (wX11_clear h0 h1 h2 kc1 kc2 V0 v0_thrown v0_rules v0_arcs v0_known v0_wayState c1 c2) → va_S A s.heap H locs → lv_has ls 3 [(0, .ref h0), (1, .int y1), (2, .int y2)] → fX11_clear_b44   k44 y1 y2 v0_thrown v0_rules v0_arcs v0_known v0_wayState c1 c2 = some o → G 0 0 H locs (F0 m 44 ls []) := by
    intro  k44 hk44 y1 y2 v0_thrown v0_rules v0_arcs v0_known v0_wayState c1 c2 H locs ls hP hD hS hl hf
    refine (hG _ _ _ _ _).mpr ?_
    unfold fX11_clear_b44 at hf
    refine lv_iload_n hx hb dX11_clear_44 rfl (lv_at hl 2 rfl) ?_
    refine lv_bipush (v := 16) hx hb dX11_clear_45 (by decide +kernel) ?_
    refine lv_icmp_ge (tgt := 63) hx hb dX11_clear_47 (by decide) (fun cq1 => ?_) (fun cq1 => ?_)
    · replace hf := if_at hf cq1
      refine lv_aload_n hx hb dX11_clear_63 rfl (lv_at hl 0 rfl) ?_
      obtain ⟨o2, e2, hf⟩ := ob_some hf
      refine kVv (As := []) (rest := []) ⟨hx, hb, hml, hown, hts⟩ (mX11_forget l dC dI h0 H.size base v0_known v0_wayState (fun k => match k with | 0 => .int v0_thrown | 1 => .int v0_rules | 3 => .int v0_arcs | 4 => .ref h1 | 5 => .ref h2 | k => V0 k) o2 e2) (cwV 0 hts (gTV q151 q152 q153 q5 q154) rfl rfl rfl (by decide +kernel) ⟨Nat.le_of_ble_eq_true rfl, Nat.le_of_ble_eq_true rfl⟩) hK hP hD hS hA hE hAB [0] [1, 2] [] (wr := [(h1, .inl (kc1, 3072, .inl c1)), (h2, .inl (kc2, 16, .inl c2))]) rfl rfl (by decide) (by decide) (by decide) rfl (ci := 11) (q0 := 0) rfl rfl rfl rfl hl.1 rfl (Nat.le_of_ble_eq_true rfl) dX11_clear_64 ⟨Nat.zero_le _, Nat.zero_le _⟩ (fun u2 H locs hw2 hP hD hS => ?_)
      have hw21 : o2 = u2 := Eq.symm hw2
      subst hw21
      have hP : va_P (dC, dI) vwCl (wX11_clear h0 h1 h2 kc1 kc2 V0 v0_thrown v0_rules v0_arcs o2.1 o2.2 c1 c2) H := hP.sub [2, 0, 1] rfl
      have hD : va_D A (wX11_clear h0 h1 h2 kc1 kc2 V0 v0_thrown v0_rules v0_arcs o2.1 o2.2 c1 c2) := hD.sub [2, 0, 1] (by decide) rfl
      refine lv_iload_n hx hb dX11_clear_67 rfl (lv_at hl 1 rfl) ?_
      have hf1 := Option.some.inj hf
      subst hf1
      have hP9 := hP.sub (ws' := (wX11_clear h0 h1 h2 kc1 kc2 V0 v0_thrown v0_rules v0_arcs o2.1 o2.2 c1 c2)) [0, 1, 2] rfl
      have hD9 := hD.sub (ws' := (wX11_clear h0 h1 h2 kc1 kc2 V0 v0_thrown v0_rules v0_arcs o2.1 o2.2 c1 c2)) [0, 1, 2] (by decide) rfl
      exact W.iret (v := y1) hx hb hr (fun t ht hW => ⟨⟨y1, (v0_thrown, v0_rules, v0_arcs, o2.1, o2.2, c1, c2), rfl, ⟨rfl, rfl⟩, by rw [ht]; exact hP9, va_K.moved hW.alike hK, hD9⟩, hS.F ht⟩) hS.2.2 dX11_clear_68
    · replace hf := if_no hf cq1
      refine lv_aload_n hx hb dX11_clear_50 rfl (lv_at hl 0 rfl) ?_
      refine va_get (D := (dC, dI)) (ci := 11) (v := .ref h2) (C := RX11) (T := TX11) (N := 71) hx hb hts inlX11 hown hK hP 0 rfl rfl 5 (by decide) w0_ (fun _ h9 => h9) rfl dX11_clear_51 ?_
      refine lv_iload_n hx hb dX11_clear_54 rfl (lv_at hl 2 rfl) ?_
      refine lv_iconst (v := 0) hx hb dX11_clear_55 (by decide +kernel) ?_
      have b3 := bd_in hf
      replace hf := bd_k hf
      obtain ⟨c3x, e3⟩ : ∃ y, y = upd c2 y2.toNatClampNeg (vp_nar .boolean 0) := ⟨_, rfl⟩
      replace hf := nm_at hf e3
      refine va_zast hx hb hK hP hD hS 2 1 rfl rfl b3 dX11_clear_56 (fun H locs hP hD hS => ?_)
      have hP : va_P (dC, dI) vwCl (wX11_clear h0 h1 h2 kc1 kc2 V0 v0_thrown v0_rules v0_arcs v0_known v0_wayState c1 c3x) H := by rw [e3]; exact hP
      have hD : va_D A (wX11_clear h0 h1 h2 kc1 kc2 V0 v0_thrown v0_rules v0_arcs v0_known v0_wayState c1 c3x) := by rw [e3]; exact hD
      obtain ⟨x4, e4⟩ : ∃ y : Int32, y = y2 + 1 := ⟨_, rfl⟩
      replace hf := nm_at hf e4
      refine lv_iinc (v := x4) (lv' := [(2, .int x4), (0, .ref h0), (1, .int y1)]) hx hb dX11_clear_57 hl (k := 2) rfl (by rw [e4]; rfl) (by decide) rfl (fun ls hl => ?_)
      refine lv_goto (tgt := 44) hx hb dX11_clear_60 (by decide) ?_
      exact (hG _ _ _ _ _).mp (hk44 y1 x4 v0_thrown v0_rules v0_arcs v0_known v0_wayState c1 c3x H locs ls (hP.sub [0, 1, 2] rfl) (hD.sub [0, 1, 2] (by decide) rfl) hS (lv_sub hl [1, 2, 0] rfl) hf)
  have L44 : ∀ (n : Nat), ∀ (y1 : Int32) (y2 : Int32) (v0_thrown : Int32) (v0_rules : Int32) (v0_arcs : Int32) (v0_known : Int32) (v0_wayState : Int32) (c1 : (Nat → Int32)) (c2 : (Nat → Int32)) (H : Heap) (locs : List Loc) (ls : Array Slot), va_P (dC, dI) vwCl (wX11_clear h0 h1 h2 kc1 kc2 V0 v0_thrown v0_rules v0_arcs v0_known v0_wayState c1 c2) H → va_D A (wX11_clear h0 h1 h2 kc1 kc2 V0 v0_thrown v0_rules v0_arcs v0_known v0_wayState c1 c2) → va_S A s.heap H locs → lv_has ls 3 [(0, .ref h0), (1, .int y1), (2, .int y2)] → fX11_clear_l44   n y1 y2 v0_thrown v0_rules v0_arcs v0_known v0_wayState c1 c2 = some o → G 0 0 H locs (F0 m 44 ls []) := by
    intro  n
    induction n with
    | zero => intro y1 y2 v0_thrown v0_rules v0_arcs v0_known v0_wayState c1 c2 H locs ls _ _ _ _ hf; cases hf
    | succ n ih => exact B44  _ ih
  have B22 : ∀ (k22 : Int32 → Int32 → Int32 → Int32 → Int32 → Int32 → Int32 → (Nat → Int32) → (Nat → Int32) → Option (Int32 × Int32 × Int32 × Int32 × Int32 × Int32 × (Nat → Int32) × (Nat → Int32))) (hk22 : ∀ (y1 : Int32) (y2 : Int32) (v0_thrown : Int32) (v0_rules : Int32) (v0_arcs : Int32) (v0_known : Int32) (v0_wayState : Int32) (c1 : (Nat → Int32)) (c2 : (Nat → Int32)) (H : Heap) (locs : List Loc) (ls : Array Slot), va_P (dC, dI) vwCl (wX11_clear h0 h1 h2 kc1 kc2 V0 v0_thrown v0_rules v0_arcs v0_known v0_wayState c1 c2) H → va_D A (wX11_clear h0 h1 h2 kc1 kc2 V0 v0_thrown v0_rules v0_arcs v0_known v0_wayState c1 c2) → va_S A s.heap H locs → lv_has ls 3 [(0, .ref h0), (1, .int y1), (2, .int y2)] → k22 y1 y2 v0_thrown v0_rules v0_arcs v0_known v0_wayState c1 c2 = some o → G 0 0 H locs (F0 m 22 ls [])), ∀ (y1 : Int32) (y2 : Int32) (v0_thrown : Int32) (v0_rules : Int32) (v0_arcs : Int32) (v0_known : Int32) (v0_wayState : Int32) (c1 : (Nat → Int32)) (c2 : (Nat → Int32)) (H : Heap) (locs : List Loc) (ls : Array Slot), va_P (dC, dI) vwCl (wX11_clear h0 h1 h2 kc1 kc2 V0 v0_thrown v0_rules v0_arcs v0_known v0_wayState c1 c2) H → va_D A (wX11_clear h0 h1 h2 kc1 kc2 V0 v0_thrown v0_rules v0_arcs v0_known v0_wayState c1 c2) → va_S A s.heap H locs → lv_has ls 3 [(0, .ref h0), (1, .int y1), (2, .int y2)] → fX11_clear_b22   k22 y1 y2 v0_thrown v0_rules v0_arcs v0_known v0_wayState c1 c2 = some o → G 0 0 H locs (F0 m 22 ls []) := by
    intro  k22 hk22 y1 y2 v0_thrown v0_rules v0_arcs v0_known v0_wayState c1 c2 H locs ls hP hD hS hl hf
    refine (hG _ _ _ _ _).mpr ?_
    unfold fX11_clear_b22 at hf
    refine lv_iload_n hx hb dX11_clear_22 rfl (lv_at hl 2 rfl) ?_
    refine lv_sipush (v := 3072) hx hb dX11_clear_23 (by decide +kernel) ?_
    refine lv_icmp_ge (tgt := 42) hx hb dX11_clear_26 (by decide) (fun cq5 => ?_) (fun cq5 => ?_)
    · replace hf := if_at hf cq5
      refine lv_iconst (v := 0) hx hb dX11_clear_42 (by decide +kernel) ?_
      refine lv_istore_n (lv' := [(2, .int 0), (0, .ref h0), (1, .int y1)]) hx hb dX11_clear_43 rfl hl (by decide) rfl (fun ls hl => ?_)
      exact (hG _ _ _ _ _).mp (L44 FU y1 0 v0_thrown v0_rules v0_arcs v0_known v0_wayState c1 c2 H locs ls (hP.sub [0, 1, 2] rfl) (hD.sub [0, 1, 2] (by decide) rfl) hS (lv_sub hl [1, 2, 0] rfl) hf)
    · replace hf := if_no hf cq5
      refine lv_aload_n hx hb dX11_clear_29 rfl (lv_at hl 0 rfl) ?_
      refine va_get (D := (dC, dI)) (ci := 11) (v := .ref h1) (C := RX11) (T := TX11) (N := 71) hx hb hts inlX11 hown hK hP 0 rfl rfl 4 (by decide) w1_ (fun _ h9 => h9) rfl dX11_clear_30 ?_
      refine lv_iload_n hx hb dX11_clear_33 rfl (lv_at hl 2 rfl) ?_
      refine lv_iconst (v := 0) hx hb dX11_clear_34 (by decide +kernel) ?_
      have b6 := bd_in hf
      replace hf := bd_k hf
      obtain ⟨c6x, e6⟩ : ∃ y, y = upd c1 y2.toNatClampNeg (vp_nar .boolean 0) := ⟨_, rfl⟩
      replace hf := nm_at hf e6
      refine va_zast hx hb hK hP hD hS 1 0 rfl rfl b6 dX11_clear_35 (fun H locs hP hD hS => ?_)
      have hP : va_P (dC, dI) vwCl (wX11_clear h0 h1 h2 kc1 kc2 V0 v0_thrown v0_rules v0_arcs v0_known v0_wayState c6x c2) H := by rw [e6]; exact hP
      have hD : va_D A (wX11_clear h0 h1 h2 kc1 kc2 V0 v0_thrown v0_rules v0_arcs v0_known v0_wayState c6x c2) := by rw [e6]; exact hD
      obtain ⟨x7, e7⟩ : ∃ y : Int32, y = y2 + 1 := ⟨_, rfl⟩
      replace hf := nm_at hf e7
      refine lv_iinc (v := x7) (lv' := [(2, .int x7), (0, .ref h0), (1, .int y1)]) hx hb dX11_clear_36 hl (k := 2) rfl (by rw [e7]; rfl) (by decide) rfl (fun ls hl => ?_)
      refine lv_goto (tgt := 22) hx hb dX11_clear_39 (by decide) ?_
      exact (hG _ _ _ _ _).mp (hk22 y1 x7 v0_thrown v0_rules v0_arcs v0_known v0_wayState c6x c2 H locs ls (hP.sub [0, 1, 2] rfl) (hD.sub [0, 1, 2] (by decide) rfl) hS (lv_sub hl [1, 2, 0] rfl) hf)
  have L22 : ∀ (n : Nat), ∀ (y1 : Int32) (y2 : Int32) (v0_thrown : Int32) (v0_rules : Int32) (v0_arcs : Int32) (v0_known : Int32) (v0_wayState : Int32) (c1 : (Nat → Int32)) (c2 : (Nat → Int32)) (H : Heap) (locs : List Loc) (ls : Array Slot), va_P (dC, dI) vwCl (wX11_clear h0 h1 h2 kc1 kc2 V0 v0_thrown v0_rules v0_arcs v0_known v0_wayState c1 c2) H → va_D A (wX11_clear h0 h1 h2 kc1 kc2 V0 v0_thrown v0_rules v0_arcs v0_known v0_wayState c1 c2) → va_S A s.heap H locs → lv_has ls 3 [(0, .ref h0), (1, .int y1), (2, .int y2)] → fX11_clear_l22   n y1 y2 v0_thrown v0_rules v0_arcs v0_known v0_wayState c1 c2 = some o → G 0 0 H locs (F0 m 22 ls []) := by
    intro  n
    induction n with
    | zero => intro y1 y2 v0_thrown v0_rules v0_arcs v0_known v0_wayState c1 c2 H locs ls _ _ _ _ hf; cases hf
    | succ n ih => exact B22  _ ih
  refine (hG _ _ _ _ _).mpr ?_
  obtain ⟨H, hH⟩ : ∃ H, H = s.heap := ⟨_, rfl⟩
  have hS : va_S A s.heap H [] := by rw [hH]; exact hS
  rw [← hH] at hP ⊢
  generalize ([] : List Loc) = locs at hS ⊢
  unfold fX11_clear at hf
  refine lv_aload_n hx hb dX11_clear_0 rfl (lv_at hl 0 rfl) ?_
  refine lv_iconst (v := 0) hx hb dX11_clear_1 (by decide +kernel) ?_
  refine va_put (D := (dC, dI)) (ci := 11) (v := .int 0) (ty := .int) (C := RX11) (T := TX11) (N := 71) hx hb hts inlX11 tyX11 tyX11_ok nmX11 hown hK hP hD hS 0 rfl rfl 0 (by decide) w2_ (fun _ h9 => h9) rfl (by decide +kernel) rfl rfl (Nat.le_of_ble_eq_true rfl) dX11_clear_2 (fun H locs hP hD hS => ?_)
  have hP : va_P (dC, dI) vwCl (wX11_clear h0 h1 h2 kc1 kc2 V0 0 v0_rules v0_arcs v0_known v0_wayState c1 c2) H := hP
  have hD : va_D A (wX11_clear h0 h1 h2 kc1 kc2 V0 0 v0_rules v0_arcs v0_known v0_wayState c1 c2) := hD
  refine lv_aload_n hx hb dX11_clear_5 rfl (lv_at hl 0 rfl) ?_
  refine va_get (D := (dC, dI)) (ci := 11) (v := .int v0_rules) (C := RX11) (T := TX11) (N := 71) hx hb hts inlX11 hown hK hP 0 rfl rfl 1 (by decide) w3_ (fun _ h9 => h9) rfl dX11_clear_6 ?_
  refine lv_istore_n (lv' := [(1, .int v0_rules), (0, .ref h0)]) hx hb dX11_clear_9 rfl hl (by decide) rfl (fun ls hl => ?_)
  refine lv_aload_n hx hb dX11_clear_10 rfl (lv_at hl 1 rfl) ?_
  refine lv_iconst (v := 0) hx hb dX11_clear_11 (by decide +kernel) ?_
  refine va_put (D := (dC, dI)) (ci := 11) (v := .int 0) (ty := .int) (C := RX11) (T := TX11) (N := 71) hx hb hts inlX11 tyX11 tyX11_ok nmX11 hown hK hP hD hS 0 rfl rfl 1 (by decide) w3_ (fun _ h9 => h9) rfl (by decide +kernel) rfl rfl (Nat.le_of_ble_eq_true rfl) dX11_clear_12 (fun H locs hP hD hS => ?_)
  have hP : va_P (dC, dI) vwCl (wX11_clear h0 h1 h2 kc1 kc2 V0 0 0 v0_arcs v0_known v0_wayState c1 c2) H := hP
  have hD : va_D A (wX11_clear h0 h1 h2 kc1 kc2 V0 0 0 v0_arcs v0_known v0_wayState c1 c2) := hD
  refine lv_aload_n hx hb dX11_clear_15 rfl (lv_at hl 1 rfl) ?_
  refine lv_iconst (v := 0) hx hb dX11_clear_16 (by decide +kernel) ?_
  refine va_put (D := (dC, dI)) (ci := 11) (v := .int 0) (ty := .int) (C := RX11) (T := TX11) (N := 71) hx hb hts inlX11 tyX11 tyX11_ok nmX11 hown hK hP hD hS 0 rfl rfl 3 (by decide) w4_ (fun _ h9 => h9) rfl (by decide +kernel) rfl rfl (Nat.le_of_ble_eq_true rfl) dX11_clear_17 (fun H locs hP hD hS => ?_)
  have hP : va_P (dC, dI) vwCl (wX11_clear h0 h1 h2 kc1 kc2 V0 0 0 0 v0_known v0_wayState c1 c2) H := hP
  have hD : va_D A (wX11_clear h0 h1 h2 kc1 kc2 V0 0 0 0 v0_known v0_wayState c1 c2) := hD
  refine lv_iconst (v := 0) hx hb dX11_clear_20 (by decide +kernel) ?_
  refine lv_istore_n (lv' := [(2, .int 0), (1, .int v0_rules), (0, .ref h0)]) hx hb dX11_clear_21 rfl hl (by decide) rfl (fun ls hl => ?_)
  exact (hG _ _ _ _ _).mp (L22 FU v0_rules 0 0 0 0 v0_known v0_wayState c1 c2 H locs ls (hP.sub [0, 1, 2] rfl) (hD.sub [0, 1, 2] (by decide) rfl) hS (lv_sub hl [2, 1, 0] rfl) hf)
