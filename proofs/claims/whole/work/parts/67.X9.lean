abbrev wX9_leastRule (h0 h1 h2 h3 h4 h5 h6 h7 h8 h9 h10 h11 : Nat) (kc2 kc3 kc5 kc6 kc7 kc8 kc10 kc11 : ClassId) (n7 : Nat) (V0 : Nat → Value) (V1 : Nat → Value) (V4 : Nat → Value) (V9 : Nat → Value) (v1_rules : Int32) (c2 : Nat → Int32) (c3 : Nat → Int32) (v4_height : Int32) (c5 : Nat → Int32) (c6 : Nat → Int32) (c7 : Nat → Int32) (c8 : Nat → Int32) (c10 : Nat → Int32) (c11 : Nat → Int32) : va_W := [(h0, .inr (9, [.ref h1, .ref h4, V0 2, V0 3, V0 4, V0 5, V0 6])), (h1, .inr (6, [.ref h2, .ref h3, .ref h5, .ref h6, .ref h8, .ref h11, .int v1_rules, V1 7, V1 8, V1 9, V1 10, V1 11, V1 12, V1 13])), (h2, .inl (kc2, 48, .inl c2)), (h3, .inl (kc3, 48, .inl c3)), (h4, .inr (7, [.ref h9, V4 1, V4 2, .ref h7, .int v4_height])), (h5, .inl (kc5, 48, .inl c5)), (h6, .inl (kc6, 48, .inl c6)), (h7, .inl (kc7, n7, .inl c7)), (h8, .inl (kc8, 48, .inl c8)), (h9, .inr (1, [.ref h10, V9 1, V9 2])), (h10, .inl (kc10, 3072, .inl c10)), (h11, .inl (kc11, 48, .inl c11))]
set_option maxHeartbeats 4000000 in
set_option maxRecDepth 100000 in
theorem mX9_leastRule (l : Launch) (dC : Nat → ClassId) (dI : Nat → Nat → Nat) (h0 h1 h2 h3 h4 h5 h6 h7 h8 h9 h10 h11 : Nat) (kc2 kc3 kc5 kc6 kc7 kc8 kc10 kc11 : ClassId) (sz : Nat) (base : Nat × Nat × Nat) (a0 : Int32) (a1 : Int32) (a2 : Int32) (n7 : Nat) (v1_rules : Int32) (c2 : Nat → Int32) (c3 : Nat → Int32) (v4_height : Int32) (c5 : Nat → Int32) (c6 : Nat → Int32) (c7 : Nat → Int32) (c8 : Nat → Int32) (c10 : Nat → Int32) (c11 : Nat → Int32) (V0 : Nat → Value) (V1 : Nat → Value) (V4 : Nat → Value) (V9 : Nat → Value) (o : Int32 × Unit) (hf : fX9_leastRule a0 a1 a2 n7 v1_rules c2 c3 v4_height c5 c6 c7 c8 c10 c11 = some o) : Met l yX9_leastRule (.code yX9_leastRule cX9_leastRule 5 (some .int) :: wsL_law) ({ frames := 4, cells := 0, slots := 0, locals := 95 }) (cPre (dC, dI) vwCl [.ref h0, .int a0, .int a1, .int a2] sz base (wX9_leastRule h0 h1 h2 h3 h4 h5 h6 h7 h8 h9 h10 h11 kc2 kc3 kc5 kc6 kc7 kc8 kc10 kc11 n7 V0 V1 V4 V9 v1_rules c2 c3 v4_height c5 c6 c7 c8 c10 c11) [(kc2, .int), (kc3, .int), (kc5, .int), (kc6, .int), (kc7, .int), (kc8, .int), (kc10, .int), (kc11, .int)]) (va_Qi (fun r u => r = o.1 ∧ u = o.2) (fun (u : Unit) t => cPost (dC, dI) vwCl (va_A (wX9_leastRule h0 h1 h2 h3 h4 h5 h6 h7 h8 h9 h10 h11 kc2 kc3 kc5 kc6 kc7 kc8 kc10 kc11 n7 V0 V1 V4 V9 v1_rules c2 c3 v4_height c5 c6 c7 c8 c10 c11) sz) (wX9_leastRule h0 h1 h2 h3 h4 h5 h6 h7 h8 h9 h10 h11 kc2 kc3 kc5 kc6 kc7 kc8 kc10 kc11 n7 V0 V1 V4 V9 v1_rules c2 c3 v4_height c5 c6 c7 c8 c10 c11) [(kc2, .int), (kc3, .int), (kc5, .int), (kc6, .int), (kc7, .int), (kc8, .int), (kc10, .int), (kc11, .int)] t) (va_A (wX9_leastRule h0 h1 h2 h3 h4 h5 h6 h7 h8 h9 h10 h11 kc2 kc3 kc5 kc6 kc7 kc8 kc10 kc11 n7 V0 V1 V4 V9 v1_rules c2 c3 v4_height c5 c6 c7 c8 c10 c11) sz)) 0 0 (va_A (wX9_leastRule h0 h1 h2 h3 h4 h5 h6 h7 h8 h9 h10 h11 kc2 kc3 kc5 kc6 kc7 kc8 kc10 kc11 n7 V0 V1 V4 V9 v1_rules c2 c3 v4_height c5 c6 c7 c8 c10 c11) sz) := by
  refine Met.ofW (cc := cX9_leastRule) (maxL := 5) (ret := (some .int)) (by decide) rfl ?_
  intro p e s m args below meth c s₁ B hml hv
  obtain ⟨rfl, hsz, hP, hK, hD0, hE⟩ := hv
  have hx := B.exec
  have hb := B.bytes
  have hr := B.returns
  have hts : ∀ w ∈ wsL_law, _ := fun w h => atoms_spec (ws := .code yX9_leastRule cX9_leastRule 5 (some .int) :: wsL_law) B.pre w (List.mem_cons_of_mem _ h)
  have hown : s.vm.findClass RX9 = some m.cls := findClass_of_methodNamed B.named
  have hlocks := B.notSynchronized
  have w0_ := hts _ q387
  have w1_ := hts _ q420
  have w2_ := hts _ q421
  have w3_ := hts _ q422
  have w4_ := hts _ q403
  subst hsz
  have hD := hD0.self (sz := s.heap.size)
  generalize hAe : va_A (wX9_leastRule h0 h1 h2 h3 h4 h5 h6 h7 h8 h9 h10 h11 kc2 kc3 kc5 kc6 kc7 kc8 kc10 kc11 n7 V0 V1 V4 V9 v1_rules c2 c3 v4_height c5 c6 c7 c8 c10 c11) s.heap.size = A at hD ⊢
  have hA : ∀ q : Nat, s.heap.size ≤ q → A q := fun q h => by rw [← hAe]; exact Or.inr h
  have hAB : ∀ q : Nat, A q → base.1 ≤ q := fun q h => by rw [← hAe] at h; exact h.elim (fun ⟨k, e, hk⟩ => hD0.2 k _ hk) (fun hk => Nat.le_trans hE.1 hk)
  have hS : va_S A s.heap s.heap [] := va_S.rf
  have hl := lv_entry ([.ref h0, .int a0, .int a1, .int a2]) (n := 5) (Nat.le_of_ble_eq_true rfl)
  rw [lg_entry_eq]
  generalize (lg_sl ([.ref h0, .int a0, .int a1, .int a2]) ++ List.replicate (5 - (lg_sl ([.ref h0, .int a0, .int a1, .int a2])).length) Slot.unset).toArray = ls at hl ⊢
  have hl : lv_has ls 5 [(0, .ref h0), (1, .int a0), (2, .int a1), (3, .int a2)] := hl
  have hP : va_P (dC, dI) vwCl (wX9_leastRule h0 h1 h2 h3 h4 h5 h6 h7 h8 h9 h10 h11 kc2 kc3 kc5 kc6 kc7 kc8 kc10 kc11 n7 V0 V1 V4 V9 v1_rules c2 c3 v4_height c5 c6 c7 c8 c10 c11) s.heap := hP
  refine gl_intro (fun G hG => ?_)
  have J63 : ∀ (k3 : Int32 → Int32 → Int32 → Int32 → Option (Int32 × Unit)) (hk3 : ∀ (y1 : Int32) (y2 : Int32) (y3 : Int32) (y4 : Int32) (H : Heap) (locs : List Loc) (ls : Array Slot), va_P (dC, dI) vwCl (wX9_leastRule h0 h1 h2 h3 h4 h5 h6 h7 h8 h9 h10 h11 kc2 kc3 kc5 kc6 kc7 kc8 kc10 kc11 n7 V0 V1 V4 V9 v1_rules c2 c3 v4_height c5 c6 c7 c8 c10 c11) H → va_D A (wX9_leastRule h0 h1 h2 h3 h4 h5 h6 h7 h8 h9 h10 h11 kc2 kc3 kc5 kc6 kc7 kc8 kc10 kc11 n7 V0 V1 V4 V9 v1_rules c2 c3 v4_height c5 c6 c7 c8 c10 c11) → va_S A s.heap H locs → lv_has ls 5 [(0, .ref h0), (1, .int y1), (2, .int y2), (3, .int y3), (4, .int y4)] → k3 y1 y2 y3 y4 = some o → G 0 0 H locs (F0 m 3 ls [])), ∀ (y1 : Int32) (y2 : Int32) (y3 : Int32) (y4 : Int32) (H : Heap) (locs : List Loc) (ls : Array Slot), va_P (dC, dI) vwCl (wX9_leastRule h0 h1 h2 h3 h4 h5 h6 h7 h8 h9 h10 h11 kc2 kc3 kc5 kc6 kc7 kc8 kc10 kc11 n7 V0 V1 V4 V9 v1_rules c2 c3 v4_height c5 c6 c7 c8 c10 c11) H → va_D A (wX9_leastRule h0 h1 h2 h3 h4 h5 h6 h7 h8 h9 h10 h11 kc2 kc3 kc5 kc6 kc7 kc8 kc10 kc11 n7 V0 V1 V4 V9 v1_rules c2 c3 v4_height c5 c6 c7 c8 c10 c11) → va_S A s.heap H locs → lv_has ls 5 [(0, .ref h0), (1, .int y1), (2, .int y2), (3, .int y3), (4, .int y4)] → fX9_leastRule_p63 n7 v1_rules c2 c3 v4_height c5 c6 c7 c8 c10 c11 k3 y1 y2 y3 y4 = some o → G 0 0 H locs (F0 m 63 ls []) := by
    intro k3 hk3 y1 y2 y3 y4 H locs ls hP hD hS hl hf
    refine (hG _ _ _ _ _).mpr ?_
    unfold fX9_leastRule_p63 at hf
    obtain ⟨x1, e1⟩ : ∃ y : Int32, y = y4 + 1 := ⟨_, rfl⟩
    replace hf := nm_at hf e1
    refine lv_iinc (v := x1) (lv' := [(4, .int x1), (0, .ref h0), (1, .int y1), (2, .int y2), (3, .int y3)]) hx hb dX9_leastRule_63 hl (k := 4) rfl (by rw [e1]; rfl) (by decide) rfl (fun ls hl => ?_)
    refine lv_goto (tgt := 3) hx hb dX9_leastRule_66 (by decide) ?_
    exact (hG _ _ _ _ _).mp (hk3 y1 y2 y3 x1 H locs ls (hP.sub [0, 1, 2, 3, 4, 5, 6, 7, 8, 9, 10, 11] rfl) (hD.sub [0, 1, 2, 3, 4, 5, 6, 7, 8, 9, 10, 11] (by decide) rfl) hS (lv_sub hl [1, 2, 3, 4, 0] rfl) hf)
  have B3 : ∀ (k3 : Int32 → Int32 → Int32 → Int32 → Option (Int32 × Unit)) (hk3 : ∀ (y1 : Int32) (y2 : Int32) (y3 : Int32) (y4 : Int32) (H : Heap) (locs : List Loc) (ls : Array Slot), va_P (dC, dI) vwCl (wX9_leastRule h0 h1 h2 h3 h4 h5 h6 h7 h8 h9 h10 h11 kc2 kc3 kc5 kc6 kc7 kc8 kc10 kc11 n7 V0 V1 V4 V9 v1_rules c2 c3 v4_height c5 c6 c7 c8 c10 c11) H → va_D A (wX9_leastRule h0 h1 h2 h3 h4 h5 h6 h7 h8 h9 h10 h11 kc2 kc3 kc5 kc6 kc7 kc8 kc10 kc11 n7 V0 V1 V4 V9 v1_rules c2 c3 v4_height c5 c6 c7 c8 c10 c11) → va_S A s.heap H locs → lv_has ls 5 [(0, .ref h0), (1, .int y1), (2, .int y2), (3, .int y3), (4, .int y4)] → k3 y1 y2 y3 y4 = some o → G 0 0 H locs (F0 m 3 ls [])), ∀ (y1 : Int32) (y2 : Int32) (y3 : Int32) (y4 : Int32) (H : Heap) (locs : List Loc) (ls : Array Slot), va_P (dC, dI) vwCl (wX9_leastRule h0 h1 h2 h3 h4 h5 h6 h7 h8 h9 h10 h11 kc2 kc3 kc5 kc6 kc7 kc8 kc10 kc11 n7 V0 V1 V4 V9 v1_rules c2 c3 v4_height c5 c6 c7 c8 c10 c11) H → va_D A (wX9_leastRule h0 h1 h2 h3 h4 h5 h6 h7 h8 h9 h10 h11 kc2 kc3 kc5 kc6 kc7 kc8 kc10 kc11 n7 V0 V1 V4 V9 v1_rules c2 c3 v4_height c5 c6 c7 c8 c10 c11) → va_S A s.heap H locs → lv_has ls 5 [(0, .ref h0), (1, .int y1), (2, .int y2), (3, .int y3), (4, .int y4)] → fX9_leastRule_b3 n7 v1_rules c2 c3 v4_height c5 c6 c7 c8 c10 c11  k3 y1 y2 y3 y4 = some o → G 0 0 H locs (F0 m 3 ls []) := by
    intro  k3 hk3 y1 y2 y3 y4 H locs ls hP hD hS hl hf
    refine (hG _ _ _ _ _).mpr ?_
    unfold fX9_leastRule_b3 at hf
    refine lv_iload hx hb dX9_leastRule_3 (lv_at hl 4 rfl) ?_
    refine lv_aload_n hx hb dX9_leastRule_5 rfl (lv_at hl 0 rfl) ?_
    refine va_get (D := (dC, dI)) (ci := 9) (v := .ref h1) (C := RX9) (T := TX9) (N := 7) hx hb hts inlX9 hown hK hP 0 rfl rfl 0 (by decide) w0_ (fun _ h9 => h9) rfl dX9_leastRule_6 ?_
    refine va_get (D := (dC, dI)) (ci := 6) (v := .int v1_rules) (C := RX6) (T := TX6) (N := 14) hx hb hts inlX6 hown hK hP 1 rfl rfl 6 (by decide) w1_ (fun _ h9 => h9) rfl dX9_leastRule_9 ?_
    refine lv_icmp_ge (tgt := 69) hx hb dX9_leastRule_12 (by decide) (fun cq2 => ?_) (fun cq2 => ?_)
    · replace hf := if_at hf cq2
      refine lv_iconst (v := (-1)) hx hb dX9_leastRule_69 (by decide +kernel) ?_
      have hf1 := Option.some.inj hf
      subst hf1
      have hP9 := hP.sub (ws' := (wX9_leastRule h0 h1 h2 h3 h4 h5 h6 h7 h8 h9 h10 h11 kc2 kc3 kc5 kc6 kc7 kc8 kc10 kc11 n7 V0 V1 V4 V9 v1_rules c2 c3 v4_height c5 c6 c7 c8 c10 c11)) [0, 1, 2, 3, 4, 5, 6, 7, 8, 9, 10, 11] rfl
      have hD9 := hD.sub (ws' := (wX9_leastRule h0 h1 h2 h3 h4 h5 h6 h7 h8 h9 h10 h11 kc2 kc3 kc5 kc6 kc7 kc8 kc10 kc11 n7 V0 V1 V4 V9 v1_rules c2 c3 v4_height c5 c6 c7 c8 c10 c11)) [0, 1, 2, 3, 4, 5, 6, 7, 8, 9, 10, 11] (by decide) rfl
      exact W.iret (v := (-1)) hx hb hr (fun t ht hW => ⟨⟨(-1), (), rfl, ⟨rfl, rfl⟩, by rw [ht]; exact hP9, va_K.moved hW.alike hK, hD9⟩, hS.F ht⟩) hS.2.2 dX9_leastRule_70
    · replace hf := if_no hf cq2
      refine lv_aload_n hx hb dX9_leastRule_15 rfl (lv_at hl 0 rfl) ?_
      refine va_get (D := (dC, dI)) (ci := 9) (v := .ref h1) (C := RX9) (T := TX9) (N := 7) hx hb hts inlX9 hown hK hP 0 rfl rfl 0 (by decide) w0_ (fun _ h9 => h9) rfl dX9_leastRule_16 ?_
      refine va_get (D := (dC, dI)) (ci := 6) (v := .ref h2) (C := RX6) (T := TX6) (N := 14) hx hb hts inlX6 hown hK hP 1 rfl rfl 0 (by decide) w2_ (fun _ h9 => h9) rfl dX9_leastRule_19 ?_
      refine lv_iload hx hb dX9_leastRule_22 (lv_at hl 4 rfl) ?_
      have b3 := bd_in hf
      replace hf := bd_k hf
      refine va_iald hx hb hK hP 2 0 rfl rfl b3 dX9_leastRule_24 ?_
      refine lv_topi (fun x4 e4 => ?_)
      replace hf := nm_at hf e4
      refine lv_iload_n hx hb dX9_leastRule_25 rfl (lv_at hl 1 rfl) ?_
      refine lv_icmp_ne (tgt := 63) hx hb dX9_leastRule_26 (by decide) (fun cq5 => ?_) (fun cq5 => ?_)
      · replace hf := if_no hf cq5
        exact (hG _ _ _ _ _).mp (J63 k3 hk3 y1 y2 y3 y4 H locs ls (hP.sub [0, 1, 2, 3, 4, 5, 6, 7, 8, 9, 10, 11] rfl) (hD.sub [0, 1, 2, 3, 4, 5, 6, 7, 8, 9, 10, 11] (by decide) rfl) hS (lv_sub hl [0, 1, 2, 3, 4] rfl) hf)
      · replace hf := if_at hf cq5
        refine lv_aload_n hx hb dX9_leastRule_29 rfl (lv_at hl 0 rfl) ?_
        refine va_get (D := (dC, dI)) (ci := 9) (v := .ref h1) (C := RX9) (T := TX9) (N := 7) hx hb hts inlX9 hown hK hP 0 rfl rfl 0 (by decide) w0_ (fun _ h9 => h9) rfl dX9_leastRule_30 ?_
        refine va_get (D := (dC, dI)) (ci := 6) (v := .ref h3) (C := RX6) (T := TX6) (N := 14) hx hb hts inlX6 hown hK hP 1 rfl rfl 1 (by decide) w3_ (fun _ h9 => h9) rfl dX9_leastRule_33 ?_
        refine lv_iload hx hb dX9_leastRule_36 (lv_at hl 4 rfl) ?_
        have b6 := bd_in hf
        replace hf := bd_k hf
        refine va_iald hx hb hK hP 3 1 rfl rfl b6 dX9_leastRule_38 ?_
        refine lv_topi (fun x7 e7 => ?_)
        replace hf := nm_at hf e7
        refine lv_iload_n hx hb dX9_leastRule_39 rfl (lv_at hl 2 rfl) ?_
        refine lv_icmp_ne (tgt := 63) hx hb dX9_leastRule_40 (by decide) (fun cq8 => ?_) (fun cq8 => ?_)
        · replace hf := if_no hf cq8
          exact (hG _ _ _ _ _).mp (J63 k3 hk3 y1 y2 y3 y4 H locs ls (hP.sub [0, 1, 2, 3, 4, 5, 6, 7, 8, 9, 10, 11] rfl) (hD.sub [0, 1, 2, 3, 4, 5, 6, 7, 8, 9, 10, 11] (by decide) rfl) hS (lv_sub hl [0, 1, 2, 3, 4] rfl) hf)
        · replace hf := if_at hf cq8
          refine lv_aload_n hx hb dX9_leastRule_43 rfl (lv_at hl 0 rfl) ?_
          refine va_get (D := (dC, dI)) (ci := 9) (v := .ref h4) (C := RX9) (T := TX9) (N := 7) hx hb hts inlX9 hown hK hP 0 rfl rfl 1 (by decide) w4_ (fun _ h9 => h9) rfl dX9_leastRule_44 ?_
          refine lv_aload_n hx hb dX9_leastRule_47 rfl (lv_at hl 0 rfl) ?_
          refine va_get (D := (dC, dI)) (ci := 9) (v := .ref h1) (C := RX9) (T := TX9) (N := 7) hx hb hts inlX9 hown hK hP 0 rfl rfl 0 (by decide) w0_ (fun _ h9 => h9) rfl dX9_leastRule_48 ?_
          refine lv_iload hx hb dX9_leastRule_51 (lv_at hl 4 rfl) ?_
          obtain ⟨o9, e9, hf⟩ := ob_some hf
          refine kVi (As := [.ref h1, .int y4]) (rest := []) ⟨hx, hb, hml, hown, hts⟩ (mX7_stepsByRule l dC dI h4 h1 h5 h6 h7 h8 h9 h10 h11 kc5 kc6 kc7 kc8 kc10 kc11 H.size base y4 n7 v4_height c5 c6 c7 c8 c10 c11 V4 (fun k => match k with | 0 => .ref h2 | 1 => .ref h3 | 6 => .int v1_rules | k => V1 k) V9 o9 e9) (cwV 2 hts (gTV q423 q424 q425 q265 q426) rfl rfl rfl (by decide +kernel) ⟨Nat.le_of_ble_eq_true rfl, Nat.le_of_ble_eq_true rfl⟩) hK hP hD hS hA hE hAB [4, 1, 5, 6, 7, 8, 9, 10, 11] [0, 2, 3] [2, 3, 4, 5, 6, 7] (wr := [(h0, .inr (9, [.ref h1, .ref h4, V0 2, V0 3, V0 4, V0 5, V0 6])), (h2, .inl (kc2, 48, .inl c2)), (h3, .inl (kc3, 48, .inl c3))]) rfl rfl (by decide) (by decide) (by decide) rfl (ci := 7) (q0 := 0) rfl rfl rfl rfl hl.1 rfl (Nat.le_of_ble_eq_true rfl) dX9_leastRule_53 ⟨Nat.zero_le _, Nat.zero_le _⟩ (fun r9 u9 H locs hw9 hP hD hS => ?_)
          obtain ⟨hw91, hw92⟩ := hw9
          subst hw91 hw92
          have hP : va_P (dC, dI) vwCl (wX9_leastRule h0 h1 h2 h3 h4 h5 h6 h7 h8 h9 h10 h11 kc2 kc3 kc5 kc6 kc7 kc8 kc10 kc11 n7 V0 V1 V4 V9 v1_rules c2 c3 v4_height c5 c6 c7 c8 c10 c11) H := hP.sub [0, 4, 1, 2, 3, 5, 6, 7, 8, 9, 10, 11] rfl
          have hD : va_D A (wX9_leastRule h0 h1 h2 h3 h4 h5 h6 h7 h8 h9 h10 h11 kc2 kc3 kc5 kc6 kc7 kc8 kc10 kc11 n7 V0 V1 V4 V9 v1_rules c2 c3 v4_height c5 c6 c7 c8 c10 c11) := hD.sub [0, 4, 1, 2, 3, 5, 6, 7, 8, 9, 10, 11] (by decide) rfl
          refine lv_iload_n hx hb dX9_leastRule_56 rfl (lv_at hl 3 rfl) ?_
          refine lv_icmp_ne (tgt := 63) hx hb dX9_leastRule_57 (by decide) (fun cq10 => ?_) (fun cq10 => ?_)
          · replace hf := if_no hf cq10
            exact (hG _ _ _ _ _).mp (J63 k3 hk3 y1 y2 y3 y4 H locs ls (hP.sub [0, 1, 2, 3, 4, 5, 6, 7, 8, 9, 10, 11] rfl) (hD.sub [0, 1, 2, 3, 4, 5, 6, 7, 8, 9, 10, 11] (by decide) rfl) hS (lv_sub hl [0, 1, 2, 3, 4] rfl) hf)
          · replace hf := if_at hf cq10
            refine lv_iload hx hb dX9_leastRule_60 (lv_at hl 4 rfl) ?_
            have hf1 := Option.some.inj hf
            subst hf1
            have hP9 := hP.sub (ws' := (wX9_leastRule h0 h1 h2 h3 h4 h5 h6 h7 h8 h9 h10 h11 kc2 kc3 kc5 kc6 kc7 kc8 kc10 kc11 n7 V0 V1 V4 V9 v1_rules c2 c3 v4_height c5 c6 c7 c8 c10 c11)) [0, 1, 2, 3, 4, 5, 6, 7, 8, 9, 10, 11] rfl
            have hD9 := hD.sub (ws' := (wX9_leastRule h0 h1 h2 h3 h4 h5 h6 h7 h8 h9 h10 h11 kc2 kc3 kc5 kc6 kc7 kc8 kc10 kc11 n7 V0 V1 V4 V9 v1_rules c2 c3 v4_height c5 c6 c7 c8 c10 c11)) [0, 1, 2, 3, 4, 5, 6, 7, 8, 9, 10, 11] (by decide) rfl
            exact W.iret (v := y4) hx hb hr (fun t ht hW => ⟨⟨y4, (), rfl, ⟨rfl, rfl⟩, by rw [ht]; exact hP9, va_K.moved hW.alike hK, hD9⟩, hS.F ht⟩) hS.2.2 dX9_leastRule_62
  have L3 : ∀ (n : Nat), ∀ (y1 : Int32) (y2 : Int32) (y3 : Int32) (y4 : Int32) (H : Heap) (locs : List Loc) (ls : Array Slot), va_P (dC, dI) vwCl (wX9_leastRule h0 h1 h2 h3 h4 h5 h6 h7 h8 h9 h10 h11 kc2 kc3 kc5 kc6 kc7 kc8 kc10 kc11 n7 V0 V1 V4 V9 v1_rules c2 c3 v4_height c5 c6 c7 c8 c10 c11) H → va_D A (wX9_leastRule h0 h1 h2 h3 h4 h5 h6 h7 h8 h9 h10 h11 kc2 kc3 kc5 kc6 kc7 kc8 kc10 kc11 n7 V0 V1 V4 V9 v1_rules c2 c3 v4_height c5 c6 c7 c8 c10 c11) → va_S A s.heap H locs → lv_has ls 5 [(0, .ref h0), (1, .int y1), (2, .int y2), (3, .int y3), (4, .int y4)] → fX9_leastRule_l3 n7 v1_rules c2 c3 v4_height c5 c6 c7 c8 c10 c11  n y1 y2 y3 y4 = some o → G 0 0 H locs (F0 m 3 ls []) := by
    intro  n
    induction n with
    | zero => intro y1 y2 y3 y4 H locs ls _ _ _ _ hf; cases hf
    | succ n ih => exact B3  _ ih
  refine (hG _ _ _ _ _).mpr ?_
  obtain ⟨H, hH⟩ : ∃ H, H = s.heap := ⟨_, rfl⟩
  have hS : va_S A s.heap H [] := by rw [hH]; exact hS
  rw [← hH] at hP ⊢
  generalize ([] : List Loc) = locs at hS ⊢
  unfold fX9_leastRule at hf
  refine lv_iconst (v := 0) hx hb dX9_leastRule_0 (by decide +kernel) ?_
  refine lv_istore (lv' := [(4, .int 0), (0, .ref h0), (1, .int a0), (2, .int a1), (3, .int a2)]) hx hb dX9_leastRule_1 hl (by decide) rfl (fun ls hl => ?_)
  exact (hG _ _ _ _ _).mp (L3 FU a0 a1 a2 0 H locs ls (hP.sub [0, 1, 2, 3, 4, 5, 6, 7, 8, 9, 10, 11] rfl) (hD.sub [0, 1, 2, 3, 4, 5, 6, 7, 8, 9, 10, 11] (by decide) rfl) hS (lv_sub hl [1, 2, 3, 4, 0] rfl) hf)
abbrev wX9_pileSigns (h0 h1 h2 h3 h4 h5 h6 h7 h8 h9 : Nat) (kc2 kc3 kc6 kc7 kc8 kc9 : ClassId) (n7 : Nat) (n8 : Nat) (V0 : Nat → Value) (V1 : Nat → Value) (V5 : Nat → Value) (c2 : Nat → Int32) (c3 : Nat → Int32) (v4_most : Int32) (v4_height : Int32) (c6 : Nat → Int32) (c7 : Nat → Int32) (c8 : Nat → Int32) (c9 : Nat → Int32) : va_W := [(h0, .inr (9, [.ref h1, .ref h4, V0 2, V0 3, V0 4, V0 5, V0 6])), (h1, .inr (6, [V1 0, V1 1, V1 2, .ref h2, .ref h9, .ref h3, V1 6, V1 7, V1 8, V1 9, V1 10, V1 11, V1 12, V1 13])), (h2, .inl (kc2, 48, .inl c2)), (h3, .inl (kc3, 48, .inl c3)), (h4, .inr (7, [.ref h5, .int v4_most, .ref h8, .ref h7, .int v4_height])), (h5, .inr (1, [.ref h6, V5 1, V5 2])), (h6, .inl (kc6, 3072, .inl c6)), (h7, .inl (kc7, n7, .inl c7)), (h8, .inl (kc8, n8, .inl c8)), (h9, .inl (kc9, 48, .inl c9))]
set_option maxHeartbeats 4000000 in
set_option maxRecDepth 100000 in
theorem mX9_pileSigns (l : Launch) (dC : Nat → ClassId) (dI : Nat → Nat → Nat) (h0 h1 h2 h3 h4 h5 h6 h7 h8 h9 : Nat) (kc2 kc3 kc6 kc7 kc8 kc9 : ClassId) (sz : Nat) (base : Nat × Nat × Nat) (a0 : Int32) (n7 : Nat) (n8 : Nat) (c2 : Nat → Int32) (c3 : Nat → Int32) (v4_most : Int32) (v4_height : Int32) (c6 : Nat → Int32) (c7 : Nat → Int32) (c8 : Nat → Int32) (c9 : Nat → Int32) (V0 : Nat → Value) (V1 : Nat → Value) (V5 : Nat → Value) (o : Int32 × (Nat → Int32) × (Nat → Int32)) (hf : fX9_pileSigns a0 n7 n8 c2 c3 v4_most v4_height c6 c7 c8 c9 = some o) : Met l yX9_pileSigns (.code yX9_pileSigns cX9_pileSigns 2 none :: wsL_law) ({ frames := 4, cells := 0, slots := 0, locals := 90 }) (cPre (dC, dI) vwCl [.ref h0, .int a0] sz base (wX9_pileSigns h0 h1 h2 h3 h4 h5 h6 h7 h8 h9 kc2 kc3 kc6 kc7 kc8 kc9 n7 n8 V0 V1 V5 c2 c3 v4_most v4_height c6 c7 c8 c9) [(kc2, .int), (kc3, .int), (kc6, .int), (kc7, .int), (kc8, .int), (kc9, .int)]) (va_Qv (fun u => u = o) (fun (u : Int32 × (Nat → Int32) × (Nat → Int32)) t => cPost (dC, dI) vwCl (va_A (wX9_pileSigns h0 h1 h2 h3 h4 h5 h6 h7 h8 h9 kc2 kc3 kc6 kc7 kc8 kc9 n7 n8 V0 V1 V5 c2 c3 v4_most v4_height c6 c7 c8 c9) sz) (wX9_pileSigns h0 h1 h2 h3 h4 h5 h6 h7 h8 h9 kc2 kc3 kc6 kc7 kc8 kc9 n7 n8 V0 V1 V5 c2 c3 v4_most u.1 c6 u.2.1 u.2.2 c9) [(kc2, .int), (kc3, .int), (kc6, .int), (kc7, .int), (kc8, .int), (kc9, .int)] t) (va_A (wX9_pileSigns h0 h1 h2 h3 h4 h5 h6 h7 h8 h9 kc2 kc3 kc6 kc7 kc8 kc9 n7 n8 V0 V1 V5 c2 c3 v4_most v4_height c6 c7 c8 c9) sz)) 0 0 (va_A (wX9_pileSigns h0 h1 h2 h3 h4 h5 h6 h7 h8 h9 kc2 kc3 kc6 kc7 kc8 kc9 n7 n8 V0 V1 V5 c2 c3 v4_most v4_height c6 c7 c8 c9) sz) := by
  refine Met.ofW (cc := cX9_pileSigns) (maxL := 2) (ret := none) (by decide) rfl ?_
  intro p e s m args below meth c s₁ B hml hv
  obtain ⟨rfl, hsz, hP, hK, hD0, hE⟩ := hv
  have hx := B.exec
  have hb := B.bytes
  have hr := B.returns
  have hts : ∀ w ∈ wsL_law, _ := fun w h => atoms_spec (ws := .code yX9_pileSigns cX9_pileSigns 2 none :: wsL_law) B.pre w (List.mem_cons_of_mem _ h)
  have hown : s.vm.findClass RX9 = some m.cls := findClass_of_methodNamed B.named
  have hlocks := B.notSynchronized
  have w0_ := hts _ q387
  have w1_ := hts _ q436
  have w2_ := hts _ q403
  have w3_ := hts _ q438
  have w4_ := hts _ q437
  subst hsz
  have hD := hD0.self (sz := s.heap.size)
  generalize hAe : va_A (wX9_pileSigns h0 h1 h2 h3 h4 h5 h6 h7 h8 h9 kc2 kc3 kc6 kc7 kc8 kc9 n7 n8 V0 V1 V5 c2 c3 v4_most v4_height c6 c7 c8 c9) s.heap.size = A at hD ⊢
  have hA : ∀ q : Nat, s.heap.size ≤ q → A q := fun q h => by rw [← hAe]; exact Or.inr h
  have hAB : ∀ q : Nat, A q → base.1 ≤ q := fun q h => by rw [← hAe] at h; exact h.elim (fun ⟨k, e, hk⟩ => hD0.2 k _ hk) (fun hk => Nat.le_trans hE.1 hk)
  have hS : va_S A s.heap s.heap [] := va_S.rf
  have hl := lv_entry ([.ref h0, .int a0]) (n := 2) (Nat.le_of_ble_eq_true rfl)
  rw [lg_entry_eq]
  generalize (lg_sl ([.ref h0, .int a0]) ++ List.replicate (2 - (lg_sl ([.ref h0, .int a0])).length) Slot.unset).toArray = ls at hl ⊢
  have hl : lv_has ls 2 [(0, .ref h0), (1, .int a0)] := hl
  have hP : va_P (dC, dI) vwCl (wX9_pileSigns h0 h1 h2 h3 h4 h5 h6 h7 h8 h9 kc2 kc3 kc6 kc7 kc8 kc9 n7 n8 V0 V1 V5 c2 c3 v4_most v4_height c6 c7 c8 c9) s.heap := hP
  refine gl_intro (fun G hG => ?_)
  have J58 : ∀ (v4_height : Int32) (c7 : (Nat → Int32)) (c8 : (Nat → Int32)) (H : Heap) (locs : List Loc) (ls : Array Slot), va_P (dC, dI) vwCl (wX9_pileSigns h0 h1 h2 h3 h4 h5 h6 h7 h8 h9 kc2 kc3 kc6 kc7 kc8 kc9 n7 n8 V0 V1 V5 c2 c3 v4_most v4_height c6 c7 c8 c9) H → va_D A (wX9_pileSigns h0 h1 h2 h3 h4 h5 h6 h7 h8 h9 kc2 kc3 kc6 kc7 kc8 kc9 n7 n8 V0 V1 V5 c2 c3 v4_most v4_height c6 c7 c8 c9) → va_S A s.heap H locs → lv_has ls 2 [(0, .ref h0)] → fX9_pileSigns_p58 n7 n8 c2 c3 v4_most c6 c9  v4_height c7 c8 = some o → G 0 0 H locs (F0 m 58 ls []) := by
    intro  v4_height c7 c8 H locs ls hP hD hS hl hf
    refine (hG _ _ _ _ _).mpr ?_
    unfold fX9_pileSigns_p58 at hf
    have hf1 := Option.some.inj hf
    subst hf1
    have hP9 := hP.sub (ws' := (wX9_pileSigns h0 h1 h2 h3 h4 h5 h6 h7 h8 h9 kc2 kc3 kc6 kc7 kc8 kc9 n7 n8 V0 V1 V5 c2 c3 v4_most v4_height c6 c7 c8 c9)) [0, 1, 2, 3, 4, 5, 6, 7, 8, 9] rfl
    have hD9 := hD.sub (ws' := (wX9_pileSigns h0 h1 h2 h3 h4 h5 h6 h7 h8 h9 kc2 kc3 kc6 kc7 kc8 kc9 n7 n8 V0 V1 V5 c2 c3 v4_most v4_height c6 c7 c8 c9)) [0, 1, 2, 3, 4, 5, 6, 7, 8, 9] (by decide) rfl
    exact W.vret hx hb hr (fun t ht hW => ⟨⟨(v4_height, c7, c8), rfl, rfl, by rw [ht]; exact hP9, va_K.moved hW.alike hK, hD9⟩, hS.F ht⟩) hS.2.2 dX9_pileSigns_58
  have J29 : ∀ (y1 : Int32) (v4_height : Int32) (c7 : (Nat → Int32)) (c8 : (Nat → Int32)) (H : Heap) (locs : List Loc) (ls : Array Slot), va_P (dC, dI) vwCl (wX9_pileSigns h0 h1 h2 h3 h4 h5 h6 h7 h8 h9 kc2 kc3 kc6 kc7 kc8 kc9 n7 n8 V0 V1 V5 c2 c3 v4_most v4_height c6 c7 c8 c9) H → va_D A (wX9_pileSigns h0 h1 h2 h3 h4 h5 h6 h7 h8 h9 kc2 kc3 kc6 kc7 kc8 kc9 n7 n8 V0 V1 V5 c2 c3 v4_most v4_height c6 c7 c8 c9) → va_S A s.heap H locs → lv_has ls 2 [(0, .ref h0), (1, .int y1)] → fX9_pileSigns_p29 n7 n8 c2 c3 v4_most c6 c9  y1 v4_height c7 c8 = some o → G 0 0 H locs (F0 m 29 ls []) := by
    intro  y1 v4_height c7 c8 H locs ls hP hD hS hl hf
    refine (hG _ _ _ _ _).mpr ?_
    unfold fX9_pileSigns_p29 at hf
    refine lv_aload_n hx hb dX9_pileSigns_29 rfl (lv_at hl 0 rfl) ?_
    refine va_get (D := (dC, dI)) (ci := 9) (v := .ref h1) (C := RX9) (T := TX9) (N := 7) hx hb hts inlX9 hown hK hP 0 rfl rfl 0 (by decide) w0_ (fun _ h9 => h9) rfl dX9_pileSigns_30 ?_
    refine va_get (D := (dC, dI)) (ci := 6) (v := .ref h2) (C := RX6) (T := TX6) (N := 14) hx hb hts inlX6 hown hK hP 1 rfl rfl 3 (by decide) w1_ (fun _ h9 => h9) rfl dX9_pileSigns_33 ?_
    refine lv_iload_n hx hb dX9_pileSigns_36 rfl (lv_at hl 1 rfl) ?_
    have b1 := bd_in hf
    replace hf := bd_k hf
    refine va_iald hx hb hK hP 2 0 rfl rfl b1 dX9_pileSigns_37 ?_
    refine lv_topi (fun x2 e2 => ?_)
    replace hf := nm_at hf e2
    refine lv_iconst (v := 1) hx hb dX9_pileSigns_38 (by decide +kernel) ?_
    refine lv_icmp_lt (tgt := 58) hx hb dX9_pileSigns_39 (by decide) (fun cq3 => ?_) (fun cq3 => ?_)
    · replace hf := if_at hf cq3
      exact (hG _ _ _ _ _).mp (J58 v4_height c7 c8 H locs ls (hP.sub [0, 1, 2, 3, 4, 5, 6, 7, 8, 9] rfl) (hD.sub [0, 1, 2, 3, 4, 5, 6, 7, 8, 9] (by decide) rfl) hS (lv_sub hl [0] rfl) hf)
    · replace hf := if_no hf cq3
      refine lv_aload_n hx hb dX9_pileSigns_42 rfl (lv_at hl 0 rfl) ?_
      refine va_get (D := (dC, dI)) (ci := 9) (v := .ref h4) (C := RX9) (T := TX9) (N := 7) hx hb hts inlX9 hown hK hP 0 rfl rfl 1 (by decide) w2_ (fun _ h9 => h9) rfl dX9_pileSigns_43 ?_
      refine lv_aload_n hx hb dX9_pileSigns_46 rfl (lv_at hl 0 rfl) ?_
      refine va_get (D := (dC, dI)) (ci := 9) (v := .ref h1) (C := RX9) (T := TX9) (N := 7) hx hb hts inlX9 hown hK hP 0 rfl rfl 0 (by decide) w0_ (fun _ h9 => h9) rfl dX9_pileSigns_47 ?_
      refine va_get (D := (dC, dI)) (ci := 6) (v := .ref h9) (C := RX6) (T := TX6) (N := 14) hx hb hts inlX6 hown hK hP 1 rfl rfl 4 (by decide) w3_ (fun _ h9 => h9) rfl dX9_pileSigns_50 ?_
      refine lv_iload_n hx hb dX9_pileSigns_53 rfl (lv_at hl 1 rfl) ?_
      have b4 := bd_in hf
      replace hf := bd_k hf
      refine va_iald hx hb hK hP 9 5 rfl rfl b4 dX9_pileSigns_54 ?_
      refine lv_topi (fun x5 e5 => ?_)
      replace hf := nm_at hf e5
      obtain ⟨o6, e6, hf⟩ := ob_some hf
      refine kVv (As := [.int x5]) (rest := []) ⟨hx, hb, hml, hown, hts⟩ (mX7_pile l dC dI h4 h5 h6 h7 h8 kc6 kc7 kc8 H.size base x5 n7 n8 v4_most v4_height c6 c7 c8 V5 o6 e6) (cwV 1 hts (gTV q439 q332 q333 q265 q334) rfl rfl rfl (by decide +kernel) ⟨Nat.le_of_ble_eq_true rfl, Nat.le_of_ble_eq_true rfl⟩) hK hP hD hS hA hE hAB [4, 5, 6, 7, 8] [0, 1, 2, 3, 9] [2, 3, 4] (wr := [(h0, .inr (9, [.ref h1, .ref h4, V0 2, V0 3, V0 4, V0 5, V0 6])), (h1, .inr (6, [V1 0, V1 1, V1 2, .ref h2, .ref h9, .ref h3, V1 6, V1 7, V1 8, V1 9, V1 10, V1 11, V1 12, V1 13])), (h2, .inl (kc2, 48, .inl c2)), (h3, .inl (kc3, 48, .inl c3)), (h9, .inl (kc9, 48, .inl c9))]) rfl rfl (by decide) (by decide) (by decide) rfl (ci := 7) (q0 := 0) rfl rfl rfl rfl hl.1 rfl (Nat.le_of_ble_eq_true rfl) dX9_pileSigns_55 ⟨Nat.zero_le _, Nat.zero_le _⟩ (fun u6 H locs hw6 hP hD hS => ?_)
      have hw61 : o6 = u6 := Eq.symm hw6
      subst hw61
      have hP : va_P (dC, dI) vwCl (wX9_pileSigns h0 h1 h2 h3 h4 h5 h6 h7 h8 h9 kc2 kc3 kc6 kc7 kc8 kc9 n7 n8 V0 V1 V5 c2 c3 v4_most o6.1 c6 o6.2.1 o6.2.2 c9) H := hP.sub [0, 1, 2, 3, 5, 6, 7, 8, 9, 4] rfl
      have hD : va_D A (wX9_pileSigns h0 h1 h2 h3 h4 h5 h6 h7 h8 h9 kc2 kc3 kc6 kc7 kc8 kc9 n7 n8 V0 V1 V5 c2 c3 v4_most o6.1 c6 o6.2.1 o6.2.2 c9) := hD.sub [0, 1, 2, 3, 5, 6, 7, 8, 9, 4] (by decide) rfl
      exact (hG _ _ _ _ _).mp (J58 o6.1 o6.2.1 o6.2.2 H locs ls (hP.sub [0, 1, 2, 3, 4, 5, 6, 7, 8, 9] rfl) (hD.sub [0, 1, 2, 3, 4, 5, 6, 7, 8, 9] (by decide) rfl) hS (lv_sub hl [0] rfl) hf)
  refine (hG _ _ _ _ _).mpr ?_
  obtain ⟨H, hH⟩ : ∃ H, H = s.heap := ⟨_, rfl⟩
  have hS : va_S A s.heap H [] := by rw [hH]; exact hS
  rw [← hH] at hP ⊢
  generalize ([] : List Loc) = locs at hS ⊢
  unfold fX9_pileSigns at hf
  refine lv_aload_n hx hb dX9_pileSigns_0 rfl (lv_at hl 0 rfl) ?_
  refine va_get (D := (dC, dI)) (ci := 9) (v := .ref h1) (C := RX9) (T := TX9) (N := 7) hx hb hts inlX9 hown hK hP 0 rfl rfl 0 (by decide) w0_ (fun _ h9 => h9) rfl dX9_pileSigns_1 ?_
  refine va_get (D := (dC, dI)) (ci := 6) (v := .ref h2) (C := RX6) (T := TX6) (N := 14) hx hb hts inlX6 hown hK hP 1 rfl rfl 3 (by decide) w1_ (fun _ h9 => h9) rfl dX9_pileSigns_4 ?_
  refine lv_iload_n hx hb dX9_pileSigns_7 rfl (lv_at hl 1 rfl) ?_
  have b7 := bd_in hf
  replace hf := bd_k hf
  refine va_iald hx hb hK hP 2 0 rfl rfl b7 dX9_pileSigns_8 ?_
  refine lv_topi (fun x8 e8 => ?_)
  replace hf := nm_at hf e8
  refine lv_iconst (v := 2) hx hb dX9_pileSigns_9 (by decide +kernel) ?_
  refine lv_icmp_ne (tgt := 29) hx hb dX9_pileSigns_10 (by decide) (fun cq9 => ?_) (fun cq9 => ?_)
  · replace hf := if_no hf cq9
    exact (hG _ _ _ _ _).mp (J29 a0 v4_height c7 c8 H locs ls (hP.sub [0, 1, 2, 3, 4, 5, 6, 7, 8, 9] rfl) (hD.sub [0, 1, 2, 3, 4, 5, 6, 7, 8, 9] (by decide) rfl) hS (lv_sub hl [0, 1] rfl) hf)
  · replace hf := if_at hf cq9
    refine lv_aload_n hx hb dX9_pileSigns_13 rfl (lv_at hl 0 rfl) ?_
    refine va_get (D := (dC, dI)) (ci := 9) (v := .ref h4) (C := RX9) (T := TX9) (N := 7) hx hb hts inlX9 hown hK hP 0 rfl rfl 1 (by decide) w2_ (fun _ h9 => h9) rfl dX9_pileSigns_14 ?_
    refine lv_aload_n hx hb dX9_pileSigns_17 rfl (lv_at hl 0 rfl) ?_
    refine va_get (D := (dC, dI)) (ci := 9) (v := .ref h1) (C := RX9) (T := TX9) (N := 7) hx hb hts inlX9 hown hK hP 0 rfl rfl 0 (by decide) w0_ (fun _ h9 => h9) rfl dX9_pileSigns_18 ?_
    refine va_get (D := (dC, dI)) (ci := 6) (v := .ref h3) (C := RX6) (T := TX6) (N := 14) hx hb hts inlX6 hown hK hP 1 rfl rfl 5 (by decide) w4_ (fun _ h9 => h9) rfl dX9_pileSigns_21 ?_
    refine lv_iload_n hx hb dX9_pileSigns_24 rfl (lv_at hl 1 rfl) ?_
    have b10 := bd_in hf
    replace hf := bd_k hf
    refine va_iald hx hb hK hP 3 1 rfl rfl b10 dX9_pileSigns_25 ?_
    refine lv_topi (fun x11 e11 => ?_)
    replace hf := nm_at hf e11
    obtain ⟨o12, e12, hf⟩ := ob_some hf
    refine kVv (As := [.int x11]) (rest := []) ⟨hx, hb, hml, hown, hts⟩ (mX7_pile l dC dI h4 h5 h6 h7 h8 kc6 kc7 kc8 H.size base x11 n7 n8 v4_most v4_height c6 c7 c8 V5 o12 e12) (cwV 1 hts (gTV q439 q332 q333 q265 q334) rfl rfl rfl (by decide +kernel) ⟨Nat.le_of_ble_eq_true rfl, Nat.le_of_ble_eq_true rfl⟩) hK hP hD hS hA hE hAB [4, 5, 6, 7, 8] [0, 1, 2, 3, 9] [2, 3, 4] (wr := [(h0, .inr (9, [.ref h1, .ref h4, V0 2, V0 3, V0 4, V0 5, V0 6])), (h1, .inr (6, [V1 0, V1 1, V1 2, .ref h2, .ref h9, .ref h3, V1 6, V1 7, V1 8, V1 9, V1 10, V1 11, V1 12, V1 13])), (h2, .inl (kc2, 48, .inl c2)), (h3, .inl (kc3, 48, .inl c3)), (h9, .inl (kc9, 48, .inl c9))]) rfl rfl (by decide) (by decide) (by decide) rfl (ci := 7) (q0 := 0) rfl rfl rfl rfl hl.1 rfl (Nat.le_of_ble_eq_true rfl) dX9_pileSigns_26 ⟨Nat.zero_le _, Nat.zero_le _⟩ (fun u12 H locs hw12 hP hD hS => ?_)
    have hw121 : o12 = u12 := Eq.symm hw12
    subst hw121
    have hP : va_P (dC, dI) vwCl (wX9_pileSigns h0 h1 h2 h3 h4 h5 h6 h7 h8 h9 kc2 kc3 kc6 kc7 kc8 kc9 n7 n8 V0 V1 V5 c2 c3 v4_most o12.1 c6 o12.2.1 o12.2.2 c9) H := hP.sub [0, 1, 2, 3, 5, 6, 7, 8, 9, 4] rfl
    have hD : va_D A (wX9_pileSigns h0 h1 h2 h3 h4 h5 h6 h7 h8 h9 kc2 kc3 kc6 kc7 kc8 kc9 n7 n8 V0 V1 V5 c2 c3 v4_most o12.1 c6 o12.2.1 o12.2.2 c9) := hD.sub [0, 1, 2, 3, 5, 6, 7, 8, 9, 4] (by decide) rfl
    exact (hG _ _ _ _ _).mp (J29 a0 o12.1 o12.2.1 o12.2.2 H locs ls (hP.sub [0, 1, 2, 3, 4, 5, 6, 7, 8, 9] rfl) (hD.sub [0, 1, 2, 3, 4, 5, 6, 7, 8, 9] (by decide) rfl) hS (lv_sub hl [0, 1] rfl) hf)
abbrev wX9_find (h0 h1 h2 h3 h4 h5 h6 h7 h8 h9 h10 h11 h12 h13 h14 : Nat) (kc3 kc4 kc6 kc7 kc8 kc9 kc10 kc11 kc12 kc13 kc14 : ClassId) (n3 : Nat) (n7 : Nat) (V1 : Nat → Value) (V5 : Nat → Value) (v0_length : Int32) (v0_fromState : Int32) (v0_foundAtSystem : Int32) (v0_foundAtWord : Int32) (v1_rules : Int32) (v1_ends : Int32) (v1_height : Int32) (v1_systemChanges : Int32) (v1_wordChanges : Int32) (v2_most : Int32) (v2_height : Int32) (c3 : Nat → Int32) (c4 : Nat → Int32) (c6 : Nat → Int32) (c7 : Nat → Int32) (c8 : Nat → Int32) (c9 : Nat → Int32) (c10 : Nat → Int32) (c11 : Nat → Int32) (c12 : Nat → Int32) (c13 : Nat → Int32) (c14 : Nat → Int32) : va_W := [(h0, .inr (9, [.ref h1, .ref h2, .ref h14, .int v0_length, .int v0_fromState, .int v0_foundAtSystem, .int v0_foundAtWord])), (h1, .inr (6, [.ref h8, .ref h9, .ref h10, .ref h11, .ref h12, .ref h13, .int v1_rules, V1 7, .int v1_ends, .ref h4, .int v1_height, .int v1_systemChanges, .int v1_wordChanges, V1 13])), (h2, .inr (7, [.ref h5, .int v2_most, .ref h7, .ref h3, .int v2_height])), (h3, .inl (kc3, n3, .inl c3)), (h4, .inl (kc4, 30, .inl c4)), (h5, .inr (1, [.ref h6, V5 1, V5 2])), (h6, .inl (kc6, 3072, .inl c6)), (h7, .inl (kc7, n7, .inl c7)), (h8, .inl (kc8, 48, .inl c8)), (h9, .inl (kc9, 48, .inl c9)), (h10, .inl (kc10, 48, .inl c10)), (h11, .inl (kc11, 48, .inl c11)), (h12, .inl (kc12, 48, .inl c12)), (h13, .inl (kc13, 48, .inl c13)), (h14, .inl (kc14, 2000, .inl c14))]
set_option maxHeartbeats 4000000 in
set_option maxRecDepth 100000 in
theorem mX9_find (l : Launch) (dC : Nat → ClassId) (dI : Nat → Nat → Nat) (h0 h1 h2 h3 h4 h5 h6 h7 h8 h9 h10 h11 h12 h13 h14 : Nat) (kc3 kc4 kc6 kc7 kc8 kc9 kc10 kc11 kc12 kc13 kc14 : ClassId) (sz : Nat) (base : Nat × Nat × Nat) (a0 : Int32) (a1 : Int32) (n3 : Nat) (n7 : Nat) (v0_length : Int32) (v0_fromState : Int32) (v0_foundAtSystem : Int32) (v0_foundAtWord : Int32) (v1_rules : Int32) (v1_ends : Int32) (v1_height : Int32) (v1_systemChanges : Int32) (v1_wordChanges : Int32) (v2_most : Int32) (v2_height : Int32) (c3 : Nat → Int32) (c4 : Nat → Int32) (c6 : Nat → Int32) (c7 : Nat → Int32) (c8 : Nat → Int32) (c9 : Nat → Int32) (c10 : Nat → Int32) (c11 : Nat → Int32) (c12 : Nat → Int32) (c13 : Nat → Int32) (c14 : Nat → Int32) (V1 : Nat → Value) (V5 : Nat → Value) (o : Int32 × Int32 × Int32 × Int32 × Int32 × (Nat → Int32) × (Nat → Int32) × (Nat → Int32)) (hf : fX9_find a0 a1 n3 n7 v0_length v0_fromState v0_foundAtSystem v0_foundAtWord v1_rules v1_ends v1_height v1_systemChanges v1_wordChanges v2_most v2_height c3 c4 c6 c7 c8 c9 c10 c11 c12 c13 c14 = some o) : Met l yX9_find (.code yX9_find cX9_find 6 none :: wsL_law) ({ frames := 5, cells := 0, slots := 0, locals := 119 }) (cPre (dC, dI) vwCl [.ref h0, .int a0, .int a1] sz base (wX9_find h0 h1 h2 h3 h4 h5 h6 h7 h8 h9 h10 h11 h12 h13 h14 kc3 kc4 kc6 kc7 kc8 kc9 kc10 kc11 kc12 kc13 kc14 n3 n7 V1 V5 v0_length v0_fromState v0_foundAtSystem v0_foundAtWord v1_rules v1_ends v1_height v1_systemChanges v1_wordChanges v2_most v2_height c3 c4 c6 c7 c8 c9 c10 c11 c12 c13 c14) [(kc3, .int), (kc4, .int), (kc6, .int), (kc7, .int), (kc8, .int), (kc9, .int), (kc10, .int), (kc11, .int), (kc12, .int), (kc13, .int), (kc14, .int)]) (va_Qv (fun u => u = o) (fun (u : Int32 × Int32 × Int32 × Int32 × Int32 × (Nat → Int32) × (Nat → Int32) × (Nat → Int32)) t => cPost (dC, dI) vwCl (va_A (wX9_find h0 h1 h2 h3 h4 h5 h6 h7 h8 h9 h10 h11 h12 h13 h14 kc3 kc4 kc6 kc7 kc8 kc9 kc10 kc11 kc12 kc13 kc14 n3 n7 V1 V5 v0_length v0_fromState v0_foundAtSystem v0_foundAtWord v1_rules v1_ends v1_height v1_systemChanges v1_wordChanges v2_most v2_height c3 c4 c6 c7 c8 c9 c10 c11 c12 c13 c14) sz) (wX9_find h0 h1 h2 h3 h4 h5 h6 h7 h8 h9 h10 h11 h12 h13 h14 kc3 kc4 kc6 kc7 kc8 kc9 kc10 kc11 kc12 kc13 kc14 n3 n7 V1 V5 u.1 u.2.1 u.2.2.1 u.2.2.2.1 v1_rules v1_ends v1_height v1_systemChanges v1_wordChanges v2_most u.2.2.2.2.1 u.2.2.2.2.2.1 c4 c6 u.2.2.2.2.2.2.1 c8 c9 c10 c11 c12 c13 u.2.2.2.2.2.2.2) [(kc3, .int), (kc4, .int), (kc6, .int), (kc7, .int), (kc8, .int), (kc9, .int), (kc10, .int), (kc11, .int), (kc12, .int), (kc13, .int), (kc14, .int)] t) (va_A (wX9_find h0 h1 h2 h3 h4 h5 h6 h7 h8 h9 h10 h11 h12 h13 h14 kc3 kc4 kc6 kc7 kc8 kc9 kc10 kc11 kc12 kc13 kc14 n3 n7 V1 V5 v0_length v0_fromState v0_foundAtSystem v0_foundAtWord v1_rules v1_ends v1_height v1_systemChanges v1_wordChanges v2_most v2_height c3 c4 c6 c7 c8 c9 c10 c11 c12 c13 c14) sz)) 0 0 (va_A (wX9_find h0 h1 h2 h3 h4 h5 h6 h7 h8 h9 h10 h11 h12 h13 h14 kc3 kc4 kc6 kc7 kc8 kc9 kc10 kc11 kc12 kc13 kc14 n3 n7 V1 V5 v0_length v0_fromState v0_foundAtSystem v0_foundAtWord v1_rules v1_ends v1_height v1_systemChanges v1_wordChanges v2_most v2_height c3 c4 c6 c7 c8 c9 c10 c11 c12 c13 c14) sz) := by
  refine Met.ofW (cc := cX9_find) (maxL := 6) (ret := none) (by decide) rfl ?_
  intro p e s m args below meth c s₁ B hml hv
  obtain ⟨rfl, hsz, hP, hK, hD0, hE⟩ := hv
  have hx := B.exec
  have hb := B.bytes
  have hr := B.returns
  have hts : ∀ w ∈ wsL_law, _ := fun w h => atoms_spec (ws := .code yX9_find cX9_find 6 none :: wsL_law) B.pre w (List.mem_cons_of_mem _ h)
  have hown : s.vm.findClass RX9 = some m.cls := findClass_of_methodNamed B.named
  have hlocks := B.notSynchronized
  have w0_ := hts _ q403
  have w1_ := hts _ q401
  have w2_ := hts _ q409
  have w3_ := hts _ q387
  have w4_ := hts _ q410
  have w5_ := hts _ q385
  have w6_ := hts _ q388
  have w7_ := hts _ q386
  have w8_ := hts _ q390
  have w9_ := hts _ q389
  subst hsz
  have hD := hD0.self (sz := s.heap.size)
  generalize hAe : va_A (wX9_find h0 h1 h2 h3 h4 h5 h6 h7 h8 h9 h10 h11 h12 h13 h14 kc3 kc4 kc6 kc7 kc8 kc9 kc10 kc11 kc12 kc13 kc14 n3 n7 V1 V5 v0_length v0_fromState v0_foundAtSystem v0_foundAtWord v1_rules v1_ends v1_height v1_systemChanges v1_wordChanges v2_most v2_height c3 c4 c6 c7 c8 c9 c10 c11 c12 c13 c14) s.heap.size = A at hD ⊢
  have hA : ∀ q : Nat, s.heap.size ≤ q → A q := fun q h => by rw [← hAe]; exact Or.inr h
  have hAB : ∀ q : Nat, A q → base.1 ≤ q := fun q h => by rw [← hAe] at h; exact h.elim (fun ⟨k, e, hk⟩ => hD0.2 k _ hk) (fun hk => Nat.le_trans hE.1 hk)
  have hS : va_S A s.heap s.heap [] := va_S.rf
  have hl := lv_entry ([.ref h0, .int a0, .int a1]) (n := 6) (Nat.le_of_ble_eq_true rfl)
  rw [lg_entry_eq]
  generalize (lg_sl ([.ref h0, .int a0, .int a1]) ++ List.replicate (6 - (lg_sl ([.ref h0, .int a0, .int a1])).length) Slot.unset).toArray = ls at hl ⊢
  have hl : lv_has ls 6 [(0, .ref h0), (1, .int a0), (2, .int a1)] := hl
  have hP : va_P (dC, dI) vwCl (wX9_find h0 h1 h2 h3 h4 h5 h6 h7 h8 h9 h10 h11 h12 h13 h14 kc3 kc4 kc6 kc7 kc8 kc9 kc10 kc11 kc12 kc13 kc14 n3 n7 V1 V5 v0_length v0_fromState v0_foundAtSystem v0_foundAtWord v1_rules v1_ends v1_height v1_systemChanges v1_wordChanges v2_most v2_height c3 c4 c6 c7 c8 c9 c10 c11 c12 c13 c14) s.heap := hP
  refine gl_intro (fun G hG => ?_)
  have B56 : ∀ (k56 : Int32 → Int32 → Int32 → Int32 → Int32 → Int32 → Int32 → Int32 → (Nat → Int32) → (Nat → Int32) → (Nat → Int32) → Option (Int32 × Int32 × Int32 × Int32 × Int32 × (Nat → Int32) × (Nat → Int32) × (Nat → Int32))) (hk56 : ∀ (y2 : Int32) (y3 : Int32) (y4 : Int32) (v0_length : Int32) (v0_fromState : Int32) (v0_foundAtSystem : Int32) (v0_foundAtWord : Int32) (v2_height : Int32) (c3 : (Nat → Int32)) (c7 : (Nat → Int32)) (c14 : (Nat → Int32)) (H : Heap) (locs : List Loc) (ls : Array Slot), va_P (dC, dI) vwCl (wX9_find h0 h1 h2 h3 h4 h5 h6 h7 h8 h9 h10 h11 h12 h13 h14 kc3 kc4 kc6 kc7 kc8 kc9 kc10 kc11 kc12 kc13 kc14 n3 n7 V1 V5 v0_length v0_fromState v0_foundAtSystem v0_foundAtWord v1_rules v1_ends v1_height v1_systemChanges v1_wordChanges v2_most v2_height c3 c4 c6 c7 c8 c9 c10 c11 c12 c13 c14) H → va_D A (wX9_find h0 h1 h2 h3 h4 h5 h6 h7 h8 h9 h10 h11 h12 h13 h14 kc3 kc4 kc6 kc7 kc8 kc9 kc10 kc11 kc12 kc13 kc14 n3 n7 V1 V5 v0_length v0_fromState v0_foundAtSystem v0_foundAtWord v1_rules v1_ends v1_height v1_systemChanges v1_wordChanges v2_most v2_height c3 c4 c6 c7 c8 c9 c10 c11 c12 c13 c14) → va_S A s.heap H locs → lv_has ls 6 [(0, .ref h0), (2, .int y2), (3, .int y3), (4, .int y4)] → k56 y2 y3 y4 v0_length v0_fromState v0_foundAtSystem v0_foundAtWord v2_height c3 c7 c14 = some o → G 0 0 H locs (F0 m 56 ls [])), ∀ (y2 : Int32) (y3 : Int32) (y4 : Int32) (v0_length : Int32) (v0_fromState : Int32) (v0_foundAtSystem : Int32) (v0_foundAtWord : Int32) (v2_height : Int32) (c3 : (Nat → Int32)) (c7 : (Nat → Int32)) (c14 : (Nat → Int32)) (H : Heap) (locs : List Loc) (ls : Array Slot), va_P (dC, dI) vwCl (wX9_find h0 h1 h2 h3 h4 h5 h6 h7 h8 h9 h10 h11 h12 h13 h14 kc3 kc4 kc6 kc7 kc8 kc9 kc10 kc11 kc12 kc13 kc14 n3 n7 V1 V5 v0_length v0_fromState v0_foundAtSystem v0_foundAtWord v1_rules v1_ends v1_height v1_systemChanges v1_wordChanges v2_most v2_height c3 c4 c6 c7 c8 c9 c10 c11 c12 c13 c14) H → va_D A (wX9_find h0 h1 h2 h3 h4 h5 h6 h7 h8 h9 h10 h11 h12 h13 h14 kc3 kc4 kc6 kc7 kc8 kc9 kc10 kc11 kc12 kc13 kc14 n3 n7 V1 V5 v0_length v0_fromState v0_foundAtSystem v0_foundAtWord v1_rules v1_ends v1_height v1_systemChanges v1_wordChanges v2_most v2_height c3 c4 c6 c7 c8 c9 c10 c11 c12 c13 c14) → va_S A s.heap H locs → lv_has ls 6 [(0, .ref h0), (2, .int y2), (3, .int y3), (4, .int y4)] → fX9_find_b56 n3 n7 v1_rules v1_ends v1_height v1_systemChanges v1_wordChanges v2_most c4 c6 c8 c9 c10 c11 c12 c13  k56 y2 y3 y4 v0_length v0_fromState v0_foundAtSystem v0_foundAtWord v2_height c3 c7 c14 = some o → G 0 0 H locs (F0 m 56 ls []) := by
    intro  k56 hk56 y2 y3 y4 v0_length v0_fromState v0_foundAtSystem v0_foundAtWord v2_height c3 c7 c14 H locs ls hP hD hS hl hf
    refine (hG _ _ _ _ _).mpr ?_
    unfold fX9_find_b56 at hf
    refine lv_iload hx hb dX9_find_56 (lv_at hl 3 rfl) ?_
    refine lv_iload_n hx hb dX9_find_58 rfl (lv_at hl 1 rfl) ?_
    refine lv_icmp_ge (tgt := 131) hx hb dX9_find_59 (by decide) (fun cq1 => ?_) (fun cq1 => ?_)
    · replace hf := if_at hf cq1
      have hf1 := Option.some.inj hf
      subst hf1
      have hP9 := hP.sub (ws' := (wX9_find h0 h1 h2 h3 h4 h5 h6 h7 h8 h9 h10 h11 h12 h13 h14 kc3 kc4 kc6 kc7 kc8 kc9 kc10 kc11 kc12 kc13 kc14 n3 n7 V1 V5 v0_length v0_fromState v0_foundAtSystem v0_foundAtWord v1_rules v1_ends v1_height v1_systemChanges v1_wordChanges v2_most v2_height c3 c4 c6 c7 c8 c9 c10 c11 c12 c13 c14)) [0, 1, 2, 3, 4, 5, 6, 7, 8, 9, 10, 11, 12, 13, 14] rfl
      have hD9 := hD.sub (ws' := (wX9_find h0 h1 h2 h3 h4 h5 h6 h7 h8 h9 h10 h11 h12 h13 h14 kc3 kc4 kc6 kc7 kc8 kc9 kc10 kc11 kc12 kc13 kc14 n3 n7 V1 V5 v0_length v0_fromState v0_foundAtSystem v0_foundAtWord v1_rules v1_ends v1_height v1_systemChanges v1_wordChanges v2_most v2_height c3 c4 c6 c7 c8 c9 c10 c11 c12 c13 c14)) [0, 1, 2, 3, 4, 5, 6, 7, 8, 9, 10, 11, 12, 13, 14] (by decide) rfl
      exact W.vret hx hb hr (fun t ht hW => ⟨⟨(v0_length, v0_fromState, v0_foundAtSystem, v0_foundAtWord, v2_height, c3, c7, c14), rfl, rfl, by rw [ht]; exact hP9, va_K.moved hW.alike hK, hD9⟩, hS.F ht⟩) hS.2.2 dX9_find_131
    · replace hf := if_no hf cq1
      refine lv_aload_n hx hb dX9_find_62 rfl (lv_at hl 0 rfl) ?_
      refine lv_iload_n hx hb dX9_find_63 rfl (lv_at hl 2 rfl) ?_
      refine lv_aload_n hx hb dX9_find_64 rfl (lv_at hl 0 rfl) ?_
      refine va_get (D := (dC, dI)) (ci := 9) (v := .ref h2) (C := RX9) (T := TX9) (N := 7) hx hb hts inlX9 hown hK hP 0 rfl rfl 1 (by decide) w0_ (fun _ h9 => h9) rfl dX9_find_65 ?_
      obtain ⟨o2, e2, hf⟩ := ob_some hf
      refine kVi (As := []) (rest := [.int y3, .ref h0]) ⟨hx, hb, hml, hown, hts⟩ (mX7_takeTop l dC dI h2 h7 kc7 H.size base n7 v2_height c7 (fun k => match k with | 0 => .ref h5 | 1 => .int v2_most | 3 => .ref h3 | _ => .null) o2 e2) (cwV 0 hts (gTV q412 q413 q414 q265 q415) rfl rfl rfl (by decide +kernel) ⟨Nat.le_of_ble_eq_true rfl, Nat.le_of_ble_eq_true rfl⟩) hK hP hD hS hA hE hAB [2, 7] [0, 1, 3, 4, 5, 6, 8, 9, 10, 11, 12, 13, 14] [3] (wr := [(h0, .inr (9, [.ref h1, .ref h2, .ref h14, .int v0_length, .int v0_fromState, .int v0_foundAtSystem, .int v0_foundAtWord])), (h1, .inr (6, [.ref h8, .ref h9, .ref h10, .ref h11, .ref h12, .ref h13, .int v1_rules, V1 7, .int v1_ends, .ref h4, .int v1_height, .int v1_systemChanges, .int v1_wordChanges, V1 13])), (h3, .inl (kc3, n3, .inl c3)), (h4, .inl (kc4, 30, .inl c4)), (h5, .inr (1, [.ref h6, V5 1, V5 2])), (h6, .inl (kc6, 3072, .inl c6)), (h8, .inl (kc8, 48, .inl c8)), (h9, .inl (kc9, 48, .inl c9)), (h10, .inl (kc10, 48, .inl c10)), (h11, .inl (kc11, 48, .inl c11)), (h12, .inl (kc12, 48, .inl c12)), (h13, .inl (kc13, 48, .inl c13)), (h14, .inl (kc14, 2000, .inl c14))]) rfl rfl (by decide) (by decide) (by decide) rfl (ci := 7) (q0 := 0) rfl rfl rfl rfl hl.1 rfl (Nat.le_of_ble_eq_true rfl) dX9_find_68 ⟨Nat.zero_le _, Nat.zero_le _⟩ (fun r2 u2 H locs hw2 hP hD hS => ?_)
      obtain ⟨hw21, hw22⟩ := hw2
      subst hw21 hw22
      have hP : va_P (dC, dI) vwCl (wX9_find h0 h1 h2 h3 h4 h5 h6 h7 h8 h9 h10 h11 h12 h13 h14 kc3 kc4 kc6 kc7 kc8 kc9 kc10 kc11 kc12 kc13 kc14 n3 n7 V1 V5 v0_length v0_fromState v0_foundAtSystem v0_foundAtWord v1_rules v1_ends v1_height v1_systemChanges v1_wordChanges v2_most o2.2 c3 c4 c6 c7 c8 c9 c10 c11 c12 c13 c14) H := hP.sub [0, 1, 13, 2, 3, 4, 5, 14, 6, 7, 8, 9, 10, 11, 12] rfl
      have hD : va_D A (wX9_find h0 h1 h2 h3 h4 h5 h6 h7 h8 h9 h10 h11 h12 h13 h14 kc3 kc4 kc6 kc7 kc8 kc9 kc10 kc11 kc12 kc13 kc14 n3 n7 V1 V5 v0_length v0_fromState v0_foundAtSystem v0_foundAtWord v1_rules v1_ends v1_height v1_systemChanges v1_wordChanges v2_most o2.2 c3 c4 c6 c7 c8 c9 c10 c11 c12 c13 c14) := hD.sub [0, 1, 13, 2, 3, 4, 5, 14, 6, 7, 8, 9, 10, 11, 12] (by decide) rfl
      refine lv_iload_n hx hb dX9_find_71 rfl (lv_at hl 1 rfl) ?_
      refine lv_iload hx hb dX9_find_72 (lv_at hl 3 rfl) ?_
      refine lv_isub hx hb dX9_find_74 ?_
      refine lv_topi (fun x3 e3 => ?_)
      replace hf := nm_at hf e3
      refine lv_iconst (v := 1) hx hb dX9_find_75 (by decide +kernel) ?_
      refine lv_isub hx hb dX9_find_76 ?_
      refine lv_topi (fun x4 e4 => ?_)
      replace hf := nm_at hf e4
      obtain ⟨o5, e5, hf⟩ := ob_some hf
      refine kVi (As := [.int y3, .int o2.1, .int x4]) (rest := []) ⟨hx, hb, hml, hown, hts⟩ (mX9_leastRule l dC dI h0 h1 h8 h9 h2 h10 h11 h3 h12 h5 h6 h13 kc8 kc9 kc10 kc11 kc3 kc12 kc6 kc13 H.size base y3 o2.1 x4 n3 v1_rules c8 c9 o2.2 c10 c11 c3 c12 c6 c13 (fun k => match k with | 2 => .ref h14 | 3 => .int v0_length | 4 => .int v0_fromState | 5 => .int v0_foundAtSystem | 6 => .int v0_foundAtWord | _ => .null) (fun k => match k with | 8 => .int v1_ends | 9 => .ref h4 | 10 => .int v1_height | 11 => .int v1_systemChanges | 12 => .int v1_wordChanges | k => V1 k) (fun k => match k with | 1 => .int v2_most | 2 => .ref h7 | _ => .null) V5 o5 e5) (cwV 3 hts (gTV q416 q417 q418 q383 q419) rfl rfl rfl (by decide +kernel) ⟨Nat.le_of_ble_eq_true rfl, Nat.le_of_ble_eq_true rfl⟩) hK hP hD hS hA hE hAB [0, 1, 8, 9, 2, 10, 11, 3, 12, 5, 6, 13] [4, 7, 14] [4, 5, 6, 7, 0, 8, 2, 9] (wr := [(h4, .inl (kc4, 30, .inl c4)), (h7, .inl (kc7, n7, .inl c7)), (h14, .inl (kc14, 2000, .inl c14))]) rfl rfl (by decide) (by decide) (by decide) rfl (ci := 9) (q0 := 0) rfl rfl rfl rfl hl.1 rfl (Nat.le_of_ble_eq_true rfl) dX9_find_77 ⟨Nat.zero_le _, Nat.zero_le _⟩ (fun r5 u5 H locs hw5 hP hD hS => ?_)
      obtain ⟨hw51, hw52⟩ := hw5
      subst hw51 hw52
      have hP : va_P (dC, dI) vwCl (wX9_find h0 h1 h2 h3 h4 h5 h6 h7 h8 h9 h10 h11 h12 h13 h14 kc3 kc4 kc6 kc7 kc8 kc9 kc10 kc11 kc12 kc13 kc14 n3 n7 V1 V5 v0_length v0_fromState v0_foundAtSystem v0_foundAtWord v1_rules v1_ends v1_height v1_systemChanges v1_wordChanges v2_most o2.2 c3 c4 c6 c7 c8 c9 c10 c11 c12 c13 c14) H := hP.sub [3, 4, 7, 10, 0, 12, 13, 1, 5, 6, 8, 9, 11, 14, 2] rfl
      have hD : va_D A (wX9_find h0 h1 h2 h3 h4 h5 h6 h7 h8 h9 h10 h11 h12 h13 h14 kc3 kc4 kc6 kc7 kc8 kc9 kc10 kc11 kc12 kc13 kc14 n3 n7 V1 V5 v0_length v0_fromState v0_foundAtSystem v0_foundAtWord v1_rules v1_ends v1_height v1_systemChanges v1_wordChanges v2_most o2.2 c3 c4 c6 c7 c8 c9 c10 c11 c12 c13 c14) := hD.sub [3, 4, 7, 10, 0, 12, 13, 1, 5, 6, 8, 9, 11, 14, 2] (by decide) rfl
      refine lv_istore (lv' := [(5, .int o5.1), (0, .ref h0), (2, .int y2), (3, .int y3), (4, .int y4)]) hx hb dX9_find_80 hl (by decide) rfl (fun ls hl => ?_)
      refine lv_iload hx hb dX9_find_82 (lv_at hl 0 rfl) ?_
      refine lv_iconst (v := (-1)) hx hb dX9_find_84 (by decide +kernel) ?_
      refine lv_icmp_ne (tgt := 89) hx hb dX9_find_85 (by decide) (fun cq6 => ?_) (fun cq6 => ?_)
      · replace hf := if_no hf cq6
        refine lv_aload_n hx hb dX9_find_89 rfl (lv_at hl 1 rfl) ?_
        refine va_get (D := (dC, dI)) (ci := 9) (v := .ref h14) (C := RX9) (T := TX9) (N := 7) hx hb hts inlX9 hown hK hP 0 rfl rfl 2 (by decide) w1_ (fun _ h9 => h9) rfl dX9_find_90 ?_
        refine lv_iload hx hb dX9_find_93 (lv_at hl 4 rfl) ?_
        refine lv_iload hx hb dX9_find_95 (lv_at hl 0 rfl) ?_
        have b7 := bd_in hf
        replace hf := bd_k hf
        obtain ⟨c7x, e7⟩ : ∃ y, y = upd c14 y4.toNatClampNeg o5.1 := ⟨_, rfl⟩
        replace hf := nm_at hf e7
        refine va_iast hx hb hK hP hD hS 14 10 rfl rfl b7 dX9_find_97 (fun H locs hP hD hS => ?_)
        have hP : va_P (dC, dI) vwCl (wX9_find h0 h1 h2 h3 h4 h5 h6 h7 h8 h9 h10 h11 h12 h13 h14 kc3 kc4 kc6 kc7 kc8 kc9 kc10 kc11 kc12 kc13 kc14 n3 n7 V1 V5 v0_length v0_fromState v0_foundAtSystem v0_foundAtWord v1_rules v1_ends v1_height v1_systemChanges v1_wordChanges v2_most o2.2 c3 c4 c6 c7 c8 c9 c10 c11 c12 c13 c7x) H := by rw [e7]; exact hP
        have hD : va_D A (wX9_find h0 h1 h2 h3 h4 h5 h6 h7 h8 h9 h10 h11 h12 h13 h14 kc3 kc4 kc6 kc7 kc8 kc9 kc10 kc11 kc12 kc13 kc14 n3 n7 V1 V5 v0_length v0_fromState v0_foundAtSystem v0_foundAtWord v1_rules v1_ends v1_height v1_systemChanges v1_wordChanges v2_most o2.2 c3 c4 c6 c7 c8 c9 c10 c11 c12 c13 c7x) := by rw [e7]; exact hD
        refine lv_aload_n hx hb dX9_find_98 rfl (lv_at hl 1 rfl) ?_
        refine lv_dup hx hb dX9_find_99 rfl ?_
        refine va_get (D := (dC, dI)) (ci := 9) (v := .int v0_length) (C := RX9) (T := TX9) (N := 7) hx hb hts inlX9 hown hK hP 0 rfl rfl 3 (by decide) w2_ (fun _ h9 => h9) rfl dX9_find_100 ?_
        refine lv_iconst (v := 1) hx hb dX9_find_103 (by decide +kernel) ?_
        refine lv_iadd hx hb dX9_find_104 ?_
        refine lv_topi (fun x8 e8 => ?_)
        replace hf := nm_at hf e8
        refine va_put (D := (dC, dI)) (ci := 9) (v := .int x8) (ty := .int) (C := RX9) (T := TX9) (N := 7) hx hb hts inlX9 tyX9 tyX9_ok nmX9 hown hK hP hD hS 0 rfl rfl 3 (by decide) w2_ (fun _ h9 => h9) rfl (by decide +kernel) rfl rfl (Nat.le_of_ble_eq_true rfl) dX9_find_105 (fun H locs hP hD hS => ?_)
        have hP : va_P (dC, dI) vwCl (wX9_find h0 h1 h2 h3 h4 h5 h6 h7 h8 h9 h10 h11 h12 h13 h14 kc3 kc4 kc6 kc7 kc8 kc9 kc10 kc11 kc12 kc13 kc14 n3 n7 V1 V5 x8 v0_fromState v0_foundAtSystem v0_foundAtWord v1_rules v1_ends v1_height v1_systemChanges v1_wordChanges v2_most o2.2 c3 c4 c6 c7 c8 c9 c10 c11 c12 c13 c7x) H := hP
        have hD : va_D A (wX9_find h0 h1 h2 h3 h4 h5 h6 h7 h8 h9 h10 h11 h12 h13 h14 kc3 kc4 kc6 kc7 kc8 kc9 kc10 kc11 kc12 kc13 kc14 n3 n7 V1 V5 x8 v0_fromState v0_foundAtSystem v0_foundAtWord v1_rules v1_ends v1_height v1_systemChanges v1_wordChanges v2_most o2.2 c3 c4 c6 c7 c8 c9 c10 c11 c12 c13 c7x) := hD
        refine lv_aload_n hx hb dX9_find_108 rfl (lv_at hl 1 rfl) ?_
        refine va_get (D := (dC, dI)) (ci := 9) (v := .ref h1) (C := RX9) (T := TX9) (N := 7) hx hb hts inlX9 hown hK hP 0 rfl rfl 0 (by decide) w3_ (fun _ h9 => h9) rfl dX9_find_109 ?_
        refine va_get (D := (dC, dI)) (ci := 6) (v := .ref h10) (C := RX6) (T := TX6) (N := 14) hx hb hts inlX6 hown hK hP 1 rfl rfl 2 (by decide) w4_ (fun _ h9 => h9) rfl dX9_find_112 ?_
        refine lv_iload hx hb dX9_find_115 (lv_at hl 0 rfl) ?_
        have b9 := bd_in hf
        replace hf := bd_k hf
        refine va_iald hx hb hK hP 10 6 rfl rfl b9 dX9_find_117 ?_
        refine lv_topi (fun x10 e10 => ?_)
        replace hf := nm_at hf e10
        refine lv_istore_n (lv' := [(3, .int x10), (5, .int o5.1), (0, .ref h0), (2, .int y2), (4, .int y4)]) hx hb dX9_find_118 rfl hl (by decide) rfl (fun ls hl => ?_)
        refine lv_aload_n hx hb dX9_find_119 rfl (lv_at hl 2 rfl) ?_
        refine lv_iload hx hb dX9_find_120 (lv_at hl 1 rfl) ?_
        obtain ⟨o11, e11, hf⟩ := ob_some hf
        refine kVv (As := [.int o5.1]) (rest := []) ⟨hx, hb, hml, hown, hts⟩ (mX9_pileSigns l dC dI h0 h1 h11 h13 h2 h5 h6 h3 h7 h12 kc11 kc13 kc6 kc3 kc7 kc12 H.size base o5.1 n3 n7 c11 c13 v2_most o2.2 c6 c3 c7 c12 (fun k => match k with | 2 => .ref h14 | 3 => .int x8 | 4 => .int v0_fromState | 5 => .int v0_foundAtSystem | 6 => .int v0_foundAtWord | _ => .null) (fun k => match k with | 0 => .ref h8 | 1 => .ref h9 | 2 => .ref h10 | 6 => .int v1_rules | 8 => .int v1_ends | 9 => .ref h4 | 10 => .int v1_height | 11 => .int v1_systemChanges | 12 => .int v1_wordChanges | k => V1 k) V5 o11 e11) (cwV 1 hts (gTV q432 q433 q434 q383 q435) rfl rfl rfl (by decide +kernel) ⟨Nat.le_of_ble_eq_true rfl, Nat.le_of_ble_eq_true rfl⟩) hK hP hD hS hA hE hAB [0, 1, 11, 13, 2, 5, 6, 3, 7, 12] [4, 8, 9, 10, 14] [7, 9, 2, 0, 3, 8] (wr := [(h4, .inl (kc4, 30, .inl c4)), (h8, .inl (kc8, 48, .inl c8)), (h9, .inl (kc9, 48, .inl c9)), (h10, .inl (kc10, 48, .inl c10)), (h14, .inl (kc14, 2000, .inl c7x))]) rfl rfl (by decide) (by decide) (by decide) rfl (ci := 9) (q0 := 0) rfl rfl rfl rfl hl.1 rfl (Nat.le_of_ble_eq_true rfl) dX9_find_122 ⟨Nat.zero_le _, Nat.zero_le _⟩ (fun u11 H locs hw11 hP hD hS => ?_)
        have hw111 : o11 = u11 := Eq.symm hw11
        subst hw111
        have hP : va_P (dC, dI) vwCl (wX9_find h0 h1 h2 h3 h4 h5 h6 h7 h8 h9 h10 h11 h12 h13 h14 kc3 kc4 kc6 kc7 kc8 kc9 kc10 kc11 kc12 kc13 kc14 n3 n7 V1 V5 x8 v0_fromState v0_foundAtSystem v0_foundAtWord v1_rules v1_ends v1_height v1_systemChanges v1_wordChanges v2_most o11.1 o11.2.1 c4 c6 o11.2.2 c8 c9 c10 c11 c12 c13 c7x) H := hP.sub [5, 6, 9, 12, 0, 10, 11, 13, 1, 2, 3, 7, 14, 8, 4] rfl
        have hD : va_D A (wX9_find h0 h1 h2 h3 h4 h5 h6 h7 h8 h9 h10 h11 h12 h13 h14 kc3 kc4 kc6 kc7 kc8 kc9 kc10 kc11 kc12 kc13 kc14 n3 n7 V1 V5 x8 v0_fromState v0_foundAtSystem v0_foundAtWord v1_rules v1_ends v1_height v1_systemChanges v1_wordChanges v2_most o11.1 o11.2.1 c4 c6 o11.2.2 c8 c9 c10 c11 c12 c13 c7x) := hD.sub [5, 6, 9, 12, 0, 10, 11, 13, 1, 2, 3, 7, 14, 8, 4] (by decide) rfl
        obtain ⟨x12, e12⟩ : ∃ y : Int32, y = y4 + 1 := ⟨_, rfl⟩
        replace hf := nm_at hf e12
        refine lv_iinc (v := x12) (lv' := [(4, .int x12), (3, .int x10), (5, .int o5.1), (0, .ref h0), (2, .int y2)]) hx hb dX9_find_125 hl (k := 4) rfl (by rw [e12]; rfl) (by decide) rfl (fun ls hl => ?_)
        refine lv_goto (tgt := 56) hx hb dX9_find_128 (by decide) ?_
        exact (hG _ _ _ _ _).mp (hk56 y2 x10 x12 x8 v0_fromState v0_foundAtSystem v0_foundAtWord o11.1 o11.2.1 o11.2.2 c7x H locs ls (hP.sub [0, 1, 2, 3, 4, 5, 6, 7, 8, 9, 10, 11, 12, 13, 14] rfl) (hD.sub [0, 1, 2, 3, 4, 5, 6, 7, 8, 9, 10, 11, 12, 13, 14] (by decide) rfl) hS (lv_sub hl [3, 4, 1, 0] rfl) hf)
      · replace hf := if_at hf cq6
        have hf1 := Option.some.inj hf
        subst hf1
        have hP9 := hP.sub (ws' := (wX9_find h0 h1 h2 h3 h4 h5 h6 h7 h8 h9 h10 h11 h12 h13 h14 kc3 kc4 kc6 kc7 kc8 kc9 kc10 kc11 kc12 kc13 kc14 n3 n7 V1 V5 v0_length v0_fromState v0_foundAtSystem v0_foundAtWord v1_rules v1_ends v1_height v1_systemChanges v1_wordChanges v2_most o2.2 c3 c4 c6 c7 c8 c9 c10 c11 c12 c13 c14)) [0, 1, 2, 3, 4, 5, 6, 7, 8, 9, 10, 11, 12, 13, 14] rfl
        have hD9 := hD.sub (ws' := (wX9_find h0 h1 h2 h3 h4 h5 h6 h7 h8 h9 h10 h11 h12 h13 h14 kc3 kc4 kc6 kc7 kc8 kc9 kc10 kc11 kc12 kc13 kc14 n3 n7 V1 V5 v0_length v0_fromState v0_foundAtSystem v0_foundAtWord v1_rules v1_ends v1_height v1_systemChanges v1_wordChanges v2_most o2.2 c3 c4 c6 c7 c8 c9 c10 c11 c12 c13 c14)) [0, 1, 2, 3, 4, 5, 6, 7, 8, 9, 10, 11, 12, 13, 14] (by decide) rfl
        exact W.vret hx hb hr (fun t ht hW => ⟨⟨(v0_length, v0_fromState, v0_foundAtSystem, v0_foundAtWord, o2.2, c3, c7, c14), rfl, rfl, by rw [ht]; exact hP9, va_K.moved hW.alike hK, hD9⟩, hS.F ht⟩) hS.2.2 dX9_find_88
  have L56 : ∀ (n : Nat), ∀ (y2 : Int32) (y3 : Int32) (y4 : Int32) (v0_length : Int32) (v0_fromState : Int32) (v0_foundAtSystem : Int32) (v0_foundAtWord : Int32) (v2_height : Int32) (c3 : (Nat → Int32)) (c7 : (Nat → Int32)) (c14 : (Nat → Int32)) (H : Heap) (locs : List Loc) (ls : Array Slot), va_P (dC, dI) vwCl (wX9_find h0 h1 h2 h3 h4 h5 h6 h7 h8 h9 h10 h11 h12 h13 h14 kc3 kc4 kc6 kc7 kc8 kc9 kc10 kc11 kc12 kc13 kc14 n3 n7 V1 V5 v0_length v0_fromState v0_foundAtSystem v0_foundAtWord v1_rules v1_ends v1_height v1_systemChanges v1_wordChanges v2_most v2_height c3 c4 c6 c7 c8 c9 c10 c11 c12 c13 c14) H → va_D A (wX9_find h0 h1 h2 h3 h4 h5 h6 h7 h8 h9 h10 h11 h12 h13 h14 kc3 kc4 kc6 kc7 kc8 kc9 kc10 kc11 kc12 kc13 kc14 n3 n7 V1 V5 v0_length v0_fromState v0_foundAtSystem v0_foundAtWord v1_rules v1_ends v1_height v1_systemChanges v1_wordChanges v2_most v2_height c3 c4 c6 c7 c8 c9 c10 c11 c12 c13 c14) → va_S A s.heap H locs → lv_has ls 6 [(0, .ref h0), (2, .int y2), (3, .int y3), (4, .int y4)] → fX9_find_l56 n3 n7 v1_rules v1_ends v1_height v1_systemChanges v1_wordChanges v2_most c4 c6 c8 c9 c10 c11 c12 c13  n y2 y3 y4 v0_length v0_fromState v0_foundAtSystem v0_foundAtWord v2_height c3 c7 c14 = some o → G 0 0 H locs (F0 m 56 ls []) := by
    intro  n
    induction n with
    | zero => intro y2 y3 y4 v0_length v0_fromState v0_foundAtSystem v0_foundAtWord v2_height c3 c7 c14 H locs ls _ _ _ _ hf; cases hf
    | succ n ih => exact B56  _ ih
  refine (hG _ _ _ _ _).mpr ?_
  obtain ⟨H, hH⟩ : ∃ H, H = s.heap := ⟨_, rfl⟩
  have hS : va_S A s.heap H [] := by rw [hH]; exact hS
  rw [← hH] at hP ⊢
  generalize ([] : List Loc) = locs at hS ⊢
  unfold fX9_find at hf
  refine lv_aload_n hx hb dX9_find_0 rfl (lv_at hl 0 rfl) ?_
  refine lv_iload_n hx hb dX9_find_1 rfl (lv_at hl 1 rfl) ?_
  refine va_put (D := (dC, dI)) (ci := 9) (v := .int a0) (ty := .int) (C := RX9) (T := TX9) (N := 7) hx hb hts inlX9 tyX9 tyX9_ok nmX9 hown hK hP hD hS 0 rfl rfl 4 (by decide) w5_ (fun _ h9 => h9) rfl (by decide +kernel) rfl rfl (Nat.le_of_ble_eq_true rfl) dX9_find_2 (fun H locs hP hD hS => ?_)
  have hP : va_P (dC, dI) vwCl (wX9_find h0 h1 h2 h3 h4 h5 h6 h7 h8 h9 h10 h11 h12 h13 h14 kc3 kc4 kc6 kc7 kc8 kc9 kc10 kc11 kc12 kc13 kc14 n3 n7 V1 V5 v0_length a0 v0_foundAtSystem v0_foundAtWord v1_rules v1_ends v1_height v1_systemChanges v1_wordChanges v2_most v2_height c3 c4 c6 c7 c8 c9 c10 c11 c12 c13 c14) H := hP
  have hD : va_D A (wX9_find h0 h1 h2 h3 h4 h5 h6 h7 h8 h9 h10 h11 h12 h13 h14 kc3 kc4 kc6 kc7 kc8 kc9 kc10 kc11 kc12 kc13 kc14 n3 n7 V1 V5 v0_length a0 v0_foundAtSystem v0_foundAtWord v1_rules v1_ends v1_height v1_systemChanges v1_wordChanges v2_most v2_height c3 c4 c6 c7 c8 c9 c10 c11 c12 c13 c14) := hD
  refine lv_aload_n hx hb dX9_find_5 rfl (lv_at hl 0 rfl) ?_
  refine lv_aload_n hx hb dX9_find_6 rfl (lv_at hl 0 rfl) ?_
  refine va_get (D := (dC, dI)) (ci := 9) (v := .ref h1) (C := RX9) (T := TX9) (N := 7) hx hb hts inlX9 hown hK hP 0 rfl rfl 0 (by decide) w3_ (fun _ h9 => h9) rfl dX9_find_7 ?_
  refine va_get (D := (dC, dI)) (ci := 6) (v := .int v1_systemChanges) (C := RX6) (T := TX6) (N := 14) hx hb hts inlX6 hown hK hP 1 rfl rfl 11 (by decide) w6_ (fun _ h9 => h9) rfl dX9_find_10 ?_
  refine va_put (D := (dC, dI)) (ci := 9) (v := .int v1_systemChanges) (ty := .int) (C := RX9) (T := TX9) (N := 7) hx hb hts inlX9 tyX9 tyX9_ok nmX9 hown hK hP hD hS 0 rfl rfl 5 (by decide) w7_ (fun _ h9 => h9) rfl (by decide +kernel) rfl rfl (Nat.le_of_ble_eq_true rfl) dX9_find_13 (fun H locs hP hD hS => ?_)
  have hP : va_P (dC, dI) vwCl (wX9_find h0 h1 h2 h3 h4 h5 h6 h7 h8 h9 h10 h11 h12 h13 h14 kc3 kc4 kc6 kc7 kc8 kc9 kc10 kc11 kc12 kc13 kc14 n3 n7 V1 V5 v0_length a0 v1_systemChanges v0_foundAtWord v1_rules v1_ends v1_height v1_systemChanges v1_wordChanges v2_most v2_height c3 c4 c6 c7 c8 c9 c10 c11 c12 c13 c14) H := hP
  have hD : va_D A (wX9_find h0 h1 h2 h3 h4 h5 h6 h7 h8 h9 h10 h11 h12 h13 h14 kc3 kc4 kc6 kc7 kc8 kc9 kc10 kc11 kc12 kc13 kc14 n3 n7 V1 V5 v0_length a0 v1_systemChanges v0_foundAtWord v1_rules v1_ends v1_height v1_systemChanges v1_wordChanges v2_most v2_height c3 c4 c6 c7 c8 c9 c10 c11 c12 c13 c14) := hD
  refine lv_aload_n hx hb dX9_find_16 rfl (lv_at hl 0 rfl) ?_
  refine lv_aload_n hx hb dX9_find_17 rfl (lv_at hl 0 rfl) ?_
  refine va_get (D := (dC, dI)) (ci := 9) (v := .ref h1) (C := RX9) (T := TX9) (N := 7) hx hb hts inlX9 hown hK hP 0 rfl rfl 0 (by decide) w3_ (fun _ h9 => h9) rfl dX9_find_18 ?_
  refine va_get (D := (dC, dI)) (ci := 6) (v := .int v1_wordChanges) (C := RX6) (T := TX6) (N := 14) hx hb hts inlX6 hown hK hP 1 rfl rfl 12 (by decide) w8_ (fun _ h9 => h9) rfl dX9_find_21 ?_
  refine va_put (D := (dC, dI)) (ci := 9) (v := .int v1_wordChanges) (ty := .int) (C := RX9) (T := TX9) (N := 7) hx hb hts inlX9 tyX9 tyX9_ok nmX9 hown hK hP hD hS 0 rfl rfl 6 (by decide) w9_ (fun _ h9 => h9) rfl (by decide +kernel) rfl rfl (Nat.le_of_ble_eq_true rfl) dX9_find_24 (fun H locs hP hD hS => ?_)
  have hP : va_P (dC, dI) vwCl (wX9_find h0 h1 h2 h3 h4 h5 h6 h7 h8 h9 h10 h11 h12 h13 h14 kc3 kc4 kc6 kc7 kc8 kc9 kc10 kc11 kc12 kc13 kc14 n3 n7 V1 V5 v0_length a0 v1_systemChanges v1_wordChanges v1_rules v1_ends v1_height v1_systemChanges v1_wordChanges v2_most v2_height c3 c4 c6 c7 c8 c9 c10 c11 c12 c13 c14) H := hP
  have hD : va_D A (wX9_find h0 h1 h2 h3 h4 h5 h6 h7 h8 h9 h10 h11 h12 h13 h14 kc3 kc4 kc6 kc7 kc8 kc9 kc10 kc11 kc12 kc13 kc14 n3 n7 V1 V5 v0_length a0 v1_systemChanges v1_wordChanges v1_rules v1_ends v1_height v1_systemChanges v1_wordChanges v2_most v2_height c3 c4 c6 c7 c8 c9 c10 c11 c12 c13 c14) := hD
  refine lv_aload_n hx hb dX9_find_27 rfl (lv_at hl 0 rfl) ?_
  refine lv_iconst (v := 0) hx hb dX9_find_28 (by decide +kernel) ?_
  refine va_put (D := (dC, dI)) (ci := 9) (v := .int 0) (ty := .int) (C := RX9) (T := TX9) (N := 7) hx hb hts inlX9 tyX9 tyX9_ok nmX9 hown hK hP hD hS 0 rfl rfl 3 (by decide) w2_ (fun _ h9 => h9) rfl (by decide +kernel) rfl rfl (Nat.le_of_ble_eq_true rfl) dX9_find_29 (fun H locs hP hD hS => ?_)
  have hP : va_P (dC, dI) vwCl (wX9_find h0 h1 h2 h3 h4 h5 h6 h7 h8 h9 h10 h11 h12 h13 h14 kc3 kc4 kc6 kc7 kc8 kc9 kc10 kc11 kc12 kc13 kc14 n3 n7 V1 V5 0 a0 v1_systemChanges v1_wordChanges v1_rules v1_ends v1_height v1_systemChanges v1_wordChanges v2_most v2_height c3 c4 c6 c7 c8 c9 c10 c11 c12 c13 c14) H := hP
  have hD : va_D A (wX9_find h0 h1 h2 h3 h4 h5 h6 h7 h8 h9 h10 h11 h12 h13 h14 kc3 kc4 kc6 kc7 kc8 kc9 kc10 kc11 kc12 kc13 kc14 n3 n7 V1 V5 0 a0 v1_systemChanges v1_wordChanges v1_rules v1_ends v1_height v1_systemChanges v1_wordChanges v2_most v2_height c3 c4 c6 c7 c8 c9 c10 c11 c12 c13 c14) := hD
  refine lv_iload_n hx hb dX9_find_32 rfl (lv_at hl 2 rfl) ?_
  refine lv_sipush (v := 2000) hx hb dX9_find_33 (by decide +kernel) ?_
  refine lv_icmp_le (tgt := 40) hx hb dX9_find_36 (by decide) (fun cq13 => ?_) (fun cq13 => ?_)
  · replace hf := if_at hf cq13
    refine lv_aload_n hx hb dX9_find_40 rfl (lv_at hl 0 rfl) ?_
    refine va_get (D := (dC, dI)) (ci := 9) (v := .ref h2) (C := RX9) (T := TX9) (N := 7) hx hb hts inlX9 hown hK hP 0 rfl rfl 1 (by decide) w0_ (fun _ h9 => h9) rfl dX9_find_41 ?_
    refine lv_aload_n hx hb dX9_find_44 rfl (lv_at hl 0 rfl) ?_
    refine va_get (D := (dC, dI)) (ci := 9) (v := .ref h1) (C := RX9) (T := TX9) (N := 7) hx hb hts inlX9 hown hK hP 0 rfl rfl 0 (by decide) w3_ (fun _ h9 => h9) rfl dX9_find_45 ?_
    obtain ⟨o14, e14, hf⟩ := ob_some hf
    refine kVv (As := [.ref h1]) (rest := []) ⟨hx, hb, hml, hown, hts⟩ (mX7_buildWord l dC dI h2 h1 h3 h4 h5 h6 h7 kc3 kc4 kc6 kc7 H.size base n3 n7 v2_most v2_height v1_ends v1_height c3 c4 c6 c7 (fun k => match k with | 0 => .ref h8 | 1 => .ref h9 | 2 => .ref h10 | 3 => .ref h11 | 4 => .ref h12 | 5 => .ref h13 | 6 => .int v1_rules | 11 => .int v1_systemChanges | 12 => .int v1_wordChanges | k => V1 k) V5 o14 e14) (cwV 1 hts (gTV q411 q323 q324 q265 q325) rfl rfl rfl (by decide +kernel) ⟨Nat.le_of_ble_eq_true rfl, Nat.le_of_ble_eq_true rfl⟩) hK hP hD hS hA hE hAB [2, 1, 3, 4, 5, 6, 7] [0, 8, 9, 10, 11, 12, 13, 14] [0, 1, 2, 3] (wr := [(h0, .inr (9, [.ref h1, .ref h2, .ref h14, .int 0, .int a0, .int v1_systemChanges, .int v1_wordChanges])), (h8, .inl (kc8, 48, .inl c8)), (h9, .inl (kc9, 48, .inl c9)), (h10, .inl (kc10, 48, .inl c10)), (h11, .inl (kc11, 48, .inl c11)), (h12, .inl (kc12, 48, .inl c12)), (h13, .inl (kc13, 48, .inl c13)), (h14, .inl (kc14, 2000, .inl c14))]) rfl rfl (by decide) (by decide) (by decide) rfl (ci := 7) (q0 := 0) rfl rfl rfl rfl hl.1 rfl (Nat.le_of_ble_eq_true rfl) dX9_find_48 ⟨Nat.zero_le _, Nat.zero_le _⟩ (fun u14 H locs hw14 hP hD hS => ?_)
    have hw141 : o14 = u14 := Eq.symm hw14
    subst hw141
    have hP : va_P (dC, dI) vwCl (wX9_find h0 h1 h2 h3 h4 h5 h6 h7 h8 h9 h10 h11 h12 h13 h14 kc3 kc4 kc6 kc7 kc8 kc9 kc10 kc11 kc12 kc13 kc14 n3 n7 V1 V5 0 a0 v1_systemChanges v1_wordChanges v1_rules v1_ends v1_height v1_systemChanges v1_wordChanges v2_most o14.1 o14.2.1 c4 c6 o14.2.2 c8 c9 c10 c11 c12 c13 c14) H := hP.sub [0, 9, 8, 10, 11, 12, 13, 14, 1, 2, 3, 4, 5, 6, 7] rfl
    have hD : va_D A (wX9_find h0 h1 h2 h3 h4 h5 h6 h7 h8 h9 h10 h11 h12 h13 h14 kc3 kc4 kc6 kc7 kc8 kc9 kc10 kc11 kc12 kc13 kc14 n3 n7 V1 V5 0 a0 v1_systemChanges v1_wordChanges v1_rules v1_ends v1_height v1_systemChanges v1_wordChanges v2_most o14.1 o14.2.1 c4 c6 o14.2.2 c8 c9 c10 c11 c12 c13 c14) := hD.sub [0, 9, 8, 10, 11, 12, 13, 14, 1, 2, 3, 4, 5, 6, 7] (by decide) rfl
    refine lv_iload_n hx hb dX9_find_51 rfl (lv_at hl 1 rfl) ?_
    refine lv_istore_n (lv' := [(3, .int a0), (0, .ref h0), (1, .int a0), (2, .int a1)]) hx hb dX9_find_52 rfl hl (by decide) rfl (fun ls hl => ?_)
    refine lv_iconst (v := 0) hx hb dX9_find_53 (by decide +kernel) ?_
    refine lv_istore (lv' := [(4, .int 0), (3, .int a0), (0, .ref h0), (1, .int a0), (2, .int a1)]) hx hb dX9_find_54 hl (by decide) rfl (fun ls hl => ?_)
    exact (hG _ _ _ _ _).mp (L56 FU a1 a0 0 0 a0 v1_systemChanges v1_wordChanges o14.1 o14.2.1 o14.2.2 c14 H locs ls (hP.sub [0, 1, 2, 3, 4, 5, 6, 7, 8, 9, 10, 11, 12, 13, 14] rfl) (hD.sub [0, 1, 2, 3, 4, 5, 6, 7, 8, 9, 10, 11, 12, 13, 14] (by decide) rfl) hS (lv_sub hl [2, 4, 1, 0] rfl) hf)
  · replace hf := if_no hf cq13
    have hf1 := Option.some.inj hf
    subst hf1
    have hP9 := hP.sub (ws' := (wX9_find h0 h1 h2 h3 h4 h5 h6 h7 h8 h9 h10 h11 h12 h13 h14 kc3 kc4 kc6 kc7 kc8 kc9 kc10 kc11 kc12 kc13 kc14 n3 n7 V1 V5 0 a0 v1_systemChanges v1_wordChanges v1_rules v1_ends v1_height v1_systemChanges v1_wordChanges v2_most v2_height c3 c4 c6 c7 c8 c9 c10 c11 c12 c13 c14)) [0, 1, 2, 3, 4, 5, 6, 7, 8, 9, 10, 11, 12, 13, 14] rfl
    have hD9 := hD.sub (ws' := (wX9_find h0 h1 h2 h3 h4 h5 h6 h7 h8 h9 h10 h11 h12 h13 h14 kc3 kc4 kc6 kc7 kc8 kc9 kc10 kc11 kc12 kc13 kc14 n3 n7 V1 V5 0 a0 v1_systemChanges v1_wordChanges v1_rules v1_ends v1_height v1_systemChanges v1_wordChanges v2_most v2_height c3 c4 c6 c7 c8 c9 c10 c11 c12 c13 c14)) [0, 1, 2, 3, 4, 5, 6, 7, 8, 9, 10, 11, 12, 13, 14] (by decide) rfl
    exact W.vret hx hb hr (fun t ht hW => ⟨⟨(0, a0, v1_systemChanges, v1_wordChanges, v2_height, c3, c7, c14), rfl, rfl, by rw [ht]; exact hP9, va_K.moved hW.alike hK, hD9⟩, hS.F ht⟩) hS.2.2 dX9_find_39
abbrev wX9_isOf (h0 h1 : Nat) (V0 : Nat → Value) (V1 : Nat → Value) (v0_fromState : Int32) (v0_foundAtSystem : Int32) (v0_foundAtWord : Int32) (v1_systemChanges : Int32) (v1_wordChanges : Int32) : va_W := [(h0, .inr (9, [.ref h1, V0 1, V0 2, V0 3, .int v0_fromState, .int v0_foundAtSystem, .int v0_foundAtWord])), (h1, .inr (6, [V1 0, V1 1, V1 2, V1 3, V1 4, V1 5, V1 6, V1 7, V1 8, V1 9, V1 10, .int v1_systemChanges, .int v1_wordChanges, V1 13]))]
set_option maxHeartbeats 4000000 in
set_option maxRecDepth 100000 in
theorem mX9_isOf (l : Launch) (dC : Nat → ClassId) (dI : Nat → Nat → Nat) (h0 h1 : Nat) (sz : Nat) (base : Nat × Nat × Nat) (a0 : Int32) (v0_fromState : Int32) (v0_foundAtSystem : Int32) (v0_foundAtWord : Int32) (v1_systemChanges : Int32) (v1_wordChanges : Int32) (V0 : Nat → Value) (V1 : Nat → Value) (o : Int32 × Unit) (hf : fX9_isOf a0 v0_fromState v0_foundAtSystem v0_foundAtWord v1_systemChanges v1_wordChanges = some o) : Met l yX9_isOf (.code yX9_isOf cX9_isOf 2 (some .boolean) :: wsL_law) ({ frames := 0, cells := 0, slots := 0, locals := 0 }) (cPre (dC, dI) vwCl [.ref h0, .int a0] sz base (wX9_isOf h0 h1 V0 V1 v0_fromState v0_foundAtSystem v0_foundAtWord v1_systemChanges v1_wordChanges) []) (va_Qi (fun r u => r = o.1 ∧ u = o.2) (fun (u : Unit) t => cPost (dC, dI) vwCl (va_A (wX9_isOf h0 h1 V0 V1 v0_fromState v0_foundAtSystem v0_foundAtWord v1_systemChanges v1_wordChanges) sz) (wX9_isOf h0 h1 V0 V1 v0_fromState v0_foundAtSystem v0_foundAtWord v1_systemChanges v1_wordChanges) [] t) (va_A (wX9_isOf h0 h1 V0 V1 v0_fromState v0_foundAtSystem v0_foundAtWord v1_systemChanges v1_wordChanges) sz)) 0 0 (va_A (wX9_isOf h0 h1 V0 V1 v0_fromState v0_foundAtSystem v0_foundAtWord v1_systemChanges v1_wordChanges) sz) := by
  refine Met.ofW (cc := cX9_isOf) (maxL := 2) (ret := (some .boolean)) (by decide) rfl ?_
  intro p e s m args below meth c s₁ B hml hv
  obtain ⟨rfl, hsz, hP, hK, hD0, hE⟩ := hv
  have hx := B.exec
  have hb := B.bytes
  have hr := B.returns
  have hts : ∀ w ∈ wsL_law, _ := fun w h => atoms_spec (ws := .code yX9_isOf cX9_isOf 2 (some .boolean) :: wsL_law) B.pre w (List.mem_cons_of_mem _ h)
  have hown : s.vm.findClass RX9 = some m.cls := findClass_of_methodNamed B.named
  have hlocks := B.notSynchronized
  have w0_ := hts _ q385
  have w1_ := hts _ q386
  have w2_ := hts _ q387
  have w3_ := hts _ q388
  have w4_ := hts _ q389
  have w5_ := hts _ q390
  subst hsz
  have hD := hD0.self (sz := s.heap.size)
  generalize hAe : va_A (wX9_isOf h0 h1 V0 V1 v0_fromState v0_foundAtSystem v0_foundAtWord v1_systemChanges v1_wordChanges) s.heap.size = A at hD ⊢
  have hA : ∀ q : Nat, s.heap.size ≤ q → A q := fun q h => by rw [← hAe]; exact Or.inr h
  have hAB : ∀ q : Nat, A q → base.1 ≤ q := fun q h => by rw [← hAe] at h; exact h.elim (fun ⟨k, e, hk⟩ => hD0.2 k _ hk) (fun hk => Nat.le_trans hE.1 hk)
  have hS : va_S A s.heap s.heap [] := va_S.rf
  have hl := lv_entry ([.ref h0, .int a0]) (n := 2) (Nat.le_of_ble_eq_true rfl)
  rw [lg_entry_eq]
  generalize (lg_sl ([.ref h0, .int a0]) ++ List.replicate (2 - (lg_sl ([.ref h0, .int a0])).length) Slot.unset).toArray = ls at hl ⊢
  have hl : lv_has ls 2 [(0, .ref h0), (1, .int a0)] := hl
  have hP : va_P (dC, dI) vwCl (wX9_isOf h0 h1 V0 V1 v0_fromState v0_foundAtSystem v0_foundAtWord v1_systemChanges v1_wordChanges) s.heap := hP
  refine gl_intro (fun G hG => ?_)
  have J41 : ∀ (z0 : Int32) (H : Heap) (locs : List Loc) (ls : Array Slot), va_P (dC, dI) vwCl (wX9_isOf h0 h1 V0 V1 v0_fromState v0_foundAtSystem v0_foundAtWord v1_systemChanges v1_wordChanges) H → va_D A (wX9_isOf h0 h1 V0 V1 v0_fromState v0_foundAtSystem v0_foundAtWord v1_systemChanges v1_wordChanges) → va_S A s.heap H locs → lv_has ls 2 [(0, .ref h0)] → fX9_isOf_p41 v0_fromState v0_foundAtSystem v0_foundAtWord v1_systemChanges v1_wordChanges  z0 = some o → G 0 0 H locs (F0 m 41 ls [.int z0]) := by
    intro  z0 H locs ls hP hD hS hl hf
    refine (hG _ _ _ _ _).mpr ?_
    unfold fX9_isOf_p41 at hf
    have b1 := bd_b hf
    replace hf := bd_k hf
    have hf1 := Option.some.inj hf
    subst hf1
    have hP9 := hP.sub (ws' := (wX9_isOf h0 h1 V0 V1 v0_fromState v0_foundAtSystem v0_foundAtWord v1_systemChanges v1_wordChanges)) [0, 1] rfl
    have hD9 := hD.sub (ws' := (wX9_isOf h0 h1 V0 V1 v0_fromState v0_foundAtSystem v0_foundAtWord v1_systemChanges v1_wordChanges)) [0, 1] (by decide) rfl
    exact W.zret (v := z0) (ty := .boolean) hx hb hr (bz_nar b1) (fun t ht hW => ⟨⟨z0, (), rfl, ⟨rfl, rfl⟩, by rw [ht]; exact hP9, va_K.moved hW.alike hK, hD9⟩, hS.F ht⟩) hS.2.2 dX9_isOf_41
  have J40 : ∀ (H : Heap) (locs : List Loc) (ls : Array Slot), va_P (dC, dI) vwCl (wX9_isOf h0 h1 V0 V1 v0_fromState v0_foundAtSystem v0_foundAtWord v1_systemChanges v1_wordChanges) H → va_D A (wX9_isOf h0 h1 V0 V1 v0_fromState v0_foundAtSystem v0_foundAtWord v1_systemChanges v1_wordChanges) → va_S A s.heap H locs → lv_has ls 2 [(0, .ref h0)] → fX9_isOf_p40 v0_fromState v0_foundAtSystem v0_foundAtWord v1_systemChanges v1_wordChanges   = some o → G 0 0 H locs (F0 m 40 ls []) := by
    intro   H locs ls hP hD hS hl hf
    refine (hG _ _ _ _ _).mpr ?_
    unfold fX9_isOf_p40 at hf
    refine lv_iconst (v := 0) hx hb dX9_isOf_40 (by decide +kernel) ?_
    exact (hG _ _ _ _ _).mp (J41 0 H locs ls (hP.sub [0, 1] rfl) (hD.sub [0, 1] (by decide) rfl) hS (lv_sub hl [0] rfl) hf)
  refine (hG _ _ _ _ _).mpr ?_
  obtain ⟨H, hH⟩ : ∃ H, H = s.heap := ⟨_, rfl⟩
  have hS : va_S A s.heap H [] := by rw [hH]; exact hS
  rw [← hH] at hP ⊢
  generalize ([] : List Loc) = locs at hS ⊢
  unfold fX9_isOf at hf
  refine lv_aload_n hx hb dX9_isOf_0 rfl (lv_at hl 0 rfl) ?_
  refine va_get (D := (dC, dI)) (ci := 9) (v := .int v0_fromState) (C := RX9) (T := TX9) (N := 7) hx hb hts inlX9 hown hK hP 0 rfl rfl 4 (by decide) w0_ (fun _ h9 => h9) rfl dX9_isOf_1 ?_
  refine lv_iload_n hx hb dX9_isOf_4 rfl (lv_at hl 1 rfl) ?_
  refine lv_icmp_ne (tgt := 40) hx hb dX9_isOf_5 (by decide) (fun cq2 => ?_) (fun cq2 => ?_)
  · replace hf := if_no hf cq2
    exact (hG _ _ _ _ _).mp (J40 H locs ls (hP.sub [0, 1] rfl) (hD.sub [0, 1] (by decide) rfl) hS (lv_sub hl [0] rfl) hf)
  · replace hf := if_at hf cq2
    refine lv_aload_n hx hb dX9_isOf_8 rfl (lv_at hl 0 rfl) ?_
    refine va_get (D := (dC, dI)) (ci := 9) (v := .int v0_foundAtSystem) (C := RX9) (T := TX9) (N := 7) hx hb hts inlX9 hown hK hP 0 rfl rfl 5 (by decide) w1_ (fun _ h9 => h9) rfl dX9_isOf_9 ?_
    refine lv_aload_n hx hb dX9_isOf_12 rfl (lv_at hl 0 rfl) ?_
    refine va_get (D := (dC, dI)) (ci := 9) (v := .ref h1) (C := RX9) (T := TX9) (N := 7) hx hb hts inlX9 hown hK hP 0 rfl rfl 0 (by decide) w2_ (fun _ h9 => h9) rfl dX9_isOf_13 ?_
    refine va_get (D := (dC, dI)) (ci := 6) (v := .int v1_systemChanges) (C := RX6) (T := TX6) (N := 14) hx hb hts inlX6 hown hK hP 1 rfl rfl 11 (by decide) w3_ (fun _ h9 => h9) rfl dX9_isOf_16 ?_
    refine lv_icmp_ne (tgt := 40) hx hb dX9_isOf_19 (by decide) (fun cq3 => ?_) (fun cq3 => ?_)
    · replace hf := if_no hf cq3
      exact (hG _ _ _ _ _).mp (J40 H locs ls (hP.sub [0, 1] rfl) (hD.sub [0, 1] (by decide) rfl) hS (lv_sub hl [0] rfl) hf)
    · replace hf := if_at hf cq3
      refine lv_aload_n hx hb dX9_isOf_22 rfl (lv_at hl 0 rfl) ?_
      refine va_get (D := (dC, dI)) (ci := 9) (v := .int v0_foundAtWord) (C := RX9) (T := TX9) (N := 7) hx hb hts inlX9 hown hK hP 0 rfl rfl 6 (by decide) w4_ (fun _ h9 => h9) rfl dX9_isOf_23 ?_
      refine lv_aload_n hx hb dX9_isOf_26 rfl (lv_at hl 0 rfl) ?_
      refine va_get (D := (dC, dI)) (ci := 9) (v := .ref h1) (C := RX9) (T := TX9) (N := 7) hx hb hts inlX9 hown hK hP 0 rfl rfl 0 (by decide) w2_ (fun _ h9 => h9) rfl dX9_isOf_27 ?_
      refine va_get (D := (dC, dI)) (ci := 6) (v := .int v1_wordChanges) (C := RX6) (T := TX6) (N := 14) hx hb hts inlX6 hown hK hP 1 rfl rfl 12 (by decide) w5_ (fun _ h9 => h9) rfl dX9_isOf_30 ?_
      refine lv_icmp_ne (tgt := 40) hx hb dX9_isOf_33 (by decide) (fun cq4 => ?_) (fun cq4 => ?_)
      · replace hf := if_no hf cq4
        exact (hG _ _ _ _ _).mp (J40 H locs ls (hP.sub [0, 1] rfl) (hD.sub [0, 1] (by decide) rfl) hS (lv_sub hl [0] rfl) hf)
      · replace hf := if_at hf cq4
        refine lv_iconst (v := 1) hx hb dX9_isOf_36 (by decide +kernel) ?_
        refine lv_goto (tgt := 41) hx hb dX9_isOf_37 (by decide) ?_
        exact (hG _ _ _ _ _).mp (J41 1 H locs ls (hP.sub [0, 1] rfl) (hD.sub [0, 1] (by decide) rfl) hS (lv_sub hl [0] rfl) hf)
abbrev wX9_ruleAt (h0 h1 : Nat) (kc1 : ClassId) (V0 : Nat → Value) (v0_length : Int32) (c1 : Nat → Int32) : va_W := [(h0, .inr (9, [V0 0, V0 1, .ref h1, .int v0_length, V0 4, V0 5, V0 6])), (h1, .inl (kc1, 2000, .inl c1))]
set_option maxHeartbeats 4000000 in
set_option maxRecDepth 100000 in
theorem mX9_ruleAt (l : Launch) (dC : Nat → ClassId) (dI : Nat → Nat → Nat) (h0 h1 : Nat) (kc1 : ClassId) (sz : Nat) (base : Nat × Nat × Nat) (a0 : Int32) (v0_length : Int32) (c1 : Nat → Int32) (V0 : Nat → Value) (o : Int32 × Unit) (hf : fX9_ruleAt a0 v0_length c1 = some o) : Met l yX9_ruleAt (.code yX9_ruleAt cX9_ruleAt 2 (some .int) :: wsL_law) ({ frames := 0, cells := 0, slots := 0, locals := 0 }) (cPre (dC, dI) vwCl [.ref h0, .int a0] sz base (wX9_ruleAt h0 h1 kc1 V0 v0_length c1) [(kc1, .int)]) (va_Qi (fun r u => r = o.1 ∧ u = o.2) (fun (u : Unit) t => cPost (dC, dI) vwCl (va_A (wX9_ruleAt h0 h1 kc1 V0 v0_length c1) sz) (wX9_ruleAt h0 h1 kc1 V0 v0_length c1) [(kc1, .int)] t) (va_A (wX9_ruleAt h0 h1 kc1 V0 v0_length c1) sz)) 0 0 (va_A (wX9_ruleAt h0 h1 kc1 V0 v0_length c1) sz) := by
  refine Met.ofW (cc := cX9_ruleAt) (maxL := 2) (ret := (some .int)) (by decide) rfl ?_
  intro p e s m args below meth c s₁ B hml hv
  obtain ⟨rfl, hsz, hP, hK, hD0, hE⟩ := hv
  have hx := B.exec
  have hb := B.bytes
  have hr := B.returns
  have hts : ∀ w ∈ wsL_law, _ := fun w h => atoms_spec (ws := .code yX9_ruleAt cX9_ruleAt 2 (some .int) :: wsL_law) B.pre w (List.mem_cons_of_mem _ h)
  have hown : s.vm.findClass RX9 = some m.cls := findClass_of_methodNamed B.named
  have hlocks := B.notSynchronized
  have w0_ := hts _ q409
  have w1_ := hts _ q401
  subst hsz
  have hD := hD0.self (sz := s.heap.size)
  generalize hAe : va_A (wX9_ruleAt h0 h1 kc1 V0 v0_length c1) s.heap.size = A at hD ⊢
  have hA : ∀ q : Nat, s.heap.size ≤ q → A q := fun q h => by rw [← hAe]; exact Or.inr h
  have hAB : ∀ q : Nat, A q → base.1 ≤ q := fun q h => by rw [← hAe] at h; exact h.elim (fun ⟨k, e, hk⟩ => hD0.2 k _ hk) (fun hk => Nat.le_trans hE.1 hk)
  have hS : va_S A s.heap s.heap [] := va_S.rf
  have hl := lv_entry ([.ref h0, .int a0]) (n := 2) (Nat.le_of_ble_eq_true rfl)
  rw [lg_entry_eq]
  generalize (lg_sl ([.ref h0, .int a0]) ++ List.replicate (2 - (lg_sl ([.ref h0, .int a0])).length) Slot.unset).toArray = ls at hl ⊢
  have hl : lv_has ls 2 [(0, .ref h0), (1, .int a0)] := hl
  have hP : va_P (dC, dI) vwCl (wX9_ruleAt h0 h1 kc1 V0 v0_length c1) s.heap := hP
  refine gl_intro (fun G hG => ?_)
  have J22 : ∀ (z0 : Int32) (H : Heap) (locs : List Loc) (ls : Array Slot), va_P (dC, dI) vwCl (wX9_ruleAt h0 h1 kc1 V0 v0_length c1) H → va_D A (wX9_ruleAt h0 h1 kc1 V0 v0_length c1) → va_S A s.heap H locs → lv_has ls 2 [(0, .ref h0)] → fX9_ruleAt_p22 v0_length c1  z0 = some o → G 0 0 H locs (F0 m 22 ls [.int z0]) := by
    intro  z0 H locs ls hP hD hS hl hf
    refine (hG _ _ _ _ _).mpr ?_
    unfold fX9_ruleAt_p22 at hf
    have hf1 := Option.some.inj hf
    subst hf1
    have hP9 := hP.sub (ws' := (wX9_ruleAt h0 h1 kc1 V0 v0_length c1)) [0, 1] rfl
    have hD9 := hD.sub (ws' := (wX9_ruleAt h0 h1 kc1 V0 v0_length c1)) [0, 1] (by decide) rfl
    exact W.iret (v := z0) hx hb hr (fun t ht hW => ⟨⟨z0, (), rfl, ⟨rfl, rfl⟩, by rw [ht]; exact hP9, va_K.moved hW.alike hK, hD9⟩, hS.F ht⟩) hS.2.2 dX9_ruleAt_22
  have J21 : ∀ (H : Heap) (locs : List Loc) (ls : Array Slot), va_P (dC, dI) vwCl (wX9_ruleAt h0 h1 kc1 V0 v0_length c1) H → va_D A (wX9_ruleAt h0 h1 kc1 V0 v0_length c1) → va_S A s.heap H locs → lv_has ls 2 [(0, .ref h0)] → fX9_ruleAt_p21 v0_length c1   = some o → G 0 0 H locs (F0 m 21 ls []) := by
    intro   H locs ls hP hD hS hl hf
    refine (hG _ _ _ _ _).mpr ?_
    unfold fX9_ruleAt_p21 at hf
    refine lv_iconst (v := (-1)) hx hb dX9_ruleAt_21 (by decide +kernel) ?_
    exact (hG _ _ _ _ _).mp (J22 (-1) H locs ls (hP.sub [0, 1] rfl) (hD.sub [0, 1] (by decide) rfl) hS (lv_sub hl [0] rfl) hf)
  refine (hG _ _ _ _ _).mpr ?_
  obtain ⟨H, hH⟩ : ∃ H, H = s.heap := ⟨_, rfl⟩
  have hS : va_S A s.heap H [] := by rw [hH]; exact hS
  rw [← hH] at hP ⊢
  generalize ([] : List Loc) = locs at hS ⊢
  unfold fX9_ruleAt at hf
  refine lv_iload_n hx hb dX9_ruleAt_0 rfl (lv_at hl 1 rfl) ?_
  refine lv_if_lt (tgt := 21) hx hb dX9_ruleAt_1 (by decide) (fun cq1 => ?_) (fun cq1 => ?_)
  · replace hf := if_at hf cq1
    exact (hG _ _ _ _ _).mp (J21 H locs ls (hP.sub [0, 1] rfl) (hD.sub [0, 1] (by decide) rfl) hS (lv_sub hl [0] rfl) hf)
  · replace hf := if_no hf cq1
    refine lv_iload_n hx hb dX9_ruleAt_4 rfl (lv_at hl 1 rfl) ?_
    refine lv_aload_n hx hb dX9_ruleAt_5 rfl (lv_at hl 0 rfl) ?_
    refine va_get (D := (dC, dI)) (ci := 9) (v := .int v0_length) (C := RX9) (T := TX9) (N := 7) hx hb hts inlX9 hown hK hP 0 rfl rfl 3 (by decide) w0_ (fun _ h9 => h9) rfl dX9_ruleAt_6 ?_
    refine lv_icmp_ge (tgt := 21) hx hb dX9_ruleAt_9 (by decide) (fun cq2 => ?_) (fun cq2 => ?_)
    · replace hf := if_at hf cq2
      exact (hG _ _ _ _ _).mp (J21 H locs ls (hP.sub [0, 1] rfl) (hD.sub [0, 1] (by decide) rfl) hS (lv_sub hl [0] rfl) hf)
    · replace hf := if_no hf cq2
      refine lv_aload_n hx hb dX9_ruleAt_12 rfl (lv_at hl 0 rfl) ?_
      refine va_get (D := (dC, dI)) (ci := 9) (v := .ref h1) (C := RX9) (T := TX9) (N := 7) hx hb hts inlX9 hown hK hP 0 rfl rfl 2 (by decide) w1_ (fun _ h9 => h9) rfl dX9_ruleAt_13 ?_
      refine lv_iload_n hx hb dX9_ruleAt_16 rfl (lv_at hl 1 rfl) ?_
      have b3 := bd_in hf
      replace hf := bd_k hf
      refine va_iald hx hb hK hP 1 0 rfl rfl b3 dX9_ruleAt_17 ?_
      refine lv_topi (fun x4 e4 => ?_)
      replace hf := nm_at hf e4
      refine lv_goto (tgt := 22) hx hb dX9_ruleAt_18 (by decide) ?_
      exact (hG _ _ _ _ _).mp (J22 x4 H locs ls (hP.sub [0, 1] rfl) (hD.sub [0, 1] (by decide) rfl) hS (lv_sub hl [0] rfl) hf)
